/-! the checks (by program) -/
set_option maxRecDepth 100000 in
theorem o_0 : okK 152 K_0 := okK_of (C := C_152) (fuel := 3000) rfl (A := A_152) Q_152 (ann := []) (spl := [(0, [(129, 76)])]) (mo := []) (by decide) (by decide +kernel)
set_option maxRecDepth 100000 in
theorem o_1 : okK 0 K_1 := okK_of (C := C_0) (fuel := 3000) rfl (A := A_0) Q_0 (ann := []) (spl := []) (mo := []) (by decide) (by decide +kernel)
set_option maxRecDepth 100000 in
theorem o_2 : okK 153 K_2 := okK_of (C := C_153) (fuel := 3000) rfl (A := A_153) Q_153 (ann := []) (spl := []) (mo := []) (by decide) (by decide +kernel)
set_option maxRecDepth 100000 in
theorem o_3 : okK 1 K_3 := okK_of (C := C_1) (fuel := 3000) rfl (A := A_1) Q_1 (ann := []) (spl := []) (mo := []) (by decide) (by decide +kernel)
def N_4 : aAnn := [(2, [(([(3, 10, 0, 0, 0, 1), (3, 20, 0, 0, 0, 2), (0, 0, 6, 0, 0, 0)], [], []), (6, [(-1, 3)]))])]
set_option maxRecDepth 100000 in
theorem o_4 : okK 48 K_4 := okK_of (C := C_48) (fuel := 3000) rfl (A := A_48) Q_48 (ann := N_4) (spl := []) (mo := []) (by decide) (by decide +kernel)
def N_5 : aAnn := [(2, [(([(3, 11, 0, 0, 0, 1), (3, 21, 0, 0, 0, 2), (0, 0, 36, 0, 0, 0)], [], []), (36, [(-1, 3)]))])]
set_option maxRecDepth 100000 in
theorem o_5 : okK 48 K_5 := okK_of (C := C_48) (fuel := 3000) rfl (A := A_48) Q_48 (ann := N_5) (spl := []) (mo := []) (by decide) (by decide +kernel)
def N_6 : aAnn := [(2, [(([(3, 12, 0, 0, 0, 1), (3, 22, 0, 0, 0, 2), (0, 0, 10, 0, 0, 0)], [], []), (10, [(-1, 3)]))])]
set_option maxRecDepth 100000 in
theorem o_6 : okK 48 K_6 := okK_of (C := C_48) (fuel := 3000) rfl (A := A_48) Q_48 (ann := N_6) (spl := []) (mo := []) (by decide) (by decide +kernel)
def N_7 : aAnn := [(2, [(([(3, 13, 0, 0, 0, 1), (3, 23, 0, 0, 0, 2), (0, 0, 10, 0, 0, 0)], [], []), (10, [(-1, 3)]))])]
set_option maxRecDepth 100000 in
theorem o_7 : okK 48 K_7 := okK_of (C := C_48) (fuel := 3000) rfl (A := A_48) Q_48 (ann := N_7) (spl := []) (mo := []) (by decide) (by decide +kernel)
def N_8 : aAnn := [(2, [(([(3, 14, 0, 0, 0, 1), (3, 24, 0, 0, 0, 2), (0, 0, 10, 0, 0, 0)], [], []), (10, [(-1, 3)]))])]
set_option maxRecDepth 100000 in
theorem o_8 : okK 48 K_8 := okK_of (C := C_48) (fuel := 3000) rfl (A := A_48) Q_48 (ann := N_8) (spl := []) (mo := []) (by decide) (by decide +kernel)
def N_9 : aAnn := [(2, [(([(3, 15, 0, 0, 0, 1), (3, 25, 0, 0, 0, 2), (0, 0, 10, 0, 0, 0)], [], []), (10, [(-1, 3)]))])]
set_option maxRecDepth 100000 in
theorem o_9 : okK 48 K_9 := okK_of (C := C_48) (fuel := 3000) rfl (A := A_48) Q_48 (ann := N_9) (spl := []) (mo := []) (by decide) (by decide +kernel)
def N_10 : aAnn := [(2, [(([(3, 16, 0, 0, 0, 1), (3, 26, 0, 0, 0, 2), (0, 0, 8, 0, 0, 0)], [], []), (8, [(-1, 3)]))])]
set_option maxRecDepth 100000 in
theorem o_10 : okK 48 K_10 := okK_of (C := C_48) (fuel := 3000) rfl (A := A_48) Q_48 (ann := N_10) (spl := []) (mo := []) (by decide) (by decide +kernel)
def N_11 : aAnn := [(2, [(([(3, 17, 0, 0, 0, 1), (3, 27, 0, 0, 0, 2), (0, 0, 10, 0, 0, 0)], [], []), (10, [(-1, 3)]))])]
set_option maxRecDepth 100000 in
theorem o_11 : okK 48 K_11 := okK_of (C := C_48) (fuel := 3000) rfl (A := A_48) Q_48 (ann := N_11) (spl := []) (mo := []) (by decide) (by decide +kernel)
def N_12 : aAnn := [(2, [(([(3, 18, 0, 0, 0, 1), (3, 28, 0, 0, 0, 2), (0, 0, 10, 0, 0, 0)], [], []), (10, [(-1, 3)]))])]
set_option maxRecDepth 100000 in
theorem o_12 : okK 48 K_12 := okK_of (C := C_48) (fuel := 3000) rfl (A := A_48) Q_48 (ann := N_12) (spl := []) (mo := []) (by decide) (by decide +kernel)
set_option maxRecDepth 100000 in
theorem o_13 : okK 62 K_13 := okK_of (C := C_62) (fuel := 3000) rfl (A := A_62) Q_62 (ann := []) (spl := []) (mo := []) (by decide) (by decide +kernel)
set_option maxRecDepth 100000 in
theorem o_14 : okK 132 K_14 := okK_of (C := C_132) (fuel := 3000) rfl (A := A_132) Q_132 (ann := []) (spl := []) (mo := []) (by decide) (by decide +kernel)
set_option maxRecDepth 100000 in
theorem o_15 : okK 133 K_15 := okK_of (C := C_133) (fuel := 3000) rfl (A := A_133) Q_133 (ann := []) (spl := []) (mo := []) (by decide) (by decide +kernel)
set_option maxRecDepth 100000 in
theorem o_16 : okK 138 K_16 := okK_of (C := C_138) (fuel := 3000) rfl (A := A_138) Q_138 (ann := []) (spl := []) (mo := []) (by decide) (by decide +kernel)
set_option maxRecDepth 100000 in
theorem o_17 : okK 135 K_17 := okK_of (C := C_135) (fuel := 3000) rfl (A := A_135) Q_135 (ann := []) (spl := []) (mo := []) (by decide) (by decide +kernel)
set_option maxRecDepth 100000 in
theorem o_18 : okK 135 K_18 := okK_of (C := C_135) (fuel := 3000) rfl (A := A_135) Q_135 (ann := []) (spl := []) (mo := []) (by decide) (by decide +kernel)
set_option maxRecDepth 100000 in
theorem o_19 : okK 141 K_19 := okK_of (C := C_141) (fuel := 3000) rfl (A := A_141) Q_141 (ann := []) (spl := []) (mo := []) (by decide) (by decide +kernel)
set_option maxRecDepth 100000 in
theorem o_20 : okK 141 K_20 := okK_of (C := C_141) (fuel := 3000) rfl (A := A_141) Q_141 (ann := []) (spl := []) (mo := []) (by decide) (by decide +kernel)
set_option maxRecDepth 100000 in
theorem o_21 : okK 139 K_21 := okK_of (C := C_139) (fuel := 3000) rfl (A := A_139) Q_139 (ann := []) (spl := []) (mo := []) (by decide) (by decide +kernel)
set_option maxRecDepth 100000 in
theorem o_22 : okK 133 K_22 := okK_of (C := C_133) (fuel := 3000) rfl (A := A_133) Q_133 (ann := []) (spl := []) (mo := []) (by decide) (by decide +kernel)
set_option maxRecDepth 100000 in
theorem o_23 : okK 138 K_23 := okK_of (C := C_138) (fuel := 3000) rfl (A := A_138) Q_138 (ann := []) (spl := []) (mo := []) (by decide) (by decide +kernel)
set_option maxRecDepth 100000 in
theorem o_24 : okK 133 K_24 := okK_of (C := C_133) (fuel := 3000) rfl (A := A_133) Q_133 (ann := []) (spl := []) (mo := []) (by decide) (by decide +kernel)
set_option maxRecDepth 100000 in
theorem o_25 : okK 138 K_25 := okK_of (C := C_138) (fuel := 3000) rfl (A := A_138) Q_138 (ann := []) (spl := []) (mo := []) (by decide) (by decide +kernel)
set_option maxRecDepth 100000 in
theorem o_26 : okK 135 K_26 := okK_of (C := C_135) (fuel := 3000) rfl (A := A_135) Q_135 (ann := []) (spl := []) (mo := []) (by decide) (by decide +kernel)
set_option maxRecDepth 100000 in
theorem o_27 : okK 133 K_27 := okK_of (C := C_133) (fuel := 3000) rfl (A := A_133) Q_133 (ann := []) (spl := []) (mo := []) (by decide) (by decide +kernel)
set_option maxRecDepth 100000 in
theorem o_28 : okK 135 K_28 := okK_of (C := C_135) (fuel := 3000) rfl (A := A_135) Q_135 (ann := []) (spl := []) (mo := []) (by decide) (by decide +kernel)
set_option maxRecDepth 100000 in
theorem o_29 : okK 141 K_29 := okK_of (C := C_141) (fuel := 3000) rfl (A := A_141) Q_141 (ann := []) (spl := []) (mo := []) (by decide) (by decide +kernel)
set_option maxRecDepth 100000 in
theorem o_30 : okK 141 K_30 := okK_of (C := C_141) (fuel := 3000) rfl (A := A_141) Q_141 (ann := []) (spl := []) (mo := []) (by decide) (by decide +kernel)
set_option maxRecDepth 100000 in
theorem o_31 : okK 139 K_31 := okK_of (C := C_139) (fuel := 3000) rfl (A := A_139) Q_139 (ann := []) (spl := []) (mo := []) (by decide) (by decide +kernel)
set_option maxRecDepth 100000 in
theorem o_32 : okK 135 K_32 := okK_of (C := C_135) (fuel := 3000) rfl (A := A_135) Q_135 (ann := []) (spl := []) (mo := []) (by decide) (by decide +kernel)
set_option maxRecDepth 100000 in
theorem o_33 : okK 135 K_33 := okK_of (C := C_135) (fuel := 3000) rfl (A := A_135) Q_135 (ann := []) (spl := []) (mo := []) (by decide) (by decide +kernel)
set_option maxRecDepth 100000 in
theorem o_34 : okK 142 K_34 := okK_of (C := C_142) (fuel := 3000) rfl (A := A_142) Q_142 (ann := []) (spl := []) (mo := []) (by decide) (by decide +kernel)
set_option maxRecDepth 100000 in
theorem o_35 : okK 135 K_35 := okK_of (C := C_135) (fuel := 3000) rfl (A := A_135) Q_135 (ann := []) (spl := []) (mo := []) (by decide) (by decide +kernel)
set_option maxRecDepth 100000 in
theorem o_36 : okK 137 K_36 := okK_of (C := C_137) (fuel := 3000) rfl (A := A_137) Q_137 (ann := []) (spl := []) (mo := []) (by decide) (by decide +kernel)
set_option maxRecDepth 100000 in
theorem o_37 : okK 141 K_37 := okK_of (C := C_141) (fuel := 3000) rfl (A := A_141) Q_141 (ann := []) (spl := []) (mo := []) (by decide) (by decide +kernel)
set_option maxRecDepth 100000 in
theorem o_38 : okK 139 K_38 := okK_of (C := C_139) (fuel := 3000) rfl (A := A_139) Q_139 (ann := []) (spl := []) (mo := []) (by decide) (by decide +kernel)
set_option maxRecDepth 100000 in
theorem o_39 : okK 137 K_39 := okK_of (C := C_137) (fuel := 3000) rfl (A := A_137) Q_137 (ann := []) (spl := []) (mo := []) (by decide) (by decide +kernel)
set_option maxRecDepth 100000 in
theorem o_40 : okK 141 K_40 := okK_of (C := C_141) (fuel := 3000) rfl (A := A_141) Q_141 (ann := []) (spl := []) (mo := []) (by decide) (by decide +kernel)
set_option maxRecDepth 100000 in
theorem o_41 : okK 139 K_41 := okK_of (C := C_139) (fuel := 3000) rfl (A := A_139) Q_139 (ann := []) (spl := []) (mo := []) (by decide) (by decide +kernel)
set_option maxRecDepth 100000 in
theorem o_42 : okK 135 K_42 := okK_of (C := C_135) (fuel := 3000) rfl (A := A_135) Q_135 (ann := []) (spl := []) (mo := []) (by decide) (by decide +kernel)
set_option maxRecDepth 100000 in
theorem o_43 : okK 137 K_43 := okK_of (C := C_137) (fuel := 3000) rfl (A := A_137) Q_137 (ann := []) (spl := []) (mo := []) (by decide) (by decide +kernel)
set_option maxRecDepth 100000 in
theorem o_44 : okK 133 K_44 := okK_of (C := C_133) (fuel := 3000) rfl (A := A_133) Q_133 (ann := []) (spl := []) (mo := []) (by decide) (by decide +kernel)
set_option maxRecDepth 100000 in
theorem o_45 : okK 141 K_45 := okK_of (C := C_141) (fuel := 3000) rfl (A := A_141) Q_141 (ann := []) (spl := []) (mo := []) (by decide) (by decide +kernel)
set_option maxRecDepth 100000 in
theorem o_46 : okK 139 K_46 := okK_of (C := C_139) (fuel := 3000) rfl (A := A_139) Q_139 (ann := []) (spl := []) (mo := []) (by decide) (by decide +kernel)
set_option maxRecDepth 100000 in
theorem o_47 : okK 137 K_47 := okK_of (C := C_137) (fuel := 3000) rfl (A := A_137) Q_137 (ann := []) (spl := []) (mo := []) (by decide) (by decide +kernel)
set_option maxRecDepth 100000 in
theorem o_48 : okK 141 K_48 := okK_of (C := C_141) (fuel := 3000) rfl (A := A_141) Q_141 (ann := []) (spl := []) (mo := []) (by decide) (by decide +kernel)
set_option maxRecDepth 100000 in
theorem o_49 : okK 139 K_49 := okK_of (C := C_139) (fuel := 3000) rfl (A := A_139) Q_139 (ann := []) (spl := []) (mo := []) (by decide) (by decide +kernel)
set_option maxRecDepth 100000 in
theorem o_50 : okK 135 K_50 := okK_of (C := C_135) (fuel := 3000) rfl (A := A_135) Q_135 (ann := []) (spl := []) (mo := []) (by decide) (by decide +kernel)
set_option maxRecDepth 100000 in
theorem o_51 : okK 137 K_51 := okK_of (C := C_137) (fuel := 3000) rfl (A := A_137) Q_137 (ann := []) (spl := []) (mo := []) (by decide) (by decide +kernel)
set_option maxRecDepth 100000 in
theorem o_52 : okK 133 K_52 := okK_of (C := C_133) (fuel := 3000) rfl (A := A_133) Q_133 (ann := []) (spl := []) (mo := []) (by decide) (by decide +kernel)
set_option maxRecDepth 100000 in
theorem o_53 : okK 135 K_53 := okK_of (C := C_135) (fuel := 3000) rfl (A := A_135) Q_135 (ann := []) (spl := []) (mo := []) (by decide) (by decide +kernel)
set_option maxRecDepth 100000 in
theorem o_54 : okK 141 K_54 := okK_of (C := C_141) (fuel := 3000) rfl (A := A_141) Q_141 (ann := []) (spl := []) (mo := []) (by decide) (by decide +kernel)
set_option maxRecDepth 100000 in
theorem o_55 : okK 141 K_55 := okK_of (C := C_141) (fuel := 3000) rfl (A := A_141) Q_141 (ann := []) (spl := []) (mo := []) (by decide) (by decide +kernel)
set_option maxRecDepth 100000 in
theorem o_56 : okK 139 K_56 := okK_of (C := C_139) (fuel := 3000) rfl (A := A_139) Q_139 (ann := []) (spl := []) (mo := []) (by decide) (by decide +kernel)
set_option maxRecDepth 100000 in
theorem o_57 : okK 135 K_57 := okK_of (C := C_135) (fuel := 3000) rfl (A := A_135) Q_135 (ann := []) (spl := []) (mo := []) (by decide) (by decide +kernel)
set_option maxRecDepth 100000 in
theorem o_58 : okK 137 K_58 := okK_of (C := C_137) (fuel := 3000) rfl (A := A_137) Q_137 (ann := []) (spl := []) (mo := []) (by decide) (by decide +kernel)
set_option maxRecDepth 100000 in
theorem o_59 : okK 133 K_59 := okK_of (C := C_133) (fuel := 3000) rfl (A := A_133) Q_133 (ann := []) (spl := []) (mo := []) (by decide) (by decide +kernel)
set_option maxRecDepth 100000 in
theorem o_60 : okK 141 K_60 := okK_of (C := C_141) (fuel := 3000) rfl (A := A_141) Q_141 (ann := []) (spl := []) (mo := []) (by decide) (by decide +kernel)
set_option maxRecDepth 100000 in
theorem o_61 : okK 139 K_61 := okK_of (C := C_139) (fuel := 3000) rfl (A := A_139) Q_139 (ann := []) (spl := []) (mo := []) (by decide) (by decide +kernel)
set_option maxRecDepth 100000 in
theorem o_62 : okK 137 K_62 := okK_of (C := C_137) (fuel := 3000) rfl (A := A_137) Q_137 (ann := []) (spl := []) (mo := []) (by decide) (by decide +kernel)
set_option maxRecDepth 100000 in
theorem o_63 : okK 141 K_63 := okK_of (C := C_141) (fuel := 3000) rfl (A := A_141) Q_141 (ann := []) (spl := []) (mo := []) (by decide) (by decide +kernel)
set_option maxRecDepth 100000 in
theorem o_64 : okK 139 K_64 := okK_of (C := C_139) (fuel := 3000) rfl (A := A_139) Q_139 (ann := []) (spl := []) (mo := []) (by decide) (by decide +kernel)
set_option maxRecDepth 100000 in
theorem o_65 : okK 133 K_65 := okK_of (C := C_133) (fuel := 3000) rfl (A := A_133) Q_133 (ann := []) (spl := []) (mo := []) (by decide) (by decide +kernel)
set_option maxRecDepth 100000 in
theorem o_66 : okK 135 K_66 := okK_of (C := C_135) (fuel := 3000) rfl (A := A_135) Q_135 (ann := []) (spl := []) (mo := []) (by decide) (by decide +kernel)
set_option maxRecDepth 100000 in
theorem o_67 : okK 135 K_67 := okK_of (C := C_135) (fuel := 3000) rfl (A := A_135) Q_135 (ann := []) (spl := []) (mo := []) (by decide) (by decide +kernel)
set_option maxRecDepth 100000 in
theorem o_68 : okK 137 K_68 := okK_of (C := C_137) (fuel := 3000) rfl (A := A_137) Q_137 (ann := []) (spl := []) (mo := []) (by decide) (by decide +kernel)
set_option maxRecDepth 100000 in
theorem o_69 : okK 133 K_69 := okK_of (C := C_133) (fuel := 3000) rfl (A := A_133) Q_133 (ann := []) (spl := []) (mo := []) (by decide) (by decide +kernel)
set_option maxRecDepth 100000 in
theorem o_70 : okK 135 K_70 := okK_of (C := C_135) (fuel := 3000) rfl (A := A_135) Q_135 (ann := []) (spl := []) (mo := []) (by decide) (by decide +kernel)
set_option maxRecDepth 100000 in
theorem o_71 : okK 141 K_71 := okK_of (C := C_141) (fuel := 3000) rfl (A := A_141) Q_141 (ann := []) (spl := []) (mo := []) (by decide) (by decide +kernel)
set_option maxRecDepth 100000 in
theorem o_72 : okK 141 K_72 := okK_of (C := C_141) (fuel := 3000) rfl (A := A_141) Q_141 (ann := []) (spl := []) (mo := []) (by decide) (by decide +kernel)
set_option maxRecDepth 100000 in
theorem o_73 : okK 139 K_73 := okK_of (C := C_139) (fuel := 3000) rfl (A := A_139) Q_139 (ann := []) (spl := []) (mo := []) (by decide) (by decide +kernel)
set_option maxRecDepth 100000 in
theorem o_74 : okK 135 K_74 := okK_of (C := C_135) (fuel := 3000) rfl (A := A_135) Q_135 (ann := []) (spl := []) (mo := []) (by decide) (by decide +kernel)
set_option maxRecDepth 100000 in
theorem o_75 : okK 137 K_75 := okK_of (C := C_137) (fuel := 3000) rfl (A := A_137) Q_137 (ann := []) (spl := []) (mo := []) (by decide) (by decide +kernel)
set_option maxRecDepth 100000 in
theorem o_76 : okK 133 K_76 := okK_of (C := C_133) (fuel := 3000) rfl (A := A_133) Q_133 (ann := []) (spl := []) (mo := []) (by decide) (by decide +kernel)
set_option maxRecDepth 100000 in
theorem o_77 : okK 141 K_77 := okK_of (C := C_141) (fuel := 3000) rfl (A := A_141) Q_141 (ann := []) (spl := []) (mo := []) (by decide) (by decide +kernel)
set_option maxRecDepth 100000 in
theorem o_78 : okK 139 K_78 := okK_of (C := C_139) (fuel := 3000) rfl (A := A_139) Q_139 (ann := []) (spl := []) (mo := []) (by decide) (by decide +kernel)
set_option maxRecDepth 100000 in
theorem o_79 : okK 133 K_79 := okK_of (C := C_133) (fuel := 3000) rfl (A := A_133) Q_133 (ann := []) (spl := []) (mo := []) (by decide) (by decide +kernel)
set_option maxRecDepth 100000 in
theorem o_80 : okK 135 K_80 := okK_of (C := C_135) (fuel := 3000) rfl (A := A_135) Q_135 (ann := []) (spl := []) (mo := []) (by decide) (by decide +kernel)
set_option maxRecDepth 100000 in
theorem o_81 : okK 135 K_81 := okK_of (C := C_135) (fuel := 3000) rfl (A := A_135) Q_135 (ann := []) (spl := []) (mo := []) (by decide) (by decide +kernel)
set_option maxRecDepth 100000 in
theorem o_82 : okK 137 K_82 := okK_of (C := C_137) (fuel := 3000) rfl (A := A_137) Q_137 (ann := []) (spl := []) (mo := []) (by decide) (by decide +kernel)
set_option maxRecDepth 100000 in
theorem o_83 : okK 133 K_83 := okK_of (C := C_133) (fuel := 3000) rfl (A := A_133) Q_133 (ann := []) (spl := []) (mo := []) (by decide) (by decide +kernel)
set_option maxRecDepth 100000 in
theorem o_84 : okK 135 K_84 := okK_of (C := C_135) (fuel := 3000) rfl (A := A_135) Q_135 (ann := []) (spl := []) (mo := []) (by decide) (by decide +kernel)
set_option maxRecDepth 100000 in
theorem o_85 : okK 141 K_85 := okK_of (C := C_141) (fuel := 3000) rfl (A := A_141) Q_141 (ann := []) (spl := []) (mo := []) (by decide) (by decide +kernel)
set_option maxRecDepth 100000 in
theorem o_86 : okK 141 K_86 := okK_of (C := C_141) (fuel := 3000) rfl (A := A_141) Q_141 (ann := []) (spl := []) (mo := []) (by decide) (by decide +kernel)
set_option maxRecDepth 100000 in
theorem o_87 : okK 139 K_87 := okK_of (C := C_139) (fuel := 3000) rfl (A := A_139) Q_139 (ann := []) (spl := []) (mo := []) (by decide) (by decide +kernel)
set_option maxRecDepth 100000 in
theorem o_88 : okK 71 K_88 := okK_of (C := C_71) (fuel := 3000) rfl (A := A_71) Q_71 (ann := []) (spl := []) (mo := []) (by decide) (by decide +kernel)
set_option maxRecDepth 100000 in
theorem o_89 : okK 137 K_89 := okK_of (C := C_137) (fuel := 3000) rfl (A := A_137) Q_137 (ann := []) (spl := []) (mo := []) (by decide) (by decide +kernel)
set_option maxRecDepth 100000 in
theorem o_90 : okK 133 K_90 := okK_of (C := C_133) (fuel := 3000) rfl (A := A_133) Q_133 (ann := []) (spl := []) (mo := []) (by decide) (by decide +kernel)
set_option maxRecDepth 100000 in
theorem o_91 : okK 141 K_91 := okK_of (C := C_141) (fuel := 3000) rfl (A := A_141) Q_141 (ann := []) (spl := []) (mo := []) (by decide) (by decide +kernel)
set_option maxRecDepth 100000 in
theorem o_92 : okK 139 K_92 := okK_of (C := C_139) (fuel := 3000) rfl (A := A_139) Q_139 (ann := []) (spl := []) (mo := []) (by decide) (by decide +kernel)
set_option maxRecDepth 100000 in
theorem o_93 : okK 137 K_93 := okK_of (C := C_137) (fuel := 3000) rfl (A := A_137) Q_137 (ann := []) (spl := []) (mo := []) (by decide) (by decide +kernel)
set_option maxRecDepth 100000 in
theorem o_94 : okK 141 K_94 := okK_of (C := C_141) (fuel := 3000) rfl (A := A_141) Q_141 (ann := []) (spl := []) (mo := []) (by decide) (by decide +kernel)
set_option maxRecDepth 100000 in
theorem o_95 : okK 139 K_95 := okK_of (C := C_139) (fuel := 3000) rfl (A := A_139) Q_139 (ann := []) (spl := []) (mo := []) (by decide) (by decide +kernel)
set_option maxRecDepth 100000 in
theorem o_96 : okK 110 K_96 := okK_of (C := C_110) (fuel := 3000) rfl (A := A_110) Q_110 (ann := []) (spl := []) (mo := []) (by decide) (by decide +kernel)
set_option maxRecDepth 100000 in
theorem o_97 : okK 133 K_97 := okK_of (C := C_133) (fuel := 3000) rfl (A := A_133) Q_133 (ann := []) (spl := []) (mo := []) (by decide) (by decide +kernel)
set_option maxRecDepth 100000 in
theorem o_98 : okK 138 K_98 := okK_of (C := C_138) (fuel := 3000) rfl (A := A_138) Q_138 (ann := []) (spl := []) (mo := []) (by decide) (by decide +kernel)
set_option maxRecDepth 100000 in
theorem o_99 : okK 141 K_99 := okK_of (C := C_141) (fuel := 3000) rfl (A := A_141) Q_141 (ann := []) (spl := []) (mo := []) (by decide) (by decide +kernel)
set_option maxRecDepth 100000 in
theorem o_100 : okK 141 K_100 := okK_of (C := C_141) (fuel := 3000) rfl (A := A_141) Q_141 (ann := []) (spl := []) (mo := []) (by decide) (by decide +kernel)
set_option maxRecDepth 100000 in
theorem o_101 : okK 140 K_101 := okK_of (C := C_140) (fuel := 3000) rfl (A := A_140) Q_140 (ann := []) (spl := []) (mo := []) (by decide) (by decide +kernel)
set_option maxRecDepth 100000 in
theorem o_102 : okK 134 K_102 := okK_of (C := C_134) (fuel := 3000) rfl (A := A_134) Q_134 (ann := []) (spl := []) (mo := []) (by decide) (by decide +kernel)
set_option maxRecDepth 100000 in
theorem o_103 : okK 141 K_103 := okK_of (C := C_141) (fuel := 3000) rfl (A := A_141) Q_141 (ann := []) (spl := []) (mo := []) (by decide) (by decide +kernel)
set_option maxRecDepth 100000 in
theorem o_104 : okK 141 K_104 := okK_of (C := C_141) (fuel := 3000) rfl (A := A_141) Q_141 (ann := []) (spl := []) (mo := []) (by decide) (by decide +kernel)
set_option maxRecDepth 100000 in
theorem o_105 : okK 140 K_105 := okK_of (C := C_140) (fuel := 3000) rfl (A := A_140) Q_140 (ann := []) (spl := []) (mo := []) (by decide) (by decide +kernel)
def N_106 : aAnn := [(16, [(([(3, 6, 0, 0, 0, 1), (0, 0, 10, 0, 0, 2), (0, -1, 9, 0, 0, 0), (0, 0, 1023, 0, 0, 0), (0, 0, 10, 0, 0, 0)], [], []), (10, [(-1, 5)]))])]
set_option maxRecDepth 100000 in
theorem o_106 : okK 111 K_106 := okK_of (C := C_111) (fuel := 3000) rfl (A := A_111) Q_111 (ann := N_106) (spl := []) (mo := []) (by decide) (by decide +kernel)
set_option maxRecDepth 100000 in
theorem o_107 : okK 72 K_107 := okK_of (C := C_72) (fuel := 3000) rfl (A := A_72) Q_72 (ann := []) (spl := []) (mo := []) (by decide) (by decide +kernel)
set_option maxRecDepth 100000 in
theorem o_108 : okK 141 K_108 := okK_of (C := C_141) (fuel := 3000) rfl (A := A_141) Q_141 (ann := []) (spl := []) (mo := []) (by decide) (by decide +kernel)
set_option maxRecDepth 100000 in
theorem o_109 : okK 141 K_109 := okK_of (C := C_141) (fuel := 3000) rfl (A := A_141) Q_141 (ann := []) (spl := []) (mo := []) (by decide) (by decide +kernel)
set_option maxRecDepth 100000 in
theorem o_110 : okK 139 K_110 := okK_of (C := C_139) (fuel := 3000) rfl (A := A_139) Q_139 (ann := []) (spl := []) (mo := []) (by decide) (by decide +kernel)
set_option maxRecDepth 100000 in
theorem o_111 : okK 137 K_111 := okK_of (C := C_137) (fuel := 3000) rfl (A := A_137) Q_137 (ann := []) (spl := []) (mo := []) (by decide) (by decide +kernel)
set_option maxRecDepth 100000 in
theorem o_112 : okK 137 K_112 := okK_of (C := C_137) (fuel := 3000) rfl (A := A_137) Q_137 (ann := []) (spl := []) (mo := []) (by decide) (by decide +kernel)
set_option maxRecDepth 100000 in
theorem o_113 : okK 137 K_113 := okK_of (C := C_137) (fuel := 3000) rfl (A := A_137) Q_137 (ann := []) (spl := []) (mo := []) (by decide) (by decide +kernel)
set_option maxRecDepth 100000 in
theorem o_114 : okK 141 K_114 := okK_of (C := C_141) (fuel := 3000) rfl (A := A_141) Q_141 (ann := []) (spl := []) (mo := []) (by decide) (by decide +kernel)
set_option maxRecDepth 100000 in
theorem o_115 : okK 141 K_115 := okK_of (C := C_141) (fuel := 3000) rfl (A := A_141) Q_141 (ann := []) (spl := []) (mo := []) (by decide) (by decide +kernel)
set_option maxRecDepth 100000 in
theorem o_116 : okK 139 K_116 := okK_of (C := C_139) (fuel := 3000) rfl (A := A_139) Q_139 (ann := []) (spl := []) (mo := []) (by decide) (by decide +kernel)
set_option maxRecDepth 100000 in
theorem o_117 : okK 137 K_117 := okK_of (C := C_137) (fuel := 3000) rfl (A := A_137) Q_137 (ann := []) (spl := []) (mo := []) (by decide) (by decide +kernel)
set_option maxRecDepth 100000 in
theorem o_118 : okK 137 K_118 := okK_of (C := C_137) (fuel := 3000) rfl (A := A_137) Q_137 (ann := []) (spl := []) (mo := []) (by decide) (by decide +kernel)
set_option maxRecDepth 100000 in
theorem o_119 : okK 63 K_119 := okK_of (C := C_63) (fuel := 3000) rfl (A := A_63) Q_63 (ann := []) (spl := []) (mo := []) (by decide) (by decide +kernel)
set_option maxRecDepth 100000 in
theorem o_120 : okK 65 K_120 := okK_of (C := C_65) (fuel := 3000) rfl (A := A_65) Q_65 (ann := []) (spl := []) (mo := []) (by decide) (by decide +kernel)
set_option maxRecDepth 100000 in
theorem o_121 : okK 73 K_121 := okK_of (C := C_73) (fuel := 3000) rfl (A := A_73) Q_73 (ann := []) (spl := []) (mo := []) (by decide) (by decide +kernel)
set_option maxRecDepth 100000 in
theorem o_122 : okK 135 K_122 := okK_of (C := C_135) (fuel := 3000) rfl (A := A_135) Q_135 (ann := []) (spl := []) (mo := []) (by decide) (by decide +kernel)
set_option maxRecDepth 100000 in
theorem o_123 : okK 135 K_123 := okK_of (C := C_135) (fuel := 3000) rfl (A := A_135) Q_135 (ann := []) (spl := []) (mo := []) (by decide) (by decide +kernel)
set_option maxRecDepth 100000 in
theorem o_124 : okK 137 K_124 := okK_of (C := C_137) (fuel := 3000) rfl (A := A_137) Q_137 (ann := []) (spl := []) (mo := []) (by decide) (by decide +kernel)
set_option maxRecDepth 100000 in
theorem o_125 : okK 133 K_125 := okK_of (C := C_133) (fuel := 3000) rfl (A := A_133) Q_133 (ann := []) (spl := []) (mo := []) (by decide) (by decide +kernel)
set_option maxRecDepth 100000 in
theorem o_126 : okK 141 K_126 := okK_of (C := C_141) (fuel := 3000) rfl (A := A_141) Q_141 (ann := []) (spl := []) (mo := []) (by decide) (by decide +kernel)
set_option maxRecDepth 100000 in
theorem o_127 : okK 139 K_127 := okK_of (C := C_139) (fuel := 3000) rfl (A := A_139) Q_139 (ann := []) (spl := []) (mo := []) (by decide) (by decide +kernel)
set_option maxRecDepth 100000 in
theorem o_128 : okK 109 K_128 := okK_of (C := C_109) (fuel := 3000) rfl (A := A_109) Q_109 (ann := []) (spl := []) (mo := []) (by decide) (by decide +kernel)
set_option maxRecDepth 100000 in
theorem o_129 : okK 141 K_129 := okK_of (C := C_141) (fuel := 3000) rfl (A := A_141) Q_141 (ann := []) (spl := []) (mo := []) (by decide) (by decide +kernel)
set_option maxRecDepth 100000 in
theorem o_130 : okK 139 K_130 := okK_of (C := C_139) (fuel := 3000) rfl (A := A_139) Q_139 (ann := []) (spl := []) (mo := []) (by decide) (by decide +kernel)
set_option maxRecDepth 100000 in
theorem o_131 : okK 133 K_131 := okK_of (C := C_133) (fuel := 3000) rfl (A := A_133) Q_133 (ann := []) (spl := []) (mo := []) (by decide) (by decide +kernel)
set_option maxRecDepth 100000 in
theorem o_132 : okK 138 K_132 := okK_of (C := C_138) (fuel := 3000) rfl (A := A_138) Q_138 (ann := []) (spl := []) (mo := []) (by decide) (by decide +kernel)
set_option maxRecDepth 100000 in
theorem o_133 : okK 138 K_133 := okK_of (C := C_138) (fuel := 3000) rfl (A := A_138) Q_138 (ann := []) (spl := []) (mo := []) (by decide) (by decide +kernel)
set_option maxRecDepth 100000 in
theorem o_134 : okK 133 K_134 := okK_of (C := C_133) (fuel := 3000) rfl (A := A_133) Q_133 (ann := []) (spl := []) (mo := []) (by decide) (by decide +kernel)
set_option maxRecDepth 100000 in
theorem o_135 : okK 141 K_135 := okK_of (C := C_141) (fuel := 3000) rfl (A := A_141) Q_141 (ann := []) (spl := []) (mo := []) (by decide) (by decide +kernel)
set_option maxRecDepth 100000 in
theorem o_136 : okK 141 K_136 := okK_of (C := C_141) (fuel := 3000) rfl (A := A_141) Q_141 (ann := []) (spl := []) (mo := []) (by decide) (by decide +kernel)
set_option maxRecDepth 100000 in
theorem o_137 : okK 139 K_137 := okK_of (C := C_139) (fuel := 3000) rfl (A := A_139) Q_139 (ann := []) (spl := []) (mo := []) (by decide) (by decide +kernel)
set_option maxRecDepth 100000 in
theorem o_138 : okK 135 K_138 := okK_of (C := C_135) (fuel := 3000) rfl (A := A_135) Q_135 (ann := []) (spl := []) (mo := []) (by decide) (by decide +kernel)
set_option maxRecDepth 100000 in
theorem o_139 : okK 135 K_139 := okK_of (C := C_135) (fuel := 3000) rfl (A := A_135) Q_135 (ann := []) (spl := []) (mo := []) (by decide) (by decide +kernel)
set_option maxRecDepth 100000 in
theorem o_140 : okK 142 K_140 := okK_of (C := C_142) (fuel := 3000) rfl (A := A_142) Q_142 (ann := []) (spl := []) (mo := []) (by decide) (by decide +kernel)
set_option maxRecDepth 100000 in
theorem o_141 : okK 70 K_141 := okK_of (C := C_70) (fuel := 3000) rfl (A := A_70) Q_70 (ann := []) (spl := []) (mo := []) (by decide) (by decide +kernel)
set_option maxRecDepth 100000 in
theorem o_142 : okK 70 K_142 := okK_of (C := C_70) (fuel := 3000) rfl (A := A_70) Q_70 (ann := []) (spl := []) (mo := []) (by decide) (by decide +kernel)
set_option maxRecDepth 100000 in
theorem o_143 : okK 70 K_143 := okK_of (C := C_70) (fuel := 3000) rfl (A := A_70) Q_70 (ann := []) (spl := []) (mo := []) (by decide) (by decide +kernel)
set_option maxRecDepth 100000 in
theorem o_144 : okK 70 K_144 := okK_of (C := C_70) (fuel := 3000) rfl (A := A_70) Q_70 (ann := []) (spl := []) (mo := []) (by decide) (by decide +kernel)
set_option maxRecDepth 100000 in
theorem o_145 : okK 108 K_145 := okK_of (C := C_108) (fuel := 3000) rfl (A := A_108) Q_108 (ann := []) (spl := []) (mo := []) (by decide) (by decide +kernel)
set_option maxRecDepth 100000 in
theorem o_146 : okK 136 K_146 := okK_of (C := C_136) (fuel := 3000) rfl (A := A_136) Q_136 (ann := []) (spl := []) (mo := []) (by decide) (by decide +kernel)
set_option maxRecDepth 100000 in
theorem o_147 : okK 137 K_147 := okK_of (C := C_137) (fuel := 3000) rfl (A := A_137) Q_137 (ann := []) (spl := []) (mo := []) (by decide) (by decide +kernel)
def N_148 : aAnn := [(11, [(([(3, 6, 0, 0, 0, 1), (3, 19, 0, 0, 0, 2), (1, 0, 0, 0, 0, 0), (0, 0, 76, 0, 0, 0)], [], [(3, 2, (0, 0, 76, 0, 0, 0))]), (76, [(-1, 4)]))])]
set_option maxRecDepth 100000 in
theorem o_148 : okK 107 K_148 := okK_of (C := C_107) (fuel := 3000) rfl (A := A_107) Q_107 (ann := N_148) (spl := []) (mo := []) (by decide) (by decide +kernel)
def N_149 : aAnn := [(2, [(([(3, 20, 0, 0, 0, 1), (3, 10, 0, 0, 0, 2), (0, 0, 6, 0, 0, 0)], [], []), (6, [(-1, 3)]))])]
set_option maxRecDepth 100000 in
theorem o_149 : okK 48 K_149 := okK_of (C := C_48) (fuel := 3000) rfl (A := A_48) Q_48 (ann := N_149) (spl := []) (mo := []) (by decide) (by decide +kernel)
def N_150 : aAnn := [(2, [(([(3, 21, 0, 0, 0, 1), (3, 11, 0, 0, 0, 2), (0, 0, 36, 0, 0, 0)], [], []), (36, [(-1, 3)]))])]
set_option maxRecDepth 100000 in
theorem o_150 : okK 48 K_150 := okK_of (C := C_48) (fuel := 3000) rfl (A := A_48) Q_48 (ann := N_150) (spl := []) (mo := []) (by decide) (by decide +kernel)
def N_151 : aAnn := [(2, [(([(3, 22, 0, 0, 0, 1), (3, 12, 0, 0, 0, 2), (0, 0, 10, 0, 0, 0)], [], []), (10, [(-1, 3)]))])]
set_option maxRecDepth 100000 in
theorem o_151 : okK 48 K_151 := okK_of (C := C_48) (fuel := 3000) rfl (A := A_48) Q_48 (ann := N_151) (spl := []) (mo := []) (by decide) (by decide +kernel)
def N_152 : aAnn := [(2, [(([(3, 23, 0, 0, 0, 1), (3, 13, 0, 0, 0, 2), (0, 0, 10, 0, 0, 0)], [], []), (10, [(-1, 3)]))])]
set_option maxRecDepth 100000 in
theorem o_152 : okK 48 K_152 := okK_of (C := C_48) (fuel := 3000) rfl (A := A_48) Q_48 (ann := N_152) (spl := []) (mo := []) (by decide) (by decide +kernel)
def N_153 : aAnn := [(2, [(([(3, 24, 0, 0, 0, 1), (3, 14, 0, 0, 0, 2), (0, 0, 10, 0, 0, 0)], [], []), (10, [(-1, 3)]))])]
set_option maxRecDepth 100000 in
theorem o_153 : okK 48 K_153 := okK_of (C := C_48) (fuel := 3000) rfl (A := A_48) Q_48 (ann := N_153) (spl := []) (mo := []) (by decide) (by decide +kernel)
def N_154 : aAnn := [(2, [(([(3, 25, 0, 0, 0, 1), (3, 15, 0, 0, 0, 2), (0, 0, 10, 0, 0, 0)], [], []), (10, [(-1, 3)]))])]
set_option maxRecDepth 100000 in
theorem o_154 : okK 48 K_154 := okK_of (C := C_48) (fuel := 3000) rfl (A := A_48) Q_48 (ann := N_154) (spl := []) (mo := []) (by decide) (by decide +kernel)
def N_155 : aAnn := [(2, [(([(3, 26, 0, 0, 0, 1), (3, 16, 0, 0, 0, 2), (0, 0, 8, 0, 0, 0)], [], []), (8, [(-1, 3)]))])]
set_option maxRecDepth 100000 in
theorem o_155 : okK 48 K_155 := okK_of (C := C_48) (fuel := 3000) rfl (A := A_48) Q_48 (ann := N_155) (spl := []) (mo := []) (by decide) (by decide +kernel)
def N_156 : aAnn := [(2, [(([(3, 27, 0, 0, 0, 1), (3, 17, 0, 0, 0, 2), (0, 0, 10, 0, 0, 0)], [], []), (10, [(-1, 3)]))])]
set_option maxRecDepth 100000 in
theorem o_156 : okK 48 K_156 := okK_of (C := C_48) (fuel := 3000) rfl (A := A_48) Q_48 (ann := N_156) (spl := []) (mo := []) (by decide) (by decide +kernel)
def N_157 : aAnn := [(2, [(([(3, 28, 0, 0, 0, 1), (3, 18, 0, 0, 0, 2), (0, 0, 10, 0, 0, 0)], [], []), (10, [(-1, 3)]))])]
set_option maxRecDepth 100000 in
theorem o_157 : okK 48 K_157 := okK_of (C := C_48) (fuel := 3000) rfl (A := A_48) Q_48 (ann := N_157) (spl := []) (mo := []) (by decide) (by decide +kernel)
set_option maxRecDepth 100000 in
theorem o_158 : okK 62 K_158 := okK_of (C := C_62) (fuel := 3000) rfl (A := A_62) Q_62 (ann := []) (spl := []) (mo := []) (by decide) (by decide +kernel)
set_option maxRecDepth 100000 in
theorem o_159 : okK 67 K_159 := okK_of (C := C_67) (fuel := 3000) rfl (A := A_67) Q_67 (ann := []) (spl := []) (mo := []) (by decide) (by decide +kernel)
set_option maxRecDepth 100000 in
theorem o_160 : okK 49 K_160 := okK_of (C := C_49) (fuel := 3000) rfl (A := A_49) Q_49 (ann := []) (spl := []) (mo := []) (by decide) (by decide +kernel)
set_option maxRecDepth 100000 in
theorem o_161 : okK 68 K_161 := okK_of (C := C_68) (fuel := 3000) rfl (A := A_68) Q_68 (ann := []) (spl := []) (mo := []) (by decide) (by decide +kernel)
def N_162 : aAnn := [(6, [(([(3, 9, 0, 0, 0, 1), (0, 0, 9, 0, 0, 2), (0, 0, 1023, 0, 0, 3), (0, 0, 255, 0, 0, 4), (0, 0, 1023, 0, 0, 0), (0, 0, 8, 0, 0, 0), (4, 0, 0, 0, 0, 0)], [], []), (89, [(-10, 6)]))]), (12, [(([(3, 9, 0, 0, 0, 1), (0, 0, 9, 0, 0, 2), (0, 0, 1023, 0, 0, 3), (0, 0, 255, 0, 0, 4), (0, 0, 1023, 0, 0, 0), (0, 0, 7, 0, 0, 0), (0, 0, 8, 0, 0, 0)], [], [(7, 11, (0, 1, 8, 0, 0, 0))]), (88, [(-10, 6), (-1, 7)]))])]
set_option maxRecDepth 100000 in
theorem o_162 : okK 96 K_162 := okK_of (C := C_96) (fuel := 3000) rfl (A := A_96) Q_96 (ann := N_162) (spl := []) (mo := []) (by decide) (by decide +kernel)
def N_163 : aAnn := [(15, [(([(3, 9, 0, 0, 0, 1), (0, 0, 1023, 0, 0, 2), (0, 0, 10, 0, 0, 0)], [], [(7, 12, (0, 0, 9, 0, 0, 0))]), (10, [(-1, 3)]))])]
set_option maxRecDepth 100000 in
theorem o_163 : okK 99 K_163 := okK_of (C := C_99) (fuel := 3000) rfl (A := A_99) Q_99 (ann := N_163) (spl := []) (mo := []) (by decide) (by decide +kernel)
def N_164 : aAnn := [(8, [(([(3, 9, 0, 0, 0, 1), (0, 0, 1023, 0, 0, 0), (0, 0, 10, 0, 0, 0), (4, 0, 0, 0, 0, 0)], [], []), (10, [(-1, 3)]))])]
set_option maxRecDepth 100000 in
theorem o_164 : okK 98 K_164 := okK_of (C := C_98) (fuel := 3000) rfl (A := A_98) Q_98 (ann := N_164) (spl := []) (mo := []) (by decide) (by decide +kernel)
set_option maxRecDepth 100000 in
theorem o_165 : okK 129 K_165 := okK_of (C := C_129) (fuel := 3000) rfl (A := A_129) Q_129 (ann := []) (spl := []) (mo := []) (by decide) (by decide +kernel)
set_option maxRecDepth 100000 in
theorem o_166 : okK 2 K_166 := okK_of (C := C_2) (fuel := 3000) rfl (A := A_2) Q_2 (ann := []) (spl := []) (mo := []) (by decide) (by decide +kernel)
set_option maxRecDepth 100000 in
theorem o_167 : okK 132 K_167 := okK_of (C := C_132) (fuel := 3000) rfl (A := A_132) Q_132 (ann := []) (spl := []) (mo := []) (by decide) (by decide +kernel)
set_option maxRecDepth 100000 in
theorem o_168 : okK 141 K_168 := okK_of (C := C_141) (fuel := 3000) rfl (A := A_141) Q_141 (ann := []) (spl := []) (mo := []) (by decide) (by decide +kernel)
set_option maxRecDepth 100000 in
theorem o_169 : okK 139 K_169 := okK_of (C := C_139) (fuel := 3000) rfl (A := A_139) Q_139 (ann := []) (spl := []) (mo := []) (by decide) (by decide +kernel)
set_option maxRecDepth 100000 in
theorem o_170 : okK 133 K_170 := okK_of (C := C_133) (fuel := 3000) rfl (A := A_133) Q_133 (ann := []) (spl := []) (mo := []) (by decide) (by decide +kernel)
set_option maxRecDepth 100000 in
theorem o_171 : okK 138 K_171 := okK_of (C := C_138) (fuel := 3000) rfl (A := A_138) Q_138 (ann := []) (spl := []) (mo := []) (by decide) (by decide +kernel)
set_option maxRecDepth 100000 in
theorem o_172 : okK 138 K_172 := okK_of (C := C_138) (fuel := 3000) rfl (A := A_138) Q_138 (ann := []) (spl := []) (mo := []) (by decide) (by decide +kernel)
set_option maxRecDepth 100000 in
theorem o_173 : okK 151 K_173 := okK_of (C := C_151) (fuel := 3000) rfl (A := A_151) Q_151 (ann := []) (spl := []) (mo := []) (by decide) (by decide +kernel)
set_option maxRecDepth 100000 in
theorem o_174 : okK 274 K_174 := okK_of (C := C_274) (fuel := 3000) rfl (A := A_274) Q_274 (ann := []) (spl := []) (mo := []) (by decide) (by decide +kernel)
set_option maxRecDepth 100000 in
theorem o_175 : okK 276 K_175 := okK_of (C := C_276) (fuel := 3000) rfl (A := A_276) Q_276 (ann := []) (spl := []) (mo := []) (by decide) (by decide +kernel)
set_option maxRecDepth 100000 in
theorem o_176 : okK 275 K_176 := okK_of (C := C_275) (fuel := 3000) rfl (A := A_275) Q_275 (ann := []) (spl := []) (mo := []) (by decide) (by decide +kernel)
set_option maxRecDepth 100000 in
theorem o_177 : okK 278 K_177 := okK_of (C := C_278) (fuel := 3000) rfl (A := A_278) Q_278 (ann := []) (spl := []) (mo := []) (by decide) (by decide +kernel)
def N_178 : aAnn := [(5, [(([(3, 94, 0, 0, 0, 1), (0, 0, 255, 0, 0, 2), (0, 0, 8, 0, 0, 3), (0, 1, 9, 0, 0, 4), (0, -128, 127, 0, 0, 0), (0, 0, 9, 0, 0, 0)], [], []), (9, [(-1, 6)]))])]
set_option maxRecDepth 100000 in
theorem o_178 : okK 279 K_178 := okK_of (C := C_279) (fuel := 3000) rfl (A := A_279) Q_279 (ann := N_178) (spl := []) (mo := []) (by decide) (by decide +kernel)
set_option maxRecDepth 100000 in
theorem o_179 : okK 277 K_179 := okK_of (C := C_277) (fuel := 3000) rfl (A := A_277) Q_277 (ann := []) (spl := []) (mo := []) (by decide) (by decide +kernel)
set_option maxRecDepth 100000 in
theorem o_180 : okK 273 K_180 := okK_of (C := C_273) (fuel := 3000) rfl (A := A_273) Q_273 (ann := []) (spl := []) (mo := []) (by decide) (by decide +kernel)
set_option maxRecDepth 100000 in
theorem o_181 : okK 272 K_181 := okK_of (C := C_272) (fuel := 3000) rfl (A := A_272) Q_272 (ann := []) (spl := []) (mo := []) (by decide) (by decide +kernel)
set_option maxRecDepth 100000 in
theorem o_182 : okK 150 K_182 := okK_of (C := C_150) (fuel := 3000) rfl (A := A_150) Q_150 (ann := []) (spl := []) (mo := []) (by decide) (by decide +kernel)
def N_183 : aAnn := [(4, [(([(3, 29, 0, 0, 0, 1), (3, 5, 0, 0, 0, 2), (0, 4, 4, 0, 0, 3), (0, 0, 1, 0, 0, 0), (0, 0, 40, 0, 0, 0)], [], []), (40, [(-1, 5)]))])]
set_option maxRecDepth 100000 in
theorem o_183 : okK 149 K_183 := okK_of (C := C_149) (fuel := 3000) rfl (A := A_149) Q_149 (ann := N_183) (spl := []) (mo := []) (by decide) (by decide +kernel)
def N_184 : aAnn := [(7, [(([(3, 29, 0, 0, 0, 1), (3, 5, 0, 0, 0, 2), (0, 4, 4, 0, 0, 3), (1, 0, 0, 0, 0, 0), (0, 0, 40, 0, 0, 0), (4, 0, 0, 0, 0, 0), (4, 0, 0, 0, 0, 0)], [], []), (40, [(-1, 5)]))])]
set_option maxRecDepth 100000 in
theorem o_184 : okK 148 K_184 := okK_of (C := C_148) (fuel := 3000) rfl (A := A_148) Q_148 (ann := N_184) (spl := []) (mo := []) (by decide) (by decide +kernel)
def N_185 : aAnn := [(7, [(([(3, 29, 0, 0, 0, 1), (3, 5, 0, 0, 0, 2), (0, 4, 4, 0, 0, 3), (1, 0, 0, 0, 0, 0), (0, 0, 40, 0, 0, 0), (4, 0, 0, 0, 0, 0), (4, 0, 0, 0, 0, 0)], [], []), (40, [(-1, 5)]))])]
set_option maxRecDepth 100000 in
theorem o_185 : okK 147 K_185 := okK_of (C := C_147) (fuel := 3000) rfl (A := A_147) Q_147 (ann := N_185) (spl := []) (mo := []) (by decide) (by decide +kernel)
set_option maxRecDepth 100000 in
theorem o_186 : okK 146 K_186 := okK_of (C := C_146) (fuel := 3000) rfl (A := A_146) Q_146 (ann := []) (spl := []) (mo := []) (by decide) (by decide +kernel)
set_option maxRecDepth 100000 in
theorem o_187 : okK 133 K_187 := okK_of (C := C_133) (fuel := 3000) rfl (A := A_133) Q_133 (ann := []) (spl := []) (mo := []) (by decide) (by decide +kernel)
set_option maxRecDepth 100000 in
theorem o_188 : okK 135 K_188 := okK_of (C := C_135) (fuel := 3000) rfl (A := A_135) Q_135 (ann := []) (spl := []) (mo := []) (by decide) (by decide +kernel)
set_option maxRecDepth 100000 in
theorem o_189 : okK 137 K_189 := okK_of (C := C_137) (fuel := 3000) rfl (A := A_137) Q_137 (ann := []) (spl := []) (mo := []) (by decide) (by decide +kernel)
set_option maxRecDepth 100000 in
theorem o_190 : okK 150 K_190 := okK_of (C := C_150) (fuel := 3000) rfl (A := A_150) Q_150 (ann := []) (spl := []) (mo := []) (by decide) (by decide +kernel)
def N_191 : aAnn := [(4, [(([(3, 29, 0, 0, 0, 1), (3, 5, 0, 0, 0, 2), (0, 3, 3, 0, 0, 3), (0, 0, 1, 0, 0, 0), (0, 0, 40, 0, 0, 0)], [], []), (40, [(-1, 5)]))])]
set_option maxRecDepth 100000 in
theorem o_191 : okK 149 K_191 := okK_of (C := C_149) (fuel := 3000) rfl (A := A_149) Q_149 (ann := N_191) (spl := []) (mo := []) (by decide) (by decide +kernel)
def N_192 : aAnn := [(7, [(([(3, 29, 0, 0, 0, 1), (3, 5, 0, 0, 0, 2), (0, 3, 3, 0, 0, 3), (1, 0, 0, 0, 0, 0), (0, 0, 40, 0, 0, 0), (4, 0, 0, 0, 0, 0), (4, 0, 0, 0, 0, 0)], [], []), (40, [(-1, 5)]))])]
set_option maxRecDepth 100000 in
theorem o_192 : okK 148 K_192 := okK_of (C := C_148) (fuel := 3000) rfl (A := A_148) Q_148 (ann := N_192) (spl := []) (mo := []) (by decide) (by decide +kernel)
def N_193 : aAnn := [(7, [(([(3, 29, 0, 0, 0, 1), (3, 5, 0, 0, 0, 2), (0, 3, 3, 0, 0, 3), (1, 0, 0, 0, 0, 0), (0, 0, 40, 0, 0, 0), (4, 0, 0, 0, 0, 0), (4, 0, 0, 0, 0, 0)], [], []), (40, [(-1, 5)]))])]
set_option maxRecDepth 100000 in
theorem o_193 : okK 147 K_193 := okK_of (C := C_147) (fuel := 3000) rfl (A := A_147) Q_147 (ann := N_193) (spl := []) (mo := []) (by decide) (by decide +kernel)
set_option maxRecDepth 100000 in
theorem o_194 : okK 146 K_194 := okK_of (C := C_146) (fuel := 3000) rfl (A := A_146) Q_146 (ann := []) (spl := []) (mo := []) (by decide) (by decide +kernel)
set_option maxRecDepth 100000 in
theorem o_195 : okK 150 K_195 := okK_of (C := C_150) (fuel := 3000) rfl (A := A_150) Q_150 (ann := []) (spl := []) (mo := []) (by decide) (by decide +kernel)
def N_196 : aAnn := [(4, [(([(3, 29, 0, 0, 0, 1), (3, 5, 0, 0, 0, 2), (0, 2, 2, 0, 0, 3), (0, 0, 1, 0, 0, 0), (0, 0, 40, 0, 0, 0)], [], []), (40, [(-1, 5)]))])]
set_option maxRecDepth 100000 in
theorem o_196 : okK 149 K_196 := okK_of (C := C_149) (fuel := 3000) rfl (A := A_149) Q_149 (ann := N_196) (spl := []) (mo := []) (by decide) (by decide +kernel)
def N_197 : aAnn := [(7, [(([(3, 29, 0, 0, 0, 1), (3, 5, 0, 0, 0, 2), (0, 2, 2, 0, 0, 3), (1, 0, 0, 0, 0, 0), (0, 0, 40, 0, 0, 0), (4, 0, 0, 0, 0, 0), (4, 0, 0, 0, 0, 0)], [], []), (40, [(-1, 5)]))])]
set_option maxRecDepth 100000 in
theorem o_197 : okK 148 K_197 := okK_of (C := C_148) (fuel := 3000) rfl (A := A_148) Q_148 (ann := N_197) (spl := []) (mo := []) (by decide) (by decide +kernel)
def N_198 : aAnn := [(7, [(([(3, 29, 0, 0, 0, 1), (3, 5, 0, 0, 0, 2), (0, 2, 2, 0, 0, 3), (1, 0, 0, 0, 0, 0), (0, 0, 40, 0, 0, 0), (4, 0, 0, 0, 0, 0), (4, 0, 0, 0, 0, 0)], [], []), (40, [(-1, 5)]))])]
set_option maxRecDepth 100000 in
theorem o_198 : okK 147 K_198 := okK_of (C := C_147) (fuel := 3000) rfl (A := A_147) Q_147 (ann := N_198) (spl := []) (mo := []) (by decide) (by decide +kernel)
set_option maxRecDepth 100000 in
theorem o_199 : okK 146 K_199 := okK_of (C := C_146) (fuel := 3000) rfl (A := A_146) Q_146 (ann := []) (spl := []) (mo := []) (by decide) (by decide +kernel)
set_option maxRecDepth 100000 in
theorem o_200 : okK 150 K_200 := okK_of (C := C_150) (fuel := 3000) rfl (A := A_150) Q_150 (ann := []) (spl := []) (mo := []) (by decide) (by decide +kernel)
def N_201 : aAnn := [(4, [(([(3, 29, 0, 0, 0, 1), (3, 5, 0, 0, 0, 2), (0, 1, 1, 0, 0, 3), (0, 0, 1, 0, 0, 0), (0, 0, 40, 0, 0, 0)], [], []), (40, [(-1, 5)]))])]
set_option maxRecDepth 100000 in
theorem o_201 : okK 149 K_201 := okK_of (C := C_149) (fuel := 3000) rfl (A := A_149) Q_149 (ann := N_201) (spl := []) (mo := []) (by decide) (by decide +kernel)
def N_202 : aAnn := [(7, [(([(3, 29, 0, 0, 0, 1), (3, 5, 0, 0, 0, 2), (0, 1, 1, 0, 0, 3), (1, 0, 0, 0, 0, 0), (0, 0, 40, 0, 0, 0), (4, 0, 0, 0, 0, 0), (4, 0, 0, 0, 0, 0)], [], []), (40, [(-1, 5)]))])]
set_option maxRecDepth 100000 in
theorem o_202 : okK 148 K_202 := okK_of (C := C_148) (fuel := 3000) rfl (A := A_148) Q_148 (ann := N_202) (spl := []) (mo := []) (by decide) (by decide +kernel)
def N_203 : aAnn := [(7, [(([(3, 29, 0, 0, 0, 1), (3, 5, 0, 0, 0, 2), (0, 1, 1, 0, 0, 3), (1, 0, 0, 0, 0, 0), (0, 0, 40, 0, 0, 0), (4, 0, 0, 0, 0, 0), (4, 0, 0, 0, 0, 0)], [], []), (40, [(-1, 5)]))])]
set_option maxRecDepth 100000 in
theorem o_203 : okK 147 K_203 := okK_of (C := C_147) (fuel := 3000) rfl (A := A_147) Q_147 (ann := N_203) (spl := []) (mo := []) (by decide) (by decide +kernel)
set_option maxRecDepth 100000 in
theorem o_204 : okK 146 K_204 := okK_of (C := C_146) (fuel := 3000) rfl (A := A_146) Q_146 (ann := []) (spl := []) (mo := []) (by decide) (by decide +kernel)
set_option maxRecDepth 100000 in
theorem o_205 : okK 150 K_205 := okK_of (C := C_150) (fuel := 3000) rfl (A := A_150) Q_150 (ann := []) (spl := []) (mo := []) (by decide) (by decide +kernel)
def N_206 : aAnn := [(4, [(([(3, 29, 0, 0, 0, 1), (3, 5, 0, 0, 0, 2), (0, 0, 0, 0, 0, 3), (0, 0, 1, 0, 0, 0), (0, 0, 40, 0, 0, 0)], [], []), (40, [(-1, 5)]))])]
set_option maxRecDepth 100000 in
theorem o_206 : okK 149 K_206 := okK_of (C := C_149) (fuel := 3000) rfl (A := A_149) Q_149 (ann := N_206) (spl := []) (mo := []) (by decide) (by decide +kernel)
def N_207 : aAnn := [(7, [(([(3, 29, 0, 0, 0, 1), (3, 5, 0, 0, 0, 2), (0, 0, 0, 0, 0, 3), (1, 0, 0, 0, 0, 0), (0, 0, 40, 0, 0, 0), (4, 0, 0, 0, 0, 0), (4, 0, 0, 0, 0, 0)], [], []), (40, [(-1, 5)]))])]
set_option maxRecDepth 100000 in
theorem o_207 : okK 148 K_207 := okK_of (C := C_148) (fuel := 3000) rfl (A := A_148) Q_148 (ann := N_207) (spl := []) (mo := []) (by decide) (by decide +kernel)
def N_208 : aAnn := [(7, [(([(3, 29, 0, 0, 0, 1), (3, 5, 0, 0, 0, 2), (0, 0, 0, 0, 0, 3), (1, 0, 0, 0, 0, 0), (0, 0, 40, 0, 0, 0), (4, 0, 0, 0, 0, 0), (4, 0, 0, 0, 0, 0)], [], []), (40, [(-1, 5)]))])]
set_option maxRecDepth 100000 in
theorem o_208 : okK 147 K_208 := okK_of (C := C_147) (fuel := 3000) rfl (A := A_147) Q_147 (ann := N_208) (spl := []) (mo := []) (by decide) (by decide +kernel)
set_option maxRecDepth 100000 in
theorem o_209 : okK 146 K_209 := okK_of (C := C_146) (fuel := 3000) rfl (A := A_146) Q_146 (ann := []) (spl := []) (mo := []) (by decide) (by decide +kernel)
set_option maxRecDepth 100000 in
theorem o_210 : okK 145 K_210 := okK_of (C := C_145) (fuel := 3000) rfl (A := A_145) Q_145 (ann := []) (spl := []) (mo := []) (by decide) (by decide +kernel)
set_option maxRecDepth 100000 in
theorem o_211 : okK 143 K_211 := okK_of (C := C_143) (fuel := 3000) rfl (A := A_143) Q_143 (ann := []) (spl := []) (mo := []) (by decide) (by decide +kernel)
def N_212 : aAnn := [(2, [(([(3, 4, 0, 0, 0, 1), (3, 31, 0, 0, 0, 2), (0, 0, 80, 0, 0, 0)], [], []), (80, [(-1, 3)]))])]
set_option maxRecDepth 100000 in
theorem o_212 : okK 48 K_212 := okK_of (C := C_48) (fuel := 3000) rfl (A := A_48) Q_48 (ann := N_212) (spl := []) (mo := []) (by decide) (by decide +kernel)
set_option maxRecDepth 100000 in
theorem o_213 : okK 155 K_213 := okK_of (C := C_155) (fuel := 3000) rfl (A := A_155) Q_155 (ann := []) (spl := []) (mo := []) (by decide) (by decide +kernel)
set_option maxRecDepth 100000 in
theorem o_214 : okK 3 K_214 := okK_of (C := C_3) (fuel := 3000) rfl (A := A_3) Q_3 (ann := []) (spl := []) (mo := []) (by decide) (by decide +kernel)
set_option maxRecDepth 100000 in
theorem o_215 : okK 6 K_215 := okK_of (C := C_6) (fuel := 3000) rfl (A := A_6) Q_6 (ann := []) (spl := []) (mo := []) (by decide) (by decide +kernel)
set_option maxRecDepth 100000 in
theorem o_216 : okK 63 K_216 := okK_of (C := C_63) (fuel := 3000) rfl (A := A_63) Q_63 (ann := []) (spl := []) (mo := []) (by decide) (by decide +kernel)
set_option maxRecDepth 100000 in
theorem o_217 : okK 65 K_217 := okK_of (C := C_65) (fuel := 3000) rfl (A := A_65) Q_65 (ann := []) (spl := []) (mo := []) (by decide) (by decide +kernel)
set_option maxRecDepth 100000 in
theorem o_218 : okK 74 K_218 := okK_of (C := C_74) (fuel := 3000) rfl (A := A_74) Q_74 (ann := []) (spl := []) (mo := []) (by decide) (by decide +kernel)
set_option maxRecDepth 100000 in
theorem o_219 : okK 7 K_219 := okK_of (C := C_7) (fuel := 3000) rfl (A := A_7) Q_7 (ann := []) (spl := []) (mo := []) (by decide) (by decide +kernel)
set_option maxRecDepth 100000 in
theorem o_220 : okK 73 K_220 := okK_of (C := C_73) (fuel := 3000) rfl (A := A_73) Q_73 (ann := []) (spl := []) (mo := []) (by decide) (by decide +kernel)
set_option maxRecDepth 100000 in
theorem o_221 : okK 8 K_221 := okK_of (C := C_8) (fuel := 3000) rfl (A := A_8) Q_8 (ann := []) (spl := []) (mo := []) (by decide) (by decide +kernel)
set_option maxRecDepth 100000 in
theorem o_222 : okK 9 K_222 := okK_of (C := C_9) (fuel := 3000) rfl (A := A_9) Q_9 (ann := []) (spl := []) (mo := []) (by decide) (by decide +kernel)
def N_223 : aAnn := [(4, [(([(3, 9, 0, 0, 0, 1), (0, -2147483648, 2147483647, 0, 0, 2), (0, -2147483648, 2147483647, 0, 0, 3), (0, -2147483648, 2147483647, 0, 0, 4), (0, -2147483648, 2147483647, 0, 0, 5), (1, 0, 0, 0, 0, 0), (0, 0, 10, 0, 0, 0), (4, 0, 0, 0, 0, 0), (4, 0, 0, 0, 0, 0)], [], []), (10, [(-1, 7)]))])]
set_option maxRecDepth 100000 in
theorem o_223 : okK 76 K_223 := okK_of (C := C_76) (fuel := 3000) rfl (A := A_76) Q_76 (ann := N_223) (spl := []) (mo := []) (by decide) (by decide +kernel)
set_option maxRecDepth 100000 in
theorem o_224 : okK 10 K_224 := okK_of (C := C_10) (fuel := 3000) rfl (A := A_10) Q_10 (ann := []) (spl := []) (mo := []) (by decide) (by decide +kernel)
set_option maxRecDepth 100000 in
theorem o_225 : okK 64 K_225 := okK_of (C := C_64) (fuel := 3000) rfl (A := A_64) Q_64 (ann := []) (spl := []) (mo := []) (by decide) (by decide +kernel)
set_option maxRecDepth 100000 in
theorem o_226 : okK 47 K_226 := okK_of (C := C_47) (fuel := 3000) rfl (A := A_47) Q_47 (ann := []) (spl := []) (mo := []) (by decide) (by decide +kernel)
def N_227 : aAnn := [(4, [(([(3, 9, 0, 0, 0, 1), (0, -2147483648, 2147483647, 0, 0, 2), (0, -2147483648, 2147483647, 0, 0, 3), (0, -2147483648, 2147483647, 0, 0, 0), (0, 0, 36, 0, 0, 0)], [], []), (36, [(-1, 5)]))])]
set_option maxRecDepth 100000 in
theorem o_227 : okK 78 K_227 := okK_of (C := C_78) (fuel := 3000) rfl (A := A_78) Q_78 (ann := N_227) (spl := []) (mo := []) (by decide) (by decide +kernel)
def N_228 : aAnn := [(16, [(([(3, 9, 0, 0, 0, 1), (0, -2147483648, 2147483647, 0, 0, 2), (0, 0, 5, 0, 0, 3), (0, 0, 5, 0, 0, 4), (0, -2147483648, 2147483647, 0, 0, 0), (0, 0, 6, 0, 0, 0)], [], [(7, 9, (0, 1, 6, 0, 0, 0))]), (6, [(-1, 6)]))])]
set_option maxRecDepth 100000 in
theorem o_228 : okK 80 K_228 := okK_of (C := C_80) (fuel := 3000) rfl (A := A_80) Q_80 (ann := N_228) (spl := []) (mo := []) (by decide) (by decide +kernel)
set_option maxRecDepth 100000 in
theorem o_229 : okK 82 K_229 := okK_of (C := C_82) (fuel := 3000) rfl (A := A_82) Q_82 (ann := []) (spl := []) (mo := []) (by decide) (by decide +kernel)
set_option maxRecDepth 100000 in
theorem o_230 : okK 51 K_230 := okK_of (C := C_51) (fuel := 3000) rfl (A := A_51) Q_51 (ann := []) (spl := []) (mo := []) (by decide) (by decide +kernel)
def N_231 : aAnn := [(2, [(([(3, 41, 0, 0, 0, 1), (0, 1, 20, 0, 0, 0)], [], []), (20, [(-1, 2)]))])]
set_option maxRecDepth 100000 in
theorem o_231 : okK 131 K_231 := okK_of (C := C_131) (fuel := 3000) rfl (A := A_131) Q_131 (ann := N_231) (spl := []) (mo := []) (by decide) (by decide +kernel)
set_option maxRecDepth 100000 in
theorem o_232 : okK 130 K_232 := okK_of (C := C_130) (fuel := 3000) rfl (A := A_130) Q_130 (ann := []) (spl := []) (mo := []) (by decide) (by decide +kernel)
set_option maxRecDepth 100000 in
theorem o_233 : okK 52 K_233 := okK_of (C := C_52) (fuel := 3000) rfl (A := A_52) Q_52 (ann := []) (spl := []) (mo := []) (by decide) (by decide +kernel)
set_option maxRecDepth 100000 in
theorem o_234 : okK 11 K_234 := okK_of (C := C_11) (fuel := 3000) rfl (A := A_11) Q_11 (ann := []) (spl := []) (mo := []) (by decide) (by decide +kernel)
def N_235 : aAnn := [(4, [(([(3, 9, 0, 0, 0, 1), (0, -2147483648, 2147483647, 0, 0, 2), (3, 15, 0, 0, 0, 3), (0, 0, 1023, 0, 0, 0), (0, 0, 10, 0, 0, 0)], [], []), (10, [(-1, 5)]))])]
set_option maxRecDepth 100000 in
theorem o_235 : okK 86 K_235 := okK_of (C := C_86) (fuel := 3000) rfl (A := A_86) Q_86 (ann := N_235) (spl := []) (mo := []) (by decide) (by decide +kernel)
def N_236 : aAnn := [(2, [(([(3, 9, 0, 0, 0, 1), (0, -2147483648, 2147483647, 0, 0, 2), (3, 15, 0, 0, 0, 3), (0, 0, 6, 0, 0, 0), (4, 0, 0, 0, 0, 0)], [], []), (6, [(-1, 4)]))])]
set_option maxRecDepth 100000 in
theorem o_236 : okK 90 K_236 := okK_of (C := C_90) (fuel := 3000) rfl (A := A_90) Q_90 (ann := N_236) (spl := []) (mo := []) (by decide) (by decide +kernel)
def N_237 : aAnn := [(4, [(([(3, 9, 0, 0, 0, 1), (3, 15, 0, 0, 0, 2), (0, 0, 255, 0, 0, 0), (0, 0, 8, 0, 0, 0)], [], []), (8, [(-1, 4)]))])]
set_option maxRecDepth 100000 in
theorem o_237 : okK 89 K_237 := okK_of (C := C_89) (fuel := 3000) rfl (A := A_89) Q_89 (ann := N_237) (spl := []) (mo := []) (by decide) (by decide +kernel)
def N_238 : aAnn := [(4, [(([(3, 9, 0, 0, 0, 1), (0, -2147483648, 2147483647, 0, 0, 2), (1, 0, 0, 0, 0, 0), (0, 0, 10, 0, 0, 0)], [], []), (10, [(-1, 4)]))])]
set_option maxRecDepth 100000 in
theorem o_238 : okK 102 K_238 := okK_of (C := C_102) (fuel := 3000) rfl (A := A_102) Q_102 (ann := N_238) (spl := []) (mo := []) (by decide) (by decide +kernel)
set_option maxRecDepth 100000 in
theorem o_239 : okK 87 K_239 := okK_of (C := C_87) (fuel := 3000) rfl (A := A_87) Q_87 (ann := []) (spl := []) (mo := []) (by decide) (by decide +kernel)
def N_240 : aAnn := [(4, [(([(3, 9, 0, 0, 0, 1), (3, 15, 0, 0, 0, 2), (0, 0, 63, 0, 0, 0), (0, 0, 6, 0, 0, 0)], [], []), (6, [(-1, 4)]))])]
set_option maxRecDepth 100000 in
theorem o_240 : okK 88 K_240 := okK_of (C := C_88) (fuel := 3000) rfl (A := A_88) Q_88 (ann := N_240) (spl := []) (mo := []) (by decide) (by decide +kernel)
set_option maxRecDepth 100000 in
theorem o_241 : okK 127 K_241 := okK_of (C := C_127) (fuel := 3000) rfl (A := A_127) Q_127 (ann := []) (spl := []) (mo := []) (by decide) (by decide +kernel)
set_option maxRecDepth 100000 in
theorem o_242 : okK 128 K_242 := okK_of (C := C_128) (fuel := 3000) rfl (A := A_128) Q_128 (ann := []) (spl := []) (mo := []) (by decide) (by decide +kernel)
set_option maxRecDepth 100000 in
theorem o_243 : okK 53 K_243 := okK_of (C := C_53) (fuel := 3000) rfl (A := A_53) Q_53 (ann := []) (spl := []) (mo := []) (by decide) (by decide +kernel)
set_option maxRecDepth 100000 in
theorem o_244 : okK 12 K_244 := okK_of (C := C_12) (fuel := 3000) rfl (A := A_12) Q_12 (ann := []) (spl := []) (mo := []) (by decide) (by decide +kernel)
set_option maxRecDepth 100000 in
theorem o_245 : okK 141 K_245 := okK_of (C := C_141) (fuel := 3000) rfl (A := A_141) Q_141 (ann := []) (spl := []) (mo := []) (by decide) (by decide +kernel)
set_option maxRecDepth 100000 in
theorem o_246 : okK 141 K_246 := okK_of (C := C_141) (fuel := 3000) rfl (A := A_141) Q_141 (ann := []) (spl := []) (mo := []) (by decide) (by decide +kernel)
set_option maxRecDepth 100000 in
theorem o_247 : okK 140 K_247 := okK_of (C := C_140) (fuel := 3000) rfl (A := A_140) Q_140 (ann := []) (spl := []) (mo := []) (by decide) (by decide +kernel)
set_option maxRecDepth 100000 in
theorem o_248 : okK 137 K_248 := okK_of (C := C_137) (fuel := 3000) rfl (A := A_137) Q_137 (ann := []) (spl := []) (mo := []) (by decide) (by decide +kernel)
set_option maxRecDepth 100000 in
theorem o_249 : okK 141 K_249 := okK_of (C := C_141) (fuel := 3000) rfl (A := A_141) Q_141 (ann := []) (spl := []) (mo := []) (by decide) (by decide +kernel)
set_option maxRecDepth 100000 in
theorem o_250 : okK 139 K_250 := okK_of (C := C_139) (fuel := 3000) rfl (A := A_139) Q_139 (ann := []) (spl := []) (mo := []) (by decide) (by decide +kernel)
set_option maxRecDepth 100000 in
theorem o_251 : okK 137 K_251 := okK_of (C := C_137) (fuel := 3000) rfl (A := A_137) Q_137 (ann := []) (spl := []) (mo := []) (by decide) (by decide +kernel)
set_option maxRecDepth 100000 in
theorem o_252 : okK 141 K_252 := okK_of (C := C_141) (fuel := 3000) rfl (A := A_141) Q_141 (ann := []) (spl := []) (mo := []) (by decide) (by decide +kernel)
set_option maxRecDepth 100000 in
theorem o_253 : okK 139 K_253 := okK_of (C := C_139) (fuel := 3000) rfl (A := A_139) Q_139 (ann := []) (spl := []) (mo := []) (by decide) (by decide +kernel)
set_option maxRecDepth 100000 in
theorem o_254 : okK 55 K_254 := okK_of (C := C_55) (fuel := 3000) rfl (A := A_55) Q_55 (ann := []) (spl := []) (mo := []) (by decide) (by decide +kernel)
def N_255 : aAnn := [(14, [(([(3, 2, 0, 0, 0, 1), (0, 0, 40, 0, 0, 0)], [], [(1, 1, (0, 1, 80, 0, 0, 0)), (3, 2, (0, 0, 40, 0, 0, 0))]), (40, [(-1, 2)]))])]
set_option maxRecDepth 100000 in
theorem o_255 : okK 54 K_255 := okK_of (C := C_54) (fuel := 3000) rfl (A := A_54) Q_54 (ann := N_255) (spl := []) (mo := []) (by decide) (by decide +kernel)
set_option maxRecDepth 100000 in
theorem o_256 : okK 91 K_256 := okK_of (C := C_91) (fuel := 3000) rfl (A := A_91) Q_91 (ann := []) (spl := []) (mo := []) (by decide) (by decide +kernel)
set_option maxRecDepth 100000 in
theorem o_257 : okK 128 K_257 := okK_of (C := C_128) (fuel := 3000) rfl (A := A_128) Q_128 (ann := []) (spl := []) (mo := []) (by decide) (by decide +kernel)
set_option maxRecDepth 100000 in
theorem o_258 : okK 47 K_258 := okK_of (C := C_47) (fuel := 3000) rfl (A := A_47) Q_47 (ann := []) (spl := []) (mo := []) (by decide) (by decide +kernel)
set_option maxRecDepth 100000 in
theorem o_259 : okK 154 K_259 := okK_of (C := C_154) (fuel := 3000) rfl (A := A_154) Q_154 (ann := []) (spl := []) (mo := []) (by decide) (by decide +kernel)
def N_260 : aAnn := [(29, [(([(3, 2, 0, 0, 0, 1), (0, -1, -1, 0, 0, 0), (0, 0, 20, 0, 0, 0), (1, 0, 0, 0, 0, 0), (1, 0, 0, 0, 0, 0), (0, 0, 20, 0, 0, 0), (4, 0, 0, 0, 0, 0)], [], [(3, 2, (0, 0, 40, 0, 0, 0)), (3, 3, (0, -1, -1, 0, 0, 0))]), (20, [(-1, 6)]))])]
set_option maxRecDepth 100000 in
theorem o_260 : okK 13 K_260 := okK_of (C := C_13) (fuel := 3000) rfl (A := A_13) Q_13 (ann := N_260) (spl := []) (mo := []) (by decide) (by decide +kernel)
set_option maxRecDepth 100000 in
theorem o_261 : okK 47 K_261 := okK_of (C := C_47) (fuel := 3000) rfl (A := A_47) Q_47 (ann := []) (spl := []) (mo := []) (by decide) (by decide +kernel)
set_option maxRecDepth 100000 in
theorem o_262 : okK 47 K_262 := okK_of (C := C_47) (fuel := 3000) rfl (A := A_47) Q_47 (ann := []) (spl := []) (mo := []) (by decide) (by decide +kernel)
set_option maxRecDepth 100000 in
theorem o_263 : okK 47 K_263 := okK_of (C := C_47) (fuel := 3000) rfl (A := A_47) Q_47 (ann := []) (spl := []) (mo := []) (by decide) (by decide +kernel)
set_option maxRecDepth 100000 in
theorem o_264 : okK 14 K_264 := okK_of (C := C_14) (fuel := 3000) rfl (A := A_14) Q_14 (ann := []) (spl := []) (mo := []) (by decide) (by decide +kernel)
def N_265 : aAnn := [(2, [(([(3, 15, 0, 0, 0, 1), (3, 61, 0, 0, 0, 2), (0, 0, 10, 0, 0, 0)], [], []), (10, [(-1, 3)]))])]
set_option maxRecDepth 100000 in
theorem o_265 : okK 48 K_265 := okK_of (C := C_48) (fuel := 3000) rfl (A := A_48) Q_48 (ann := N_265) (spl := []) (mo := []) (by decide) (by decide +kernel)
set_option maxRecDepth 100000 in
theorem o_266 : okK 47 K_266 := okK_of (C := C_47) (fuel := 3000) rfl (A := A_47) Q_47 (ann := []) (spl := []) (mo := []) (by decide) (by decide +kernel)
def N_267 : aAnn := [(4, [(([(3, 9, 0, 0, 0, 1), (0, -2147483648, 2147483647, 0, 0, 2), (3, 61, 0, 0, 0, 3), (0, 0, 1023, 0, 0, 0), (0, 0, 10, 0, 0, 0)], [], []), (10, [(-1, 5)]))])]
set_option maxRecDepth 100000 in
theorem o_267 : okK 86 K_267 := okK_of (C := C_86) (fuel := 3000) rfl (A := A_86) Q_86 (ann := N_267) (spl := []) (mo := []) (by decide) (by decide +kernel)
def N_268 : aAnn := [(2, [(([(3, 9, 0, 0, 0, 1), (0, -2147483648, 2147483647, 0, 0, 2), (3, 61, 0, 0, 0, 3), (0, 0, 6, 0, 0, 0), (4, 0, 0, 0, 0, 0)], [], []), (6, [(-1, 4)]))])]
set_option maxRecDepth 100000 in
theorem o_268 : okK 90 K_268 := okK_of (C := C_90) (fuel := 3000) rfl (A := A_90) Q_90 (ann := N_268) (spl := []) (mo := []) (by decide) (by decide +kernel)
def N_269 : aAnn := [(4, [(([(3, 9, 0, 0, 0, 1), (3, 61, 0, 0, 0, 2), (0, 0, 255, 0, 0, 0), (0, 0, 8, 0, 0, 0)], [], []), (8, [(-1, 4)]))])]
set_option maxRecDepth 100000 in
theorem o_269 : okK 89 K_269 := okK_of (C := C_89) (fuel := 3000) rfl (A := A_89) Q_89 (ann := N_269) (spl := []) (mo := []) (by decide) (by decide +kernel)
set_option maxRecDepth 100000 in
theorem o_270 : okK 87 K_270 := okK_of (C := C_87) (fuel := 3000) rfl (A := A_87) Q_87 (ann := []) (spl := []) (mo := []) (by decide) (by decide +kernel)
def N_271 : aAnn := [(4, [(([(3, 9, 0, 0, 0, 1), (3, 61, 0, 0, 0, 2), (0, 0, 63, 0, 0, 0), (0, 0, 6, 0, 0, 0)], [], []), (6, [(-1, 4)]))])]
set_option maxRecDepth 100000 in
theorem o_271 : okK 88 K_271 := okK_of (C := C_88) (fuel := 3000) rfl (A := A_88) Q_88 (ann := N_271) (spl := []) (mo := []) (by decide) (by decide +kernel)
set_option maxRecDepth 100000 in
theorem o_272 : okK 91 K_272 := okK_of (C := C_91) (fuel := 3000) rfl (A := A_91) Q_91 (ann := []) (spl := []) (mo := []) (by decide) (by decide +kernel)
set_option maxRecDepth 100000 in
theorem o_273 : okK 51 K_273 := okK_of (C := C_51) (fuel := 3000) rfl (A := A_51) Q_51 (ann := []) (spl := []) (mo := []) (by decide) (by decide +kernel)
def N_274 : aAnn := [(19, [(([(3, 2, 0, 0, 0, 1), (0, 0, 4, 0, 0, 2), (0, -2147483648, 2147483647, 0, 0, 3), (1, 0, 0, 0, 0, 0), (0, -2, 3, 0, 0, 0), (0, 0, 4, 0, 0, 0), (4, 0, 0, 0, 0, 0), (4, 0, 0, 0, 0, 0)], [], []), (4, [(-1, 6)]))])]
set_option maxRecDepth 100000 in
theorem o_274 : okK 15 K_274 := okK_of (C := C_15) (fuel := 3000) rfl (A := A_15) Q_15 (ann := N_274) (spl := [(33, [(7, 99)])]) (mo := []) (by decide) (by decide +kernel)
def N_275 : aAnn := [(5, [(([(3, 2, 0, 0, 0, 1), (0, 0, 10, 0, 0, 0)], [], []), (10, [(-1, 2)]))])]
set_option maxRecDepth 100000 in
theorem o_275 : okK 16 K_275 := okK_of (C := C_16) (fuel := 3000) rfl (A := A_16) Q_16 (ann := N_275) (spl := []) (mo := []) (by decide) (by decide +kernel)
set_option maxRecDepth 100000 in
theorem o_276 : okK 47 K_276 := okK_of (C := C_47) (fuel := 3000) rfl (A := A_47) Q_47 (ann := []) (spl := []) (mo := []) (by decide) (by decide +kernel)
set_option maxRecDepth 100000 in
theorem o_277 : okK 101 K_277 := okK_of (C := C_101) (fuel := 3000) rfl (A := A_101) Q_101 (ann := []) (spl := []) (mo := []) (by decide) (by decide +kernel)
def N_278 : aAnn := [(4, [(([(3, 9, 0, 0, 0, 1), (1, 0, 0, 0, 0, 2), (0, 0, 63, 0, 0, 0), (0, 0, 6, 0, 0, 0)], [], []), (6, [(-1, 4)]))])]
set_option maxRecDepth 100000 in
theorem o_278 : okK 103 K_278 := okK_of (C := C_103) (fuel := 3000) rfl (A := A_103) Q_103 (ann := N_278) (spl := []) (mo := []) (by decide) (by decide +kernel)
def N_279 : aAnn := [(10, [(([(3, 2, 0, 0, 0, 1), (0, 0, 9, 0, 0, 0), (0, 1, 10, 0, 0, 0)], [], [(7, 10, (0, 1, 10, 0, 0, 0))]), (10, [(-1, 3)]))])]
set_option maxRecDepth 100000 in
theorem o_279 : okK 17 K_279 := okK_of (C := C_17) (fuel := 3000) rfl (A := A_17) Q_17 (ann := N_279) (spl := []) (mo := []) (by decide) (by decide +kernel)
def N_280 : aAnn := [(4, [(([(3, 9, 0, 0, 0, 1), (0, -2147483648, 2147483647, 0, 0, 2), (0, 0, 255, 0, 0, 0), (0, 0, 8, 0, 0, 0)], [], []), (8, [(-1, 4)]))])]
set_option maxRecDepth 100000 in
theorem o_280 : okK 94 K_280 := okK_of (C := C_94) (fuel := 3000) rfl (A := A_94) Q_94 (ann := N_280) (spl := []) (mo := []) (by decide) (by decide +kernel)
def N_281 : aAnn := [(6, [(([(3, 9, 0, 0, 0, 1), (0, 0, 9, 0, 0, 2), (0, -2147483648, 2147483647, 0, 0, 3), (0, -2147483648, 2147483647, 0, 0, 4), (0, 0, 1023, 0, 0, 0), (0, 0, 8, 0, 0, 0), (4, 0, 0, 0, 0, 0)], [], []), (89, [(-10, 6)]))]), (12, [(([(3, 9, 0, 0, 0, 1), (0, 0, 9, 0, 0, 2), (0, -2147483648, 2147483647, 0, 0, 3), (0, -2147483648, 2147483647, 0, 0, 4), (0, 0, 1023, 0, 0, 0), (0, 0, 7, 0, 0, 0), (0, 0, 8, 0, 0, 0)], [], [(7, 11, (0, 1, 8, 0, 0, 0))]), (88, [(-10, 6), (-1, 7)]))])]
set_option maxRecDepth 100000 in
theorem o_281 : okK 96 K_281 := okK_of (C := C_96) (fuel := 3000) rfl (A := A_96) Q_96 (ann := N_281) (spl := []) (mo := []) (by decide) (by decide +kernel)
def N_282 : aAnn := [(6, [(([(3, 9, 0, 0, 0, 1), (0, -2147483648, 2147483647, 0, 0, 2), (0, -2147483648, 2147483647, 0, 0, 3), (1, 0, 0, 0, 0, 0), (0, -2147483648, 2147483647, 0, 0, 0), (0, 0, 10, 0, 0, 0)], [], []), (10, [(-1, 6)]))])]
set_option maxRecDepth 100000 in
theorem o_282 : okK 97 K_282 := okK_of (C := C_97) (fuel := 3000) rfl (A := A_97) Q_97 (ann := N_282) (spl := []) (mo := []) (by decide) (by decide +kernel)
set_option maxRecDepth 100000 in
theorem o_283 : okK 18 K_283 := okK_of (C := C_18) (fuel := 3000) rfl (A := A_18) Q_18 (ann := []) (spl := []) (mo := []) (by decide) (by decide +kernel)
def N_284 : aAnn := [(2, [(([(3, 9, 0, 0, 0, 1), (0, -2147483648, 2147483647, 0, 0, 2), (0, 0, 8, 0, 0, 0)], [], []), (8, [(-1, 3)]))])]
set_option maxRecDepth 100000 in
theorem o_284 : okK 95 K_284 := okK_of (C := C_95) (fuel := 3000) rfl (A := A_95) Q_95 (ann := N_284) (spl := []) (mo := []) (by decide) (by decide +kernel)
set_option maxRecDepth 100000 in
theorem o_285 : okK 19 K_285 := okK_of (C := C_19) (fuel := 3000) rfl (A := A_19) Q_19 (ann := []) (spl := []) (mo := []) (by decide) (by decide +kernel)
def N_286 : aAnn := [(4, [(([(3, 2, 0, 0, 0, 1), (0, 0, 255, 0, 0, 0), (0, 0, 8, 0, 0, 0)], [], []), (8, [(-1, 3)]))])]
set_option maxRecDepth 100000 in
theorem o_286 : okK 20 K_286 := okK_of (C := C_20) (fuel := 3000) rfl (A := A_20) Q_20 (ann := N_286) (spl := []) (mo := []) (by decide) (by decide +kernel)
def N_287 : aAnn := [(4, [(([(3, 9, 0, 0, 0, 1), (0, 0, 999999, 0, 0, 0), (0, 0, 10, 0, 0, 0)], [], []), (10, [(-1, 3)]))])]
set_option maxRecDepth 100000 in
theorem o_287 : okK 92 K_287 := okK_of (C := C_92) (fuel := 3000) rfl (A := A_92) Q_92 (ann := N_287) (spl := []) (mo := []) (by decide) (by decide +kernel)
set_option maxRecDepth 100000 in
theorem o_288 : okK 69 K_288 := okK_of (C := C_69) (fuel := 3000) rfl (A := A_69) Q_69 (ann := []) (spl := []) (mo := []) (by decide) (by decide +kernel)
def N_289 : aAnn := [(2, [(([(3, 10, 0, 0, 0, 1), (3, 35, 0, 0, 0, 2), (0, 0, 6, 0, 0, 0)], [], []), (6, [(-1, 3)]))])]
set_option maxRecDepth 100000 in
theorem o_289 : okK 48 K_289 := okK_of (C := C_48) (fuel := 3000) rfl (A := A_48) Q_48 (ann := N_289) (spl := []) (mo := []) (by decide) (by decide +kernel)
def N_290 : aAnn := [(22, [(([(3, 34, 0, 0, 0, 1), (3, 9, 0, 0, 0, 2), (0, -2147483648, 2147483647, 0, 0, 3), (0, 0, 6, 0, 0, 0)], [], [(32, 7, (0, 0, 0, 0, 0, 0)), (32, 8, (0, 0, 0, 0, 0, 0)), (32, 9, (0, 0, 0, 0, 0, 0))]), (78, [(-1, 4)]))]), (34, [(([(3, 34, 0, 0, 0, 1), (3, 9, 0, 0, 0, 2), (0, -2147483648, 2147483647, 0, 0, 3), (0, 0, 60, 0, 0, 0)], [], [(32, 7, (0, 0, 0, 0, 0, 0)), (32, 8, (0, 0, 0, 0, 0, 0)), (32, 9, (0, 0, 0, 0, 0, 0))]), (71, [(-1, 4)]))]), (48, [(([(3, 34, 0, 0, 0, 1), (3, 9, 0, 0, 0, 2), (0, -2147483648, 2147483647, 0, 0, 3), (0, 0, 10, 0, 0, 0)], [], [(32, 8, (0, 0, 0, 0, 0, 0)), (32, 9, (0, 0, 0, 0, 0, 0))]), (10, [(-1, 4)]))])]
set_option maxRecDepth 100000 in
theorem o_290 : okK 160 K_290 := okK_of (C := C_160) (fuel := 3000) rfl (A := A_160) Q_160 (ann := N_290) (spl := []) (mo := []) (by decide) (by decide +kernel)
def N_291 : aAnn := [(4, [(([(3, 34, 0, 0, 0, 1), (1, 0, 0, 0, 0, 0), (0, 0, 6, 0, 0, 0)], [], []), (17, [(-1, 3)]))]), (26, [(([(3, 34, 0, 0, 0, 1), (1, 0, 0, 0, 0, 0), (0, 0, 10, 0, 0, 0)], [], []), (10, [(-1, 3)]))])]
set_option maxRecDepth 100000 in
theorem o_291 : okK 164 K_291 := okK_of (C := C_164) (fuel := 3000) rfl (A := A_164) Q_164 (ann := N_291) (spl := []) (mo := []) (by decide) (by decide +kernel)
def N_292 : aAnn := [(28, [(([(3, 34, 0, 0, 0, 1), (0, 0, 9, 0, 0, 2), (0, -1, 5, 0, 0, 0), (0, 0, 6, 0, 0, 0)], [], []), (6, [(-1, 4)]))])]
set_option maxRecDepth 100000 in
theorem o_292 : okK 165 K_292 := okK_of (C := C_165) (fuel := 3000) rfl (A := A_165) Q_165 (ann := N_292) (spl := []) (mo := []) (by decide) (by decide +kernel)
def N_293 : aAnn := [(25, [(([(3, 34, 0, 0, 0, 1), (0, -1, 10, 0, 0, 0), (0, 0, 1000000, 0, 0, 0)], [], [(32, 8, (0, 1, 1, 0, 0, 0)), (32, 9, (0, 0, 0, 0, 0, 0))]), (1000000, [(-1, 3)]))])]
set_option maxRecDepth 100000 in
theorem o_293 : okK 163 K_293 := okK_of (C := C_163) (fuel := 3000) rfl (A := A_163) Q_163 (ann := N_293) (spl := []) (mo := []) (by decide) (by decide +kernel)
set_option maxRecDepth 100000 in
theorem o_294 : okK 47 K_294 := okK_of (C := C_47) (fuel := 3000) rfl (A := A_47) Q_47 (ann := []) (spl := []) (mo := []) (by decide) (by decide +kernel)
def N_295 : aAnn := [(4, [(([(3, 34, 0, 0, 0, 1), (1, 0, 0, 0, 0, 0), (0, 0, 10, 0, 0, 0)], [], []), (10, [(-1, 3)]))])]
set_option maxRecDepth 100000 in
theorem o_295 : okK 166 K_295 := okK_of (C := C_166) (fuel := 3000) rfl (A := A_166) Q_166 (ann := N_295) (spl := []) (mo := []) (by decide) (by decide +kernel)
def N_296 : aAnn := [(2, [(([(3, 38, 0, 0, 0, 1), (3, 40, 0, 0, 0, 2), (0, 0, 10, 0, 0, 0)], [], []), (10, [(-1, 3)]))])]
set_option maxRecDepth 100000 in
theorem o_296 : okK 48 K_296 := okK_of (C := C_48) (fuel := 3000) rfl (A := A_48) Q_48 (ann := N_296) (spl := []) (mo := []) (by decide) (by decide +kernel)
def N_297 : aAnn := [(8, [(([(3, 34, 0, 0, 0, 1), (0, 0, 1000000, 0, 0, 0), (4, 0, 0, 0, 0, 0)], [], []), (1000000, [(-1, 2)]))])]
set_option maxRecDepth 100000 in
theorem o_297 : okK 167 K_297 := okK_of (C := C_167) (fuel := 3000) rfl (A := A_167) Q_167 (ann := N_297) (spl := []) (mo := []) (by decide) (by decide +kernel)
set_option maxRecDepth 100000 in
theorem o_298 : okK 47 K_298 := okK_of (C := C_47) (fuel := 3000) rfl (A := A_47) Q_47 (ann := []) (spl := []) (mo := []) (by decide) (by decide +kernel)
def N_299 : aAnn := [(2, [(([(3, 2, 0, 0, 0, 1), (0, 0, 10, 0, 0, 0)], [], []), (10, [(-1, 2)]))])]
set_option maxRecDepth 100000 in
theorem o_299 : okK 58 K_299 := okK_of (C := C_58) (fuel := 3000) rfl (A := A_58) Q_58 (ann := N_299) (spl := []) (mo := []) (by decide) (by decide +kernel)
set_option maxRecDepth 100000 in
theorem o_300 : okK 21 K_300 := okK_of (C := C_21) (fuel := 3000) rfl (A := A_21) Q_21 (ann := []) (spl := []) (mo := []) (by decide) (by decide +kernel)
def N_301 : aAnn := [(4, [(([(3, 9, 0, 0, 0, 1), (0, -2147483648, 2147483647, 0, 0, 2), (0, 0, 255, 0, 0, 0), (0, 0, 8, 0, 0, 0)], [], []), (8, [(-1, 4)]))])]
set_option maxRecDepth 100000 in
theorem o_301 : okK 93 K_301 := okK_of (C := C_93) (fuel := 3000) rfl (A := A_93) Q_93 (ann := N_301) (spl := []) (mo := []) (by decide) (by decide +kernel)
set_option maxRecDepth 100000 in
theorem o_302 : okK 270 K_302 := okK_of (C := C_270) (fuel := 3000) rfl (A := A_270) Q_270 (ann := []) (spl := []) (mo := []) (by decide) (by decide +kernel)
def N_303 : aAnn := [(4, [(([(3, 9, 0, 0, 0, 1), (0, -2147483648, 2147483647, 0, 0, 2), (0, -2147483648, 2147483647, 0, 0, 3), (0, 0, 63, 0, 0, 0), (0, 0, 6, 0, 0, 0)], [], []), (6, [(-1, 5)]))])]
set_option maxRecDepth 100000 in
theorem o_303 : okK 77 K_303 := okK_of (C := C_77) (fuel := 3000) rfl (A := A_77) Q_77 (ann := N_303) (spl := []) (mo := []) (by decide) (by decide +kernel)
set_option maxRecDepth 100000 in
theorem o_304 : okK 132 K_304 := okK_of (C := C_132) (fuel := 3000) rfl (A := A_132) Q_132 (ann := []) (spl := []) (mo := []) (by decide) (by decide +kernel)
set_option maxRecDepth 100000 in
theorem o_305 : okK 133 K_305 := okK_of (C := C_133) (fuel := 3000) rfl (A := A_133) Q_133 (ann := []) (spl := []) (mo := []) (by decide) (by decide +kernel)
set_option maxRecDepth 100000 in
theorem o_306 : okK 138 K_306 := okK_of (C := C_138) (fuel := 3000) rfl (A := A_138) Q_138 (ann := []) (spl := []) (mo := []) (by decide) (by decide +kernel)
set_option maxRecDepth 100000 in
theorem o_307 : okK 135 K_307 := okK_of (C := C_135) (fuel := 3000) rfl (A := A_135) Q_135 (ann := []) (spl := []) (mo := []) (by decide) (by decide +kernel)
set_option maxRecDepth 100000 in
theorem o_308 : okK 133 K_308 := okK_of (C := C_133) (fuel := 3000) rfl (A := A_133) Q_133 (ann := []) (spl := []) (mo := []) (by decide) (by decide +kernel)
set_option maxRecDepth 100000 in
theorem o_309 : okK 135 K_309 := okK_of (C := C_135) (fuel := 3000) rfl (A := A_135) Q_135 (ann := []) (spl := []) (mo := []) (by decide) (by decide +kernel)
set_option maxRecDepth 100000 in
theorem o_310 : okK 141 K_310 := okK_of (C := C_141) (fuel := 3000) rfl (A := A_141) Q_141 (ann := []) (spl := []) (mo := []) (by decide) (by decide +kernel)
set_option maxRecDepth 100000 in
theorem o_311 : okK 141 K_311 := okK_of (C := C_141) (fuel := 3000) rfl (A := A_141) Q_141 (ann := []) (spl := []) (mo := []) (by decide) (by decide +kernel)
set_option maxRecDepth 100000 in
theorem o_312 : okK 139 K_312 := okK_of (C := C_139) (fuel := 3000) rfl (A := A_139) Q_139 (ann := []) (spl := []) (mo := []) (by decide) (by decide +kernel)
set_option maxRecDepth 100000 in
theorem o_313 : okK 133 K_313 := okK_of (C := C_133) (fuel := 3000) rfl (A := A_133) Q_133 (ann := []) (spl := []) (mo := []) (by decide) (by decide +kernel)
set_option maxRecDepth 100000 in
theorem o_314 : okK 138 K_314 := okK_of (C := C_138) (fuel := 3000) rfl (A := A_138) Q_138 (ann := []) (spl := []) (mo := []) (by decide) (by decide +kernel)
set_option maxRecDepth 100000 in
theorem o_315 : okK 133 K_315 := okK_of (C := C_133) (fuel := 3000) rfl (A := A_133) Q_133 (ann := []) (spl := []) (mo := []) (by decide) (by decide +kernel)
set_option maxRecDepth 100000 in
theorem o_316 : okK 138 K_316 := okK_of (C := C_138) (fuel := 3000) rfl (A := A_138) Q_138 (ann := []) (spl := []) (mo := []) (by decide) (by decide +kernel)
set_option maxRecDepth 100000 in
theorem o_317 : okK 133 K_317 := okK_of (C := C_133) (fuel := 3000) rfl (A := A_133) Q_133 (ann := []) (spl := []) (mo := []) (by decide) (by decide +kernel)
set_option maxRecDepth 100000 in
theorem o_318 : okK 135 K_318 := okK_of (C := C_135) (fuel := 3000) rfl (A := A_135) Q_135 (ann := []) (spl := []) (mo := []) (by decide) (by decide +kernel)
set_option maxRecDepth 100000 in
theorem o_319 : okK 141 K_319 := okK_of (C := C_141) (fuel := 3000) rfl (A := A_141) Q_141 (ann := []) (spl := []) (mo := []) (by decide) (by decide +kernel)
set_option maxRecDepth 100000 in
theorem o_320 : okK 141 K_320 := okK_of (C := C_141) (fuel := 3000) rfl (A := A_141) Q_141 (ann := []) (spl := []) (mo := []) (by decide) (by decide +kernel)
set_option maxRecDepth 100000 in
theorem o_321 : okK 139 K_321 := okK_of (C := C_139) (fuel := 3000) rfl (A := A_139) Q_139 (ann := []) (spl := []) (mo := []) (by decide) (by decide +kernel)
set_option maxRecDepth 100000 in
theorem o_322 : okK 133 K_322 := okK_of (C := C_133) (fuel := 3000) rfl (A := A_133) Q_133 (ann := []) (spl := []) (mo := []) (by decide) (by decide +kernel)
set_option maxRecDepth 100000 in
theorem o_323 : okK 138 K_323 := okK_of (C := C_138) (fuel := 3000) rfl (A := A_138) Q_138 (ann := []) (spl := []) (mo := []) (by decide) (by decide +kernel)
set_option maxRecDepth 100000 in
theorem o_324 : okK 133 K_324 := okK_of (C := C_133) (fuel := 3000) rfl (A := A_133) Q_133 (ann := []) (spl := []) (mo := []) (by decide) (by decide +kernel)
set_option maxRecDepth 100000 in
theorem o_325 : okK 138 K_325 := okK_of (C := C_138) (fuel := 3000) rfl (A := A_138) Q_138 (ann := []) (spl := []) (mo := []) (by decide) (by decide +kernel)
set_option maxRecDepth 100000 in
theorem o_326 : okK 133 K_326 := okK_of (C := C_133) (fuel := 3000) rfl (A := A_133) Q_133 (ann := []) (spl := []) (mo := []) (by decide) (by decide +kernel)
set_option maxRecDepth 100000 in
theorem o_327 : okK 135 K_327 := okK_of (C := C_135) (fuel := 3000) rfl (A := A_135) Q_135 (ann := []) (spl := []) (mo := []) (by decide) (by decide +kernel)
set_option maxRecDepth 100000 in
theorem o_328 : okK 141 K_328 := okK_of (C := C_141) (fuel := 3000) rfl (A := A_141) Q_141 (ann := []) (spl := []) (mo := []) (by decide) (by decide +kernel)
set_option maxRecDepth 100000 in
theorem o_329 : okK 141 K_329 := okK_of (C := C_141) (fuel := 3000) rfl (A := A_141) Q_141 (ann := []) (spl := []) (mo := []) (by decide) (by decide +kernel)
set_option maxRecDepth 100000 in
theorem o_330 : okK 139 K_330 := okK_of (C := C_139) (fuel := 3000) rfl (A := A_139) Q_139 (ann := []) (spl := []) (mo := []) (by decide) (by decide +kernel)
set_option maxRecDepth 100000 in
theorem o_331 : okK 151 K_331 := okK_of (C := C_151) (fuel := 3000) rfl (A := A_151) Q_151 (ann := []) (spl := []) (mo := []) (by decide) (by decide +kernel)
set_option maxRecDepth 100000 in
theorem o_332 : okK 138 K_332 := okK_of (C := C_138) (fuel := 3000) rfl (A := A_138) Q_138 (ann := []) (spl := []) (mo := []) (by decide) (by decide +kernel)
set_option maxRecDepth 100000 in
theorem o_333 : okK 150 K_333 := okK_of (C := C_150) (fuel := 3000) rfl (A := A_150) Q_150 (ann := []) (spl := []) (mo := []) (by decide) (by decide +kernel)
def N_334 : aAnn := [(4, [(([(3, 29, 0, 0, 0, 1), (3, 32, 0, 0, 0, 2), (0, 4, 4, 0, 0, 3), (0, 0, 1, 0, 0, 0), (0, 0, 40, 0, 0, 0)], [], []), (40, [(-1, 5)]))])]
set_option maxRecDepth 100000 in
theorem o_334 : okK 149 K_334 := okK_of (C := C_149) (fuel := 3000) rfl (A := A_149) Q_149 (ann := N_334) (spl := []) (mo := []) (by decide) (by decide +kernel)
def N_335 : aAnn := [(7, [(([(3, 29, 0, 0, 0, 1), (3, 32, 0, 0, 0, 2), (0, 4, 4, 0, 0, 3), (1, 0, 0, 0, 0, 0), (0, 0, 40, 0, 0, 0), (4, 0, 0, 0, 0, 0), (4, 0, 0, 0, 0, 0)], [], []), (40, [(-1, 5)]))])]
set_option maxRecDepth 100000 in
theorem o_335 : okK 148 K_335 := okK_of (C := C_148) (fuel := 3000) rfl (A := A_148) Q_148 (ann := N_335) (spl := []) (mo := []) (by decide) (by decide +kernel)
def N_336 : aAnn := [(7, [(([(3, 29, 0, 0, 0, 1), (3, 32, 0, 0, 0, 2), (0, 4, 4, 0, 0, 3), (1, 0, 0, 0, 0, 0), (0, 0, 40, 0, 0, 0), (4, 0, 0, 0, 0, 0), (4, 0, 0, 0, 0, 0)], [], []), (40, [(-1, 5)]))])]
set_option maxRecDepth 100000 in
theorem o_336 : okK 147 K_336 := okK_of (C := C_147) (fuel := 3000) rfl (A := A_147) Q_147 (ann := N_336) (spl := []) (mo := []) (by decide) (by decide +kernel)
set_option maxRecDepth 100000 in
theorem o_337 : okK 146 K_337 := okK_of (C := C_146) (fuel := 3000) rfl (A := A_146) Q_146 (ann := []) (spl := []) (mo := []) (by decide) (by decide +kernel)
set_option maxRecDepth 100000 in
theorem o_338 : okK 135 K_338 := okK_of (C := C_135) (fuel := 3000) rfl (A := A_135) Q_135 (ann := []) (spl := []) (mo := []) (by decide) (by decide +kernel)
set_option maxRecDepth 100000 in
theorem o_339 : okK 133 K_339 := okK_of (C := C_133) (fuel := 3000) rfl (A := A_133) Q_133 (ann := []) (spl := []) (mo := []) (by decide) (by decide +kernel)
set_option maxRecDepth 100000 in
theorem o_340 : okK 135 K_340 := okK_of (C := C_135) (fuel := 3000) rfl (A := A_135) Q_135 (ann := []) (spl := []) (mo := []) (by decide) (by decide +kernel)
set_option maxRecDepth 100000 in
theorem o_341 : okK 137 K_341 := okK_of (C := C_137) (fuel := 3000) rfl (A := A_137) Q_137 (ann := []) (spl := []) (mo := []) (by decide) (by decide +kernel)
set_option maxRecDepth 100000 in
theorem o_342 : okK 150 K_342 := okK_of (C := C_150) (fuel := 3000) rfl (A := A_150) Q_150 (ann := []) (spl := []) (mo := []) (by decide) (by decide +kernel)
def N_343 : aAnn := [(4, [(([(3, 29, 0, 0, 0, 1), (3, 32, 0, 0, 0, 2), (0, 3, 3, 0, 0, 3), (0, 0, 1, 0, 0, 0), (0, 0, 40, 0, 0, 0)], [], []), (40, [(-1, 5)]))])]
set_option maxRecDepth 100000 in
theorem o_343 : okK 149 K_343 := okK_of (C := C_149) (fuel := 3000) rfl (A := A_149) Q_149 (ann := N_343) (spl := []) (mo := []) (by decide) (by decide +kernel)
def N_344 : aAnn := [(7, [(([(3, 29, 0, 0, 0, 1), (3, 32, 0, 0, 0, 2), (0, 3, 3, 0, 0, 3), (1, 0, 0, 0, 0, 0), (0, 0, 40, 0, 0, 0), (4, 0, 0, 0, 0, 0), (4, 0, 0, 0, 0, 0)], [], []), (40, [(-1, 5)]))])]
set_option maxRecDepth 100000 in
theorem o_344 : okK 148 K_344 := okK_of (C := C_148) (fuel := 3000) rfl (A := A_148) Q_148 (ann := N_344) (spl := []) (mo := []) (by decide) (by decide +kernel)
def N_345 : aAnn := [(7, [(([(3, 29, 0, 0, 0, 1), (3, 32, 0, 0, 0, 2), (0, 3, 3, 0, 0, 3), (1, 0, 0, 0, 0, 0), (0, 0, 40, 0, 0, 0), (4, 0, 0, 0, 0, 0), (4, 0, 0, 0, 0, 0)], [], []), (40, [(-1, 5)]))])]
set_option maxRecDepth 100000 in
theorem o_345 : okK 147 K_345 := okK_of (C := C_147) (fuel := 3000) rfl (A := A_147) Q_147 (ann := N_345) (spl := []) (mo := []) (by decide) (by decide +kernel)
set_option maxRecDepth 100000 in
theorem o_346 : okK 146 K_346 := okK_of (C := C_146) (fuel := 3000) rfl (A := A_146) Q_146 (ann := []) (spl := []) (mo := []) (by decide) (by decide +kernel)
set_option maxRecDepth 100000 in
theorem o_347 : okK 150 K_347 := okK_of (C := C_150) (fuel := 3000) rfl (A := A_150) Q_150 (ann := []) (spl := []) (mo := []) (by decide) (by decide +kernel)
def N_348 : aAnn := [(4, [(([(3, 29, 0, 0, 0, 1), (3, 32, 0, 0, 0, 2), (0, 2, 2, 0, 0, 3), (0, 0, 1, 0, 0, 0), (0, 0, 40, 0, 0, 0)], [], []), (40, [(-1, 5)]))])]
set_option maxRecDepth 100000 in
theorem o_348 : okK 149 K_348 := okK_of (C := C_149) (fuel := 3000) rfl (A := A_149) Q_149 (ann := N_348) (spl := []) (mo := []) (by decide) (by decide +kernel)
def N_349 : aAnn := [(7, [(([(3, 29, 0, 0, 0, 1), (3, 32, 0, 0, 0, 2), (0, 2, 2, 0, 0, 3), (1, 0, 0, 0, 0, 0), (0, 0, 40, 0, 0, 0), (4, 0, 0, 0, 0, 0), (4, 0, 0, 0, 0, 0)], [], []), (40, [(-1, 5)]))])]
set_option maxRecDepth 100000 in
theorem o_349 : okK 148 K_349 := okK_of (C := C_148) (fuel := 3000) rfl (A := A_148) Q_148 (ann := N_349) (spl := []) (mo := []) (by decide) (by decide +kernel)
def N_350 : aAnn := [(7, [(([(3, 29, 0, 0, 0, 1), (3, 32, 0, 0, 0, 2), (0, 2, 2, 0, 0, 3), (1, 0, 0, 0, 0, 0), (0, 0, 40, 0, 0, 0), (4, 0, 0, 0, 0, 0), (4, 0, 0, 0, 0, 0)], [], []), (40, [(-1, 5)]))])]
set_option maxRecDepth 100000 in
theorem o_350 : okK 147 K_350 := okK_of (C := C_147) (fuel := 3000) rfl (A := A_147) Q_147 (ann := N_350) (spl := []) (mo := []) (by decide) (by decide +kernel)
set_option maxRecDepth 100000 in
theorem o_351 : okK 146 K_351 := okK_of (C := C_146) (fuel := 3000) rfl (A := A_146) Q_146 (ann := []) (spl := []) (mo := []) (by decide) (by decide +kernel)
set_option maxRecDepth 100000 in
theorem o_352 : okK 150 K_352 := okK_of (C := C_150) (fuel := 3000) rfl (A := A_150) Q_150 (ann := []) (spl := []) (mo := []) (by decide) (by decide +kernel)
def N_353 : aAnn := [(4, [(([(3, 29, 0, 0, 0, 1), (3, 32, 0, 0, 0, 2), (0, 1, 1, 0, 0, 3), (0, 0, 1, 0, 0, 0), (0, 0, 40, 0, 0, 0)], [], []), (40, [(-1, 5)]))])]
set_option maxRecDepth 100000 in
theorem o_353 : okK 149 K_353 := okK_of (C := C_149) (fuel := 3000) rfl (A := A_149) Q_149 (ann := N_353) (spl := []) (mo := []) (by decide) (by decide +kernel)
def N_354 : aAnn := [(7, [(([(3, 29, 0, 0, 0, 1), (3, 32, 0, 0, 0, 2), (0, 1, 1, 0, 0, 3), (1, 0, 0, 0, 0, 0), (0, 0, 40, 0, 0, 0), (4, 0, 0, 0, 0, 0), (4, 0, 0, 0, 0, 0)], [], []), (40, [(-1, 5)]))])]
set_option maxRecDepth 100000 in
theorem o_354 : okK 148 K_354 := okK_of (C := C_148) (fuel := 3000) rfl (A := A_148) Q_148 (ann := N_354) (spl := []) (mo := []) (by decide) (by decide +kernel)
def N_355 : aAnn := [(7, [(([(3, 29, 0, 0, 0, 1), (3, 32, 0, 0, 0, 2), (0, 1, 1, 0, 0, 3), (1, 0, 0, 0, 0, 0), (0, 0, 40, 0, 0, 0), (4, 0, 0, 0, 0, 0), (4, 0, 0, 0, 0, 0)], [], []), (40, [(-1, 5)]))])]
set_option maxRecDepth 100000 in
theorem o_355 : okK 147 K_355 := okK_of (C := C_147) (fuel := 3000) rfl (A := A_147) Q_147 (ann := N_355) (spl := []) (mo := []) (by decide) (by decide +kernel)
set_option maxRecDepth 100000 in
theorem o_356 : okK 146 K_356 := okK_of (C := C_146) (fuel := 3000) rfl (A := A_146) Q_146 (ann := []) (spl := []) (mo := []) (by decide) (by decide +kernel)
set_option maxRecDepth 100000 in
theorem o_357 : okK 150 K_357 := okK_of (C := C_150) (fuel := 3000) rfl (A := A_150) Q_150 (ann := []) (spl := []) (mo := []) (by decide) (by decide +kernel)
def N_358 : aAnn := [(4, [(([(3, 29, 0, 0, 0, 1), (3, 32, 0, 0, 0, 2), (0, 0, 0, 0, 0, 3), (0, 0, 1, 0, 0, 0), (0, 0, 40, 0, 0, 0)], [], []), (40, [(-1, 5)]))])]
set_option maxRecDepth 100000 in
theorem o_358 : okK 149 K_358 := okK_of (C := C_149) (fuel := 3000) rfl (A := A_149) Q_149 (ann := N_358) (spl := []) (mo := []) (by decide) (by decide +kernel)
def N_359 : aAnn := [(7, [(([(3, 29, 0, 0, 0, 1), (3, 32, 0, 0, 0, 2), (0, 0, 0, 0, 0, 3), (1, 0, 0, 0, 0, 0), (0, 0, 40, 0, 0, 0), (4, 0, 0, 0, 0, 0), (4, 0, 0, 0, 0, 0)], [], []), (40, [(-1, 5)]))])]
set_option maxRecDepth 100000 in
theorem o_359 : okK 148 K_359 := okK_of (C := C_148) (fuel := 3000) rfl (A := A_148) Q_148 (ann := N_359) (spl := []) (mo := []) (by decide) (by decide +kernel)
def N_360 : aAnn := [(7, [(([(3, 29, 0, 0, 0, 1), (3, 32, 0, 0, 0, 2), (0, 0, 0, 0, 0, 3), (1, 0, 0, 0, 0, 0), (0, 0, 40, 0, 0, 0), (4, 0, 0, 0, 0, 0), (4, 0, 0, 0, 0, 0)], [], []), (40, [(-1, 5)]))])]
set_option maxRecDepth 100000 in
theorem o_360 : okK 147 K_360 := okK_of (C := C_147) (fuel := 3000) rfl (A := A_147) Q_147 (ann := N_360) (spl := []) (mo := []) (by decide) (by decide +kernel)
set_option maxRecDepth 100000 in
theorem o_361 : okK 146 K_361 := okK_of (C := C_146) (fuel := 3000) rfl (A := A_146) Q_146 (ann := []) (spl := []) (mo := []) (by decide) (by decide +kernel)
set_option maxRecDepth 100000 in
theorem o_362 : okK 134 K_362 := okK_of (C := C_134) (fuel := 3000) rfl (A := A_134) Q_134 (ann := []) (spl := []) (mo := []) (by decide) (by decide +kernel)
set_option maxRecDepth 100000 in
theorem o_363 : okK 145 K_363 := okK_of (C := C_145) (fuel := 3000) rfl (A := A_145) Q_145 (ann := []) (spl := []) (mo := []) (by decide) (by decide +kernel)
set_option maxRecDepth 100000 in
theorem o_364 : okK 144 K_364 := okK_of (C := C_144) (fuel := 3000) rfl (A := A_144) Q_144 (ann := []) (spl := []) (mo := []) (by decide) (by decide +kernel)
def N_365 : aAnn := [(4, [(([(3, 2, 0, 0, 0, 1), (1, 0, 0, 0, 0, 0), (0, 0, 10, 0, 0, 0)], [], []), (10, [(-1, 3)]))])]
set_option maxRecDepth 100000 in
theorem o_365 : okK 22 K_365 := okK_of (C := C_22) (fuel := 3000) rfl (A := A_22) Q_22 (ann := N_365) (spl := []) (mo := []) (by decide) (by decide +kernel)
set_option maxRecDepth 100000 in
theorem o_366 : okK 162 K_366 := okK_of (C := C_162) (fuel := 3000) rfl (A := A_162) Q_162 (ann := []) (spl := []) (mo := []) (by decide) (by decide +kernel)
def N_367 : aAnn := [(16, [(([(3, 2, 0, 0, 0, 1), (0, 0, 10, 0, 0, 0), (4, 0, 0, 0, 0, 0)], [], [(32, 8, (0, 0, 0, 0, 0, 0)), (32, 9, (0, 0, 0, 0, 0, 0))]), (87, [(-8, 2)]))]), (23, [(([(3, 2, 0, 0, 0, 1), (0, 0, 9, 0, 0, 0), (0, 0, 6, 0, 0, 0)], [], [(7, 10, (0, 1, 10, 0, 0, 0)), (32, 8, (0, 0, 0, 0, 0, 0)), (32, 9, (0, 0, 0, 0, 0, 0))]), (86, [(-8, 2), (-1, 3)]))])]
set_option maxRecDepth 100000 in
theorem o_367 : okK 23 K_367 := okK_of (C := C_23) (fuel := 3000) rfl (A := A_23) Q_23 (ann := N_367) (spl := []) (mo := []) (by decide) (by decide +kernel)
set_option maxRecDepth 100000 in
theorem o_368 : okK 161 K_368 := okK_of (C := C_161) (fuel := 3000) rfl (A := A_161) Q_161 (ann := []) (spl := []) (mo := []) (by decide) (by decide +kernel)
def N_369 : aAnn := [(15, [(([(3, 2, 0, 0, 0, 1), (0, -2147483648, 2147483647, 0, 0, 2), (0, -2147483648, 2147483647, 0, 0, 3), (0, 0, 10, 0, 0, 0), (4, 0, 0, 0, 0, 0), (4, 0, 0, 0, 0, 0)], [], [(32, 8, (0, 0, 0, 0, 0, 0)), (32, 9, (0, 0, 0, 0, 0, 0))]), (87, [(-8, 4)]))]), (22, [(([(3, 2, 0, 0, 0, 1), (0, -2147483648, 2147483647, 0, 0, 2), (0, -2147483648, 2147483647, 0, 0, 3), (0, 0, 9, 0, 0, 0), (0, 0, 6, 0, 0, 0), (4, 0, 0, 0, 0, 0)], [], [(7, 10, (0, 1, 10, 0, 0, 0)), (32, 8, (0, 0, 0, 0, 0, 0)), (32, 9, (0, 0, 0, 0, 0, 0))]), (86, [(-8, 4), (-1, 5)]))])]
set_option maxRecDepth 100000 in
theorem o_369 : okK 59 K_369 := okK_of (C := C_59) (fuel := 3000) rfl (A := A_59) Q_59 (ann := N_369) (spl := []) (mo := []) (by decide) (by decide +kernel)
set_option maxRecDepth 100000 in
theorem o_370 : okK 24 K_370 := okK_of (C := C_24) (fuel := 3000) rfl (A := A_24) Q_24 (ann := []) (spl := []) (mo := []) (by decide) (by decide +kernel)
set_option maxRecDepth 100000 in
theorem o_371 : okK 25 K_371 := okK_of (C := C_25) (fuel := 3000) rfl (A := A_25) Q_25 (ann := []) (spl := []) (mo := []) (by decide) (by decide +kernel)
set_option maxRecDepth 100000 in
theorem o_372 : okK 161 K_372 := okK_of (C := C_161) (fuel := 3000) rfl (A := A_161) Q_161 (ann := []) (spl := []) (mo := []) (by decide) (by decide +kernel)
set_option maxRecDepth 100000 in
theorem o_373 : okK 162 K_373 := okK_of (C := C_162) (fuel := 3000) rfl (A := A_162) Q_162 (ann := []) (spl := []) (mo := []) (by decide) (by decide +kernel)
def N_374 : aAnn := [(16, [(([(3, 2, 0, 0, 0, 1), (0, -2147483648, 2147483647, 0, 0, 2), (0, -2147483648, 2147483647, 0, 0, 3), (0, -2147483648, 2147483647, 0, 0, 4), (0, 0, 10, 0, 0, 0)], [], [(32, 8, (0, 0, 0, 0, 0, 0)), (32, 9, (0, 0, 0, 0, 0, 0))]), (10, [(-1, 5)]))])]
set_option maxRecDepth 100000 in
theorem o_374 : okK 60 K_374 := okK_of (C := C_60) (fuel := 3000) rfl (A := A_60) Q_60 (ann := N_374) (spl := []) (mo := []) (by decide) (by decide +kernel)
def N_375 : aAnn := [(10, [(([(3, 2, 0, 0, 0, 1), (1, 0, 0, 0, 0, 0), (0, 0, 6, 0, 0, 0)], [], []), (6, [(-1, 3)]))])]
set_option maxRecDepth 100000 in
theorem o_375 : okK 26 K_375 := okK_of (C := C_26) (fuel := 3000) rfl (A := A_26) Q_26 (ann := N_375) (spl := []) (mo := []) (by decide) (by decide +kernel)
def N_376 : aAnn := [(4, [(([(3, 9, 0, 0, 0, 1), (0, -2147483648, 2147483647, 0, 0, 2), (0, 0, 1023, 0, 0, 0), (0, 0, 10, 0, 0, 0)], [], []), (10, [(-1, 4)]))])]
set_option maxRecDepth 100000 in
theorem o_376 : okK 105 K_376 := okK_of (C := C_105) (fuel := 3000) rfl (A := A_105) Q_105 (ann := N_376) (spl := []) (mo := []) (by decide) (by decide +kernel)
def N_377 : aAnn := [(4, [(([(3, 9, 0, 0, 0, 1), (0, -2147483648, 2147483647, 0, 0, 2), (0, 0, 1023, 0, 0, 0), (0, 0, 10, 0, 0, 0)], [], []), (10, [(-1, 4)]))])]
set_option maxRecDepth 100000 in
theorem o_377 : okK 104 K_377 := okK_of (C := C_104) (fuel := 3000) rfl (A := A_104) Q_104 (ann := N_377) (spl := []) (mo := []) (by decide) (by decide +kernel)
def N_378 : aAnn := [(40, [(([(3, 2, 0, 0, 0, 1), (0, 1, 99, 0, 0, 2), (0, 0, 255, 0, 0, 3), (0, 0, 1023, 0, 0, 0), (1, 0, 0, 0, 0, 0), (0, 0, 63, 0, 0, 0), (0, 0, 6, 0, 0, 0)], [], []), (6, [(-1, 7)]))])]
set_option maxRecDepth 100000 in
theorem o_378 : okK 27 K_378 := okK_of (C := C_27) (fuel := 3000) rfl (A := A_27) Q_27 (ann := N_378) (spl := []) (mo := []) (by decide) (by decide +kernel)
set_option maxRecDepth 100000 in
theorem o_379 : okK 271 K_379 := okK_of (C := C_271) (fuel := 3000) rfl (A := A_271) Q_271 (ann := []) (spl := []) (mo := []) (by decide) (by decide +kernel)
set_option maxRecDepth 100000 in
theorem o_380 : okK 100 K_380 := okK_of (C := C_100) (fuel := 3000) rfl (A := A_100) Q_100 (ann := []) (spl := []) (mo := []) (by decide) (by decide +kernel)
def N_381 : aAnn := [(38, [(([(3, 2, 0, 0, 0, 1), (0, 0, 9, 0, 0, 2), (0, 0, 5, 0, 0, 0), (0, -2147483648, 2147483647, 0, 0, 0), (1, 0, 0, 0, 0, 0), (0, 0, 1000000, 0, 0, 0), (4, 0, 0, 0, 0, 0)], [], [(7, 12, (0, 1, 10, 0, 0, 0)), (32, 9, (0, 0, 0, 0, 0, 0))]), (1000000, [(-1, 6)]))])]
set_option maxRecDepth 100000 in
theorem o_381 : okK 28 K_381 := okK_of (C := C_28) (fuel := 3000) rfl (A := A_28) Q_28 (ann := N_381) (spl := []) (mo := []) (by decide) (by decide +kernel)
set_option maxRecDepth 100000 in
theorem o_382 : okK 47 K_382 := okK_of (C := C_47) (fuel := 3000) rfl (A := A_47) Q_47 (ann := []) (spl := []) (mo := []) (by decide) (by decide +kernel)
def N_383 : aAnn := [(47, [(([(3, 2, 0, 0, 0, 1), (0, 0, 9, 0, 0, 2), (0, 0, 9, 0, 0, 3), (0, 0, 9, 0, 0, 0), (0, 0, 9, 0, 0, 0), (1, 0, 0, 0, 0, 0), (1, 0, 0, 0, 0, 0), (0, 0, 1000000, 0, 0, 0)], [], [(7, 10, (0, 1, 10, 0, 0, 0)), (32, 9, (0, 0, 0, 0, 0, 0))]), (1000000, [(-1, 8)]))])]
set_option maxRecDepth 100000 in
theorem o_383 : okK 29 K_383 := okK_of (C := C_29) (fuel := 3000) rfl (A := A_29) Q_29 (ann := N_383) (spl := []) (mo := []) (by decide) (by decide +kernel)
set_option maxRecDepth 100000 in
theorem o_384 : okK 30 K_384 := okK_of (C := C_30) (fuel := 3000) rfl (A := A_30) Q_30 (ann := []) (spl := []) (mo := []) (by decide) (by decide +kernel)
def N_385 : aAnn := [(4, [(([(3, 9, 0, 0, 0, 1), (3, 61, 0, 0, 0, 2), (1, 0, 0, 0, 0, 0), (0, 0, 10, 0, 0, 0), (4, 0, 0, 0, 0, 0)], [], []), (10, [(-1, 4)]))])]
set_option maxRecDepth 100000 in
theorem o_385 : okK 83 K_385 := okK_of (C := C_83) (fuel := 3000) rfl (A := A_83) Q_83 (ann := N_385) (spl := []) (mo := []) (by decide) (by decide +kernel)
def N_386 : aAnn := [(16, [(([(3, 2, 0, 0, 0, 1), (0, 0, 5, 0, 0, 2), (0, 0, 5, 0, 0, 3), (0, 0, 10, 0, 0, 0)], [], [(7, 9, (0, 1, 6, 0, 0, 0))]), (10, [(-1, 4)]))])]
set_option maxRecDepth 100000 in
theorem o_386 : okK 31 K_386 := okK_of (C := C_31) (fuel := 3000) rfl (A := A_31) Q_31 (ann := N_386) (spl := []) (mo := []) (by decide) (by decide +kernel)
set_option maxRecDepth 100000 in
theorem o_387 : okK 106 K_387 := okK_of (C := C_106) (fuel := 3000) rfl (A := A_106) Q_106 (ann := []) (spl := []) (mo := []) (by decide) (by decide +kernel)
def N_388 : aAnn := [(12, [(([(3, 2, 0, 0, 0, 1), (0, 0, 1023, 0, 0, 0), (0, 0, 1024, 0, 0, 0), (4, 0, 0, 0, 0, 0)], [], []), (1024, [(-1, 3)]))])]
set_option maxRecDepth 100000 in
theorem o_388 : okK 32 K_388 := okK_of (C := C_32) (fuel := 3000) rfl (A := A_32) Q_32 (ann := N_388) (spl := []) (mo := []) (by decide) (by decide +kernel)
def N_389 : aAnn := [(32, [(([(3, 2, 0, 0, 0, 1), (0, -1, 5, 0, 0, 0), (1, 0, 0, 0, 0, 0), (0, 0, 6, 0, 0, 0)], [], [(7, 9, (0, 1, 6, 0, 0, 0))]), (6, [(-1, 4)]))])]
set_option maxRecDepth 100000 in
theorem o_389 : okK 33 K_389 := okK_of (C := C_33) (fuel := 3000) rfl (A := A_33) Q_33 (ann := N_389) (spl := []) (mo := []) (by decide) (by decide +kernel)
def N_390 : aAnn := [(2, [(([(3, 9, 0, 0, 0, 1), (0, -2147483648, 2147483647, 0, 0, 2), (0, -2147483648, 2147483647, 0, 0, 3), (0, -2147483648, 2147483647, 0, 0, 4), (0, -2147483648, 2147483647, 0, 0, 5), (0, 0, 6, 0, 0, 0)], [], []), (6, [(-1, 6)]))])]
set_option maxRecDepth 100000 in
theorem o_390 : okK 81 K_390 := okK_of (C := C_81) (fuel := 3000) rfl (A := A_81) Q_81 (ann := N_390) (spl := []) (mo := []) (by decide) (by decide +kernel)
def N_391 : aAnn := [(42, [(([(3, 2, 0, 0, 0, 1), (0, 0, 9, 0, 0, 2), (0, 0, 5, 0, 0, 3), (0, 0, 9, 0, 0, 0), (0, -1, 5, 0, 0, 0), (0, 0, 5, 0, 0, 0), (0, -1, 4, 0, 0, 0)], [], [(7, 9, (0, 1, 6, 0, 0, 0)), (7, 10, (0, 1, 10, 0, 0, 0))]), (1, [(1, 7)]))])]
set_option maxRecDepth 100000 in
theorem o_391 : okK 34 K_391 := okK_of (C := C_34) (fuel := 3000) rfl (A := A_34) Q_34 (ann := N_391) (spl := []) (mo := []) (by decide) (by decide +kernel)
def N_392 : aAnn := [(14, [(([(3, 2, 0, 0, 0, 1), (0, 0, 5, 0, 0, 2), (0, 0, 5, 0, 0, 3), (0, 0, 9, 0, 0, 0)], [], [(7, 9, (0, 1, 6, 0, 0, 0))]), (0, [(1, 4)]))])]
set_option maxRecDepth 100000 in
theorem o_392 : okK 35 K_392 := okK_of (C := C_35) (fuel := 3000) rfl (A := A_35) Q_35 (ann := N_392) (spl := []) (mo := []) (by decide) (by decide +kernel)
def N_393 : aAnn := [(12, [(([(3, 9, 0, 0, 0, 1), (0, -2147483648, 2147483647, 0, 0, 2), (0, -2147483648, 2147483647, 0, 0, 3), (0, -2147483648, 2147483647, 0, 0, 0), (0, 1, 6, 0, 0, 0)], [], []), (6, [(-1, 5)]))])]
set_option maxRecDepth 100000 in
theorem o_393 : okK 79 K_393 := okK_of (C := C_79) (fuel := 3000) rfl (A := A_79) Q_79 (ann := N_393) (spl := []) (mo := []) (by decide) (by decide +kernel)
set_option maxRecDepth 100000 in
theorem o_394 : okK 66 K_394 := okK_of (C := C_66) (fuel := 3000) rfl (A := A_66) Q_66 (ann := []) (spl := []) (mo := []) (by decide) (by decide +kernel)
def N_395 : aAnn := [(4, [(([(3, 2, 0, 0, 0, 1), (0, 0, 1023, 0, 0, 0), (0, 0, 10, 0, 0, 0)], [], []), (10, [(-1, 3)]))])]
set_option maxRecDepth 100000 in
theorem o_395 : okK 36 K_395 := okK_of (C := C_36) (fuel := 3000) rfl (A := A_36) Q_36 (ann := N_395) (spl := []) (mo := []) (by decide) (by decide +kernel)
set_option maxRecDepth 100000 in
theorem o_396 : okK 73 K_396 := okK_of (C := C_73) (fuel := 3000) rfl (A := A_73) Q_73 (ann := []) (spl := []) (mo := []) (by decide) (by decide +kernel)
set_option maxRecDepth 100000 in
theorem o_397 : okK 73 K_397 := okK_of (C := C_73) (fuel := 3000) rfl (A := A_73) Q_73 (ann := []) (spl := []) (mo := []) (by decide) (by decide +kernel)
set_option maxRecDepth 100000 in
theorem o_398 : okK 73 K_398 := okK_of (C := C_73) (fuel := 3000) rfl (A := A_73) Q_73 (ann := []) (spl := []) (mo := []) (by decide) (by decide +kernel)
def N_399 : aAnn := [(14, [(([(3, 9, 0, 0, 0, 1), (0, -2147483648, 2147483647, 0, 0, 2), (0, -2147483648, 2147483647, 0, 0, 3), (0, -2147483648, 2147483647, 0, 0, 4), (0, 0, 9, 0, 0, 0), (1, 0, 0, 0, 0, 0), (0, 0, 10, 0, 0, 0)], [], []), (10, [(-1, 7)]))])]
set_option maxRecDepth 100000 in
theorem o_399 : okK 84 K_399 := okK_of (C := C_84) (fuel := 3000) rfl (A := A_84) Q_84 (ann := N_399) (spl := []) (mo := []) (by decide) (by decide +kernel)
def N_400 : aAnn := [(15, [(([(3, 2, 0, 0, 0, 1), (0, 0, 5, 0, 0, 2), (0, -1, 5, 0, 0, 0), (0, -1, 5, 0, 0, 0), (1, 0, 0, 0, 0, 0), (0, 0, 6, 0, 0, 0), (4, 0, 0, 0, 0, 0), (4, 0, 0, 0, 0, 0)], [], [(7, 9, (0, 1, 6, 0, 0, 0))]), (48, [(-7, 6)]))]), (24, [(([(3, 2, 0, 0, 0, 1), (0, 0, 5, 0, 0, 2), (0, -1, 5, 0, 0, 0), (0, -1, 5, 0, 0, 0), (1, 0, 0, 0, 0, 0), (0, 0, 5, 0, 0, 0), (0, 1, 6, 0, 0, 0), (4, 0, 0, 0, 0, 0)], [], [(7, 9, (0, 1, 6, 0, 0, 0))]), (48, [(-7, 6), (-1, 7)]))])]
set_option maxRecDepth 100000 in
theorem o_400 : okK 37 K_400 := okK_of (C := C_37) (fuel := 3000) rfl (A := A_37) Q_37 (ann := N_400) (spl := []) (mo := []) (by decide) (by decide +kernel)
set_option maxRecDepth 100000 in
theorem o_401 : okK 132 K_401 := okK_of (C := C_132) (fuel := 3000) rfl (A := A_132) Q_132 (ann := []) (spl := []) (mo := []) (by decide) (by decide +kernel)
def N_402 : aAnn := [(8, [(([(3, 2, 0, 0, 0, 1), (0, 0, 10, 0, 0, 0)], [], [(3, 2, (0, 0, 10, 0, 0, 0))]), (10, [(-1, 2)]))])]
set_option maxRecDepth 100000 in
theorem o_402 : okK 56 K_402 := okK_of (C := C_56) (fuel := 3000) rfl (A := A_56) Q_56 (ann := N_402) (spl := []) (mo := []) (by decide) (by decide +kernel)
def N_403 : aAnn := [(16, [(([(3, 2, 0, 0, 0, 1), (0, 0, 80, 0, 0, 0), (0, -1, -1, 0, 0, 0), (0, 0, 10, 0, 0, 0)], [], []), (10, [(-1, 4)]))])]
set_option maxRecDepth 100000 in
theorem o_403 : okK 38 K_403 := okK_of (C := C_38) (fuel := 3000) rfl (A := A_38) Q_38 (ann := N_403) (spl := []) (mo := []) (by decide) (by decide +kernel)
set_option maxRecDepth 100000 in
theorem o_404 : okK 57 K_404 := okK_of (C := C_57) (fuel := 3000) rfl (A := A_57) Q_57 (ann := []) (spl := []) (mo := []) (by decide) (by decide +kernel)
set_option maxRecDepth 100000 in
theorem o_405 : okK 47 K_405 := okK_of (C := C_47) (fuel := 3000) rfl (A := A_47) Q_47 (ann := []) (spl := []) (mo := []) (by decide) (by decide +kernel)
def N_406 : aAnn := [(4, [(([(3, 9, 0, 0, 0, 1), (3, 60, 0, 0, 0, 2), (1, 0, 0, 0, 0, 0), (0, 0, 10, 0, 0, 0), (4, 0, 0, 0, 0, 0)], [], []), (10, [(-1, 4)]))])]
set_option maxRecDepth 100000 in
theorem o_406 : okK 83 K_406 := okK_of (C := C_83) (fuel := 3000) rfl (A := A_83) Q_83 (ann := N_406) (spl := []) (mo := []) (by decide) (by decide +kernel)
def N_407 : aAnn := [(4, [(([(3, 9, 0, 0, 0, 1), (0, -2147483648, 2147483647, 0, 0, 2), (3, 60, 0, 0, 0, 3), (0, 0, 1023, 0, 0, 0), (0, 0, 10, 0, 0, 0)], [], []), (10, [(-1, 5)]))])]
set_option maxRecDepth 100000 in
theorem o_407 : okK 86 K_407 := okK_of (C := C_86) (fuel := 3000) rfl (A := A_86) Q_86 (ann := N_407) (spl := []) (mo := []) (by decide) (by decide +kernel)
def N_408 : aAnn := [(2, [(([(3, 9, 0, 0, 0, 1), (0, -2147483648, 2147483647, 0, 0, 2), (3, 60, 0, 0, 0, 3), (0, 0, 6, 0, 0, 0), (4, 0, 0, 0, 0, 0)], [], []), (6, [(-1, 4)]))])]
set_option maxRecDepth 100000 in
theorem o_408 : okK 90 K_408 := okK_of (C := C_90) (fuel := 3000) rfl (A := A_90) Q_90 (ann := N_408) (spl := []) (mo := []) (by decide) (by decide +kernel)
def N_409 : aAnn := [(4, [(([(3, 9, 0, 0, 0, 1), (3, 60, 0, 0, 0, 2), (0, 0, 255, 0, 0, 0), (0, 0, 8, 0, 0, 0)], [], []), (8, [(-1, 4)]))])]
set_option maxRecDepth 100000 in
theorem o_409 : okK 89 K_409 := okK_of (C := C_89) (fuel := 3000) rfl (A := A_89) Q_89 (ann := N_409) (spl := []) (mo := []) (by decide) (by decide +kernel)
set_option maxRecDepth 100000 in
theorem o_410 : okK 87 K_410 := okK_of (C := C_87) (fuel := 3000) rfl (A := A_87) Q_87 (ann := []) (spl := []) (mo := []) (by decide) (by decide +kernel)
def N_411 : aAnn := [(4, [(([(3, 9, 0, 0, 0, 1), (3, 60, 0, 0, 0, 2), (0, 0, 63, 0, 0, 0), (0, 0, 6, 0, 0, 0)], [], []), (6, [(-1, 4)]))])]
set_option maxRecDepth 100000 in
theorem o_411 : okK 88 K_411 := okK_of (C := C_88) (fuel := 3000) rfl (A := A_88) Q_88 (ann := N_411) (spl := []) (mo := []) (by decide) (by decide +kernel)
set_option maxRecDepth 100000 in
theorem o_412 : okK 91 K_412 := okK_of (C := C_91) (fuel := 3000) rfl (A := A_91) Q_91 (ann := []) (spl := []) (mo := []) (by decide) (by decide +kernel)
set_option maxRecDepth 100000 in
theorem o_413 : okK 39 K_413 := okK_of (C := C_39) (fuel := 3000) rfl (A := A_39) Q_39 (ann := []) (spl := []) (mo := []) (by decide) (by decide +kernel)
def N_414 : aAnn := [(4, [(([(3, 9, 0, 0, 0, 1), (3, 60, 0, 0, 0, 2), (0, 0, 1023, 0, 0, 0), (0, 0, 10, 0, 0, 0)], [], []), (10, [(-1, 4)]))])]
set_option maxRecDepth 100000 in
theorem o_414 : okK 157 K_414 := okK_of (C := C_157) (fuel := 3000) rfl (A := A_157) Q_157 (ann := N_414) (spl := []) (mo := []) (by decide) (by decide +kernel)
def N_415 : aAnn := [(2, [(([(3, 50, 0, 0, 0, 1), (0, -2147483648, 2147483647, 0, 0, 2), (0, -2147483648, 2147483647, 0, 0, 3), (0, 0, 10, 0, 0, 0), (4, 0, 0, 0, 0, 0)], [], []), (10, [(-1, 4)]))])]
set_option maxRecDepth 100000 in
theorem o_415 : okK 158 K_415 := okK_of (C := C_158) (fuel := 3000) rfl (A := A_158) Q_158 (ann := N_415) (spl := []) (mo := []) (by decide) (by decide +kernel)
set_option maxRecDepth 100000 in
theorem o_416 : okK 47 K_416 := okK_of (C := C_47) (fuel := 3000) rfl (A := A_47) Q_47 (ann := []) (spl := []) (mo := []) (by decide) (by decide +kernel)
def N_417 : aAnn := [(4, [(([(3, 9, 0, 0, 0, 1), (0, -2147483648, 2147483647, 0, 0, 2), (3, 53, 0, 0, 0, 3), (0, 0, 1023, 0, 0, 0), (0, 0, 10, 0, 0, 0)], [], []), (10, [(-1, 5)]))])]
set_option maxRecDepth 100000 in
theorem o_417 : okK 86 K_417 := okK_of (C := C_86) (fuel := 3000) rfl (A := A_86) Q_86 (ann := N_417) (spl := []) (mo := []) (by decide) (by decide +kernel)
set_option maxRecDepth 100000 in
theorem o_418 : okK 87 K_418 := okK_of (C := C_87) (fuel := 3000) rfl (A := A_87) Q_87 (ann := []) (spl := []) (mo := []) (by decide) (by decide +kernel)
def N_419 : aAnn := [(4, [(([(3, 9, 0, 0, 0, 1), (3, 53, 0, 0, 0, 2), (0, 0, 63, 0, 0, 0), (0, 0, 6, 0, 0, 0)], [], []), (6, [(-1, 4)]))])]
set_option maxRecDepth 100000 in
theorem o_419 : okK 88 K_419 := okK_of (C := C_88) (fuel := 3000) rfl (A := A_88) Q_88 (ann := N_419) (spl := []) (mo := []) (by decide) (by decide +kernel)
def N_420 : aAnn := [(2, [(([(3, 50, 0, 0, 0, 1), (3, 9, 0, 0, 0, 2), (3, 60, 0, 0, 0, 3), (0, -2147483648, 2147483647, 0, 0, 4), (0, 0, 10, 0, 0, 0)], [], []), (10, [(-1, 5)]))])]
set_option maxRecDepth 100000 in
theorem o_420 : okK 159 K_420 := okK_of (C := C_159) (fuel := 3000) rfl (A := A_159) Q_159 (ann := N_420) (spl := []) (mo := []) (by decide) (by decide +kernel)
def N_421 : aAnn := [(6, [(([(3, 50, 0, 0, 0, 1), (3, 9, 0, 0, 0, 2), (3, 60, 0, 0, 0, 3), (0, 0, 1023, 0, 0, 0), (0, 0, 1023, 0, 0, 0), aRef 0, aRef 0], [], []), (0, [(1, 5)]))])]
set_option maxRecDepth 100000 in
theorem o_421 : okK 156 K_421 := okK_of (C := C_156) (fuel := 3000) rfl (A := A_156) Q_156 (ann := N_421) (spl := []) (mo := []) (by decide) (by decide +kernel)
set_option maxRecDepth 100000 in
theorem o_422 : okK 47 K_422 := okK_of (C := C_47) (fuel := 3000) rfl (A := A_47) Q_47 (ann := []) (spl := []) (mo := []) (by decide) (by decide +kernel)
def N_423 : aAnn := [(41, [(([(3, 2, 0, 0, 0, 1), (0, 0, 10, 0, 0, 0)], [], [(0, 14, (0, 1, 10, 0, 0, 0)), (7, 10, (0, 1, 10, 0, 0, 0))]), (10, [(-1, 2)]))])]
set_option maxRecDepth 100000 in
theorem o_423 : okK 40 K_423 := okK_of (C := C_40) (fuel := 3000) rfl (A := A_40) Q_40 (ann := N_423) (spl := []) (mo := []) (by decide) (by decide +kernel)
def N_424 : aAnn := [(2, [(([(3, 9, 0, 0, 0, 1), (3, 60, 0, 0, 0, 2), (0, 0, 10, 0, 0, 0)], [], []), (10, [(-1, 3)]))])]
set_option maxRecDepth 100000 in
theorem o_424 : okK 85 K_424 := okK_of (C := C_85) (fuel := 3000) rfl (A := A_85) Q_85 (ann := N_424) (spl := []) (mo := []) (by decide) (by decide +kernel)
def N_425 : aAnn := [(14, [(([(3, 54, 0, 0, 0, 1), (3, 9, 0, 0, 0, 2), (3, 34, 0, 0, 0, 3), (0, 0, 1000000, 0, 0, 0), (4, 0, 0, 0, 0, 0)], [], [(32, 9, (0, 0, 0, 0, 0, 0))]), (12000011, [(-12, 4)]))]), (34, [(([(3, 54, 0, 0, 0, 1), (3, 9, 0, 0, 0, 2), (3, 34, 0, 0, 0, 3), (0, 0, 999999, 0, 0, 0), (0, 0, 10, 0, 0, 0)], [], [(32, 8, (0, 1, 1, 0, 0, 0)), (32, 9, (0, 0, 0, 0, 0, 0)), (52, 5, (0, 0, 299, 0, 0, 0))]), (12000010, [(-12, 4), (-1, 5)]))])]
set_option maxRecDepth 100000 in
theorem o_425 : okK 112 K_425 := okK_of (C := C_112) (fuel := 3000) rfl (A := A_112) Q_112 (ann := N_425) (spl := []) (mo := []) (by decide) (by decide +kernel)
set_option maxRecDepth 100000 in
theorem o_426 : okK 114 K_426 := okK_of (C := C_114) (fuel := 3000) rfl (A := A_114) Q_114 (ann := []) (spl := []) (mo := []) (by decide) (by decide +kernel)
def N_427 : aAnn := [(2, [(([(3, 54, 0, 0, 0, 1), (3, 9, 0, 0, 0, 2), (3, 60, 0, 0, 0, 3), (0, 0, 300, 0, 0, 0), (4, 0, 0, 0, 0, 0), (4, 0, 0, 0, 0, 0)], [], []), (3611, [(-12, 4)]))]), (10, [(([(3, 54, 0, 0, 0, 1), (3, 9, 0, 0, 0, 2), (3, 60, 0, 0, 0, 3), (0, 0, 299, 0, 0, 0), (1, 0, 0, 0, 0, 0), (0, 0, 10, 0, 0, 0)], [], [(52, 5, (0, 1, 300, 0, 0, 0))]), (3610, [(-12, 4), (-1, 6)]))])]
set_option maxRecDepth 100000 in
theorem o_427 : okK 115 K_427 := okK_of (C := C_115) (fuel := 3000) rfl (A := A_115) Q_115 (ann := N_427) (spl := []) (mo := []) (by decide) (by decide +kernel)
def N_428 : aAnn := [(2, [(([(3, 54, 0, 0, 0, 1), (3, 9, 0, 0, 0, 2), (0, 0, 511, 0, 0, 0), aRef 0, aRef 0, aRef 0], [], []), (929, [(-1, 3)]))]), (16, [(([(3, 54, 0, 0, 0, 1), (3, 9, 0, 0, 0, 2), (0, 0, 10, 0, 0, 0), (4, 0, 0, 0, 0, 0), (4, 0, 0, 0, 0, 0), (4, 0, 0, 0, 0, 0)], [], []), (417, [(-38, 3)]))]), (31, [(([(3, 54, 0, 0, 0, 1), (3, 9, 0, 0, 0, 2), (0, 0, 9, 0, 0, 0), (0, 0, 324, 0, 0, 0), (0, 0, 36, 0, 0, 0), (4, 0, 0, 0, 0, 0)], [], [(7, 10, (0, 1, 10, 0, 0, 0))]), (416, [(-38, 3), (-1, 5)]))])]
set_option maxRecDepth 100000 in
theorem o_428 : okK 116 K_428 := okK_of (C := C_116) (fuel := 3000) rfl (A := A_116) Q_116 (ann := N_428) (spl := []) (mo := []) (by decide) (by decide +kernel)
def N_429 : aAnn := [(4, [(([(3, 54, 0, 0, 0, 1), (3, 9, 0, 0, 0, 2), (0, -2147483648, 2147483647, 0, 0, 3), (1, 0, 0, 0, 0, 0), (0, 0, 10, 0, 0, 0), (4, 0, 0, 0, 0, 0)], [], []), (10, [(-1, 5)]))])]
set_option maxRecDepth 100000 in
theorem o_429 : okK 117 K_429 := okK_of (C := C_117) (fuel := 3000) rfl (A := A_117) Q_117 (ann := N_429) (spl := []) (mo := []) (by decide) (by decide +kernel)
def N_430 : aAnn := [(23, [(([(3, 54, 0, 0, 0, 1), (3, 9, 0, 0, 0, 2), (3, 60, 0, 0, 0, 3), (0, 0, 300, 0, 0, 0)], [], [(52, 5, (0, 1, 300, 0, 0, 0)), (52, 7, (0, 0, 299, 0, 0, 0))]), (300, [(-1, 4)]))])]
set_option maxRecDepth 100000 in
theorem o_430 : okK 113 K_430 := okK_of (C := C_113) (fuel := 3000) rfl (A := A_113) Q_113 (ann := N_430) (spl := []) (mo := []) (by decide) (by decide +kernel)
set_option maxRecDepth 100000 in
theorem o_431 : okK 61 K_431 := okK_of (C := C_61) (fuel := 3000) rfl (A := A_61) Q_61 (ann := []) (spl := []) (mo := []) (by decide) (by decide +kernel)
def N_432 : aAnn := [(6, [(([(3, 54, 0, 0, 0, 1), (0, -2147483648, 2147483647, 0, 0, 2), (0, -2147483648, 2147483647, 0, 0, 3), (0, -1, 299, 0, 0, 0), (1, 0, 0, 0, 0, 0), (0, 0, 300, 0, 0, 0)], [], []), (300, [(-1, 6)]))])]
set_option maxRecDepth 100000 in
theorem o_432 : okK 120 K_432 := okK_of (C := C_120) (fuel := 3000) rfl (A := A_120) Q_120 (ann := N_432) (spl := []) (mo := []) (by decide) (by decide +kernel)
set_option maxRecDepth 100000 in
theorem o_433 : okK 47 K_433 := okK_of (C := C_47) (fuel := 3000) rfl (A := A_47) Q_47 (ann := []) (spl := []) (mo := []) (by decide) (by decide +kernel)
def N_434 : aAnn := [(4, [(([(3, 54, 0, 0, 0, 1), (0, -2147483648, 2147483647, 0, 0, 2), (0, -2147483648, 2147483647, 0, 0, 3), (1, 0, 0, 0, 0, 0), (0, 0, 10, 0, 0, 0)], [], []), (10, [(-1, 5)]))])]
set_option maxRecDepth 100000 in
theorem o_434 : okK 118 K_434 := okK_of (C := C_118) (fuel := 3000) rfl (A := A_118) Q_118 (ann := N_434) (spl := []) (mo := []) (by decide) (by decide +kernel)
def N_435 : aAnn := [(4, [(([(3, 54, 0, 0, 0, 1), (0, -2147483648, 2147483647, 0, 0, 2), (0, -2147483648, 2147483647, 0, 0, 3), (0, -2147483648, 2147483647, 0, 0, 4), (0, -2147483648, 1000000, 0, 0, 0), (0, 0, 300, 0, 0, 0), (4, 0, 0, 0, 0, 0)], [], []), (300, [(-1, 6)]))])]
set_option maxRecDepth 100000 in
theorem o_435 : okK 122 K_435 := okK_of (C := C_122) (fuel := 3000) rfl (A := A_122) Q_122 (ann := N_435) (spl := []) (mo := []) (by decide) (by decide +kernel)
def N_436 : aAnn := [(4, [(([(3, 54, 0, 0, 0, 1), (0, -2147483648, 2147483647, 0, 0, 2), (0, -2147483648, 2147483647, 0, 0, 3), (0, 0, 1, 0, 0, 0), (0, 0, 300, 0, 0, 0), (4, 0, 0, 0, 0, 0)], [], []), (300, [(-1, 5)]))])]
set_option maxRecDepth 100000 in
theorem o_436 : okK 121 K_436 := okK_of (C := C_121) (fuel := 3000) rfl (A := A_121) Q_121 (ann := N_436) (spl := []) (mo := []) (by decide) (by decide +kernel)
def N_437 : aAnn := [(2, [(([(3, 54, 0, 0, 0, 1), (0, -2147483648, 2147483647, 0, 0, 2), (0, 0, 300, 0, 0, 0), aRef 0], [], []), (601, [(-1, 3)]))]), (28, [(([(3, 54, 0, 0, 0, 1), (0, -2147483648, 2147483647, 0, 0, 2), (0, 0, 1, 0, 0, 0), (0, 0, 300, 0, 0, 0)], [], []), (300, [(-1, 4)]))])]
set_option maxRecDepth 100000 in
theorem o_437 : okK 119 K_437 := okK_of (C := C_119) (fuel := 3000) rfl (A := A_119) Q_119 (ann := N_437) (spl := []) (mo := []) (by decide) (by decide +kernel)
def N_438 : aAnn := [(28, [(([(3, 2, 0, 0, 0, 1), (0, 1, 1, 0, 0, 0), (0, 1, 300, 0, 0, 0), (0, 0, 10, 0, 0, 0)], [], [(0, 14, (0, 1, 10, 0, 0, 0)), (5, 1, (0, 1, 12, 0, 0, 0)), (7, 10, (0, 1, 10, 0, 0, 0)), (52, 5, (0, 1, 300, 0, 0, 0)), (52, 7, (0, 0, 299, 0, 0, 0)), (52, 9, (0, 0, 299, 0, 0, 0))]), (10, [(-1, 4)]))])]
set_option maxRecDepth 100000 in
theorem o_438 : okK 41 K_438 := okK_of (C := C_41) (fuel := 3000) rfl (A := A_41) Q_41 (ann := N_438) (spl := []) (mo := []) (by decide) (by decide +kernel)
def N_439 : aAnn := [(6, [(([(3, 54, 0, 0, 0, 1), (0, -1, 299, 0, 0, 0), (1, 0, 0, 0, 0, 0), (0, 0, 300, 0, 0, 0)], [], []), (300, [(-1, 4)]))])]
set_option maxRecDepth 100000 in
theorem o_439 : okK 124 K_439 := okK_of (C := C_124) (fuel := 3000) rfl (A := A_124) Q_124 (ann := N_439) (spl := []) (mo := []) (by decide) (by decide +kernel)
def N_440 : aAnn := [(2, [(([(3, 54, 0, 0, 0, 1), (0, 0, 300, 0, 0, 0), aRef 0, aRef 0], [], []), (91202, [(-1, 2)]))]), (23, [(([(3, 54, 0, 0, 0, 1), (0, 0, 300, 0, 0, 0), (4, 0, 0, 0, 0, 0), (4, 0, 0, 0, 0, 0)], [], []), (90901, [(-302, 2)]))]), (45, [(([(3, 54, 0, 0, 0, 1), (0, 0, 299, 0, 0, 0), (0, 0, 299, 0, 0, 0), (0, 0, 300, 0, 0, 0)], [], [(52, 5, (0, 1, 300, 0, 0, 0))]), (90900, [(-302, 2), (-1, 4)]))])]
set_option maxRecDepth 100000 in
theorem o_440 : okK 123 K_440 := okK_of (C := C_123) (fuel := 3000) rfl (A := A_123) Q_123 (ann := N_440) (spl := []) (mo := []) (by decide) (by decide +kernel)
def N_441 : aAnn := [(6, [(([(3, 54, 0, 0, 0, 1), (0, -2147483648, 2147483647, 0, 0, 2), (1, 0, 0, 0, 0, 3), (0, -1, 299, 0, 0, 0), (1, 0, 0, 0, 0, 0), (0, 0, 300, 0, 0, 0)], [], []), (300, [(-1, 6)]))])]
set_option maxRecDepth 100000 in
theorem o_441 : okK 120 K_441 := okK_of (C := C_120) (fuel := 3000) rfl (A := A_120) Q_120 (ann := N_441) (spl := []) (mo := []) (by decide) (by decide +kernel)
def N_442 : aAnn := [(4, [(([(3, 54, 0, 0, 0, 1), (0, -2147483648, 2147483647, 0, 0, 2), (0, -2147483648, 2147483647, 0, 0, 3), (1, 0, 0, 0, 0, 4), (0, -2147483648, 1000000, 0, 0, 0), (0, 0, 300, 0, 0, 0), (4, 0, 0, 0, 0, 0)], [], []), (300, [(-1, 6)]))])]
set_option maxRecDepth 100000 in
theorem o_442 : okK 122 K_442 := okK_of (C := C_122) (fuel := 3000) rfl (A := A_122) Q_122 (ann := N_442) (spl := []) (mo := []) (by decide) (by decide +kernel)
def N_443 : aAnn := [(4, [(([(3, 54, 0, 0, 0, 1), (0, -2147483648, 2147483647, 0, 0, 2), (1, 0, 0, 0, 0, 3), (0, 0, 1, 0, 0, 0), (0, 0, 300, 0, 0, 0), (4, 0, 0, 0, 0, 0)], [], []), (300, [(-1, 5)]))])]
set_option maxRecDepth 100000 in
theorem o_443 : okK 121 K_443 := okK_of (C := C_121) (fuel := 3000) rfl (A := A_121) Q_121 (ann := N_443) (spl := []) (mo := []) (by decide) (by decide +kernel)
def N_444 : aAnn := [(2, [(([(3, 54, 0, 0, 0, 1), (1, 0, 0, 0, 0, 2), (0, 0, 300, 0, 0, 0), aRef 0], [], []), (601, [(-1, 3)]))]), (28, [(([(3, 54, 0, 0, 0, 1), (1, 0, 0, 0, 0, 2), (0, 0, 1, 0, 0, 0), (0, 0, 300, 0, 0, 0)], [], []), (300, [(-1, 4)]))])]
set_option maxRecDepth 100000 in
theorem o_444 : okK 119 K_444 := okK_of (C := C_119) (fuel := 3000) rfl (A := A_119) Q_119 (ann := N_444) (spl := []) (mo := []) (by decide) (by decide +kernel)
set_option maxRecDepth 100000 in
theorem o_445 : okK 42 K_445 := okK_of (C := C_42) (fuel := 3000) rfl (A := A_42) Q_42 (ann := []) (spl := []) (mo := []) (by decide) (by decide +kernel)
set_option maxRecDepth 100000 in
theorem o_446 : okK 50 K_446 := okK_of (C := C_50) (fuel := 3000) rfl (A := A_50) Q_50 (ann := []) (spl := []) (mo := []) (by decide) (by decide +kernel)
def N_447 : aAnn := [(2, [(([(3, 15, 0, 0, 0, 1), (3, 47, 0, 0, 0, 2), (0, 0, 10, 0, 0, 0)], [], []), (10, [(-1, 3)]))])]
set_option maxRecDepth 100000 in
theorem o_447 : okK 48 K_447 := okK_of (C := C_48) (fuel := 3000) rfl (A := A_48) Q_48 (ann := N_447) (spl := []) (mo := []) (by decide) (by decide +kernel)
set_option maxRecDepth 100000 in
theorem o_448 : okK 125 K_448 := okK_of (C := C_125) (fuel := 3000) rfl (A := A_125) Q_125 (ann := []) (spl := []) (mo := []) (by decide) (by decide +kernel)
def N_449 : aAnn := [(2, [(([(3, 15, 0, 0, 0, 1), (3, 49, 0, 0, 0, 2), (0, 0, 10, 0, 0, 0)], [], []), (10, [(-1, 3)]))])]
set_option maxRecDepth 100000 in
theorem o_449 : okK 48 K_449 := okK_of (C := C_48) (fuel := 3000) rfl (A := A_48) Q_48 (ann := N_449) (spl := []) (mo := []) (by decide) (by decide +kernel)
set_option maxRecDepth 100000 in
theorem o_450 : okK 125 K_450 := okK_of (C := C_125) (fuel := 3000) rfl (A := A_125) Q_125 (ann := []) (spl := []) (mo := []) (by decide) (by decide +kernel)
set_option maxRecDepth 100000 in
theorem o_451 : okK 43 K_451 := okK_of (C := C_43) (fuel := 3000) rfl (A := A_43) Q_43 (ann := []) (spl := []) (mo := []) (by decide) (by decide +kernel)
set_option maxRecDepth 100000 in
theorem o_452 : okK 126 K_452 := okK_of (C := C_126) (fuel := 3000) rfl (A := A_126) Q_126 (ann := []) (spl := []) (mo := []) (by decide) (by decide +kernel)
def N_453 : aAnn := [(2, [(([(3, 47, 0, 0, 0, 1), (3, 15, 0, 0, 0, 2), (0, 0, 10, 0, 0, 0)], [], []), (10, [(-1, 3)]))])]
set_option maxRecDepth 100000 in
theorem o_453 : okK 48 K_453 := okK_of (C := C_48) (fuel := 3000) rfl (A := A_48) Q_48 (ann := N_453) (spl := []) (mo := []) (by decide) (by decide +kernel)
set_option maxRecDepth 100000 in
theorem o_454 : okK 126 K_454 := okK_of (C := C_126) (fuel := 3000) rfl (A := A_126) Q_126 (ann := []) (spl := []) (mo := []) (by decide) (by decide +kernel)
def N_455 : aAnn := [(2, [(([(3, 49, 0, 0, 0, 1), (3, 15, 0, 0, 0, 2), (0, 0, 10, 0, 0, 0)], [], []), (10, [(-1, 3)]))])]
set_option maxRecDepth 100000 in
theorem o_455 : okK 48 K_455 := okK_of (C := C_48) (fuel := 3000) rfl (A := A_48) Q_48 (ann := N_455) (spl := []) (mo := []) (by decide) (by decide +kernel)
set_option maxRecDepth 100000 in
theorem o_456 : okK 44 K_456 := okK_of (C := C_44) (fuel := 3000) rfl (A := A_44) Q_44 (ann := []) (spl := []) (mo := []) (by decide) (by decide +kernel)
def N_457 : aAnn := [(4, [(([(3, 9, 0, 0, 0, 1), (1, 0, 0, 0, 0, 0), (0, 0, 6, 0, 0, 0)], [], []), (6, [(-1, 3)]))])]
set_option maxRecDepth 100000 in
theorem o_457 : okK 75 K_457 := okK_of (C := C_75) (fuel := 3000) rfl (A := A_75) Q_75 (ann := N_457) (spl := []) (mo := []) (by decide) (by decide +kernel)
set_option maxRecDepth 100000 in
theorem o_458 : okK 45 K_458 := okK_of (C := C_45) (fuel := 3000) rfl (A := A_45) Q_45 (ann := []) (spl := []) (mo := []) (by decide) (by decide +kernel)
set_option maxRecDepth 100000 in
theorem o_459 : okK 175 K_459 := okK_of (C := C_175) (fuel := 3000) rfl (A := A_175) Q_175 (ann := []) (spl := [(0, [(3918, 76)])]) (mo := []) (by decide) (by decide +kernel)
set_option maxRecDepth 100000 in
theorem o_460 : okK 169 K_460 := okK_of (C := C_169) (fuel := 3000) rfl (A := A_169) Q_169 (ann := []) (spl := []) (mo := []) (by decide) (by decide +kernel)
set_option maxRecDepth 100000 in
theorem o_461 : okK 176 K_461 := okK_of (C := C_176) (fuel := 3000) rfl (A := A_176) Q_176 (ann := []) (spl := []) (mo := []) (by decide) (by decide +kernel)
set_option maxRecDepth 100000 in
theorem o_462 : okK 177 K_462 := okK_of (C := C_177) (fuel := 3000) rfl (A := A_177) Q_177 (ann := []) (spl := []) (mo := []) (by decide) (by decide +kernel)
set_option maxRecDepth 100000 in
theorem o_463 : okK 179 K_463 := okK_of (C := C_179) (fuel := 3000) rfl (A := A_179) Q_179 (ann := []) (spl := []) (mo := []) (by decide) (by decide +kernel)
set_option maxRecDepth 100000 in
theorem o_464 : okK 180 K_464 := okK_of (C := C_180) (fuel := 3000) rfl (A := A_180) Q_180 (ann := []) (spl := []) (mo := []) (by decide) (by decide +kernel)
set_option maxRecDepth 100000 in
theorem o_465 : okK 179 K_465 := okK_of (C := C_179) (fuel := 3000) rfl (A := A_179) Q_179 (ann := []) (spl := []) (mo := []) (by decide) (by decide +kernel)
set_option maxRecDepth 100000 in
theorem o_466 : okK 180 K_466 := okK_of (C := C_180) (fuel := 3000) rfl (A := A_180) Q_180 (ann := []) (spl := []) (mo := []) (by decide) (by decide +kernel)
set_option maxRecDepth 100000 in
theorem o_467 : okK 178 K_467 := okK_of (C := C_178) (fuel := 3000) rfl (A := A_178) Q_178 (ann := []) (spl := []) (mo := []) (by decide) (by decide +kernel)
set_option maxRecDepth 100000 in
theorem o_468 : okK 169 K_468 := okK_of (C := C_169) (fuel := 3000) rfl (A := A_169) Q_169 (ann := []) (spl := []) (mo := []) (by decide) (by decide +kernel)
set_option maxRecDepth 100000 in
theorem o_469 : okK 169 K_469 := okK_of (C := C_169) (fuel := 3000) rfl (A := A_169) Q_169 (ann := []) (spl := []) (mo := []) (by decide) (by decide +kernel)
set_option maxRecDepth 100000 in
theorem o_470 : okK 169 K_470 := okK_of (C := C_169) (fuel := 3000) rfl (A := A_169) Q_169 (ann := []) (spl := []) (mo := []) (by decide) (by decide +kernel)
set_option maxRecDepth 100000 in
theorem o_471 : okK 169 K_471 := okK_of (C := C_169) (fuel := 3000) rfl (A := A_169) Q_169 (ann := []) (spl := []) (mo := []) (by decide) (by decide +kernel)
set_option maxRecDepth 100000 in
theorem o_472 : okK 169 K_472 := okK_of (C := C_169) (fuel := 3000) rfl (A := A_169) Q_169 (ann := []) (spl := []) (mo := []) (by decide) (by decide +kernel)
set_option maxRecDepth 100000 in
theorem o_473 : okK 169 K_473 := okK_of (C := C_169) (fuel := 3000) rfl (A := A_169) Q_169 (ann := []) (spl := []) (mo := []) (by decide) (by decide +kernel)
set_option maxRecDepth 100000 in
theorem o_474 : okK 169 K_474 := okK_of (C := C_169) (fuel := 3000) rfl (A := A_169) Q_169 (ann := []) (spl := []) (mo := []) (by decide) (by decide +kernel)
set_option maxRecDepth 100000 in
theorem o_475 : okK 169 K_475 := okK_of (C := C_169) (fuel := 3000) rfl (A := A_169) Q_169 (ann := []) (spl := []) (mo := []) (by decide) (by decide +kernel)
set_option maxRecDepth 100000 in
theorem o_476 : okK 183 K_476 := okK_of (C := C_183) (fuel := 3000) rfl (A := A_183) Q_183 (ann := []) (spl := []) (mo := [(60, 21, 0)]) (by decide) (by decide +kernel)
set_option maxRecDepth 100000 in
theorem o_477 : okK 181 K_477 := okK_of (C := C_181) (fuel := 3000) rfl (A := A_181) Q_181 (ann := []) (spl := []) (mo := [(60, 21, 0)]) (by decide) (by decide +kernel)
set_option maxRecDepth 100000 in
theorem o_478 : okK 182 K_478 := okK_of (C := C_182) (fuel := 3000) rfl (A := A_182) Q_182 (ann := []) (spl := []) (mo := [(60, 21, 0)]) (by decide) (by decide +kernel)
set_option maxRecDepth 100000 in
theorem o_479 : okK 183 K_479 := okK_of (C := C_183) (fuel := 3000) rfl (A := A_183) Q_183 (ann := []) (spl := []) (mo := [(60, 21, 0)]) (by decide) (by decide +kernel)
set_option maxRecDepth 100000 in
theorem o_480 : okK 181 K_480 := okK_of (C := C_181) (fuel := 3000) rfl (A := A_181) Q_181 (ann := []) (spl := []) (mo := [(60, 21, 0)]) (by decide) (by decide +kernel)
set_option maxRecDepth 100000 in
theorem o_481 : okK 182 K_481 := okK_of (C := C_182) (fuel := 3000) rfl (A := A_182) Q_182 (ann := []) (spl := []) (mo := [(60, 21, 0)]) (by decide) (by decide +kernel)
set_option maxRecDepth 100000 in
theorem o_482 : okK 183 K_482 := okK_of (C := C_183) (fuel := 3000) rfl (A := A_183) Q_183 (ann := []) (spl := []) (mo := [(60, 21, 0)]) (by decide) (by decide +kernel)
set_option maxRecDepth 100000 in
theorem o_483 : okK 169 K_483 := okK_of (C := C_169) (fuel := 3000) rfl (A := A_169) Q_169 (ann := []) (spl := []) (mo := []) (by decide) (by decide +kernel)
set_option maxRecDepth 100000 in
theorem o_484 : okK 169 K_484 := okK_of (C := C_169) (fuel := 3000) rfl (A := A_169) Q_169 (ann := []) (spl := []) (mo := []) (by decide) (by decide +kernel)
set_option maxRecDepth 100000 in
theorem o_485 : okK 183 K_485 := okK_of (C := C_183) (fuel := 3000) rfl (A := A_183) Q_183 (ann := []) (spl := []) (mo := [(60, 21, 0)]) (by decide) (by decide +kernel)
set_option maxRecDepth 100000 in
theorem o_486 : okK 169 K_486 := okK_of (C := C_169) (fuel := 3000) rfl (A := A_169) Q_169 (ann := []) (spl := []) (mo := []) (by decide) (by decide +kernel)
set_option maxRecDepth 100000 in
theorem o_487 : okK 169 K_487 := okK_of (C := C_169) (fuel := 3000) rfl (A := A_169) Q_169 (ann := []) (spl := []) (mo := []) (by decide) (by decide +kernel)
set_option maxRecDepth 100000 in
theorem o_488 : okK 183 K_488 := okK_of (C := C_183) (fuel := 3000) rfl (A := A_183) Q_183 (ann := []) (spl := []) (mo := [(60, 21, 0)]) (by decide) (by decide +kernel)
set_option maxRecDepth 100000 in
theorem o_489 : okK 186 K_489 := okK_of (C := C_186) (fuel := 3000) rfl (A := A_186) Q_186 (ann := []) (spl := []) (mo := [(60, 21, 0)]) (by decide) (by decide +kernel)
set_option maxRecDepth 100000 in
theorem o_490 : okK 183 K_490 := okK_of (C := C_183) (fuel := 3000) rfl (A := A_183) Q_183 (ann := []) (spl := []) (mo := [(60, 21, 0)]) (by decide) (by decide +kernel)
set_option maxRecDepth 100000 in
theorem o_491 : okK 186 K_491 := okK_of (C := C_186) (fuel := 3000) rfl (A := A_186) Q_186 (ann := []) (spl := []) (mo := [(60, 21, 0)]) (by decide) (by decide +kernel)
set_option maxRecDepth 100000 in
theorem o_492 : okK 169 K_492 := okK_of (C := C_169) (fuel := 3000) rfl (A := A_169) Q_169 (ann := []) (spl := []) (mo := []) (by decide) (by decide +kernel)
set_option maxRecDepth 100000 in
theorem o_493 : okK 169 K_493 := okK_of (C := C_169) (fuel := 3000) rfl (A := A_169) Q_169 (ann := []) (spl := []) (mo := []) (by decide) (by decide +kernel)
def N_494 : aAnn := [(10, [(([(3, 62, 0, 0, 0, 1), (0, 0, 7, 0, 0, 2), (0, 0, 10, 0, 0, 3), (0, 0, 1023, 0, 0, 0), (0, -1, 9, 0, 0, 0), (4, 0, 0, 0, 0, 0)], [], [(60, 18, (0, 70, 70, 0, 0, 0)), (60, 20, (0, 76, 76, 0, 0, 0)), (60, 21, (0, 1, 76, 0, 0, 0)), (60, 22, (0, -1, -1, 0, 0, 0))]), (76, [(-1, 3925)]))])]
set_option maxRecDepth 100000 in
theorem o_494 : okK 187 K_494 := okK_of (C := C_187) (fuel := 3000) rfl (A := A_187) Q_187 (ann := N_494) (spl := []) (mo := [(60, 21, 1)]) (by decide) (by decide +kernel)
set_option maxRecDepth 100000 in
theorem o_495 : okK 185 K_495 := okK_of (C := C_185) (fuel := 3000) rfl (A := A_185) Q_185 (ann := []) (spl := []) (mo := []) (by decide) (by decide +kernel)
set_option maxRecDepth 100000 in
theorem o_496 : okK 183 K_496 := okK_of (C := C_183) (fuel := 3000) rfl (A := A_183) Q_183 (ann := []) (spl := []) (mo := [(60, 21, 0)]) (by decide) (by decide +kernel)
set_option maxRecDepth 100000 in
theorem o_497 : okK 181 K_497 := okK_of (C := C_181) (fuel := 3000) rfl (A := A_181) Q_181 (ann := []) (spl := []) (mo := [(60, 21, 0)]) (by decide) (by decide +kernel)
set_option maxRecDepth 100000 in
theorem o_498 : okK 182 K_498 := okK_of (C := C_182) (fuel := 3000) rfl (A := A_182) Q_182 (ann := []) (spl := []) (mo := [(60, 21, 0)]) (by decide) (by decide +kernel)
set_option maxRecDepth 100000 in
theorem o_499 : okK 183 K_499 := okK_of (C := C_183) (fuel := 3000) rfl (A := A_183) Q_183 (ann := []) (spl := []) (mo := [(60, 21, 0)]) (by decide) (by decide +kernel)
set_option maxRecDepth 100000 in
theorem o_500 : okK 181 K_500 := okK_of (C := C_181) (fuel := 3000) rfl (A := A_181) Q_181 (ann := []) (spl := []) (mo := [(60, 21, 0)]) (by decide) (by decide +kernel)
set_option maxRecDepth 100000 in
theorem o_501 : okK 182 K_501 := okK_of (C := C_182) (fuel := 3000) rfl (A := A_182) Q_182 (ann := []) (spl := []) (mo := [(60, 21, 0)]) (by decide) (by decide +kernel)
set_option maxRecDepth 100000 in
theorem o_502 : okK 183 K_502 := okK_of (C := C_183) (fuel := 3000) rfl (A := A_183) Q_183 (ann := []) (spl := []) (mo := [(60, 21, 0)]) (by decide) (by decide +kernel)
set_option maxRecDepth 100000 in
theorem o_503 : okK 183 K_503 := okK_of (C := C_183) (fuel := 3000) rfl (A := A_183) Q_183 (ann := []) (spl := []) (mo := [(60, 21, 0)]) (by decide) (by decide +kernel)
set_option maxRecDepth 100000 in
theorem o_504 : okK 169 K_504 := okK_of (C := C_169) (fuel := 3000) rfl (A := A_169) Q_169 (ann := []) (spl := []) (mo := []) (by decide) (by decide +kernel)
set_option maxRecDepth 100000 in
theorem o_505 : okK 169 K_505 := okK_of (C := C_169) (fuel := 3000) rfl (A := A_169) Q_169 (ann := []) (spl := []) (mo := []) (by decide) (by decide +kernel)
set_option maxRecDepth 100000 in
theorem o_506 : okK 183 K_506 := okK_of (C := C_183) (fuel := 3000) rfl (A := A_183) Q_183 (ann := []) (spl := []) (mo := [(60, 21, 0)]) (by decide) (by decide +kernel)
set_option maxRecDepth 100000 in
theorem o_507 : okK 186 K_507 := okK_of (C := C_186) (fuel := 3000) rfl (A := A_186) Q_186 (ann := []) (spl := []) (mo := [(60, 21, 0)]) (by decide) (by decide +kernel)
def N_508 : aAnn := [(10, [(([(3, 62, 0, 0, 0, 1), (0, 0, 7, 0, 0, 2), (0, 0, 0, 0, 0, 3), (0, 0, 0, 0, 0, 0), (0, -1, -1, 0, 0, 0), aRef 0], [], [(60, 18, (0, 70, 70, 0, 0, 0)), (60, 20, (0, 76, 76, 0, 0, 0)), (60, 21, (0, 1, 40, 0, 0, 0)), (60, 22, (0, -1, -1, 0, 0, 0))]), (40, [(-1, 3925)]))])]
set_option maxRecDepth 100000 in
theorem o_508 : okK 187 K_508 := okK_of (C := C_187) (fuel := 3000) rfl (A := A_187) Q_187 (ann := N_508) (spl := []) (mo := [(60, 21, 1)]) (by decide) (by decide +kernel)
set_option maxRecDepth 100000 in
theorem o_509 : okK 183 K_509 := okK_of (C := C_183) (fuel := 3000) rfl (A := A_183) Q_183 (ann := []) (spl := []) (mo := [(60, 21, 0)]) (by decide) (by decide +kernel)
set_option maxRecDepth 100000 in
theorem o_510 : okK 181 K_510 := okK_of (C := C_181) (fuel := 3000) rfl (A := A_181) Q_181 (ann := []) (spl := []) (mo := [(60, 21, 0)]) (by decide) (by decide +kernel)
set_option maxRecDepth 100000 in
theorem o_511 : okK 182 K_511 := okK_of (C := C_182) (fuel := 3000) rfl (A := A_182) Q_182 (ann := []) (spl := []) (mo := [(60, 21, 0)]) (by decide) (by decide +kernel)
set_option maxRecDepth 100000 in
theorem o_512 : okK 183 K_512 := okK_of (C := C_183) (fuel := 3000) rfl (A := A_183) Q_183 (ann := []) (spl := []) (mo := [(60, 21, 0)]) (by decide) (by decide +kernel)
set_option maxRecDepth 100000 in
theorem o_513 : okK 183 K_513 := okK_of (C := C_183) (fuel := 3000) rfl (A := A_183) Q_183 (ann := []) (spl := []) (mo := [(60, 21, 0)]) (by decide) (by decide +kernel)
set_option maxRecDepth 100000 in
theorem o_514 : okK 177 K_514 := okK_of (C := C_177) (fuel := 3000) rfl (A := A_177) Q_177 (ann := []) (spl := []) (mo := []) (by decide) (by decide +kernel)
set_option maxRecDepth 100000 in
theorem o_515 : okK 179 K_515 := okK_of (C := C_179) (fuel := 3000) rfl (A := A_179) Q_179 (ann := []) (spl := []) (mo := []) (by decide) (by decide +kernel)
set_option maxRecDepth 100000 in
theorem o_516 : okK 178 K_516 := okK_of (C := C_178) (fuel := 3000) rfl (A := A_178) Q_178 (ann := []) (spl := []) (mo := []) (by decide) (by decide +kernel)
set_option maxRecDepth 100000 in
theorem o_517 : okK 181 K_517 := okK_of (C := C_181) (fuel := 3000) rfl (A := A_181) Q_181 (ann := []) (spl := []) (mo := [(60, 21, 0)]) (by decide) (by decide +kernel)
set_option maxRecDepth 100000 in
theorem o_518 : okK 192 K_518 := okK_of (C := C_192) (fuel := 3000) rfl (A := A_192) Q_192 (ann := []) (spl := []) (mo := []) (by decide) (by decide +kernel)
set_option maxRecDepth 100000 in
theorem o_519 : okK 192 K_519 := okK_of (C := C_192) (fuel := 3000) rfl (A := A_192) Q_192 (ann := []) (spl := []) (mo := []) (by decide) (by decide +kernel)
set_option maxRecDepth 100000 in
theorem o_520 : okK 192 K_520 := okK_of (C := C_192) (fuel := 3000) rfl (A := A_192) Q_192 (ann := []) (spl := []) (mo := []) (by decide) (by decide +kernel)
set_option maxRecDepth 100000 in
theorem o_521 : okK 192 K_521 := okK_of (C := C_192) (fuel := 3000) rfl (A := A_192) Q_192 (ann := []) (spl := []) (mo := []) (by decide) (by decide +kernel)
set_option maxRecDepth 100000 in
theorem o_522 : okK 170 K_522 := okK_of (C := C_170) (fuel := 3000) rfl (A := A_170) Q_170 (ann := []) (spl := []) (mo := []) (by decide) (by decide +kernel)
def N_523 : aAnn := [(4, [(([(3, 62, 0, 0, 0, 1), (0, -2147483648, 2147483647, 0, 0, 2), (0, 0, 255, 0, 0, 0), (0, 0, 8, 0, 0, 0)], [], []), (8, [(-1, 4)]))])]
set_option maxRecDepth 100000 in
theorem o_523 : okK 196 K_523 := okK_of (C := C_196) (fuel := 3000) rfl (A := A_196) Q_196 (ann := N_523) (spl := []) (mo := []) (by decide) (by decide +kernel)
set_option maxRecDepth 100000 in
theorem o_524 : okK 192 K_524 := okK_of (C := C_192) (fuel := 3000) rfl (A := A_192) Q_192 (ann := []) (spl := []) (mo := []) (by decide) (by decide +kernel)
set_option maxRecDepth 100000 in
theorem o_525 : okK 192 K_525 := okK_of (C := C_192) (fuel := 3000) rfl (A := A_192) Q_192 (ann := []) (spl := []) (mo := []) (by decide) (by decide +kernel)
set_option maxRecDepth 100000 in
theorem o_526 : okK 192 K_526 := okK_of (C := C_192) (fuel := 3000) rfl (A := A_192) Q_192 (ann := []) (spl := []) (mo := []) (by decide) (by decide +kernel)
def N_527 : aAnn := [(4, [(([(3, 62, 0, 0, 0, 1), (0, 0, 5, 0, 0, 2), (0, 0, 63, 0, 0, 0), (0, 0, 6, 0, 0, 0)], [], []), (6, [(-1, 4)]))])]
set_option maxRecDepth 100000 in
theorem o_527 : okK 197 K_527 := okK_of (C := C_197) (fuel := 3000) rfl (A := A_197) Q_197 (ann := N_527) (spl := []) (mo := []) (by decide) (by decide +kernel)
set_option maxRecDepth 100000 in
theorem o_528 : okK 192 K_528 := okK_of (C := C_192) (fuel := 3000) rfl (A := A_192) Q_192 (ann := []) (spl := []) (mo := []) (by decide) (by decide +kernel)
set_option maxRecDepth 100000 in
theorem o_529 : okK 192 K_529 := okK_of (C := C_192) (fuel := 3000) rfl (A := A_192) Q_192 (ann := []) (spl := []) (mo := []) (by decide) (by decide +kernel)
set_option maxRecDepth 100000 in
theorem o_530 : okK 169 K_530 := okK_of (C := C_169) (fuel := 3000) rfl (A := A_169) Q_169 (ann := []) (spl := []) (mo := []) (by decide) (by decide +kernel)
set_option maxRecDepth 100000 in
theorem o_531 : okK 169 K_531 := okK_of (C := C_169) (fuel := 3000) rfl (A := A_169) Q_169 (ann := []) (spl := []) (mo := []) (by decide) (by decide +kernel)
set_option maxRecDepth 100000 in
theorem o_532 : okK 169 K_532 := okK_of (C := C_169) (fuel := 3000) rfl (A := A_169) Q_169 (ann := []) (spl := []) (mo := []) (by decide) (by decide +kernel)
set_option maxRecDepth 100000 in
theorem o_533 : okK 169 K_533 := okK_of (C := C_169) (fuel := 3000) rfl (A := A_169) Q_169 (ann := []) (spl := []) (mo := []) (by decide) (by decide +kernel)
set_option maxRecDepth 100000 in
theorem o_534 : okK 169 K_534 := okK_of (C := C_169) (fuel := 3000) rfl (A := A_169) Q_169 (ann := []) (spl := []) (mo := []) (by decide) (by decide +kernel)
set_option maxRecDepth 100000 in
theorem o_535 : okK 169 K_535 := okK_of (C := C_169) (fuel := 3000) rfl (A := A_169) Q_169 (ann := []) (spl := []) (mo := []) (by decide) (by decide +kernel)
set_option maxRecDepth 100000 in
theorem o_536 : okK 169 K_536 := okK_of (C := C_169) (fuel := 3000) rfl (A := A_169) Q_169 (ann := []) (spl := []) (mo := []) (by decide) (by decide +kernel)
set_option maxRecDepth 100000 in
theorem o_537 : okK 169 K_537 := okK_of (C := C_169) (fuel := 3000) rfl (A := A_169) Q_169 (ann := []) (spl := []) (mo := []) (by decide) (by decide +kernel)
set_option maxRecDepth 100000 in
theorem o_538 : okK 169 K_538 := okK_of (C := C_169) (fuel := 3000) rfl (A := A_169) Q_169 (ann := []) (spl := []) (mo := []) (by decide) (by decide +kernel)
set_option maxRecDepth 100000 in
theorem o_539 : okK 169 K_539 := okK_of (C := C_169) (fuel := 3000) rfl (A := A_169) Q_169 (ann := []) (spl := []) (mo := []) (by decide) (by decide +kernel)
set_option maxRecDepth 100000 in
theorem o_540 : okK 169 K_540 := okK_of (C := C_169) (fuel := 3000) rfl (A := A_169) Q_169 (ann := []) (spl := []) (mo := []) (by decide) (by decide +kernel)
set_option maxRecDepth 100000 in
theorem o_541 : okK 169 K_541 := okK_of (C := C_169) (fuel := 3000) rfl (A := A_169) Q_169 (ann := []) (spl := []) (mo := []) (by decide) (by decide +kernel)
set_option maxRecDepth 100000 in
theorem o_542 : okK 169 K_542 := okK_of (C := C_169) (fuel := 3000) rfl (A := A_169) Q_169 (ann := []) (spl := []) (mo := []) (by decide) (by decide +kernel)
set_option maxRecDepth 100000 in
theorem o_543 : okK 169 K_543 := okK_of (C := C_169) (fuel := 3000) rfl (A := A_169) Q_169 (ann := []) (spl := []) (mo := []) (by decide) (by decide +kernel)
set_option maxRecDepth 100000 in
theorem o_544 : okK 183 K_544 := okK_of (C := C_183) (fuel := 3000) rfl (A := A_183) Q_183 (ann := []) (spl := []) (mo := [(60, 21, 0)]) (by decide) (by decide +kernel)
set_option maxRecDepth 100000 in
theorem o_545 : okK 169 K_545 := okK_of (C := C_169) (fuel := 3000) rfl (A := A_169) Q_169 (ann := []) (spl := []) (mo := []) (by decide) (by decide +kernel)
set_option maxRecDepth 100000 in
theorem o_546 : okK 191 K_546 := okK_of (C := C_191) (fuel := 3000) rfl (A := A_191) Q_191 (ann := []) (spl := []) (mo := [(60, 21, 0)]) (by decide) (by decide +kernel)
def N_547 : aAnn := [(4, [(([(3, 62, 0, 0, 0, 1), (0, 0, 4, 0, 0, 2), (0, 0, 0, 0, 0, 0), aRef 0, aRef 0], [], [(60, 18, (0, 70, 70, 0, 0, 0)), (60, 20, (0, 40, 40, 0, 0, 0)), (60, 21, (0, 40, 40, 0, 0, 0)), (60, 22, (0, 0, 80, 0, 0, 0))]), (40, [(-1, 3925)]))])]
set_option maxRecDepth 100000 in
theorem o_547 : okK 190 K_547 := okK_of (C := C_190) (fuel := 3000) rfl (A := A_190) Q_190 (ann := N_547) (spl := []) (mo := [(60, 21, 0)]) (by decide) (by decide +kernel)
def N_548 : aAnn := [(4, [(([(3, 62, 0, 0, 0, 1), (0, 0, 4, 0, 0, 2), (0, 0, 0, 0, 0, 0), aRef 0, aRef 0], [], [(60, 18, (0, 70, 70, 0, 0, 0)), (60, 20, (0, 40, 40, 0, 0, 0)), (60, 21, (0, 40, 40, 0, 0, 0)), (60, 22, (0, 0, 80, 0, 0, 0))]), (40, [(-1, 3925)]))])]
set_option maxRecDepth 100000 in
theorem o_548 : okK 189 K_548 := okK_of (C := C_189) (fuel := 3000) rfl (A := A_189) Q_189 (ann := N_548) (spl := []) (mo := [(60, 21, 0)]) (by decide) (by decide +kernel)
set_option maxRecDepth 100000 in
theorem o_549 : okK 181 K_549 := okK_of (C := C_181) (fuel := 3000) rfl (A := A_181) Q_181 (ann := []) (spl := []) (mo := [(60, 21, 0)]) (by decide) (by decide +kernel)
set_option maxRecDepth 100000 in
theorem o_550 : okK 188 K_550 := okK_of (C := C_188) (fuel := 3000) rfl (A := A_188) Q_188 (ann := []) (spl := []) (mo := [(60, 21, 0)]) (by decide) (by decide +kernel)
set_option maxRecDepth 100000 in
theorem o_551 : okK 182 K_551 := okK_of (C := C_182) (fuel := 3000) rfl (A := A_182) Q_182 (ann := []) (spl := []) (mo := [(60, 21, 0)]) (by decide) (by decide +kernel)
set_option maxRecDepth 100000 in
theorem o_552 : okK 191 K_552 := okK_of (C := C_191) (fuel := 3000) rfl (A := A_191) Q_191 (ann := []) (spl := []) (mo := [(60, 21, 0)]) (by decide) (by decide +kernel)
def N_553 : aAnn := [(4, [(([(3, 62, 0, 0, 0, 1), (0, 0, 4, 0, 0, 2), (1, 0, 0, 0, 0, 0), (4, 0, 0, 0, 0, 0), (4, 0, 0, 0, 0, 0)], [], [(60, 18, (0, 70, 70, 0, 0, 0)), (60, 20, (0, 40, 40, 0, 0, 0)), (60, 21, (0, 39, 40, 0, 0, 0))]), (40, [(-1, 3925)]))])]
set_option maxRecDepth 100000 in
theorem o_553 : okK 190 K_553 := okK_of (C := C_190) (fuel := 3000) rfl (A := A_190) Q_190 (ann := N_553) (spl := []) (mo := [(60, 21, 0)]) (by decide) (by decide +kernel)
def N_554 : aAnn := [(4, [(([(3, 62, 0, 0, 0, 1), (0, 0, 4, 0, 0, 2), (1, 0, 0, 0, 0, 0), (4, 0, 0, 0, 0, 0), (4, 0, 0, 0, 0, 0)], [], [(60, 18, (0, 70, 70, 0, 0, 0)), (60, 20, (0, 40, 40, 0, 0, 0)), (60, 21, (0, 39, 40, 0, 0, 0))]), (40, [(-1, 3925)]))])]
set_option maxRecDepth 100000 in
theorem o_554 : okK 189 K_554 := okK_of (C := C_189) (fuel := 3000) rfl (A := A_189) Q_189 (ann := N_554) (spl := []) (mo := [(60, 21, 0)]) (by decide) (by decide +kernel)
set_option maxRecDepth 100000 in
theorem o_555 : okK 181 K_555 := okK_of (C := C_181) (fuel := 3000) rfl (A := A_181) Q_181 (ann := []) (spl := []) (mo := [(60, 21, 0)]) (by decide) (by decide +kernel)
set_option maxRecDepth 100000 in
theorem o_556 : okK 188 K_556 := okK_of (C := C_188) (fuel := 3000) rfl (A := A_188) Q_188 (ann := []) (spl := []) (mo := [(60, 21, 0)]) (by decide) (by decide +kernel)
set_option maxRecDepth 100000 in
theorem o_557 : okK 182 K_557 := okK_of (C := C_182) (fuel := 3000) rfl (A := A_182) Q_182 (ann := []) (spl := []) (mo := [(60, 21, 0)]) (by decide) (by decide +kernel)
set_option maxRecDepth 100000 in
theorem o_558 : okK 191 K_558 := okK_of (C := C_191) (fuel := 3000) rfl (A := A_191) Q_191 (ann := []) (spl := []) (mo := [(60, 21, 0)]) (by decide) (by decide +kernel)
def N_559 : aAnn := [(4, [(([(3, 62, 0, 0, 0, 1), (0, 0, 4, 0, 0, 2), (1, 0, 0, 0, 0, 0), (4, 0, 0, 0, 0, 0), (4, 0, 0, 0, 0, 0)], [], [(60, 18, (0, 70, 70, 0, 0, 0)), (60, 20, (0, 40, 40, 0, 0, 0)), (60, 21, (0, 38, 40, 0, 0, 0))]), (40, [(-1, 3925)]))])]
set_option maxRecDepth 100000 in
theorem o_559 : okK 190 K_559 := okK_of (C := C_190) (fuel := 3000) rfl (A := A_190) Q_190 (ann := N_559) (spl := []) (mo := [(60, 21, 0)]) (by decide) (by decide +kernel)
def N_560 : aAnn := [(4, [(([(3, 62, 0, 0, 0, 1), (0, 0, 4, 0, 0, 2), (1, 0, 0, 0, 0, 0), (4, 0, 0, 0, 0, 0), (4, 0, 0, 0, 0, 0)], [], [(60, 18, (0, 70, 70, 0, 0, 0)), (60, 20, (0, 40, 40, 0, 0, 0)), (60, 21, (0, 38, 40, 0, 0, 0))]), (40, [(-1, 3925)]))])]
set_option maxRecDepth 100000 in
theorem o_560 : okK 189 K_560 := okK_of (C := C_189) (fuel := 3000) rfl (A := A_189) Q_189 (ann := N_560) (spl := []) (mo := [(60, 21, 0)]) (by decide) (by decide +kernel)
set_option maxRecDepth 100000 in
theorem o_561 : okK 188 K_561 := okK_of (C := C_188) (fuel := 3000) rfl (A := A_188) Q_188 (ann := []) (spl := []) (mo := [(60, 21, 0)]) (by decide) (by decide +kernel)
set_option maxRecDepth 100000 in
theorem o_562 : okK 191 K_562 := okK_of (C := C_191) (fuel := 3000) rfl (A := A_191) Q_191 (ann := []) (spl := []) (mo := [(60, 21, 0)]) (by decide) (by decide +kernel)
def N_563 : aAnn := [(4, [(([(3, 62, 0, 0, 0, 1), (0, 0, 4, 0, 0, 2), (1, 0, 0, 0, 0, 0), (4, 0, 0, 0, 0, 0), (4, 0, 0, 0, 0, 0)], [], [(60, 18, (0, 70, 70, 0, 0, 0)), (60, 20, (0, 40, 40, 0, 0, 0)), (60, 21, (0, 37, 40, 0, 0, 0))]), (40, [(-1, 3925)]))])]
set_option maxRecDepth 100000 in
theorem o_563 : okK 190 K_563 := okK_of (C := C_190) (fuel := 3000) rfl (A := A_190) Q_190 (ann := N_563) (spl := []) (mo := [(60, 21, 0)]) (by decide) (by decide +kernel)
def N_564 : aAnn := [(4, [(([(3, 62, 0, 0, 0, 1), (0, 0, 4, 0, 0, 2), (1, 0, 0, 0, 0, 0), (4, 0, 0, 0, 0, 0), (4, 0, 0, 0, 0, 0)], [], [(60, 18, (0, 70, 70, 0, 0, 0)), (60, 20, (0, 40, 40, 0, 0, 0)), (60, 21, (0, 37, 40, 0, 0, 0))]), (40, [(-1, 3925)]))])]
set_option maxRecDepth 100000 in
theorem o_564 : okK 189 K_564 := okK_of (C := C_189) (fuel := 3000) rfl (A := A_189) Q_189 (ann := N_564) (spl := []) (mo := [(60, 21, 0)]) (by decide) (by decide +kernel)
set_option maxRecDepth 100000 in
theorem o_565 : okK 188 K_565 := okK_of (C := C_188) (fuel := 3000) rfl (A := A_188) Q_188 (ann := []) (spl := []) (mo := [(60, 21, 0)]) (by decide) (by decide +kernel)
set_option maxRecDepth 100000 in
theorem o_566 : okK 191 K_566 := okK_of (C := C_191) (fuel := 3000) rfl (A := A_191) Q_191 (ann := []) (spl := []) (mo := [(60, 21, 0)]) (by decide) (by decide +kernel)
def N_567 : aAnn := [(4, [(([(3, 62, 0, 0, 0, 1), (0, 0, 4, 0, 0, 2), (1, 0, 0, 0, 0, 0), (4, 0, 0, 0, 0, 0), (4, 0, 0, 0, 0, 0)], [], [(60, 18, (0, 70, 70, 0, 0, 0)), (60, 20, (0, 40, 40, 0, 0, 0)), (60, 21, (0, 36, 40, 0, 0, 0))]), (40, [(-1, 3925)]))])]
set_option maxRecDepth 100000 in
theorem o_567 : okK 190 K_567 := okK_of (C := C_190) (fuel := 3000) rfl (A := A_190) Q_190 (ann := N_567) (spl := []) (mo := [(60, 21, 0)]) (by decide) (by decide +kernel)
def N_568 : aAnn := [(4, [(([(3, 62, 0, 0, 0, 1), (0, 0, 4, 0, 0, 2), (1, 0, 0, 0, 0, 0), (4, 0, 0, 0, 0, 0), (4, 0, 0, 0, 0, 0)], [], [(60, 18, (0, 70, 70, 0, 0, 0)), (60, 20, (0, 40, 40, 0, 0, 0)), (60, 21, (0, 36, 40, 0, 0, 0))]), (40, [(-1, 3925)]))])]
set_option maxRecDepth 100000 in
theorem o_568 : okK 189 K_568 := okK_of (C := C_189) (fuel := 3000) rfl (A := A_189) Q_189 (ann := N_568) (spl := []) (mo := [(60, 21, 0)]) (by decide) (by decide +kernel)
set_option maxRecDepth 100000 in
theorem o_569 : okK 188 K_569 := okK_of (C := C_188) (fuel := 3000) rfl (A := A_188) Q_188 (ann := []) (spl := []) (mo := [(60, 21, 0)]) (by decide) (by decide +kernel)
set_option maxRecDepth 100000 in
theorem o_570 : okK 191 K_570 := okK_of (C := C_191) (fuel := 3000) rfl (A := A_191) Q_191 (ann := []) (spl := []) (mo := [(60, 21, 0)]) (by decide) (by decide +kernel)
def N_571 : aAnn := [(4, [(([(3, 62, 0, 0, 0, 1), (0, 0, 4, 0, 0, 2), (1, 0, 0, 0, 0, 0), (4, 0, 0, 0, 0, 0), (4, 0, 0, 0, 0, 0)], [], [(60, 18, (0, 70, 70, 0, 0, 0)), (60, 20, (0, 40, 40, 0, 0, 0)), (60, 21, (0, 35, 40, 0, 0, 0))]), (40, [(-1, 3925)]))])]
set_option maxRecDepth 100000 in
theorem o_571 : okK 190 K_571 := okK_of (C := C_190) (fuel := 3000) rfl (A := A_190) Q_190 (ann := N_571) (spl := []) (mo := [(60, 21, 0)]) (by decide) (by decide +kernel)
def N_572 : aAnn := [(4, [(([(3, 62, 0, 0, 0, 1), (0, 0, 4, 0, 0, 2), (1, 0, 0, 0, 0, 0), (4, 0, 0, 0, 0, 0), (4, 0, 0, 0, 0, 0)], [], [(60, 18, (0, 70, 70, 0, 0, 0)), (60, 20, (0, 40, 40, 0, 0, 0)), (60, 21, (0, 35, 40, 0, 0, 0))]), (40, [(-1, 3925)]))])]
set_option maxRecDepth 100000 in
theorem o_572 : okK 189 K_572 := okK_of (C := C_189) (fuel := 3000) rfl (A := A_189) Q_189 (ann := N_572) (spl := []) (mo := [(60, 21, 0)]) (by decide) (by decide +kernel)
set_option maxRecDepth 100000 in
theorem o_573 : okK 188 K_573 := okK_of (C := C_188) (fuel := 3000) rfl (A := A_188) Q_188 (ann := []) (spl := []) (mo := [(60, 21, 0)]) (by decide) (by decide +kernel)
set_option maxRecDepth 100000 in
theorem o_574 : okK 191 K_574 := okK_of (C := C_191) (fuel := 3000) rfl (A := A_191) Q_191 (ann := []) (spl := []) (mo := [(60, 21, 0)]) (by decide) (by decide +kernel)
def N_575 : aAnn := [(4, [(([(3, 62, 0, 0, 0, 1), (0, 0, 4, 0, 0, 2), (1, 0, 0, 0, 0, 0), (4, 0, 0, 0, 0, 0), (4, 0, 0, 0, 0, 0)], [], [(60, 18, (0, 70, 70, 0, 0, 0)), (60, 20, (0, 40, 40, 0, 0, 0)), (60, 21, (0, 34, 40, 0, 0, 0))]), (40, [(-1, 3925)]))])]
set_option maxRecDepth 100000 in
theorem o_575 : okK 190 K_575 := okK_of (C := C_190) (fuel := 3000) rfl (A := A_190) Q_190 (ann := N_575) (spl := []) (mo := [(60, 21, 0)]) (by decide) (by decide +kernel)
def N_576 : aAnn := [(4, [(([(3, 62, 0, 0, 0, 1), (0, 0, 4, 0, 0, 2), (1, 0, 0, 0, 0, 0), (4, 0, 0, 0, 0, 0), (4, 0, 0, 0, 0, 0)], [], [(60, 18, (0, 70, 70, 0, 0, 0)), (60, 20, (0, 40, 40, 0, 0, 0)), (60, 21, (0, 34, 40, 0, 0, 0))]), (40, [(-1, 3925)]))])]
set_option maxRecDepth 100000 in
theorem o_576 : okK 189 K_576 := okK_of (C := C_189) (fuel := 3000) rfl (A := A_189) Q_189 (ann := N_576) (spl := []) (mo := [(60, 21, 0)]) (by decide) (by decide +kernel)
set_option maxRecDepth 100000 in
theorem o_577 : okK 188 K_577 := okK_of (C := C_188) (fuel := 3000) rfl (A := A_188) Q_188 (ann := []) (spl := []) (mo := [(60, 21, 0)]) (by decide) (by decide +kernel)
set_option maxRecDepth 100000 in
theorem o_578 : okK 191 K_578 := okK_of (C := C_191) (fuel := 3000) rfl (A := A_191) Q_191 (ann := []) (spl := []) (mo := [(60, 21, 0)]) (by decide) (by decide +kernel)
def N_579 : aAnn := [(4, [(([(3, 62, 0, 0, 0, 1), (0, 0, 4, 0, 0, 2), (1, 0, 0, 0, 0, 0), (4, 0, 0, 0, 0, 0), (4, 0, 0, 0, 0, 0)], [], [(60, 18, (0, 70, 70, 0, 0, 0)), (60, 20, (0, 40, 40, 0, 0, 0)), (60, 21, (0, 33, 40, 0, 0, 0))]), (40, [(-1, 3925)]))])]
set_option maxRecDepth 100000 in
theorem o_579 : okK 190 K_579 := okK_of (C := C_190) (fuel := 3000) rfl (A := A_190) Q_190 (ann := N_579) (spl := []) (mo := [(60, 21, 0)]) (by decide) (by decide +kernel)
def N_580 : aAnn := [(4, [(([(3, 62, 0, 0, 0, 1), (0, 0, 4, 0, 0, 2), (1, 0, 0, 0, 0, 0), (4, 0, 0, 0, 0, 0), (4, 0, 0, 0, 0, 0)], [], [(60, 18, (0, 70, 70, 0, 0, 0)), (60, 20, (0, 40, 40, 0, 0, 0)), (60, 21, (0, 33, 40, 0, 0, 0))]), (40, [(-1, 3925)]))])]
set_option maxRecDepth 100000 in
theorem o_580 : okK 189 K_580 := okK_of (C := C_189) (fuel := 3000) rfl (A := A_189) Q_189 (ann := N_580) (spl := []) (mo := [(60, 21, 0)]) (by decide) (by decide +kernel)
set_option maxRecDepth 100000 in
theorem o_581 : okK 188 K_581 := okK_of (C := C_188) (fuel := 3000) rfl (A := A_188) Q_188 (ann := []) (spl := []) (mo := [(60, 21, 0)]) (by decide) (by decide +kernel)
set_option maxRecDepth 100000 in
theorem o_582 : okK 191 K_582 := okK_of (C := C_191) (fuel := 3000) rfl (A := A_191) Q_191 (ann := []) (spl := []) (mo := [(60, 21, 0)]) (by decide) (by decide +kernel)
def N_583 : aAnn := [(4, [(([(3, 62, 0, 0, 0, 1), (0, 0, 4, 0, 0, 2), (1, 0, 0, 0, 0, 0), (4, 0, 0, 0, 0, 0), (4, 0, 0, 0, 0, 0)], [], [(60, 18, (0, 70, 70, 0, 0, 0)), (60, 20, (0, 40, 40, 0, 0, 0)), (60, 21, (0, 32, 40, 0, 0, 0))]), (40, [(-1, 3925)]))])]
set_option maxRecDepth 100000 in
theorem o_583 : okK 190 K_583 := okK_of (C := C_190) (fuel := 3000) rfl (A := A_190) Q_190 (ann := N_583) (spl := []) (mo := [(60, 21, 0)]) (by decide) (by decide +kernel)
def N_584 : aAnn := [(4, [(([(3, 62, 0, 0, 0, 1), (0, 0, 4, 0, 0, 2), (1, 0, 0, 0, 0, 0), (4, 0, 0, 0, 0, 0), (4, 0, 0, 0, 0, 0)], [], [(60, 18, (0, 70, 70, 0, 0, 0)), (60, 20, (0, 40, 40, 0, 0, 0)), (60, 21, (0, 32, 40, 0, 0, 0))]), (40, [(-1, 3925)]))])]
set_option maxRecDepth 100000 in
theorem o_584 : okK 189 K_584 := okK_of (C := C_189) (fuel := 3000) rfl (A := A_189) Q_189 (ann := N_584) (spl := []) (mo := [(60, 21, 0)]) (by decide) (by decide +kernel)
set_option maxRecDepth 100000 in
theorem o_585 : okK 188 K_585 := okK_of (C := C_188) (fuel := 3000) rfl (A := A_188) Q_188 (ann := []) (spl := []) (mo := [(60, 21, 0)]) (by decide) (by decide +kernel)
set_option maxRecDepth 100000 in
theorem o_586 : okK 191 K_586 := okK_of (C := C_191) (fuel := 3000) rfl (A := A_191) Q_191 (ann := []) (spl := []) (mo := [(60, 21, 0)]) (by decide) (by decide +kernel)
def N_587 : aAnn := [(4, [(([(3, 62, 0, 0, 0, 1), (0, 0, 4, 0, 0, 2), (1, 0, 0, 0, 0, 0), (4, 0, 0, 0, 0, 0), (4, 0, 0, 0, 0, 0)], [], [(60, 18, (0, 70, 70, 0, 0, 0)), (60, 20, (0, 40, 40, 0, 0, 0)), (60, 21, (0, 31, 40, 0, 0, 0))]), (40, [(-1, 3925)]))])]
set_option maxRecDepth 100000 in
theorem o_587 : okK 190 K_587 := okK_of (C := C_190) (fuel := 3000) rfl (A := A_190) Q_190 (ann := N_587) (spl := []) (mo := [(60, 21, 0)]) (by decide) (by decide +kernel)
def N_588 : aAnn := [(4, [(([(3, 62, 0, 0, 0, 1), (0, 0, 4, 0, 0, 2), (1, 0, 0, 0, 0, 0), (4, 0, 0, 0, 0, 0), (4, 0, 0, 0, 0, 0)], [], [(60, 18, (0, 70, 70, 0, 0, 0)), (60, 20, (0, 40, 40, 0, 0, 0)), (60, 21, (0, 31, 40, 0, 0, 0))]), (40, [(-1, 3925)]))])]
set_option maxRecDepth 100000 in
theorem o_588 : okK 189 K_588 := okK_of (C := C_189) (fuel := 3000) rfl (A := A_189) Q_189 (ann := N_588) (spl := []) (mo := [(60, 21, 0)]) (by decide) (by decide +kernel)
set_option maxRecDepth 100000 in
theorem o_589 : okK 188 K_589 := okK_of (C := C_188) (fuel := 3000) rfl (A := A_188) Q_188 (ann := []) (spl := []) (mo := [(60, 21, 0)]) (by decide) (by decide +kernel)
set_option maxRecDepth 100000 in
theorem o_590 : okK 191 K_590 := okK_of (C := C_191) (fuel := 3000) rfl (A := A_191) Q_191 (ann := []) (spl := []) (mo := [(60, 21, 0)]) (by decide) (by decide +kernel)
def N_591 : aAnn := [(4, [(([(3, 62, 0, 0, 0, 1), (0, 0, 4, 0, 0, 2), (1, 0, 0, 0, 0, 0), (4, 0, 0, 0, 0, 0), (4, 0, 0, 0, 0, 0)], [], [(60, 18, (0, 70, 70, 0, 0, 0)), (60, 20, (0, 40, 40, 0, 0, 0)), (60, 21, (0, 30, 40, 0, 0, 0))]), (40, [(-1, 3925)]))])]
set_option maxRecDepth 100000 in
theorem o_591 : okK 190 K_591 := okK_of (C := C_190) (fuel := 3000) rfl (A := A_190) Q_190 (ann := N_591) (spl := []) (mo := [(60, 21, 0)]) (by decide) (by decide +kernel)
def N_592 : aAnn := [(4, [(([(3, 62, 0, 0, 0, 1), (0, 0, 4, 0, 0, 2), (1, 0, 0, 0, 0, 0), (4, 0, 0, 0, 0, 0), (4, 0, 0, 0, 0, 0)], [], [(60, 18, (0, 70, 70, 0, 0, 0)), (60, 20, (0, 40, 40, 0, 0, 0)), (60, 21, (0, 30, 40, 0, 0, 0))]), (40, [(-1, 3925)]))])]
set_option maxRecDepth 100000 in
theorem o_592 : okK 189 K_592 := okK_of (C := C_189) (fuel := 3000) rfl (A := A_189) Q_189 (ann := N_592) (spl := []) (mo := [(60, 21, 0)]) (by decide) (by decide +kernel)
set_option maxRecDepth 100000 in
theorem o_593 : okK 188 K_593 := okK_of (C := C_188) (fuel := 3000) rfl (A := A_188) Q_188 (ann := []) (spl := []) (mo := [(60, 21, 0)]) (by decide) (by decide +kernel)
set_option maxRecDepth 100000 in
theorem o_594 : okK 191 K_594 := okK_of (C := C_191) (fuel := 3000) rfl (A := A_191) Q_191 (ann := []) (spl := []) (mo := [(60, 21, 0)]) (by decide) (by decide +kernel)
def N_595 : aAnn := [(4, [(([(3, 62, 0, 0, 0, 1), (0, 0, 4, 0, 0, 2), (1, 0, 0, 0, 0, 0), (4, 0, 0, 0, 0, 0), (4, 0, 0, 0, 0, 0)], [], [(60, 18, (0, 70, 70, 0, 0, 0)), (60, 20, (0, 40, 40, 0, 0, 0)), (60, 21, (0, 29, 40, 0, 0, 0))]), (40, [(-1, 3925)]))])]
set_option maxRecDepth 100000 in
theorem o_595 : okK 190 K_595 := okK_of (C := C_190) (fuel := 3000) rfl (A := A_190) Q_190 (ann := N_595) (spl := []) (mo := [(60, 21, 0)]) (by decide) (by decide +kernel)
def N_596 : aAnn := [(4, [(([(3, 62, 0, 0, 0, 1), (0, 0, 4, 0, 0, 2), (1, 0, 0, 0, 0, 0), (4, 0, 0, 0, 0, 0), (4, 0, 0, 0, 0, 0)], [], [(60, 18, (0, 70, 70, 0, 0, 0)), (60, 20, (0, 40, 40, 0, 0, 0)), (60, 21, (0, 29, 40, 0, 0, 0))]), (40, [(-1, 3925)]))])]
set_option maxRecDepth 100000 in
theorem o_596 : okK 189 K_596 := okK_of (C := C_189) (fuel := 3000) rfl (A := A_189) Q_189 (ann := N_596) (spl := []) (mo := [(60, 21, 0)]) (by decide) (by decide +kernel)
set_option maxRecDepth 100000 in
theorem o_597 : okK 188 K_597 := okK_of (C := C_188) (fuel := 3000) rfl (A := A_188) Q_188 (ann := []) (spl := []) (mo := [(60, 21, 0)]) (by decide) (by decide +kernel)
set_option maxRecDepth 100000 in
theorem o_598 : okK 191 K_598 := okK_of (C := C_191) (fuel := 3000) rfl (A := A_191) Q_191 (ann := []) (spl := []) (mo := [(60, 21, 0)]) (by decide) (by decide +kernel)
def N_599 : aAnn := [(4, [(([(3, 62, 0, 0, 0, 1), (0, 0, 4, 0, 0, 2), (1, 0, 0, 0, 0, 0), (4, 0, 0, 0, 0, 0), (4, 0, 0, 0, 0, 0)], [], [(60, 18, (0, 70, 70, 0, 0, 0)), (60, 20, (0, 40, 40, 0, 0, 0)), (60, 21, (0, 28, 40, 0, 0, 0))]), (40, [(-1, 3925)]))])]
set_option maxRecDepth 100000 in
theorem o_599 : okK 190 K_599 := okK_of (C := C_190) (fuel := 3000) rfl (A := A_190) Q_190 (ann := N_599) (spl := []) (mo := [(60, 21, 0)]) (by decide) (by decide +kernel)
def N_600 : aAnn := [(4, [(([(3, 62, 0, 0, 0, 1), (0, 0, 4, 0, 0, 2), (1, 0, 0, 0, 0, 0), (4, 0, 0, 0, 0, 0), (4, 0, 0, 0, 0, 0)], [], [(60, 18, (0, 70, 70, 0, 0, 0)), (60, 20, (0, 40, 40, 0, 0, 0)), (60, 21, (0, 28, 40, 0, 0, 0))]), (40, [(-1, 3925)]))])]
set_option maxRecDepth 100000 in
theorem o_600 : okK 189 K_600 := okK_of (C := C_189) (fuel := 3000) rfl (A := A_189) Q_189 (ann := N_600) (spl := []) (mo := [(60, 21, 0)]) (by decide) (by decide +kernel)
set_option maxRecDepth 100000 in
theorem o_601 : okK 188 K_601 := okK_of (C := C_188) (fuel := 3000) rfl (A := A_188) Q_188 (ann := []) (spl := []) (mo := [(60, 21, 0)]) (by decide) (by decide +kernel)
set_option maxRecDepth 100000 in
theorem o_602 : okK 191 K_602 := okK_of (C := C_191) (fuel := 3000) rfl (A := A_191) Q_191 (ann := []) (spl := []) (mo := [(60, 21, 0)]) (by decide) (by decide +kernel)
def N_603 : aAnn := [(4, [(([(3, 62, 0, 0, 0, 1), (0, 0, 4, 0, 0, 2), (1, 0, 0, 0, 0, 0), (4, 0, 0, 0, 0, 0), (4, 0, 0, 0, 0, 0)], [], [(60, 18, (0, 70, 70, 0, 0, 0)), (60, 20, (0, 40, 40, 0, 0, 0)), (60, 21, (0, 27, 40, 0, 0, 0))]), (40, [(-1, 3925)]))])]
set_option maxRecDepth 100000 in
theorem o_603 : okK 190 K_603 := okK_of (C := C_190) (fuel := 3000) rfl (A := A_190) Q_190 (ann := N_603) (spl := []) (mo := [(60, 21, 0)]) (by decide) (by decide +kernel)
def N_604 : aAnn := [(4, [(([(3, 62, 0, 0, 0, 1), (0, 0, 4, 0, 0, 2), (1, 0, 0, 0, 0, 0), (4, 0, 0, 0, 0, 0), (4, 0, 0, 0, 0, 0)], [], [(60, 18, (0, 70, 70, 0, 0, 0)), (60, 20, (0, 40, 40, 0, 0, 0)), (60, 21, (0, 27, 40, 0, 0, 0))]), (40, [(-1, 3925)]))])]
set_option maxRecDepth 100000 in
theorem o_604 : okK 189 K_604 := okK_of (C := C_189) (fuel := 3000) rfl (A := A_189) Q_189 (ann := N_604) (spl := []) (mo := [(60, 21, 0)]) (by decide) (by decide +kernel)
set_option maxRecDepth 100000 in
theorem o_605 : okK 188 K_605 := okK_of (C := C_188) (fuel := 3000) rfl (A := A_188) Q_188 (ann := []) (spl := []) (mo := [(60, 21, 0)]) (by decide) (by decide +kernel)
set_option maxRecDepth 100000 in
theorem o_606 : okK 191 K_606 := okK_of (C := C_191) (fuel := 3000) rfl (A := A_191) Q_191 (ann := []) (spl := []) (mo := [(60, 21, 0)]) (by decide) (by decide +kernel)
def N_607 : aAnn := [(4, [(([(3, 62, 0, 0, 0, 1), (0, 0, 4, 0, 0, 2), (1, 0, 0, 0, 0, 0), (4, 0, 0, 0, 0, 0), (4, 0, 0, 0, 0, 0)], [], [(60, 18, (0, 70, 70, 0, 0, 0)), (60, 20, (0, 40, 40, 0, 0, 0)), (60, 21, (0, 26, 40, 0, 0, 0))]), (40, [(-1, 3925)]))])]
set_option maxRecDepth 100000 in
theorem o_607 : okK 190 K_607 := okK_of (C := C_190) (fuel := 3000) rfl (A := A_190) Q_190 (ann := N_607) (spl := []) (mo := [(60, 21, 0)]) (by decide) (by decide +kernel)
def N_608 : aAnn := [(4, [(([(3, 62, 0, 0, 0, 1), (0, 0, 4, 0, 0, 2), (1, 0, 0, 0, 0, 0), (4, 0, 0, 0, 0, 0), (4, 0, 0, 0, 0, 0)], [], [(60, 18, (0, 70, 70, 0, 0, 0)), (60, 20, (0, 40, 40, 0, 0, 0)), (60, 21, (0, 26, 40, 0, 0, 0))]), (40, [(-1, 3925)]))])]
set_option maxRecDepth 100000 in
theorem o_608 : okK 189 K_608 := okK_of (C := C_189) (fuel := 3000) rfl (A := A_189) Q_189 (ann := N_608) (spl := []) (mo := [(60, 21, 0)]) (by decide) (by decide +kernel)
set_option maxRecDepth 100000 in
theorem o_609 : okK 188 K_609 := okK_of (C := C_188) (fuel := 3000) rfl (A := A_188) Q_188 (ann := []) (spl := []) (mo := [(60, 21, 0)]) (by decide) (by decide +kernel)
set_option maxRecDepth 100000 in
theorem o_610 : okK 191 K_610 := okK_of (C := C_191) (fuel := 3000) rfl (A := A_191) Q_191 (ann := []) (spl := []) (mo := [(60, 21, 0)]) (by decide) (by decide +kernel)
def N_611 : aAnn := [(4, [(([(3, 62, 0, 0, 0, 1), (0, 0, 4, 0, 0, 2), (1, 0, 0, 0, 0, 0), (4, 0, 0, 0, 0, 0), (4, 0, 0, 0, 0, 0)], [], [(60, 18, (0, 70, 70, 0, 0, 0)), (60, 20, (0, 40, 40, 0, 0, 0)), (60, 21, (0, 25, 40, 0, 0, 0))]), (40, [(-1, 3925)]))])]
set_option maxRecDepth 100000 in
theorem o_611 : okK 190 K_611 := okK_of (C := C_190) (fuel := 3000) rfl (A := A_190) Q_190 (ann := N_611) (spl := []) (mo := [(60, 21, 0)]) (by decide) (by decide +kernel)
def N_612 : aAnn := [(4, [(([(3, 62, 0, 0, 0, 1), (0, 0, 4, 0, 0, 2), (1, 0, 0, 0, 0, 0), (4, 0, 0, 0, 0, 0), (4, 0, 0, 0, 0, 0)], [], [(60, 18, (0, 70, 70, 0, 0, 0)), (60, 20, (0, 40, 40, 0, 0, 0)), (60, 21, (0, 25, 40, 0, 0, 0))]), (40, [(-1, 3925)]))])]
set_option maxRecDepth 100000 in
theorem o_612 : okK 189 K_612 := okK_of (C := C_189) (fuel := 3000) rfl (A := A_189) Q_189 (ann := N_612) (spl := []) (mo := [(60, 21, 0)]) (by decide) (by decide +kernel)
set_option maxRecDepth 100000 in
theorem o_613 : okK 188 K_613 := okK_of (C := C_188) (fuel := 3000) rfl (A := A_188) Q_188 (ann := []) (spl := []) (mo := [(60, 21, 0)]) (by decide) (by decide +kernel)
set_option maxRecDepth 100000 in
theorem o_614 : okK 191 K_614 := okK_of (C := C_191) (fuel := 3000) rfl (A := A_191) Q_191 (ann := []) (spl := []) (mo := [(60, 21, 0)]) (by decide) (by decide +kernel)
def N_615 : aAnn := [(4, [(([(3, 62, 0, 0, 0, 1), (0, 0, 4, 0, 0, 2), (1, 0, 0, 0, 0, 0), (4, 0, 0, 0, 0, 0), (4, 0, 0, 0, 0, 0)], [], [(60, 18, (0, 70, 70, 0, 0, 0)), (60, 20, (0, 40, 40, 0, 0, 0)), (60, 21, (0, 24, 40, 0, 0, 0))]), (40, [(-1, 3925)]))])]
set_option maxRecDepth 100000 in
theorem o_615 : okK 190 K_615 := okK_of (C := C_190) (fuel := 3000) rfl (A := A_190) Q_190 (ann := N_615) (spl := []) (mo := [(60, 21, 0)]) (by decide) (by decide +kernel)
def N_616 : aAnn := [(4, [(([(3, 62, 0, 0, 0, 1), (0, 0, 4, 0, 0, 2), (1, 0, 0, 0, 0, 0), (4, 0, 0, 0, 0, 0), (4, 0, 0, 0, 0, 0)], [], [(60, 18, (0, 70, 70, 0, 0, 0)), (60, 20, (0, 40, 40, 0, 0, 0)), (60, 21, (0, 24, 40, 0, 0, 0))]), (40, [(-1, 3925)]))])]
set_option maxRecDepth 100000 in
theorem o_616 : okK 189 K_616 := okK_of (C := C_189) (fuel := 3000) rfl (A := A_189) Q_189 (ann := N_616) (spl := []) (mo := [(60, 21, 0)]) (by decide) (by decide +kernel)
set_option maxRecDepth 100000 in
theorem o_617 : okK 188 K_617 := okK_of (C := C_188) (fuel := 3000) rfl (A := A_188) Q_188 (ann := []) (spl := []) (mo := [(60, 21, 0)]) (by decide) (by decide +kernel)
set_option maxRecDepth 100000 in
theorem o_618 : okK 191 K_618 := okK_of (C := C_191) (fuel := 3000) rfl (A := A_191) Q_191 (ann := []) (spl := []) (mo := [(60, 21, 0)]) (by decide) (by decide +kernel)
def N_619 : aAnn := [(4, [(([(3, 62, 0, 0, 0, 1), (0, 0, 4, 0, 0, 2), (1, 0, 0, 0, 0, 0), (4, 0, 0, 0, 0, 0), (4, 0, 0, 0, 0, 0)], [], [(60, 18, (0, 70, 70, 0, 0, 0)), (60, 20, (0, 40, 40, 0, 0, 0)), (60, 21, (0, 23, 40, 0, 0, 0))]), (40, [(-1, 3925)]))])]
set_option maxRecDepth 100000 in
theorem o_619 : okK 190 K_619 := okK_of (C := C_190) (fuel := 3000) rfl (A := A_190) Q_190 (ann := N_619) (spl := []) (mo := [(60, 21, 0)]) (by decide) (by decide +kernel)
def N_620 : aAnn := [(4, [(([(3, 62, 0, 0, 0, 1), (0, 0, 4, 0, 0, 2), (1, 0, 0, 0, 0, 0), (4, 0, 0, 0, 0, 0), (4, 0, 0, 0, 0, 0)], [], [(60, 18, (0, 70, 70, 0, 0, 0)), (60, 20, (0, 40, 40, 0, 0, 0)), (60, 21, (0, 23, 40, 0, 0, 0))]), (40, [(-1, 3925)]))])]
set_option maxRecDepth 100000 in
theorem o_620 : okK 189 K_620 := okK_of (C := C_189) (fuel := 3000) rfl (A := A_189) Q_189 (ann := N_620) (spl := []) (mo := [(60, 21, 0)]) (by decide) (by decide +kernel)
set_option maxRecDepth 100000 in
theorem o_621 : okK 188 K_621 := okK_of (C := C_188) (fuel := 3000) rfl (A := A_188) Q_188 (ann := []) (spl := []) (mo := [(60, 21, 0)]) (by decide) (by decide +kernel)
set_option maxRecDepth 100000 in
theorem o_622 : okK 191 K_622 := okK_of (C := C_191) (fuel := 3000) rfl (A := A_191) Q_191 (ann := []) (spl := []) (mo := [(60, 21, 0)]) (by decide) (by decide +kernel)
def N_623 : aAnn := [(4, [(([(3, 62, 0, 0, 0, 1), (0, 0, 4, 0, 0, 2), (1, 0, 0, 0, 0, 0), (4, 0, 0, 0, 0, 0), (4, 0, 0, 0, 0, 0)], [], [(60, 18, (0, 70, 70, 0, 0, 0)), (60, 20, (0, 40, 40, 0, 0, 0)), (60, 21, (0, 22, 40, 0, 0, 0))]), (40, [(-1, 3925)]))])]
set_option maxRecDepth 100000 in
theorem o_623 : okK 190 K_623 := okK_of (C := C_190) (fuel := 3000) rfl (A := A_190) Q_190 (ann := N_623) (spl := []) (mo := [(60, 21, 0)]) (by decide) (by decide +kernel)
def N_624 : aAnn := [(4, [(([(3, 62, 0, 0, 0, 1), (0, 0, 4, 0, 0, 2), (1, 0, 0, 0, 0, 0), (4, 0, 0, 0, 0, 0), (4, 0, 0, 0, 0, 0)], [], [(60, 18, (0, 70, 70, 0, 0, 0)), (60, 20, (0, 40, 40, 0, 0, 0)), (60, 21, (0, 22, 40, 0, 0, 0))]), (40, [(-1, 3925)]))])]
set_option maxRecDepth 100000 in
theorem o_624 : okK 189 K_624 := okK_of (C := C_189) (fuel := 3000) rfl (A := A_189) Q_189 (ann := N_624) (spl := []) (mo := [(60, 21, 0)]) (by decide) (by decide +kernel)
set_option maxRecDepth 100000 in
theorem o_625 : okK 188 K_625 := okK_of (C := C_188) (fuel := 3000) rfl (A := A_188) Q_188 (ann := []) (spl := []) (mo := [(60, 21, 0)]) (by decide) (by decide +kernel)
set_option maxRecDepth 100000 in
theorem o_626 : okK 191 K_626 := okK_of (C := C_191) (fuel := 3000) rfl (A := A_191) Q_191 (ann := []) (spl := []) (mo := [(60, 21, 0)]) (by decide) (by decide +kernel)
def N_627 : aAnn := [(4, [(([(3, 62, 0, 0, 0, 1), (0, 0, 4, 0, 0, 2), (1, 0, 0, 0, 0, 0), (4, 0, 0, 0, 0, 0), (4, 0, 0, 0, 0, 0)], [], [(60, 18, (0, 70, 70, 0, 0, 0)), (60, 20, (0, 40, 40, 0, 0, 0)), (60, 21, (0, 21, 40, 0, 0, 0))]), (40, [(-1, 3925)]))])]
set_option maxRecDepth 100000 in
theorem o_627 : okK 190 K_627 := okK_of (C := C_190) (fuel := 3000) rfl (A := A_190) Q_190 (ann := N_627) (spl := []) (mo := [(60, 21, 0)]) (by decide) (by decide +kernel)
def N_628 : aAnn := [(4, [(([(3, 62, 0, 0, 0, 1), (0, 0, 4, 0, 0, 2), (1, 0, 0, 0, 0, 0), (4, 0, 0, 0, 0, 0), (4, 0, 0, 0, 0, 0)], [], [(60, 18, (0, 70, 70, 0, 0, 0)), (60, 20, (0, 40, 40, 0, 0, 0)), (60, 21, (0, 21, 40, 0, 0, 0))]), (40, [(-1, 3925)]))])]
set_option maxRecDepth 100000 in
theorem o_628 : okK 189 K_628 := okK_of (C := C_189) (fuel := 3000) rfl (A := A_189) Q_189 (ann := N_628) (spl := []) (mo := [(60, 21, 0)]) (by decide) (by decide +kernel)
set_option maxRecDepth 100000 in
theorem o_629 : okK 188 K_629 := okK_of (C := C_188) (fuel := 3000) rfl (A := A_188) Q_188 (ann := []) (spl := []) (mo := [(60, 21, 0)]) (by decide) (by decide +kernel)
set_option maxRecDepth 100000 in
theorem o_630 : okK 191 K_630 := okK_of (C := C_191) (fuel := 3000) rfl (A := A_191) Q_191 (ann := []) (spl := []) (mo := [(60, 21, 0)]) (by decide) (by decide +kernel)
def N_631 : aAnn := [(4, [(([(3, 62, 0, 0, 0, 1), (0, 0, 4, 0, 0, 2), (1, 0, 0, 0, 0, 0), (4, 0, 0, 0, 0, 0), (4, 0, 0, 0, 0, 0)], [], [(60, 18, (0, 70, 70, 0, 0, 0)), (60, 20, (0, 40, 40, 0, 0, 0)), (60, 21, (0, 20, 40, 0, 0, 0))]), (40, [(-1, 3925)]))])]
set_option maxRecDepth 100000 in
theorem o_631 : okK 190 K_631 := okK_of (C := C_190) (fuel := 3000) rfl (A := A_190) Q_190 (ann := N_631) (spl := []) (mo := [(60, 21, 0)]) (by decide) (by decide +kernel)
def N_632 : aAnn := [(4, [(([(3, 62, 0, 0, 0, 1), (0, 0, 4, 0, 0, 2), (1, 0, 0, 0, 0, 0), (4, 0, 0, 0, 0, 0), (4, 0, 0, 0, 0, 0)], [], [(60, 18, (0, 70, 70, 0, 0, 0)), (60, 20, (0, 40, 40, 0, 0, 0)), (60, 21, (0, 20, 40, 0, 0, 0))]), (40, [(-1, 3925)]))])]
set_option maxRecDepth 100000 in
theorem o_632 : okK 189 K_632 := okK_of (C := C_189) (fuel := 3000) rfl (A := A_189) Q_189 (ann := N_632) (spl := []) (mo := [(60, 21, 0)]) (by decide) (by decide +kernel)
set_option maxRecDepth 100000 in
theorem o_633 : okK 188 K_633 := okK_of (C := C_188) (fuel := 3000) rfl (A := A_188) Q_188 (ann := []) (spl := []) (mo := [(60, 21, 0)]) (by decide) (by decide +kernel)
set_option maxRecDepth 100000 in
theorem o_634 : okK 191 K_634 := okK_of (C := C_191) (fuel := 3000) rfl (A := A_191) Q_191 (ann := []) (spl := []) (mo := [(60, 21, 0)]) (by decide) (by decide +kernel)
def N_635 : aAnn := [(4, [(([(3, 62, 0, 0, 0, 1), (0, 0, 4, 0, 0, 2), (1, 0, 0, 0, 0, 0), (4, 0, 0, 0, 0, 0), (4, 0, 0, 0, 0, 0)], [], [(60, 18, (0, 70, 70, 0, 0, 0)), (60, 20, (0, 40, 40, 0, 0, 0)), (60, 21, (0, 19, 40, 0, 0, 0))]), (40, [(-1, 3925)]))])]
set_option maxRecDepth 100000 in
theorem o_635 : okK 190 K_635 := okK_of (C := C_190) (fuel := 3000) rfl (A := A_190) Q_190 (ann := N_635) (spl := []) (mo := [(60, 21, 0)]) (by decide) (by decide +kernel)
def N_636 : aAnn := [(4, [(([(3, 62, 0, 0, 0, 1), (0, 0, 4, 0, 0, 2), (1, 0, 0, 0, 0, 0), (4, 0, 0, 0, 0, 0), (4, 0, 0, 0, 0, 0)], [], [(60, 18, (0, 70, 70, 0, 0, 0)), (60, 20, (0, 40, 40, 0, 0, 0)), (60, 21, (0, 19, 40, 0, 0, 0))]), (40, [(-1, 3925)]))])]
set_option maxRecDepth 100000 in
theorem o_636 : okK 189 K_636 := okK_of (C := C_189) (fuel := 3000) rfl (A := A_189) Q_189 (ann := N_636) (spl := []) (mo := [(60, 21, 0)]) (by decide) (by decide +kernel)
set_option maxRecDepth 100000 in
theorem o_637 : okK 188 K_637 := okK_of (C := C_188) (fuel := 3000) rfl (A := A_188) Q_188 (ann := []) (spl := []) (mo := [(60, 21, 0)]) (by decide) (by decide +kernel)
set_option maxRecDepth 100000 in
theorem o_638 : okK 191 K_638 := okK_of (C := C_191) (fuel := 3000) rfl (A := A_191) Q_191 (ann := []) (spl := []) (mo := [(60, 21, 0)]) (by decide) (by decide +kernel)
def N_639 : aAnn := [(4, [(([(3, 62, 0, 0, 0, 1), (0, 0, 4, 0, 0, 2), (1, 0, 0, 0, 0, 0), (4, 0, 0, 0, 0, 0), (4, 0, 0, 0, 0, 0)], [], [(60, 18, (0, 70, 70, 0, 0, 0)), (60, 20, (0, 40, 40, 0, 0, 0)), (60, 21, (0, 18, 40, 0, 0, 0))]), (40, [(-1, 3925)]))])]
set_option maxRecDepth 100000 in
theorem o_639 : okK 190 K_639 := okK_of (C := C_190) (fuel := 3000) rfl (A := A_190) Q_190 (ann := N_639) (spl := []) (mo := [(60, 21, 0)]) (by decide) (by decide +kernel)
def N_640 : aAnn := [(4, [(([(3, 62, 0, 0, 0, 1), (0, 0, 4, 0, 0, 2), (1, 0, 0, 0, 0, 0), (4, 0, 0, 0, 0, 0), (4, 0, 0, 0, 0, 0)], [], [(60, 18, (0, 70, 70, 0, 0, 0)), (60, 20, (0, 40, 40, 0, 0, 0)), (60, 21, (0, 18, 40, 0, 0, 0))]), (40, [(-1, 3925)]))])]
set_option maxRecDepth 100000 in
theorem o_640 : okK 189 K_640 := okK_of (C := C_189) (fuel := 3000) rfl (A := A_189) Q_189 (ann := N_640) (spl := []) (mo := [(60, 21, 0)]) (by decide) (by decide +kernel)
set_option maxRecDepth 100000 in
theorem o_641 : okK 188 K_641 := okK_of (C := C_188) (fuel := 3000) rfl (A := A_188) Q_188 (ann := []) (spl := []) (mo := [(60, 21, 0)]) (by decide) (by decide +kernel)
set_option maxRecDepth 100000 in
theorem o_642 : okK 191 K_642 := okK_of (C := C_191) (fuel := 3000) rfl (A := A_191) Q_191 (ann := []) (spl := []) (mo := [(60, 21, 0)]) (by decide) (by decide +kernel)
def N_643 : aAnn := [(4, [(([(3, 62, 0, 0, 0, 1), (0, 0, 4, 0, 0, 2), (1, 0, 0, 0, 0, 0), (4, 0, 0, 0, 0, 0), (4, 0, 0, 0, 0, 0)], [], [(60, 18, (0, 70, 70, 0, 0, 0)), (60, 20, (0, 40, 40, 0, 0, 0)), (60, 21, (0, 17, 40, 0, 0, 0))]), (40, [(-1, 3925)]))])]
set_option maxRecDepth 100000 in
theorem o_643 : okK 190 K_643 := okK_of (C := C_190) (fuel := 3000) rfl (A := A_190) Q_190 (ann := N_643) (spl := []) (mo := [(60, 21, 0)]) (by decide) (by decide +kernel)
def N_644 : aAnn := [(4, [(([(3, 62, 0, 0, 0, 1), (0, 0, 4, 0, 0, 2), (1, 0, 0, 0, 0, 0), (4, 0, 0, 0, 0, 0), (4, 0, 0, 0, 0, 0)], [], [(60, 18, (0, 70, 70, 0, 0, 0)), (60, 20, (0, 40, 40, 0, 0, 0)), (60, 21, (0, 17, 40, 0, 0, 0))]), (40, [(-1, 3925)]))])]
set_option maxRecDepth 100000 in
theorem o_644 : okK 189 K_644 := okK_of (C := C_189) (fuel := 3000) rfl (A := A_189) Q_189 (ann := N_644) (spl := []) (mo := [(60, 21, 0)]) (by decide) (by decide +kernel)
set_option maxRecDepth 100000 in
theorem o_645 : okK 188 K_645 := okK_of (C := C_188) (fuel := 3000) rfl (A := A_188) Q_188 (ann := []) (spl := []) (mo := [(60, 21, 0)]) (by decide) (by decide +kernel)
set_option maxRecDepth 100000 in
theorem o_646 : okK 191 K_646 := okK_of (C := C_191) (fuel := 3000) rfl (A := A_191) Q_191 (ann := []) (spl := []) (mo := [(60, 21, 0)]) (by decide) (by decide +kernel)
def N_647 : aAnn := [(4, [(([(3, 62, 0, 0, 0, 1), (0, 0, 4, 0, 0, 2), (1, 0, 0, 0, 0, 0), (4, 0, 0, 0, 0, 0), (4, 0, 0, 0, 0, 0)], [], [(60, 18, (0, 70, 70, 0, 0, 0)), (60, 20, (0, 40, 40, 0, 0, 0)), (60, 21, (0, 16, 40, 0, 0, 0))]), (40, [(-1, 3925)]))])]
set_option maxRecDepth 100000 in
theorem o_647 : okK 190 K_647 := okK_of (C := C_190) (fuel := 3000) rfl (A := A_190) Q_190 (ann := N_647) (spl := []) (mo := [(60, 21, 0)]) (by decide) (by decide +kernel)
def N_648 : aAnn := [(4, [(([(3, 62, 0, 0, 0, 1), (0, 0, 4, 0, 0, 2), (1, 0, 0, 0, 0, 0), (4, 0, 0, 0, 0, 0), (4, 0, 0, 0, 0, 0)], [], [(60, 18, (0, 70, 70, 0, 0, 0)), (60, 20, (0, 40, 40, 0, 0, 0)), (60, 21, (0, 16, 40, 0, 0, 0))]), (40, [(-1, 3925)]))])]
set_option maxRecDepth 100000 in
theorem o_648 : okK 189 K_648 := okK_of (C := C_189) (fuel := 3000) rfl (A := A_189) Q_189 (ann := N_648) (spl := []) (mo := [(60, 21, 0)]) (by decide) (by decide +kernel)
set_option maxRecDepth 100000 in
theorem o_649 : okK 188 K_649 := okK_of (C := C_188) (fuel := 3000) rfl (A := A_188) Q_188 (ann := []) (spl := []) (mo := [(60, 21, 0)]) (by decide) (by decide +kernel)
set_option maxRecDepth 100000 in
theorem o_650 : okK 191 K_650 := okK_of (C := C_191) (fuel := 3000) rfl (A := A_191) Q_191 (ann := []) (spl := []) (mo := [(60, 21, 0)]) (by decide) (by decide +kernel)
def N_651 : aAnn := [(4, [(([(3, 62, 0, 0, 0, 1), (0, 0, 4, 0, 0, 2), (1, 0, 0, 0, 0, 0), (4, 0, 0, 0, 0, 0), (4, 0, 0, 0, 0, 0)], [], [(60, 18, (0, 70, 70, 0, 0, 0)), (60, 20, (0, 40, 40, 0, 0, 0)), (60, 21, (0, 15, 40, 0, 0, 0))]), (40, [(-1, 3925)]))])]
set_option maxRecDepth 100000 in
theorem o_651 : okK 190 K_651 := okK_of (C := C_190) (fuel := 3000) rfl (A := A_190) Q_190 (ann := N_651) (spl := []) (mo := [(60, 21, 0)]) (by decide) (by decide +kernel)
def N_652 : aAnn := [(4, [(([(3, 62, 0, 0, 0, 1), (0, 0, 4, 0, 0, 2), (1, 0, 0, 0, 0, 0), (4, 0, 0, 0, 0, 0), (4, 0, 0, 0, 0, 0)], [], [(60, 18, (0, 70, 70, 0, 0, 0)), (60, 20, (0, 40, 40, 0, 0, 0)), (60, 21, (0, 15, 40, 0, 0, 0))]), (40, [(-1, 3925)]))])]
set_option maxRecDepth 100000 in
theorem o_652 : okK 189 K_652 := okK_of (C := C_189) (fuel := 3000) rfl (A := A_189) Q_189 (ann := N_652) (spl := []) (mo := [(60, 21, 0)]) (by decide) (by decide +kernel)
set_option maxRecDepth 100000 in
theorem o_653 : okK 188 K_653 := okK_of (C := C_188) (fuel := 3000) rfl (A := A_188) Q_188 (ann := []) (spl := []) (mo := [(60, 21, 0)]) (by decide) (by decide +kernel)
set_option maxRecDepth 100000 in
theorem o_654 : okK 191 K_654 := okK_of (C := C_191) (fuel := 3000) rfl (A := A_191) Q_191 (ann := []) (spl := []) (mo := [(60, 21, 0)]) (by decide) (by decide +kernel)
def N_655 : aAnn := [(4, [(([(3, 62, 0, 0, 0, 1), (0, 0, 4, 0, 0, 2), (1, 0, 0, 0, 0, 0), (4, 0, 0, 0, 0, 0), (4, 0, 0, 0, 0, 0)], [], [(60, 18, (0, 70, 70, 0, 0, 0)), (60, 20, (0, 40, 40, 0, 0, 0)), (60, 21, (0, 14, 40, 0, 0, 0))]), (40, [(-1, 3925)]))])]
set_option maxRecDepth 100000 in
theorem o_655 : okK 190 K_655 := okK_of (C := C_190) (fuel := 3000) rfl (A := A_190) Q_190 (ann := N_655) (spl := []) (mo := [(60, 21, 0)]) (by decide) (by decide +kernel)
def N_656 : aAnn := [(4, [(([(3, 62, 0, 0, 0, 1), (0, 0, 4, 0, 0, 2), (1, 0, 0, 0, 0, 0), (4, 0, 0, 0, 0, 0), (4, 0, 0, 0, 0, 0)], [], [(60, 18, (0, 70, 70, 0, 0, 0)), (60, 20, (0, 40, 40, 0, 0, 0)), (60, 21, (0, 14, 40, 0, 0, 0))]), (40, [(-1, 3925)]))])]
set_option maxRecDepth 100000 in
theorem o_656 : okK 189 K_656 := okK_of (C := C_189) (fuel := 3000) rfl (A := A_189) Q_189 (ann := N_656) (spl := []) (mo := [(60, 21, 0)]) (by decide) (by decide +kernel)
set_option maxRecDepth 100000 in
theorem o_657 : okK 188 K_657 := okK_of (C := C_188) (fuel := 3000) rfl (A := A_188) Q_188 (ann := []) (spl := []) (mo := [(60, 21, 0)]) (by decide) (by decide +kernel)
set_option maxRecDepth 100000 in
theorem o_658 : okK 191 K_658 := okK_of (C := C_191) (fuel := 3000) rfl (A := A_191) Q_191 (ann := []) (spl := []) (mo := [(60, 21, 0)]) (by decide) (by decide +kernel)
def N_659 : aAnn := [(4, [(([(3, 62, 0, 0, 0, 1), (0, 0, 4, 0, 0, 2), (1, 0, 0, 0, 0, 0), (4, 0, 0, 0, 0, 0), (4, 0, 0, 0, 0, 0)], [], [(60, 18, (0, 70, 70, 0, 0, 0)), (60, 20, (0, 40, 40, 0, 0, 0)), (60, 21, (0, 13, 40, 0, 0, 0))]), (40, [(-1, 3925)]))])]
set_option maxRecDepth 100000 in
theorem o_659 : okK 190 K_659 := okK_of (C := C_190) (fuel := 3000) rfl (A := A_190) Q_190 (ann := N_659) (spl := []) (mo := [(60, 21, 0)]) (by decide) (by decide +kernel)
def N_660 : aAnn := [(4, [(([(3, 62, 0, 0, 0, 1), (0, 0, 4, 0, 0, 2), (1, 0, 0, 0, 0, 0), (4, 0, 0, 0, 0, 0), (4, 0, 0, 0, 0, 0)], [], [(60, 18, (0, 70, 70, 0, 0, 0)), (60, 20, (0, 40, 40, 0, 0, 0)), (60, 21, (0, 13, 40, 0, 0, 0))]), (40, [(-1, 3925)]))])]
set_option maxRecDepth 100000 in
theorem o_660 : okK 189 K_660 := okK_of (C := C_189) (fuel := 3000) rfl (A := A_189) Q_189 (ann := N_660) (spl := []) (mo := [(60, 21, 0)]) (by decide) (by decide +kernel)
set_option maxRecDepth 100000 in
theorem o_661 : okK 188 K_661 := okK_of (C := C_188) (fuel := 3000) rfl (A := A_188) Q_188 (ann := []) (spl := []) (mo := [(60, 21, 0)]) (by decide) (by decide +kernel)
set_option maxRecDepth 100000 in
theorem o_662 : okK 191 K_662 := okK_of (C := C_191) (fuel := 3000) rfl (A := A_191) Q_191 (ann := []) (spl := []) (mo := [(60, 21, 0)]) (by decide) (by decide +kernel)
def N_663 : aAnn := [(4, [(([(3, 62, 0, 0, 0, 1), (0, 0, 4, 0, 0, 2), (1, 0, 0, 0, 0, 0), (4, 0, 0, 0, 0, 0), (4, 0, 0, 0, 0, 0)], [], [(60, 18, (0, 70, 70, 0, 0, 0)), (60, 20, (0, 40, 40, 0, 0, 0)), (60, 21, (0, 12, 40, 0, 0, 0))]), (40, [(-1, 3925)]))])]
set_option maxRecDepth 100000 in
theorem o_663 : okK 190 K_663 := okK_of (C := C_190) (fuel := 3000) rfl (A := A_190) Q_190 (ann := N_663) (spl := []) (mo := [(60, 21, 0)]) (by decide) (by decide +kernel)
def N_664 : aAnn := [(4, [(([(3, 62, 0, 0, 0, 1), (0, 0, 4, 0, 0, 2), (1, 0, 0, 0, 0, 0), (4, 0, 0, 0, 0, 0), (4, 0, 0, 0, 0, 0)], [], [(60, 18, (0, 70, 70, 0, 0, 0)), (60, 20, (0, 40, 40, 0, 0, 0)), (60, 21, (0, 12, 40, 0, 0, 0))]), (40, [(-1, 3925)]))])]
set_option maxRecDepth 100000 in
theorem o_664 : okK 189 K_664 := okK_of (C := C_189) (fuel := 3000) rfl (A := A_189) Q_189 (ann := N_664) (spl := []) (mo := [(60, 21, 0)]) (by decide) (by decide +kernel)
set_option maxRecDepth 100000 in
theorem o_665 : okK 188 K_665 := okK_of (C := C_188) (fuel := 3000) rfl (A := A_188) Q_188 (ann := []) (spl := []) (mo := [(60, 21, 0)]) (by decide) (by decide +kernel)
set_option maxRecDepth 100000 in
theorem o_666 : okK 191 K_666 := okK_of (C := C_191) (fuel := 3000) rfl (A := A_191) Q_191 (ann := []) (spl := []) (mo := [(60, 21, 0)]) (by decide) (by decide +kernel)
def N_667 : aAnn := [(4, [(([(3, 62, 0, 0, 0, 1), (0, 0, 4, 0, 0, 2), (1, 0, 0, 0, 0, 0), (4, 0, 0, 0, 0, 0), (4, 0, 0, 0, 0, 0)], [], [(60, 18, (0, 70, 70, 0, 0, 0)), (60, 20, (0, 40, 40, 0, 0, 0)), (60, 21, (0, 11, 40, 0, 0, 0))]), (40, [(-1, 3925)]))])]
set_option maxRecDepth 100000 in
theorem o_667 : okK 190 K_667 := okK_of (C := C_190) (fuel := 3000) rfl (A := A_190) Q_190 (ann := N_667) (spl := []) (mo := [(60, 21, 0)]) (by decide) (by decide +kernel)
def N_668 : aAnn := [(4, [(([(3, 62, 0, 0, 0, 1), (0, 0, 4, 0, 0, 2), (1, 0, 0, 0, 0, 0), (4, 0, 0, 0, 0, 0), (4, 0, 0, 0, 0, 0)], [], [(60, 18, (0, 70, 70, 0, 0, 0)), (60, 20, (0, 40, 40, 0, 0, 0)), (60, 21, (0, 11, 40, 0, 0, 0))]), (40, [(-1, 3925)]))])]
set_option maxRecDepth 100000 in
theorem o_668 : okK 189 K_668 := okK_of (C := C_189) (fuel := 3000) rfl (A := A_189) Q_189 (ann := N_668) (spl := []) (mo := [(60, 21, 0)]) (by decide) (by decide +kernel)
set_option maxRecDepth 100000 in
theorem o_669 : okK 188 K_669 := okK_of (C := C_188) (fuel := 3000) rfl (A := A_188) Q_188 (ann := []) (spl := []) (mo := [(60, 21, 0)]) (by decide) (by decide +kernel)
set_option maxRecDepth 100000 in
theorem o_670 : okK 191 K_670 := okK_of (C := C_191) (fuel := 3000) rfl (A := A_191) Q_191 (ann := []) (spl := []) (mo := [(60, 21, 0)]) (by decide) (by decide +kernel)
def N_671 : aAnn := [(4, [(([(3, 62, 0, 0, 0, 1), (0, 0, 4, 0, 0, 2), (1, 0, 0, 0, 0, 0), (4, 0, 0, 0, 0, 0), (4, 0, 0, 0, 0, 0)], [], [(60, 18, (0, 70, 70, 0, 0, 0)), (60, 20, (0, 40, 40, 0, 0, 0)), (60, 21, (0, 10, 40, 0, 0, 0))]), (40, [(-1, 3925)]))])]
set_option maxRecDepth 100000 in
theorem o_671 : okK 190 K_671 := okK_of (C := C_190) (fuel := 3000) rfl (A := A_190) Q_190 (ann := N_671) (spl := []) (mo := [(60, 21, 0)]) (by decide) (by decide +kernel)
def N_672 : aAnn := [(4, [(([(3, 62, 0, 0, 0, 1), (0, 0, 4, 0, 0, 2), (1, 0, 0, 0, 0, 0), (4, 0, 0, 0, 0, 0), (4, 0, 0, 0, 0, 0)], [], [(60, 18, (0, 70, 70, 0, 0, 0)), (60, 20, (0, 40, 40, 0, 0, 0)), (60, 21, (0, 10, 40, 0, 0, 0))]), (40, [(-1, 3925)]))])]
set_option maxRecDepth 100000 in
theorem o_672 : okK 189 K_672 := okK_of (C := C_189) (fuel := 3000) rfl (A := A_189) Q_189 (ann := N_672) (spl := []) (mo := [(60, 21, 0)]) (by decide) (by decide +kernel)
set_option maxRecDepth 100000 in
theorem o_673 : okK 188 K_673 := okK_of (C := C_188) (fuel := 3000) rfl (A := A_188) Q_188 (ann := []) (spl := []) (mo := [(60, 21, 0)]) (by decide) (by decide +kernel)
set_option maxRecDepth 100000 in
theorem o_674 : okK 191 K_674 := okK_of (C := C_191) (fuel := 3000) rfl (A := A_191) Q_191 (ann := []) (spl := []) (mo := [(60, 21, 0)]) (by decide) (by decide +kernel)
def N_675 : aAnn := [(4, [(([(3, 62, 0, 0, 0, 1), (0, 0, 4, 0, 0, 2), (1, 0, 0, 0, 0, 0), (4, 0, 0, 0, 0, 0), (4, 0, 0, 0, 0, 0)], [], [(60, 18, (0, 70, 70, 0, 0, 0)), (60, 20, (0, 40, 40, 0, 0, 0)), (60, 21, (0, 9, 40, 0, 0, 0))]), (40, [(-1, 3925)]))])]
set_option maxRecDepth 100000 in
theorem o_675 : okK 190 K_675 := okK_of (C := C_190) (fuel := 3000) rfl (A := A_190) Q_190 (ann := N_675) (spl := []) (mo := [(60, 21, 0)]) (by decide) (by decide +kernel)
def N_676 : aAnn := [(4, [(([(3, 62, 0, 0, 0, 1), (0, 0, 4, 0, 0, 2), (1, 0, 0, 0, 0, 0), (4, 0, 0, 0, 0, 0), (4, 0, 0, 0, 0, 0)], [], [(60, 18, (0, 70, 70, 0, 0, 0)), (60, 20, (0, 40, 40, 0, 0, 0)), (60, 21, (0, 9, 40, 0, 0, 0))]), (40, [(-1, 3925)]))])]
set_option maxRecDepth 100000 in
theorem o_676 : okK 189 K_676 := okK_of (C := C_189) (fuel := 3000) rfl (A := A_189) Q_189 (ann := N_676) (spl := []) (mo := [(60, 21, 0)]) (by decide) (by decide +kernel)
set_option maxRecDepth 100000 in
theorem o_677 : okK 188 K_677 := okK_of (C := C_188) (fuel := 3000) rfl (A := A_188) Q_188 (ann := []) (spl := []) (mo := [(60, 21, 0)]) (by decide) (by decide +kernel)
set_option maxRecDepth 100000 in
theorem o_678 : okK 191 K_678 := okK_of (C := C_191) (fuel := 3000) rfl (A := A_191) Q_191 (ann := []) (spl := []) (mo := [(60, 21, 0)]) (by decide) (by decide +kernel)
def N_679 : aAnn := [(4, [(([(3, 62, 0, 0, 0, 1), (0, 0, 4, 0, 0, 2), (1, 0, 0, 0, 0, 0), (4, 0, 0, 0, 0, 0), (4, 0, 0, 0, 0, 0)], [], [(60, 18, (0, 70, 70, 0, 0, 0)), (60, 20, (0, 40, 40, 0, 0, 0)), (60, 21, (0, 8, 40, 0, 0, 0))]), (40, [(-1, 3925)]))])]
set_option maxRecDepth 100000 in
theorem o_679 : okK 190 K_679 := okK_of (C := C_190) (fuel := 3000) rfl (A := A_190) Q_190 (ann := N_679) (spl := []) (mo := [(60, 21, 0)]) (by decide) (by decide +kernel)
def N_680 : aAnn := [(4, [(([(3, 62, 0, 0, 0, 1), (0, 0, 4, 0, 0, 2), (1, 0, 0, 0, 0, 0), (4, 0, 0, 0, 0, 0), (4, 0, 0, 0, 0, 0)], [], [(60, 18, (0, 70, 70, 0, 0, 0)), (60, 20, (0, 40, 40, 0, 0, 0)), (60, 21, (0, 8, 40, 0, 0, 0))]), (40, [(-1, 3925)]))])]
set_option maxRecDepth 100000 in
theorem o_680 : okK 189 K_680 := okK_of (C := C_189) (fuel := 3000) rfl (A := A_189) Q_189 (ann := N_680) (spl := []) (mo := [(60, 21, 0)]) (by decide) (by decide +kernel)
set_option maxRecDepth 100000 in
theorem o_681 : okK 188 K_681 := okK_of (C := C_188) (fuel := 3000) rfl (A := A_188) Q_188 (ann := []) (spl := []) (mo := [(60, 21, 0)]) (by decide) (by decide +kernel)
set_option maxRecDepth 100000 in
theorem o_682 : okK 191 K_682 := okK_of (C := C_191) (fuel := 3000) rfl (A := A_191) Q_191 (ann := []) (spl := []) (mo := [(60, 21, 0)]) (by decide) (by decide +kernel)
def N_683 : aAnn := [(4, [(([(3, 62, 0, 0, 0, 1), (0, 0, 4, 0, 0, 2), (1, 0, 0, 0, 0, 0), (4, 0, 0, 0, 0, 0), (4, 0, 0, 0, 0, 0)], [], [(60, 18, (0, 70, 70, 0, 0, 0)), (60, 20, (0, 40, 40, 0, 0, 0)), (60, 21, (0, 7, 40, 0, 0, 0))]), (40, [(-1, 3925)]))])]
set_option maxRecDepth 100000 in
theorem o_683 : okK 190 K_683 := okK_of (C := C_190) (fuel := 3000) rfl (A := A_190) Q_190 (ann := N_683) (spl := []) (mo := [(60, 21, 0)]) (by decide) (by decide +kernel)
def N_684 : aAnn := [(4, [(([(3, 62, 0, 0, 0, 1), (0, 0, 4, 0, 0, 2), (1, 0, 0, 0, 0, 0), (4, 0, 0, 0, 0, 0), (4, 0, 0, 0, 0, 0)], [], [(60, 18, (0, 70, 70, 0, 0, 0)), (60, 20, (0, 40, 40, 0, 0, 0)), (60, 21, (0, 7, 40, 0, 0, 0))]), (40, [(-1, 3925)]))])]
set_option maxRecDepth 100000 in
theorem o_684 : okK 189 K_684 := okK_of (C := C_189) (fuel := 3000) rfl (A := A_189) Q_189 (ann := N_684) (spl := []) (mo := [(60, 21, 0)]) (by decide) (by decide +kernel)
set_option maxRecDepth 100000 in
theorem o_685 : okK 188 K_685 := okK_of (C := C_188) (fuel := 3000) rfl (A := A_188) Q_188 (ann := []) (spl := []) (mo := [(60, 21, 0)]) (by decide) (by decide +kernel)
set_option maxRecDepth 100000 in
theorem o_686 : okK 191 K_686 := okK_of (C := C_191) (fuel := 3000) rfl (A := A_191) Q_191 (ann := []) (spl := []) (mo := [(60, 21, 0)]) (by decide) (by decide +kernel)
def N_687 : aAnn := [(4, [(([(3, 62, 0, 0, 0, 1), (0, 0, 4, 0, 0, 2), (1, 0, 0, 0, 0, 0), (4, 0, 0, 0, 0, 0), (4, 0, 0, 0, 0, 0)], [], [(60, 18, (0, 70, 70, 0, 0, 0)), (60, 20, (0, 40, 40, 0, 0, 0)), (60, 21, (0, 6, 40, 0, 0, 0))]), (40, [(-1, 3925)]))])]
set_option maxRecDepth 100000 in
theorem o_687 : okK 190 K_687 := okK_of (C := C_190) (fuel := 3000) rfl (A := A_190) Q_190 (ann := N_687) (spl := []) (mo := [(60, 21, 0)]) (by decide) (by decide +kernel)
def N_688 : aAnn := [(4, [(([(3, 62, 0, 0, 0, 1), (0, 0, 4, 0, 0, 2), (1, 0, 0, 0, 0, 0), (4, 0, 0, 0, 0, 0), (4, 0, 0, 0, 0, 0)], [], [(60, 18, (0, 70, 70, 0, 0, 0)), (60, 20, (0, 40, 40, 0, 0, 0)), (60, 21, (0, 6, 40, 0, 0, 0))]), (40, [(-1, 3925)]))])]
set_option maxRecDepth 100000 in
theorem o_688 : okK 189 K_688 := okK_of (C := C_189) (fuel := 3000) rfl (A := A_189) Q_189 (ann := N_688) (spl := []) (mo := [(60, 21, 0)]) (by decide) (by decide +kernel)
set_option maxRecDepth 100000 in
theorem o_689 : okK 188 K_689 := okK_of (C := C_188) (fuel := 3000) rfl (A := A_188) Q_188 (ann := []) (spl := []) (mo := [(60, 21, 0)]) (by decide) (by decide +kernel)
set_option maxRecDepth 100000 in
theorem o_690 : okK 191 K_690 := okK_of (C := C_191) (fuel := 3000) rfl (A := A_191) Q_191 (ann := []) (spl := []) (mo := [(60, 21, 0)]) (by decide) (by decide +kernel)
def N_691 : aAnn := [(4, [(([(3, 62, 0, 0, 0, 1), (0, 0, 4, 0, 0, 2), (1, 0, 0, 0, 0, 0), (4, 0, 0, 0, 0, 0), (4, 0, 0, 0, 0, 0)], [], [(60, 18, (0, 70, 70, 0, 0, 0)), (60, 20, (0, 40, 40, 0, 0, 0)), (60, 21, (0, 5, 40, 0, 0, 0))]), (40, [(-1, 3925)]))])]
set_option maxRecDepth 100000 in
theorem o_691 : okK 190 K_691 := okK_of (C := C_190) (fuel := 3000) rfl (A := A_190) Q_190 (ann := N_691) (spl := []) (mo := [(60, 21, 0)]) (by decide) (by decide +kernel)
def N_692 : aAnn := [(4, [(([(3, 62, 0, 0, 0, 1), (0, 0, 4, 0, 0, 2), (1, 0, 0, 0, 0, 0), (4, 0, 0, 0, 0, 0), (4, 0, 0, 0, 0, 0)], [], [(60, 18, (0, 70, 70, 0, 0, 0)), (60, 20, (0, 40, 40, 0, 0, 0)), (60, 21, (0, 5, 40, 0, 0, 0))]), (40, [(-1, 3925)]))])]
set_option maxRecDepth 100000 in
theorem o_692 : okK 189 K_692 := okK_of (C := C_189) (fuel := 3000) rfl (A := A_189) Q_189 (ann := N_692) (spl := []) (mo := [(60, 21, 0)]) (by decide) (by decide +kernel)
set_option maxRecDepth 100000 in
theorem o_693 : okK 188 K_693 := okK_of (C := C_188) (fuel := 3000) rfl (A := A_188) Q_188 (ann := []) (spl := []) (mo := [(60, 21, 0)]) (by decide) (by decide +kernel)
set_option maxRecDepth 100000 in
theorem o_694 : okK 191 K_694 := okK_of (C := C_191) (fuel := 3000) rfl (A := A_191) Q_191 (ann := []) (spl := []) (mo := [(60, 21, 0)]) (by decide) (by decide +kernel)
def N_695 : aAnn := [(4, [(([(3, 62, 0, 0, 0, 1), (0, 0, 4, 0, 0, 2), (1, 0, 0, 0, 0, 0), (4, 0, 0, 0, 0, 0), (4, 0, 0, 0, 0, 0)], [], [(60, 18, (0, 70, 70, 0, 0, 0)), (60, 20, (0, 40, 40, 0, 0, 0)), (60, 21, (0, 4, 40, 0, 0, 0))]), (40, [(-1, 3925)]))])]
set_option maxRecDepth 100000 in
theorem o_695 : okK 190 K_695 := okK_of (C := C_190) (fuel := 3000) rfl (A := A_190) Q_190 (ann := N_695) (spl := []) (mo := [(60, 21, 0)]) (by decide) (by decide +kernel)
def N_696 : aAnn := [(4, [(([(3, 62, 0, 0, 0, 1), (0, 0, 4, 0, 0, 2), (1, 0, 0, 0, 0, 0), (4, 0, 0, 0, 0, 0), (4, 0, 0, 0, 0, 0)], [], [(60, 18, (0, 70, 70, 0, 0, 0)), (60, 20, (0, 40, 40, 0, 0, 0)), (60, 21, (0, 4, 40, 0, 0, 0))]), (40, [(-1, 3925)]))])]
set_option maxRecDepth 100000 in
theorem o_696 : okK 189 K_696 := okK_of (C := C_189) (fuel := 3000) rfl (A := A_189) Q_189 (ann := N_696) (spl := []) (mo := [(60, 21, 0)]) (by decide) (by decide +kernel)
set_option maxRecDepth 100000 in
theorem o_697 : okK 188 K_697 := okK_of (C := C_188) (fuel := 3000) rfl (A := A_188) Q_188 (ann := []) (spl := []) (mo := [(60, 21, 0)]) (by decide) (by decide +kernel)
set_option maxRecDepth 100000 in
theorem o_698 : okK 191 K_698 := okK_of (C := C_191) (fuel := 3000) rfl (A := A_191) Q_191 (ann := []) (spl := []) (mo := [(60, 21, 0)]) (by decide) (by decide +kernel)
def N_699 : aAnn := [(4, [(([(3, 62, 0, 0, 0, 1), (0, 0, 4, 0, 0, 2), (1, 0, 0, 0, 0, 0), (4, 0, 0, 0, 0, 0), (4, 0, 0, 0, 0, 0)], [], [(60, 18, (0, 70, 70, 0, 0, 0)), (60, 20, (0, 40, 40, 0, 0, 0)), (60, 21, (0, 3, 40, 0, 0, 0))]), (40, [(-1, 3925)]))])]
set_option maxRecDepth 100000 in
theorem o_699 : okK 190 K_699 := okK_of (C := C_190) (fuel := 3000) rfl (A := A_190) Q_190 (ann := N_699) (spl := []) (mo := [(60, 21, 0)]) (by decide) (by decide +kernel)
def N_700 : aAnn := [(4, [(([(3, 62, 0, 0, 0, 1), (0, 0, 4, 0, 0, 2), (1, 0, 0, 0, 0, 0), (4, 0, 0, 0, 0, 0), (4, 0, 0, 0, 0, 0)], [], [(60, 18, (0, 70, 70, 0, 0, 0)), (60, 20, (0, 40, 40, 0, 0, 0)), (60, 21, (0, 3, 40, 0, 0, 0))]), (40, [(-1, 3925)]))])]
set_option maxRecDepth 100000 in
theorem o_700 : okK 189 K_700 := okK_of (C := C_189) (fuel := 3000) rfl (A := A_189) Q_189 (ann := N_700) (spl := []) (mo := [(60, 21, 0)]) (by decide) (by decide +kernel)
