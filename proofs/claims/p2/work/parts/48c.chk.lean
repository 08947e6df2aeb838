/-! the checks (by program) -/
set_option maxRecDepth 100000 in
theorem o_1019 : okK 169 K_1019 := okK_of (C := C_169) (fuel := 3000) rfl (A := A_169) Q_169 (ann := []) (spl := []) (mo := []) (by decide) (by decide +kernel)
set_option maxRecDepth 100000 in
theorem o_1020 : okK 169 K_1020 := okK_of (C := C_169) (fuel := 3000) rfl (A := A_169) Q_169 (ann := []) (spl := []) (mo := []) (by decide) (by decide +kernel)
set_option maxRecDepth 100000 in
theorem o_1021 : okK 169 K_1021 := okK_of (C := C_169) (fuel := 3000) rfl (A := A_169) Q_169 (ann := []) (spl := []) (mo := []) (by decide) (by decide +kernel)
set_option maxRecDepth 100000 in
theorem o_1022 : okK 169 K_1022 := okK_of (C := C_169) (fuel := 3000) rfl (A := A_169) Q_169 (ann := []) (spl := []) (mo := []) (by decide) (by decide +kernel)
set_option maxRecDepth 100000 in
theorem o_1023 : okK 266 K_1023 := okK_of (C := C_266) (fuel := 3000) rfl (A := A_266) Q_266 (ann := []) (spl := [(0, [(2, -1), (2, 0), (2, 1)])]) (mo := []) (by decide) (by decide +kernel)
set_option maxRecDepth 100000 in
theorem o_1024 : okK 267 K_1024 := okK_of (C := C_267) (fuel := 3000) rfl (A := A_267) Q_267 (ann := []) (spl := [(0, [(2, -1), (2, 0), (2, 1)])]) (mo := []) (by decide) (by decide +kernel)
def N_1025 : aAnn := [(18, [(([(3, 62, 0, 0, 0, 1), (0, 3, 3, 0, 0, 2), (1, 0, 0, 0, 0, 0), (0, 0, 6, 0, 0, 0)], [], [(60, 17, (0, 0, 0, 0, 0, 0))]), (6, [(-1, 4)]))])]
set_option maxRecDepth 100000 in
theorem o_1025 : okK 268 K_1025 := okK_of (C := C_268) (fuel := 3000) rfl (A := A_268) Q_268 (ann := N_1025) (spl := []) (mo := []) (by decide) (by decide +kernel)
set_option maxRecDepth 100000 in
theorem o_1026 : okK 169 K_1026 := okK_of (C := C_169) (fuel := 3000) rfl (A := A_169) Q_169 (ann := []) (spl := []) (mo := []) (by decide) (by decide +kernel)
set_option maxRecDepth 100000 in
theorem o_1027 : okK 269 K_1027 := okK_of (C := C_269) (fuel := 3000) rfl (A := A_269) Q_269 (ann := []) (spl := []) (mo := []) (by decide) (by decide +kernel)
set_option maxRecDepth 100000 in
theorem o_1028 : okK 172 K_1028 := okK_of (C := C_172) (fuel := 3000) rfl (A := A_172) Q_172 (ann := []) (spl := []) (mo := []) (by decide) (by decide +kernel)
set_option maxRecDepth 100000 in
theorem o_1029 : okK 172 K_1029 := okK_of (C := C_172) (fuel := 3000) rfl (A := A_172) Q_172 (ann := []) (spl := []) (mo := []) (by decide) (by decide +kernel)
set_option maxRecDepth 100000 in
theorem o_1030 : okK 172 K_1030 := okK_of (C := C_172) (fuel := 3000) rfl (A := A_172) Q_172 (ann := []) (spl := []) (mo := []) (by decide) (by decide +kernel)
set_option maxRecDepth 100000 in
theorem o_1031 : okK 172 K_1031 := okK_of (C := C_172) (fuel := 3000) rfl (A := A_172) Q_172 (ann := []) (spl := []) (mo := []) (by decide) (by decide +kernel)
set_option maxRecDepth 100000 in
theorem o_1032 : okK 172 K_1032 := okK_of (C := C_172) (fuel := 3000) rfl (A := A_172) Q_172 (ann := []) (spl := []) (mo := []) (by decide) (by decide +kernel)
set_option maxRecDepth 100000 in
theorem o_1033 : okK 172 K_1033 := okK_of (C := C_172) (fuel := 3000) rfl (A := A_172) Q_172 (ann := []) (spl := []) (mo := []) (by decide) (by decide +kernel)
set_option maxRecDepth 100000 in
theorem o_1034 : okK 172 K_1034 := okK_of (C := C_172) (fuel := 3000) rfl (A := A_172) Q_172 (ann := []) (spl := []) (mo := []) (by decide) (by decide +kernel)
set_option maxRecDepth 100000 in
theorem o_1035 : okK 172 K_1035 := okK_of (C := C_172) (fuel := 3000) rfl (A := A_172) Q_172 (ann := []) (spl := []) (mo := []) (by decide) (by decide +kernel)
set_option maxRecDepth 100000 in
theorem o_1036 : okK 172 K_1036 := okK_of (C := C_172) (fuel := 3000) rfl (A := A_172) Q_172 (ann := []) (spl := []) (mo := []) (by decide) (by decide +kernel)
set_option maxRecDepth 100000 in
theorem o_1037 : okK 172 K_1037 := okK_of (C := C_172) (fuel := 3000) rfl (A := A_172) Q_172 (ann := []) (spl := []) (mo := []) (by decide) (by decide +kernel)
set_option maxRecDepth 100000 in
theorem o_1038 : okK 172 K_1038 := okK_of (C := C_172) (fuel := 3000) rfl (A := A_172) Q_172 (ann := []) (spl := []) (mo := []) (by decide) (by decide +kernel)
set_option maxRecDepth 100000 in
theorem o_1039 : okK 232 K_1039 := okK_of (C := C_232) (fuel := 3000) rfl (A := A_232) Q_232 (ann := []) (spl := []) (mo := []) (by decide) (by decide +kernel)
def N_1040 : aAnn := [(4, [(([(3, 62, 0, 0, 0, 1), (3, 85, 0, 0, 0, 2), (0, 0, 3000, 0, 0, 3), (3, 85, 0, 0, 0, 4), (0, 0, 3000, 0, 0, 5), (1, 0, 0, 0, 0, 0), (0, 0, 10, 0, 0, 0), (4, 0, 0, 0, 0, 0)], [], []), (10, [(-1, 7)]))])]
set_option maxRecDepth 100000 in
theorem o_1040 : okK 209 K_1040 := okK_of (C := C_209) (fuel := 3000) rfl (A := A_209) Q_209 (ann := N_1040) (spl := []) (mo := []) (by decide) (by decide +kernel)
def N_1041 : aAnn := [(2, [(([(3, 62, 0, 0, 0, 1), (0, -2147483648, 2147483647, 0, 0, 2), (0, 0, 301, 0, 0, 0), (4, 0, 0, 0, 0, 0)], [], []), (91203, [(-302, 3)]))]), (8, [(([(3, 62, 0, 0, 0, 1), (0, -2147483648, 2147483647, 0, 0, 2), (0, 0, 300, 0, 0, 0), (0, 1, 301, 0, 0, 0)], [], [(60, 48, (0, 1, 301, 0, 0, 0))]), (91203, [(-302, 3), (-1, 4)]))])]
set_option maxRecDepth 100000 in
theorem o_1041 : okK 265 K_1041 := okK_of (C := C_265) (fuel := 3000) rfl (A := A_265) Q_265 (ann := N_1041) (spl := []) (mo := []) (by decide) (by decide +kernel)
def N_1042 : aAnn := [(2, [(([(3, 62, 0, 0, 0, 1), (0, 0, 10, 0, 0, 0)], [], []), (10, [(-1, 2)]))])]
set_option maxRecDepth 100000 in
theorem o_1042 : okK 261 K_1042 := okK_of (C := C_261) (fuel := 3000) rfl (A := A_261) Q_261 (ann := N_1042) (spl := []) (mo := []) (by decide) (by decide +kernel)
set_option maxRecDepth 100000 in
theorem o_1043 : okK 249 K_1043 := okK_of (C := C_249) (fuel := 3000) rfl (A := A_249) Q_249 (ann := []) (spl := []) (mo := []) (by decide) (by decide +kernel)
