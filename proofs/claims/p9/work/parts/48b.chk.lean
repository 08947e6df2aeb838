/-! the checks (by program) -/
set_option maxRecDepth 100000 in
theorem o_701 : okK 188 K_701 := okK_of (C := C_188) (fuel := 3000) rfl (A := A_188) Q_188 (ann := []) (spl := []) (mo := [(60, 21, 0)]) (by decide) (by decide +kernel)
set_option maxRecDepth 100000 in
theorem o_702 : okK 191 K_702 := okK_of (C := C_191) (fuel := 3000) rfl (A := A_191) Q_191 (ann := []) (spl := []) (mo := [(60, 21, 0)]) (by decide) (by decide +kernel)
def N_703 : aAnn := [(4, [(([(3, 62, 0, 0, 0, 1), (0, 0, 4, 0, 0, 2), (1, 0, 0, 0, 0, 0), (4, 0, 0, 0, 0, 0), (4, 0, 0, 0, 0, 0)], [], [(60, 18, (0, 70, 70, 0, 0, 0)), (60, 20, (0, 40, 40, 0, 0, 0)), (60, 21, (0, 2, 40, 0, 0, 0))]), (40, [(-1, 3925)]))])]
set_option maxRecDepth 100000 in
theorem o_703 : okK 190 K_703 := okK_of (C := C_190) (fuel := 3000) rfl (A := A_190) Q_190 (ann := N_703) (spl := []) (mo := [(60, 21, 0)]) (by decide) (by decide +kernel)
def N_704 : aAnn := [(4, [(([(3, 62, 0, 0, 0, 1), (0, 0, 4, 0, 0, 2), (1, 0, 0, 0, 0, 0), (4, 0, 0, 0, 0, 0), (4, 0, 0, 0, 0, 0)], [], [(60, 18, (0, 70, 70, 0, 0, 0)), (60, 20, (0, 40, 40, 0, 0, 0)), (60, 21, (0, 2, 40, 0, 0, 0))]), (40, [(-1, 3925)]))])]
set_option maxRecDepth 100000 in
theorem o_704 : okK 189 K_704 := okK_of (C := C_189) (fuel := 3000) rfl (A := A_189) Q_189 (ann := N_704) (spl := []) (mo := [(60, 21, 0)]) (by decide) (by decide +kernel)
set_option maxRecDepth 100000 in
theorem o_705 : okK 188 K_705 := okK_of (C := C_188) (fuel := 3000) rfl (A := A_188) Q_188 (ann := []) (spl := []) (mo := [(60, 21, 0)]) (by decide) (by decide +kernel)
set_option maxRecDepth 100000 in
theorem o_706 : okK 191 K_706 := okK_of (C := C_191) (fuel := 3000) rfl (A := A_191) Q_191 (ann := []) (spl := []) (mo := [(60, 21, 0)]) (by decide) (by decide +kernel)
def N_707 : aAnn := [(4, [(([(3, 62, 0, 0, 0, 1), (0, 0, 4, 0, 0, 2), (1, 0, 0, 0, 0, 0), (4, 0, 0, 0, 0, 0), (4, 0, 0, 0, 0, 0)], [], [(60, 18, (0, 70, 70, 0, 0, 0)), (60, 20, (0, 40, 40, 0, 0, 0)), (60, 21, (0, 1, 40, 0, 0, 0))]), (40, [(-1, 3925)]))])]
set_option maxRecDepth 100000 in
theorem o_707 : okK 190 K_707 := okK_of (C := C_190) (fuel := 3000) rfl (A := A_190) Q_190 (ann := N_707) (spl := []) (mo := [(60, 21, 0)]) (by decide) (by decide +kernel)
def N_708 : aAnn := [(4, [(([(3, 62, 0, 0, 0, 1), (0, 0, 4, 0, 0, 2), (1, 0, 0, 0, 0, 0), (4, 0, 0, 0, 0, 0), (4, 0, 0, 0, 0, 0)], [], [(60, 18, (0, 70, 70, 0, 0, 0)), (60, 20, (0, 40, 40, 0, 0, 0)), (60, 21, (0, 1, 40, 0, 0, 0))]), (40, [(-1, 3925)]))])]
set_option maxRecDepth 100000 in
theorem o_708 : okK 189 K_708 := okK_of (C := C_189) (fuel := 3000) rfl (A := A_189) Q_189 (ann := N_708) (spl := []) (mo := [(60, 21, 0)]) (by decide) (by decide +kernel)
set_option maxRecDepth 100000 in
theorem o_709 : okK 188 K_709 := okK_of (C := C_188) (fuel := 3000) rfl (A := A_188) Q_188 (ann := []) (spl := []) (mo := [(60, 21, 0)]) (by decide) (by decide +kernel)
set_option maxRecDepth 100000 in
theorem o_710 : okK 191 K_710 := okK_of (C := C_191) (fuel := 3000) rfl (A := A_191) Q_191 (ann := []) (spl := []) (mo := [(60, 21, 0)]) (by decide) (by decide +kernel)
def N_711 : aAnn := [(4, [(([(3, 62, 0, 0, 0, 1), (0, 0, 4, 0, 0, 2), (1, 0, 0, 0, 0, 0), (4, 0, 0, 0, 0, 0), (4, 0, 0, 0, 0, 0)], [], [(60, 18, (0, 70, 70, 0, 0, 0)), (60, 20, (0, 40, 40, 0, 0, 0)), (60, 21, (0, 0, 40, 0, 0, 0))]), (40, [(-1, 3925)]))])]
set_option maxRecDepth 100000 in
theorem o_711 : okK 190 K_711 := okK_of (C := C_190) (fuel := 3000) rfl (A := A_190) Q_190 (ann := N_711) (spl := []) (mo := [(60, 21, 0)]) (by decide) (by decide +kernel)
def N_712 : aAnn := [(4, [(([(3, 62, 0, 0, 0, 1), (0, 0, 4, 0, 0, 2), (1, 0, 0, 0, 0, 0), (4, 0, 0, 0, 0, 0), (4, 0, 0, 0, 0, 0)], [], [(60, 18, (0, 70, 70, 0, 0, 0)), (60, 20, (0, 40, 40, 0, 0, 0)), (60, 21, (0, 0, 40, 0, 0, 0))]), (40, [(-1, 3925)]))])]
set_option maxRecDepth 100000 in
theorem o_712 : okK 189 K_712 := okK_of (C := C_189) (fuel := 3000) rfl (A := A_189) Q_189 (ann := N_712) (spl := []) (mo := [(60, 21, 0)]) (by decide) (by decide +kernel)
set_option maxRecDepth 100000 in
theorem o_713 : okK 188 K_713 := okK_of (C := C_188) (fuel := 3000) rfl (A := A_188) Q_188 (ann := []) (spl := []) (mo := [(60, 21, 0)]) (by decide) (by decide +kernel)
set_option maxRecDepth 100000 in
theorem o_714 : okK 180 K_714 := okK_of (C := C_180) (fuel := 3000) rfl (A := A_180) Q_180 (ann := []) (spl := []) (mo := []) (by decide) (by decide +kernel)
def N_715 : aAnn := [(42, [(([(3, 62, 0, 0, 0, 1), (0, 0, 40, 0, 0, 0), (0, 0, 40, 0, 0, 0)], [], [(60, 14, (0, 0, 0, 0, 0, 0)), (60, 17, (0, 0, 0, 0, 0, 0)), (60, 18, (0, 70, 70, 0, 0, 0)), (60, 20, (0, 40, 40, 0, 0, 0)), (60, 21, (0, 0, 40, 0, 0, 0)), (60, 22, (0, -1, -1, 0, 0, 0)), (60, 26, (0, -1, -1, 0, 0, 0))]), (40, [(-1, 3)]))])]
set_option maxRecDepth 100000 in
theorem o_715 : okK 193 K_715 := okK_of (C := C_193) (fuel := 3000) rfl (A := A_193) Q_193 (ann := N_715) (spl := []) (mo := []) (by decide) (by decide +kernel)
set_option maxRecDepth 100000 in
theorem o_716 : okK 169 K_716 := okK_of (C := C_169) (fuel := 3000) rfl (A := A_169) Q_169 (ann := []) (spl := []) (mo := []) (by decide) (by decide +kernel)
set_option maxRecDepth 100000 in
theorem o_717 : okK 173 K_717 := okK_of (C := C_173) (fuel := 3000) rfl (A := A_173) Q_173 (ann := []) (spl := []) (mo := []) (by decide) (by decide +kernel)
set_option maxRecDepth 100000 in
theorem o_718 : okK 171 K_718 := okK_of (C := C_171) (fuel := 3000) rfl (A := A_171) Q_171 (ann := []) (spl := []) (mo := []) (by decide) (by decide +kernel)
set_option maxRecDepth 100000 in
theorem o_719 : okK 169 K_719 := okK_of (C := C_169) (fuel := 3000) rfl (A := A_169) Q_169 (ann := []) (spl := []) (mo := []) (by decide) (by decide +kernel)
def N_720 : aAnn := [(7, [(([(3, 62, 0, 0, 0, 1), (3, 68, 0, 0, 0, 2), (0, 0, 5, 0, 0, 3), (1, 0, 0, 0, 0, 0), (0, 0, 10, 0, 0, 0)], [], []), (10, [(-1, 5)]))])]
set_option maxRecDepth 100000 in
theorem o_720 : okK 198 K_720 := okK_of (C := C_198) (fuel := 3000) rfl (A := A_198) Q_198 (ann := N_720) (spl := []) (mo := []) (by decide) (by decide +kernel)
def N_721 : aAnn := [(42, [(([(3, 62, 0, 0, 0, 1), (0, 0, 5, 0, 0, 2), (0, 1, 2, 0, 0, 3), (0, 0, 1023, 0, 0, 0), (0, 0, 10, 0, 0, 0)], [], [(60, 17, (0, 0, 0, 0, 0, 0))]), (10, [(-1, 5)]))])]
set_option maxRecDepth 100000 in
theorem o_721 : okK 199 K_721 := okK_of (C := C_199) (fuel := 3000) rfl (A := A_199) Q_199 (ann := N_721) (spl := []) (mo := []) (by decide) (by decide +kernel)
set_option maxRecDepth 100000 in
theorem o_722 : okK 169 K_722 := okK_of (C := C_169) (fuel := 3000) rfl (A := A_169) Q_169 (ann := []) (spl := []) (mo := []) (by decide) (by decide +kernel)
set_option maxRecDepth 100000 in
theorem o_723 : okK 174 K_723 := okK_of (C := C_174) (fuel := 3000) rfl (A := A_174) Q_174 (ann := []) (spl := []) (mo := []) (by decide) (by decide +kernel)
set_option maxRecDepth 100000 in
theorem o_724 : okK 169 K_724 := okK_of (C := C_169) (fuel := 3000) rfl (A := A_169) Q_169 (ann := []) (spl := []) (mo := []) (by decide) (by decide +kernel)
set_option maxRecDepth 100000 in
theorem o_726 : okK 177 K_726 := okK_of (C := C_177) (fuel := 3000) rfl (A := A_177) Q_177 (ann := []) (spl := []) (mo := []) (by decide) (by decide +kernel)
set_option maxRecDepth 100000 in
theorem o_727 : okK 178 K_727 := okK_of (C := C_178) (fuel := 3000) rfl (A := A_178) Q_178 (ann := []) (spl := []) (mo := []) (by decide) (by decide +kernel)
set_option maxRecDepth 100000 in
theorem o_728 : okK 181 K_728 := okK_of (C := C_181) (fuel := 3000) rfl (A := A_181) Q_181 (ann := []) (spl := []) (mo := [(60, 21, 0)]) (by decide) (by decide +kernel)
set_option maxRecDepth 100000 in
theorem o_729 : okK 183 K_729 := okK_of (C := C_183) (fuel := 3000) rfl (A := A_183) Q_183 (ann := []) (spl := []) (mo := [(60, 21, 0)]) (by decide) (by decide +kernel)
set_option maxRecDepth 100000 in
theorem o_730 : okK 191 K_730 := okK_of (C := C_191) (fuel := 3000) rfl (A := A_191) Q_191 (ann := []) (spl := []) (mo := [(60, 21, 0)]) (by decide) (by decide +kernel)
def N_731 : aAnn := [(4, [(([(3, 62, 0, 0, 0, 1), (0, 0, 4, 0, 0, 2), (0, 0, 0, 0, 0, 0), aRef 0, aRef 0], [], [(60, 18, (0, 73, 73, 0, 0, 0)), (60, 20, (0, 40, 40, 0, 0, 0)), (60, 21, (0, 40, 40, 0, 0, 0)), (60, 22, (0, 0, 80, 0, 0, 0))]), (40, [(-1, 3925)]))])]
set_option maxRecDepth 100000 in
theorem o_731 : okK 190 K_731 := okK_of (C := C_190) (fuel := 3000) rfl (A := A_190) Q_190 (ann := N_731) (spl := []) (mo := [(60, 21, 0)]) (by decide) (by decide +kernel)
def N_732 : aAnn := [(4, [(([(3, 62, 0, 0, 0, 1), (0, 0, 4, 0, 0, 2), (0, 0, 0, 0, 0, 0), aRef 0, aRef 0], [], [(60, 18, (0, 73, 73, 0, 0, 0)), (60, 20, (0, 40, 40, 0, 0, 0)), (60, 21, (0, 40, 40, 0, 0, 0)), (60, 22, (0, 0, 80, 0, 0, 0))]), (40, [(-1, 3925)]))])]
set_option maxRecDepth 100000 in
theorem o_732 : okK 189 K_732 := okK_of (C := C_189) (fuel := 3000) rfl (A := A_189) Q_189 (ann := N_732) (spl := []) (mo := [(60, 21, 0)]) (by decide) (by decide +kernel)
set_option maxRecDepth 100000 in
theorem o_733 : okK 181 K_733 := okK_of (C := C_181) (fuel := 3000) rfl (A := A_181) Q_181 (ann := []) (spl := []) (mo := [(60, 21, 0)]) (by decide) (by decide +kernel)
set_option maxRecDepth 100000 in
theorem o_734 : okK 188 K_734 := okK_of (C := C_188) (fuel := 3000) rfl (A := A_188) Q_188 (ann := []) (spl := []) (mo := [(60, 21, 0)]) (by decide) (by decide +kernel)
set_option maxRecDepth 100000 in
theorem o_735 : okK 182 K_735 := okK_of (C := C_182) (fuel := 3000) rfl (A := A_182) Q_182 (ann := []) (spl := []) (mo := [(60, 21, 0)]) (by decide) (by decide +kernel)
set_option maxRecDepth 100000 in
theorem o_736 : okK 191 K_736 := okK_of (C := C_191) (fuel := 3000) rfl (A := A_191) Q_191 (ann := []) (spl := []) (mo := [(60, 21, 0)]) (by decide) (by decide +kernel)
def N_737 : aAnn := [(4, [(([(3, 62, 0, 0, 0, 1), (0, 0, 4, 0, 0, 2), (1, 0, 0, 0, 0, 0), (4, 0, 0, 0, 0, 0), (4, 0, 0, 0, 0, 0)], [], [(60, 18, (0, 73, 73, 0, 0, 0)), (60, 20, (0, 40, 40, 0, 0, 0)), (60, 21, (0, 39, 40, 0, 0, 0))]), (40, [(-1, 3925)]))])]
set_option maxRecDepth 100000 in
theorem o_737 : okK 190 K_737 := okK_of (C := C_190) (fuel := 3000) rfl (A := A_190) Q_190 (ann := N_737) (spl := []) (mo := [(60, 21, 0)]) (by decide) (by decide +kernel)
def N_738 : aAnn := [(4, [(([(3, 62, 0, 0, 0, 1), (0, 0, 4, 0, 0, 2), (1, 0, 0, 0, 0, 0), (4, 0, 0, 0, 0, 0), (4, 0, 0, 0, 0, 0)], [], [(60, 18, (0, 73, 73, 0, 0, 0)), (60, 20, (0, 40, 40, 0, 0, 0)), (60, 21, (0, 39, 40, 0, 0, 0))]), (40, [(-1, 3925)]))])]
set_option maxRecDepth 100000 in
theorem o_738 : okK 189 K_738 := okK_of (C := C_189) (fuel := 3000) rfl (A := A_189) Q_189 (ann := N_738) (spl := []) (mo := [(60, 21, 0)]) (by decide) (by decide +kernel)
set_option maxRecDepth 100000 in
theorem o_739 : okK 181 K_739 := okK_of (C := C_181) (fuel := 3000) rfl (A := A_181) Q_181 (ann := []) (spl := []) (mo := [(60, 21, 0)]) (by decide) (by decide +kernel)
set_option maxRecDepth 100000 in
theorem o_740 : okK 188 K_740 := okK_of (C := C_188) (fuel := 3000) rfl (A := A_188) Q_188 (ann := []) (spl := []) (mo := [(60, 21, 0)]) (by decide) (by decide +kernel)
set_option maxRecDepth 100000 in
theorem o_741 : okK 182 K_741 := okK_of (C := C_182) (fuel := 3000) rfl (A := A_182) Q_182 (ann := []) (spl := []) (mo := [(60, 21, 0)]) (by decide) (by decide +kernel)
set_option maxRecDepth 100000 in
theorem o_742 : okK 191 K_742 := okK_of (C := C_191) (fuel := 3000) rfl (A := A_191) Q_191 (ann := []) (spl := []) (mo := [(60, 21, 0)]) (by decide) (by decide +kernel)
def N_743 : aAnn := [(4, [(([(3, 62, 0, 0, 0, 1), (0, 0, 4, 0, 0, 2), (1, 0, 0, 0, 0, 0), (4, 0, 0, 0, 0, 0), (4, 0, 0, 0, 0, 0)], [], [(60, 18, (0, 73, 73, 0, 0, 0)), (60, 20, (0, 40, 40, 0, 0, 0)), (60, 21, (0, 38, 40, 0, 0, 0))]), (40, [(-1, 3925)]))])]
set_option maxRecDepth 100000 in
theorem o_743 : okK 190 K_743 := okK_of (C := C_190) (fuel := 3000) rfl (A := A_190) Q_190 (ann := N_743) (spl := []) (mo := [(60, 21, 0)]) (by decide) (by decide +kernel)
def N_744 : aAnn := [(4, [(([(3, 62, 0, 0, 0, 1), (0, 0, 4, 0, 0, 2), (1, 0, 0, 0, 0, 0), (4, 0, 0, 0, 0, 0), (4, 0, 0, 0, 0, 0)], [], [(60, 18, (0, 73, 73, 0, 0, 0)), (60, 20, (0, 40, 40, 0, 0, 0)), (60, 21, (0, 38, 40, 0, 0, 0))]), (40, [(-1, 3925)]))])]
set_option maxRecDepth 100000 in
theorem o_744 : okK 189 K_744 := okK_of (C := C_189) (fuel := 3000) rfl (A := A_189) Q_189 (ann := N_744) (spl := []) (mo := [(60, 21, 0)]) (by decide) (by decide +kernel)
set_option maxRecDepth 100000 in
theorem o_745 : okK 188 K_745 := okK_of (C := C_188) (fuel := 3000) rfl (A := A_188) Q_188 (ann := []) (spl := []) (mo := [(60, 21, 0)]) (by decide) (by decide +kernel)
set_option maxRecDepth 100000 in
theorem o_746 : okK 191 K_746 := okK_of (C := C_191) (fuel := 3000) rfl (A := A_191) Q_191 (ann := []) (spl := []) (mo := [(60, 21, 0)]) (by decide) (by decide +kernel)
def N_747 : aAnn := [(4, [(([(3, 62, 0, 0, 0, 1), (0, 0, 4, 0, 0, 2), (1, 0, 0, 0, 0, 0), (4, 0, 0, 0, 0, 0), (4, 0, 0, 0, 0, 0)], [], [(60, 18, (0, 73, 73, 0, 0, 0)), (60, 20, (0, 40, 40, 0, 0, 0)), (60, 21, (0, 37, 40, 0, 0, 0))]), (40, [(-1, 3925)]))])]
set_option maxRecDepth 100000 in
theorem o_747 : okK 190 K_747 := okK_of (C := C_190) (fuel := 3000) rfl (A := A_190) Q_190 (ann := N_747) (spl := []) (mo := [(60, 21, 0)]) (by decide) (by decide +kernel)
def N_748 : aAnn := [(4, [(([(3, 62, 0, 0, 0, 1), (0, 0, 4, 0, 0, 2), (1, 0, 0, 0, 0, 0), (4, 0, 0, 0, 0, 0), (4, 0, 0, 0, 0, 0)], [], [(60, 18, (0, 73, 73, 0, 0, 0)), (60, 20, (0, 40, 40, 0, 0, 0)), (60, 21, (0, 37, 40, 0, 0, 0))]), (40, [(-1, 3925)]))])]
set_option maxRecDepth 100000 in
theorem o_748 : okK 189 K_748 := okK_of (C := C_189) (fuel := 3000) rfl (A := A_189) Q_189 (ann := N_748) (spl := []) (mo := [(60, 21, 0)]) (by decide) (by decide +kernel)
set_option maxRecDepth 100000 in
theorem o_749 : okK 188 K_749 := okK_of (C := C_188) (fuel := 3000) rfl (A := A_188) Q_188 (ann := []) (spl := []) (mo := [(60, 21, 0)]) (by decide) (by decide +kernel)
set_option maxRecDepth 100000 in
theorem o_750 : okK 191 K_750 := okK_of (C := C_191) (fuel := 3000) rfl (A := A_191) Q_191 (ann := []) (spl := []) (mo := [(60, 21, 0)]) (by decide) (by decide +kernel)
def N_751 : aAnn := [(4, [(([(3, 62, 0, 0, 0, 1), (0, 0, 4, 0, 0, 2), (1, 0, 0, 0, 0, 0), (4, 0, 0, 0, 0, 0), (4, 0, 0, 0, 0, 0)], [], [(60, 18, (0, 73, 73, 0, 0, 0)), (60, 20, (0, 40, 40, 0, 0, 0)), (60, 21, (0, 36, 40, 0, 0, 0))]), (40, [(-1, 3925)]))])]
set_option maxRecDepth 100000 in
theorem o_751 : okK 190 K_751 := okK_of (C := C_190) (fuel := 3000) rfl (A := A_190) Q_190 (ann := N_751) (spl := []) (mo := [(60, 21, 0)]) (by decide) (by decide +kernel)
def N_752 : aAnn := [(4, [(([(3, 62, 0, 0, 0, 1), (0, 0, 4, 0, 0, 2), (1, 0, 0, 0, 0, 0), (4, 0, 0, 0, 0, 0), (4, 0, 0, 0, 0, 0)], [], [(60, 18, (0, 73, 73, 0, 0, 0)), (60, 20, (0, 40, 40, 0, 0, 0)), (60, 21, (0, 36, 40, 0, 0, 0))]), (40, [(-1, 3925)]))])]
set_option maxRecDepth 100000 in
theorem o_752 : okK 189 K_752 := okK_of (C := C_189) (fuel := 3000) rfl (A := A_189) Q_189 (ann := N_752) (spl := []) (mo := [(60, 21, 0)]) (by decide) (by decide +kernel)
set_option maxRecDepth 100000 in
theorem o_753 : okK 188 K_753 := okK_of (C := C_188) (fuel := 3000) rfl (A := A_188) Q_188 (ann := []) (spl := []) (mo := [(60, 21, 0)]) (by decide) (by decide +kernel)
set_option maxRecDepth 100000 in
theorem o_754 : okK 191 K_754 := okK_of (C := C_191) (fuel := 3000) rfl (A := A_191) Q_191 (ann := []) (spl := []) (mo := [(60, 21, 0)]) (by decide) (by decide +kernel)
def N_755 : aAnn := [(4, [(([(3, 62, 0, 0, 0, 1), (0, 0, 4, 0, 0, 2), (1, 0, 0, 0, 0, 0), (4, 0, 0, 0, 0, 0), (4, 0, 0, 0, 0, 0)], [], [(60, 18, (0, 73, 73, 0, 0, 0)), (60, 20, (0, 40, 40, 0, 0, 0)), (60, 21, (0, 35, 40, 0, 0, 0))]), (40, [(-1, 3925)]))])]
set_option maxRecDepth 100000 in
theorem o_755 : okK 190 K_755 := okK_of (C := C_190) (fuel := 3000) rfl (A := A_190) Q_190 (ann := N_755) (spl := []) (mo := [(60, 21, 0)]) (by decide) (by decide +kernel)
def N_756 : aAnn := [(4, [(([(3, 62, 0, 0, 0, 1), (0, 0, 4, 0, 0, 2), (1, 0, 0, 0, 0, 0), (4, 0, 0, 0, 0, 0), (4, 0, 0, 0, 0, 0)], [], [(60, 18, (0, 73, 73, 0, 0, 0)), (60, 20, (0, 40, 40, 0, 0, 0)), (60, 21, (0, 35, 40, 0, 0, 0))]), (40, [(-1, 3925)]))])]
set_option maxRecDepth 100000 in
theorem o_756 : okK 189 K_756 := okK_of (C := C_189) (fuel := 3000) rfl (A := A_189) Q_189 (ann := N_756) (spl := []) (mo := [(60, 21, 0)]) (by decide) (by decide +kernel)
set_option maxRecDepth 100000 in
theorem o_757 : okK 188 K_757 := okK_of (C := C_188) (fuel := 3000) rfl (A := A_188) Q_188 (ann := []) (spl := []) (mo := [(60, 21, 0)]) (by decide) (by decide +kernel)
set_option maxRecDepth 100000 in
theorem o_758 : okK 191 K_758 := okK_of (C := C_191) (fuel := 3000) rfl (A := A_191) Q_191 (ann := []) (spl := []) (mo := [(60, 21, 0)]) (by decide) (by decide +kernel)
def N_759 : aAnn := [(4, [(([(3, 62, 0, 0, 0, 1), (0, 0, 4, 0, 0, 2), (1, 0, 0, 0, 0, 0), (4, 0, 0, 0, 0, 0), (4, 0, 0, 0, 0, 0)], [], [(60, 18, (0, 73, 73, 0, 0, 0)), (60, 20, (0, 40, 40, 0, 0, 0)), (60, 21, (0, 34, 40, 0, 0, 0))]), (40, [(-1, 3925)]))])]
set_option maxRecDepth 100000 in
theorem o_759 : okK 190 K_759 := okK_of (C := C_190) (fuel := 3000) rfl (A := A_190) Q_190 (ann := N_759) (spl := []) (mo := [(60, 21, 0)]) (by decide) (by decide +kernel)
def N_760 : aAnn := [(4, [(([(3, 62, 0, 0, 0, 1), (0, 0, 4, 0, 0, 2), (1, 0, 0, 0, 0, 0), (4, 0, 0, 0, 0, 0), (4, 0, 0, 0, 0, 0)], [], [(60, 18, (0, 73, 73, 0, 0, 0)), (60, 20, (0, 40, 40, 0, 0, 0)), (60, 21, (0, 34, 40, 0, 0, 0))]), (40, [(-1, 3925)]))])]
set_option maxRecDepth 100000 in
theorem o_760 : okK 189 K_760 := okK_of (C := C_189) (fuel := 3000) rfl (A := A_189) Q_189 (ann := N_760) (spl := []) (mo := [(60, 21, 0)]) (by decide) (by decide +kernel)
set_option maxRecDepth 100000 in
theorem o_761 : okK 188 K_761 := okK_of (C := C_188) (fuel := 3000) rfl (A := A_188) Q_188 (ann := []) (spl := []) (mo := [(60, 21, 0)]) (by decide) (by decide +kernel)
set_option maxRecDepth 100000 in
theorem o_762 : okK 191 K_762 := okK_of (C := C_191) (fuel := 3000) rfl (A := A_191) Q_191 (ann := []) (spl := []) (mo := [(60, 21, 0)]) (by decide) (by decide +kernel)
def N_763 : aAnn := [(4, [(([(3, 62, 0, 0, 0, 1), (0, 0, 4, 0, 0, 2), (1, 0, 0, 0, 0, 0), (4, 0, 0, 0, 0, 0), (4, 0, 0, 0, 0, 0)], [], [(60, 18, (0, 73, 73, 0, 0, 0)), (60, 20, (0, 40, 40, 0, 0, 0)), (60, 21, (0, 33, 40, 0, 0, 0))]), (40, [(-1, 3925)]))])]
set_option maxRecDepth 100000 in
theorem o_763 : okK 190 K_763 := okK_of (C := C_190) (fuel := 3000) rfl (A := A_190) Q_190 (ann := N_763) (spl := []) (mo := [(60, 21, 0)]) (by decide) (by decide +kernel)
def N_764 : aAnn := [(4, [(([(3, 62, 0, 0, 0, 1), (0, 0, 4, 0, 0, 2), (1, 0, 0, 0, 0, 0), (4, 0, 0, 0, 0, 0), (4, 0, 0, 0, 0, 0)], [], [(60, 18, (0, 73, 73, 0, 0, 0)), (60, 20, (0, 40, 40, 0, 0, 0)), (60, 21, (0, 33, 40, 0, 0, 0))]), (40, [(-1, 3925)]))])]
set_option maxRecDepth 100000 in
theorem o_764 : okK 189 K_764 := okK_of (C := C_189) (fuel := 3000) rfl (A := A_189) Q_189 (ann := N_764) (spl := []) (mo := [(60, 21, 0)]) (by decide) (by decide +kernel)
set_option maxRecDepth 100000 in
theorem o_765 : okK 188 K_765 := okK_of (C := C_188) (fuel := 3000) rfl (A := A_188) Q_188 (ann := []) (spl := []) (mo := [(60, 21, 0)]) (by decide) (by decide +kernel)
set_option maxRecDepth 100000 in
theorem o_766 : okK 191 K_766 := okK_of (C := C_191) (fuel := 3000) rfl (A := A_191) Q_191 (ann := []) (spl := []) (mo := [(60, 21, 0)]) (by decide) (by decide +kernel)
def N_767 : aAnn := [(4, [(([(3, 62, 0, 0, 0, 1), (0, 0, 4, 0, 0, 2), (1, 0, 0, 0, 0, 0), (4, 0, 0, 0, 0, 0), (4, 0, 0, 0, 0, 0)], [], [(60, 18, (0, 73, 73, 0, 0, 0)), (60, 20, (0, 40, 40, 0, 0, 0)), (60, 21, (0, 32, 40, 0, 0, 0))]), (40, [(-1, 3925)]))])]
set_option maxRecDepth 100000 in
theorem o_767 : okK 190 K_767 := okK_of (C := C_190) (fuel := 3000) rfl (A := A_190) Q_190 (ann := N_767) (spl := []) (mo := [(60, 21, 0)]) (by decide) (by decide +kernel)
def N_768 : aAnn := [(4, [(([(3, 62, 0, 0, 0, 1), (0, 0, 4, 0, 0, 2), (1, 0, 0, 0, 0, 0), (4, 0, 0, 0, 0, 0), (4, 0, 0, 0, 0, 0)], [], [(60, 18, (0, 73, 73, 0, 0, 0)), (60, 20, (0, 40, 40, 0, 0, 0)), (60, 21, (0, 32, 40, 0, 0, 0))]), (40, [(-1, 3925)]))])]
set_option maxRecDepth 100000 in
theorem o_768 : okK 189 K_768 := okK_of (C := C_189) (fuel := 3000) rfl (A := A_189) Q_189 (ann := N_768) (spl := []) (mo := [(60, 21, 0)]) (by decide) (by decide +kernel)
set_option maxRecDepth 100000 in
theorem o_769 : okK 188 K_769 := okK_of (C := C_188) (fuel := 3000) rfl (A := A_188) Q_188 (ann := []) (spl := []) (mo := [(60, 21, 0)]) (by decide) (by decide +kernel)
set_option maxRecDepth 100000 in
theorem o_770 : okK 191 K_770 := okK_of (C := C_191) (fuel := 3000) rfl (A := A_191) Q_191 (ann := []) (spl := []) (mo := [(60, 21, 0)]) (by decide) (by decide +kernel)
def N_771 : aAnn := [(4, [(([(3, 62, 0, 0, 0, 1), (0, 0, 4, 0, 0, 2), (1, 0, 0, 0, 0, 0), (4, 0, 0, 0, 0, 0), (4, 0, 0, 0, 0, 0)], [], [(60, 18, (0, 73, 73, 0, 0, 0)), (60, 20, (0, 40, 40, 0, 0, 0)), (60, 21, (0, 31, 40, 0, 0, 0))]), (40, [(-1, 3925)]))])]
set_option maxRecDepth 100000 in
theorem o_771 : okK 190 K_771 := okK_of (C := C_190) (fuel := 3000) rfl (A := A_190) Q_190 (ann := N_771) (spl := []) (mo := [(60, 21, 0)]) (by decide) (by decide +kernel)
def N_772 : aAnn := [(4, [(([(3, 62, 0, 0, 0, 1), (0, 0, 4, 0, 0, 2), (1, 0, 0, 0, 0, 0), (4, 0, 0, 0, 0, 0), (4, 0, 0, 0, 0, 0)], [], [(60, 18, (0, 73, 73, 0, 0, 0)), (60, 20, (0, 40, 40, 0, 0, 0)), (60, 21, (0, 31, 40, 0, 0, 0))]), (40, [(-1, 3925)]))])]
set_option maxRecDepth 100000 in
theorem o_772 : okK 189 K_772 := okK_of (C := C_189) (fuel := 3000) rfl (A := A_189) Q_189 (ann := N_772) (spl := []) (mo := [(60, 21, 0)]) (by decide) (by decide +kernel)
set_option maxRecDepth 100000 in
theorem o_773 : okK 188 K_773 := okK_of (C := C_188) (fuel := 3000) rfl (A := A_188) Q_188 (ann := []) (spl := []) (mo := [(60, 21, 0)]) (by decide) (by decide +kernel)
set_option maxRecDepth 100000 in
theorem o_774 : okK 191 K_774 := okK_of (C := C_191) (fuel := 3000) rfl (A := A_191) Q_191 (ann := []) (spl := []) (mo := [(60, 21, 0)]) (by decide) (by decide +kernel)
def N_775 : aAnn := [(4, [(([(3, 62, 0, 0, 0, 1), (0, 0, 4, 0, 0, 2), (1, 0, 0, 0, 0, 0), (4, 0, 0, 0, 0, 0), (4, 0, 0, 0, 0, 0)], [], [(60, 18, (0, 73, 73, 0, 0, 0)), (60, 20, (0, 40, 40, 0, 0, 0)), (60, 21, (0, 30, 40, 0, 0, 0))]), (40, [(-1, 3925)]))])]
set_option maxRecDepth 100000 in
theorem o_775 : okK 190 K_775 := okK_of (C := C_190) (fuel := 3000) rfl (A := A_190) Q_190 (ann := N_775) (spl := []) (mo := [(60, 21, 0)]) (by decide) (by decide +kernel)
def N_776 : aAnn := [(4, [(([(3, 62, 0, 0, 0, 1), (0, 0, 4, 0, 0, 2), (1, 0, 0, 0, 0, 0), (4, 0, 0, 0, 0, 0), (4, 0, 0, 0, 0, 0)], [], [(60, 18, (0, 73, 73, 0, 0, 0)), (60, 20, (0, 40, 40, 0, 0, 0)), (60, 21, (0, 30, 40, 0, 0, 0))]), (40, [(-1, 3925)]))])]
set_option maxRecDepth 100000 in
theorem o_776 : okK 189 K_776 := okK_of (C := C_189) (fuel := 3000) rfl (A := A_189) Q_189 (ann := N_776) (spl := []) (mo := [(60, 21, 0)]) (by decide) (by decide +kernel)
set_option maxRecDepth 100000 in
theorem o_777 : okK 188 K_777 := okK_of (C := C_188) (fuel := 3000) rfl (A := A_188) Q_188 (ann := []) (spl := []) (mo := [(60, 21, 0)]) (by decide) (by decide +kernel)
set_option maxRecDepth 100000 in
theorem o_778 : okK 191 K_778 := okK_of (C := C_191) (fuel := 3000) rfl (A := A_191) Q_191 (ann := []) (spl := []) (mo := [(60, 21, 0)]) (by decide) (by decide +kernel)
def N_779 : aAnn := [(4, [(([(3, 62, 0, 0, 0, 1), (0, 0, 4, 0, 0, 2), (1, 0, 0, 0, 0, 0), (4, 0, 0, 0, 0, 0), (4, 0, 0, 0, 0, 0)], [], [(60, 18, (0, 73, 73, 0, 0, 0)), (60, 20, (0, 40, 40, 0, 0, 0)), (60, 21, (0, 29, 40, 0, 0, 0))]), (40, [(-1, 3925)]))])]
set_option maxRecDepth 100000 in
theorem o_779 : okK 190 K_779 := okK_of (C := C_190) (fuel := 3000) rfl (A := A_190) Q_190 (ann := N_779) (spl := []) (mo := [(60, 21, 0)]) (by decide) (by decide +kernel)
def N_780 : aAnn := [(4, [(([(3, 62, 0, 0, 0, 1), (0, 0, 4, 0, 0, 2), (1, 0, 0, 0, 0, 0), (4, 0, 0, 0, 0, 0), (4, 0, 0, 0, 0, 0)], [], [(60, 18, (0, 73, 73, 0, 0, 0)), (60, 20, (0, 40, 40, 0, 0, 0)), (60, 21, (0, 29, 40, 0, 0, 0))]), (40, [(-1, 3925)]))])]
set_option maxRecDepth 100000 in
theorem o_780 : okK 189 K_780 := okK_of (C := C_189) (fuel := 3000) rfl (A := A_189) Q_189 (ann := N_780) (spl := []) (mo := [(60, 21, 0)]) (by decide) (by decide +kernel)
set_option maxRecDepth 100000 in
theorem o_781 : okK 188 K_781 := okK_of (C := C_188) (fuel := 3000) rfl (A := A_188) Q_188 (ann := []) (spl := []) (mo := [(60, 21, 0)]) (by decide) (by decide +kernel)
set_option maxRecDepth 100000 in
theorem o_782 : okK 191 K_782 := okK_of (C := C_191) (fuel := 3000) rfl (A := A_191) Q_191 (ann := []) (spl := []) (mo := [(60, 21, 0)]) (by decide) (by decide +kernel)
def N_783 : aAnn := [(4, [(([(3, 62, 0, 0, 0, 1), (0, 0, 4, 0, 0, 2), (1, 0, 0, 0, 0, 0), (4, 0, 0, 0, 0, 0), (4, 0, 0, 0, 0, 0)], [], [(60, 18, (0, 73, 73, 0, 0, 0)), (60, 20, (0, 40, 40, 0, 0, 0)), (60, 21, (0, 28, 40, 0, 0, 0))]), (40, [(-1, 3925)]))])]
set_option maxRecDepth 100000 in
theorem o_783 : okK 190 K_783 := okK_of (C := C_190) (fuel := 3000) rfl (A := A_190) Q_190 (ann := N_783) (spl := []) (mo := [(60, 21, 0)]) (by decide) (by decide +kernel)
def N_784 : aAnn := [(4, [(([(3, 62, 0, 0, 0, 1), (0, 0, 4, 0, 0, 2), (1, 0, 0, 0, 0, 0), (4, 0, 0, 0, 0, 0), (4, 0, 0, 0, 0, 0)], [], [(60, 18, (0, 73, 73, 0, 0, 0)), (60, 20, (0, 40, 40, 0, 0, 0)), (60, 21, (0, 28, 40, 0, 0, 0))]), (40, [(-1, 3925)]))])]
set_option maxRecDepth 100000 in
theorem o_784 : okK 189 K_784 := okK_of (C := C_189) (fuel := 3000) rfl (A := A_189) Q_189 (ann := N_784) (spl := []) (mo := [(60, 21, 0)]) (by decide) (by decide +kernel)
set_option maxRecDepth 100000 in
theorem o_785 : okK 188 K_785 := okK_of (C := C_188) (fuel := 3000) rfl (A := A_188) Q_188 (ann := []) (spl := []) (mo := [(60, 21, 0)]) (by decide) (by decide +kernel)
set_option maxRecDepth 100000 in
theorem o_786 : okK 191 K_786 := okK_of (C := C_191) (fuel := 3000) rfl (A := A_191) Q_191 (ann := []) (spl := []) (mo := [(60, 21, 0)]) (by decide) (by decide +kernel)
def N_787 : aAnn := [(4, [(([(3, 62, 0, 0, 0, 1), (0, 0, 4, 0, 0, 2), (1, 0, 0, 0, 0, 0), (4, 0, 0, 0, 0, 0), (4, 0, 0, 0, 0, 0)], [], [(60, 18, (0, 73, 73, 0, 0, 0)), (60, 20, (0, 40, 40, 0, 0, 0)), (60, 21, (0, 27, 40, 0, 0, 0))]), (40, [(-1, 3925)]))])]
set_option maxRecDepth 100000 in
theorem o_787 : okK 190 K_787 := okK_of (C := C_190) (fuel := 3000) rfl (A := A_190) Q_190 (ann := N_787) (spl := []) (mo := [(60, 21, 0)]) (by decide) (by decide +kernel)
def N_788 : aAnn := [(4, [(([(3, 62, 0, 0, 0, 1), (0, 0, 4, 0, 0, 2), (1, 0, 0, 0, 0, 0), (4, 0, 0, 0, 0, 0), (4, 0, 0, 0, 0, 0)], [], [(60, 18, (0, 73, 73, 0, 0, 0)), (60, 20, (0, 40, 40, 0, 0, 0)), (60, 21, (0, 27, 40, 0, 0, 0))]), (40, [(-1, 3925)]))])]
set_option maxRecDepth 100000 in
theorem o_788 : okK 189 K_788 := okK_of (C := C_189) (fuel := 3000) rfl (A := A_189) Q_189 (ann := N_788) (spl := []) (mo := [(60, 21, 0)]) (by decide) (by decide +kernel)
set_option maxRecDepth 100000 in
theorem o_789 : okK 188 K_789 := okK_of (C := C_188) (fuel := 3000) rfl (A := A_188) Q_188 (ann := []) (spl := []) (mo := [(60, 21, 0)]) (by decide) (by decide +kernel)
set_option maxRecDepth 100000 in
theorem o_790 : okK 191 K_790 := okK_of (C := C_191) (fuel := 3000) rfl (A := A_191) Q_191 (ann := []) (spl := []) (mo := [(60, 21, 0)]) (by decide) (by decide +kernel)
def N_791 : aAnn := [(4, [(([(3, 62, 0, 0, 0, 1), (0, 0, 4, 0, 0, 2), (1, 0, 0, 0, 0, 0), (4, 0, 0, 0, 0, 0), (4, 0, 0, 0, 0, 0)], [], [(60, 18, (0, 73, 73, 0, 0, 0)), (60, 20, (0, 40, 40, 0, 0, 0)), (60, 21, (0, 26, 40, 0, 0, 0))]), (40, [(-1, 3925)]))])]
set_option maxRecDepth 100000 in
theorem o_791 : okK 190 K_791 := okK_of (C := C_190) (fuel := 3000) rfl (A := A_190) Q_190 (ann := N_791) (spl := []) (mo := [(60, 21, 0)]) (by decide) (by decide +kernel)
def N_792 : aAnn := [(4, [(([(3, 62, 0, 0, 0, 1), (0, 0, 4, 0, 0, 2), (1, 0, 0, 0, 0, 0), (4, 0, 0, 0, 0, 0), (4, 0, 0, 0, 0, 0)], [], [(60, 18, (0, 73, 73, 0, 0, 0)), (60, 20, (0, 40, 40, 0, 0, 0)), (60, 21, (0, 26, 40, 0, 0, 0))]), (40, [(-1, 3925)]))])]
set_option maxRecDepth 100000 in
theorem o_792 : okK 189 K_792 := okK_of (C := C_189) (fuel := 3000) rfl (A := A_189) Q_189 (ann := N_792) (spl := []) (mo := [(60, 21, 0)]) (by decide) (by decide +kernel)
set_option maxRecDepth 100000 in
theorem o_793 : okK 188 K_793 := okK_of (C := C_188) (fuel := 3000) rfl (A := A_188) Q_188 (ann := []) (spl := []) (mo := [(60, 21, 0)]) (by decide) (by decide +kernel)
set_option maxRecDepth 100000 in
theorem o_794 : okK 191 K_794 := okK_of (C := C_191) (fuel := 3000) rfl (A := A_191) Q_191 (ann := []) (spl := []) (mo := [(60, 21, 0)]) (by decide) (by decide +kernel)
def N_795 : aAnn := [(4, [(([(3, 62, 0, 0, 0, 1), (0, 0, 4, 0, 0, 2), (1, 0, 0, 0, 0, 0), (4, 0, 0, 0, 0, 0), (4, 0, 0, 0, 0, 0)], [], [(60, 18, (0, 73, 73, 0, 0, 0)), (60, 20, (0, 40, 40, 0, 0, 0)), (60, 21, (0, 25, 40, 0, 0, 0))]), (40, [(-1, 3925)]))])]
set_option maxRecDepth 100000 in
theorem o_795 : okK 190 K_795 := okK_of (C := C_190) (fuel := 3000) rfl (A := A_190) Q_190 (ann := N_795) (spl := []) (mo := [(60, 21, 0)]) (by decide) (by decide +kernel)
def N_796 : aAnn := [(4, [(([(3, 62, 0, 0, 0, 1), (0, 0, 4, 0, 0, 2), (1, 0, 0, 0, 0, 0), (4, 0, 0, 0, 0, 0), (4, 0, 0, 0, 0, 0)], [], [(60, 18, (0, 73, 73, 0, 0, 0)), (60, 20, (0, 40, 40, 0, 0, 0)), (60, 21, (0, 25, 40, 0, 0, 0))]), (40, [(-1, 3925)]))])]
set_option maxRecDepth 100000 in
theorem o_796 : okK 189 K_796 := okK_of (C := C_189) (fuel := 3000) rfl (A := A_189) Q_189 (ann := N_796) (spl := []) (mo := [(60, 21, 0)]) (by decide) (by decide +kernel)
set_option maxRecDepth 100000 in
theorem o_797 : okK 188 K_797 := okK_of (C := C_188) (fuel := 3000) rfl (A := A_188) Q_188 (ann := []) (spl := []) (mo := [(60, 21, 0)]) (by decide) (by decide +kernel)
set_option maxRecDepth 100000 in
theorem o_798 : okK 191 K_798 := okK_of (C := C_191) (fuel := 3000) rfl (A := A_191) Q_191 (ann := []) (spl := []) (mo := [(60, 21, 0)]) (by decide) (by decide +kernel)
def N_799 : aAnn := [(4, [(([(3, 62, 0, 0, 0, 1), (0, 0, 4, 0, 0, 2), (1, 0, 0, 0, 0, 0), (4, 0, 0, 0, 0, 0), (4, 0, 0, 0, 0, 0)], [], [(60, 18, (0, 73, 73, 0, 0, 0)), (60, 20, (0, 40, 40, 0, 0, 0)), (60, 21, (0, 24, 40, 0, 0, 0))]), (40, [(-1, 3925)]))])]
set_option maxRecDepth 100000 in
theorem o_799 : okK 190 K_799 := okK_of (C := C_190) (fuel := 3000) rfl (A := A_190) Q_190 (ann := N_799) (spl := []) (mo := [(60, 21, 0)]) (by decide) (by decide +kernel)
def N_800 : aAnn := [(4, [(([(3, 62, 0, 0, 0, 1), (0, 0, 4, 0, 0, 2), (1, 0, 0, 0, 0, 0), (4, 0, 0, 0, 0, 0), (4, 0, 0, 0, 0, 0)], [], [(60, 18, (0, 73, 73, 0, 0, 0)), (60, 20, (0, 40, 40, 0, 0, 0)), (60, 21, (0, 24, 40, 0, 0, 0))]), (40, [(-1, 3925)]))])]
set_option maxRecDepth 100000 in
theorem o_800 : okK 189 K_800 := okK_of (C := C_189) (fuel := 3000) rfl (A := A_189) Q_189 (ann := N_800) (spl := []) (mo := [(60, 21, 0)]) (by decide) (by decide +kernel)
set_option maxRecDepth 100000 in
theorem o_801 : okK 188 K_801 := okK_of (C := C_188) (fuel := 3000) rfl (A := A_188) Q_188 (ann := []) (spl := []) (mo := [(60, 21, 0)]) (by decide) (by decide +kernel)
set_option maxRecDepth 100000 in
theorem o_802 : okK 191 K_802 := okK_of (C := C_191) (fuel := 3000) rfl (A := A_191) Q_191 (ann := []) (spl := []) (mo := [(60, 21, 0)]) (by decide) (by decide +kernel)
def N_803 : aAnn := [(4, [(([(3, 62, 0, 0, 0, 1), (0, 0, 4, 0, 0, 2), (1, 0, 0, 0, 0, 0), (4, 0, 0, 0, 0, 0), (4, 0, 0, 0, 0, 0)], [], [(60, 18, (0, 73, 73, 0, 0, 0)), (60, 20, (0, 40, 40, 0, 0, 0)), (60, 21, (0, 23, 40, 0, 0, 0))]), (40, [(-1, 3925)]))])]
set_option maxRecDepth 100000 in
theorem o_803 : okK 190 K_803 := okK_of (C := C_190) (fuel := 3000) rfl (A := A_190) Q_190 (ann := N_803) (spl := []) (mo := [(60, 21, 0)]) (by decide) (by decide +kernel)
def N_804 : aAnn := [(4, [(([(3, 62, 0, 0, 0, 1), (0, 0, 4, 0, 0, 2), (1, 0, 0, 0, 0, 0), (4, 0, 0, 0, 0, 0), (4, 0, 0, 0, 0, 0)], [], [(60, 18, (0, 73, 73, 0, 0, 0)), (60, 20, (0, 40, 40, 0, 0, 0)), (60, 21, (0, 23, 40, 0, 0, 0))]), (40, [(-1, 3925)]))])]
set_option maxRecDepth 100000 in
theorem o_804 : okK 189 K_804 := okK_of (C := C_189) (fuel := 3000) rfl (A := A_189) Q_189 (ann := N_804) (spl := []) (mo := [(60, 21, 0)]) (by decide) (by decide +kernel)
set_option maxRecDepth 100000 in
theorem o_805 : okK 188 K_805 := okK_of (C := C_188) (fuel := 3000) rfl (A := A_188) Q_188 (ann := []) (spl := []) (mo := [(60, 21, 0)]) (by decide) (by decide +kernel)
set_option maxRecDepth 100000 in
theorem o_806 : okK 191 K_806 := okK_of (C := C_191) (fuel := 3000) rfl (A := A_191) Q_191 (ann := []) (spl := []) (mo := [(60, 21, 0)]) (by decide) (by decide +kernel)
def N_807 : aAnn := [(4, [(([(3, 62, 0, 0, 0, 1), (0, 0, 4, 0, 0, 2), (1, 0, 0, 0, 0, 0), (4, 0, 0, 0, 0, 0), (4, 0, 0, 0, 0, 0)], [], [(60, 18, (0, 73, 73, 0, 0, 0)), (60, 20, (0, 40, 40, 0, 0, 0)), (60, 21, (0, 22, 40, 0, 0, 0))]), (40, [(-1, 3925)]))])]
set_option maxRecDepth 100000 in
theorem o_807 : okK 190 K_807 := okK_of (C := C_190) (fuel := 3000) rfl (A := A_190) Q_190 (ann := N_807) (spl := []) (mo := [(60, 21, 0)]) (by decide) (by decide +kernel)
def N_808 : aAnn := [(4, [(([(3, 62, 0, 0, 0, 1), (0, 0, 4, 0, 0, 2), (1, 0, 0, 0, 0, 0), (4, 0, 0, 0, 0, 0), (4, 0, 0, 0, 0, 0)], [], [(60, 18, (0, 73, 73, 0, 0, 0)), (60, 20, (0, 40, 40, 0, 0, 0)), (60, 21, (0, 22, 40, 0, 0, 0))]), (40, [(-1, 3925)]))])]
set_option maxRecDepth 100000 in
theorem o_808 : okK 189 K_808 := okK_of (C := C_189) (fuel := 3000) rfl (A := A_189) Q_189 (ann := N_808) (spl := []) (mo := [(60, 21, 0)]) (by decide) (by decide +kernel)
set_option maxRecDepth 100000 in
theorem o_809 : okK 188 K_809 := okK_of (C := C_188) (fuel := 3000) rfl (A := A_188) Q_188 (ann := []) (spl := []) (mo := [(60, 21, 0)]) (by decide) (by decide +kernel)
set_option maxRecDepth 100000 in
theorem o_810 : okK 191 K_810 := okK_of (C := C_191) (fuel := 3000) rfl (A := A_191) Q_191 (ann := []) (spl := []) (mo := [(60, 21, 0)]) (by decide) (by decide +kernel)
def N_811 : aAnn := [(4, [(([(3, 62, 0, 0, 0, 1), (0, 0, 4, 0, 0, 2), (1, 0, 0, 0, 0, 0), (4, 0, 0, 0, 0, 0), (4, 0, 0, 0, 0, 0)], [], [(60, 18, (0, 73, 73, 0, 0, 0)), (60, 20, (0, 40, 40, 0, 0, 0)), (60, 21, (0, 21, 40, 0, 0, 0))]), (40, [(-1, 3925)]))])]
set_option maxRecDepth 100000 in
theorem o_811 : okK 190 K_811 := okK_of (C := C_190) (fuel := 3000) rfl (A := A_190) Q_190 (ann := N_811) (spl := []) (mo := [(60, 21, 0)]) (by decide) (by decide +kernel)
def N_812 : aAnn := [(4, [(([(3, 62, 0, 0, 0, 1), (0, 0, 4, 0, 0, 2), (1, 0, 0, 0, 0, 0), (4, 0, 0, 0, 0, 0), (4, 0, 0, 0, 0, 0)], [], [(60, 18, (0, 73, 73, 0, 0, 0)), (60, 20, (0, 40, 40, 0, 0, 0)), (60, 21, (0, 21, 40, 0, 0, 0))]), (40, [(-1, 3925)]))])]
set_option maxRecDepth 100000 in
theorem o_812 : okK 189 K_812 := okK_of (C := C_189) (fuel := 3000) rfl (A := A_189) Q_189 (ann := N_812) (spl := []) (mo := [(60, 21, 0)]) (by decide) (by decide +kernel)
set_option maxRecDepth 100000 in
theorem o_813 : okK 188 K_813 := okK_of (C := C_188) (fuel := 3000) rfl (A := A_188) Q_188 (ann := []) (spl := []) (mo := [(60, 21, 0)]) (by decide) (by decide +kernel)
set_option maxRecDepth 100000 in
theorem o_814 : okK 191 K_814 := okK_of (C := C_191) (fuel := 3000) rfl (A := A_191) Q_191 (ann := []) (spl := []) (mo := [(60, 21, 0)]) (by decide) (by decide +kernel)
def N_815 : aAnn := [(4, [(([(3, 62, 0, 0, 0, 1), (0, 0, 4, 0, 0, 2), (1, 0, 0, 0, 0, 0), (4, 0, 0, 0, 0, 0), (4, 0, 0, 0, 0, 0)], [], [(60, 18, (0, 73, 73, 0, 0, 0)), (60, 20, (0, 40, 40, 0, 0, 0)), (60, 21, (0, 20, 40, 0, 0, 0))]), (40, [(-1, 3925)]))])]
set_option maxRecDepth 100000 in
theorem o_815 : okK 190 K_815 := okK_of (C := C_190) (fuel := 3000) rfl (A := A_190) Q_190 (ann := N_815) (spl := []) (mo := [(60, 21, 0)]) (by decide) (by decide +kernel)
def N_816 : aAnn := [(4, [(([(3, 62, 0, 0, 0, 1), (0, 0, 4, 0, 0, 2), (1, 0, 0, 0, 0, 0), (4, 0, 0, 0, 0, 0), (4, 0, 0, 0, 0, 0)], [], [(60, 18, (0, 73, 73, 0, 0, 0)), (60, 20, (0, 40, 40, 0, 0, 0)), (60, 21, (0, 20, 40, 0, 0, 0))]), (40, [(-1, 3925)]))])]
set_option maxRecDepth 100000 in
theorem o_816 : okK 189 K_816 := okK_of (C := C_189) (fuel := 3000) rfl (A := A_189) Q_189 (ann := N_816) (spl := []) (mo := [(60, 21, 0)]) (by decide) (by decide +kernel)
set_option maxRecDepth 100000 in
theorem o_817 : okK 188 K_817 := okK_of (C := C_188) (fuel := 3000) rfl (A := A_188) Q_188 (ann := []) (spl := []) (mo := [(60, 21, 0)]) (by decide) (by decide +kernel)
set_option maxRecDepth 100000 in
theorem o_818 : okK 191 K_818 := okK_of (C := C_191) (fuel := 3000) rfl (A := A_191) Q_191 (ann := []) (spl := []) (mo := [(60, 21, 0)]) (by decide) (by decide +kernel)
def N_819 : aAnn := [(4, [(([(3, 62, 0, 0, 0, 1), (0, 0, 4, 0, 0, 2), (1, 0, 0, 0, 0, 0), (4, 0, 0, 0, 0, 0), (4, 0, 0, 0, 0, 0)], [], [(60, 18, (0, 73, 73, 0, 0, 0)), (60, 20, (0, 40, 40, 0, 0, 0)), (60, 21, (0, 19, 40, 0, 0, 0))]), (40, [(-1, 3925)]))])]
set_option maxRecDepth 100000 in
theorem o_819 : okK 190 K_819 := okK_of (C := C_190) (fuel := 3000) rfl (A := A_190) Q_190 (ann := N_819) (spl := []) (mo := [(60, 21, 0)]) (by decide) (by decide +kernel)
def N_820 : aAnn := [(4, [(([(3, 62, 0, 0, 0, 1), (0, 0, 4, 0, 0, 2), (1, 0, 0, 0, 0, 0), (4, 0, 0, 0, 0, 0), (4, 0, 0, 0, 0, 0)], [], [(60, 18, (0, 73, 73, 0, 0, 0)), (60, 20, (0, 40, 40, 0, 0, 0)), (60, 21, (0, 19, 40, 0, 0, 0))]), (40, [(-1, 3925)]))])]
set_option maxRecDepth 100000 in
theorem o_820 : okK 189 K_820 := okK_of (C := C_189) (fuel := 3000) rfl (A := A_189) Q_189 (ann := N_820) (spl := []) (mo := [(60, 21, 0)]) (by decide) (by decide +kernel)
set_option maxRecDepth 100000 in
theorem o_821 : okK 188 K_821 := okK_of (C := C_188) (fuel := 3000) rfl (A := A_188) Q_188 (ann := []) (spl := []) (mo := [(60, 21, 0)]) (by decide) (by decide +kernel)
set_option maxRecDepth 100000 in
theorem o_822 : okK 191 K_822 := okK_of (C := C_191) (fuel := 3000) rfl (A := A_191) Q_191 (ann := []) (spl := []) (mo := [(60, 21, 0)]) (by decide) (by decide +kernel)
def N_823 : aAnn := [(4, [(([(3, 62, 0, 0, 0, 1), (0, 0, 4, 0, 0, 2), (1, 0, 0, 0, 0, 0), (4, 0, 0, 0, 0, 0), (4, 0, 0, 0, 0, 0)], [], [(60, 18, (0, 73, 73, 0, 0, 0)), (60, 20, (0, 40, 40, 0, 0, 0)), (60, 21, (0, 18, 40, 0, 0, 0))]), (40, [(-1, 3925)]))])]
set_option maxRecDepth 100000 in
theorem o_823 : okK 190 K_823 := okK_of (C := C_190) (fuel := 3000) rfl (A := A_190) Q_190 (ann := N_823) (spl := []) (mo := [(60, 21, 0)]) (by decide) (by decide +kernel)
def N_824 : aAnn := [(4, [(([(3, 62, 0, 0, 0, 1), (0, 0, 4, 0, 0, 2), (1, 0, 0, 0, 0, 0), (4, 0, 0, 0, 0, 0), (4, 0, 0, 0, 0, 0)], [], [(60, 18, (0, 73, 73, 0, 0, 0)), (60, 20, (0, 40, 40, 0, 0, 0)), (60, 21, (0, 18, 40, 0, 0, 0))]), (40, [(-1, 3925)]))])]
set_option maxRecDepth 100000 in
theorem o_824 : okK 189 K_824 := okK_of (C := C_189) (fuel := 3000) rfl (A := A_189) Q_189 (ann := N_824) (spl := []) (mo := [(60, 21, 0)]) (by decide) (by decide +kernel)
set_option maxRecDepth 100000 in
theorem o_825 : okK 188 K_825 := okK_of (C := C_188) (fuel := 3000) rfl (A := A_188) Q_188 (ann := []) (spl := []) (mo := [(60, 21, 0)]) (by decide) (by decide +kernel)
set_option maxRecDepth 100000 in
theorem o_826 : okK 191 K_826 := okK_of (C := C_191) (fuel := 3000) rfl (A := A_191) Q_191 (ann := []) (spl := []) (mo := [(60, 21, 0)]) (by decide) (by decide +kernel)
def N_827 : aAnn := [(4, [(([(3, 62, 0, 0, 0, 1), (0, 0, 4, 0, 0, 2), (1, 0, 0, 0, 0, 0), (4, 0, 0, 0, 0, 0), (4, 0, 0, 0, 0, 0)], [], [(60, 18, (0, 73, 73, 0, 0, 0)), (60, 20, (0, 40, 40, 0, 0, 0)), (60, 21, (0, 17, 40, 0, 0, 0))]), (40, [(-1, 3925)]))])]
set_option maxRecDepth 100000 in
theorem o_827 : okK 190 K_827 := okK_of (C := C_190) (fuel := 3000) rfl (A := A_190) Q_190 (ann := N_827) (spl := []) (mo := [(60, 21, 0)]) (by decide) (by decide +kernel)
def N_828 : aAnn := [(4, [(([(3, 62, 0, 0, 0, 1), (0, 0, 4, 0, 0, 2), (1, 0, 0, 0, 0, 0), (4, 0, 0, 0, 0, 0), (4, 0, 0, 0, 0, 0)], [], [(60, 18, (0, 73, 73, 0, 0, 0)), (60, 20, (0, 40, 40, 0, 0, 0)), (60, 21, (0, 17, 40, 0, 0, 0))]), (40, [(-1, 3925)]))])]
set_option maxRecDepth 100000 in
theorem o_828 : okK 189 K_828 := okK_of (C := C_189) (fuel := 3000) rfl (A := A_189) Q_189 (ann := N_828) (spl := []) (mo := [(60, 21, 0)]) (by decide) (by decide +kernel)
set_option maxRecDepth 100000 in
theorem o_829 : okK 188 K_829 := okK_of (C := C_188) (fuel := 3000) rfl (A := A_188) Q_188 (ann := []) (spl := []) (mo := [(60, 21, 0)]) (by decide) (by decide +kernel)
set_option maxRecDepth 100000 in
theorem o_830 : okK 191 K_830 := okK_of (C := C_191) (fuel := 3000) rfl (A := A_191) Q_191 (ann := []) (spl := []) (mo := [(60, 21, 0)]) (by decide) (by decide +kernel)
def N_831 : aAnn := [(4, [(([(3, 62, 0, 0, 0, 1), (0, 0, 4, 0, 0, 2), (1, 0, 0, 0, 0, 0), (4, 0, 0, 0, 0, 0), (4, 0, 0, 0, 0, 0)], [], [(60, 18, (0, 73, 73, 0, 0, 0)), (60, 20, (0, 40, 40, 0, 0, 0)), (60, 21, (0, 16, 40, 0, 0, 0))]), (40, [(-1, 3925)]))])]
set_option maxRecDepth 100000 in
theorem o_831 : okK 190 K_831 := okK_of (C := C_190) (fuel := 3000) rfl (A := A_190) Q_190 (ann := N_831) (spl := []) (mo := [(60, 21, 0)]) (by decide) (by decide +kernel)
def N_832 : aAnn := [(4, [(([(3, 62, 0, 0, 0, 1), (0, 0, 4, 0, 0, 2), (1, 0, 0, 0, 0, 0), (4, 0, 0, 0, 0, 0), (4, 0, 0, 0, 0, 0)], [], [(60, 18, (0, 73, 73, 0, 0, 0)), (60, 20, (0, 40, 40, 0, 0, 0)), (60, 21, (0, 16, 40, 0, 0, 0))]), (40, [(-1, 3925)]))])]
set_option maxRecDepth 100000 in
theorem o_832 : okK 189 K_832 := okK_of (C := C_189) (fuel := 3000) rfl (A := A_189) Q_189 (ann := N_832) (spl := []) (mo := [(60, 21, 0)]) (by decide) (by decide +kernel)
set_option maxRecDepth 100000 in
theorem o_833 : okK 188 K_833 := okK_of (C := C_188) (fuel := 3000) rfl (A := A_188) Q_188 (ann := []) (spl := []) (mo := [(60, 21, 0)]) (by decide) (by decide +kernel)
set_option maxRecDepth 100000 in
theorem o_834 : okK 191 K_834 := okK_of (C := C_191) (fuel := 3000) rfl (A := A_191) Q_191 (ann := []) (spl := []) (mo := [(60, 21, 0)]) (by decide) (by decide +kernel)
def N_835 : aAnn := [(4, [(([(3, 62, 0, 0, 0, 1), (0, 0, 4, 0, 0, 2), (1, 0, 0, 0, 0, 0), (4, 0, 0, 0, 0, 0), (4, 0, 0, 0, 0, 0)], [], [(60, 18, (0, 73, 73, 0, 0, 0)), (60, 20, (0, 40, 40, 0, 0, 0)), (60, 21, (0, 15, 40, 0, 0, 0))]), (40, [(-1, 3925)]))])]
set_option maxRecDepth 100000 in
theorem o_835 : okK 190 K_835 := okK_of (C := C_190) (fuel := 3000) rfl (A := A_190) Q_190 (ann := N_835) (spl := []) (mo := [(60, 21, 0)]) (by decide) (by decide +kernel)
def N_836 : aAnn := [(4, [(([(3, 62, 0, 0, 0, 1), (0, 0, 4, 0, 0, 2), (1, 0, 0, 0, 0, 0), (4, 0, 0, 0, 0, 0), (4, 0, 0, 0, 0, 0)], [], [(60, 18, (0, 73, 73, 0, 0, 0)), (60, 20, (0, 40, 40, 0, 0, 0)), (60, 21, (0, 15, 40, 0, 0, 0))]), (40, [(-1, 3925)]))])]
set_option maxRecDepth 100000 in
theorem o_836 : okK 189 K_836 := okK_of (C := C_189) (fuel := 3000) rfl (A := A_189) Q_189 (ann := N_836) (spl := []) (mo := [(60, 21, 0)]) (by decide) (by decide +kernel)
set_option maxRecDepth 100000 in
theorem o_837 : okK 188 K_837 := okK_of (C := C_188) (fuel := 3000) rfl (A := A_188) Q_188 (ann := []) (spl := []) (mo := [(60, 21, 0)]) (by decide) (by decide +kernel)
set_option maxRecDepth 100000 in
theorem o_838 : okK 191 K_838 := okK_of (C := C_191) (fuel := 3000) rfl (A := A_191) Q_191 (ann := []) (spl := []) (mo := [(60, 21, 0)]) (by decide) (by decide +kernel)
def N_839 : aAnn := [(4, [(([(3, 62, 0, 0, 0, 1), (0, 0, 4, 0, 0, 2), (1, 0, 0, 0, 0, 0), (4, 0, 0, 0, 0, 0), (4, 0, 0, 0, 0, 0)], [], [(60, 18, (0, 73, 73, 0, 0, 0)), (60, 20, (0, 40, 40, 0, 0, 0)), (60, 21, (0, 14, 40, 0, 0, 0))]), (40, [(-1, 3925)]))])]
set_option maxRecDepth 100000 in
theorem o_839 : okK 190 K_839 := okK_of (C := C_190) (fuel := 3000) rfl (A := A_190) Q_190 (ann := N_839) (spl := []) (mo := [(60, 21, 0)]) (by decide) (by decide +kernel)
def N_840 : aAnn := [(4, [(([(3, 62, 0, 0, 0, 1), (0, 0, 4, 0, 0, 2), (1, 0, 0, 0, 0, 0), (4, 0, 0, 0, 0, 0), (4, 0, 0, 0, 0, 0)], [], [(60, 18, (0, 73, 73, 0, 0, 0)), (60, 20, (0, 40, 40, 0, 0, 0)), (60, 21, (0, 14, 40, 0, 0, 0))]), (40, [(-1, 3925)]))])]
set_option maxRecDepth 100000 in
theorem o_840 : okK 189 K_840 := okK_of (C := C_189) (fuel := 3000) rfl (A := A_189) Q_189 (ann := N_840) (spl := []) (mo := [(60, 21, 0)]) (by decide) (by decide +kernel)
set_option maxRecDepth 100000 in
theorem o_841 : okK 188 K_841 := okK_of (C := C_188) (fuel := 3000) rfl (A := A_188) Q_188 (ann := []) (spl := []) (mo := [(60, 21, 0)]) (by decide) (by decide +kernel)
set_option maxRecDepth 100000 in
theorem o_842 : okK 191 K_842 := okK_of (C := C_191) (fuel := 3000) rfl (A := A_191) Q_191 (ann := []) (spl := []) (mo := [(60, 21, 0)]) (by decide) (by decide +kernel)
def N_843 : aAnn := [(4, [(([(3, 62, 0, 0, 0, 1), (0, 0, 4, 0, 0, 2), (1, 0, 0, 0, 0, 0), (4, 0, 0, 0, 0, 0), (4, 0, 0, 0, 0, 0)], [], [(60, 18, (0, 73, 73, 0, 0, 0)), (60, 20, (0, 40, 40, 0, 0, 0)), (60, 21, (0, 13, 40, 0, 0, 0))]), (40, [(-1, 3925)]))])]
set_option maxRecDepth 100000 in
theorem o_843 : okK 190 K_843 := okK_of (C := C_190) (fuel := 3000) rfl (A := A_190) Q_190 (ann := N_843) (spl := []) (mo := [(60, 21, 0)]) (by decide) (by decide +kernel)
def N_844 : aAnn := [(4, [(([(3, 62, 0, 0, 0, 1), (0, 0, 4, 0, 0, 2), (1, 0, 0, 0, 0, 0), (4, 0, 0, 0, 0, 0), (4, 0, 0, 0, 0, 0)], [], [(60, 18, (0, 73, 73, 0, 0, 0)), (60, 20, (0, 40, 40, 0, 0, 0)), (60, 21, (0, 13, 40, 0, 0, 0))]), (40, [(-1, 3925)]))])]
set_option maxRecDepth 100000 in
theorem o_844 : okK 189 K_844 := okK_of (C := C_189) (fuel := 3000) rfl (A := A_189) Q_189 (ann := N_844) (spl := []) (mo := [(60, 21, 0)]) (by decide) (by decide +kernel)
set_option maxRecDepth 100000 in
theorem o_845 : okK 188 K_845 := okK_of (C := C_188) (fuel := 3000) rfl (A := A_188) Q_188 (ann := []) (spl := []) (mo := [(60, 21, 0)]) (by decide) (by decide +kernel)
set_option maxRecDepth 100000 in
theorem o_846 : okK 191 K_846 := okK_of (C := C_191) (fuel := 3000) rfl (A := A_191) Q_191 (ann := []) (spl := []) (mo := [(60, 21, 0)]) (by decide) (by decide +kernel)
def N_847 : aAnn := [(4, [(([(3, 62, 0, 0, 0, 1), (0, 0, 4, 0, 0, 2), (1, 0, 0, 0, 0, 0), (4, 0, 0, 0, 0, 0), (4, 0, 0, 0, 0, 0)], [], [(60, 18, (0, 73, 73, 0, 0, 0)), (60, 20, (0, 40, 40, 0, 0, 0)), (60, 21, (0, 12, 40, 0, 0, 0))]), (40, [(-1, 3925)]))])]
set_option maxRecDepth 100000 in
theorem o_847 : okK 190 K_847 := okK_of (C := C_190) (fuel := 3000) rfl (A := A_190) Q_190 (ann := N_847) (spl := []) (mo := [(60, 21, 0)]) (by decide) (by decide +kernel)
def N_848 : aAnn := [(4, [(([(3, 62, 0, 0, 0, 1), (0, 0, 4, 0, 0, 2), (1, 0, 0, 0, 0, 0), (4, 0, 0, 0, 0, 0), (4, 0, 0, 0, 0, 0)], [], [(60, 18, (0, 73, 73, 0, 0, 0)), (60, 20, (0, 40, 40, 0, 0, 0)), (60, 21, (0, 12, 40, 0, 0, 0))]), (40, [(-1, 3925)]))])]
set_option maxRecDepth 100000 in
theorem o_848 : okK 189 K_848 := okK_of (C := C_189) (fuel := 3000) rfl (A := A_189) Q_189 (ann := N_848) (spl := []) (mo := [(60, 21, 0)]) (by decide) (by decide +kernel)
set_option maxRecDepth 100000 in
theorem o_849 : okK 188 K_849 := okK_of (C := C_188) (fuel := 3000) rfl (A := A_188) Q_188 (ann := []) (spl := []) (mo := [(60, 21, 0)]) (by decide) (by decide +kernel)
set_option maxRecDepth 100000 in
theorem o_850 : okK 191 K_850 := okK_of (C := C_191) (fuel := 3000) rfl (A := A_191) Q_191 (ann := []) (spl := []) (mo := [(60, 21, 0)]) (by decide) (by decide +kernel)
def N_851 : aAnn := [(4, [(([(3, 62, 0, 0, 0, 1), (0, 0, 4, 0, 0, 2), (1, 0, 0, 0, 0, 0), (4, 0, 0, 0, 0, 0), (4, 0, 0, 0, 0, 0)], [], [(60, 18, (0, 73, 73, 0, 0, 0)), (60, 20, (0, 40, 40, 0, 0, 0)), (60, 21, (0, 11, 40, 0, 0, 0))]), (40, [(-1, 3925)]))])]
set_option maxRecDepth 100000 in
theorem o_851 : okK 190 K_851 := okK_of (C := C_190) (fuel := 3000) rfl (A := A_190) Q_190 (ann := N_851) (spl := []) (mo := [(60, 21, 0)]) (by decide) (by decide +kernel)
def N_852 : aAnn := [(4, [(([(3, 62, 0, 0, 0, 1), (0, 0, 4, 0, 0, 2), (1, 0, 0, 0, 0, 0), (4, 0, 0, 0, 0, 0), (4, 0, 0, 0, 0, 0)], [], [(60, 18, (0, 73, 73, 0, 0, 0)), (60, 20, (0, 40, 40, 0, 0, 0)), (60, 21, (0, 11, 40, 0, 0, 0))]), (40, [(-1, 3925)]))])]
set_option maxRecDepth 100000 in
theorem o_852 : okK 189 K_852 := okK_of (C := C_189) (fuel := 3000) rfl (A := A_189) Q_189 (ann := N_852) (spl := []) (mo := [(60, 21, 0)]) (by decide) (by decide +kernel)
set_option maxRecDepth 100000 in
theorem o_853 : okK 188 K_853 := okK_of (C := C_188) (fuel := 3000) rfl (A := A_188) Q_188 (ann := []) (spl := []) (mo := [(60, 21, 0)]) (by decide) (by decide +kernel)
set_option maxRecDepth 100000 in
theorem o_854 : okK 191 K_854 := okK_of (C := C_191) (fuel := 3000) rfl (A := A_191) Q_191 (ann := []) (spl := []) (mo := [(60, 21, 0)]) (by decide) (by decide +kernel)
def N_855 : aAnn := [(4, [(([(3, 62, 0, 0, 0, 1), (0, 0, 4, 0, 0, 2), (1, 0, 0, 0, 0, 0), (4, 0, 0, 0, 0, 0), (4, 0, 0, 0, 0, 0)], [], [(60, 18, (0, 73, 73, 0, 0, 0)), (60, 20, (0, 40, 40, 0, 0, 0)), (60, 21, (0, 10, 40, 0, 0, 0))]), (40, [(-1, 3925)]))])]
set_option maxRecDepth 100000 in
theorem o_855 : okK 190 K_855 := okK_of (C := C_190) (fuel := 3000) rfl (A := A_190) Q_190 (ann := N_855) (spl := []) (mo := [(60, 21, 0)]) (by decide) (by decide +kernel)
def N_856 : aAnn := [(4, [(([(3, 62, 0, 0, 0, 1), (0, 0, 4, 0, 0, 2), (1, 0, 0, 0, 0, 0), (4, 0, 0, 0, 0, 0), (4, 0, 0, 0, 0, 0)], [], [(60, 18, (0, 73, 73, 0, 0, 0)), (60, 20, (0, 40, 40, 0, 0, 0)), (60, 21, (0, 10, 40, 0, 0, 0))]), (40, [(-1, 3925)]))])]
set_option maxRecDepth 100000 in
theorem o_856 : okK 189 K_856 := okK_of (C := C_189) (fuel := 3000) rfl (A := A_189) Q_189 (ann := N_856) (spl := []) (mo := [(60, 21, 0)]) (by decide) (by decide +kernel)
set_option maxRecDepth 100000 in
theorem o_857 : okK 188 K_857 := okK_of (C := C_188) (fuel := 3000) rfl (A := A_188) Q_188 (ann := []) (spl := []) (mo := [(60, 21, 0)]) (by decide) (by decide +kernel)
set_option maxRecDepth 100000 in
theorem o_858 : okK 191 K_858 := okK_of (C := C_191) (fuel := 3000) rfl (A := A_191) Q_191 (ann := []) (spl := []) (mo := [(60, 21, 0)]) (by decide) (by decide +kernel)
def N_859 : aAnn := [(4, [(([(3, 62, 0, 0, 0, 1), (0, 0, 4, 0, 0, 2), (1, 0, 0, 0, 0, 0), (4, 0, 0, 0, 0, 0), (4, 0, 0, 0, 0, 0)], [], [(60, 18, (0, 73, 73, 0, 0, 0)), (60, 20, (0, 40, 40, 0, 0, 0)), (60, 21, (0, 9, 40, 0, 0, 0))]), (40, [(-1, 3925)]))])]
set_option maxRecDepth 100000 in
theorem o_859 : okK 190 K_859 := okK_of (C := C_190) (fuel := 3000) rfl (A := A_190) Q_190 (ann := N_859) (spl := []) (mo := [(60, 21, 0)]) (by decide) (by decide +kernel)
def N_860 : aAnn := [(4, [(([(3, 62, 0, 0, 0, 1), (0, 0, 4, 0, 0, 2), (1, 0, 0, 0, 0, 0), (4, 0, 0, 0, 0, 0), (4, 0, 0, 0, 0, 0)], [], [(60, 18, (0, 73, 73, 0, 0, 0)), (60, 20, (0, 40, 40, 0, 0, 0)), (60, 21, (0, 9, 40, 0, 0, 0))]), (40, [(-1, 3925)]))])]
set_option maxRecDepth 100000 in
theorem o_860 : okK 189 K_860 := okK_of (C := C_189) (fuel := 3000) rfl (A := A_189) Q_189 (ann := N_860) (spl := []) (mo := [(60, 21, 0)]) (by decide) (by decide +kernel)
set_option maxRecDepth 100000 in
theorem o_861 : okK 188 K_861 := okK_of (C := C_188) (fuel := 3000) rfl (A := A_188) Q_188 (ann := []) (spl := []) (mo := [(60, 21, 0)]) (by decide) (by decide +kernel)
set_option maxRecDepth 100000 in
theorem o_862 : okK 191 K_862 := okK_of (C := C_191) (fuel := 3000) rfl (A := A_191) Q_191 (ann := []) (spl := []) (mo := [(60, 21, 0)]) (by decide) (by decide +kernel)
def N_863 : aAnn := [(4, [(([(3, 62, 0, 0, 0, 1), (0, 0, 4, 0, 0, 2), (1, 0, 0, 0, 0, 0), (4, 0, 0, 0, 0, 0), (4, 0, 0, 0, 0, 0)], [], [(60, 18, (0, 73, 73, 0, 0, 0)), (60, 20, (0, 40, 40, 0, 0, 0)), (60, 21, (0, 8, 40, 0, 0, 0))]), (40, [(-1, 3925)]))])]
set_option maxRecDepth 100000 in
theorem o_863 : okK 190 K_863 := okK_of (C := C_190) (fuel := 3000) rfl (A := A_190) Q_190 (ann := N_863) (spl := []) (mo := [(60, 21, 0)]) (by decide) (by decide +kernel)
def N_864 : aAnn := [(4, [(([(3, 62, 0, 0, 0, 1), (0, 0, 4, 0, 0, 2), (1, 0, 0, 0, 0, 0), (4, 0, 0, 0, 0, 0), (4, 0, 0, 0, 0, 0)], [], [(60, 18, (0, 73, 73, 0, 0, 0)), (60, 20, (0, 40, 40, 0, 0, 0)), (60, 21, (0, 8, 40, 0, 0, 0))]), (40, [(-1, 3925)]))])]
set_option maxRecDepth 100000 in
theorem o_864 : okK 189 K_864 := okK_of (C := C_189) (fuel := 3000) rfl (A := A_189) Q_189 (ann := N_864) (spl := []) (mo := [(60, 21, 0)]) (by decide) (by decide +kernel)
set_option maxRecDepth 100000 in
theorem o_865 : okK 188 K_865 := okK_of (C := C_188) (fuel := 3000) rfl (A := A_188) Q_188 (ann := []) (spl := []) (mo := [(60, 21, 0)]) (by decide) (by decide +kernel)
set_option maxRecDepth 100000 in
theorem o_866 : okK 191 K_866 := okK_of (C := C_191) (fuel := 3000) rfl (A := A_191) Q_191 (ann := []) (spl := []) (mo := [(60, 21, 0)]) (by decide) (by decide +kernel)
def N_867 : aAnn := [(4, [(([(3, 62, 0, 0, 0, 1), (0, 0, 4, 0, 0, 2), (1, 0, 0, 0, 0, 0), (4, 0, 0, 0, 0, 0), (4, 0, 0, 0, 0, 0)], [], [(60, 18, (0, 73, 73, 0, 0, 0)), (60, 20, (0, 40, 40, 0, 0, 0)), (60, 21, (0, 7, 40, 0, 0, 0))]), (40, [(-1, 3925)]))])]
set_option maxRecDepth 100000 in
theorem o_867 : okK 190 K_867 := okK_of (C := C_190) (fuel := 3000) rfl (A := A_190) Q_190 (ann := N_867) (spl := []) (mo := [(60, 21, 0)]) (by decide) (by decide +kernel)
def N_868 : aAnn := [(4, [(([(3, 62, 0, 0, 0, 1), (0, 0, 4, 0, 0, 2), (1, 0, 0, 0, 0, 0), (4, 0, 0, 0, 0, 0), (4, 0, 0, 0, 0, 0)], [], [(60, 18, (0, 73, 73, 0, 0, 0)), (60, 20, (0, 40, 40, 0, 0, 0)), (60, 21, (0, 7, 40, 0, 0, 0))]), (40, [(-1, 3925)]))])]
set_option maxRecDepth 100000 in
theorem o_868 : okK 189 K_868 := okK_of (C := C_189) (fuel := 3000) rfl (A := A_189) Q_189 (ann := N_868) (spl := []) (mo := [(60, 21, 0)]) (by decide) (by decide +kernel)
set_option maxRecDepth 100000 in
theorem o_869 : okK 188 K_869 := okK_of (C := C_188) (fuel := 3000) rfl (A := A_188) Q_188 (ann := []) (spl := []) (mo := [(60, 21, 0)]) (by decide) (by decide +kernel)
set_option maxRecDepth 100000 in
theorem o_870 : okK 191 K_870 := okK_of (C := C_191) (fuel := 3000) rfl (A := A_191) Q_191 (ann := []) (spl := []) (mo := [(60, 21, 0)]) (by decide) (by decide +kernel)
def N_871 : aAnn := [(4, [(([(3, 62, 0, 0, 0, 1), (0, 0, 4, 0, 0, 2), (1, 0, 0, 0, 0, 0), (4, 0, 0, 0, 0, 0), (4, 0, 0, 0, 0, 0)], [], [(60, 18, (0, 73, 73, 0, 0, 0)), (60, 20, (0, 40, 40, 0, 0, 0)), (60, 21, (0, 6, 40, 0, 0, 0))]), (40, [(-1, 3925)]))])]
set_option maxRecDepth 100000 in
theorem o_871 : okK 190 K_871 := okK_of (C := C_190) (fuel := 3000) rfl (A := A_190) Q_190 (ann := N_871) (spl := []) (mo := [(60, 21, 0)]) (by decide) (by decide +kernel)
def N_872 : aAnn := [(4, [(([(3, 62, 0, 0, 0, 1), (0, 0, 4, 0, 0, 2), (1, 0, 0, 0, 0, 0), (4, 0, 0, 0, 0, 0), (4, 0, 0, 0, 0, 0)], [], [(60, 18, (0, 73, 73, 0, 0, 0)), (60, 20, (0, 40, 40, 0, 0, 0)), (60, 21, (0, 6, 40, 0, 0, 0))]), (40, [(-1, 3925)]))])]
set_option maxRecDepth 100000 in
theorem o_872 : okK 189 K_872 := okK_of (C := C_189) (fuel := 3000) rfl (A := A_189) Q_189 (ann := N_872) (spl := []) (mo := [(60, 21, 0)]) (by decide) (by decide +kernel)
set_option maxRecDepth 100000 in
theorem o_873 : okK 188 K_873 := okK_of (C := C_188) (fuel := 3000) rfl (A := A_188) Q_188 (ann := []) (spl := []) (mo := [(60, 21, 0)]) (by decide) (by decide +kernel)
set_option maxRecDepth 100000 in
theorem o_874 : okK 191 K_874 := okK_of (C := C_191) (fuel := 3000) rfl (A := A_191) Q_191 (ann := []) (spl := []) (mo := [(60, 21, 0)]) (by decide) (by decide +kernel)
def N_875 : aAnn := [(4, [(([(3, 62, 0, 0, 0, 1), (0, 0, 4, 0, 0, 2), (1, 0, 0, 0, 0, 0), (4, 0, 0, 0, 0, 0), (4, 0, 0, 0, 0, 0)], [], [(60, 18, (0, 73, 73, 0, 0, 0)), (60, 20, (0, 40, 40, 0, 0, 0)), (60, 21, (0, 5, 40, 0, 0, 0))]), (40, [(-1, 3925)]))])]
set_option maxRecDepth 100000 in
theorem o_875 : okK 190 K_875 := okK_of (C := C_190) (fuel := 3000) rfl (A := A_190) Q_190 (ann := N_875) (spl := []) (mo := [(60, 21, 0)]) (by decide) (by decide +kernel)
def N_876 : aAnn := [(4, [(([(3, 62, 0, 0, 0, 1), (0, 0, 4, 0, 0, 2), (1, 0, 0, 0, 0, 0), (4, 0, 0, 0, 0, 0), (4, 0, 0, 0, 0, 0)], [], [(60, 18, (0, 73, 73, 0, 0, 0)), (60, 20, (0, 40, 40, 0, 0, 0)), (60, 21, (0, 5, 40, 0, 0, 0))]), (40, [(-1, 3925)]))])]
set_option maxRecDepth 100000 in
theorem o_876 : okK 189 K_876 := okK_of (C := C_189) (fuel := 3000) rfl (A := A_189) Q_189 (ann := N_876) (spl := []) (mo := [(60, 21, 0)]) (by decide) (by decide +kernel)
set_option maxRecDepth 100000 in
theorem o_877 : okK 188 K_877 := okK_of (C := C_188) (fuel := 3000) rfl (A := A_188) Q_188 (ann := []) (spl := []) (mo := [(60, 21, 0)]) (by decide) (by decide +kernel)
set_option maxRecDepth 100000 in
theorem o_878 : okK 191 K_878 := okK_of (C := C_191) (fuel := 3000) rfl (A := A_191) Q_191 (ann := []) (spl := []) (mo := [(60, 21, 0)]) (by decide) (by decide +kernel)
def N_879 : aAnn := [(4, [(([(3, 62, 0, 0, 0, 1), (0, 0, 4, 0, 0, 2), (1, 0, 0, 0, 0, 0), (4, 0, 0, 0, 0, 0), (4, 0, 0, 0, 0, 0)], [], [(60, 18, (0, 73, 73, 0, 0, 0)), (60, 20, (0, 40, 40, 0, 0, 0)), (60, 21, (0, 4, 40, 0, 0, 0))]), (40, [(-1, 3925)]))])]
set_option maxRecDepth 100000 in
theorem o_879 : okK 190 K_879 := okK_of (C := C_190) (fuel := 3000) rfl (A := A_190) Q_190 (ann := N_879) (spl := []) (mo := [(60, 21, 0)]) (by decide) (by decide +kernel)
def N_880 : aAnn := [(4, [(([(3, 62, 0, 0, 0, 1), (0, 0, 4, 0, 0, 2), (1, 0, 0, 0, 0, 0), (4, 0, 0, 0, 0, 0), (4, 0, 0, 0, 0, 0)], [], [(60, 18, (0, 73, 73, 0, 0, 0)), (60, 20, (0, 40, 40, 0, 0, 0)), (60, 21, (0, 4, 40, 0, 0, 0))]), (40, [(-1, 3925)]))])]
set_option maxRecDepth 100000 in
theorem o_880 : okK 189 K_880 := okK_of (C := C_189) (fuel := 3000) rfl (A := A_189) Q_189 (ann := N_880) (spl := []) (mo := [(60, 21, 0)]) (by decide) (by decide +kernel)
set_option maxRecDepth 100000 in
theorem o_881 : okK 188 K_881 := okK_of (C := C_188) (fuel := 3000) rfl (A := A_188) Q_188 (ann := []) (spl := []) (mo := [(60, 21, 0)]) (by decide) (by decide +kernel)
set_option maxRecDepth 100000 in
theorem o_882 : okK 191 K_882 := okK_of (C := C_191) (fuel := 3000) rfl (A := A_191) Q_191 (ann := []) (spl := []) (mo := [(60, 21, 0)]) (by decide) (by decide +kernel)
def N_883 : aAnn := [(4, [(([(3, 62, 0, 0, 0, 1), (0, 0, 4, 0, 0, 2), (1, 0, 0, 0, 0, 0), (4, 0, 0, 0, 0, 0), (4, 0, 0, 0, 0, 0)], [], [(60, 18, (0, 73, 73, 0, 0, 0)), (60, 20, (0, 40, 40, 0, 0, 0)), (60, 21, (0, 3, 40, 0, 0, 0))]), (40, [(-1, 3925)]))])]
set_option maxRecDepth 100000 in
theorem o_883 : okK 190 K_883 := okK_of (C := C_190) (fuel := 3000) rfl (A := A_190) Q_190 (ann := N_883) (spl := []) (mo := [(60, 21, 0)]) (by decide) (by decide +kernel)
def N_884 : aAnn := [(4, [(([(3, 62, 0, 0, 0, 1), (0, 0, 4, 0, 0, 2), (1, 0, 0, 0, 0, 0), (4, 0, 0, 0, 0, 0), (4, 0, 0, 0, 0, 0)], [], [(60, 18, (0, 73, 73, 0, 0, 0)), (60, 20, (0, 40, 40, 0, 0, 0)), (60, 21, (0, 3, 40, 0, 0, 0))]), (40, [(-1, 3925)]))])]
set_option maxRecDepth 100000 in
theorem o_884 : okK 189 K_884 := okK_of (C := C_189) (fuel := 3000) rfl (A := A_189) Q_189 (ann := N_884) (spl := []) (mo := [(60, 21, 0)]) (by decide) (by decide +kernel)
set_option maxRecDepth 100000 in
theorem o_885 : okK 188 K_885 := okK_of (C := C_188) (fuel := 3000) rfl (A := A_188) Q_188 (ann := []) (spl := []) (mo := [(60, 21, 0)]) (by decide) (by decide +kernel)
set_option maxRecDepth 100000 in
theorem o_886 : okK 191 K_886 := okK_of (C := C_191) (fuel := 3000) rfl (A := A_191) Q_191 (ann := []) (spl := []) (mo := [(60, 21, 0)]) (by decide) (by decide +kernel)
def N_887 : aAnn := [(4, [(([(3, 62, 0, 0, 0, 1), (0, 0, 4, 0, 0, 2), (1, 0, 0, 0, 0, 0), (4, 0, 0, 0, 0, 0), (4, 0, 0, 0, 0, 0)], [], [(60, 18, (0, 73, 73, 0, 0, 0)), (60, 20, (0, 40, 40, 0, 0, 0)), (60, 21, (0, 2, 40, 0, 0, 0))]), (40, [(-1, 3925)]))])]
set_option maxRecDepth 100000 in
theorem o_887 : okK 190 K_887 := okK_of (C := C_190) (fuel := 3000) rfl (A := A_190) Q_190 (ann := N_887) (spl := []) (mo := [(60, 21, 0)]) (by decide) (by decide +kernel)
def N_888 : aAnn := [(4, [(([(3, 62, 0, 0, 0, 1), (0, 0, 4, 0, 0, 2), (1, 0, 0, 0, 0, 0), (4, 0, 0, 0, 0, 0), (4, 0, 0, 0, 0, 0)], [], [(60, 18, (0, 73, 73, 0, 0, 0)), (60, 20, (0, 40, 40, 0, 0, 0)), (60, 21, (0, 2, 40, 0, 0, 0))]), (40, [(-1, 3925)]))])]
set_option maxRecDepth 100000 in
theorem o_888 : okK 189 K_888 := okK_of (C := C_189) (fuel := 3000) rfl (A := A_189) Q_189 (ann := N_888) (spl := []) (mo := [(60, 21, 0)]) (by decide) (by decide +kernel)
set_option maxRecDepth 100000 in
theorem o_889 : okK 188 K_889 := okK_of (C := C_188) (fuel := 3000) rfl (A := A_188) Q_188 (ann := []) (spl := []) (mo := [(60, 21, 0)]) (by decide) (by decide +kernel)
set_option maxRecDepth 100000 in
theorem o_890 : okK 191 K_890 := okK_of (C := C_191) (fuel := 3000) rfl (A := A_191) Q_191 (ann := []) (spl := []) (mo := [(60, 21, 0)]) (by decide) (by decide +kernel)
def N_891 : aAnn := [(4, [(([(3, 62, 0, 0, 0, 1), (0, 0, 4, 0, 0, 2), (1, 0, 0, 0, 0, 0), (4, 0, 0, 0, 0, 0), (4, 0, 0, 0, 0, 0)], [], [(60, 18, (0, 73, 73, 0, 0, 0)), (60, 20, (0, 40, 40, 0, 0, 0)), (60, 21, (0, 1, 40, 0, 0, 0))]), (40, [(-1, 3925)]))])]
set_option maxRecDepth 100000 in
theorem o_891 : okK 190 K_891 := okK_of (C := C_190) (fuel := 3000) rfl (A := A_190) Q_190 (ann := N_891) (spl := []) (mo := [(60, 21, 0)]) (by decide) (by decide +kernel)
def N_892 : aAnn := [(4, [(([(3, 62, 0, 0, 0, 1), (0, 0, 4, 0, 0, 2), (1, 0, 0, 0, 0, 0), (4, 0, 0, 0, 0, 0), (4, 0, 0, 0, 0, 0)], [], [(60, 18, (0, 73, 73, 0, 0, 0)), (60, 20, (0, 40, 40, 0, 0, 0)), (60, 21, (0, 1, 40, 0, 0, 0))]), (40, [(-1, 3925)]))])]
set_option maxRecDepth 100000 in
theorem o_892 : okK 189 K_892 := okK_of (C := C_189) (fuel := 3000) rfl (A := A_189) Q_189 (ann := N_892) (spl := []) (mo := [(60, 21, 0)]) (by decide) (by decide +kernel)
set_option maxRecDepth 100000 in
theorem o_893 : okK 188 K_893 := okK_of (C := C_188) (fuel := 3000) rfl (A := A_188) Q_188 (ann := []) (spl := []) (mo := [(60, 21, 0)]) (by decide) (by decide +kernel)
set_option maxRecDepth 100000 in
theorem o_894 : okK 191 K_894 := okK_of (C := C_191) (fuel := 3000) rfl (A := A_191) Q_191 (ann := []) (spl := []) (mo := [(60, 21, 0)]) (by decide) (by decide +kernel)
def N_895 : aAnn := [(4, [(([(3, 62, 0, 0, 0, 1), (0, 0, 4, 0, 0, 2), (1, 0, 0, 0, 0, 0), (4, 0, 0, 0, 0, 0), (4, 0, 0, 0, 0, 0)], [], [(60, 18, (0, 73, 73, 0, 0, 0)), (60, 20, (0, 40, 40, 0, 0, 0)), (60, 21, (0, 0, 40, 0, 0, 0))]), (40, [(-1, 3925)]))])]
set_option maxRecDepth 100000 in
theorem o_895 : okK 190 K_895 := okK_of (C := C_190) (fuel := 3000) rfl (A := A_190) Q_190 (ann := N_895) (spl := []) (mo := [(60, 21, 0)]) (by decide) (by decide +kernel)
def N_896 : aAnn := [(4, [(([(3, 62, 0, 0, 0, 1), (0, 0, 4, 0, 0, 2), (1, 0, 0, 0, 0, 0), (4, 0, 0, 0, 0, 0), (4, 0, 0, 0, 0, 0)], [], [(60, 18, (0, 73, 73, 0, 0, 0)), (60, 20, (0, 40, 40, 0, 0, 0)), (60, 21, (0, 0, 40, 0, 0, 0))]), (40, [(-1, 3925)]))])]
set_option maxRecDepth 100000 in
theorem o_896 : okK 189 K_896 := okK_of (C := C_189) (fuel := 3000) rfl (A := A_189) Q_189 (ann := N_896) (spl := []) (mo := [(60, 21, 0)]) (by decide) (by decide +kernel)
set_option maxRecDepth 100000 in
theorem o_897 : okK 188 K_897 := okK_of (C := C_188) (fuel := 3000) rfl (A := A_188) Q_188 (ann := []) (spl := []) (mo := [(60, 21, 0)]) (by decide) (by decide +kernel)
set_option maxRecDepth 100000 in
theorem o_898 : okK 194 K_898 := okK_of (C := C_194) (fuel := 3000) rfl (A := A_194) Q_194 (ann := []) (spl := []) (mo := []) (by decide) (by decide +kernel)
set_option maxRecDepth 100000 in
theorem o_899 : okK 201 K_899 := okK_of (C := C_201) (fuel := 3000) rfl (A := A_201) Q_201 (ann := []) (spl := []) (mo := []) (by decide) (by decide +kernel)
set_option maxRecDepth 100000 in
theorem o_900 : okK 169 K_900 := okK_of (C := C_169) (fuel := 3000) rfl (A := A_169) Q_169 (ann := []) (spl := []) (mo := []) (by decide) (by decide +kernel)
set_option maxRecDepth 100000 in
theorem o_901 : okK 202 K_901 := okK_of (C := C_202) (fuel := 3000) rfl (A := A_202) Q_202 (ann := []) (spl := []) (mo := []) (by decide) (by decide +kernel)
set_option maxRecDepth 100000 in
theorem o_902 : okK 203 K_902 := okK_of (C := C_203) (fuel := 3000) rfl (A := A_203) Q_203 (ann := []) (spl := []) (mo := []) (by decide) (by decide +kernel)
set_option maxRecDepth 100000 in
theorem o_903 : okK 169 K_903 := okK_of (C := C_169) (fuel := 3000) rfl (A := A_169) Q_169 (ann := []) (spl := []) (mo := []) (by decide) (by decide +kernel)
set_option maxRecDepth 100000 in
theorem o_904 : okK 204 K_904 := okK_of (C := C_204) (fuel := 3000) rfl (A := A_204) Q_204 (ann := []) (spl := []) (mo := []) (by decide) (by decide +kernel)
set_option maxRecDepth 100000 in
theorem o_905 : okK 169 K_905 := okK_of (C := C_169) (fuel := 3000) rfl (A := A_169) Q_169 (ann := []) (spl := []) (mo := []) (by decide) (by decide +kernel)
set_option maxRecDepth 100000 in
theorem o_906 : okK 205 K_906 := okK_of (C := C_205) (fuel := 3000) rfl (A := A_205) Q_205 (ann := []) (spl := []) (mo := []) (by decide) (by decide +kernel)
def N_907 : aAnn := [(26, [(([(3, 62, 0, 0, 0, 1), (0, 0, 3, 0, 0, 2), (0, -2147483648, 10, 0, 0, 3), (0, -2147483648, 2147483647, 0, 0, 4), (0, -2147483648, 2147483647, 0, 0, 5), (1, 0, 0, 0, 0, 0), (1, 0, 0, 0, 0, 0), (0, 0, 10, 0, 0, 0), (4, 0, 0, 0, 0, 0)], [], [(60, 17, (0, 0, 0, 0, 0, 0))]), (10, [(-1, 8)]))])]
set_option maxRecDepth 100000 in
theorem o_907 : okK 206 K_907 := okK_of (C := C_206) (fuel := 3000) rfl (A := A_206) Q_206 (ann := N_907) (spl := []) (mo := []) (by decide) (by decide +kernel)
def N_908 : aAnn := [(2, [(([(3, 62, 0, 0, 0, 1), (0, 0, 5, 0, 0, 2), (0, 0, 9, 0, 0, 3), (0, 0, 6, 0, 0, 0), aRef 0, aRef 0], [], []), (405, [(-1, 4)]))]), (20, [(([(3, 62, 0, 0, 0, 1), (0, 0, 5, 0, 0, 2), (0, 0, 9, 0, 0, 3), (0, 0, 6, 0, 0, 0), (4, 0, 0, 0, 0, 0), (4, 0, 0, 0, 0, 0)], [], []), (398, [(-57, 4)]))]), (26, [(([(3, 62, 0, 0, 0, 1), (0, 0, 5, 0, 0, 2), (0, 0, 9, 0, 0, 3), (0, 0, 5, 0, 0, 0), (0, 0, 6, 0, 0, 0), (4, 0, 0, 0, 0, 0)], [], [(60, 0, (0, 1, 6, 0, 0, 0))]), (397, [(-57, 4), (-8, 5)]))]), (32, [(([(3, 62, 0, 0, 0, 1), (0, 0, 5, 0, 0, 2), (0, 0, 9, 0, 0, 3), (0, 0, 5, 0, 0, 0), (0, 0, 5, 0, 0, 0), (0, 0, 6, 0, 0, 0)], [], [(60, 0, (0, 1, 6, 0, 0, 0))]), (396, [(-57, 4), (-8, 5), (-1, 6)]))])]
set_option maxRecDepth 100000 in
theorem o_908 : okK 207 K_908 := okK_of (C := C_207) (fuel := 3000) rfl (A := A_207) Q_207 (ann := N_908) (spl := []) (mo := []) (by decide) (by decide +kernel)
set_option maxRecDepth 100000 in
theorem o_909 : okK 208 K_909 := okK_of (C := C_208) (fuel := 3000) rfl (A := A_208) Q_208 (ann := []) (spl := []) (mo := []) (by decide) (by decide +kernel)
set_option maxRecDepth 100000 in
theorem o_910 : okK 213 K_910 := okK_of (C := C_213) (fuel := 3000) rfl (A := A_213) Q_213 (ann := []) (spl := []) (mo := []) (by decide) (by decide +kernel)
set_option maxRecDepth 100000 in
theorem o_911 : okK 215 K_911 := okK_of (C := C_215) (fuel := 3000) rfl (A := A_215) Q_215 (ann := []) (spl := [(0, [(3937, 0), (3937, 1), (3937, 2), (3937, 3), (3937, 4), (3937, 5), (3937, 6), (3937, 7), (3937, 8), (3937, 9), (3937, 10), (3937, 11), (3937, 12), (3937, 13), (3937, 14), (3937, 15), (3937, 16), (3937, 17), (3937, 18), (3937, 19)])]) (mo := []) (by decide) (by decide +kernel)
set_option maxRecDepth 100000 in
theorem o_912 : okK 214 K_912 := okK_of (C := C_214) (fuel := 3000) rfl (A := A_214) Q_214 (ann := []) (spl := []) (mo := []) (by decide) (by decide +kernel)
set_option maxRecDepth 100000 in
theorem o_913 : okK 216 K_913 := okK_of (C := C_216) (fuel := 3000) rfl (A := A_216) Q_216 (ann := []) (spl := []) (mo := []) (by decide) (by decide +kernel)
def N_915 : aAnn := [(4, [(([(3, 62, 0, 0, 0, 1), (3, 68, 0, 0, 0, 2), (0, 0, 63, 0, 0, 0), (0, 0, 6, 0, 0, 0)], [], []), (6, [(-1, 4)]))])]
set_option maxRecDepth 100000 in
theorem o_915 : okK 211 K_915 := okK_of (C := C_211) (fuel := 3000) rfl (A := A_211) Q_211 (ann := N_915) (spl := []) (mo := []) (by decide) (by decide +kernel)
set_option maxRecDepth 100000 in
theorem o_916 : okK 172 K_916 := okK_of (C := C_172) (fuel := 3000) rfl (A := A_172) Q_172 (ann := []) (spl := []) (mo := []) (by decide) (by decide +kernel)
set_option maxRecDepth 100000 in
theorem o_917 : okK 172 K_917 := okK_of (C := C_172) (fuel := 3000) rfl (A := A_172) Q_172 (ann := []) (spl := []) (mo := []) (by decide) (by decide +kernel)
set_option maxRecDepth 100000 in
theorem o_918 : okK 212 K_918 := okK_of (C := C_212) (fuel := 3000) rfl (A := A_212) Q_212 (ann := []) (spl := []) (mo := []) (by decide) (by decide +kernel)
set_option maxRecDepth 100000 in
theorem o_919 : okK 217 K_919 := okK_of (C := C_217) (fuel := 3000) rfl (A := A_217) Q_217 (ann := []) (spl := []) (mo := []) (by decide) (by decide +kernel)
set_option maxRecDepth 100000 in
theorem o_920 : okK 218 K_920 := okK_of (C := C_218) (fuel := 3000) rfl (A := A_218) Q_218 (ann := []) (spl := []) (mo := []) (by decide) (by decide +kernel)
set_option maxRecDepth 100000 in
theorem o_921 : okK 181 K_921 := okK_of (C := C_181) (fuel := 3000) rfl (A := A_181) Q_181 (ann := []) (spl := []) (mo := [(60, 21, 0)]) (by decide) (by decide +kernel)
set_option maxRecDepth 100000 in
theorem o_922 : okK 182 K_922 := okK_of (C := C_182) (fuel := 3000) rfl (A := A_182) Q_182 (ann := []) (spl := []) (mo := [(60, 21, 0)]) (by decide) (by decide +kernel)
set_option maxRecDepth 100000 in
theorem o_923 : okK 183 K_923 := okK_of (C := C_183) (fuel := 3000) rfl (A := A_183) Q_183 (ann := []) (spl := []) (mo := [(60, 21, 0)]) (by decide) (by decide +kernel)
set_option maxRecDepth 100000 in
theorem o_924 : okK 181 K_924 := okK_of (C := C_181) (fuel := 3000) rfl (A := A_181) Q_181 (ann := []) (spl := []) (mo := [(60, 21, 0)]) (by decide) (by decide +kernel)
set_option maxRecDepth 100000 in
theorem o_925 : okK 182 K_925 := okK_of (C := C_182) (fuel := 3000) rfl (A := A_182) Q_182 (ann := []) (spl := []) (mo := [(60, 21, 0)]) (by decide) (by decide +kernel)
set_option maxRecDepth 100000 in
theorem o_926 : okK 169 K_926 := okK_of (C := C_169) (fuel := 3000) rfl (A := A_169) Q_169 (ann := []) (spl := []) (mo := []) (by decide) (by decide +kernel)
set_option maxRecDepth 100000 in
theorem o_927 : okK 169 K_927 := okK_of (C := C_169) (fuel := 3000) rfl (A := A_169) Q_169 (ann := []) (spl := []) (mo := []) (by decide) (by decide +kernel)
set_option maxRecDepth 100000 in
theorem o_928 : okK 183 K_928 := okK_of (C := C_183) (fuel := 3000) rfl (A := A_183) Q_183 (ann := []) (spl := []) (mo := [(60, 21, 0)]) (by decide) (by decide +kernel)
set_option maxRecDepth 100000 in
theorem o_929 : okK 181 K_929 := okK_of (C := C_181) (fuel := 3000) rfl (A := A_181) Q_181 (ann := []) (spl := []) (mo := [(60, 21, 0)]) (by decide) (by decide +kernel)
set_option maxRecDepth 100000 in
theorem o_930 : okK 182 K_930 := okK_of (C := C_182) (fuel := 3000) rfl (A := A_182) Q_182 (ann := []) (spl := []) (mo := [(60, 21, 0)]) (by decide) (by decide +kernel)
set_option maxRecDepth 100000 in
theorem o_931 : okK 183 K_931 := okK_of (C := C_183) (fuel := 3000) rfl (A := A_183) Q_183 (ann := []) (spl := []) (mo := [(60, 21, 0)]) (by decide) (by decide +kernel)
set_option maxRecDepth 100000 in
theorem o_932 : okK 183 K_932 := okK_of (C := C_183) (fuel := 3000) rfl (A := A_183) Q_183 (ann := []) (spl := []) (mo := [(60, 21, 0)]) (by decide) (by decide +kernel)
set_option maxRecDepth 100000 in
theorem o_933 : okK 182 K_933 := okK_of (C := C_182) (fuel := 3000) rfl (A := A_182) Q_182 (ann := []) (spl := []) (mo := [(60, 21, 0)]) (by decide) (by decide +kernel)
def N_934 : aAnn := [(22, [(([(3, 62, 0, 0, 0, 1), (0, 0, 0, 0, 0, 0), (0, 0, 1, 0, 0, 0), aRef 0, aRef 0], [], [(60, 14, (0, 0, 0, 0, 0, 0)), (60, 17, (0, 0, 0, 0, 0, 0)), (60, 18, (0, 70, 70, 0, 0, 0)), (60, 20, (0, 40, 40, 0, 0, 0)), (60, 21, (0, 0, 0, 0, 0, 0)), (60, 22, (0, -1, -1, 0, 0, 0))]), (30, [(-1, 2)])), (([(3, 62, 0, 0, 0, 1), (0, 1, 1, 0, 0, 0), (0, 0, 0, 0, 0, 0), aRef 0, aRef 0], [], [(60, 14, (0, 0, 0, 0, 0, 0)), (60, 17, (0, 0, 0, 0, 0, 0)), (60, 18, (0, 70, 70, 0, 0, 0)), (60, 20, (0, 40, 40, 0, 0, 0)), (60, 21, (0, 1, 40, 0, 0, 0)), (60, 22, (0, 0, 80, 0, 0, 0)), (76, 0, (0, -225, 30, 0, 0, 0)), (76, 1, (0, 0, 0, 0, 0, 0))]), (30, [(-1, 2)])), (([(3, 62, 0, 0, 0, 1), (0, 1, 1, 0, 0, 0), (0, 0, 1, 0, 0, 0), aRef 0, aRef 0], [], [(60, 14, (0, 0, 0, 0, 0, 0)), (60, 17, (0, 0, 0, 0, 0, 0)), (60, 18, (0, 70, 70, 0, 0, 0)), (60, 19, (0, 1, 80, 0, 0, 0)), (60, 20, (0, 40, 40, 0, 0, 0)), (60, 21, (0, 3, 40, 0, 0, 0)), (60, 22, (0, -1, -1, 0, 0, 0)), (76, 0, (0, -225, 30, 0, 0, 0)), (76, 1, (0, 0, 9, 0, 0, 0))]), (30, [(-1, 2)])), (([(3, 62, 0, 0, 0, 1), (0, 10, 10, 0, 0, 0), (0, 0, 0, 0, 0, 0), aRef 0, aRef 0], [], [(60, 14, (0, 0, 0, 0, 0, 0)), (60, 17, (0, 0, 0, 0, 0, 0)), (60, 18, (0, 70, 70, 0, 0, 0)), (60, 19, (0, 1, 80, 0, 0, 0)), (60, 20, (0, 40, 40, 0, 0, 0)), (60, 21, (0, 28, 75, 0, 0, 0)), (60, 22, (0, 0, 80, 0, 0, 0)), (76, 0, (0, -225, 30, 0, 0, 0)), (76, 1, (0, 0, 9, 0, 0, 0)), (76, 2, (0, -225, 30, 0, 0, 0)), (76, 3, (0, 0, 9, 0, 0, 0)), (76, 4, (0, -225, 30, 0, 0, 0)), (76, 5, (0, 0, 9, 0, 0, 0)), (76, 6, (0, -225, 30, 0, 0, 0)), (76, 7, (0, 0, 9, 0, 0, 0)), (76, 8, (0, -225, 30, 0, 0, 0)), (76, 9, (0, 0, 9, 0, 0, 0)), (76, 10, (0, -225, 30, 0, 0, 0)), (76, 11, (0, 0, 9, 0, 0, 0)), (76, 12, (0, -225, 30, 0, 0, 0)), (76, 13, (0, 0, 9, 0, 0, 0)), (76, 14, (0, -225, 30, 0, 0, 0)), (76, 15, (0, 0, 9, 0, 0, 0)), (76, 16, (0, -225, 30, 0, 0, 0)), (76, 17, (0, 0, 9, 0, 0, 0)), (76, 18, (0, -225, 30, 0, 0, 0)), (76, 19, (0, 0, 0, 0, 0, 0))]), (30, [(-1, 2)])), (([(3, 62, 0, 0, 0, 1), (0, 10, 10, 0, 0, 0), (0, 0, 1, 0, 0, 0), aRef 0, aRef 0], [], [(60, 14, (0, 0, 0, 0, 0, 0)), (60, 17, (0, 0, 0, 0, 0, 0)), (60, 18, (0, 70, 70, 0, 0, 0)), (60, 19, (0, 1, 80, 0, 0, 0)), (60, 20, (0, 40, 40, 0, 0, 0)), (60, 21, (0, 30, 40, 0, 0, 0)), (60, 22, (0, -1, -1, 0, 0, 0)), (76, 0, (0, -225, 30, 0, 0, 0)), (76, 1, (0, 0, 9, 0, 0, 0)), (76, 2, (0, -225, 30, 0, 0, 0)), (76, 3, (0, 0, 9, 0, 0, 0)), (76, 4, (0, -225, 30, 0, 0, 0)), (76, 5, (0, 0, 9, 0, 0, 0)), (76, 6, (0, -225, 30, 0, 0, 0)), (76, 7, (0, 0, 9, 0, 0, 0)), (76, 8, (0, -225, 30, 0, 0, 0)), (76, 9, (0, 0, 9, 0, 0, 0)), (76, 10, (0, -225, 30, 0, 0, 0)), (76, 11, (0, 0, 9, 0, 0, 0)), (76, 12, (0, -225, 30, 0, 0, 0)), (76, 13, (0, 0, 9, 0, 0, 0)), (76, 14, (0, -225, 30, 0, 0, 0)), (76, 15, (0, 0, 9, 0, 0, 0)), (76, 16, (0, -225, 30, 0, 0, 0)), (76, 17, (0, 0, 9, 0, 0, 0)), (76, 18, (0, -225, 30, 0, 0, 0)), (76, 19, (0, 0, 9, 0, 0, 0))]), (30, [(-1, 2)])), (([(3, 62, 0, 0, 0, 1), (0, 11, 11, 0, 0, 0), (0, 0, 0, 0, 0, 0), aRef 0, aRef 0], [], [(60, 14, (0, 0, 0, 0, 0, 0)), (60, 17, (0, 0, 0, 0, 0, 0)), (60, 18, (0, 70, 70, 0, 0, 0)), (60, 19, (0, 1, 80, 0, 0, 0)), (60, 20, (0, 40, 40, 0, 0, 0)), (60, 21, (0, 31, 75, 0, 0, 0)), (60, 22, (0, 0, 80, 0, 0, 0)), (76, 0, (0, -225, 30, 0, 0, 0)), (76, 1, (0, 0, 9, 0, 0, 0)), (76, 2, (0, -225, 30, 0, 0, 0)), (76, 3, (0, 0, 9, 0, 0, 0)), (76, 4, (0, -225, 30, 0, 0, 0)), (76, 5, (0, 0, 9, 0, 0, 0)), (76, 6, (0, -225, 30, 0, 0, 0)), (76, 7, (0, 0, 9, 0, 0, 0)), (76, 8, (0, -225, 30, 0, 0, 0)), (76, 9, (0, 0, 9, 0, 0, 0)), (76, 10, (0, -225, 30, 0, 0, 0)), (76, 11, (0, 0, 9, 0, 0, 0)), (76, 12, (0, -225, 30, 0, 0, 0)), (76, 13, (0, 0, 9, 0, 0, 0)), (76, 14, (0, -225, 30, 0, 0, 0)), (76, 15, (0, 0, 9, 0, 0, 0)), (76, 16, (0, -225, 30, 0, 0, 0)), (76, 17, (0, 0, 9, 0, 0, 0)), (76, 18, (0, -225, 30, 0, 0, 0)), (76, 19, (0, 0, 9, 0, 0, 0)), (76, 20, (0, -225, 30, 0, 0, 0)), (76, 21, (0, 0, 0, 0, 0, 0))]), (30, [(-1, 2)])), (([(3, 62, 0, 0, 0, 1), (0, 11, 11, 0, 0, 0), (0, 0, 1, 0, 0, 0), aRef 0, aRef 0], [], [(60, 14, (0, 0, 0, 0, 0, 0)), (60, 17, (0, 0, 0, 0, 0, 0)), (60, 18, (0, 70, 70, 0, 0, 0)), (60, 19, (0, 1, 80, 0, 0, 0)), (60, 20, (0, 40, 40, 0, 0, 0)), (60, 21, (0, 33, 40, 0, 0, 0)), (60, 22, (0, -1, -1, 0, 0, 0)), (76, 0, (0, -225, 30, 0, 0, 0)), (76, 1, (0, 0, 9, 0, 0, 0)), (76, 2, (0, -225, 30, 0, 0, 0)), (76, 3, (0, 0, 9, 0, 0, 0)), (76, 4, (0, -225, 30, 0, 0, 0)), (76, 5, (0, 0, 9, 0, 0, 0)), (76, 6, (0, -225, 30, 0, 0, 0)), (76, 7, (0, 0, 9, 0, 0, 0)), (76, 8, (0, -225, 30, 0, 0, 0)), (76, 9, (0, 0, 9, 0, 0, 0)), (76, 10, (0, -225, 30, 0, 0, 0)), (76, 11, (0, 0, 9, 0, 0, 0)), (76, 12, (0, -225, 30, 0, 0, 0)), (76, 13, (0, 0, 9, 0, 0, 0)), (76, 14, (0, -225, 30, 0, 0, 0)), (76, 15, (0, 0, 9, 0, 0, 0)), (76, 16, (0, -225, 30, 0, 0, 0)), (76, 17, (0, 0, 9, 0, 0, 0)), (76, 18, (0, -225, 30, 0, 0, 0)), (76, 19, (0, 0, 9, 0, 0, 0)), (76, 20, (0, -225, 30, 0, 0, 0)), (76, 21, (0, 0, 9, 0, 0, 0))]), (30, [(-1, 2)])), (([(3, 62, 0, 0, 0, 1), (0, 12, 12, 0, 0, 0), (0, 0, 0, 0, 0, 0), aRef 0, aRef 0], [], [(60, 14, (0, 0, 0, 0, 0, 0)), (60, 17, (0, 0, 0, 0, 0, 0)), (60, 18, (0, 70, 70, 0, 0, 0)), (60, 19, (0, 1, 80, 0, 0, 0)), (60, 20, (0, 40, 40, 0, 0, 0)), (60, 21, (0, 34, 75, 0, 0, 0)), (60, 22, (0, 0, 80, 0, 0, 0)), (76, 0, (0, -225, 30, 0, 0, 0)), (76, 1, (0, 0, 9, 0, 0, 0)), (76, 2, (0, -225, 30, 0, 0, 0)), (76, 3, (0, 0, 9, 0, 0, 0)), (76, 4, (0, -225, 30, 0, 0, 0)), (76, 5, (0, 0, 9, 0, 0, 0)), (76, 6, (0, -225, 30, 0, 0, 0)), (76, 7, (0, 0, 9, 0, 0, 0)), (76, 8, (0, -225, 30, 0, 0, 0)), (76, 9, (0, 0, 9, 0, 0, 0)), (76, 10, (0, -225, 30, 0, 0, 0)), (76, 11, (0, 0, 9, 0, 0, 0)), (76, 12, (0, -225, 30, 0, 0, 0)), (76, 13, (0, 0, 9, 0, 0, 0)), (76, 14, (0, -225, 30, 0, 0, 0)), (76, 15, (0, 0, 9, 0, 0, 0)), (76, 16, (0, -225, 30, 0, 0, 0)), (76, 17, (0, 0, 9, 0, 0, 0)), (76, 18, (0, -225, 30, 0, 0, 0)), (76, 19, (0, 0, 9, 0, 0, 0)), (76, 20, (0, -225, 30, 0, 0, 0)), (76, 21, (0, 0, 9, 0, 0, 0)), (76, 22, (0, -225, 30, 0, 0, 0)), (76, 23, (0, 0, 0, 0, 0, 0))]), (30, [(-1, 2)])), (([(3, 62, 0, 0, 0, 1), (0, 12, 12, 0, 0, 0), (0, 0, 1, 0, 0, 0), aRef 0, aRef 0], [], [(60, 14, (0, 0, 0, 0, 0, 0)), (60, 17, (0, 0, 0, 0, 0, 0)), (60, 18, (0, 70, 70, 0, 0, 0)), (60, 19, (0, 1, 80, 0, 0, 0)), (60, 20, (0, 40, 40, 0, 0, 0)), (60, 21, (0, 36, 40, 0, 0, 0)), (60, 22, (0, -1, -1, 0, 0, 0)), (76, 0, (0, -225, 30, 0, 0, 0)), (76, 1, (0, 0, 9, 0, 0, 0)), (76, 2, (0, -225, 30, 0, 0, 0)), (76, 3, (0, 0, 9, 0, 0, 0)), (76, 4, (0, -225, 30, 0, 0, 0)), (76, 5, (0, 0, 9, 0, 0, 0)), (76, 6, (0, -225, 30, 0, 0, 0)), (76, 7, (0, 0, 9, 0, 0, 0)), (76, 8, (0, -225, 30, 0, 0, 0)), (76, 9, (0, 0, 9, 0, 0, 0)), (76, 10, (0, -225, 30, 0, 0, 0)), (76, 11, (0, 0, 9, 0, 0, 0)), (76, 12, (0, -225, 30, 0, 0, 0)), (76, 13, (0, 0, 9, 0, 0, 0)), (76, 14, (0, -225, 30, 0, 0, 0)), (76, 15, (0, 0, 9, 0, 0, 0)), (76, 16, (0, -225, 30, 0, 0, 0)), (76, 17, (0, 0, 9, 0, 0, 0)), (76, 18, (0, -225, 30, 0, 0, 0)), (76, 19, (0, 0, 9, 0, 0, 0)), (76, 20, (0, -225, 30, 0, 0, 0)), (76, 21, (0, 0, 9, 0, 0, 0)), (76, 22, (0, -225, 30, 0, 0, 0)), (76, 23, (0, 0, 9, 0, 0, 0))]), (30, [(-1, 2)])), (([(3, 62, 0, 0, 0, 1), (0, 13, 13, 0, 0, 0), (0, 0, 0, 0, 0, 0), aRef 0, aRef 0], [], [(60, 14, (0, 0, 0, 0, 0, 0)), (60, 17, (0, 0, 0, 0, 0, 0)), (60, 18, (0, 70, 70, 0, 0, 0)), (60, 19, (0, 1, 80, 0, 0, 0)), (60, 20, (0, 40, 40, 0, 0, 0)), (60, 21, (0, 37, 75, 0, 0, 0)), (60, 22, (0, 0, 80, 0, 0, 0)), (76, 0, (0, -225, 30, 0, 0, 0)), (76, 1, (0, 0, 9, 0, 0, 0)), (76, 2, (0, -225, 30, 0, 0, 0)), (76, 3, (0, 0, 9, 0, 0, 0)), (76, 4, (0, -225, 30, 0, 0, 0)), (76, 5, (0, 0, 9, 0, 0, 0)), (76, 6, (0, -225, 30, 0, 0, 0)), (76, 7, (0, 0, 9, 0, 0, 0)), (76, 8, (0, -225, 30, 0, 0, 0)), (76, 9, (0, 0, 9, 0, 0, 0)), (76, 10, (0, -225, 30, 0, 0, 0)), (76, 11, (0, 0, 9, 0, 0, 0)), (76, 12, (0, -225, 30, 0, 0, 0)), (76, 13, (0, 0, 9, 0, 0, 0)), (76, 14, (0, -225, 30, 0, 0, 0)), (76, 15, (0, 0, 9, 0, 0, 0)), (76, 16, (0, -225, 30, 0, 0, 0)), (76, 17, (0, 0, 9, 0, 0, 0)), (76, 18, (0, -225, 30, 0, 0, 0)), (76, 19, (0, 0, 9, 0, 0, 0)), (76, 20, (0, -225, 30, 0, 0, 0)), (76, 21, (0, 0, 9, 0, 0, 0)), (76, 22, (0, -225, 30, 0, 0, 0)), (76, 23, (0, 0, 9, 0, 0, 0)), (76, 24, (0, -225, 30, 0, 0, 0)), (76, 25, (0, 0, 0, 0, 0, 0))]), (30, [(-1, 2)])), (([(3, 62, 0, 0, 0, 1), (0, 13, 13, 0, 0, 0), (0, 0, 1, 0, 0, 0), aRef 0, aRef 0], [], [(60, 14, (0, 0, 0, 0, 0, 0)), (60, 17, (0, 0, 0, 0, 0, 0)), (60, 18, (0, 70, 70, 0, 0, 0)), (60, 19, (0, 1, 80, 0, 0, 0)), (60, 20, (0, 40, 40, 0, 0, 0)), (60, 21, (0, 39, 40, 0, 0, 0)), (60, 22, (0, -1, -1, 0, 0, 0)), (76, 0, (0, -225, 30, 0, 0, 0)), (76, 1, (0, 0, 9, 0, 0, 0)), (76, 2, (0, -225, 30, 0, 0, 0)), (76, 3, (0, 0, 9, 0, 0, 0)), (76, 4, (0, -225, 30, 0, 0, 0)), (76, 5, (0, 0, 9, 0, 0, 0)), (76, 6, (0, -225, 30, 0, 0, 0)), (76, 7, (0, 0, 9, 0, 0, 0)), (76, 8, (0, -225, 30, 0, 0, 0)), (76, 9, (0, 0, 9, 0, 0, 0)), (76, 10, (0, -225, 30, 0, 0, 0)), (76, 11, (0, 0, 9, 0, 0, 0)), (76, 12, (0, -225, 30, 0, 0, 0)), (76, 13, (0, 0, 9, 0, 0, 0)), (76, 14, (0, -225, 30, 0, 0, 0)), (76, 15, (0, 0, 9, 0, 0, 0)), (76, 16, (0, -225, 30, 0, 0, 0)), (76, 17, (0, 0, 9, 0, 0, 0)), (76, 18, (0, -225, 30, 0, 0, 0)), (76, 19, (0, 0, 9, 0, 0, 0)), (76, 20, (0, -225, 30, 0, 0, 0)), (76, 21, (0, 0, 9, 0, 0, 0)), (76, 22, (0, -225, 30, 0, 0, 0)), (76, 23, (0, 0, 9, 0, 0, 0)), (76, 24, (0, -225, 30, 0, 0, 0)), (76, 25, (0, 0, 9, 0, 0, 0))]), (30, [(-1, 2)])), (([(3, 62, 0, 0, 0, 1), (0, 14, 14, 0, 0, 0), (0, 0, 0, 0, 0, 0), aRef 0, aRef 0], [], [(60, 14, (0, 0, 0, 0, 0, 0)), (60, 17, (0, 0, 0, 0, 0, 0)), (60, 18, (0, 70, 70, 0, 0, 0)), (60, 19, (0, 1, 80, 0, 0, 0)), (60, 20, (0, 40, 40, 0, 0, 0)), (60, 21, (0, 40, 75, 0, 0, 0)), (60, 22, (0, 0, 80, 0, 0, 0)), (76, 0, (0, -225, 30, 0, 0, 0)), (76, 1, (0, 0, 9, 0, 0, 0)), (76, 2, (0, -225, 30, 0, 0, 0)), (76, 3, (0, 0, 9, 0, 0, 0)), (76, 4, (0, -225, 30, 0, 0, 0)), (76, 5, (0, 0, 9, 0, 0, 0)), (76, 6, (0, -225, 30, 0, 0, 0)), (76, 7, (0, 0, 9, 0, 0, 0)), (76, 8, (0, -225, 30, 0, 0, 0)), (76, 9, (0, 0, 9, 0, 0, 0)), (76, 10, (0, -225, 30, 0, 0, 0)), (76, 11, (0, 0, 9, 0, 0, 0)), (76, 12, (0, -225, 30, 0, 0, 0)), (76, 13, (0, 0, 9, 0, 0, 0)), (76, 14, (0, -225, 30, 0, 0, 0)), (76, 15, (0, 0, 9, 0, 0, 0)), (76, 16, (0, -225, 30, 0, 0, 0)), (76, 17, (0, 0, 9, 0, 0, 0)), (76, 18, (0, -225, 30, 0, 0, 0)), (76, 19, (0, 0, 9, 0, 0, 0)), (76, 20, (0, -225, 30, 0, 0, 0)), (76, 21, (0, 0, 9, 0, 0, 0)), (76, 22, (0, -225, 30, 0, 0, 0)), (76, 23, (0, 0, 9, 0, 0, 0)), (76, 24, (0, -225, 30, 0, 0, 0)), (76, 25, (0, 0, 9, 0, 0, 0)), (76, 26, (0, -225, 30, 0, 0, 0)), (76, 27, (0, 0, 0, 0, 0, 0))]), (30, [(-1, 2)])), (([(3, 62, 0, 0, 0, 1), (0, 2, 2, 0, 0, 0), (0, 0, 0, 0, 0, 0), aRef 0, aRef 0], [], [(60, 14, (0, 0, 0, 0, 0, 0)), (60, 17, (0, 0, 0, 0, 0, 0)), (60, 18, (0, 70, 70, 0, 0, 0)), (60, 19, (0, 1, 80, 0, 0, 0)), (60, 20, (0, 40, 40, 0, 0, 0)), (60, 21, (0, 4, 75, 0, 0, 0)), (60, 22, (0, 0, 80, 0, 0, 0)), (76, 0, (0, -225, 30, 0, 0, 0)), (76, 1, (0, 0, 9, 0, 0, 0)), (76, 2, (0, -225, 30, 0, 0, 0)), (76, 3, (0, 0, 0, 0, 0, 0))]), (30, [(-1, 2)])), (([(3, 62, 0, 0, 0, 1), (0, 2, 2, 0, 0, 0), (0, 0, 1, 0, 0, 0), aRef 0, aRef 0], [], [(60, 14, (0, 0, 0, 0, 0, 0)), (60, 17, (0, 0, 0, 0, 0, 0)), (60, 18, (0, 70, 70, 0, 0, 0)), (60, 19, (0, 1, 80, 0, 0, 0)), (60, 20, (0, 40, 40, 0, 0, 0)), (60, 21, (0, 6, 40, 0, 0, 0)), (60, 22, (0, -1, -1, 0, 0, 0)), (76, 0, (0, -225, 30, 0, 0, 0)), (76, 1, (0, 0, 9, 0, 0, 0)), (76, 2, (0, -225, 30, 0, 0, 0)), (76, 3, (0, 0, 9, 0, 0, 0))]), (30, [(-1, 2)])), (([(3, 62, 0, 0, 0, 1), (0, 3, 3, 0, 0, 0), (0, 0, 0, 0, 0, 0), aRef 0, aRef 0], [], [(60, 14, (0, 0, 0, 0, 0, 0)), (60, 17, (0, 0, 0, 0, 0, 0)), (60, 18, (0, 70, 70, 0, 0, 0)), (60, 19, (0, 1, 80, 0, 0, 0)), (60, 20, (0, 40, 40, 0, 0, 0)), (60, 21, (0, 7, 75, 0, 0, 0)), (60, 22, (0, 0, 80, 0, 0, 0)), (76, 0, (0, -225, 30, 0, 0, 0)), (76, 1, (0, 0, 9, 0, 0, 0)), (76, 2, (0, -225, 30, 0, 0, 0)), (76, 3, (0, 0, 9, 0, 0, 0)), (76, 4, (0, -225, 30, 0, 0, 0)), (76, 5, (0, 0, 0, 0, 0, 0))]), (30, [(-1, 2)])), (([(3, 62, 0, 0, 0, 1), (0, 3, 3, 0, 0, 0), (0, 0, 1, 0, 0, 0), aRef 0, aRef 0], [], [(60, 14, (0, 0, 0, 0, 0, 0)), (60, 17, (0, 0, 0, 0, 0, 0)), (60, 18, (0, 70, 70, 0, 0, 0)), (60, 19, (0, 1, 80, 0, 0, 0)), (60, 20, (0, 40, 40, 0, 0, 0)), (60, 21, (0, 9, 40, 0, 0, 0)), (60, 22, (0, -1, -1, 0, 0, 0)), (76, 0, (0, -225, 30, 0, 0, 0)), (76, 1, (0, 0, 9, 0, 0, 0)), (76, 2, (0, -225, 30, 0, 0, 0)), (76, 3, (0, 0, 9, 0, 0, 0)), (76, 4, (0, -225, 30, 0, 0, 0)), (76, 5, (0, 0, 9, 0, 0, 0))]), (30, [(-1, 2)])), (([(3, 62, 0, 0, 0, 1), (0, 4, 4, 0, 0, 0), (0, 0, 0, 0, 0, 0), aRef 0, aRef 0], [], [(60, 14, (0, 0, 0, 0, 0, 0)), (60, 17, (0, 0, 0, 0, 0, 0)), (60, 18, (0, 70, 70, 0, 0, 0)), (60, 19, (0, 1, 80, 0, 0, 0)), (60, 20, (0, 40, 40, 0, 0, 0)), (60, 21, (0, 10, 75, 0, 0, 0)), (60, 22, (0, 0, 80, 0, 0, 0)), (76, 0, (0, -225, 30, 0, 0, 0)), (76, 1, (0, 0, 9, 0, 0, 0)), (76, 2, (0, -225, 30, 0, 0, 0)), (76, 3, (0, 0, 9, 0, 0, 0)), (76, 4, (0, -225, 30, 0, 0, 0)), (76, 5, (0, 0, 9, 0, 0, 0)), (76, 6, (0, -225, 30, 0, 0, 0)), (76, 7, (0, 0, 0, 0, 0, 0))]), (30, [(-1, 2)])), (([(3, 62, 0, 0, 0, 1), (0, 4, 4, 0, 0, 0), (0, 0, 1, 0, 0, 0), aRef 0, aRef 0], [], [(60, 14, (0, 0, 0, 0, 0, 0)), (60, 17, (0, 0, 0, 0, 0, 0)), (60, 18, (0, 70, 70, 0, 0, 0)), (60, 19, (0, 1, 80, 0, 0, 0)), (60, 20, (0, 40, 40, 0, 0, 0)), (60, 21, (0, 12, 40, 0, 0, 0)), (60, 22, (0, -1, -1, 0, 0, 0)), (76, 0, (0, -225, 30, 0, 0, 0)), (76, 1, (0, 0, 9, 0, 0, 0)), (76, 2, (0, -225, 30, 0, 0, 0)), (76, 3, (0, 0, 9, 0, 0, 0)), (76, 4, (0, -225, 30, 0, 0, 0)), (76, 5, (0, 0, 9, 0, 0, 0)), (76, 6, (0, -225, 30, 0, 0, 0)), (76, 7, (0, 0, 9, 0, 0, 0))]), (30, [(-1, 2)])), (([(3, 62, 0, 0, 0, 1), (0, 5, 5, 0, 0, 0), (0, 0, 0, 0, 0, 0), aRef 0, aRef 0], [], [(60, 14, (0, 0, 0, 0, 0, 0)), (60, 17, (0, 0, 0, 0, 0, 0)), (60, 18, (0, 70, 70, 0, 0, 0)), (60, 19, (0, 1, 80, 0, 0, 0)), (60, 20, (0, 40, 40, 0, 0, 0)), (60, 21, (0, 13, 75, 0, 0, 0)), (60, 22, (0, 0, 80, 0, 0, 0)), (76, 0, (0, -225, 30, 0, 0, 0)), (76, 1, (0, 0, 9, 0, 0, 0)), (76, 2, (0, -225, 30, 0, 0, 0)), (76, 3, (0, 0, 9, 0, 0, 0)), (76, 4, (0, -225, 30, 0, 0, 0)), (76, 5, (0, 0, 9, 0, 0, 0)), (76, 6, (0, -225, 30, 0, 0, 0)), (76, 7, (0, 0, 9, 0, 0, 0)), (76, 8, (0, -225, 30, 0, 0, 0)), (76, 9, (0, 0, 0, 0, 0, 0))]), (30, [(-1, 2)])), (([(3, 62, 0, 0, 0, 1), (0, 5, 5, 0, 0, 0), (0, 0, 1, 0, 0, 0), aRef 0, aRef 0], [], [(60, 14, (0, 0, 0, 0, 0, 0)), (60, 17, (0, 0, 0, 0, 0, 0)), (60, 18, (0, 70, 70, 0, 0, 0)), (60, 19, (0, 1, 80, 0, 0, 0)), (60, 20, (0, 40, 40, 0, 0, 0)), (60, 21, (0, 15, 40, 0, 0, 0)), (60, 22, (0, -1, -1, 0, 0, 0)), (76, 0, (0, -225, 30, 0, 0, 0)), (76, 1, (0, 0, 9, 0, 0, 0)), (76, 2, (0, -225, 30, 0, 0, 0)), (76, 3, (0, 0, 9, 0, 0, 0)), (76, 4, (0, -225, 30, 0, 0, 0)), (76, 5, (0, 0, 9, 0, 0, 0)), (76, 6, (0, -225, 30, 0, 0, 0)), (76, 7, (0, 0, 9, 0, 0, 0)), (76, 8, (0, -225, 30, 0, 0, 0)), (76, 9, (0, 0, 9, 0, 0, 0))]), (30, [(-1, 2)])), (([(3, 62, 0, 0, 0, 1), (0, 6, 6, 0, 0, 0), (0, 0, 0, 0, 0, 0), aRef 0, aRef 0], [], [(60, 14, (0, 0, 0, 0, 0, 0)), (60, 17, (0, 0, 0, 0, 0, 0)), (60, 18, (0, 70, 70, 0, 0, 0)), (60, 19, (0, 1, 80, 0, 0, 0)), (60, 20, (0, 40, 40, 0, 0, 0)), (60, 21, (0, 16, 75, 0, 0, 0)), (60, 22, (0, 0, 80, 0, 0, 0)), (76, 0, (0, -225, 30, 0, 0, 0)), (76, 1, (0, 0, 9, 0, 0, 0)), (76, 2, (0, -225, 30, 0, 0, 0)), (76, 3, (0, 0, 9, 0, 0, 0)), (76, 4, (0, -225, 30, 0, 0, 0)), (76, 5, (0, 0, 9, 0, 0, 0)), (76, 6, (0, -225, 30, 0, 0, 0)), (76, 7, (0, 0, 9, 0, 0, 0)), (76, 8, (0, -225, 30, 0, 0, 0)), (76, 9, (0, 0, 9, 0, 0, 0)), (76, 10, (0, -225, 30, 0, 0, 0)), (76, 11, (0, 0, 0, 0, 0, 0))]), (30, [(-1, 2)])), (([(3, 62, 0, 0, 0, 1), (0, 6, 6, 0, 0, 0), (0, 0, 1, 0, 0, 0), aRef 0, aRef 0], [], [(60, 14, (0, 0, 0, 0, 0, 0)), (60, 17, (0, 0, 0, 0, 0, 0)), (60, 18, (0, 70, 70, 0, 0, 0)), (60, 19, (0, 1, 80, 0, 0, 0)), (60, 20, (0, 40, 40, 0, 0, 0)), (60, 21, (0, 18, 40, 0, 0, 0)), (60, 22, (0, -1, -1, 0, 0, 0)), (76, 0, (0, -225, 30, 0, 0, 0)), (76, 1, (0, 0, 9, 0, 0, 0)), (76, 2, (0, -225, 30, 0, 0, 0)), (76, 3, (0, 0, 9, 0, 0, 0)), (76, 4, (0, -225, 30, 0, 0, 0)), (76, 5, (0, 0, 9, 0, 0, 0)), (76, 6, (0, -225, 30, 0, 0, 0)), (76, 7, (0, 0, 9, 0, 0, 0)), (76, 8, (0, -225, 30, 0, 0, 0)), (76, 9, (0, 0, 9, 0, 0, 0)), (76, 10, (0, -225, 30, 0, 0, 0)), (76, 11, (0, 0, 9, 0, 0, 0))]), (30, [(-1, 2)])), (([(3, 62, 0, 0, 0, 1), (0, 7, 7, 0, 0, 0), (0, 0, 0, 0, 0, 0), aRef 0, aRef 0], [], [(60, 14, (0, 0, 0, 0, 0, 0)), (60, 17, (0, 0, 0, 0, 0, 0)), (60, 18, (0, 70, 70, 0, 0, 0)), (60, 19, (0, 1, 80, 0, 0, 0)), (60, 20, (0, 40, 40, 0, 0, 0)), (60, 21, (0, 19, 75, 0, 0, 0)), (60, 22, (0, 0, 80, 0, 0, 0)), (76, 0, (0, -225, 30, 0, 0, 0)), (76, 1, (0, 0, 9, 0, 0, 0)), (76, 2, (0, -225, 30, 0, 0, 0)), (76, 3, (0, 0, 9, 0, 0, 0)), (76, 4, (0, -225, 30, 0, 0, 0)), (76, 5, (0, 0, 9, 0, 0, 0)), (76, 6, (0, -225, 30, 0, 0, 0)), (76, 7, (0, 0, 9, 0, 0, 0)), (76, 8, (0, -225, 30, 0, 0, 0)), (76, 9, (0, 0, 9, 0, 0, 0)), (76, 10, (0, -225, 30, 0, 0, 0)), (76, 11, (0, 0, 9, 0, 0, 0)), (76, 12, (0, -225, 30, 0, 0, 0)), (76, 13, (0, 0, 0, 0, 0, 0))]), (30, [(-1, 2)])), (([(3, 62, 0, 0, 0, 1), (0, 7, 7, 0, 0, 0), (0, 0, 1, 0, 0, 0), aRef 0, aRef 0], [], [(60, 14, (0, 0, 0, 0, 0, 0)), (60, 17, (0, 0, 0, 0, 0, 0)), (60, 18, (0, 70, 70, 0, 0, 0)), (60, 19, (0, 1, 80, 0, 0, 0)), (60, 20, (0, 40, 40, 0, 0, 0)), (60, 21, (0, 21, 40, 0, 0, 0)), (60, 22, (0, -1, -1, 0, 0, 0)), (76, 0, (0, -225, 30, 0, 0, 0)), (76, 1, (0, 0, 9, 0, 0, 0)), (76, 2, (0, -225, 30, 0, 0, 0)), (76, 3, (0, 0, 9, 0, 0, 0)), (76, 4, (0, -225, 30, 0, 0, 0)), (76, 5, (0, 0, 9, 0, 0, 0)), (76, 6, (0, -225, 30, 0, 0, 0)), (76, 7, (0, 0, 9, 0, 0, 0)), (76, 8, (0, -225, 30, 0, 0, 0)), (76, 9, (0, 0, 9, 0, 0, 0)), (76, 10, (0, -225, 30, 0, 0, 0)), (76, 11, (0, 0, 9, 0, 0, 0)), (76, 12, (0, -225, 30, 0, 0, 0)), (76, 13, (0, 0, 9, 0, 0, 0))]), (30, [(-1, 2)])), (([(3, 62, 0, 0, 0, 1), (0, 8, 8, 0, 0, 0), (0, 0, 0, 0, 0, 0), aRef 0, aRef 0], [], [(60, 14, (0, 0, 0, 0, 0, 0)), (60, 17, (0, 0, 0, 0, 0, 0)), (60, 18, (0, 70, 70, 0, 0, 0)), (60, 19, (0, 1, 80, 0, 0, 0)), (60, 20, (0, 40, 40, 0, 0, 0)), (60, 21, (0, 22, 75, 0, 0, 0)), (60, 22, (0, 0, 80, 0, 0, 0)), (76, 0, (0, -225, 30, 0, 0, 0)), (76, 1, (0, 0, 9, 0, 0, 0)), (76, 2, (0, -225, 30, 0, 0, 0)), (76, 3, (0, 0, 9, 0, 0, 0)), (76, 4, (0, -225, 30, 0, 0, 0)), (76, 5, (0, 0, 9, 0, 0, 0)), (76, 6, (0, -225, 30, 0, 0, 0)), (76, 7, (0, 0, 9, 0, 0, 0)), (76, 8, (0, -225, 30, 0, 0, 0)), (76, 9, (0, 0, 9, 0, 0, 0)), (76, 10, (0, -225, 30, 0, 0, 0)), (76, 11, (0, 0, 9, 0, 0, 0)), (76, 12, (0, -225, 30, 0, 0, 0)), (76, 13, (0, 0, 9, 0, 0, 0)), (76, 14, (0, -225, 30, 0, 0, 0)), (76, 15, (0, 0, 0, 0, 0, 0))]), (30, [(-1, 2)])), (([(3, 62, 0, 0, 0, 1), (0, 8, 8, 0, 0, 0), (0, 0, 1, 0, 0, 0), aRef 0, aRef 0], [], [(60, 14, (0, 0, 0, 0, 0, 0)), (60, 17, (0, 0, 0, 0, 0, 0)), (60, 18, (0, 70, 70, 0, 0, 0)), (60, 19, (0, 1, 80, 0, 0, 0)), (60, 20, (0, 40, 40, 0, 0, 0)), (60, 21, (0, 24, 40, 0, 0, 0)), (60, 22, (0, -1, -1, 0, 0, 0)), (76, 0, (0, -225, 30, 0, 0, 0)), (76, 1, (0, 0, 9, 0, 0, 0)), (76, 2, (0, -225, 30, 0, 0, 0)), (76, 3, (0, 0, 9, 0, 0, 0)), (76, 4, (0, -225, 30, 0, 0, 0)), (76, 5, (0, 0, 9, 0, 0, 0)), (76, 6, (0, -225, 30, 0, 0, 0)), (76, 7, (0, 0, 9, 0, 0, 0)), (76, 8, (0, -225, 30, 0, 0, 0)), (76, 9, (0, 0, 9, 0, 0, 0)), (76, 10, (0, -225, 30, 0, 0, 0)), (76, 11, (0, 0, 9, 0, 0, 0)), (76, 12, (0, -225, 30, 0, 0, 0)), (76, 13, (0, 0, 9, 0, 0, 0)), (76, 14, (0, -225, 30, 0, 0, 0)), (76, 15, (0, 0, 9, 0, 0, 0))]), (30, [(-1, 2)])), (([(3, 62, 0, 0, 0, 1), (0, 9, 9, 0, 0, 0), (0, 0, 0, 0, 0, 0), aRef 0, aRef 0], [], [(60, 14, (0, 0, 0, 0, 0, 0)), (60, 17, (0, 0, 0, 0, 0, 0)), (60, 18, (0, 70, 70, 0, 0, 0)), (60, 19, (0, 1, 80, 0, 0, 0)), (60, 20, (0, 40, 40, 0, 0, 0)), (60, 21, (0, 25, 75, 0, 0, 0)), (60, 22, (0, 0, 80, 0, 0, 0)), (76, 0, (0, -225, 30, 0, 0, 0)), (76, 1, (0, 0, 9, 0, 0, 0)), (76, 2, (0, -225, 30, 0, 0, 0)), (76, 3, (0, 0, 9, 0, 0, 0)), (76, 4, (0, -225, 30, 0, 0, 0)), (76, 5, (0, 0, 9, 0, 0, 0)), (76, 6, (0, -225, 30, 0, 0, 0)), (76, 7, (0, 0, 9, 0, 0, 0)), (76, 8, (0, -225, 30, 0, 0, 0)), (76, 9, (0, 0, 9, 0, 0, 0)), (76, 10, (0, -225, 30, 0, 0, 0)), (76, 11, (0, 0, 9, 0, 0, 0)), (76, 12, (0, -225, 30, 0, 0, 0)), (76, 13, (0, 0, 9, 0, 0, 0)), (76, 14, (0, -225, 30, 0, 0, 0)), (76, 15, (0, 0, 9, 0, 0, 0)), (76, 16, (0, -225, 30, 0, 0, 0)), (76, 17, (0, 0, 0, 0, 0, 0))]), (30, [(-1, 2)])), (([(3, 62, 0, 0, 0, 1), (0, 9, 9, 0, 0, 0), (0, 0, 1, 0, 0, 0), aRef 0, aRef 0], [], [(60, 14, (0, 0, 0, 0, 0, 0)), (60, 17, (0, 0, 0, 0, 0, 0)), (60, 18, (0, 70, 70, 0, 0, 0)), (60, 19, (0, 1, 80, 0, 0, 0)), (60, 20, (0, 40, 40, 0, 0, 0)), (60, 21, (0, 27, 40, 0, 0, 0)), (60, 22, (0, -1, -1, 0, 0, 0)), (76, 0, (0, -225, 30, 0, 0, 0)), (76, 1, (0, 0, 9, 0, 0, 0)), (76, 2, (0, -225, 30, 0, 0, 0)), (76, 3, (0, 0, 9, 0, 0, 0)), (76, 4, (0, -225, 30, 0, 0, 0)), (76, 5, (0, 0, 9, 0, 0, 0)), (76, 6, (0, -225, 30, 0, 0, 0)), (76, 7, (0, 0, 9, 0, 0, 0)), (76, 8, (0, -225, 30, 0, 0, 0)), (76, 9, (0, 0, 9, 0, 0, 0)), (76, 10, (0, -225, 30, 0, 0, 0)), (76, 11, (0, 0, 9, 0, 0, 0)), (76, 12, (0, -225, 30, 0, 0, 0)), (76, 13, (0, 0, 9, 0, 0, 0)), (76, 14, (0, -225, 30, 0, 0, 0)), (76, 15, (0, 0, 9, 0, 0, 0)), (76, 16, (0, -225, 30, 0, 0, 0)), (76, 17, (0, 0, 9, 0, 0, 0))]), (30, [(-1, 2)]))]), (96, [(([(3, 62, 0, 0, 0, 1), (0, 0, 15, 0, 0, 0), (0, 0, 0, 0, 0, 0), (0, 0, 0, 0, 0, 0), (0, 0, 0, 0, 0, 0)], [], [(60, 14, (0, 0, 0, 0, 0, 0)), (60, 17, (0, 0, 0, 0, 0, 0)), (60, 18, (0, 70, 70, 0, 0, 0)), (60, 19, (0, 0, 40, 0, 0, 0)), (60, 20, (0, 40, 40, 0, 0, 0)), (60, 21, (0, 0, 40, 0, 0, 0)), (60, 22, (0, -1, -1, 0, 0, 0))]), (15, [(-1, 4)])), (([(3, 62, 0, 0, 0, 1), (0, 1, 15, 0, 0, 0), (0, 0, 0, 0, 0, 0), (0, 1, 1, 0, 0, 0), (0, 0, 9000000, 0, 0, 0)], [], [(60, 14, (0, 0, 0, 0, 0, 0)), (60, 17, (0, 0, 0, 0, 0, 0)), (60, 18, (0, 70, 70, 0, 0, 0)), (60, 19, (0, 0, 40, 0, 0, 0)), (60, 20, (0, 40, 40, 0, 0, 0)), (60, 21, (0, 0, 40, 0, 0, 0)), (60, 22, (0, -1, -1, 0, 0, 0)), (60, 33, (0, 1, 20, 0, 0, 0)), (76, 0, (0, 0, 9, 0, 0, 0)), (76, 1, (0, 0, 5, 0, 0, 0))]), (15, [(-1, 4)])), (([(3, 62, 0, 0, 0, 1), (0, 10, 15, 0, 0, 0), (0, 0, 0, 0, 0, 0), (0, 10, 10, 0, 0, 0), (0, 0, 90000000, 0, 0, 0)], [], [(60, 14, (0, 0, 0, 0, 0, 0)), (60, 17, (0, 0, 0, 0, 0, 0)), (60, 18, (0, 70, 70, 0, 0, 0)), (60, 19, (0, 0, 40, 0, 0, 0)), (60, 20, (0, 40, 40, 0, 0, 0)), (60, 21, (0, 0, 40, 0, 0, 0)), (60, 22, (0, -1, -1, 0, 0, 0)), (60, 33, (0, 1, 20, 0, 0, 0)), (76, 0, (0, 0, 9, 0, 0, 0)), (76, 1, (0, 0, 5, 0, 0, 0)), (76, 2, (0, 0, 9, 0, 0, 0)), (76, 3, (0, 0, 5, 0, 0, 0)), (76, 4, (0, 0, 9, 0, 0, 0)), (76, 5, (0, 0, 5, 0, 0, 0)), (76, 6, (0, 0, 9, 0, 0, 0)), (76, 7, (0, 0, 5, 0, 0, 0)), (76, 8, (0, 0, 9, 0, 0, 0)), (76, 9, (0, 0, 5, 0, 0, 0)), (76, 10, (0, 0, 9, 0, 0, 0)), (76, 11, (0, 0, 5, 0, 0, 0)), (76, 12, (0, 0, 9, 0, 0, 0)), (76, 13, (0, 0, 5, 0, 0, 0)), (76, 14, (0, 0, 9, 0, 0, 0)), (76, 15, (0, 0, 5, 0, 0, 0)), (76, 16, (0, 0, 9, 0, 0, 0)), (76, 17, (0, 0, 5, 0, 0, 0)), (76, 18, (0, 0, 9, 0, 0, 0)), (76, 19, (0, 0, 5, 0, 0, 0))]), (15, [(-1, 4)])), (([(3, 62, 0, 0, 0, 1), (0, 11, 15, 0, 0, 0), (0, 0, 0, 0, 0, 0), (0, 11, 11, 0, 0, 0), (0, 0, 99000000, 0, 0, 0)], [], [(60, 14, (0, 0, 0, 0, 0, 0)), (60, 17, (0, 0, 0, 0, 0, 0)), (60, 18, (0, 70, 70, 0, 0, 0)), (60, 19, (0, 0, 40, 0, 0, 0)), (60, 20, (0, 40, 40, 0, 0, 0)), (60, 21, (0, 0, 40, 0, 0, 0)), (60, 22, (0, -1, -1, 0, 0, 0)), (60, 33, (0, 1, 20, 0, 0, 0)), (76, 0, (0, 0, 9, 0, 0, 0)), (76, 1, (0, 0, 5, 0, 0, 0)), (76, 2, (0, 0, 9, 0, 0, 0)), (76, 3, (0, 0, 5, 0, 0, 0)), (76, 4, (0, 0, 9, 0, 0, 0)), (76, 5, (0, 0, 5, 0, 0, 0)), (76, 6, (0, 0, 9, 0, 0, 0)), (76, 7, (0, 0, 5, 0, 0, 0)), (76, 8, (0, 0, 9, 0, 0, 0)), (76, 9, (0, 0, 5, 0, 0, 0)), (76, 10, (0, 0, 9, 0, 0, 0)), (76, 11, (0, 0, 5, 0, 0, 0)), (76, 12, (0, 0, 9, 0, 0, 0)), (76, 13, (0, 0, 5, 0, 0, 0)), (76, 14, (0, 0, 9, 0, 0, 0)), (76, 15, (0, 0, 5, 0, 0, 0)), (76, 16, (0, 0, 9, 0, 0, 0)), (76, 17, (0, 0, 5, 0, 0, 0)), (76, 18, (0, 0, 9, 0, 0, 0)), (76, 19, (0, 0, 5, 0, 0, 0)), (76, 20, (0, 0, 9, 0, 0, 0)), (76, 21, (0, 0, 5, 0, 0, 0))]), (15, [(-1, 4)])), (([(3, 62, 0, 0, 0, 1), (0, 12, 15, 0, 0, 0), (0, 0, 0, 0, 0, 0), (0, 12, 12, 0, 0, 0), (0, 0, 108000000, 0, 0, 0)], [], [(60, 14, (0, 0, 0, 0, 0, 0)), (60, 17, (0, 0, 0, 0, 0, 0)), (60, 18, (0, 70, 70, 0, 0, 0)), (60, 19, (0, 0, 40, 0, 0, 0)), (60, 20, (0, 40, 40, 0, 0, 0)), (60, 21, (0, 0, 40, 0, 0, 0)), (60, 22, (0, -1, -1, 0, 0, 0)), (60, 33, (0, 1, 20, 0, 0, 0)), (76, 0, (0, 0, 9, 0, 0, 0)), (76, 1, (0, 0, 5, 0, 0, 0)), (76, 2, (0, 0, 9, 0, 0, 0)), (76, 3, (0, 0, 5, 0, 0, 0)), (76, 4, (0, 0, 9, 0, 0, 0)), (76, 5, (0, 0, 5, 0, 0, 0)), (76, 6, (0, 0, 9, 0, 0, 0)), (76, 7, (0, 0, 5, 0, 0, 0)), (76, 8, (0, 0, 9, 0, 0, 0)), (76, 9, (0, 0, 5, 0, 0, 0)), (76, 10, (0, 0, 9, 0, 0, 0)), (76, 11, (0, 0, 5, 0, 0, 0)), (76, 12, (0, 0, 9, 0, 0, 0)), (76, 13, (0, 0, 5, 0, 0, 0)), (76, 14, (0, 0, 9, 0, 0, 0)), (76, 15, (0, 0, 5, 0, 0, 0)), (76, 16, (0, 0, 9, 0, 0, 0)), (76, 17, (0, 0, 5, 0, 0, 0)), (76, 18, (0, 0, 9, 0, 0, 0)), (76, 19, (0, 0, 5, 0, 0, 0)), (76, 20, (0, 0, 9, 0, 0, 0)), (76, 21, (0, 0, 5, 0, 0, 0)), (76, 22, (0, 0, 9, 0, 0, 0)), (76, 23, (0, 0, 5, 0, 0, 0))]), (15, [(-1, 4)])), (([(3, 62, 0, 0, 0, 1), (0, 13, 15, 0, 0, 0), (0, 0, 0, 0, 0, 0), (0, 13, 13, 0, 0, 0), (0, 0, 117000000, 0, 0, 0)], [], [(60, 14, (0, 0, 0, 0, 0, 0)), (60, 17, (0, 0, 0, 0, 0, 0)), (60, 18, (0, 70, 70, 0, 0, 0)), (60, 19, (0, 0, 40, 0, 0, 0)), (60, 20, (0, 40, 40, 0, 0, 0)), (60, 21, (0, 0, 40, 0, 0, 0)), (60, 22, (0, -1, -1, 0, 0, 0)), (60, 33, (0, 1, 20, 0, 0, 0)), (76, 0, (0, 0, 9, 0, 0, 0)), (76, 1, (0, 0, 5, 0, 0, 0)), (76, 2, (0, 0, 9, 0, 0, 0)), (76, 3, (0, 0, 5, 0, 0, 0)), (76, 4, (0, 0, 9, 0, 0, 0)), (76, 5, (0, 0, 5, 0, 0, 0)), (76, 6, (0, 0, 9, 0, 0, 0)), (76, 7, (0, 0, 5, 0, 0, 0)), (76, 8, (0, 0, 9, 0, 0, 0)), (76, 9, (0, 0, 5, 0, 0, 0)), (76, 10, (0, 0, 9, 0, 0, 0)), (76, 11, (0, 0, 5, 0, 0, 0)), (76, 12, (0, 0, 9, 0, 0, 0)), (76, 13, (0, 0, 5, 0, 0, 0)), (76, 14, (0, 0, 9, 0, 0, 0)), (76, 15, (0, 0, 5, 0, 0, 0)), (76, 16, (0, 0, 9, 0, 0, 0)), (76, 17, (0, 0, 5, 0, 0, 0)), (76, 18, (0, 0, 9, 0, 0, 0)), (76, 19, (0, 0, 5, 0, 0, 0)), (76, 20, (0, 0, 9, 0, 0, 0)), (76, 21, (0, 0, 5, 0, 0, 0)), (76, 22, (0, 0, 9, 0, 0, 0)), (76, 23, (0, 0, 5, 0, 0, 0)), (76, 24, (0, 0, 9, 0, 0, 0)), (76, 25, (0, 0, 5, 0, 0, 0))]), (15, [(-1, 4)])), (([(3, 62, 0, 0, 0, 1), (0, 14, 15, 0, 0, 0), (0, 0, 0, 0, 0, 0), (0, 14, 14, 0, 0, 0), (0, 0, 126000000, 0, 0, 0)], [], [(60, 14, (0, 0, 0, 0, 0, 0)), (60, 17, (0, 0, 0, 0, 0, 0)), (60, 18, (0, 70, 70, 0, 0, 0)), (60, 19, (0, 0, 40, 0, 0, 0)), (60, 20, (0, 40, 40, 0, 0, 0)), (60, 21, (0, 0, 40, 0, 0, 0)), (60, 22, (0, -1, -1, 0, 0, 0)), (60, 33, (0, 1, 20, 0, 0, 0)), (76, 0, (0, 0, 9, 0, 0, 0)), (76, 1, (0, 0, 5, 0, 0, 0)), (76, 2, (0, 0, 9, 0, 0, 0)), (76, 3, (0, 0, 5, 0, 0, 0)), (76, 4, (0, 0, 9, 0, 0, 0)), (76, 5, (0, 0, 5, 0, 0, 0)), (76, 6, (0, 0, 9, 0, 0, 0)), (76, 7, (0, 0, 5, 0, 0, 0)), (76, 8, (0, 0, 9, 0, 0, 0)), (76, 9, (0, 0, 5, 0, 0, 0)), (76, 10, (0, 0, 9, 0, 0, 0)), (76, 11, (0, 0, 5, 0, 0, 0)), (76, 12, (0, 0, 9, 0, 0, 0)), (76, 13, (0, 0, 5, 0, 0, 0)), (76, 14, (0, 0, 9, 0, 0, 0)), (76, 15, (0, 0, 5, 0, 0, 0)), (76, 16, (0, 0, 9, 0, 0, 0)), (76, 17, (0, 0, 5, 0, 0, 0)), (76, 18, (0, 0, 9, 0, 0, 0)), (76, 19, (0, 0, 5, 0, 0, 0)), (76, 20, (0, 0, 9, 0, 0, 0)), (76, 21, (0, 0, 5, 0, 0, 0)), (76, 22, (0, 0, 9, 0, 0, 0)), (76, 23, (0, 0, 5, 0, 0, 0)), (76, 24, (0, 0, 9, 0, 0, 0)), (76, 25, (0, 0, 5, 0, 0, 0)), (76, 26, (0, 0, 9, 0, 0, 0)), (76, 27, (0, 0, 5, 0, 0, 0))]), (15, [(-1, 4)])), (([(3, 62, 0, 0, 0, 1), (0, 15, 15, 0, 0, 0), (0, 0, 0, 0, 0, 0), (0, 15, 15, 0, 0, 0), (0, 0, 135000000, 0, 0, 0)], [], [(60, 14, (0, 0, 0, 0, 0, 0)), (60, 17, (0, 0, 0, 0, 0, 0)), (60, 18, (0, 70, 70, 0, 0, 0)), (60, 19, (0, 0, 40, 0, 0, 0)), (60, 20, (0, 40, 40, 0, 0, 0)), (60, 21, (0, 0, 40, 0, 0, 0)), (60, 22, (0, -1, -1, 0, 0, 0)), (60, 33, (0, 1, 20, 0, 0, 0)), (76, 0, (0, 0, 9, 0, 0, 0)), (76, 1, (0, 0, 5, 0, 0, 0)), (76, 2, (0, 0, 9, 0, 0, 0)), (76, 3, (0, 0, 5, 0, 0, 0)), (76, 4, (0, 0, 9, 0, 0, 0)), (76, 5, (0, 0, 5, 0, 0, 0)), (76, 6, (0, 0, 9, 0, 0, 0)), (76, 7, (0, 0, 5, 0, 0, 0)), (76, 8, (0, 0, 9, 0, 0, 0)), (76, 9, (0, 0, 5, 0, 0, 0)), (76, 10, (0, 0, 9, 0, 0, 0)), (76, 11, (0, 0, 5, 0, 0, 0)), (76, 12, (0, 0, 9, 0, 0, 0)), (76, 13, (0, 0, 5, 0, 0, 0)), (76, 14, (0, 0, 9, 0, 0, 0)), (76, 15, (0, 0, 5, 0, 0, 0)), (76, 16, (0, 0, 9, 0, 0, 0)), (76, 17, (0, 0, 5, 0, 0, 0)), (76, 18, (0, 0, 9, 0, 0, 0)), (76, 19, (0, 0, 5, 0, 0, 0)), (76, 20, (0, 0, 9, 0, 0, 0)), (76, 21, (0, 0, 5, 0, 0, 0)), (76, 22, (0, 0, 9, 0, 0, 0)), (76, 23, (0, 0, 5, 0, 0, 0)), (76, 24, (0, 0, 9, 0, 0, 0)), (76, 25, (0, 0, 5, 0, 0, 0)), (76, 26, (0, 0, 9, 0, 0, 0)), (76, 27, (0, 0, 5, 0, 0, 0)), (76, 28, (0, 0, 9, 0, 0, 0)), (76, 29, (0, 0, 5, 0, 0, 0))]), (15, [(-1, 4)])), (([(3, 62, 0, 0, 0, 1), (0, 2, 15, 0, 0, 0), (0, 0, 0, 0, 0, 0), (0, 2, 2, 0, 0, 0), (0, 0, 18000000, 0, 0, 0)], [], [(60, 14, (0, 0, 0, 0, 0, 0)), (60, 17, (0, 0, 0, 0, 0, 0)), (60, 18, (0, 70, 70, 0, 0, 0)), (60, 19, (0, 0, 40, 0, 0, 0)), (60, 20, (0, 40, 40, 0, 0, 0)), (60, 21, (0, 0, 40, 0, 0, 0)), (60, 22, (0, -1, -1, 0, 0, 0)), (60, 33, (0, 1, 20, 0, 0, 0)), (76, 0, (0, 0, 9, 0, 0, 0)), (76, 1, (0, 0, 5, 0, 0, 0)), (76, 2, (0, 0, 9, 0, 0, 0)), (76, 3, (0, 0, 5, 0, 0, 0))]), (15, [(-1, 4)])), (([(3, 62, 0, 0, 0, 1), (0, 3, 15, 0, 0, 0), (0, 0, 0, 0, 0, 0), (0, 3, 3, 0, 0, 0), (0, 0, 27000000, 0, 0, 0)], [], [(60, 14, (0, 0, 0, 0, 0, 0)), (60, 17, (0, 0, 0, 0, 0, 0)), (60, 18, (0, 70, 70, 0, 0, 0)), (60, 19, (0, 0, 40, 0, 0, 0)), (60, 20, (0, 40, 40, 0, 0, 0)), (60, 21, (0, 0, 40, 0, 0, 0)), (60, 22, (0, -1, -1, 0, 0, 0)), (60, 33, (0, 1, 20, 0, 0, 0)), (76, 0, (0, 0, 9, 0, 0, 0)), (76, 1, (0, 0, 5, 0, 0, 0)), (76, 2, (0, 0, 9, 0, 0, 0)), (76, 3, (0, 0, 5, 0, 0, 0)), (76, 4, (0, 0, 9, 0, 0, 0)), (76, 5, (0, 0, 5, 0, 0, 0))]), (15, [(-1, 4)])), (([(3, 62, 0, 0, 0, 1), (0, 4, 15, 0, 0, 0), (0, 0, 0, 0, 0, 0), (0, 4, 4, 0, 0, 0), (0, 0, 36000000, 0, 0, 0)], [], [(60, 14, (0, 0, 0, 0, 0, 0)), (60, 17, (0, 0, 0, 0, 0, 0)), (60, 18, (0, 70, 70, 0, 0, 0)), (60, 19, (0, 0, 40, 0, 0, 0)), (60, 20, (0, 40, 40, 0, 0, 0)), (60, 21, (0, 0, 40, 0, 0, 0)), (60, 22, (0, -1, -1, 0, 0, 0)), (60, 33, (0, 1, 20, 0, 0, 0)), (76, 0, (0, 0, 9, 0, 0, 0)), (76, 1, (0, 0, 5, 0, 0, 0)), (76, 2, (0, 0, 9, 0, 0, 0)), (76, 3, (0, 0, 5, 0, 0, 0)), (76, 4, (0, 0, 9, 0, 0, 0)), (76, 5, (0, 0, 5, 0, 0, 0)), (76, 6, (0, 0, 9, 0, 0, 0)), (76, 7, (0, 0, 5, 0, 0, 0))]), (15, [(-1, 4)])), (([(3, 62, 0, 0, 0, 1), (0, 5, 15, 0, 0, 0), (0, 0, 0, 0, 0, 0), (0, 5, 5, 0, 0, 0), (0, 0, 45000000, 0, 0, 0)], [], [(60, 14, (0, 0, 0, 0, 0, 0)), (60, 17, (0, 0, 0, 0, 0, 0)), (60, 18, (0, 70, 70, 0, 0, 0)), (60, 19, (0, 0, 40, 0, 0, 0)), (60, 20, (0, 40, 40, 0, 0, 0)), (60, 21, (0, 0, 40, 0, 0, 0)), (60, 22, (0, -1, -1, 0, 0, 0)), (60, 33, (0, 1, 20, 0, 0, 0)), (76, 0, (0, 0, 9, 0, 0, 0)), (76, 1, (0, 0, 5, 0, 0, 0)), (76, 2, (0, 0, 9, 0, 0, 0)), (76, 3, (0, 0, 5, 0, 0, 0)), (76, 4, (0, 0, 9, 0, 0, 0)), (76, 5, (0, 0, 5, 0, 0, 0)), (76, 6, (0, 0, 9, 0, 0, 0)), (76, 7, (0, 0, 5, 0, 0, 0)), (76, 8, (0, 0, 9, 0, 0, 0)), (76, 9, (0, 0, 5, 0, 0, 0))]), (15, [(-1, 4)])), (([(3, 62, 0, 0, 0, 1), (0, 6, 15, 0, 0, 0), (0, 0, 0, 0, 0, 0), (0, 6, 6, 0, 0, 0), (0, 0, 54000000, 0, 0, 0)], [], [(60, 14, (0, 0, 0, 0, 0, 0)), (60, 17, (0, 0, 0, 0, 0, 0)), (60, 18, (0, 70, 70, 0, 0, 0)), (60, 19, (0, 0, 40, 0, 0, 0)), (60, 20, (0, 40, 40, 0, 0, 0)), (60, 21, (0, 0, 40, 0, 0, 0)), (60, 22, (0, -1, -1, 0, 0, 0)), (60, 33, (0, 1, 20, 0, 0, 0)), (76, 0, (0, 0, 9, 0, 0, 0)), (76, 1, (0, 0, 5, 0, 0, 0)), (76, 2, (0, 0, 9, 0, 0, 0)), (76, 3, (0, 0, 5, 0, 0, 0)), (76, 4, (0, 0, 9, 0, 0, 0)), (76, 5, (0, 0, 5, 0, 0, 0)), (76, 6, (0, 0, 9, 0, 0, 0)), (76, 7, (0, 0, 5, 0, 0, 0)), (76, 8, (0, 0, 9, 0, 0, 0)), (76, 9, (0, 0, 5, 0, 0, 0)), (76, 10, (0, 0, 9, 0, 0, 0)), (76, 11, (0, 0, 5, 0, 0, 0))]), (15, [(-1, 4)])), (([(3, 62, 0, 0, 0, 1), (0, 7, 15, 0, 0, 0), (0, 0, 0, 0, 0, 0), (0, 7, 7, 0, 0, 0), (0, 0, 63000000, 0, 0, 0)], [], [(60, 14, (0, 0, 0, 0, 0, 0)), (60, 17, (0, 0, 0, 0, 0, 0)), (60, 18, (0, 70, 70, 0, 0, 0)), (60, 19, (0, 0, 40, 0, 0, 0)), (60, 20, (0, 40, 40, 0, 0, 0)), (60, 21, (0, 0, 40, 0, 0, 0)), (60, 22, (0, -1, -1, 0, 0, 0)), (60, 33, (0, 1, 20, 0, 0, 0)), (76, 0, (0, 0, 9, 0, 0, 0)), (76, 1, (0, 0, 5, 0, 0, 0)), (76, 2, (0, 0, 9, 0, 0, 0)), (76, 3, (0, 0, 5, 0, 0, 0)), (76, 4, (0, 0, 9, 0, 0, 0)), (76, 5, (0, 0, 5, 0, 0, 0)), (76, 6, (0, 0, 9, 0, 0, 0)), (76, 7, (0, 0, 5, 0, 0, 0)), (76, 8, (0, 0, 9, 0, 0, 0)), (76, 9, (0, 0, 5, 0, 0, 0)), (76, 10, (0, 0, 9, 0, 0, 0)), (76, 11, (0, 0, 5, 0, 0, 0)), (76, 12, (0, 0, 9, 0, 0, 0)), (76, 13, (0, 0, 5, 0, 0, 0))]), (15, [(-1, 4)])), (([(3, 62, 0, 0, 0, 1), (0, 8, 15, 0, 0, 0), (0, 0, 0, 0, 0, 0), (0, 8, 8, 0, 0, 0), (0, 0, 72000000, 0, 0, 0)], [], [(60, 14, (0, 0, 0, 0, 0, 0)), (60, 17, (0, 0, 0, 0, 0, 0)), (60, 18, (0, 70, 70, 0, 0, 0)), (60, 19, (0, 0, 40, 0, 0, 0)), (60, 20, (0, 40, 40, 0, 0, 0)), (60, 21, (0, 0, 40, 0, 0, 0)), (60, 22, (0, -1, -1, 0, 0, 0)), (60, 33, (0, 1, 20, 0, 0, 0)), (76, 0, (0, 0, 9, 0, 0, 0)), (76, 1, (0, 0, 5, 0, 0, 0)), (76, 2, (0, 0, 9, 0, 0, 0)), (76, 3, (0, 0, 5, 0, 0, 0)), (76, 4, (0, 0, 9, 0, 0, 0)), (76, 5, (0, 0, 5, 0, 0, 0)), (76, 6, (0, 0, 9, 0, 0, 0)), (76, 7, (0, 0, 5, 0, 0, 0)), (76, 8, (0, 0, 9, 0, 0, 0)), (76, 9, (0, 0, 5, 0, 0, 0)), (76, 10, (0, 0, 9, 0, 0, 0)), (76, 11, (0, 0, 5, 0, 0, 0)), (76, 12, (0, 0, 9, 0, 0, 0)), (76, 13, (0, 0, 5, 0, 0, 0)), (76, 14, (0, 0, 9, 0, 0, 0)), (76, 15, (0, 0, 5, 0, 0, 0))]), (15, [(-1, 4)])), (([(3, 62, 0, 0, 0, 1), (0, 9, 15, 0, 0, 0), (0, 0, 0, 0, 0, 0), (0, 9, 9, 0, 0, 0), (0, 0, 81000000, 0, 0, 0)], [], [(60, 14, (0, 0, 0, 0, 0, 0)), (60, 17, (0, 0, 0, 0, 0, 0)), (60, 18, (0, 70, 70, 0, 0, 0)), (60, 19, (0, 0, 40, 0, 0, 0)), (60, 20, (0, 40, 40, 0, 0, 0)), (60, 21, (0, 0, 40, 0, 0, 0)), (60, 22, (0, -1, -1, 0, 0, 0)), (60, 33, (0, 1, 20, 0, 0, 0)), (76, 0, (0, 0, 9, 0, 0, 0)), (76, 1, (0, 0, 5, 0, 0, 0)), (76, 2, (0, 0, 9, 0, 0, 0)), (76, 3, (0, 0, 5, 0, 0, 0)), (76, 4, (0, 0, 9, 0, 0, 0)), (76, 5, (0, 0, 5, 0, 0, 0)), (76, 6, (0, 0, 9, 0, 0, 0)), (76, 7, (0, 0, 5, 0, 0, 0)), (76, 8, (0, 0, 9, 0, 0, 0)), (76, 9, (0, 0, 5, 0, 0, 0)), (76, 10, (0, 0, 9, 0, 0, 0)), (76, 11, (0, 0, 5, 0, 0, 0)), (76, 12, (0, 0, 9, 0, 0, 0)), (76, 13, (0, 0, 5, 0, 0, 0)), (76, 14, (0, 0, 9, 0, 0, 0)), (76, 15, (0, 0, 5, 0, 0, 0)), (76, 16, (0, 0, 9, 0, 0, 0)), (76, 17, (0, 0, 5, 0, 0, 0))]), (15, [(-1, 4)]))])]
set_option maxRecDepth 100000 in
theorem o_934 : okK 219 K_934 := okK_of (C := C_219) (fuel := 3000) rfl (A := A_219) Q_219 (ann := N_934) (spl := []) (mo := []) (by decide) (by decide +kernel)
set_option maxRecDepth 100000 in
theorem o_935 : okK 220 K_935 := okK_of (C := C_220) (fuel := 3000) rfl (A := A_220) Q_220 (ann := []) (spl := [(0, [(3937, 0), (3937, 1), (3937, 2), (3937, 3), (3937, 4), (3937, 5), (3937, 6), (3937, 7), (3937, 8), (3937, 9), (3937, 10), (3937, 11), (3937, 12), (3937, 13), (3937, 14), (3937, 15), (3937, 16), (3937, 17), (3937, 18), (3937, 19)])]) (mo := []) (by decide) (by decide +kernel)
set_option maxRecDepth 100000 in
theorem o_936 : okK 169 K_936 := okK_of (C := C_169) (fuel := 3000) rfl (A := A_169) Q_169 (ann := []) (spl := []) (mo := []) (by decide) (by decide +kernel)
set_option maxRecDepth 100000 in
theorem o_937 : okK 172 K_937 := okK_of (C := C_172) (fuel := 3000) rfl (A := A_172) Q_172 (ann := []) (spl := []) (mo := []) (by decide) (by decide +kernel)
def N_938 : aAnn := [(12, [(([(3, 62, 0, 0, 0, 1), (0, 0, 4, 0, 0, 2), (0, -2147483648, 2147483647, 0, 0, 3), (0, 0, 10, 0, 0, 0), aRef 0, aRef 0, aRef 0, aRef 0], [], [(60, 17, (0, 0, 0, 0, 0, 0))]), (26, [(-1, 4)]))]), (35, [(([(3, 62, 0, 0, 0, 1), (0, 0, 4, 0, 0, 2), (0, -2147483648, 2147483647, 0, 0, 3), (1, 0, 0, 0, 0, 0), (0, -2, 3, 0, 0, 0), (1, 0, 0, 0, 0, 0), (0, 0, 4, 0, 0, 0), (4, 0, 0, 0, 0, 0)], [], [(60, 17, (0, 0, 0, 0, 0, 0))]), (15, [(-1, 7)]))]), (85, [(([(3, 62, 0, 0, 0, 1), (0, 0, 4, 0, 0, 2), (0, -2147483648, 2147483647, 0, 0, 3), (1, 0, 0, 0, 0, 0), (0, -2, 3, 0, 0, 0), (1, 0, 0, 0, 0, 0), (0, 0, 1, 0, 0, 0), (0, 0, 10, 0, 0, 0)], [], [(60, 17, (0, 0, 0, 0, 0, 0))]), (10, [(-1, 8)]))])]
set_option maxRecDepth 100000 in
theorem o_938 : okK 221 K_938 := okK_of (C := C_221) (fuel := 3000) rfl (A := A_221) Q_221 (ann := N_938) (spl := [(49, [(8, 0), (8, 1), (8, 2), (8, 3), (8, 4), (8, 5), (8, 6), (8, 7), (8, 8), (8, 9), (8, 10), (8, 11), (8, 12), (8, 13), (8, 14), (8, 15), (8, 16), (8, 17), (8, 18), (8, 19), (8, 20), (8, 21), (8, 22), (8, 23), (8, 24), (8, 25), (8, 26), (8, 27), (8, 28), (8, 29), (8, 30), (8, 31), (8, 32), (8, 33), (8, 34), (8, 35), (8, 36), (8, 37), (8, 38), (8, 39), (8, 40), (8, 41), (8, 42), (8, 43), (8, 44), (8, 45), (8, 46), (8, 47), (8, 48), (8, 49), (8, 50), (8, 51), (8, 52), (8, 53), (8, 54), (8, 55), (8, 56), (8, 57), (8, 58), (8, 59), (8, 60), (8, 61), (8, 62), (8, 63), (8, 64), (8, 65), (8, 66), (8, 67), (8, 68), (8, 69), (8, 70), (8, 71), (8, 72), (8, 73), (8, 74), (8, 75), (8, 76), (8, 77), (8, 78), (8, 79), (8, 80), (8, 81), (8, 82), (8, 83), (8, 84), (8, 85), (8, 86), (8, 87), (8, 88), (8, 89), (8, 90), (8, 91), (8, 92), (8, 93), (8, 94), (8, 95), (8, 96), (8, 97), (8, 98), (8, 99), (8, 100), (8, 101), (8, 102), (8, 103), (8, 104), (8, 105), (8, 106), (8, 107), (8, 108), (8, 109), (8, 110), (8, 111), (8, 112), (8, 113), (8, 114), (8, 115), (8, 116), (8, 117), (8, 118), (8, 119), (8, 120), (8, 121), (8, 122), (8, 123), (8, 124), (8, 125), (8, 126)])]) (mo := []) (by decide) (by decide +kernel)
set_option maxRecDepth 100000 in
theorem o_939 : okK 172 K_939 := okK_of (C := C_172) (fuel := 3000) rfl (A := A_172) Q_172 (ann := []) (spl := []) (mo := []) (by decide) (by decide +kernel)
set_option maxRecDepth 100000 in
theorem o_940 : okK 172 K_940 := okK_of (C := C_172) (fuel := 3000) rfl (A := A_172) Q_172 (ann := []) (spl := []) (mo := []) (by decide) (by decide +kernel)
set_option maxRecDepth 100000 in
theorem o_941 : okK 172 K_941 := okK_of (C := C_172) (fuel := 3000) rfl (A := A_172) Q_172 (ann := []) (spl := []) (mo := []) (by decide) (by decide +kernel)
set_option maxRecDepth 100000 in
theorem o_942 : okK 172 K_942 := okK_of (C := C_172) (fuel := 3000) rfl (A := A_172) Q_172 (ann := []) (spl := []) (mo := []) (by decide) (by decide +kernel)
set_option maxRecDepth 100000 in
theorem o_943 : okK 172 K_943 := okK_of (C := C_172) (fuel := 3000) rfl (A := A_172) Q_172 (ann := []) (spl := []) (mo := []) (by decide) (by decide +kernel)
set_option maxRecDepth 100000 in
theorem o_944 : okK 172 K_944 := okK_of (C := C_172) (fuel := 3000) rfl (A := A_172) Q_172 (ann := []) (spl := []) (mo := []) (by decide) (by decide +kernel)
set_option maxRecDepth 100000 in
theorem o_945 : okK 172 K_945 := okK_of (C := C_172) (fuel := 3000) rfl (A := A_172) Q_172 (ann := []) (spl := []) (mo := []) (by decide) (by decide +kernel)
set_option maxRecDepth 100000 in
theorem o_946 : okK 172 K_946 := okK_of (C := C_172) (fuel := 3000) rfl (A := A_172) Q_172 (ann := []) (spl := []) (mo := []) (by decide) (by decide +kernel)
set_option maxRecDepth 100000 in
theorem o_947 : okK 222 K_947 := okK_of (C := C_222) (fuel := 3000) rfl (A := A_222) Q_222 (ann := []) (spl := []) (mo := []) (by decide) (by decide +kernel)
def N_948 : aAnn := [(4, [(([(3, 62, 0, 0, 0, 1), (0, -2147483648, 2147483647, 0, 0, 2), (1, 0, 0, 0, 0, 0), (0, 0, 10, 0, 0, 0)], [], []), (10, [(-1, 4)]))])]
set_option maxRecDepth 100000 in
theorem o_948 : okK 223 K_948 := okK_of (C := C_223) (fuel := 3000) rfl (A := A_223) Q_223 (ann := N_948) (spl := []) (mo := []) (by decide) (by decide +kernel)
def N_949 : aAnn := [(16, [(([(3, 62, 0, 0, 0, 1), (0, 0, 9, 0, 0, 0), (0, 1, 10, 0, 0, 0), aRef 0], [], [(60, 3, (0, 1, 10, 0, 0, 0)), (60, 17, (0, 0, 0, 0, 0, 0))]), (17, [(-1, 3)]))]), (41, [(([(3, 62, 0, 0, 0, 1), (0, 0, 9, 0, 0, 0), (0, 0, 63, 0, 0, 0), (0, 0, 6, 0, 0, 0)], [], [(60, 3, (0, 1, 10, 0, 0, 0)), (60, 17, (0, 0, 0, 0, 0, 0))]), (6, [(-1, 4)]))])]
set_option maxRecDepth 100000 in
theorem o_949 : okK 224 K_949 := okK_of (C := C_224) (fuel := 3000) rfl (A := A_224) Q_224 (ann := N_949) (spl := []) (mo := []) (by decide) (by decide +kernel)
def N_950 : aAnn := [(19, [(([(3, 62, 0, 0, 0, 1), (0, 0, 9, 0, 0, 2), (0, 0, 255, 0, 0, 0), (0, 0, 8, 0, 0, 0)], [], [(60, 17, (0, 0, 0, 0, 0, 0))]), (8, [(-1, 4)]))])]
set_option maxRecDepth 100000 in
theorem o_950 : okK 225 K_950 := okK_of (C := C_225) (fuel := 3000) rfl (A := A_225) Q_225 (ann := N_950) (spl := []) (mo := []) (by decide) (by decide +kernel)
def N_951 : aAnn := [(11, [(([(3, 62, 0, 0, 0, 1), (0, 0, 9, 0, 0, 2), (0, 0, 8, 0, 0, 0)], [], [(60, 17, (0, 0, 0, 0, 0, 0))]), (8, [(-1, 3)]))])]
set_option maxRecDepth 100000 in
theorem o_951 : okK 226 K_951 := okK_of (C := C_226) (fuel := 3000) rfl (A := A_226) Q_226 (ann := N_951) (spl := []) (mo := []) (by decide) (by decide +kernel)
def N_952 : aAnn := [(14, [(([(3, 62, 0, 0, 0, 1), (0, 0, 10, 0, 0, 0), (0, 0, 255, 0, 0, 0), (0, 0, 8, 0, 0, 0)], [], [(60, 17, (0, 0, 0, 0, 0, 0))]), (8, [(-1, 4)]))])]
set_option maxRecDepth 100000 in
theorem o_952 : okK 227 K_952 := okK_of (C := C_227) (fuel := 3000) rfl (A := A_227) Q_227 (ann := N_952) (spl := []) (mo := []) (by decide) (by decide +kernel)
def N_953 : aAnn := [(9, [(([(3, 62, 0, 0, 0, 1), (0, 0, 10, 0, 0, 0)], [], [(60, 0, (0, 1, 6, 0, 0, 0)), (60, 39, (0, 1, 1000000, 0, 0, 0))]), (10, [(-1, 2)]))])]
set_option maxRecDepth 100000 in
theorem o_953 : okK 228 K_953 := okK_of (C := C_228) (fuel := 3000) rfl (A := A_228) Q_228 (ann := N_953) (spl := []) (mo := []) (by decide) (by decide +kernel)
set_option maxRecDepth 100000 in
theorem o_954 : okK 229 K_954 := okK_of (C := C_229) (fuel := 3000) rfl (A := A_229) Q_229 (ann := []) (spl := []) (mo := []) (by decide) (by decide +kernel)
set_option maxRecDepth 100000 in
theorem o_955 : okK 170 K_955 := okK_of (C := C_170) (fuel := 3000) rfl (A := A_170) Q_170 (ann := []) (spl := []) (mo := []) (by decide) (by decide +kernel)
def N_956 : aAnn := [(7, [(([(3, 62, 0, 0, 0, 1), (3, 80, 0, 0, 0, 2), (0, 0, 5, 0, 0, 3), (1, 0, 0, 0, 0, 0), (0, 0, 10, 0, 0, 0)], [], []), (10, [(-1, 5)]))])]
set_option maxRecDepth 100000 in
theorem o_956 : okK 198 K_956 := okK_of (C := C_198) (fuel := 3000) rfl (A := A_198) Q_198 (ann := N_956) (spl := []) (mo := []) (by decide) (by decide +kernel)
def N_957 : aAnn := [(8, [(([(3, 62, 0, 0, 0, 1), (0, 0, 999999, 0, 0, 0), (0, -1, 9, 0, 0, 0)], [], [(60, 0, (0, 1, 6, 0, 0, 0)), (60, 40, (0, 0, 999999, 0, 0, 0))]), (19, [(1, 3)]))]), (34, [(([(3, 62, 0, 0, 0, 1), (0, 0, 999999, 0, 0, 0), (0, 0, 10, 0, 0, 0)], [], [(60, 0, (0, 1, 6, 0, 0, 0)), (60, 40, (0, 0, 999999, 0, 0, 0))]), (17, [(-1, 3)]))]), (53, [(([(3, 62, 0, 0, 0, 1), (0, 0, 999999, 0, 0, 0), (0, 0, 6, 0, 0, 0)], [], [(60, 0, (0, 1, 6, 0, 0, 0)), (60, 40, (0, 0, 999999, 0, 0, 0))]), (6, [(-1, 3)]))])]
set_option maxRecDepth 100000 in
theorem o_957 : okK 231 K_957 := okK_of (C := C_231) (fuel := 3000) rfl (A := A_231) Q_231 (ann := N_957) (spl := []) (mo := []) (by decide) (by decide +kernel)
def N_958 : aAnn := [(6, [(([(3, 62, 0, 0, 0, 1)], [], [(60, 0, (0, 1, 6, 0, 0, 0)), (60, 40, (0, 0, 1000000, 0, 0, 0))]), (1000000, [(-1, 3944)]))])]
set_option maxRecDepth 100000 in
theorem o_958 : okK 230 K_958 := okK_of (C := C_230) (fuel := 3000) rfl (A := A_230) Q_230 (ann := N_958) (spl := []) (mo := [(60, 40, 1)]) (by decide) (by decide +kernel)
set_option maxRecDepth 100000 in
theorem o_959 : okK 232 K_959 := okK_of (C := C_232) (fuel := 3000) rfl (A := A_232) Q_232 (ann := []) (spl := []) (mo := []) (by decide) (by decide +kernel)
def N_960 : aAnn := [(2, [(([(3, 62, 0, 0, 0, 1), (0, 0, 10, 0, 0, 0)], [], []), (10, [(-1, 2)]))])]
set_option maxRecDepth 100000 in
theorem o_960 : okK 233 K_960 := okK_of (C := C_233) (fuel := 3000) rfl (A := A_233) Q_233 (ann := N_960) (spl := []) (mo := []) (by decide) (by decide +kernel)
def N_961 : aAnn := [(12, [(([(3, 62, 0, 0, 0, 1), (1, 0, 0, 0, 0, 0)], [], [(60, 0, (0, 1, 6, 0, 0, 0)), (60, 17, (0, 0, 0, 0, 0, 0)), (60, 39, (0, 1, 20000, 0, 0, 0)), (60, 40, (0, -1, 999999, 0, 0, 0))]), (1999998, [(-2, 3944)]))])]
set_option maxRecDepth 100000 in
theorem o_961 : okK 234 K_961 := okK_of (C := C_234) (fuel := 3000) rfl (A := A_234) Q_234 (ann := N_961) (spl := []) (mo := []) (by decide) (by decide +kernel)
def N_963 : aAnn := [(9, [(([(3, 62, 0, 0, 0, 1), (0, 0, 0, 0, 0, 0)], [], [(60, 0, (0, 0, 0, 0, 0, 0)), (60, 3, (0, 0, 0, 0, 0, 0)), (60, 30, (0, 0, 0, 0, 0, 0)), (60, 39, (0, 1, 1, 0, 0, 0))]), (0, [(-1, 2)]))])]
set_option maxRecDepth 100000 in
theorem o_963 : okK 228 K_963 := okK_of (C := C_228) (fuel := 3000) rfl (A := A_228) Q_228 (ann := N_963) (spl := []) (mo := []) (by decide) (by decide +kernel)
def N_964 : aAnn := [(8, [(([(3, 62, 0, 0, 0, 1), (0, 0, 999999, 0, 0, 0), (0, -1, -1, 0, 0, 0)], [], [(60, 0, (0, 0, 0, 0, 0, 0)), (60, 3, (0, 0, 0, 0, 0, 0)), (60, 30, (0, 0, 0, 0, 0, 0)), (60, 40, (0, 0, 999999, 0, 0, 0))]), (3, [(1, 3)]))]), (34, [(([(3, 62, 0, 0, 0, 1), (0, 0, 999999, 0, 0, 0), (0, 0, 0, 0, 0, 0)], [], [(60, 0, (0, 0, 0, 0, 0, 0)), (60, 3, (0, 0, 0, 0, 0, 0)), (60, 30, (0, 0, 0, 0, 0, 0)), (60, 40, (0, 0, 999999, 0, 0, 0))]), (1, [(-1, 3)]))]), (53, [(([(3, 62, 0, 0, 0, 1), (0, 0, 999999, 0, 0, 0), (0, 0, 0, 0, 0, 0)], [], [(60, 0, (0, 0, 0, 0, 0, 0)), (60, 3, (0, 0, 0, 0, 0, 0)), (60, 30, (0, 0, 0, 0, 0, 0)), (60, 40, (0, 0, 999999, 0, 0, 0))]), (0, [(-1, 3)]))])]
set_option maxRecDepth 100000 in
theorem o_964 : okK 231 K_964 := okK_of (C := C_231) (fuel := 3000) rfl (A := A_231) Q_231 (ann := N_964) (spl := []) (mo := []) (by decide) (by decide +kernel)
def N_965 : aAnn := [(6, [(([(3, 62, 0, 0, 0, 1)], [], [(60, 0, (0, 0, 0, 0, 0, 0)), (60, 3, (0, 0, 0, 0, 0, 0)), (60, 30, (0, 0, 0, 0, 0, 0)), (60, 40, (0, 0, 1000000, 0, 0, 0))]), (1000000, [(-1, 3944)]))])]
set_option maxRecDepth 100000 in
theorem o_965 : okK 230 K_965 := okK_of (C := C_230) (fuel := 3000) rfl (A := A_230) Q_230 (ann := N_965) (spl := []) (mo := [(60, 40, 1)]) (by decide) (by decide +kernel)
def N_966 : aAnn := [(12, [(([(3, 62, 0, 0, 0, 1), (1, 0, 0, 0, 0, 0)], [], [(60, 0, (0, 0, 0, 0, 0, 0)), (60, 3, (0, 0, 0, 0, 0, 0)), (60, 17, (0, 0, 0, 0, 0, 0)), (60, 30, (0, 0, 0, 0, 0, 0)), (60, 39, (0, 1, 1, 0, 0, 0)), (60, 40, (0, -1, 999999, 0, 0, 0))]), (1999998, [(-2, 3944)]))])]
set_option maxRecDepth 100000 in
theorem o_966 : okK 234 K_966 := okK_of (C := C_234) (fuel := 3000) rfl (A := A_234) Q_234 (ann := N_966) (spl := []) (mo := []) (by decide) (by decide +kernel)
def N_967 : aAnn := [(4, [(([(3, 62, 0, 0, 0, 1), (3, 68, 0, 0, 0, 2), (1, 0, 0, 0, 0, 0), (0, 0, 10, 0, 0, 0)], [], []), (10, [(-1, 4)]))])]
set_option maxRecDepth 100000 in
theorem o_967 : okK 195 K_967 := okK_of (C := C_195) (fuel := 3000) rfl (A := A_195) Q_195 (ann := N_967) (spl := []) (mo := []) (by decide) (by decide +kernel)
set_option maxRecDepth 100000 in
theorem o_968 : okK 235 K_968 := okK_of (C := C_235) (fuel := 3000) rfl (A := A_235) Q_235 (ann := []) (spl := []) (mo := []) (by decide) (by decide +kernel)
def N_969 : aAnn := [(2, [(([(3, 62, 0, 0, 0, 1), (0, -1, 5, 0, 0, 2), (0, 0, 9, 0, 0, 3), (0, 0, 6, 0, 0, 0), aRef 0, aRef 0], [], []), (405, [(-1, 4)]))]), (20, [(([(3, 62, 0, 0, 0, 1), (0, -1, 5, 0, 0, 2), (0, 0, 9, 0, 0, 3), (0, 0, 6, 0, 0, 0), (4, 0, 0, 0, 0, 0), (4, 0, 0, 0, 0, 0)], [], []), (398, [(-57, 4)]))]), (26, [(([(3, 62, 0, 0, 0, 1), (0, -1, 5, 0, 0, 2), (0, 0, 9, 0, 0, 3), (0, 0, 5, 0, 0, 0), (0, 0, 6, 0, 0, 0), (4, 0, 0, 0, 0, 0)], [], [(60, 0, (0, 1, 6, 0, 0, 0))]), (397, [(-57, 4), (-8, 5)]))]), (32, [(([(3, 62, 0, 0, 0, 1), (0, -1, 5, 0, 0, 2), (0, 0, 9, 0, 0, 3), (0, 0, 5, 0, 0, 0), (0, 0, 5, 0, 0, 0), (0, 0, 6, 0, 0, 0)], [], [(60, 0, (0, 1, 6, 0, 0, 0))]), (396, [(-57, 4), (-8, 5), (-1, 6)]))])]
set_option maxRecDepth 100000 in
theorem o_969 : okK 207 K_969 := okK_of (C := C_207) (fuel := 3000) rfl (A := A_207) Q_207 (ann := N_969) (spl := []) (mo := []) (by decide) (by decide +kernel)
set_option maxRecDepth 100000 in
theorem o_970 : okK 208 K_970 := okK_of (C := C_208) (fuel := 3000) rfl (A := A_208) Q_208 (ann := []) (spl := []) (mo := []) (by decide) (by decide +kernel)
def N_971 : aAnn := [(4, [(([(3, 62, 0, 0, 0, 1), (3, 68, 0, 0, 0, 2), (0, 0, 0, 0, 0, 3), (3, 80, 0, 0, 0, 4), (0, 0, 0, 0, 0, 5), (0, 0, 0, 0, 0, 0), (0, 0, 0, 0, 0, 0), aRef 0], [], []), (10, [(-1, 7)])), (([(3, 62, 0, 0, 0, 1), (3, 68, 0, 0, 0, 2), (0, 0, 0, 0, 0, 3), (3, 80, 0, 0, 0, 4), (0, 0, 0, 0, 0, 5), (0, 0, 8999991, 0, 0, 0), (0, 1, 1, 0, 0, 0), (0, 0, 999999, 0, 0, 0)], [], [(60, 3, (0, 1, 10, 0, 0, 0))]), (10, [(-1, 7)])), (([(3, 62, 0, 0, 0, 1), (3, 68, 0, 0, 0, 2), (0, 0, 0, 0, 0, 3), (3, 80, 0, 0, 0, 4), (0, 0, 0, 0, 0, 5), (0, 0, 89999910, 0, 0, 0), (0, 10, 10, 0, 0, 0), (0, 0, 999999, 0, 0, 0)], [], [(60, 3, (0, 10, 10, 0, 0, 0))]), (10, [(-1, 7)])), (([(3, 62, 0, 0, 0, 1), (3, 68, 0, 0, 0, 2), (0, 0, 0, 0, 0, 3), (3, 80, 0, 0, 0, 4), (0, 0, 0, 0, 0, 5), (0, 0, 17999982, 0, 0, 0), (0, 2, 2, 0, 0, 0), (0, 0, 999999, 0, 0, 0)], [], [(60, 3, (0, 2, 10, 0, 0, 0))]), (10, [(-1, 7)])), (([(3, 62, 0, 0, 0, 1), (3, 68, 0, 0, 0, 2), (0, 0, 0, 0, 0, 3), (3, 80, 0, 0, 0, 4), (0, 0, 0, 0, 0, 5), (0, 0, 26999973, 0, 0, 0), (0, 3, 3, 0, 0, 0), (0, 0, 999999, 0, 0, 0)], [], [(60, 3, (0, 3, 10, 0, 0, 0))]), (10, [(-1, 7)])), (([(3, 62, 0, 0, 0, 1), (3, 68, 0, 0, 0, 2), (0, 0, 0, 0, 0, 3), (3, 80, 0, 0, 0, 4), (0, 0, 0, 0, 0, 5), (0, 0, 35999964, 0, 0, 0), (0, 4, 4, 0, 0, 0), (0, 0, 999999, 0, 0, 0)], [], [(60, 3, (0, 4, 10, 0, 0, 0))]), (10, [(-1, 7)])), (([(3, 62, 0, 0, 0, 1), (3, 68, 0, 0, 0, 2), (0, 0, 0, 0, 0, 3), (3, 80, 0, 0, 0, 4), (0, 0, 0, 0, 0, 5), (0, 0, 44999955, 0, 0, 0), (0, 5, 5, 0, 0, 0), (0, 0, 999999, 0, 0, 0)], [], [(60, 3, (0, 5, 10, 0, 0, 0))]), (10, [(-1, 7)])), (([(3, 62, 0, 0, 0, 1), (3, 68, 0, 0, 0, 2), (0, 0, 0, 0, 0, 3), (3, 80, 0, 0, 0, 4), (0, 0, 0, 0, 0, 5), (0, 0, 53999946, 0, 0, 0), (0, 6, 6, 0, 0, 0), (0, 0, 999999, 0, 0, 0)], [], [(60, 3, (0, 6, 10, 0, 0, 0))]), (10, [(-1, 7)])), (([(3, 62, 0, 0, 0, 1), (3, 68, 0, 0, 0, 2), (0, 0, 0, 0, 0, 3), (3, 80, 0, 0, 0, 4), (0, 0, 0, 0, 0, 5), (0, 0, 62999937, 0, 0, 0), (0, 7, 7, 0, 0, 0), (0, 0, 999999, 0, 0, 0)], [], [(60, 3, (0, 7, 10, 0, 0, 0))]), (10, [(-1, 7)])), (([(3, 62, 0, 0, 0, 1), (3, 68, 0, 0, 0, 2), (0, 0, 0, 0, 0, 3), (3, 80, 0, 0, 0, 4), (0, 0, 0, 0, 0, 5), (0, 0, 71999928, 0, 0, 0), (0, 8, 8, 0, 0, 0), (0, 0, 999999, 0, 0, 0)], [], [(60, 3, (0, 8, 10, 0, 0, 0))]), (10, [(-1, 7)])), (([(3, 62, 0, 0, 0, 1), (3, 68, 0, 0, 0, 2), (0, 0, 0, 0, 0, 3), (3, 80, 0, 0, 0, 4), (0, 0, 0, 0, 0, 5), (0, 0, 80999919, 0, 0, 0), (0, 9, 9, 0, 0, 0), (0, 0, 999999, 0, 0, 0)], [], [(60, 3, (0, 9, 10, 0, 0, 0))]), (10, [(-1, 7)]))])]
set_option maxRecDepth 100000 in
theorem o_971 : okK 209 K_971 := okK_of (C := C_209) (fuel := 3000) rfl (A := A_209) Q_209 (ann := N_971) (spl := []) (mo := []) (by decide) (by decide +kernel)
def N_972 : aAnn := [(9, [(([(3, 62, 0, 0, 0, 1), (0, -1, -1, 0, 0, 2), (0, 0, 0, 0, 0, 3), (0, 0, 1000000, 0, 0, 0), (4, 0, 0, 0, 0, 0)], [], [(60, 0, (0, 1, 6, 0, 0, 0)), (60, 39, (0, 1, 20000, 0, 0, 0)), (60, 40, (0, -1, 999999, 0, 0, 0))]), (1999998, [(-2, 3944)]))])]
set_option maxRecDepth 100000 in
theorem o_972 : okK 237 K_972 := okK_of (C := C_237) (fuel := 3000) rfl (A := A_237) Q_237 (ann := N_972) (spl := []) (mo := []) (by decide) (by decide +kernel)
set_option maxRecDepth 100000 in
theorem o_973 : okK 238 K_973 := okK_of (C := C_238) (fuel := 3000) rfl (A := A_238) Q_238 (ann := []) (spl := []) (mo := []) (by decide) (by decide +kernel)
def N_974 : aAnn := [(9, [(([(3, 62, 0, 0, 0, 1), (0, -1, -1, 0, 0, 2), (0, 0, 0, 0, 0, 3), (0, 0, 1000000, 0, 0, 0), (4, 0, 0, 0, 0, 0)], [], [(60, 0, (0, 0, 0, 0, 0, 0)), (60, 3, (0, 0, 0, 0, 0, 0)), (60, 30, (0, 0, 0, 0, 0, 0)), (60, 39, (0, 1, 1, 0, 0, 0)), (60, 40, (0, -1, 999999, 0, 0, 0))]), (1999998, [(-2, 3944)]))])]
set_option maxRecDepth 100000 in
theorem o_974 : okK 237 K_974 := okK_of (C := C_237) (fuel := 3000) rfl (A := A_237) Q_237 (ann := N_974) (spl := []) (mo := []) (by decide) (by decide +kernel)
set_option maxRecDepth 100000 in
theorem o_975 : okK 238 K_975 := okK_of (C := C_238) (fuel := 3000) rfl (A := A_238) Q_238 (ann := []) (spl := []) (mo := []) (by decide) (by decide +kernel)
set_option maxRecDepth 100000 in
theorem o_976 : okK 169 K_976 := okK_of (C := C_169) (fuel := 3000) rfl (A := A_169) Q_169 (ann := []) (spl := []) (mo := []) (by decide) (by decide +kernel)
def N_977 : aAnn := [(9, [(([(3, 62, 0, 0, 0, 1), (0, 0, 5, 0, 0, 2), (0, 0, 99, 0, 0, 3), (0, 0, 1000000, 0, 0, 0), (4, 0, 0, 0, 0, 0)], [], [(60, 0, (0, 1, 6, 0, 0, 0)), (60, 39, (0, 1, 20000, 0, 0, 0)), (60, 40, (0, -1, 999999, 0, 0, 0))]), (1999998, [(-2, 3944)]))])]
set_option maxRecDepth 100000 in
theorem o_977 : okK 237 K_977 := okK_of (C := C_237) (fuel := 3000) rfl (A := A_237) Q_237 (ann := N_977) (spl := []) (mo := []) (by decide) (by decide +kernel)
set_option maxRecDepth 100000 in
theorem o_978 : okK 239 K_978 := okK_of (C := C_239) (fuel := 3000) rfl (A := A_239) Q_239 (ann := []) (spl := []) (mo := []) (by decide) (by decide +kernel)
def N_979 : aAnn := [(9, [(([(3, 62, 0, 0, 0, 1), (0, 0, 5, 0, 0, 2), (0, 0, 99, 0, 0, 3), (0, 0, 1000000, 0, 0, 0), (4, 0, 0, 0, 0, 0)], [], [(60, 0, (0, 0, 0, 0, 0, 0)), (60, 3, (0, 0, 0, 0, 0, 0)), (60, 30, (0, 0, 0, 0, 0, 0)), (60, 39, (0, 1, 1, 0, 0, 0)), (60, 40, (0, -1, 999999, 0, 0, 0))]), (1999998, [(-2, 3944)]))])]
set_option maxRecDepth 100000 in
theorem o_979 : okK 237 K_979 := okK_of (C := C_237) (fuel := 3000) rfl (A := A_237) Q_237 (ann := N_979) (spl := []) (mo := []) (by decide) (by decide +kernel)
set_option maxRecDepth 100000 in
theorem o_980 : okK 239 K_980 := okK_of (C := C_239) (fuel := 3000) rfl (A := A_239) Q_239 (ann := []) (spl := []) (mo := []) (by decide) (by decide +kernel)
set_option maxRecDepth 100000 in
theorem o_981 : okK 172 K_981 := okK_of (C := C_172) (fuel := 3000) rfl (A := A_172) Q_172 (ann := []) (spl := []) (mo := []) (by decide) (by decide +kernel)
set_option maxRecDepth 100000 in
theorem o_982 : okK 232 K_982 := okK_of (C := C_232) (fuel := 3000) rfl (A := A_232) Q_232 (ann := []) (spl := []) (mo := []) (by decide) (by decide +kernel)
def N_983 : aAnn := [(19, [(([(3, 62, 0, 0, 0, 1), (1, 0, 0, 0, 0, 0), (0, 0, 5, 0, 0, 0), (4, 0, 0, 0, 0, 0), (4, 0, 0, 0, 0, 0)], [], [(60, 0, (0, 1, 6, 0, 0, 0)), (60, 17, (0, 0, 0, 0, 0, 0)), (60, 39, (0, 1, 20000, 0, 0, 0)), (60, 40, (0, -1, 999999, 0, 0, 0))]), (8999991, [(-9, 3944)]))]), (24, [(([(3, 62, 0, 0, 0, 1), (1, 0, 0, 0, 0, 0), (0, 0, 5, 0, 0, 0), (0, 0, 6, 0, 0, 0), (4, 0, 0, 0, 0, 0)], [], [(60, 0, (0, 1, 6, 0, 0, 0)), (60, 17, (0, 0, 0, 0, 0, 0)), (60, 39, (0, 1, 20000, 0, 0, 0)), (60, 40, (0, 0, 999999, 0, 0, 0))]), (8999998, [(-9, 3944), (-1, 4)]))])]
set_option maxRecDepth 100000 in
theorem o_983 : okK 240 K_983 := okK_of (C := C_240) (fuel := 3000) rfl (A := A_240) Q_240 (ann := N_983) (spl := []) (mo := []) (by decide) (by decide +kernel)
set_option maxRecDepth 100000 in
theorem o_984 : okK 169 K_984 := okK_of (C := C_169) (fuel := 3000) rfl (A := A_169) Q_169 (ann := []) (spl := []) (mo := []) (by decide) (by decide +kernel)
set_option maxRecDepth 100000 in
theorem o_985 : okK 169 K_985 := okK_of (C := C_169) (fuel := 3000) rfl (A := A_169) Q_169 (ann := []) (spl := []) (mo := []) (by decide) (by decide +kernel)
def N_986 : aAnn := [(29, [(([(3, 62, 0, 0, 0, 1), (0, 1, 99, 0, 0, 2), (0, 0, 255, 0, 0, 3), (0, 0, 1023, 0, 0, 0), (0, 0, 8, 0, 0, 0), aRef 0, aRef 0, aRef 0], [], [(60, 0, (0, 1, 6, 0, 0, 0)), (60, 17, (0, 0, 0, 0, 0, 0)), (60, 39, (0, 1, 20000, 0, 0, 0)), (60, 40, (0, -1, 1000000, 0, 0, 0))]), (86000093, [(-1, 5)]))]), (52, [(([(3, 62, 0, 0, 0, 1), (0, 1, 99, 0, 0, 2), (0, 0, 255, 0, 0, 3), (0, 0, 1023, 0, 0, 0), (0, 0, 63, 0, 0, 0), (4, 0, 0, 0, 0, 0), (4, 0, 0, 0, 0, 0), (4, 0, 0, 0, 0, 0)], [], [(60, 0, (0, 1, 6, 0, 0, 0)), (60, 17, (0, 0, 0, 0, 0, 0)), (60, 39, (0, 1, 20000, 0, 0, 0)), (60, 40, (0, -1, 999999, 0, 0, 0))]), (85999914, [(-86, 3944)]))]), (57, [(([(3, 62, 0, 0, 0, 1), (0, 1, 99, 0, 0, 2), (0, 0, 255, 0, 0, 3), (0, 0, 1023, 0, 0, 0), (0, 0, 63, 0, 0, 0), (0, 0, 6, 0, 0, 0), (4, 0, 0, 0, 0, 0), (4, 0, 0, 0, 0, 0)], [], [(60, 0, (0, 1, 6, 0, 0, 0)), (60, 17, (0, 0, 0, 0, 0, 0)), (60, 39, (0, 1, 20000, 0, 0, 0)), (60, 40, (0, 0, 999999, 0, 0, 0))]), (85999998, [(-86, 3944), (-12, 6)]))]), (74, [(([(3, 62, 0, 0, 0, 1), (0, 1, 99, 0, 0, 2), (0, 0, 255, 0, 0, 3), (0, 0, 1023, 0, 0, 0), (0, 0, 63, 0, 0, 0), (0, 0, 5, 0, 0, 0), (0, 0, 1, 0, 0, 0), (0, 0, 10, 0, 0, 0)], [], [(60, 0, (0, 1, 6, 0, 0, 0)), (60, 17, (0, 0, 0, 0, 0, 0)), (60, 39, (0, 1, 20000, 0, 0, 0)), (60, 40, (0, 0, 999999, 0, 0, 0))]), (85999997, [(-86, 3944), (-12, 6), (-1, 8)]))])]
set_option maxRecDepth 100000 in
theorem o_986 : okK 241 K_986 := okK_of (C := C_241) (fuel := 3000) rfl (A := A_241) Q_241 (ann := N_986) (spl := []) (mo := []) (by decide) (by decide +kernel)
def N_987 : aAnn := [(29, [(([(3, 62, 0, 0, 0, 1), (0, 1, 99, 0, 0, 2), (0, 0, 255, 0, 0, 3), (0, 0, 1023, 0, 0, 0), (0, 0, 8, 0, 0, 0), aRef 0, aRef 0, aRef 0], [], [(60, 0, (0, 0, 0, 0, 0, 0)), (60, 3, (0, 0, 0, 0, 0, 0)), (60, 17, (0, 0, 0, 0, 0, 0)), (60, 30, (0, 0, 0, 0, 0, 0)), (60, 39, (0, 1, 1, 0, 0, 0)), (60, 40, (0, -1, 1000000, 0, 0, 0))]), (3000010, [(-1, 5)]))]), (52, [(([(3, 62, 0, 0, 0, 1), (0, 1, 99, 0, 0, 2), (0, 0, 255, 0, 0, 3), (0, 0, 1023, 0, 0, 0), (0, 0, 0, 0, 0, 0), (4, 0, 0, 0, 0, 0), aRef 0, aRef 0], [], [(60, 0, (0, 0, 0, 0, 0, 0)), (60, 3, (0, 0, 0, 0, 0, 0)), (60, 17, (0, 0, 0, 0, 0, 0)), (60, 30, (0, 0, 0, 0, 0, 0)), (60, 39, (0, 1, 1, 0, 0, 0)), (60, 40, (0, -1, 999999, 0, 0, 0))]), (2999997, [(-3, 3944)]))]), (57, [(([(3, 62, 0, 0, 0, 1), (0, 1, 99, 0, 0, 2), (0, 0, 255, 0, 0, 3), (0, 0, 1023, 0, 0, 0), (0, 0, 0, 0, 0, 0), (0, 0, 0, 0, 0, 0), aRef 0, aRef 0], [], [(60, 0, (0, 0, 0, 0, 0, 0)), (60, 3, (0, 0, 0, 0, 0, 0)), (60, 17, (0, 0, 0, 0, 0, 0)), (60, 30, (0, 0, 0, 0, 0, 0)), (60, 39, (0, 1, 1, 0, 0, 0)), (60, 40, (0, 0, 999999, 0, 0, 0))]), (2999998, [(-3, 3944), (-1, 6)]))])]
set_option maxRecDepth 100000 in
theorem o_987 : okK 241 K_987 := okK_of (C := C_241) (fuel := 3000) rfl (A := A_241) Q_241 (ann := N_987) (spl := []) (mo := []) (by decide) (by decide +kernel)
def N_988 : aAnn := [(27, [(([(3, 62, 0, 0, 0, 1), (0, 0, 9, 0, 0, 2), (0, 0, 9, 0, 0, 3), (1, 0, 0, 0, 0, 0), (1, 0, 0, 0, 0, 0)], [], [(60, 0, (0, 1, 6, 0, 0, 0)), (60, 17, (0, 0, 0, 0, 0, 0)), (60, 39, (0, 1, 20000, 0, 0, 0)), (60, 40, (0, -1, 999999, 0, 0, 0))]), (1999998, [(-2, 3944)]))])]
set_option maxRecDepth 100000 in
theorem o_988 : okK 243 K_988 := okK_of (C := C_243) (fuel := 3000) rfl (A := A_243) Q_243 (ann := N_988) (spl := []) (mo := []) (by decide) (by decide +kernel)
def N_989 : aAnn := [(27, [(([(3, 62, 0, 0, 0, 1), (0, 0, 9, 0, 0, 2), (0, 0, 9, 0, 0, 3), (1, 0, 0, 0, 0, 0), (1, 0, 0, 0, 0, 0)], [], [(60, 0, (0, 0, 0, 0, 0, 0)), (60, 3, (0, 0, 0, 0, 0, 0)), (60, 17, (0, 0, 0, 0, 0, 0)), (60, 30, (0, 0, 0, 0, 0, 0)), (60, 39, (0, 1, 1, 0, 0, 0)), (60, 40, (0, -1, 999999, 0, 0, 0))]), (1999998, [(-2, 3944)]))])]
set_option maxRecDepth 100000 in
theorem o_989 : okK 243 K_989 := okK_of (C := C_243) (fuel := 3000) rfl (A := A_243) Q_243 (ann := N_989) (spl := []) (mo := []) (by decide) (by decide +kernel)
def N_990 : aAnn := [(18, [(([(3, 62, 0, 0, 0, 1), (0, 0, 5, 0, 0, 2), (1, 0, 0, 0, 0, 0), (4, 0, 0, 0, 0, 0)], [], [(60, 0, (0, 1, 6, 0, 0, 0)), (60, 17, (0, 0, 0, 0, 0, 0)), (60, 39, (0, 1, 20000, 0, 0, 0)), (60, 40, (0, -1, 999999, 0, 0, 0))]), (1999998, [(-2, 3944)]))])]
set_option maxRecDepth 100000 in
theorem o_990 : okK 244 K_990 := okK_of (C := C_244) (fuel := 3000) rfl (A := A_244) Q_244 (ann := N_990) (spl := []) (mo := []) (by decide) (by decide +kernel)
def N_991 : aAnn := [(18, [(([(3, 62, 0, 0, 0, 1), (0, 0, 5, 0, 0, 2), (1, 0, 0, 0, 0, 0), (4, 0, 0, 0, 0, 0)], [], [(60, 0, (0, 0, 0, 0, 0, 0)), (60, 3, (0, 0, 0, 0, 0, 0)), (60, 17, (0, 0, 0, 0, 0, 0)), (60, 30, (0, 0, 0, 0, 0, 0)), (60, 39, (0, 1, 1, 0, 0, 0)), (60, 40, (0, -1, 999999, 0, 0, 0))]), (1999998, [(-2, 3944)]))])]
set_option maxRecDepth 100000 in
theorem o_991 : okK 244 K_991 := okK_of (C := C_244) (fuel := 3000) rfl (A := A_244) Q_244 (ann := N_991) (spl := []) (mo := []) (by decide) (by decide +kernel)
def N_993 : aAnn := [(4, [(([(3, 62, 0, 0, 0, 1), (3, 80, 0, 0, 0, 2), (0, 0, 63, 0, 0, 0), (0, 0, 6, 0, 0, 0)], [], []), (6, [(-1, 4)]))])]
set_option maxRecDepth 100000 in
theorem o_993 : okK 211 K_993 := okK_of (C := C_211) (fuel := 3000) rfl (A := A_211) Q_211 (ann := N_993) (spl := []) (mo := []) (by decide) (by decide +kernel)
set_option maxRecDepth 100000 in
theorem o_994 : okK 212 K_994 := okK_of (C := C_212) (fuel := 3000) rfl (A := A_212) Q_212 (ann := []) (spl := []) (mo := []) (by decide) (by decide +kernel)
def N_995 : aAnn := [(18, [(([(3, 62, 0, 0, 0, 1), (0, 0, 5, 0, 0, 2), (0, 0, 5, 0, 0, 3), (0, 0, 10, 0, 0, 0)], [], [(60, 17, (0, 0, 0, 0, 0, 0))]), (10, [(-1, 4)]))])]
set_option maxRecDepth 100000 in
theorem o_995 : okK 245 K_995 := okK_of (C := C_245) (fuel := 3000) rfl (A := A_245) Q_245 (ann := N_995) (spl := []) (mo := []) (by decide) (by decide +kernel)
def N_996 : aAnn := [(6, [(([(3, 62, 0, 0, 0, 1)], [], [(60, 0, (0, 1, 6, 0, 0, 0)), (60, 40, (0, 0, 1000000, 0, 0, 0))]), (1000000, [(-1, 3944)]))])]
set_option maxRecDepth 100000 in
theorem o_996 : okK 230 K_996 := okK_of (C := C_230) (fuel := 3000) rfl (A := A_230) Q_230 (ann := N_996) (spl := []) (mo := [(60, 40, 1)]) (by decide) (by decide +kernel)
set_option maxRecDepth 100000 in
theorem o_997 : okK 247 K_997 := okK_of (C := C_247) (fuel := 3000) rfl (A := A_247) Q_247 (ann := []) (spl := []) (mo := []) (by decide) (by decide +kernel)
def N_998 : aAnn := [(12, [(([(3, 62, 0, 0, 0, 1), (0, -1, 1023, 0, 0, 0), (0, 0, 1024, 0, 0, 0), (4, 0, 0, 0, 0, 0), (4, 0, 0, 0, 0, 0)], [], [(60, 0, (0, 1, 6, 0, 0, 0)), (60, 17, (0, 0, 0, 0, 0, 0)), (60, 38, (0, 0, 1023, 0, 0, 0)), (60, 39, (0, 1, 20000, 0, 0, 0))]), (12299, [(-12, 3)]))]), (22, [(([(3, 62, 0, 0, 0, 1), (0, -1, 1023, 0, 0, 0), (0, 0, 1023, 0, 0, 0), (0, 0, 1023, 0, 0, 0), (0, 0, 10, 0, 0, 0)], [], [(60, 0, (0, 1, 6, 0, 0, 0)), (60, 17, (0, 0, 0, 0, 0, 0)), (60, 38, (0, 0, 1023, 0, 0, 0)), (60, 39, (0, 1, 20000, 0, 0, 0))]), (12298, [(-12, 3), (-1, 5)]))])]
set_option maxRecDepth 100000 in
theorem o_998 : okK 246 K_998 := okK_of (C := C_246) (fuel := 3000) rfl (A := A_246) Q_246 (ann := N_998) (spl := []) (mo := []) (by decide) (by decide +kernel)
def N_999 : aAnn := [(12, [(([(3, 62, 0, 0, 0, 1), (0, -1, 0, 0, 0, 0), (0, 0, 1, 0, 0, 0), (4, 0, 0, 0, 0, 0), (4, 0, 0, 0, 0, 0)], [], [(60, 0, (0, 0, 0, 0, 0, 0)), (60, 3, (0, 0, 0, 0, 0, 0)), (60, 17, (0, 0, 0, 0, 0, 0)), (60, 30, (0, 0, 0, 0, 0, 0)), (60, 38, (0, 0, 0, 0, 0, 0)), (60, 39, (0, 1, 1, 0, 0, 0))]), (3, [(-2, 3)]))]), (22, [(([(3, 62, 0, 0, 0, 1), (0, -1, 0, 0, 0, 0), (0, 0, 0, 0, 0, 0), (0, 0, 0, 0, 0, 0), (0, 0, 0, 0, 0, 0)], [], [(60, 0, (0, 0, 0, 0, 0, 0)), (60, 3, (0, 0, 0, 0, 0, 0)), (60, 17, (0, 0, 0, 0, 0, 0)), (60, 30, (0, 0, 0, 0, 0, 0)), (60, 38, (0, 0, 0, 0, 0, 0)), (60, 39, (0, 1, 1, 0, 0, 0))]), (2, [(-2, 3), (-1, 5)]))])]
set_option maxRecDepth 100000 in
theorem o_999 : okK 246 K_999 := okK_of (C := C_246) (fuel := 3000) rfl (A := A_246) Q_246 (ann := N_999) (spl := []) (mo := []) (by decide) (by decide +kernel)
def N_1000 : aAnn := [(2, [(([(3, 62, 0, 0, 0, 1), (0, 0, 5, 0, 0, 2), (0, 1, 9, 0, 0, 3), (0, 0, 6, 0, 0, 0), aRef 0, aRef 0], [], []), (405, [(-1, 4)]))]), (20, [(([(3, 62, 0, 0, 0, 1), (0, 0, 5, 0, 0, 2), (0, 1, 9, 0, 0, 3), (0, 0, 6, 0, 0, 0), (4, 0, 0, 0, 0, 0), (4, 0, 0, 0, 0, 0)], [], []), (398, [(-57, 4)]))]), (26, [(([(3, 62, 0, 0, 0, 1), (0, 0, 5, 0, 0, 2), (0, 1, 9, 0, 0, 3), (0, 0, 5, 0, 0, 0), (0, 0, 6, 0, 0, 0), (4, 0, 0, 0, 0, 0)], [], [(60, 0, (0, 1, 6, 0, 0, 0))]), (397, [(-57, 4), (-8, 5)]))]), (32, [(([(3, 62, 0, 0, 0, 1), (0, 0, 5, 0, 0, 2), (0, 1, 9, 0, 0, 3), (0, 0, 5, 0, 0, 0), (0, 0, 5, 0, 0, 0), (0, 0, 6, 0, 0, 0)], [], [(60, 0, (0, 1, 6, 0, 0, 0))]), (396, [(-57, 4), (-8, 5), (-1, 6)]))])]
set_option maxRecDepth 100000 in
theorem o_1000 : okK 207 K_1000 := okK_of (C := C_207) (fuel := 3000) rfl (A := A_207) Q_207 (ann := N_1000) (spl := []) (mo := []) (by decide) (by decide +kernel)
def N_1001 : aAnn := [(15, [(([(3, 62, 0, 0, 0, 1), (0, 0, 5, 0, 0, 2), (0, 0, 5, 0, 0, 3), (0, 0, 9, 0, 0, 0)], [], [(60, 17, (0, 0, 0, 0, 0, 0))]), (0, [(1, 4)]))])]
set_option maxRecDepth 100000 in
theorem o_1001 : okK 251 K_1001 := okK_of (C := C_251) (fuel := 3000) rfl (A := A_251) Q_251 (ann := N_1001) (spl := []) (mo := []) (by decide) (by decide +kernel)
def N_1002 : aAnn := [(7, [(([(3, 62, 0, 0, 0, 1), (0, 0, 1023, 0, 0, 0), (0, 0, 10, 0, 0, 0), (4, 0, 0, 0, 0, 0)], [], [(60, 17, (0, 0, 0, 0, 0, 0))]), (87, [(-8, 3)]))]), (13, [(([(3, 62, 0, 0, 0, 1), (0, 0, 1023, 0, 0, 0), (0, 0, 9, 0, 0, 0), (0, 0, 6, 0, 0, 0)], [], [(60, 3, (0, 1, 10, 0, 0, 0)), (60, 17, (0, 0, 0, 0, 0, 0))]), (86, [(-8, 3), (-1, 4)]))])]
set_option maxRecDepth 100000 in
theorem o_1002 : okK 252 K_1002 := okK_of (C := C_252) (fuel := 3000) rfl (A := A_252) Q_252 (ann := N_1002) (spl := []) (mo := []) (by decide) (by decide +kernel)
set_option maxRecDepth 100000 in
theorem o_1003 : okK 172 K_1003 := okK_of (C := C_172) (fuel := 3000) rfl (A := A_172) Q_172 (ann := []) (spl := []) (mo := []) (by decide) (by decide +kernel)
set_option maxRecDepth 100000 in
theorem o_1004 : okK 185 K_1004 := okK_of (C := C_185) (fuel := 3000) rfl (A := A_185) Q_185 (ann := []) (spl := []) (mo := []) (by decide) (by decide +kernel)
def N_1005 : aAnn := [(2, [(([(3, 62, 0, 0, 0, 1), (0, -2147483648, 2147483647, 0, 0, 2), (0, 0, 9, 0, 0, 3), (0, 0, 6, 0, 0, 0), aRef 0, aRef 0], [], []), (405, [(-1, 4)]))]), (20, [(([(3, 62, 0, 0, 0, 1), (0, -2147483648, 2147483647, 0, 0, 2), (0, 0, 9, 0, 0, 3), (0, 0, 6, 0, 0, 0), (4, 0, 0, 0, 0, 0), (4, 0, 0, 0, 0, 0)], [], []), (398, [(-57, 4)]))]), (26, [(([(3, 62, 0, 0, 0, 1), (0, -2147483648, 2147483647, 0, 0, 2), (0, 0, 9, 0, 0, 3), (0, 0, 5, 0, 0, 0), (0, 0, 6, 0, 0, 0), (4, 0, 0, 0, 0, 0)], [], [(60, 0, (0, 1, 6, 0, 0, 0))]), (397, [(-57, 4), (-8, 5)]))]), (32, [(([(3, 62, 0, 0, 0, 1), (0, -2147483648, 2147483647, 0, 0, 2), (0, 0, 9, 0, 0, 3), (0, 0, 5, 0, 0, 0), (0, 0, 5, 0, 0, 0), (0, 0, 6, 0, 0, 0)], [], [(60, 0, (0, 1, 6, 0, 0, 0))]), (396, [(-57, 4), (-8, 5), (-1, 6)]))])]
set_option maxRecDepth 100000 in
theorem o_1005 : okK 207 K_1005 := okK_of (C := C_207) (fuel := 3000) rfl (A := A_207) Q_207 (ann := N_1005) (spl := []) (mo := []) (by decide) (by decide +kernel)
set_option maxRecDepth 100000 in
theorem o_1006 : okK 208 K_1006 := okK_of (C := C_208) (fuel := 3000) rfl (A := A_208) Q_208 (ann := []) (spl := []) (mo := []) (by decide) (by decide +kernel)
def N_1007 : aAnn := [(4, [(([(3, 62, 0, 0, 0, 1), (0, -2147483648, 2147483647, 0, 0, 2), (1, 0, 0, 0, 0, 0), (0, 0, 10, 0, 0, 0)], [], []), (10, [(-1, 4)]))])]
set_option maxRecDepth 100000 in
theorem o_1007 : okK 253 K_1007 := okK_of (C := C_253) (fuel := 3000) rfl (A := A_253) Q_253 (ann := N_1007) (spl := []) (mo := []) (by decide) (by decide +kernel)
set_option maxRecDepth 100000 in
theorem o_1008 : okK 185 K_1008 := okK_of (C := C_185) (fuel := 3000) rfl (A := A_185) Q_185 (ann := []) (spl := []) (mo := []) (by decide) (by decide +kernel)
def N_1009 : aAnn := [(17, [(([(3, 62, 0, 0, 0, 1), (0, 0, 5, 0, 0, 2), (0, -2, 5, 0, 0, 0), (0, 0, 5, 0, 0, 0), (1, 0, 0, 0, 0, 0), (0, 0, 6, 0, 0, 0), (4, 0, 0, 0, 0, 0), (4, 0, 0, 0, 0, 0), (4, 0, 0, 0, 0, 0)], [], [(60, 17, (0, 0, 0, 0, 0, 0))]), (48, [(-7, 6)]))]), (25, [(([(3, 62, 0, 0, 0, 1), (0, 0, 5, 0, 0, 2), (0, -2, 5, 0, 0, 0), (0, 0, 5, 0, 0, 0), (1, 0, 0, 0, 0, 0), (0, 0, 5, 0, 0, 0), (0, 1, 6, 0, 0, 0), (4, 0, 0, 0, 0, 0), (4, 0, 0, 0, 0, 0)], [], [(60, 0, (0, 1, 6, 0, 0, 0)), (60, 17, (0, 0, 0, 0, 0, 0))]), (48, [(-7, 6), (-1, 7)]))])]
set_option maxRecDepth 100000 in
theorem o_1009 : okK 254 K_1009 := okK_of (C := C_254) (fuel := 3000) rfl (A := A_254) Q_254 (ann := N_1009) (spl := []) (mo := []) (by decide) (by decide +kernel)
set_option maxRecDepth 100000 in
theorem o_1010 : okK 169 K_1010 := okK_of (C := C_169) (fuel := 3000) rfl (A := A_169) Q_169 (ann := []) (spl := []) (mo := []) (by decide) (by decide +kernel)
set_option maxRecDepth 100000 in
theorem o_1011 : okK 255 K_1011 := okK_of (C := C_255) (fuel := 3000) rfl (A := A_255) Q_255 (ann := []) (spl := []) (mo := []) (by decide) (by decide +kernel)
