section
/-! the contracts that are proved by hand (by program) -/
theorem o_485 : okK 188 K_485 := ⟨by decide, fun d hd _ => cOK_held (q := 70) (by decide) hd⟩
theorem o_502 : okK 200 K_502 := ⟨by decide, fun d hd _ => cOK_fc1 hd⟩
theorem o_504 : okK 188 K_504 := ⟨by decide, fun d hd _ => cOK_held (q := 73) (by decide) hd⟩
theorem o_537 : okK 200 K_537 := ⟨by decide, fun d hd _ => cOK_fc0 hd⟩
theorem o_568 : okK 210 K_568 := ⟨by decide, fun d hd _ => cOK_pd (o := 78) rfl (fun M S T sv h => m_parted_78 hd h)⟩
theorem o_585 : okK 210 K_585 := ⟨by decide, fun d hd _ => cOK_pd (o := 81) rfl (fun M S T sv h => m_parted_81 hd h)⟩
theorem o_590 : okK 210 K_590 := ⟨by decide, fun d hd _ => cOK_pd (o := 66) rfl (fun M S T sv h => m_parted_66 hd h)⟩
end
section
/-! all contracts (by program) -/
theorem ol_0 : okL 0 [K_1] := ⟨o_1, trivial⟩
theorem ol_1 : okL 1 [K_3] := ⟨o_3, trivial⟩
theorem ol_2 : okL 2 [K_166] := ⟨o_166, trivial⟩
theorem ol_3 : okL 3 [K_214] := ⟨o_214, trivial⟩
theorem ol_4 : okL 4 [] := trivial
theorem ol_5 : okL 5 [] := trivial
theorem ol_6 : okL 6 [K_215] := ⟨o_215, trivial⟩
theorem ol_7 : okL 7 [K_219] := ⟨o_219, trivial⟩
theorem ol_8 : okL 8 [K_221] := ⟨o_221, trivial⟩
theorem ol_9 : okL 9 [K_222] := ⟨o_222, trivial⟩
theorem ol_10 : okL 10 [K_224] := ⟨o_224, trivial⟩
theorem ol_11 : okL 11 [K_234] := ⟨o_234, trivial⟩
theorem ol_12 : okL 12 [K_245] := ⟨o_245, trivial⟩
theorem ol_13 : okL 13 [K_261] := ⟨o_261, trivial⟩
theorem ol_14 : okL 14 [K_265] := ⟨o_265, trivial⟩
theorem ol_15 : okL 15 [K_827, K_276] := ⟨o_827, ⟨o_276, trivial⟩⟩
theorem ol_16 : okL 16 [K_278] := ⟨o_278, trivial⟩
theorem ol_17 : okL 17 [K_618, K_619, K_620, K_621, K_622, K_623, K_624, K_625, K_626, K_627, K_628, K_629, K_282] := ⟨o_618, ⟨o_619, ⟨o_620, ⟨o_621, ⟨o_622, ⟨o_623, ⟨o_624, ⟨o_625, ⟨o_626, ⟨o_627, ⟨o_628, ⟨o_629, ⟨o_282, trivial⟩⟩⟩⟩⟩⟩⟩⟩⟩⟩⟩⟩⟩
theorem ol_18 : okL 18 [K_630, K_631, K_632, K_633, K_634, K_635, K_636, K_637, K_638, K_639, K_640, K_641, K_295] := ⟨o_630, ⟨o_631, ⟨o_632, ⟨o_633, ⟨o_634, ⟨o_635, ⟨o_636, ⟨o_637, ⟨o_638, ⟨o_639, ⟨o_640, ⟨o_641, ⟨o_295, trivial⟩⟩⟩⟩⟩⟩⟩⟩⟩⟩⟩⟩⟩
theorem ol_19 : okL 19 [K_297] := ⟨o_297, trivial⟩
theorem ol_20 : okL 20 [K_298] := ⟨o_298, trivial⟩
theorem ol_21 : okL 21 [K_320] := ⟨o_320, trivial⟩
theorem ol_22 : okL 22 [K_385] := ⟨o_385, trivial⟩
theorem ol_23 : okL 23 [K_751, K_690, K_691, K_692, K_693, K_694, K_695, K_696, K_697, K_698, K_699, K_700, K_701, K_753, K_755, K_757, K_759, K_761, K_763, K_765, K_767, K_769, K_771, K_389] := ⟨o_751, ⟨o_690, ⟨o_691, ⟨o_692, ⟨o_693, ⟨o_694, ⟨o_695, ⟨o_696, ⟨o_697, ⟨o_698, ⟨o_699, ⟨o_700, ⟨o_701, ⟨o_753, ⟨o_755, ⟨o_757, ⟨o_759, ⟨o_761, ⟨o_763, ⟨o_765, ⟨o_767, ⟨o_769, ⟨o_771, ⟨o_389, trivial⟩⟩⟩⟩⟩⟩⟩⟩⟩⟩⟩⟩⟩⟩⟩⟩⟩⟩⟩⟩⟩⟩⟩⟩
theorem ol_24 : okL 24 [K_774, K_777, K_780, K_783, K_786, K_789, K_792, K_795, K_798, K_801, K_804, K_392] := ⟨o_774, ⟨o_777, ⟨o_780, ⟨o_783, ⟨o_786, ⟨o_789, ⟨o_792, ⟨o_795, ⟨o_798, ⟨o_801, ⟨o_804, ⟨o_392, trivial⟩⟩⟩⟩⟩⟩⟩⟩⟩⟩⟩⟩
theorem ol_25 : okL 25 [K_805, K_806, K_807, K_808, K_809, K_810, K_811, K_812, K_813, K_814, K_815, K_393] := ⟨o_805, ⟨o_806, ⟨o_807, ⟨o_808, ⟨o_809, ⟨o_810, ⟨o_811, ⟨o_812, ⟨o_813, ⟨o_814, ⟨o_815, ⟨o_393, trivial⟩⟩⟩⟩⟩⟩⟩⟩⟩⟩⟩⟩
theorem ol_26 : okL 26 [K_397] := ⟨o_397, trivial⟩
theorem ol_27 : okL 27 [K_400] := ⟨o_400, trivial⟩
theorem ol_28 : okL 28 [K_403] := ⟨o_403, trivial⟩
theorem ol_29 : okL 29 [K_405] := ⟨o_405, trivial⟩
theorem ol_30 : okL 30 [K_406] := ⟨o_406, trivial⟩
theorem ol_31 : okL 31 [K_642, K_643, K_644, K_645, K_646, K_647, K_648, K_649, K_650, K_651, K_652, K_653, K_408] := ⟨o_642, ⟨o_643, ⟨o_644, ⟨o_645, ⟨o_646, ⟨o_647, ⟨o_648, ⟨o_649, ⟨o_650, ⟨o_651, ⟨o_652, ⟨o_653, ⟨o_408, trivial⟩⟩⟩⟩⟩⟩⟩⟩⟩⟩⟩⟩⟩
theorem ol_32 : okL 32 [K_654, K_655, K_656, K_657, K_658, K_659, K_660, K_661, K_662, K_663, K_664, K_665, K_410] := ⟨o_654, ⟨o_655, ⟨o_656, ⟨o_657, ⟨o_658, ⟨o_659, ⟨o_660, ⟨o_661, ⟨o_662, ⟨o_663, ⟨o_664, ⟨o_665, ⟨o_410, trivial⟩⟩⟩⟩⟩⟩⟩⟩⟩⟩⟩⟩⟩
theorem ol_33 : okL 33 [K_411] := ⟨o_411, trivial⟩
theorem ol_34 : okL 34 [K_702, K_703, K_704, K_705, K_706, K_707, K_708, K_709, K_710, K_711, K_712, K_713, K_413] := ⟨o_702, ⟨o_703, ⟨o_704, ⟨o_705, ⟨o_706, ⟨o_707, ⟨o_708, ⟨o_709, ⟨o_710, ⟨o_711, ⟨o_712, ⟨o_713, ⟨o_413, trivial⟩⟩⟩⟩⟩⟩⟩⟩⟩⟩⟩⟩⟩
theorem ol_35 : okL 35 [K_414] := ⟨o_414, trivial⟩
theorem ol_36 : okL 36 [K_417] := ⟨o_417, trivial⟩
theorem ol_37 : okL 37 [K_666, K_667, K_668, K_669, K_670, K_671, K_672, K_673, K_674, K_675, K_676, K_677, K_422] := ⟨o_666, ⟨o_667, ⟨o_668, ⟨o_669, ⟨o_670, ⟨o_671, ⟨o_672, ⟨o_673, ⟨o_674, ⟨o_675, ⟨o_676, ⟨o_677, ⟨o_422, trivial⟩⟩⟩⟩⟩⟩⟩⟩⟩⟩⟩⟩⟩
theorem ol_38 : okL 38 [K_425] := ⟨o_425, trivial⟩
theorem ol_39 : okL 39 [K_678, K_679, K_680, K_681, K_682, K_683, K_684, K_685, K_686, K_687, K_688, K_689, K_435] := ⟨o_678, ⟨o_679, ⟨o_680, ⟨o_681, ⟨o_682, ⟨o_683, ⟨o_684, ⟨o_685, ⟨o_686, ⟨o_687, ⟨o_688, ⟨o_689, ⟨o_435, trivial⟩⟩⟩⟩⟩⟩⟩⟩⟩⟩⟩⟩⟩
theorem ol_40 : okL 40 [K_714, K_715, K_716, K_717, K_718, K_719, K_720, K_721, K_722, K_723, K_724, K_725, K_445] := ⟨o_714, ⟨o_715, ⟨o_716, ⟨o_717, ⟨o_718, ⟨o_719, ⟨o_720, ⟨o_721, ⟨o_722, ⟨o_723, ⟨o_724, ⟨o_725, ⟨o_445, trivial⟩⟩⟩⟩⟩⟩⟩⟩⟩⟩⟩⟩⟩
theorem ol_41 : okL 41 [K_816, K_727, K_729, K_731, K_733, K_735, K_737, K_739, K_741, K_743, K_745, K_747, K_749, K_817, K_818, K_819, K_820, K_821, K_822, K_823, K_824, K_825, K_826, K_460] := ⟨o_816, ⟨o_727, ⟨o_729, ⟨o_731, ⟨o_733, ⟨o_735, ⟨o_737, ⟨o_739, ⟨o_741, ⟨o_743, ⟨o_745, ⟨o_747, ⟨o_749, ⟨o_817, ⟨o_818, ⟨o_819, ⟨o_820, ⟨o_821, ⟨o_822, ⟨o_823, ⟨o_824, ⟨o_825, ⟨o_826, ⟨o_460, trivial⟩⟩⟩⟩⟩⟩⟩⟩⟩⟩⟩⟩⟩⟩⟩⟩⟩⟩⟩⟩⟩⟩⟩⟩
theorem ol_42 : okL 42 [K_467] := ⟨o_467, trivial⟩
theorem ol_43 : okL 43 [K_473] := ⟨o_473, trivial⟩
theorem ol_44 : okL 44 [K_478] := ⟨o_478, trivial⟩
theorem ol_45 : okL 45 [K_480] := ⟨o_480, trivial⟩
theorem ol_46 : okL 46 [] := trivial
theorem ol_47 : okL 47 [K_226, K_259, K_262, K_263, K_264, K_268, K_279, K_306, K_310, K_404, K_427, K_438, K_444, K_455] := ⟨o_226, ⟨o_259, ⟨o_262, ⟨o_263, ⟨o_264, ⟨o_268, ⟨o_279, ⟨o_306, ⟨o_310, ⟨o_404, ⟨o_427, ⟨o_438, ⟨o_444, ⟨o_455, trivial⟩⟩⟩⟩⟩⟩⟩⟩⟩⟩⟩⟩⟩⟩
theorem ol_48 : okL 48 [K_4, K_5, K_6, K_7, K_8, K_9, K_10, K_11, K_12, K_149, K_150, K_151, K_152, K_153, K_154, K_155, K_156, K_157, K_212, K_266, K_301, K_308, K_469, K_471, K_475, K_477] := ⟨o_4, ⟨o_5, ⟨o_6, ⟨o_7, ⟨o_8, ⟨o_9, ⟨o_10, ⟨o_11, ⟨o_12, ⟨o_149, ⟨o_150, ⟨o_151, ⟨o_152, ⟨o_153, ⟨o_154, ⟨o_155, ⟨o_156, ⟨o_157, ⟨o_212, ⟨o_266, ⟨o_301, ⟨o_308, ⟨o_469, ⟨o_471, ⟨o_475, ⟨o_477, trivial⟩⟩⟩⟩⟩⟩⟩⟩⟩⟩⟩⟩⟩⟩⟩⟩⟩⟩⟩⟩⟩⟩⟩⟩⟩⟩
theorem ol_49 : okL 49 [K_160] := ⟨o_160, trivial⟩
theorem ol_50 : okL 50 [K_468] := ⟨o_468, trivial⟩
theorem ol_51 : okL 51 [K_230, K_275] := ⟨o_230, ⟨o_275, trivial⟩⟩
theorem ol_52 : okL 52 [K_233] := ⟨o_233, trivial⟩
theorem ol_53 : okL 53 [K_244] := ⟨o_244, trivial⟩
theorem ol_54 : okL 54 [K_256] := ⟨o_256, trivial⟩
theorem ol_55 : okL 55 [K_255] := ⟨o_255, trivial⟩
theorem ol_56 : okL 56 [K_424] := ⟨o_424, trivial⟩
theorem ol_57 : okL 57 [K_426] := ⟨o_426, trivial⟩
theorem ol_58 : okL 58 [K_750, K_772, K_752, K_754, K_756, K_758, K_760, K_762, K_764, K_766, K_768, K_770, K_775, K_778, K_781, K_784, K_787, K_790, K_793, K_796, K_799, K_802, K_319, K_387] := ⟨o_750, ⟨o_772, ⟨o_752, ⟨o_754, ⟨o_756, ⟨o_758, ⟨o_760, ⟨o_762, ⟨o_764, ⟨o_766, ⟨o_768, ⟨o_770, ⟨o_775, ⟨o_778, ⟨o_781, ⟨o_784, ⟨o_787, ⟨o_790, ⟨o_793, ⟨o_796, ⟨o_799, ⟨o_802, ⟨o_319, ⟨o_387, trivial⟩⟩⟩⟩⟩⟩⟩⟩⟩⟩⟩⟩⟩⟩⟩⟩⟩⟩⟩⟩⟩⟩⟩⟩
theorem ol_59 : okL 59 [K_773, K_776, K_779, K_782, K_785, K_788, K_791, K_794, K_797, K_800, K_803, K_391] := ⟨o_773, ⟨o_776, ⟨o_779, ⟨o_782, ⟨o_785, ⟨o_788, ⟨o_791, ⟨o_794, ⟨o_797, ⟨o_800, ⟨o_803, ⟨o_391, trivial⟩⟩⟩⟩⟩⟩⟩⟩⟩⟩⟩⟩
theorem ol_60 : okL 60 [K_396] := ⟨o_396, trivial⟩
theorem ol_61 : okL 61 [K_726, K_728, K_730, K_732, K_734, K_736, K_738, K_740, K_742, K_744, K_746, K_748, K_453] := ⟨o_726, ⟨o_728, ⟨o_730, ⟨o_732, ⟨o_734, ⟨o_736, ⟨o_738, ⟨o_740, ⟨o_742, ⟨o_744, ⟨o_746, ⟨o_748, ⟨o_453, trivial⟩⟩⟩⟩⟩⟩⟩⟩⟩⟩⟩⟩⟩
theorem ol_62 : okL 62 [K_13, K_158] := ⟨o_13, ⟨o_158, trivial⟩⟩
theorem ol_63 : okL 63 [K_119, K_216] := ⟨o_119, ⟨o_216, trivial⟩⟩
theorem ol_64 : okL 64 [K_225] := ⟨o_225, trivial⟩
theorem ol_65 : okL 65 [K_120, K_217] := ⟨o_120, ⟨o_217, trivial⟩⟩
theorem ol_66 : okL 66 [K_416] := ⟨o_416, trivial⟩
theorem ol_67 : okL 67 [K_159] := ⟨o_159, trivial⟩
theorem ol_68 : okL 68 [K_161] := ⟨o_161, trivial⟩
theorem ol_69 : okL 69 [K_300] := ⟨o_300, trivial⟩
theorem ol_70 : okL 70 [K_141, K_142, K_144, K_143] := ⟨o_141, ⟨o_142, ⟨o_144, ⟨o_143, trivial⟩⟩⟩⟩
theorem ol_71 : okL 71 [K_88] := ⟨o_88, trivial⟩
theorem ol_72 : okL 72 [K_107] := ⟨o_107, trivial⟩
theorem ol_73 : okL 73 [K_419, K_121, K_220, K_418, K_420] := ⟨o_419, ⟨o_121, ⟨o_220, ⟨o_418, ⟨o_420, trivial⟩⟩⟩⟩⟩
theorem ol_74 : okL 74 [K_218] := ⟨o_218, trivial⟩
theorem ol_75 : okL 75 [K_479] := ⟨o_479, trivial⟩
theorem ol_76 : okL 76 [K_223] := ⟨o_223, trivial⟩
theorem ol_77 : okL 77 [K_323] := ⟨o_323, trivial⟩
theorem ol_78 : okL 78 [K_227] := ⟨o_227, trivial⟩
theorem ol_79 : okL 79 [K_415] := ⟨o_415, trivial⟩
theorem ol_80 : okL 80 [K_228] := ⟨o_228, trivial⟩
theorem ol_81 : okL 81 [K_412] := ⟨o_412, trivial⟩
theorem ol_82 : okL 82 [K_229] := ⟨o_229, trivial⟩
theorem ol_83 : okL 83 [K_407, K_428] := ⟨o_407, ⟨o_428, trivial⟩⟩
theorem ol_84 : okL 84 [K_421] := ⟨o_421, trivial⟩
theorem ol_85 : okL 85 [K_446] := ⟨o_446, trivial⟩
theorem ol_86 : okL 86 [K_235, K_269, K_429, K_439] := ⟨o_235, ⟨o_269, ⟨o_429, ⟨o_439, trivial⟩⟩⟩⟩
theorem ol_87 : okL 87 [K_239, K_272, K_432, K_440] := ⟨o_239, ⟨o_272, ⟨o_432, ⟨o_440, trivial⟩⟩⟩⟩
theorem ol_88 : okL 88 [K_240, K_273, K_433, K_441] := ⟨o_240, ⟨o_273, ⟨o_433, ⟨o_441, trivial⟩⟩⟩⟩
theorem ol_89 : okL 89 [K_237, K_271, K_431] := ⟨o_237, ⟨o_271, ⟨o_431, trivial⟩⟩⟩
theorem ol_90 : okL 90 [K_236, K_270, K_430] := ⟨o_236, ⟨o_270, ⟨o_430, trivial⟩⟩⟩
theorem ol_91 : okL 91 [K_257, K_274, K_434] := ⟨o_257, ⟨o_274, ⟨o_434, trivial⟩⟩⟩
theorem ol_92 : okL 92 [K_299] := ⟨o_299, trivial⟩
theorem ol_93 : okL 93 [K_321] := ⟨o_321, trivial⟩
theorem ol_94 : okL 94 [K_283] := ⟨o_283, trivial⟩
theorem ol_95 : okL 95 [K_296] := ⟨o_296, trivial⟩
theorem ol_96 : okL 96 [K_162, K_284, K_285, K_286, K_287, K_288, K_289, K_290, K_291, K_292, K_293] := ⟨o_162, ⟨o_284, ⟨o_285, ⟨o_286, ⟨o_287, ⟨o_288, ⟨o_289, ⟨o_290, ⟨o_291, ⟨o_292, ⟨o_293, trivial⟩⟩⟩⟩⟩⟩⟩⟩⟩⟩⟩
theorem ol_97 : okL 97 [K_294] := ⟨o_294, trivial⟩
theorem ol_98 : okL 98 [K_164] := ⟨o_164, trivial⟩
theorem ol_99 : okL 99 [K_163] := ⟨o_163, trivial⟩
theorem ol_100 : okL 100 [K_402] := ⟨o_402, trivial⟩
theorem ol_101 : okL 101 [K_280] := ⟨o_280, trivial⟩
theorem ol_102 : okL 102 [K_238] := ⟨o_238, trivial⟩
theorem ol_103 : okL 103 [K_281] := ⟨o_281, trivial⟩
theorem ol_104 : okL 104 [K_399] := ⟨o_399, trivial⟩
theorem ol_105 : okL 105 [K_398] := ⟨o_398, trivial⟩
theorem ol_106 : okL 106 [K_409] := ⟨o_409, trivial⟩
theorem ol_107 : okL 107 [K_148] := ⟨o_148, trivial⟩
theorem ol_108 : okL 108 [K_145] := ⟨o_145, trivial⟩
theorem ol_109 : okL 109 [K_128] := ⟨o_128, trivial⟩
theorem ol_110 : okL 110 [K_96] := ⟨o_96, trivial⟩
theorem ol_111 : okL 111 [K_106] := ⟨o_106, trivial⟩
theorem ol_112 : okL 112 [K_447] := ⟨o_447, trivial⟩
theorem ol_113 : okL 113 [K_452] := ⟨o_452, trivial⟩
theorem ol_114 : okL 114 [K_448] := ⟨o_448, trivial⟩
theorem ol_115 : okL 115 [K_449] := ⟨o_449, trivial⟩
theorem ol_116 : okL 116 [K_450] := ⟨o_450, trivial⟩
theorem ol_117 : okL 117 [K_451] := ⟨o_451, trivial⟩
theorem ol_118 : okL 118 [K_456] := ⟨o_456, trivial⟩
theorem ol_119 : okL 119 [K_459, K_466] := ⟨o_459, ⟨o_466, trivial⟩⟩
theorem ol_120 : okL 120 [K_454, K_463] := ⟨o_454, ⟨o_463, trivial⟩⟩
theorem ol_121 : okL 121 [K_458, K_465] := ⟨o_458, ⟨o_465, trivial⟩⟩
theorem ol_122 : okL 122 [K_457, K_464] := ⟨o_457, ⟨o_464, trivial⟩⟩
theorem ol_123 : okL 123 [K_462] := ⟨o_462, trivial⟩
theorem ol_124 : okL 124 [K_461] := ⟨o_461, trivial⟩
theorem ol_125 : okL 125 [K_470, K_472] := ⟨o_470, ⟨o_472, trivial⟩⟩
theorem ol_126 : okL 126 [K_474, K_476] := ⟨o_474, ⟨o_476, trivial⟩⟩
theorem ol_127 : okL 127 [K_241] := ⟨o_241, trivial⟩
theorem ol_128 : okL 128 [K_242, K_243, K_311, K_312, K_313, K_314, K_315, K_316, K_317, K_318, K_386, K_258, K_267, K_277] := ⟨o_242, ⟨o_243, ⟨o_311, ⟨o_312, ⟨o_313, ⟨o_314, ⟨o_315, ⟨o_316, ⟨o_317, ⟨o_318, ⟨o_386, ⟨o_258, ⟨o_267, ⟨o_277, trivial⟩⟩⟩⟩⟩⟩⟩⟩⟩⟩⟩⟩⟩⟩
theorem ol_129 : okL 129 [K_165] := ⟨o_165, trivial⟩
theorem ol_130 : okL 130 [K_232] := ⟨o_232, trivial⟩
theorem ol_131 : okL 131 [K_231] := ⟨o_231, trivial⟩
theorem ol_132 : okL 132 [K_14, K_167, K_324, K_423] := ⟨o_14, ⟨o_167, ⟨o_324, ⟨o_423, trivial⟩⟩⟩⟩
theorem ol_133 : okL 133 [K_79, K_134, K_346, K_27, K_65, K_337, K_344, K_24, K_97, K_328, K_335, K_90, K_342, K_125, K_44, K_76, K_131, K_170, K_333, K_59, K_187, K_359, K_83, K_69, K_52, K_22, K_15, K_325] := ⟨o_79, ⟨o_134, ⟨o_346, ⟨o_27, ⟨o_65, ⟨o_337, ⟨o_344, ⟨o_24, ⟨o_97, ⟨o_328, ⟨o_335, ⟨o_90, ⟨o_342, ⟨o_125, ⟨o_44, ⟨o_76, ⟨o_131, ⟨o_170, ⟨o_333, ⟨o_59, ⟨o_187, ⟨o_359, ⟨o_83, ⟨o_69, ⟨o_52, ⟨o_22, ⟨o_15, ⟨o_325, trivial⟩⟩⟩⟩⟩⟩⟩⟩⟩⟩⟩⟩⟩⟩⟩⟩⟩⟩⟩⟩⟩⟩⟩⟩⟩⟩⟩⟩
theorem ol_134 : okL 134 [K_102, K_382] := ⟨o_102, ⟨o_382, trivial⟩⟩
theorem ol_135 : okL 135 [K_81, K_67, K_80, K_139, K_347, K_28, K_33, K_66, K_338, K_122, K_18, K_26, K_50, K_329, K_138, K_32, K_123, K_42, K_74, K_57, K_84, K_70, K_53, K_188, K_360, K_35, K_358, K_17, K_327] := ⟨o_81, ⟨o_67, ⟨o_80, ⟨o_139, ⟨o_347, ⟨o_28, ⟨o_33, ⟨o_66, ⟨o_338, ⟨o_122, ⟨o_18, ⟨o_26, ⟨o_50, ⟨o_329, ⟨o_138, ⟨o_32, ⟨o_123, ⟨o_42, ⟨o_74, ⟨o_57, ⟨o_84, ⟨o_70, ⟨o_53, ⟨o_188, ⟨o_360, ⟨o_35, ⟨o_358, ⟨o_17, ⟨o_327, trivial⟩⟩⟩⟩⟩⟩⟩⟩⟩⟩⟩⟩⟩⟩⟩⟩⟩⟩⟩⟩⟩⟩⟩⟩⟩⟩⟩⟩⟩
theorem ol_136 : okL 136 [K_146] := ⟨o_146, trivial⟩
theorem ol_137 : okL 137 [K_82, K_68, K_118, K_51, K_113, K_147, K_252, K_89, K_93, K_124, K_43, K_47, K_75, K_58, K_62, K_117, K_36, K_39, K_111, K_112, K_249, K_189, K_361] := ⟨o_82, ⟨o_68, ⟨o_118, ⟨o_51, ⟨o_113, ⟨o_147, ⟨o_252, ⟨o_89, ⟨o_93, ⟨o_124, ⟨o_43, ⟨o_47, ⟨o_75, ⟨o_58, ⟨o_62, ⟨o_117, ⟨o_36, ⟨o_39, ⟨o_111, ⟨o_112, ⟨o_249, ⟨o_189, ⟨o_361, trivial⟩⟩⟩⟩⟩⟩⟩⟩⟩⟩⟩⟩⟩⟩⟩⟩⟩⟩⟩⟩⟩⟩⟩
theorem ol_138 : okL 138 [K_133, K_345, K_25, K_98, K_336, K_352, K_172, K_343, K_132, K_171, K_334, K_23, K_16, K_326] := ⟨o_133, ⟨o_345, ⟨o_25, ⟨o_98, ⟨o_336, ⟨o_352, ⟨o_172, ⟨o_343, ⟨o_132, ⟨o_171, ⟨o_334, ⟨o_23, ⟨o_16, ⟨o_326, trivial⟩⟩⟩⟩⟩⟩⟩⟩⟩⟩⟩⟩⟩⟩
theorem ol_139 : okL 139 [K_137, K_350, K_31, K_341, K_130, K_169, K_332, K_92, K_127, K_46, K_61, K_95, K_49, K_78, K_64, K_73, K_56, K_254, K_38, K_251, K_116, K_87, K_41, K_21, K_110] := ⟨o_137, ⟨o_350, ⟨o_31, ⟨o_341, ⟨o_130, ⟨o_169, ⟨o_332, ⟨o_92, ⟨o_127, ⟨o_46, ⟨o_61, ⟨o_95, ⟨o_49, ⟨o_78, ⟨o_64, ⟨o_73, ⟨o_56, ⟨o_254, ⟨o_38, ⟨o_251, ⟨o_116, ⟨o_87, ⟨o_41, ⟨o_21, ⟨o_110, trivial⟩⟩⟩⟩⟩⟩⟩⟩⟩⟩⟩⟩⟩⟩⟩⟩⟩⟩⟩⟩⟩⟩⟩⟩⟩
theorem ol_140 : okL 140 [K_105, K_248, K_101] := ⟨o_105, ⟨o_248, ⟨o_101, trivial⟩⟩⟩
theorem ol_141 : okL 141 [K_135, K_348, K_29, K_339, K_129, K_168, K_330, K_91, K_126, K_45, K_60, K_94, K_48, K_77, K_63, K_103, K_72, K_136, K_349, K_30, K_55, K_340, K_20, K_247, K_331, K_115, K_86, K_109, K_100, K_104, K_71, K_54, K_253, K_37, K_250, K_114, K_85, K_40, K_19, K_246, K_108, K_99] := ⟨o_135, ⟨o_348, ⟨o_29, ⟨o_339, ⟨o_129, ⟨o_168, ⟨o_330, ⟨o_91, ⟨o_126, ⟨o_45, ⟨o_60, ⟨o_94, ⟨o_48, ⟨o_77, ⟨o_63, ⟨o_103, ⟨o_72, ⟨o_136, ⟨o_349, ⟨o_30, ⟨o_55, ⟨o_340, ⟨o_20, ⟨o_247, ⟨o_331, ⟨o_115, ⟨o_86, ⟨o_109, ⟨o_100, ⟨o_104, ⟨o_71, ⟨o_54, ⟨o_253, ⟨o_37, ⟨o_250, ⟨o_114, ⟨o_85, ⟨o_40, ⟨o_19, ⟨o_246, ⟨o_108, ⟨o_99, trivial⟩⟩⟩⟩⟩⟩⟩⟩⟩⟩⟩⟩⟩⟩⟩⟩⟩⟩⟩⟩⟩⟩⟩⟩⟩⟩⟩⟩⟩⟩⟩⟩⟩⟩⟩⟩⟩⟩⟩⟩⟩⟩
theorem ol_142 : okL 142 [K_140, K_34] := ⟨o_140, ⟨o_34, trivial⟩⟩
theorem ol_143 : okL 143 [K_211] := ⟨o_211, trivial⟩
theorem ol_144 : okL 144 [K_384] := ⟨o_384, trivial⟩
theorem ol_145 : okL 145 [K_210, K_383] := ⟨o_210, ⟨o_383, trivial⟩⟩
theorem ol_146 : okL 146 [K_186, K_194, K_199, K_204, K_209, K_357, K_366, K_371, K_376, K_381] := ⟨o_186, ⟨o_194, ⟨o_199, ⟨o_204, ⟨o_209, ⟨o_357, ⟨o_366, ⟨o_371, ⟨o_376, ⟨o_381, trivial⟩⟩⟩⟩⟩⟩⟩⟩⟩⟩
theorem ol_147 : okL 147 [K_185, K_193, K_198, K_203, K_208, K_356, K_365, K_370, K_375, K_380] := ⟨o_185, ⟨o_193, ⟨o_198, ⟨o_203, ⟨o_208, ⟨o_356, ⟨o_365, ⟨o_370, ⟨o_375, ⟨o_380, trivial⟩⟩⟩⟩⟩⟩⟩⟩⟩⟩
theorem ol_148 : okL 148 [K_184, K_192, K_197, K_202, K_207, K_355, K_364, K_369, K_374, K_379] := ⟨o_184, ⟨o_192, ⟨o_197, ⟨o_202, ⟨o_207, ⟨o_355, ⟨o_364, ⟨o_369, ⟨o_374, ⟨o_379, trivial⟩⟩⟩⟩⟩⟩⟩⟩⟩⟩
theorem ol_149 : okL 149 [K_183, K_191, K_196, K_201, K_206, K_354, K_363, K_368, K_373, K_378] := ⟨o_183, ⟨o_191, ⟨o_196, ⟨o_201, ⟨o_206, ⟨o_354, ⟨o_363, ⟨o_368, ⟨o_373, ⟨o_378, trivial⟩⟩⟩⟩⟩⟩⟩⟩⟩⟩
theorem ol_150 : okL 150 [K_182, K_353, K_190, K_195, K_200, K_205, K_362, K_367, K_372, K_377] := ⟨o_182, ⟨o_353, ⟨o_190, ⟨o_195, ⟨o_200, ⟨o_205, ⟨o_362, ⟨o_367, ⟨o_372, ⟨o_377, trivial⟩⟩⟩⟩⟩⟩⟩⟩⟩⟩
theorem ol_151 : okL 151 [K_173, K_351] := ⟨o_173, ⟨o_351, trivial⟩⟩
theorem ol_152 : okL 152 [K_0] := ⟨o_0, trivial⟩
theorem ol_153 : okL 153 [K_2] := ⟨o_2, trivial⟩
theorem ol_154 : okL 154 [K_260] := ⟨o_260, trivial⟩
theorem ol_155 : okL 155 [K_213] := ⟨o_213, trivial⟩
theorem ol_156 : okL 156 [K_443] := ⟨o_443, trivial⟩
theorem ol_157 : okL 157 [K_436] := ⟨o_436, trivial⟩
theorem ol_158 : okL 158 [K_437] := ⟨o_437, trivial⟩
theorem ol_159 : okL 159 [K_442] := ⟨o_442, trivial⟩
theorem ol_160 : okL 160 [K_302] := ⟨o_302, trivial⟩
theorem ol_161 : okL 161 [K_390, K_394] := ⟨o_390, ⟨o_394, trivial⟩⟩
theorem ol_162 : okL 162 [K_388, K_395] := ⟨o_388, ⟨o_395, trivial⟩⟩
theorem ol_163 : okL 163 [K_305] := ⟨o_305, trivial⟩
theorem ol_164 : okL 164 [K_303] := ⟨o_303, trivial⟩
theorem ol_165 : okL 165 [K_304] := ⟨o_304, trivial⟩
theorem ol_166 : okL 166 [K_307] := ⟨o_307, trivial⟩
theorem ol_167 : okL 167 [K_309] := ⟨o_309, trivial⟩
theorem ol_168 : okL 168 [] := trivial
theorem ol_169 : okL 169 [K_1139, K_1147, K_1149, K_1164, K_1144, K_1148, K_1150, K_581, K_598, K_493, K_499, K_510, K_552, K_560, K_490, K_507, K_497, K_593, K_482, K_561] := ⟨o_1139, ⟨o_1147, ⟨o_1149, ⟨o_1164, ⟨o_1144, ⟨o_1148, ⟨o_1150, ⟨o_581, ⟨o_598, ⟨o_493, ⟨o_499, ⟨o_510, ⟨o_552, ⟨o_560, ⟨o_490, ⟨o_507, ⟨o_497, ⟨o_593, ⟨o_482, ⟨o_561, trivial⟩⟩⟩⟩⟩⟩⟩⟩⟩⟩⟩⟩⟩⟩⟩⟩⟩⟩⟩⟩
theorem ol_170 : okL 170 [K_500, K_530] := ⟨o_500, ⟨o_530, trivial⟩⟩
theorem ol_171 : okL 171 [K_492] := ⟨o_492, trivial⟩
theorem ol_172 : okL 172 [K_512, K_513, K_514, K_515, K_516, K_517, K_518, K_519, K_520, K_521, K_557, K_604, K_605, K_606, K_607, K_608, K_609, K_610, K_611, K_612, K_613, K_524, K_876, K_603] := ⟨o_512, ⟨o_513, ⟨o_514, ⟨o_515, ⟨o_516, ⟨o_517, ⟨o_518, ⟨o_519, ⟨o_520, ⟨o_521, ⟨o_557, ⟨o_604, ⟨o_605, ⟨o_606, ⟨o_607, ⟨o_608, ⟨o_609, ⟨o_610, ⟨o_611, ⟨o_612, ⟨o_613, ⟨o_524, ⟨o_876, ⟨o_603, trivial⟩⟩⟩⟩⟩⟩⟩⟩⟩⟩⟩⟩⟩⟩⟩⟩⟩⟩⟩⟩⟩⟩⟩⟩
theorem ol_173 : okL 173 [K_491] := ⟨o_491, trivial⟩
theorem ol_174 : okL 174 [K_498] := ⟨o_498, trivial⟩
theorem ol_175 : okL 175 [K_481] := ⟨o_481, trivial⟩
theorem ol_176 : okL 176 [K_483] := ⟨o_483, trivial⟩
theorem ol_177 : okL 177 [K_503, K_484] := ⟨o_503, ⟨o_484, trivial⟩⟩
theorem ol_178 : okL 178 [K_1138] := ⟨o_1138, trivial⟩
theorem ol_179 : okL 179 [K_1136, K_488, K_486] := ⟨o_1136, ⟨o_488, ⟨o_486, trivial⟩⟩⟩
theorem ol_180 : okL 180 [K_1137, K_1141, K_487] := ⟨o_1137, ⟨o_1141, ⟨o_487, trivial⟩⟩⟩
theorem ol_181 : okL 181 [K_1145, K_1152, K_1140, K_1153, K_1154] := ⟨o_1145, ⟨o_1152, ⟨o_1140, ⟨o_1153, ⟨o_1154, trivial⟩⟩⟩⟩⟩
theorem ol_182 : okL 182 [K_1146, K_1159, K_1142, K_1157, K_1155] := ⟨o_1146, ⟨o_1159, ⟨o_1142, ⟨o_1157, ⟨o_1155, trivial⟩⟩⟩⟩⟩
theorem ol_183 : okL 183 [K_1151, K_1143, K_1158, K_1156] := ⟨o_1151, ⟨o_1143, ⟨o_1158, ⟨o_1156, trivial⟩⟩⟩⟩
theorem ol_184 : okL 184 [] := trivial
theorem ol_185 : okL 185 [K_877, K_881] := ⟨o_877, ⟨o_881, trivial⟩⟩
theorem ol_186 : okL 186 [] := trivial
theorem ol_187 : okL 187 [] := trivial
theorem ol_188 : okL 188 [K_485, K_504] := ⟨o_485, ⟨o_504, trivial⟩⟩
theorem ol_189 : okL 189 [] := trivial
theorem ol_190 : okL 190 [] := trivial
theorem ol_191 : okL 191 [] := trivial
theorem ol_192 : okL 192 [] := trivial
theorem ol_193 : okL 193 [K_489] := ⟨o_489, trivial⟩
theorem ol_194 : okL 194 [K_505] := ⟨o_505, trivial⟩
theorem ol_195 : okL 195 [K_596, K_543] := ⟨o_596, ⟨o_543, trivial⟩⟩
theorem ol_196 : okL 196 [K_501] := ⟨o_501, trivial⟩
theorem ol_197 : okL 197 [K_494] := ⟨o_494, trivial⟩
theorem ol_198 : okL 198 [K_495, K_531, K_586] := ⟨o_495, ⟨o_531, ⟨o_586, trivial⟩⟩⟩
theorem ol_199 : okL 199 [K_496] := ⟨o_496, trivial⟩
theorem ol_200 : okL 200 [K_537, K_502] := ⟨o_537, ⟨o_502, trivial⟩⟩
theorem ol_201 : okL 201 [K_506] := ⟨o_506, trivial⟩
theorem ol_202 : okL 202 [K_508] := ⟨o_508, trivial⟩
theorem ol_203 : okL 203 [K_509] := ⟨o_509, trivial⟩
theorem ol_204 : okL 204 [] := trivial
theorem ol_205 : okL 205 [K_511] := ⟨o_511, trivial⟩
theorem ol_206 : okL 206 [] := trivial
theorem ol_207 : okL 207 [K_576, K_578, K_545, K_878] := ⟨o_576, ⟨o_578, ⟨o_545, ⟨o_878, trivial⟩⟩⟩⟩
theorem ol_208 : okL 208 [K_579, K_546, K_879] := ⟨o_579, ⟨o_546, ⟨o_879, trivial⟩⟩⟩
theorem ol_209 : okL 209 [K_547, K_584, K_615] := ⟨o_547, ⟨o_584, ⟨o_615, trivial⟩⟩⟩
theorem ol_210 : okL 210 [K_568, K_585, K_590] := ⟨o_568, ⟨o_585, ⟨o_590, trivial⟩⟩⟩
theorem ol_211 : okL 211 [K_569, K_587, K_591] := ⟨o_569, ⟨o_587, ⟨o_591, trivial⟩⟩⟩
theorem ol_212 : okL 212 [K_570, K_588, K_1133] := ⟨o_570, ⟨o_588, ⟨o_1133, trivial⟩⟩⟩
theorem ol_213 : okL 213 [K_1160] := ⟨o_1160, trivial⟩
theorem ol_214 : okL 214 [K_1162] := ⟨o_1162, trivial⟩
theorem ol_215 : okL 215 [K_1161] := ⟨o_1161, trivial⟩
theorem ol_216 : okL 216 [] := trivial
theorem ol_217 : okL 217 [K_1134] := ⟨o_1134, trivial⟩
theorem ol_218 : okL 218 [K_1135] := ⟨o_1135, trivial⟩
theorem ol_219 : okL 219 [K_1163] := ⟨o_1163, trivial⟩
theorem ol_220 : okL 220 [] := trivial
theorem ol_221 : okL 221 [K_1165] := ⟨o_1165, trivial⟩
theorem ol_222 : okL 222 [K_522] := ⟨o_522, trivial⟩
theorem ol_223 : okL 223 [K_523] := ⟨o_523, trivial⟩
theorem ol_224 : okL 224 [K_828, K_829, K_830, K_831, K_832, K_833, K_834, K_835, K_836, K_837, K_838, K_839, K_525] := ⟨o_828, ⟨o_829, ⟨o_830, ⟨o_831, ⟨o_832, ⟨o_833, ⟨o_834, ⟨o_835, ⟨o_836, ⟨o_837, ⟨o_838, ⟨o_839, ⟨o_525, trivial⟩⟩⟩⟩⟩⟩⟩⟩⟩⟩⟩⟩⟩
theorem ol_225 : okL 225 [K_840, K_841, K_842, K_843, K_844, K_845, K_846, K_847, K_848, K_849, K_850, K_851, K_526] := ⟨o_840, ⟨o_841, ⟨o_842, ⟨o_843, ⟨o_844, ⟨o_845, ⟨o_846, ⟨o_847, ⟨o_848, ⟨o_849, ⟨o_850, ⟨o_851, ⟨o_526, trivial⟩⟩⟩⟩⟩⟩⟩⟩⟩⟩⟩⟩⟩
theorem ol_226 : okL 226 [] := trivial
theorem ol_227 : okL 227 [K_527] := ⟨o_527, trivial⟩
theorem ol_228 : okL 228 [K_538, K_1014, K_1019, K_1025, K_1031, K_1037, K_1043, K_1049, K_1055, K_1061, K_1067, K_1073, K_528] := ⟨o_538, ⟨o_1014, ⟨o_1019, ⟨o_1025, ⟨o_1031, ⟨o_1037, ⟨o_1043, ⟨o_1049, ⟨o_1055, ⟨o_1061, ⟨o_1067, ⟨o_1073, ⟨o_528, trivial⟩⟩⟩⟩⟩⟩⟩⟩⟩⟩⟩⟩⟩
theorem ol_229 : okL 229 [K_529] := ⟨o_529, trivial⟩
theorem ol_230 : okL 230 [K_540, K_1016, K_1021, K_1027, K_1033, K_1039, K_1045, K_1051, K_1057, K_1063, K_1069, K_1075, K_572, K_533] := ⟨o_540, ⟨o_1016, ⟨o_1021, ⟨o_1027, ⟨o_1033, ⟨o_1039, ⟨o_1045, ⟨o_1051, ⟨o_1057, ⟨o_1063, ⟨o_1069, ⟨o_1075, ⟨o_572, ⟨o_533, trivial⟩⟩⟩⟩⟩⟩⟩⟩⟩⟩⟩⟩⟩⟩
theorem ol_231 : okL 231 [K_539, K_1015, K_1020, K_1026, K_1032, K_1038, K_1044, K_1050, K_1056, K_1062, K_1068, K_1074, K_532] := ⟨o_539, ⟨o_1015, ⟨o_1020, ⟨o_1026, ⟨o_1032, ⟨o_1038, ⟨o_1044, ⟨o_1050, ⟨o_1056, ⟨o_1062, ⟨o_1068, ⟨o_1074, ⟨o_532, trivial⟩⟩⟩⟩⟩⟩⟩⟩⟩⟩⟩⟩⟩
theorem ol_232 : okL 232 [K_541, K_595, K_1022, K_1028, K_1034, K_1040, K_1046, K_1052, K_1058, K_1064, K_1070, K_1076, K_1113, K_1115, K_1117, K_1119, K_1121, K_1123, K_1125, K_1127, K_1129, K_1131, K_534, K_558, K_614] := ⟨o_541, ⟨o_595, ⟨o_1022, ⟨o_1028, ⟨o_1034, ⟨o_1040, ⟨o_1046, ⟨o_1052, ⟨o_1058, ⟨o_1064, ⟨o_1070, ⟨o_1076, ⟨o_1113, ⟨o_1115, ⟨o_1117, ⟨o_1119, ⟨o_1121, ⟨o_1123, ⟨o_1125, ⟨o_1127, ⟨o_1129, ⟨o_1131, ⟨o_534, ⟨o_558, ⟨o_614, trivial⟩⟩⟩⟩⟩⟩⟩⟩⟩⟩⟩⟩⟩⟩⟩⟩⟩⟩⟩⟩⟩⟩⟩⟩⟩
theorem ol_233 : okL 233 [K_535] := ⟨o_535, trivial⟩
theorem ol_234 : okL 234 [K_542, K_536] := ⟨o_542, ⟨o_536, trivial⟩⟩
theorem ol_235 : okL 235 [K_544] := ⟨o_544, trivial⟩
theorem ol_236 : okL 236 [K_597] := ⟨o_597, trivial⟩
theorem ol_237 : okL 237 [K_918, K_920, K_922, K_924, K_926, K_928, K_930, K_932, K_934, K_936, K_938, K_940, K_966, K_968, K_970, K_972, K_974, K_976, K_978, K_980, K_982, K_984, K_986, K_988, K_550, K_1017, K_894, K_896, K_898, K_900, K_902, K_904, K_906, K_908, K_910, K_912, K_914, K_916, K_1023, K_1029, K_1035, K_1041, K_1047, K_1053, K_1059, K_1065, K_1071, K_1077, K_555, K_1079, K_942, K_944, K_946, K_948, K_950, K_952, K_954, K_956, K_958, K_960, K_962, K_964, K_1081, K_1083, K_1085, K_1087, K_1089, K_1091, K_1093, K_1095, K_1097, K_1099, K_548, K_553] := ⟨o_918, ⟨o_920, ⟨o_922, ⟨o_924, ⟨o_926, ⟨o_928, ⟨o_930, ⟨o_932, ⟨o_934, ⟨o_936, ⟨o_938, ⟨o_940, ⟨o_966, ⟨o_968, ⟨o_970, ⟨o_972, ⟨o_974, ⟨o_976, ⟨o_978, ⟨o_980, ⟨o_982, ⟨o_984, ⟨o_986, ⟨o_988, ⟨o_550, ⟨o_1017, ⟨o_894, ⟨o_896, ⟨o_898, ⟨o_900, ⟨o_902, ⟨o_904, ⟨o_906, ⟨o_908, ⟨o_910, ⟨o_912, ⟨o_914, ⟨o_916, ⟨o_1023, ⟨o_1029, ⟨o_1035, ⟨o_1041, ⟨o_1047, ⟨o_1053, ⟨o_1059, ⟨o_1065, ⟨o_1071, ⟨o_1077, ⟨o_555, ⟨o_1079, ⟨o_942, ⟨o_944, ⟨o_946, ⟨o_948, ⟨o_950, ⟨o_952, ⟨o_954, ⟨o_956, ⟨o_958, ⟨o_960, ⟨o_962, ⟨o_964, ⟨o_1081, ⟨o_1083, ⟨o_1085, ⟨o_1087, ⟨o_1089, ⟨o_1091, ⟨o_1093, ⟨o_1095, ⟨o_1097, ⟨o_1099, ⟨o_548, ⟨o_553, trivial⟩⟩⟩⟩⟩⟩⟩⟩⟩⟩⟩⟩⟩⟩⟩⟩⟩⟩⟩⟩⟩⟩⟩⟩⟩⟩⟩⟩⟩⟩⟩⟩⟩⟩⟩⟩⟩⟩⟩⟩⟩⟩⟩⟩⟩⟩⟩⟩⟩⟩⟩⟩⟩⟩⟩⟩⟩⟩⟩⟩⟩⟩⟩⟩⟩⟩⟩⟩⟩⟩⟩⟩⟩⟩
theorem ol_238 : okL 238 [K_919, K_921, K_923, K_925, K_927, K_929, K_931, K_933, K_935, K_937, K_939, K_941, K_551, K_1018, K_895, K_897, K_899, K_901, K_903, K_905, K_907, K_909, K_911, K_913, K_915, K_917, K_1024, K_1030, K_1036, K_1042, K_1048, K_1054, K_1060, K_1066, K_1072, K_1078, K_549] := ⟨o_919, ⟨o_921, ⟨o_923, ⟨o_925, ⟨o_927, ⟨o_929, ⟨o_931, ⟨o_933, ⟨o_935, ⟨o_937, ⟨o_939, ⟨o_941, ⟨o_551, ⟨o_1018, ⟨o_895, ⟨o_897, ⟨o_899, ⟨o_901, ⟨o_903, ⟨o_905, ⟨o_907, ⟨o_909, ⟨o_911, ⟨o_913, ⟨o_915, ⟨o_917, ⟨o_1024, ⟨o_1030, ⟨o_1036, ⟨o_1042, ⟨o_1048, ⟨o_1054, ⟨o_1060, ⟨o_1066, ⟨o_1072, ⟨o_1078, ⟨o_549, trivial⟩⟩⟩⟩⟩⟩⟩⟩⟩⟩⟩⟩⟩⟩⟩⟩⟩⟩⟩⟩⟩⟩⟩⟩⟩⟩⟩⟩⟩⟩⟩⟩⟩⟩⟩⟩⟩
theorem ol_239 : okL 239 [K_967, K_969, K_971, K_973, K_975, K_977, K_979, K_981, K_983, K_985, K_987, K_989, K_556, K_1080, K_943, K_945, K_947, K_949, K_951, K_953, K_955, K_957, K_959, K_961, K_963, K_965, K_1082, K_1084, K_1086, K_1088, K_1090, K_1092, K_1094, K_1096, K_1098, K_1100, K_554] := ⟨o_967, ⟨o_969, ⟨o_971, ⟨o_973, ⟨o_975, ⟨o_977, ⟨o_979, ⟨o_981, ⟨o_983, ⟨o_985, ⟨o_987, ⟨o_989, ⟨o_556, ⟨o_1080, ⟨o_943, ⟨o_945, ⟨o_947, ⟨o_949, ⟨o_951, ⟨o_953, ⟨o_955, ⟨o_957, ⟨o_959, ⟨o_961, ⟨o_963, ⟨o_965, ⟨o_1082, ⟨o_1084, ⟨o_1086, ⟨o_1088, ⟨o_1090, ⟨o_1092, ⟨o_1094, ⟨o_1096, ⟨o_1098, ⟨o_1100, ⟨o_554, trivial⟩⟩⟩⟩⟩⟩⟩⟩⟩⟩⟩⟩⟩⟩⟩⟩⟩⟩⟩⟩⟩⟩⟩⟩⟩⟩⟩⟩⟩⟩⟩⟩⟩⟩⟩⟩⟩
theorem ol_240 : okL 240 [K_1112, K_1114, K_1116, K_1118, K_1120, K_1122, K_1124, K_1126, K_1128, K_1130, K_1132, K_559] := ⟨o_1112, ⟨o_1114, ⟨o_1116, ⟨o_1118, ⟨o_1120, ⟨o_1122, ⟨o_1124, ⟨o_1126, ⟨o_1128, ⟨o_1130, ⟨o_1132, ⟨o_559, trivial⟩⟩⟩⟩⟩⟩⟩⟩⟩⟩⟩⟩
theorem ol_241 : okL 241 [K_563, K_562] := ⟨o_563, ⟨o_562, trivial⟩⟩
theorem ol_242 : okL 242 [K_599] := ⟨o_599, trivial⟩
theorem ol_243 : okL 243 [K_565, K_564] := ⟨o_565, ⟨o_564, trivial⟩⟩
theorem ol_244 : okL 244 [K_567, K_1101, K_1102, K_1103, K_1104, K_1105, K_1106, K_1107, K_1108, K_1109, K_1110, K_1111, K_566] := ⟨o_567, ⟨o_1101, ⟨o_1102, ⟨o_1103, ⟨o_1104, ⟨o_1105, ⟨o_1106, ⟨o_1107, ⟨o_1108, ⟨o_1109, ⟨o_1110, ⟨o_1111, ⟨o_566, trivial⟩⟩⟩⟩⟩⟩⟩⟩⟩⟩⟩⟩⟩
theorem ol_245 : okL 245 [K_852, K_853, K_854, K_855, K_856, K_857, K_858, K_859, K_860, K_861, K_862, K_863, K_571] := ⟨o_852, ⟨o_853, ⟨o_854, ⟨o_855, ⟨o_856, ⟨o_857, ⟨o_858, ⟨o_859, ⟨o_860, ⟨o_861, ⟨o_862, ⟨o_863, ⟨o_571, trivial⟩⟩⟩⟩⟩⟩⟩⟩⟩⟩⟩⟩⟩
theorem ol_246 : okL 246 [K_1002, K_1003, K_1004, K_1005, K_1006, K_1007, K_1008, K_1009, K_1010, K_1011, K_1012, K_1013, K_575, K_990, K_991, K_992, K_993, K_994, K_995, K_996, K_997, K_998, K_999, K_1000, K_1001, K_574] := ⟨o_1002, ⟨o_1003, ⟨o_1004, ⟨o_1005, ⟨o_1006, ⟨o_1007, ⟨o_1008, ⟨o_1009, ⟨o_1010, ⟨o_1011, ⟨o_1012, ⟨o_1013, ⟨o_575, ⟨o_990, ⟨o_991, ⟨o_992, ⟨o_993, ⟨o_994, ⟨o_995, ⟨o_996, ⟨o_997, ⟨o_998, ⟨o_999, ⟨o_1000, ⟨o_1001, ⟨o_574, trivial⟩⟩⟩⟩⟩⟩⟩⟩⟩⟩⟩⟩⟩⟩⟩⟩⟩⟩⟩⟩⟩⟩⟩⟩⟩⟩
theorem ol_247 : okL 247 [K_573] := ⟨o_573, trivial⟩
theorem ol_248 : okL 248 [] := trivial
theorem ol_249 : okL 249 [K_617] := ⟨o_617, trivial⟩
theorem ol_250 : okL 250 [] := trivial
theorem ol_251 : okL 251 [K_577] := ⟨o_577, trivial⟩
theorem ol_252 : okL 252 [K_580] := ⟨o_580, trivial⟩
theorem ol_253 : okL 253 [K_880] := ⟨o_880, trivial⟩
theorem ol_254 : okL 254 [K_882, K_883, K_884, K_885, K_886, K_887, K_888, K_889, K_890, K_891, K_892, K_893] := ⟨o_882, ⟨o_883, ⟨o_884, ⟨o_885, ⟨o_886, ⟨o_887, ⟨o_888, ⟨o_889, ⟨o_890, ⟨o_891, ⟨o_892, ⟨o_893, trivial⟩⟩⟩⟩⟩⟩⟩⟩⟩⟩⟩⟩
theorem ol_255 : okL 255 [K_582] := ⟨o_582, trivial⟩
theorem ol_256 : okL 256 [K_583] := ⟨o_583, trivial⟩
theorem ol_257 : okL 257 [K_864, K_865, K_866, K_867, K_868, K_869, K_870, K_871, K_872, K_873, K_874, K_875, K_589] := ⟨o_864, ⟨o_865, ⟨o_866, ⟨o_867, ⟨o_868, ⟨o_869, ⟨o_870, ⟨o_871, ⟨o_872, ⟨o_873, ⟨o_874, ⟨o_875, ⟨o_589, trivial⟩⟩⟩⟩⟩⟩⟩⟩⟩⟩⟩⟩⟩
theorem ol_258 : okL 258 [] := trivial
theorem ol_259 : okL 259 [] := trivial
theorem ol_260 : okL 260 [] := trivial
theorem ol_261 : okL 261 [K_600] := ⟨o_600, trivial⟩
theorem ol_262 : okL 262 [] := trivial
theorem ol_263 : okL 263 [K_601] := ⟨o_601, trivial⟩
theorem ol_264 : okL 264 [K_602] := ⟨o_602, trivial⟩
theorem ol_265 : okL 265 [K_616] := ⟨o_616, trivial⟩
theorem ol_266 : okL 266 [] := trivial
theorem ol_267 : okL 267 [] := trivial
theorem ol_268 : okL 268 [K_592] := ⟨o_592, trivial⟩
theorem ol_269 : okL 269 [K_594] := ⟨o_594, trivial⟩
theorem ol_270 : okL 270 [K_322] := ⟨o_322, trivial⟩
theorem ol_271 : okL 271 [K_401] := ⟨o_401, trivial⟩
theorem ol_272 : okL 272 [K_181] := ⟨o_181, trivial⟩
theorem ol_273 : okL 273 [K_180] := ⟨o_180, trivial⟩
theorem ol_274 : okL 274 [K_174] := ⟨o_174, trivial⟩
theorem ol_275 : okL 275 [K_176] := ⟨o_176, trivial⟩
theorem ol_276 : okL 276 [K_175] := ⟨o_175, trivial⟩
theorem ol_277 : okL 277 [K_179] := ⟨o_179, trivial⟩
theorem ol_278 : okL 278 [K_177] := ⟨o_177, trivial⟩
theorem ol_279 : okL 279 [K_178] := ⟨o_178, trivial⟩
set_option maxRecDepth 100000 in
theorem ct_ok : okT9 0 CT := ⟨ol_0, ⟨ol_1, ⟨ol_2, ⟨ol_3, ⟨ol_4, ⟨ol_5, ⟨ol_6, ⟨ol_7, ⟨ol_8, ⟨ol_9, ⟨ol_10, ⟨ol_11, ⟨ol_12, ⟨ol_13, ⟨ol_14, ⟨ol_15, ⟨ol_16, ⟨ol_17, ⟨ol_18, ⟨ol_19, ⟨ol_20, ⟨ol_21, ⟨ol_22, ⟨ol_23, ⟨ol_24, ⟨ol_25, ⟨ol_26, ⟨ol_27, ⟨ol_28, ⟨ol_29, ⟨ol_30, ⟨ol_31, ⟨ol_32, ⟨ol_33, ⟨ol_34, ⟨ol_35, ⟨ol_36, ⟨ol_37, ⟨ol_38, ⟨ol_39, ⟨ol_40, ⟨ol_41, ⟨ol_42, ⟨ol_43, ⟨ol_44, ⟨ol_45, ⟨ol_46, ⟨ol_47, ⟨ol_48, ⟨ol_49, ⟨ol_50, ⟨ol_51, ⟨ol_52, ⟨ol_53, ⟨ol_54, ⟨ol_55, ⟨ol_56, ⟨ol_57, ⟨ol_58, ⟨ol_59, ⟨ol_60, ⟨ol_61, ⟨ol_62, ⟨ol_63, ⟨ol_64, ⟨ol_65, ⟨ol_66, ⟨ol_67, ⟨ol_68, ⟨ol_69, ⟨ol_70, ⟨ol_71, ⟨ol_72, ⟨ol_73, ⟨ol_74, ⟨ol_75, ⟨ol_76, ⟨ol_77, ⟨ol_78, ⟨ol_79, ⟨ol_80, ⟨ol_81, ⟨ol_82, ⟨ol_83, ⟨ol_84, ⟨ol_85, ⟨ol_86, ⟨ol_87, ⟨ol_88, ⟨ol_89, ⟨ol_90, ⟨ol_91, ⟨ol_92, ⟨ol_93, ⟨ol_94, ⟨ol_95, ⟨ol_96, ⟨ol_97, ⟨ol_98, ⟨ol_99, ⟨ol_100, ⟨ol_101, ⟨ol_102, ⟨ol_103, ⟨ol_104, ⟨ol_105, ⟨ol_106, ⟨ol_107, ⟨ol_108, ⟨ol_109, ⟨ol_110, ⟨ol_111, ⟨ol_112, ⟨ol_113, ⟨ol_114, ⟨ol_115, ⟨ol_116, ⟨ol_117, ⟨ol_118, ⟨ol_119, ⟨ol_120, ⟨ol_121, ⟨ol_122, ⟨ol_123, ⟨ol_124, ⟨ol_125, ⟨ol_126, ⟨ol_127, ⟨ol_128, ⟨ol_129, ⟨ol_130, ⟨ol_131, ⟨ol_132, ⟨ol_133, ⟨ol_134, ⟨ol_135, ⟨ol_136, ⟨ol_137, ⟨ol_138, ⟨ol_139, ⟨ol_140, ⟨ol_141, ⟨ol_142, ⟨ol_143, ⟨ol_144, ⟨ol_145, ⟨ol_146, ⟨ol_147, ⟨ol_148, ⟨ol_149, ⟨ol_150, ⟨ol_151, ⟨ol_152, ⟨ol_153, ⟨ol_154, ⟨ol_155, ⟨ol_156, ⟨ol_157, ⟨ol_158, ⟨ol_159, ⟨ol_160, ⟨ol_161, ⟨ol_162, ⟨ol_163, ⟨ol_164, ⟨ol_165, ⟨ol_166, ⟨ol_167, ⟨ol_168, ⟨ol_169, ⟨ol_170, ⟨ol_171, ⟨ol_172, ⟨ol_173, ⟨ol_174, ⟨ol_175, ⟨ol_176, ⟨ol_177, ⟨ol_178, ⟨ol_179, ⟨ol_180, ⟨ol_181, ⟨ol_182, ⟨ol_183, ⟨ol_184, ⟨ol_185, ⟨ol_186, ⟨ol_187, ⟨ol_188, ⟨ol_189, ⟨ol_190, ⟨ol_191, ⟨ol_192, ⟨ol_193, ⟨ol_194, ⟨ol_195, ⟨ol_196, ⟨ol_197, ⟨ol_198, ⟨ol_199, ⟨ol_200, ⟨ol_201, ⟨ol_202, ⟨ol_203, ⟨ol_204, ⟨ol_205, ⟨ol_206, ⟨ol_207, ⟨ol_208, ⟨ol_209, ⟨ol_210, ⟨ol_211, ⟨ol_212, ⟨ol_213, ⟨ol_214, ⟨ol_215, ⟨ol_216, ⟨ol_217, ⟨ol_218, ⟨ol_219, ⟨ol_220, ⟨ol_221, ⟨ol_222, ⟨ol_223, ⟨ol_224, ⟨ol_225, ⟨ol_226, ⟨ol_227, ⟨ol_228, ⟨ol_229, ⟨ol_230, ⟨ol_231, ⟨ol_232, ⟨ol_233, ⟨ol_234, ⟨ol_235, ⟨ol_236, ⟨ol_237, ⟨ol_238, ⟨ol_239, ⟨ol_240, ⟨ol_241, ⟨ol_242, ⟨ol_243, ⟨ol_244, ⟨ol_245, ⟨ol_246, ⟨ol_247, ⟨ol_248, ⟨ol_249, ⟨ol_250, ⟨ol_251, ⟨ol_252, ⟨ol_253, ⟨ol_254, ⟨ol_255, ⟨ol_256, ⟨ol_257, ⟨ol_258, ⟨ol_259, ⟨ol_260, ⟨ol_261, ⟨ol_262, ⟨ol_263, ⟨ol_264, ⟨ol_265, ⟨ol_266, ⟨ol_267, ⟨ol_268, ⟨ol_269, ⟨ol_270, ⟨ol_271, ⟨ol_272, ⟨ol_273, ⟨ol_274, ⟨ol_275, ⟨ol_276, ⟨ol_277, ⟨ol_278, ⟨ol_279, trivial⟩⟩⟩⟩⟩⟩⟩⟩⟩⟩⟩⟩⟩⟩⟩⟩⟩⟩⟩⟩⟩⟩⟩⟩⟩⟩⟩⟩⟩⟩⟩⟩⟩⟩⟩⟩⟩⟩⟩⟩⟩⟩⟩⟩⟩⟩⟩⟩⟩⟩⟩⟩⟩⟩⟩⟩⟩⟩⟩⟩⟩⟩⟩⟩⟩⟩⟩⟩⟩⟩⟩⟩⟩⟩⟩⟩⟩⟩⟩⟩⟩⟩⟩⟩⟩⟩⟩⟩⟩⟩⟩⟩⟩⟩⟩⟩⟩⟩⟩⟩⟩⟩⟩⟩⟩⟩⟩⟩⟩⟩⟩⟩⟩⟩⟩⟩⟩⟩⟩⟩⟩⟩⟩⟩⟩⟩⟩⟩⟩⟩⟩⟩⟩⟩⟩⟩⟩⟩⟩⟩⟩⟩⟩⟩⟩⟩⟩⟩⟩⟩⟩⟩⟩⟩⟩⟩⟩⟩⟩⟩⟩⟩⟩⟩⟩⟩⟩⟩⟩⟩⟩⟩⟩⟩⟩⟩⟩⟩⟩⟩⟩⟩⟩⟩⟩⟩⟩⟩⟩⟩⟩⟩⟩⟩⟩⟩⟩⟩⟩⟩⟩⟩⟩⟩⟩⟩⟩⟩⟩⟩⟩⟩⟩⟩⟩⟩⟩⟩⟩⟩⟩⟩⟩⟩⟩⟩⟩⟩⟩⟩⟩⟩⟩⟩⟩⟩⟩⟩⟩⟩⟩⟩⟩⟩⟩⟩⟩⟩⟩⟩⟩⟩⟩⟩⟩⟩⟩⟩⟩⟩⟩⟩⟩⟩⟩⟩⟩⟩⟩⟩⟩⟩⟩⟩⟩⟩⟩⟩⟩⟩
theorem u_tell_c {d : Nat} (hd : 1 ≤ d) : cOK gAll (xF d) 172 K_603 := ct_of ct_ok (show K_603 ∈ CT.getD 172 [] from (show CT.getD 172 [] = [K_512, K_513, K_514, K_515, K_516, K_517, K_518, K_519, K_520, K_521, K_557, K_604, K_605, K_606, K_607, K_608, K_609, K_610, K_611, K_612, K_613, K_524, K_876, K_603] from rfl) ▸ by simp) hd
theorem u_tell {d : Nat} (hd : 1 ≤ d) {M : pM} {a1 : Int} (hM : gM gAll M) (p0 : 0 ≤ M 60 16 ∧ M 60 16 ≤ 15) : ∃ M', xF d 172 [.inr 62, .inl a1] M = rV M' ∧ gM gAll M' ∧ Fr [(60, 16), (69, 999)] M M' := by
  obtain ⟨M', e, g, f, -⟩ := cOK_V (u_tell_c hd) (A := [.inr 62, .inl a1]) (show aF2 gW [aRef 62, (1, 0, 0, 0, 0, 0)] [.inr 62, .inl a1] from ⟨gW_o, gW_1, trivial⟩) hM (show gP0 [(60, 16, (0, 0, 15, 0, 0, 0))] M from fun e he => by
    simp only [List.mem_cons, List.not_mem_nil, or_false] at he
    rcases he with rfl
    · exact gR_i p0.1 p0.2) rfl
  exact ⟨M', e, g, f⟩
theorem u_tellF_c {d : Nat} (hd : 2 ≤ d) : cOK gAll (xF d) 232 K_614 := ct_of ct_ok (show K_614 ∈ CT.getD 232 [] from (show CT.getD 232 [] = [K_541, K_595, K_1022, K_1028, K_1034, K_1040, K_1046, K_1052, K_1058, K_1064, K_1070, K_1076, K_1113, K_1115, K_1117, K_1119, K_1121, K_1123, K_1125, K_1127, K_1129, K_1131, K_534, K_558, K_614] from rfl) ▸ by simp) hd
theorem u_tellF {d : Nat} (hd : 2 ≤ d) {M : pM} (hM : gM gAll M) (p0 : 0 ≤ M 60 16 ∧ M 60 16 ≤ 6) : ∃ M', xF d 232 [.inr 62, .inr 82] M = rV M' ∧ gM gAll M' ∧ Fr [(60, 16), (69, 999)] M M' := by
  obtain ⟨M', e, g, f, -⟩ := cOK_V (u_tellF_c hd) (A := [.inr 62, .inr 82]) (show aF2 gW [aRef 62, aRef 82] [.inr 62, .inr 82] from ⟨gW_o, gW_o, trivial⟩) hM (show gP0 [(60, 16, (0, 0, 6, 0, 0, 0))] M from fun e he => by
    simp only [List.mem_cons, List.not_mem_nil, or_false] at he
    rcases he with rfl
    · exact gR_i p0.1 p0.2) rfl
  exact ⟨M', e, g, f⟩
theorem u_take_c {d : Nat} (hd : 1 ≤ d) : cOK gAll (xF d) 233 K_535 := ct_of ct_ok (show K_535 ∈ CT.getD 233 [] from (show CT.getD 233 [] = [K_535] from rfl) ▸ by simp) hd
theorem u_take {d : Nat} (hd : 1 ≤ d) {M : pM} (hM : gM gAll M)  : ∃ M', xF d 233 [.inr 62] M = rV M' ∧ gM gAll M' ∧ Fr [(80, 999)] M M' := by
  obtain ⟨M', e, g, f, -⟩ := cOK_V (u_take_c hd) (A := [.inr 62]) (show aF2 gW [aRef 62] [.inr 62] from ⟨gW_o, trivial⟩) hM (show gP0 [] M from fun e he => by cases he) rfl
  exact ⟨M', e, g, f⟩
theorem u_worthOf_c {d : Nat} (hd : 341 ≤ d) : cOK gAll (xF d) 194 K_505 := ct_of ct_ok (show K_505 ∈ CT.getD 194 [] from (show CT.getD 194 [] = [K_505] from rfl) ▸ by simp) hd
theorem u_worthOf {d : Nat} (hd : 341 ≤ d) {M : pM} {a1 : Int} {a2 : Int} (hM : gM gAll M) (h1 : 0 ≤ a1 ∧ a1 ≤ 9) (h2 : 0 ≤ a2 ∧ a2 ≤ 5) : ∃ z M', xF d 194 [.inr 62, .inl a1, .inl a2] M = rI z M' ∧ gM gAll M' ∧ Fr [(60, 18), (60, 19), (60, 20), (60, 21), (60, 22), (60, 26), (60, 27)] M M' ∧ (-999 ≤ z ∧ z ≤ 999) := by
  obtain ⟨z, M', e, g, f, alt, ha, q, -⟩ := cOK_I (u_worthOf_c hd) (A := [.inr 62, .inl a1, .inl a2]) (show aF2 gW [aRef 62, (0, 0, 9, 0, 0, 0), (0, 0, 5, 0, 0, 0)] [.inr 62, .inl a1, .inl a2] from ⟨gW_o, gW_i h1.1 h1.2, gW_i h2.1 h2.2, trivial⟩) hM (show gP0 [] M from fun e he => by cases he) rfl
  refine ⟨z, M', e, g, f, ?_⟩
  have ha : alt ∈ [(some (0, 0, 0, 0, 0, 0), [], [(60, 25, (0, 0, 0, 0, 0, 0))]), (some (0, -999, 999, 0, 0, 0), [], [(60, 18, (0, 73, 73, 0, 0, 0)), (60, 19, (0, 1, 40, 0, 0, 0)), (60, 20, (0, 40, 40, 0, 0, 0)), (60, 21, (0, 0, 40, 0, 0, 0)), (60, 25, (0, 1, 40, 0, 0, 0)), (60, 26, (0, 0, 9, 0, 0, 0))])] := ha
  simp only [List.mem_cons, List.not_mem_nil, or_false] at ha
  rcases ha with rfl | rfl
  · obtain ⟨z2, e2, r⟩ := gW_int (show gW _ _ from q) (Nat.le_of_ble_eq_true rfl)
    cases e2
    have := gR0 r
    omega
  · obtain ⟨z2, e2, r⟩ := gW_int (show gW _ _ from q) (Nat.le_of_ble_eq_true rfl)
    cases e2
    have := gR0 r
    omega
theorem u_costR_c {d : Nat} (hd : 3 ≤ d) : cOK gAll (xF d) 209 K_615 := ct_of ct_ok (show K_615 ∈ CT.getD 209 [] from (show CT.getD 209 [] = [K_547, K_584, K_615] from rfl) ▸ by simp) hd
theorem u_costR {d : Nat} (hd : 3 ≤ d) {M : pM} {a2 : Int} {a4 : Int} (hM : gM gAll M) (h2 : 0 ≤ a2 ∧ a2 ≤ 3000) (h4 : 0 ≤ a4 ∧ a4 ≤ 3000) : ∃ z M', xF d 209 [.inr 62, .inr 85, .inl a2, .inr 85, .inl a4] M = rI z M' ∧ gM gAll M' ∧ Fr [(74, 999)] M M' ∧ (0 ≤ z ∧ z ≤ 89999910) := by
  obtain ⟨z, M', e, g, f, alt, ha, q, -⟩ := cOK_I (u_costR_c hd) (A := [.inr 62, .inr 85, .inl a2, .inr 85, .inl a4]) (show aF2 gW [aRef 62, aRef 85, (0, 0, 3000, 0, 0, 0), aRef 85, (0, 0, 3000, 0, 0, 0)] [.inr 62, .inr 85, .inl a2, .inr 85, .inl a4] from ⟨gW_o, gW_o, gW_i h2.1 h2.2, gW_o, gW_i h4.1 h4.2, trivial⟩) hM (show gP0 [] M from fun e he => by cases he) rfl
  refine ⟨z, M', e, g, f, ?_⟩
  have ha : alt ∈ [(some (0, 0, 0, 0, 0, 0), [], [(60, 3, (0, 0, 0, 0, 0, 0))]), (some (0, 0, 89999910, 0, 0, 0), [], [(60, 3, (0, 1, 10, 0, 0, 0))])] := ha
  simp only [List.mem_cons, List.not_mem_nil, or_false] at ha
  rcases ha with rfl | rfl
  · obtain ⟨z2, e2, r⟩ := gW_int (show gW _ _ from q) (Nat.le_of_ble_eq_true rfl)
    cases e2
    have := gR0 r
    omega
  · obtain ⟨z2, e2, r⟩ := gW_int (show gW _ _ from q) (Nat.le_of_ble_eq_true rfl)
    cases e2
    have := gR0 r
    omega
theorem u_costA_c {d : Nat} (hd : 3 ≤ d) : cOK gAll (xF d) 209 K_584 := ct_of ct_ok (show K_584 ∈ CT.getD 209 [] from (show CT.getD 209 [] = [K_547, K_584, K_615] from rfl) ▸ by simp) hd
theorem u_costA {d : Nat} (hd : 3 ≤ d) {M : pM} {a2 : Int} {a4 : Int} (hM : gM gAll M) (h2 : 0 ≤ a2 ∧ a2 ≤ 0) (h4 : 0 ≤ a4 ∧ a4 ≤ 0) : ∃ z M', xF d 209 [.inr 62, .inr 68, .inl a2, .inr 83, .inl a4] M = rI z M' ∧ gM gAll M' ∧ Fr [(74, 999)] M M' ∧ (0 ≤ z ∧ z ≤ 89999910) := by
  obtain ⟨z, M', e, g, f, alt, ha, q, -⟩ := cOK_I (u_costA_c hd) (A := [.inr 62, .inr 68, .inl a2, .inr 83, .inl a4]) (show aF2 gW [aRef 62, aRef 68, (0, 0, 0, 0, 0, 0), aRef 83, (0, 0, 0, 0, 0, 0)] [.inr 62, .inr 68, .inl a2, .inr 83, .inl a4] from ⟨gW_o, gW_o, gW_i h2.1 h2.2, gW_o, gW_i h4.1 h4.2, trivial⟩) hM (show gP0 [] M from fun e he => by cases he) rfl
  refine ⟨z, M', e, g, f, ?_⟩
  have ha : alt ∈ [(some (0, 0, 0, 0, 0, 0), [], [(60, 3, (0, 0, 0, 0, 0, 0))]), (some (0, 0, 89999910, 0, 0, 0), [], [(60, 3, (0, 1, 10, 0, 0, 0))])] := ha
  simp only [List.mem_cons, List.not_mem_nil, or_false] at ha
  rcases ha with rfl | rfl
  · obtain ⟨z2, e2, r⟩ := gW_int (show gW _ _ from q) (Nat.le_of_ble_eq_true rfl)
    cases e2
    have := gR0 r
    omega
  · obtain ⟨z2, e2, r⟩ := gW_int (show gW _ _ from q) (Nat.le_of_ble_eq_true rfl)
    cases e2
    have := gR0 r
    omega
theorem u_nextRow_c {d : Nat} (hd : 3 ≤ d) : cOK gAll (xF d) 230 K_533 := ct_of ct_ok (show K_533 ∈ CT.getD 230 [] from (show CT.getD 230 [] = [K_540, K_1016, K_1021, K_1027, K_1033, K_1039, K_1045, K_1051, K_1057, K_1063, K_1069, K_1075, K_572, K_533] from rfl) ▸ by simp) hd
theorem u_nextRow {d : Nat} (hd : 3 ≤ d) {M : pM} (hM : gM gAll M) (p0 : 1 ≤ M 60 0 ∧ M 60 0 ≤ 6) (p1 : -1 ≤ M 60 40 ∧ M 60 40 ≤ 999999) : ∃ z M', xF d 230 [.inr 62] M = rI z M' ∧ gM gAll M' ∧ Fr [(60, 40), (78, 999), (79, 999)] M M' ∧ (0 ≤ z ∧ z ≤ 1) := by
  obtain ⟨z, M', e, g, f, alt, ha, q, -⟩ := cOK_I (u_nextRow_c hd) (A := [.inr 62]) (show aF2 gW [aRef 62] [.inr 62] from ⟨gW_o, trivial⟩) hM (show gP0 [(60, 0, (0, 1, 6, 0, 0, 0)), (60, 40, (0, -1, 999999, 0, 0, 0))] M from fun e he => by
    simp only [List.mem_cons, List.not_mem_nil, or_false] at he
    rcases he with rfl | rfl
    · exact gR_i p0.1 p0.2
    · exact gR_i p1.1 p1.2) rfl
  refine ⟨z, M', e, g, f, ?_⟩
  have ha : alt ∈ [(some (0, 0, 0, 0, 0, 0), [], [(60, 0, (0, 1, 6, 0, 0, 0)), (60, 40, (0, 0, 1000000, 1, 1, 0))]), (some (0, 1, 1, 0, 0, 0), [], [(60, 0, (0, 1, 6, 0, 0, 0)), (60, 39, (0, 1, 1000000, 0, 0, 0)), (60, 40, (0, 0, 999999, 1, 1, 0))])] := ha
  simp only [List.mem_cons, List.not_mem_nil, or_false] at ha
  rcases ha with rfl | rfl
  · obtain ⟨z2, e2, r⟩ := gW_int (show gW _ _ from q) (Nat.le_of_ble_eq_true rfl)
    cases e2
    have := gR0 r
    omega
  · obtain ⟨z2, e2, r⟩ := gW_int (show gW _ _ from q) (Nat.le_of_ble_eq_true rfl)
    cases e2
    have := gR0 r
    omega
theorem u_steps_c {d : Nat} (hd : 2 ≤ d) : cOK gAll (xF d) 208 K_579 := ct_of ct_ok (show K_579 ∈ CT.getD 208 [] from (show CT.getD 208 [] = [K_579, K_546, K_879] from rfl) ▸ by simp) hd
theorem u_steps {d : Nat} (hd : 2 ≤ d) {M : pM} {a1 : Int} {a2 : Int} {a3 : Int} (hM : gM gAll M) (h1 : 0 ≤ a1 ∧ a1 ≤ 9) (h2 : 0 ≤ a2 ∧ a2 ≤ 5) (h3 : 0 ≤ a3 ∧ a3 ≤ 5) : ∃ z M', xF d 208 [.inr 62, .inl a1, .inl a2, .inl a3] M = rI z M' ∧ gM gAll M' ∧ Fr [(74, 999)] M M' ∧ (0 ≤ z ∧ z ≤ 1000000) := by
  obtain ⟨z, M', e, g, f, alt, ha, q, -⟩ := cOK_I (u_steps_c hd) (A := [.inr 62, .inl a1, .inl a2, .inl a3]) (show aF2 gW [aRef 62, (0, 0, 9, 0, 0, 0), (0, 0, 5, 0, 0, 0), (0, 0, 5, 0, 0, 0)] [.inr 62, .inl a1, .inl a2, .inl a3] from ⟨gW_o, gW_i h1.1 h1.2, gW_i h2.1 h2.2, gW_i h3.1 h3.2, trivial⟩) hM (show gP0 [] M from fun e he => by cases he) rfl
  refine ⟨z, M', e, g, f, ?_⟩
  have ha : alt ∈ [(some (0, 0, 1000000, 0, 0, 0), [], [])] := ha
  simp only [List.mem_cons, List.not_mem_nil, or_false] at ha
  rcases ha with rfl
  · obtain ⟨z2, e2, r⟩ := gW_int (show gW _ _ from q) (Nat.le_of_ble_eq_true rfl)
    cases e2
    have := gR0 r
    omega
theorem u_lawful_c {d : Nat} (hd : 3 ≤ d) : cOK gAll (xF d) 212 K_570 := ct_of ct_ok (show K_570 ∈ CT.getD 212 [] from (show CT.getD 212 [] = [K_570, K_588, K_1133] from rfl) ▸ by simp) hd
theorem u_lawful {d : Nat} (hd : 3 ≤ d) {M : pM} (hM : gM gAll M)  : ∃ z M', xF d 212 [.inr 62, .inr 80] M = rI z M' ∧ gM gAll M' ∧ Fr [] M M' ∧ (0 ≤ z ∧ z ≤ 1) := by
  obtain ⟨z, M', e, g, f, alt, ha, q, -⟩ := cOK_I (u_lawful_c hd) (A := [.inr 62, .inr 80]) (show aF2 gW [aRef 62, aRef 80] [.inr 62, .inr 80] from ⟨gW_o, gW_o, trivial⟩) hM (show gP0 [] M from fun e he => by cases he) rfl
  refine ⟨z, M', e, g, f, ?_⟩
  have ha : alt ∈ [(some (0, 0, 0, 0, 0, 0), [], []), (some (0, 1, 1, 0, 0, 0), [], [])] := ha
  simp only [List.mem_cons, List.not_mem_nil, or_false] at ha
  rcases ha with rfl | rfl
  · obtain ⟨z2, e2, r⟩ := gW_int (show gW _ _ from q) (Nat.le_of_ble_eq_true rfl)
    cases e2
    have := gR0 r
    omega
  · obtain ⟨z2, e2, r⟩ := gW_int (show gW _ _ from q) (Nat.le_of_ble_eq_true rfl)
    cases e2
    have := gR0 r
    omega
theorem u_tooMuch_c {d : Nat} (hd : 3 ≤ d) : cOK gAll (xF d) 228 K_528 := ct_of ct_ok (show K_528 ∈ CT.getD 228 [] from (show CT.getD 228 [] = [K_538, K_1014, K_1019, K_1025, K_1031, K_1037, K_1043, K_1049, K_1055, K_1061, K_1067, K_1073, K_528] from rfl) ▸ by simp) hd
theorem u_tooMuch {d : Nat} (hd : 3 ≤ d) {M : pM} (hM : gM gAll M) (p0 : 1 ≤ M 60 0 ∧ M 60 0 ≤ 6) : ∃ z M', xF d 228 [.inr 62] M = rI z M' ∧ gM gAll M' ∧ Fr [(60, 30), (60, 39), (72, 999), (73, 999)] M M' ∧ (0 ≤ z ∧ z ≤ 1) := by
  obtain ⟨z, M', e, g, f, alt, ha, q, -⟩ := cOK_I (u_tooMuch_c hd) (A := [.inr 62]) (show aF2 gW [aRef 62] [.inr 62] from ⟨gW_o, trivial⟩) hM (show gP0 [(60, 0, (0, 1, 6, 0, 0, 0))] M from fun e he => by
    simp only [List.mem_cons, List.not_mem_nil, or_false] at he
    rcases he with rfl
    · exact gR_i p0.1 p0.2) rfl
  refine ⟨z, M', e, g, f, ?_⟩
  have ha : alt ∈ [(some (0, 0, 0, 0, 0, 0), [], [(60, 0, (0, 1, 6, 0, 0, 0)), (60, 39, (0, 1, 20000, 0, 0, 0))]), (some (0, 1, 1, 0, 0, 0), [], [(60, 0, (0, 1, 6, 0, 0, 0)), (60, 39, (0, 20001, 1000000, 0, 0, 0))])] := ha
  simp only [List.mem_cons, List.not_mem_nil, or_false] at ha
  rcases ha with rfl | rfl
  · obtain ⟨z2, e2, r⟩ := gW_int (show gW _ _ from q) (Nat.le_of_ble_eq_true rfl)
    cases e2
    have := gR0 r
    omega
  · obtain ⟨z2, e2, r⟩ := gW_int (show gW _ _ from q) (Nat.le_of_ble_eq_true rfl)
    cases e2
    have := gR0 r
    omega
theorem u_tooMuch0_c {d : Nat} (hd : 3 ≤ d) : cOK gAll (xF d) 228 K_538 := ct_of ct_ok (show K_538 ∈ CT.getD 228 [] from (show CT.getD 228 [] = [K_538, K_1014, K_1019, K_1025, K_1031, K_1037, K_1043, K_1049, K_1055, K_1061, K_1067, K_1073, K_528] from rfl) ▸ by simp) hd
theorem u_tooMuch0 {d : Nat} (hd : 3 ≤ d) {M : pM} (hM : gM gAll M) (p0 : 0 ≤ M 60 0 ∧ M 60 0 ≤ 0) (p1 : 0 ≤ M 60 3 ∧ M 60 3 ≤ 0) : ∃ z M', xF d 228 [.inr 62] M = rI z M' ∧ gM gAll M' ∧ Fr [(60, 30), (60, 39), (72, 999), (73, 999)] M M' ∧ (0 ≤ z ∧ z ≤ 0) := by
  obtain ⟨z, M', e, g, f, alt, ha, q, -⟩ := cOK_I (u_tooMuch0_c hd) (A := [.inr 62]) (show aF2 gW [aRef 62] [.inr 62] from ⟨gW_o, trivial⟩) hM (show gP0 [(60, 0, (0, 0, 0, 0, 0, 0)), (60, 3, (0, 0, 0, 0, 0, 0))] M from fun e he => by
    simp only [List.mem_cons, List.not_mem_nil, or_false] at he
    rcases he with rfl | rfl
    · exact gR_i p0.1 p0.2
    · exact gR_i p1.1 p1.2) rfl
  refine ⟨z, M', e, g, f, ?_⟩
  have ha : alt ∈ [(some (0, 0, 0, 0, 0, 0), [], [(60, 0, (0, 0, 0, 0, 0, 0)), (60, 3, (0, 0, 0, 0, 0, 0)), (60, 30, (0, 0, 0, 0, 0, 0)), (60, 39, (0, 1, 1, 0, 0, 0))])] := ha
  simp only [List.mem_cons, List.not_mem_nil, or_false] at ha
  rcases ha with rfl
  · obtain ⟨z2, e2, r⟩ := gW_int (show gW _ _ from q) (Nat.le_of_ble_eq_true rfl)
    cases e2
    have := gR0 r
    omega
theorem u_isCost_c {d : Nat} (hd : 1 ≤ d) : cOK gAll (xF d) 265 K_616 := ct_of ct_ok (show K_616 ∈ CT.getD 265 [] from (show CT.getD 265 [] = [K_616] from rfl) ▸ by simp) hd
theorem u_isCost {d : Nat} (hd : 1 ≤ d) {M : pM} {a1 : Int} (hM : gM gAll M) (h1 : -2147483648 ≤ a1 ∧ a1 ≤ 2147483647) : ∃ z M', xF d 265 [.inr 62, .inl a1] M = rI z M' ∧ gM gAll M' ∧ Fr [] M M' ∧ (0 ≤ z ∧ z ≤ 1) := by
  obtain ⟨z, M', e, g, f, alt, ha, q, -⟩ := cOK_I (u_isCost_c hd) (A := [.inr 62, .inl a1]) (show aF2 gW [aRef 62, (0, -2147483648, 2147483647, 0, 0, 0)] [.inr 62, .inl a1] from ⟨gW_o, gW_i h1.1 h1.2, trivial⟩) hM (show gP0 [] M from fun e he => by cases he) rfl
  refine ⟨z, M', e, g, f, ?_⟩
  have ha : alt ∈ [(some (0, 0, 0, 0, 0, 0), [], []), (some (0, 1, 1, 0, 0, 0), [(4, 0, 0, 0, 0, 0), (0, 0, 100000000, 0, 0, 0)], [(60, 48, (0, 2, 301, 0, 0, 0))])] := ha
  simp only [List.mem_cons, List.not_mem_nil, or_false] at ha
  rcases ha with rfl | rfl
  · obtain ⟨z2, e2, r⟩ := gW_int (show gW _ _ from q) (Nat.le_of_ble_eq_true rfl)
    cases e2
    have := gR0 r
    omega
  · obtain ⟨z2, e2, r⟩ := gW_int (show gW _ _ from q) (Nat.le_of_ble_eq_true rfl)
    cases e2
    have := gR0 r
    omega
theorem u_hasAim_c {d : Nat} (hd : 1 ≤ d) : cOK gAll (xF d) 256 K_583 := ct_of ct_ok (show K_583 ∈ CT.getD 256 [] from (show CT.getD 256 [] = [K_583] from rfl) ▸ by simp) hd
theorem u_hasAim {d : Nat} (hd : 1 ≤ d) {M : pM} (hM : gM gAll M)  : ∃ z M', xF d 256 [.inr 62] M = rI z M' ∧ gM gAll M' ∧ Fr [] M M' ∧ (0 ≤ z ∧ z ≤ 1) := by
  obtain ⟨z, M', e, g, f, alt, ha, q, -⟩ := cOK_I (u_hasAim_c hd) (A := [.inr 62]) (show aF2 gW [aRef 62] [.inr 62] from ⟨gW_o, trivial⟩) hM (show gP0 [] M from fun e he => by cases he) rfl
  refine ⟨z, M', e, g, f, ?_⟩
  have ha : alt ∈ [(some (0, 0, 0, 0, 0, 0), [], []), (some (0, 1, 1, 0, 0, 0), [], [(60, 44, (0, 1, 1, 0, 0, 0))])] := ha
  simp only [List.mem_cons, List.not_mem_nil, or_false] at ha
  rcases ha with rfl | rfl
  · obtain ⟨z2, e2, r⟩ := gW_int (show gW _ _ from q) (Nat.le_of_ble_eq_true rfl)
    cases e2
    have := gR0 r
    omega
  · obtain ⟨z2, e2, r⟩ := gW_int (show gW _ _ from q) (Nat.le_of_ble_eq_true rfl)
    cases e2
    have := gR0 r
    omega
theorem u_isThere_c {d : Nat} (hd : 1 ≤ d) : cOK gAll (xF d) 261 K_600 := ct_of ct_ok (show K_600 ∈ CT.getD 261 [] from (show CT.getD 261 [] = [K_600] from rfl) ▸ by simp) hd
theorem u_isThere {d : Nat} (hd : 1 ≤ d) {M : pM} (hM : gM gAll M)  : ∃ z M', xF d 261 [.inr 62] M = rI z M' ∧ gM gAll M' ∧ Fr [] M M' ∧ (0 ≤ z ∧ z ≤ 1) := by
  obtain ⟨z, M', e, g, f, alt, ha, q, -⟩ := cOK_I (u_isThere_c hd) (A := [.inr 62]) (show aF2 gW [aRef 62] [.inr 62] from ⟨gW_o, trivial⟩) hM (show gP0 [] M from fun e he => by cases he) rfl
  refine ⟨z, M', e, g, f, ?_⟩
  have ha : alt ∈ [(some (0, 0, 0, 0, 0, 0), [], [(60, 3, (0, 1, 10, 0, 0, 0))]), (some (0, 1, 1, 0, 0, 0), [], [])] := ha
  simp only [List.mem_cons, List.not_mem_nil, or_false] at ha
  rcases ha with rfl | rfl
  · obtain ⟨z2, e2, r⟩ := gW_int (show gW _ _ from q) (Nat.le_of_ble_eq_true rfl)
    cases e2
    have := gR0 r
    omega
  · obtain ⟨z2, e2, r⟩ := gW_int (show gW _ _ from q) (Nat.le_of_ble_eq_true rfl)
    cases e2
    have := gR0 r
    omega
theorem u_enough_c {d : Nat} (hd : 4 ≤ d) : cOK gAll (xF d) 249 K_617 := ct_of ct_ok (show K_617 ∈ CT.getD 249 [] from (show CT.getD 249 [] = [K_617] from rfl) ▸ by simp) hd
theorem u_enough {d : Nat} (hd : 4 ≤ d) {M : pM} {a1 : Int} {a2 : Int} (hM : gM gAll M) (h1 : 0 ≤ a1 ∧ a1 ≤ 5) (h2 : 0 ≤ a2 ∧ a2 ≤ 200) (p0 : 1 ≤ M 60 0 ∧ M 60 0 ≤ 6) : ∃ z M', xF d 249 [.inr 62, .inl a1, .inl a2] M = rI z M' ∧ gM gAll M' ∧ Fr [(60, 40), (61, 999), (78, 999), (79, 999)] M M' ∧ (0 ≤ z ∧ z ≤ 1) := by
  obtain ⟨z, M', e, g, f, alt, ha, q, -⟩ := cOK_I (u_enough_c hd) (A := [.inr 62, .inl a1, .inl a2]) (show aF2 gW [aRef 62, (0, 0, 5, 0, 0, 0), (0, 0, 200, 0, 0, 0)] [.inr 62, .inl a1, .inl a2] from ⟨gW_o, gW_i h1.1 h1.2, gW_i h2.1 h2.2, trivial⟩) hM (show gP0 [(60, 0, (0, 1, 6, 0, 0, 0))] M from fun e he => by
    simp only [List.mem_cons, List.not_mem_nil, or_false] at he
    rcases he with rfl
    · exact gR_i p0.1 p0.2) rfl
  refine ⟨z, M', e, g, f, ?_⟩
  have ha : alt ∈ [(some (0, 0, 0, 0, 0, 0), [], [(60, 0, (0, 1, 6, 0, 0, 0)), (60, 40, (0, 0, 1000000, 0, 0, 0))]), (some (0, 1, 1, 0, 0, 0), [], [(60, 0, (0, 1, 6, 0, 0, 0)), (60, 39, (0, 1, 1000000, 0, 0, 0)), (60, 40, (0, 0, 999999, 0, 0, 0))])] := ha
  simp only [List.mem_cons, List.not_mem_nil, or_false] at ha
  rcases ha with rfl | rfl
  · obtain ⟨z2, e2, r⟩ := gW_int (show gW _ _ from q) (Nat.le_of_ble_eq_true rfl)
    cases e2
    have := gR0 r
    omega
  · obtain ⟨z2, e2, r⟩ := gW_int (show gW _ _ from q) (Nat.le_of_ble_eq_true rfl)
    cases e2
    have := gR0 r
    omega
end
section
/-! the calls that need no hand (by program) -/
theorem q_X_sign_c {d : Nat} (hd : 2 ≤ d) : cOK gAll (xF d) 0 K_1 := ct_of ct_ok (show K_1 ∈ CT.getD 0 [] from (show CT.getD 0 [] = [K_1] from rfl) ▸ by simp) hd
theorem q_X_sign {d : Nat} (hd : 2 ≤ d) {M : pM} {a1 : Int} (hM : gM gAll M) (h1 : -2147483648 ≤ a1 ∧ a1 ≤ 2147483647) : ∃ z M', xF d 0 [.inr 2, .inl a1] M = rI z M' ∧ gM gAll M' ∧ Fr [(1, 1), (2, 999)] M M' ∧ (-1 ≤ z ∧ z ≤ 80) := by
  obtain ⟨z, M', e, g, f, alt, ha, q, -⟩ := cOK_I (q_X_sign_c hd) (A := [.inr 2, .inl a1]) (show aF2 gW [aRef 2, (0, -2147483648, 2147483647, 0, 0, 0)] [.inr 2, .inl a1] from ⟨gW_o, gW_i h1.1 h1.2, trivial⟩) hM (show gP0 [] M from fun e he => by cases he) rfl
  refine ⟨z, M', e, g, f, ?_⟩
  have ha : alt ∈ [(some (0, -1, -1, 0, 0, 0), [], [(1, 1, (0, 77, 80, 0, 0, 0))]), (some (0, 4, 80, 0, 0, 0), [], [(1, 1, (0, 4, 80, 0, 0, 0))])] := ha
  simp only [List.mem_cons, List.not_mem_nil, or_false] at ha
  rcases ha with rfl | rfl
  · obtain ⟨z2, e2, r⟩ := gW_int (show gW _ _ from q) (Nat.le_of_ble_eq_true rfl)
    cases e2
    have := gR0 r
    omega
  · obtain ⟨z2, e2, r⟩ := gW_int (show gW _ _ from q) (Nat.le_of_ble_eq_true rfl)
    cases e2
    have := gR0 r
    omega
theorem q_X_end_c {d : Nat} (hd : 2 ≤ d) : cOK gAll (xF d) 1 K_3 := ct_of ct_ok (show K_3 ∈ CT.getD 1 [] from (show CT.getD 1 [] = [K_3] from rfl) ▸ by simp) hd
theorem q_X_end {d : Nat} (hd : 2 ≤ d) {M : pM} {a1 : Int} (hM : gM gAll M) (h1 : -2147483648 ≤ a1 ∧ a1 ≤ 2147483647) : ∃ z M', xF d 1 [.inr 2, .inl a1] M = rI z M' ∧ gM gAll M' ∧ Fr [(1, 1)] M M' ∧ (0 ≤ z ∧ z ≤ 1) := by
  obtain ⟨z, M', e, g, f, alt, ha, q, -⟩ := cOK_I (q_X_end_c hd) (A := [.inr 2, .inl a1]) (show aF2 gW [aRef 2, (0, -2147483648, 2147483647, 0, 0, 0)] [.inr 2, .inl a1] from ⟨gW_o, gW_i h1.1 h1.2, trivial⟩) hM (show gP0 [] M from fun e he => by cases he) rfl
  refine ⟨z, M', e, g, f, ?_⟩
  have ha : alt ∈ [(some (0, 0, 0, 0, 0, 0), [], []), (some (0, 1, 1, 0, 0, 0), [(4, 0, 0, 0, 0, 0), (0, 0, 80, 0, 0, 0)], [])] := ha
  simp only [List.mem_cons, List.not_mem_nil, or_false] at ha
  rcases ha with rfl | rfl
  · obtain ⟨z2, e2, r⟩ := gW_int (show gW _ _ from q) (Nat.le_of_ble_eq_true rfl)
    cases e2
    have := gR0 r
    omega
  · obtain ⟨z2, e2, r⟩ := gW_int (show gW _ _ from q) (Nat.le_of_ble_eq_true rfl)
    cases e2
    have := gR0 r
    omega
theorem q_X_house_c {d : Nat} (hd : 8 ≤ d) : cOK gAll (xF d) 2 K_166 := ct_of ct_ok (show K_166 ∈ CT.getD 2 [] from (show CT.getD 2 [] = [K_166] from rfl) ▸ by simp) hd
theorem q_X_house {d : Nat} (hd : 8 ≤ d) {M : pM} (hM : gM gAll M)  : ∃ z M', xF d 2 [.inr 2] M = rI z M' ∧ gM gAll M' ∧ Fr [(1, 1), (3, 1), (3, 2), (3, 3), (7, 9), (7, 10), (7, 11), (7, 12), (8, 999), (9, 999), (10, 999), (11, 999), (12, 999), (13, 999), (14, 999), (15, 999), (16, 999), (17, 9), (17, 10), (17, 11), (17, 12), (18, 999), (19, 999), (20, 999), (21, 999), (22, 999), (23, 999), (24, 999), (25, 999), (26, 999), (39, 3)] M M' := by
  obtain ⟨z, M', e, g, f, alt, ha, q, -⟩ := cOK_I (q_X_house_c hd) (A := [.inr 2]) (show aF2 gW [aRef 2] [.inr 2] from ⟨gW_o, trivial⟩) hM (show gP0 [] M from fun e he => by cases he) rfl
  exact ⟨z, M', e, g, f⟩
theorem q_X_rule_c {d : Nat} (hd : 32 ≤ d) : cOK gAll (xF d) 3 K_214 := ct_of ct_ok (show K_214 ∈ CT.getD 3 [] from (show CT.getD 3 [] = [K_214] from rfl) ▸ by simp) hd
theorem q_X_rule {d : Nat} (hd : 32 ≤ d) {M : pM} (hM : gM gAll M)  : ∃ z M', xF d 3 [.inr 2] M = rI z M' ∧ gM gAll M' ∧ Fr [(1, 1), (3, 1), (3, 2), (3, 3), (28, 1), (29, 999)] M M' ∧ (-81 ≤ z ∧ z ≤ 0) := by
  obtain ⟨z, M', e, g, f, alt, ha, q, -⟩ := cOK_I (q_X_rule_c hd) (A := [.inr 2]) (show aF2 gW [aRef 2] [.inr 2] from ⟨gW_o, trivial⟩) hM (show gP0 [] M from fun e he => by cases he) rfl
  refine ⟨z, M', e, g, f, ?_⟩
  have ha : alt ∈ [(some (0, 0, 0, 0, 0, 0), [], [(3, 2, (0, 0, 40, 0, 0, 0)), (3, 3, (0, -1, -1, 0, 0, 0))]), (some (0, -81, -1, 0, 0, 0), [], [(3, 2, (0, 0, 40, 0, 0, 0))])] := ha
  simp only [List.mem_cons, List.not_mem_nil, or_false] at ha
  rcases ha with rfl | rfl
  · obtain ⟨z2, e2, r⟩ := gW_int (show gW _ _ from q) (Nat.le_of_ble_eq_true rfl)
    cases e2
    have := gR0 r
    omega
  · obtain ⟨z2, e2, r⟩ := gW_int (show gW _ _ from q) (Nat.le_of_ble_eq_true rfl)
    cases e2
    have := gR0 r
    omega
theorem q_X_set_c {d : Nat} (hd : 1 ≤ d) : cOK gAll (xF d) 6 K_215 := ct_of ct_ok (show K_215 ∈ CT.getD 6 [] from (show CT.getD 6 [] = [K_215] from rfl) ▸ by simp) hd
theorem q_X_set {d : Nat} (hd : 1 ≤ d) {M : pM} {a1 : Int} (hM : gM gAll M) (h1 : -2147483648 ≤ a1 ∧ a1 ≤ 2147483647) : ∃ z M', xF d 6 [.inr 2, .inl a1] M = rI z M' ∧ gM gAll M' ∧ Fr [] M M' ∧ (-1 ≤ z ∧ z ≤ 1023) := by
  obtain ⟨z, M', e, g, f, alt, ha, q, -⟩ := cOK_I (q_X_set_c hd) (A := [.inr 2, .inl a1]) (show aF2 gW [aRef 2, (0, -2147483648, 2147483647, 0, 0, 0)] [.inr 2, .inl a1] from ⟨gW_o, gW_i h1.1 h1.2, trivial⟩) hM (show gP0 [] M from fun e he => by cases he) rfl
  refine ⟨z, M', e, g, f, ?_⟩
  have ha : alt ∈ [(some (0, -1, -1, 0, 0, 0), [], []), (some (0, 0, 1023, 0, 0, 0), [(4, 0, 0, 0, 0, 0), (0, 0, 7, 0, 0, 0)], [(7, 11, (0, 1, 8, 0, 0, 0))])] := ha
  simp only [List.mem_cons, List.not_mem_nil, or_false] at ha
  rcases ha with rfl | rfl
  · obtain ⟨z2, e2, r⟩ := gW_int (show gW _ _ from q) (Nat.le_of_ble_eq_true rfl)
    cases e2
    have := gR0 r
    omega
  · obtain ⟨z2, e2, r⟩ := gW_int (show gW _ _ from q) (Nat.le_of_ble_eq_true rfl)
    cases e2
    have := gR0 r
    omega
theorem q_X_door_c {d : Nat} (hd : 4 ≤ d) : cOK gAll (xF d) 7 K_219 := ct_of ct_ok (show K_219 ∈ CT.getD 7 [] from (show CT.getD 7 [] = [K_219] from rfl) ▸ by simp) hd
theorem q_X_door {d : Nat} (hd : 4 ≤ d) {M : pM} {a1 : Int} {a2 : Int} (hM : gM gAll M) (h1 : -2147483648 ≤ a1 ∧ a1 ≤ 2147483647) (h2 : -2147483648 ≤ a2 ∧ a2 ≤ 2147483647) : ∃ z M', xF d 7 [.inr 2, .inl a1, .inl a2] M = rI z M' ∧ gM gAll M' ∧ Fr [] M M' ∧ (-2 ≤ z ∧ z ≤ 9) := by
  obtain ⟨z, M', e, g, f, alt, ha, q, -⟩ := cOK_I (q_X_door_c hd) (A := [.inr 2, .inl a1, .inl a2]) (show aF2 gW [aRef 2, (0, -2147483648, 2147483647, 0, 0, 0), (0, -2147483648, 2147483647, 0, 0, 0)] [.inr 2, .inl a1, .inl a2] from ⟨gW_o, gW_i h1.1 h1.2, gW_i h2.1 h2.2, trivial⟩) hM (show gP0 [] M from fun e he => by cases he) rfl
  refine ⟨z, M', e, g, f, ?_⟩
  have ha : alt ∈ [(some (0, -1, -1, 0, 0, 0), [], []), (some (0, -2, -2, 0, 0, 0), [(4, 0, 0, 0, 0, 0), (0, 0, 5, 0, 0, 0), (0, 0, 5, 0, 0, 0)], [(7, 9, (0, 1, 6, 0, 0, 0))]), (some (0, 1, 9, 0, 0, 0), [(4, 0, 0, 0, 0, 0), (0, 0, 5, 0, 0, 0), (0, 0, 5, 0, 0, 0)], [(7, 9, (0, 1, 6, 0, 0, 0))])] := ha
  simp only [List.mem_cons, List.not_mem_nil, or_false] at ha
  rcases ha with rfl | rfl | rfl
  · obtain ⟨z2, e2, r⟩ := gW_int (show gW _ _ from q) (Nat.le_of_ble_eq_true rfl)
    cases e2
    have := gR0 r
    omega
  · obtain ⟨z2, e2, r⟩ := gW_int (show gW _ _ from q) (Nat.le_of_ble_eq_true rfl)
    cases e2
    have := gR0 r
    omega
  · obtain ⟨z2, e2, r⟩ := gW_int (show gW _ _ from q) (Nat.le_of_ble_eq_true rfl)
    cases e2
    have := gR0 r
    omega
theorem q_X_widen_c {d : Nat} (hd : 4 ≤ d) : cOK gAll (xF d) 8 K_221 := ct_of ct_ok (show K_221 ∈ CT.getD 8 [] from (show CT.getD 8 [] = [K_221] from rfl) ▸ by simp) hd
theorem q_X_widen {d : Nat} (hd : 4 ≤ d) {M : pM} {a1 : Int} {a2 : Int} {a3 : Int} (hM : gM gAll M) (h1 : -2147483648 ≤ a1 ∧ a1 ≤ 2147483647) (h2 : -2147483648 ≤ a2 ∧ a2 ≤ 2147483647) (h3 : -2147483648 ≤ a3 ∧ a3 ≤ 2147483647) : ∃ z M', xF d 8 [.inr 2, .inl a1, .inl a2, .inl a3] M = rI z M' ∧ gM gAll M' ∧ Fr [(9, 999)] M M' ∧ (-1 ≤ z ∧ z ≤ 9) := by
  obtain ⟨z, M', e, g, f, alt, ha, q, -⟩ := cOK_I (q_X_widen_c hd) (A := [.inr 2, .inl a1, .inl a2, .inl a3]) (show aF2 gW [aRef 2, (0, -2147483648, 2147483647, 0, 0, 0), (0, -2147483648, 2147483647, 0, 0, 0), (0, -2147483648, 2147483647, 0, 0, 0)] [.inr 2, .inl a1, .inl a2, .inl a3] from ⟨gW_o, gW_i h1.1 h1.2, gW_i h2.1 h2.2, gW_i h3.1 h3.2, trivial⟩) hM (show gP0 [] M from fun e he => by cases he) rfl
  refine ⟨z, M', e, g, f, ?_⟩
  have ha : alt ∈ [(some (0, -1, -1, 0, 0, 0), [], []), (some (0, 0, 0, 0, 0, 0), [(4, 0, 0, 0, 0, 0), (0, 0, 5, 0, 0, 0), (0, 0, 5, 0, 0, 0), (0, 0, 9, 0, 0, 0)], [(7, 9, (0, 1, 6, 0, 0, 0))]), (some (0, 0, 9, 0, 0, 0), [(4, 0, 0, 0, 0, 0), (0, 0, 5, 0, 0, 0), (0, 0, 5, 0, 0, 0), (0, 0, 9, 0, 0, 0)], [(7, 9, (0, 1, 6, 0, 0, 0))])] := ha
  simp only [List.mem_cons, List.not_mem_nil, or_false] at ha
  rcases ha with rfl | rfl | rfl
  · obtain ⟨z2, e2, r⟩ := gW_int (show gW _ _ from q) (Nat.le_of_ble_eq_true rfl)
    cases e2
    have := gR0 r
    omega
  · obtain ⟨z2, e2, r⟩ := gW_int (show gW _ _ from q) (Nat.le_of_ble_eq_true rfl)
    cases e2
    have := gR0 r
    omega
  · obtain ⟨z2, e2, r⟩ := gW_int (show gW _ _ from q) (Nat.le_of_ble_eq_true rfl)
    cases e2
    have := gR0 r
    omega
theorem q_X_strength_c {d : Nat} (hd : 1 ≤ d) : cOK gAll (xF d) 9 K_222 := ct_of ct_ok (show K_222 ∈ CT.getD 9 [] from (show CT.getD 9 [] = [K_222] from rfl) ▸ by simp) hd
theorem q_X_strength {d : Nat} (hd : 1 ≤ d) {M : pM} {a1 : Int} (hM : gM gAll M) (h1 : -2147483648 ≤ a1 ∧ a1 ≤ 2147483647) : ∃ z M', xF d 9 [.inr 2, .inl a1] M = rI z M' ∧ gM gAll M' ∧ Fr [(0, 17)] M M' ∧ (-1 ≤ z ∧ z ≤ 999) := by
  obtain ⟨z, M', e, g, f, alt, ha, q, -⟩ := cOK_I (q_X_strength_c hd) (A := [.inr 2, .inl a1]) (show aF2 gW [aRef 2, (0, -2147483648, 2147483647, 0, 0, 0)] [.inr 2, .inl a1] from ⟨gW_o, gW_i h1.1 h1.2, trivial⟩) hM (show gP0 [] M from fun e he => by cases he) rfl
  refine ⟨z, M', e, g, f, ?_⟩
  have ha : alt ∈ [(some (0, -1, -1, 0, 0, 0), [], []), (some (0, 1, 999, 0, 0, 0), [(4, 0, 0, 0, 0, 0), (0, 1, 999, 0, 0, 0)], [])] := ha
  simp only [List.mem_cons, List.not_mem_nil, or_false] at ha
  rcases ha with rfl | rfl
  · obtain ⟨z2, e2, r⟩ := gW_int (show gW _ _ from q) (Nat.le_of_ble_eq_true rfl)
    cases e2
    have := gR0 r
    omega
  · obtain ⟨z2, e2, r⟩ := gW_int (show gW _ _ from q) (Nat.le_of_ble_eq_true rfl)
    cases e2
    have := gR0 r
    omega
theorem q_X_sheet_c {d : Nat} (hd : 2 ≤ d) : cOK gAll (xF d) 10 K_224 := ct_of ct_ok (show K_224 ∈ CT.getD 10 [] from (show CT.getD 10 [] = [K_224] from rfl) ▸ by simp) hd
theorem q_X_sheet {d : Nat} (hd : 2 ≤ d) {M : pM} {a1 : Int} {a2 : Int} {a3 : Int} {a4 : Int} (hM : gM gAll M) (h1 : -2147483648 ≤ a1 ∧ a1 ≤ 2147483647) (h2 : -2147483648 ≤ a2 ∧ a2 ≤ 2147483647) (h3 : -2147483648 ≤ a3 ∧ a3 ≤ 2147483647) (h4 : -2147483648 ≤ a4 ∧ a4 ≤ 2147483647) : ∃ z M', xF d 10 [.inr 2, .inl a1, .inl a2, .inl a3, .inl a4] M = rI z M' ∧ gM gAll M' ∧ Fr [(12, 999)] M M' := by
  obtain ⟨z, M', e, g, f, alt, ha, q, -⟩ := cOK_I (q_X_sheet_c hd) (A := [.inr 2, .inl a1, .inl a2, .inl a3, .inl a4]) (show aF2 gW [aRef 2, (0, -2147483648, 2147483647, 0, 0, 0), (0, -2147483648, 2147483647, 0, 0, 0), (0, -2147483648, 2147483647, 0, 0, 0), (0, -2147483648, 2147483647, 0, 0, 0)] [.inr 2, .inl a1, .inl a2, .inl a3, .inl a4] from ⟨gW_o, gW_i h1.1 h1.2, gW_i h2.1 h2.2, gW_i h3.1 h3.2, gW_i h4.1 h4.2, trivial⟩) hM (show gP0 [] M from fun e he => by cases he) rfl
  exact ⟨z, M', e, g, f⟩
theorem q_X_carry_c {d : Nat} (hd : 6 ≤ d) : cOK gAll (xF d) 11 K_234 := ct_of ct_ok (show K_234 ∈ CT.getD 11 [] from (show CT.getD 11 [] = [K_234] from rfl) ▸ by simp) hd
theorem q_X_carry {d : Nat} (hd : 6 ≤ d) {M : pM} {a1 : Int} {a2 : Int} (hM : gM gAll M) (h1 : -2147483648 ≤ a1 ∧ a1 ≤ 2147483647) (h2 : -2147483648 ≤ a2 ∧ a2 ≤ 2147483647) : ∃ z M', xF d 11 [.inr 2, .inl a1, .inl a2] M = rI z M' ∧ gM gAll M' ∧ Fr [(0, 16), (13, 999), (39, 3), (40, 999), (41, 999), (42, 999)] M M' ∧ (-3 ≤ z ∧ z ≤ 45) := by
  obtain ⟨z, M', e, g, f, alt, ha, q, -⟩ := cOK_I (q_X_carry_c hd) (A := [.inr 2, .inl a1, .inl a2]) (show aF2 gW [aRef 2, (0, -2147483648, 2147483647, 0, 0, 0), (0, -2147483648, 2147483647, 0, 0, 0)] [.inr 2, .inl a1, .inl a2] from ⟨gW_o, gW_i h1.1 h1.2, gW_i h2.1 h2.2, trivial⟩) hM (show gP0 [] M from fun e he => by cases he) rfl
  refine ⟨z, M', e, g, f, ?_⟩
  have ha : alt ∈ [(some (0, -1, -1, 0, 0, 0), [], []), (some (0, -2, -2, 0, 0, 0), [(4, 0, 0, 0, 0, 0), (0, 0, 9, 0, 0, 0), (0, 0, 5, 0, 0, 0)], [(7, 9, (0, 1, 6, 0, 0, 0)), (7, 10, (0, 1, 10, 0, 0, 0))]), (some (0, -3, -3, 0, 0, 0), [(4, 0, 0, 0, 0, 0), (0, 0, 9, 0, 0, 0), (0, 0, 5, 0, 0, 0)], [(7, 9, (0, 1, 6, 0, 0, 0)), (7, 10, (0, 1, 10, 0, 0, 0))]), (some (0, 0, 45, 0, 0, 0), [(4, 0, 0, 0, 0, 0), (0, 0, 9, 0, 0, 0), (0, 0, 5, 0, 0, 0)], [(7, 9, (0, 1, 6, 0, 0, 0)), (7, 10, (0, 1, 10, 0, 0, 0))])] := ha
  simp only [List.mem_cons, List.not_mem_nil, or_false] at ha
  rcases ha with rfl | rfl | rfl | rfl
  · obtain ⟨z2, e2, r⟩ := gW_int (show gW _ _ from q) (Nat.le_of_ble_eq_true rfl)
    cases e2
    have := gR0 r
    omega
  · obtain ⟨z2, e2, r⟩ := gW_int (show gW _ _ from q) (Nat.le_of_ble_eq_true rfl)
    cases e2
    have := gR0 r
    omega
  · obtain ⟨z2, e2, r⟩ := gW_int (show gW _ _ from q) (Nat.le_of_ble_eq_true rfl)
    cases e2
    have := gR0 r
    omega
  · obtain ⟨z2, e2, r⟩ := gW_int (show gW _ _ from q) (Nat.le_of_ble_eq_true rfl)
    cases e2
    have := gR0 r
    omega
theorem q_X_evening_c {d : Nat} (hd : 5 ≤ d) : cOK gAll (xF d) 12 K_245 := ct_of ct_ok (show K_245 ∈ CT.getD 12 [] from (show CT.getD 12 [] = [K_245] from rfl) ▸ by simp) hd
theorem q_X_evening {d : Nat} (hd : 5 ≤ d) {M : pM} (hM : gM gAll M)  : ∃ z M', xF d 12 [.inr 2] M = rI z M' ∧ gM gAll M' ∧ Fr [(0, 15), (0, 16), (5, 1), (6, 999), (39, 3)] M M' ∧ (0 ≤ z ∧ z ≤ 1) := by
  obtain ⟨z, M', e, g, f, alt, ha, q, -⟩ := cOK_I (q_X_evening_c hd) (A := [.inr 2]) (show aF2 gW [aRef 2] [.inr 2] from ⟨gW_o, trivial⟩) hM (show gP0 [] M from fun e he => by cases he) rfl
  refine ⟨z, M', e, g, f, ?_⟩
  have ha : alt ∈ [(some (0, 0, 0, 0, 0, 0), [], [(5, 1, (0, 2, 2, 0, 0, 0)), (6, 1, (0, -2147483648, 2147483647, 0, 0, 0))]), (some (0, 1, 1, 0, 0, 0), [], [(0, 16, (0, 0, 0, 0, 0, 0)), (5, 1, (0, 2, 2, 0, 0, 0)), (6, 1, (0, -2147483648, 2147483647, 0, 0, 0)), (39, 3, (0, 0, 0, 0, 0, 0))])] := ha
  simp only [List.mem_cons, List.not_mem_nil, or_false] at ha
  rcases ha with rfl | rfl
  · obtain ⟨z2, e2, r⟩ := gW_int (show gW _ _ from q) (Nat.le_of_ble_eq_true rfl)
    cases e2
    have := gR0 r
    omega
  · obtain ⟨z2, e2, r⟩ := gW_int (show gW _ _ from q) (Nat.le_of_ble_eq_true rfl)
    cases e2
    have := gR0 r
    omega
theorem q_X_day_c {d : Nat} (hd : 7 ≤ d) : cOK gAll (xF d) 13 K_261 := ct_of ct_ok (show K_261 ∈ CT.getD 13 [] from (show CT.getD 13 [] = [K_261] from rfl) ▸ by simp) hd
theorem q_X_day {d : Nat} (hd : 7 ≤ d) {M : pM} (hM : gM gAll M)  : ∃ z M', xF d 13 [.inr 2] M = rI z M' ∧ gM gAll M' ∧ Fr [(0, 15), (0, 16), (1, 1), (3, 1), (3, 2), (3, 3), (5, 1), (6, 999), (13, 999), (39, 3), (40, 999), (41, 999), (42, 999)] M M' := by
  obtain ⟨z, M', e, g, f, alt, ha, q, -⟩ := cOK_I (q_X_day_c hd) (A := [.inr 2]) (show aF2 gW [aRef 2] [.inr 2] from ⟨gW_o, trivial⟩) hM (show gP0 [] M from fun e he => by cases he) rfl
  exact ⟨z, M', e, g, f⟩
theorem q_X_undo_c {d : Nat} (hd : 2 ≤ d) : cOK gAll (xF d) 14 K_265 := ct_of ct_ok (show K_265 ∈ CT.getD 14 [] from (show CT.getD 14 [] = [K_265] from rfl) ▸ by simp) hd
theorem q_X_undo {d : Nat} (hd : 2 ≤ d) {M : pM} (hM : gM gAll M)  : ∃ z M', xF d 14 [.inr 2] M = rI z M' ∧ gM gAll M' ∧ Fr [(0, 16), (13, 999), (39, 3)] M M' ∧ (-1 ≤ z ∧ z ≤ 19) := by
  obtain ⟨z, M', e, g, f, alt, ha, q, -⟩ := cOK_I (q_X_undo_c hd) (A := [.inr 2]) (show aF2 gW [aRef 2] [.inr 2] from ⟨gW_o, trivial⟩) hM (show gP0 [] M from fun e he => by cases he) rfl
  refine ⟨z, M', e, g, f, ?_⟩
  have ha : alt ∈ [(some (0, -1, -1, 0, 0, 0), [], [(39, 3, (0, 0, 0, 0, 0, 0))]), (some (0, 0, 19, 0, 0, 0), [], [(39, 3, (0, 0, 19, 0, 0, 0))])] := ha
  simp only [List.mem_cons, List.not_mem_nil, or_false] at ha
  rcases ha with rfl | rfl
  · obtain ⟨z2, e2, r⟩ := gW_int (show gW _ _ from q) (Nat.le_of_ble_eq_true rfl)
    cases e2
    have := gR0 r
    omega
  · obtain ⟨z2, e2, r⟩ := gW_int (show gW _ _ from q) (Nat.le_of_ble_eq_true rfl)
    cases e2
    have := gR0 r
    omega
theorem q_X_judge_c {d : Nat} (hd : 6 ≤ d) : cOK gAll (xF d) 15 K_276 := ct_of ct_ok (show K_276 ∈ CT.getD 15 [] from (show CT.getD 15 [] = [K_827, K_276] from rfl) ▸ by simp) hd
theorem q_X_judge {d : Nat} (hd : 6 ≤ d) {M : pM} {a1 : Int} {a2 : Int} (hM : gM gAll M) (h1 : -2147483648 ≤ a1 ∧ a1 ≤ 2147483647) (h2 : -2147483648 ≤ a2 ∧ a2 ≤ 2147483647) : ∃ z M', xF d 15 [.inr 2, .inl a1, .inl a2] M = rI z M' ∧ gM gAll M' ∧ Fr [(5, 1), (6, 999), (59, 999)] M M' ∧ (-2 ≤ z ∧ z ≤ 3) := by
  obtain ⟨z, M', e, g, f, alt, ha, q, -⟩ := cOK_I (q_X_judge_c hd) (A := [.inr 2, .inl a1, .inl a2]) (show aF2 gW [aRef 2, (0, -2147483648, 2147483647, 0, 0, 0), (0, -2147483648, 2147483647, 0, 0, 0)] [.inr 2, .inl a1, .inl a2] from ⟨gW_o, gW_i h1.1 h1.2, gW_i h2.1 h2.2, trivial⟩) hM (show gP0 [] M from fun e he => by cases he) rfl
  refine ⟨z, M', e, g, f, ?_⟩
  have ha : alt ∈ [(some (0, -1, -1, 0, 0, 0), [], []), (some (0, -2, 3, 0, 0, 0), [(4, 0, 0, 0, 0, 0), (0, 0, 4, 0, 0, 0)], [(5, 1, (0, 2, 2, 0, 0, 0)), (6, 1, (0, -2147483648, 2147483647, 0, 0, 0))])] := ha
  simp only [List.mem_cons, List.not_mem_nil, or_false] at ha
  rcases ha with rfl | rfl
  · obtain ⟨z2, e2, r⟩ := gW_int (show gW _ _ from q) (Nat.le_of_ble_eq_true rfl)
    cases e2
    have := gR0 r
    omega
  · obtain ⟨z2, e2, r⟩ := gW_int (show gW _ _ from q) (Nat.le_of_ble_eq_true rfl)
    cases e2
    have := gR0 r
    omega
theorem q_X_clumps_c {d : Nat} (hd : 2 ≤ d) : cOK gAll (xF d) 16 K_278 := ct_of ct_ok (show K_278 ∈ CT.getD 16 [] from (show CT.getD 16 [] = [K_278] from rfl) ▸ by simp) hd
theorem q_X_clumps {d : Nat} (hd : 2 ≤ d) {M : pM} (hM : gM gAll M)  : ∃ z M', xF d 16 [.inr 2] M = rI z M' ∧ gM gAll M' ∧ Fr [(5, 1), (6, 999)] M M' ∧ (0 ≤ z ∧ z ≤ 10) := by
  obtain ⟨z, M', e, g, f, alt, ha, q, -⟩ := cOK_I (q_X_clumps_c hd) (A := [.inr 2]) (show aF2 gW [aRef 2] [.inr 2] from ⟨gW_o, trivial⟩) hM (show gP0 [] M from fun e he => by cases he) rfl
  refine ⟨z, M', e, g, f, ?_⟩
  have ha : alt ∈ [(some (0, 0, 10, 0, 0, 0), [], [])] := ha
  simp only [List.mem_cons, List.not_mem_nil, or_false] at ha
  rcases ha with rfl
  · obtain ⟨z2, e2, r⟩ := gW_int (show gW _ _ from q) (Nat.le_of_ble_eq_true rfl)
    cases e2
    have := gR0 r
    omega
theorem q_X_heaviest_c {d : Nat} (hd : 4 ≤ d) : cOK gAll (xF d) 17 K_282 := ct_of ct_ok (show K_282 ∈ CT.getD 17 [] from (show CT.getD 17 [] = [K_618, K_619, K_620, K_621, K_622, K_623, K_624, K_625, K_626, K_627, K_628, K_629, K_282] from rfl) ▸ by simp) hd
theorem q_X_heaviest {d : Nat} (hd : 4 ≤ d) {M : pM} (hM : gM gAll M)  : ∃ z M', xF d 17 [.inr 2] M = rI z M' ∧ gM gAll M' ∧ Fr [(5, 1), (6, 999)] M M' ∧ (-2 ≤ z ∧ z ≤ 9) := by
  obtain ⟨z, M', e, g, f, alt, ha, q, -⟩ := cOK_I (q_X_heaviest_c hd) (A := [.inr 2]) (show aF2 gW [aRef 2] [.inr 2] from ⟨gW_o, trivial⟩) hM (show gP0 [] M from fun e he => by cases he) rfl
  refine ⟨z, M', e, g, f, ?_⟩
  have ha : alt ∈ [(some (0, -2, -2, 0, 0, 0), [], [(7, 10, (0, 0, 0, 0, 0, 0))]), (some (0, 0, 9, 0, 0, 0), [], [(5, 1, (0, 2, 2, 0, 0, 0)), (6, 1, (0, -2147483648, 2147483647, 0, 0, 0)), (7, 10, (0, 1, 10, 0, 0, 0))])] := ha
  simp only [List.mem_cons, List.not_mem_nil, or_false] at ha
  rcases ha with rfl | rfl
  · obtain ⟨z2, e2, r⟩ := gW_int (show gW _ _ from q) (Nat.le_of_ble_eq_true rfl)
    cases e2
    have := gR0 r
    omega
  · obtain ⟨z2, e2, r⟩ := gW_int (show gW _ _ from q) (Nat.le_of_ble_eq_true rfl)
    cases e2
    have := gR0 r
    omega
theorem q_X_without_c {d : Nat} (hd : 4 ≤ d) : cOK gAll (xF d) 18 K_295 := ct_of ct_ok (show K_295 ∈ CT.getD 18 [] from (show CT.getD 18 [] = [K_630, K_631, K_632, K_633, K_634, K_635, K_636, K_637, K_638, K_639, K_640, K_641, K_295] from rfl) ▸ by simp) hd
theorem q_X_without {d : Nat} (hd : 4 ≤ d) {M : pM} {a1 : Int} (hM : gM gAll M) (h1 : -2147483648 ≤ a1 ∧ a1 ≤ 2147483647) : ∃ z M', xF d 18 [.inr 2, .inl a1] M = rI z M' ∧ gM gAll M' ∧ Fr [(5, 1), (6, 999)] M M' ∧ (-1 ≤ z ∧ z ≤ 10) := by
  obtain ⟨z, M', e, g, f, alt, ha, q, -⟩ := cOK_I (q_X_without_c hd) (A := [.inr 2, .inl a1]) (show aF2 gW [aRef 2, (0, -2147483648, 2147483647, 0, 0, 0)] [.inr 2, .inl a1] from ⟨gW_o, gW_i h1.1 h1.2, trivial⟩) hM (show gP0 [] M from fun e he => by cases he) rfl
  refine ⟨z, M', e, g, f, ?_⟩
  have ha : alt ∈ [(some (0, -1, -1, 0, 0, 0), [], []), (some (0, 0, 10, 0, 0, 0), [(4, 0, 0, 0, 0, 0), (0, 0, 9, 0, 0, 0)], [(5, 1, (0, 1, 1, 0, 0, 0)), (6, 0, (0, -2147483648, 2147483647, 0, 0, 0)), (7, 10, (0, 1, 10, 0, 0, 0))])] := ha
  simp only [List.mem_cons, List.not_mem_nil, or_false] at ha
  rcases ha with rfl | rfl
  · obtain ⟨z2, e2, r⟩ := gW_int (show gW _ _ from q) (Nat.le_of_ble_eq_true rfl)
    cases e2
    have := gR0 r
    omega
  · obtain ⟨z2, e2, r⟩ := gW_int (show gW _ _ from q) (Nat.le_of_ble_eq_true rfl)
    cases e2
    have := gR0 r
    omega
theorem q_X_breaks_c {d : Nat} (hd : 4 ≤ d) : cOK gAll (xF d) 19 K_297 := ct_of ct_ok (show K_297 ∈ CT.getD 19 [] from (show CT.getD 19 [] = [K_297] from rfl) ▸ by simp) hd
theorem q_X_breaks {d : Nat} (hd : 4 ≤ d) {M : pM} {a1 : Int} (hM : gM gAll M) (h1 : -2147483648 ≤ a1 ∧ a1 ≤ 2147483647) : ∃ z M', xF d 19 [.inr 2, .inl a1] M = rI z M' ∧ gM gAll M' ∧ Fr [(7, 12), (14, 999), (15, 999), (16, 999)] M M' ∧ (-1 ≤ z ∧ z ≤ 10) := by
  obtain ⟨z, M', e, g, f, alt, ha, q, -⟩ := cOK_I (q_X_breaks_c hd) (A := [.inr 2, .inl a1]) (show aF2 gW [aRef 2, (0, -2147483648, 2147483647, 0, 0, 0)] [.inr 2, .inl a1] from ⟨gW_o, gW_i h1.1 h1.2, trivial⟩) hM (show gP0 [] M from fun e he => by cases he) rfl
  refine ⟨z, M', e, g, f, ?_⟩
  have ha : alt ∈ [(some (0, -1, -1, 0, 0, 0), [], []), (some (0, 0, 10, 0, 0, 0), [(4, 0, 0, 0, 0, 0), (0, 0, 9, 0, 0, 0)], [(7, 10, (0, 1, 10, 0, 0, 0))])] := ha
  simp only [List.mem_cons, List.not_mem_nil, or_false] at ha
  rcases ha with rfl | rfl
  · obtain ⟨z2, e2, r⟩ := gW_int (show gW _ _ from q) (Nat.le_of_ble_eq_true rfl)
    cases e2
    have := gR0 r
    omega
  · obtain ⟨z2, e2, r⟩ := gW_int (show gW _ _ from q) (Nat.le_of_ble_eq_true rfl)
    cases e2
    have := gR0 r
    omega
theorem q_X_ties_c {d : Nat} (hd : 4 ≤ d) : cOK gAll (xF d) 20 K_298 := ct_of ct_ok (show K_298 ∈ CT.getD 20 [] from (show CT.getD 20 [] = [K_298] from rfl) ▸ by simp) hd
theorem q_X_ties {d : Nat} (hd : 4 ≤ d) {M : pM} (hM : gM gAll M)  : ∃ z M', xF d 20 [.inr 2] M = rI z M' ∧ gM gAll M' ∧ Fr [] M M' ∧ (0 ≤ z ∧ z ≤ 255) := by
  obtain ⟨z, M', e, g, f, alt, ha, q, -⟩ := cOK_I (q_X_ties_c hd) (A := [.inr 2]) (show aF2 gW [aRef 2] [.inr 2] from ⟨gW_o, trivial⟩) hM (show gP0 [] M from fun e he => by cases he) rfl
  refine ⟨z, M', e, g, f, ?_⟩
  have ha : alt ∈ [(some (0, 0, 255, 0, 0, 0), [], [])] := ha
  simp only [List.mem_cons, List.not_mem_nil, or_false] at ha
  rcases ha with rfl
  · obtain ⟨z2, e2, r⟩ := gW_int (show gW _ _ from q) (Nat.le_of_ble_eq_true rfl)
    cases e2
    have := gR0 r
    omega
theorem q_X_fits_c {d : Nat} (hd : 5 ≤ d) : cOK gAll (xF d) 21 K_320 := ct_of ct_ok (show K_320 ∈ CT.getD 21 [] from (show CT.getD 21 [] = [K_320] from rfl) ▸ by simp) hd
theorem q_X_fits {d : Nat} (hd : 5 ≤ d) {M : pM} (hM : gM gAll M)  : ∃ z M', xF d 21 [.inr 2] M = rI z M' ∧ gM gAll M' ∧ Fr [(5, 1), (6, 999), (32, 6), (32, 7), (32, 8), (32, 9), (32, 10), (32, 11), (33, 999), (34, 999), (35, 999), (36, 999), (37, 999), (38, 999)] M M' := by
  obtain ⟨z, M', e, g, f, alt, ha, q, -⟩ := cOK_I (q_X_fits_c hd) (A := [.inr 2]) (show aF2 gW [aRef 2] [.inr 2] from ⟨gW_o, trivial⟩) hM (show gP0 [] M from fun e he => by cases he) rfl
  exact ⟨z, M', e, g, f⟩
theorem q_X_worth_c {d : Nat} (hd : 32 ≤ d) : cOK gAll (xF d) 22 K_385 := ct_of ct_ok (show K_385 ∈ CT.getD 22 [] from (show CT.getD 22 [] = [K_385] from rfl) ▸ by simp) hd
theorem q_X_worth {d : Nat} (hd : 32 ≤ d) {M : pM} (hM : gM gAll M)  : ∃ z M', xF d 22 [.inr 2] M = rI z M' ∧ gM gAll M' ∧ Fr [(30, 1), (30, 2), (30, 3), (31, 999)] M M' := by
  obtain ⟨z, M', e, g, f, alt, ha, q, -⟩ := cOK_I (q_X_worth_c hd) (A := [.inr 2]) (show aF2 gW [aRef 2] [.inr 2] from ⟨gW_o, trivial⟩) hM (show gP0 [] M from fun e he => by cases he) rfl
  exact ⟨z, M', e, g, f⟩
theorem q_X_best_c {d : Nat} (hd : 32 ≤ d) : cOK gAll (xF d) 23 K_389 := ct_of ct_ok (show K_389 ∈ CT.getD 23 [] from (show CT.getD 23 [] = [K_751, K_690, K_691, K_692, K_693, K_694, K_695, K_696, K_697, K_698, K_699, K_700, K_701, K_753, K_755, K_757, K_759, K_761, K_763, K_765, K_767, K_769, K_771, K_389] from rfl) ▸ by simp) hd
theorem q_X_best {d : Nat} (hd : 32 ≤ d) {M : pM} (hM : gM gAll M)  : ∃ z M', xF d 23 [.inr 2] M = rI z M' ∧ gM gAll M' ∧ Fr [(5, 1), (6, 999), (30, 1), (30, 2), (30, 3), (31, 999), (32, 6), (32, 7), (32, 8), (32, 9), (32, 10), (32, 11), (33, 999), (34, 999), (35, 999), (36, 999), (37, 999), (38, 999)] M M' ∧ (-3 ≤ z ∧ z ≤ 1) := by
  obtain ⟨z, M', e, g, f, alt, ha, q, -⟩ := cOK_I (q_X_best_c hd) (A := [.inr 2]) (show aF2 gW [aRef 2] [.inr 2] from ⟨gW_o, trivial⟩) hM (show gP0 [] M from fun e he => by cases he) rfl
  refine ⟨z, M', e, g, f, ?_⟩
  have ha : alt ∈ [(some (0, -2, -2, 0, 0, 0), [], []), (some (0, -3, -3, 0, 0, 0), [], []), (some (0, 1, 1, 0, 0, 0), [], [(5, 1, (0, 1, 11, 0, 0, 0))])] := ha
  simp only [List.mem_cons, List.not_mem_nil, or_false] at ha
  rcases ha with rfl | rfl | rfl
  · obtain ⟨z2, e2, r⟩ := gW_int (show gW _ _ from q) (Nat.le_of_ble_eq_true rfl)
    cases e2
    have := gR0 r
    omega
  · obtain ⟨z2, e2, r⟩ := gW_int (show gW _ _ from q) (Nat.le_of_ble_eq_true rfl)
    cases e2
    have := gR0 r
    omega
  · obtain ⟨z2, e2, r⟩ := gW_int (show gW _ _ from q) (Nat.le_of_ble_eq_true rfl)
    cases e2
    have := gR0 r
    omega
theorem q_X_near_c {d : Nat} (hd : 6 ≤ d) : cOK gAll (xF d) 24 K_392 := ct_of ct_ok (show K_392 ∈ CT.getD 24 [] from (show CT.getD 24 [] = [K_774, K_777, K_780, K_783, K_786, K_789, K_792, K_795, K_798, K_801, K_804, K_392] from rfl) ▸ by simp) hd
theorem q_X_near {d : Nat} (hd : 6 ≤ d) {M : pM} (hM : gM gAll M)  : ∃ z M', xF d 24 [.inr 2] M = rI z M' ∧ gM gAll M' ∧ Fr [(5, 1), (6, 999), (32, 6), (32, 7), (32, 8), (32, 9), (32, 10), (32, 11), (33, 999), (34, 999), (35, 999), (36, 999), (37, 999), (38, 999)] M M' := by
  obtain ⟨z, M', e, g, f, alt, ha, q, -⟩ := cOK_I (q_X_near_c hd) (A := [.inr 2]) (show aF2 gW [aRef 2] [.inr 2] from ⟨gW_o, trivial⟩) hM (show gP0 [] M from fun e he => by cases he) rfl
  exact ⟨z, M', e, g, f⟩
theorem q_X_guest_c {d : Nat} (hd : 6 ≤ d) : cOK gAll (xF d) 25 K_393 := ct_of ct_ok (show K_393 ∈ CT.getD 25 [] from (show CT.getD 25 [] = [K_805, K_806, K_807, K_808, K_809, K_810, K_811, K_812, K_813, K_814, K_815, K_393] from rfl) ▸ by simp) hd
theorem q_X_guest {d : Nat} (hd : 6 ≤ d) {M : pM} {a1 : Int} {a2 : Int} (hM : gM gAll M) (h1 : -2147483648 ≤ a1 ∧ a1 ≤ 2147483647) (h2 : -2147483648 ≤ a2 ∧ a2 ≤ 2147483647) : ∃ z M', xF d 25 [.inr 2, .inl a1, .inl a2] M = rI z M' ∧ gM gAll M' ∧ Fr [(5, 1), (6, 999), (32, 6), (32, 7), (32, 8), (32, 9), (32, 10), (32, 11), (33, 999), (34, 999), (35, 999), (36, 999), (37, 999), (38, 999)] M M' := by
  obtain ⟨z, M', e, g, f, alt, ha, q, -⟩ := cOK_I (q_X_guest_c hd) (A := [.inr 2, .inl a1, .inl a2]) (show aF2 gW [aRef 2, (0, -2147483648, 2147483647, 0, 0, 0), (0, -2147483648, 2147483647, 0, 0, 0)] [.inr 2, .inl a1, .inl a2] from ⟨gW_o, gW_i h1.1 h1.2, gW_i h2.1 h2.2, trivial⟩) hM (show gP0 [] M from fun e he => by cases he) rfl
  exact ⟨z, M', e, g, f⟩
theorem q_X_space_c {d : Nat} (hd : 6 ≤ d) : cOK gAll (xF d) 26 K_397 := ct_of ct_ok (show K_397 ∈ CT.getD 26 [] from (show CT.getD 26 [] = [K_397] from rfl) ▸ by simp) hd
theorem q_X_space {d : Nat} (hd : 6 ≤ d) {M : pM} (hM : gM gAll M)  : ∃ z M', xF d 26 [.inr 2] M = rI z M' ∧ gM gAll M' ∧ Fr [(5, 1), (6, 999), (32, 6), (32, 7), (32, 8), (32, 9), (32, 10), (32, 11), (33, 999), (34, 999), (35, 999), (36, 999), (37, 999), (38, 999)] M M' := by
  obtain ⟨z, M', e, g, f, alt, ha, q, -⟩ := cOK_I (q_X_space_c hd) (A := [.inr 2]) (show aF2 gW [aRef 2] [.inr 2] from ⟨gW_o, trivial⟩) hM (show gP0 [] M from fun e he => by cases he) rfl
  exact ⟨z, M', e, g, f⟩
theorem q_X_could_c {d : Nat} (hd : 5 ≤ d) : cOK gAll (xF d) 27 K_400 := ct_of ct_ok (show K_400 ∈ CT.getD 27 [] from (show CT.getD 27 [] = [K_400] from rfl) ▸ by simp) hd
theorem q_X_could {d : Nat} (hd : 5 ≤ d) {M : pM} {a1 : Int} {a2 : Int} (hM : gM gAll M) (h1 : -2147483648 ≤ a1 ∧ a1 ≤ 2147483647) (h2 : -2147483648 ≤ a2 ∧ a2 ≤ 2147483647) : ∃ z M', xF d 27 [.inr 2, .inl a1, .inl a2] M = rI z M' ∧ gM gAll M' ∧ Fr [(32, 6), (32, 7), (32, 8), (32, 9), (33, 999), (34, 999), (35, 999), (36, 999), (37, 999)] M M' ∧ (-3 ≤ z ∧ z ≤ 63) := by
  obtain ⟨z, M', e, g, f, alt, ha, q, -⟩ := cOK_I (q_X_could_c hd) (A := [.inr 2, .inl a1, .inl a2]) (show aF2 gW [aRef 2, (0, -2147483648, 2147483647, 0, 0, 0), (0, -2147483648, 2147483647, 0, 0, 0)] [.inr 2, .inl a1, .inl a2] from ⟨gW_o, gW_i h1.1 h1.2, gW_i h2.1 h2.2, trivial⟩) hM (show gP0 [] M from fun e he => by cases he) rfl
  refine ⟨z, M', e, g, f, ?_⟩
  have ha : alt ∈ [(some (0, -1, -1, 0, 0, 0), [], []), (some (0, -3, -3, 0, 0, 0), [(4, 0, 0, 0, 0, 0), (0, 1, 99, 0, 0, 0), (0, 0, 255, 0, 0, 0)], []), (some (0, 0, 63, 0, 0, 0), [(4, 0, 0, 0, 0, 0), (0, 1, 99, 0, 0, 0), (0, 0, 255, 0, 0, 0)], [])] := ha
  simp only [List.mem_cons, List.not_mem_nil, or_false] at ha
  rcases ha with rfl | rfl | rfl
  · obtain ⟨z2, e2, r⟩ := gW_int (show gW _ _ from q) (Nat.le_of_ble_eq_true rfl)
    cases e2
    have := gR0 r
    omega
  · obtain ⟨z2, e2, r⟩ := gW_int (show gW _ _ from q) (Nat.le_of_ble_eq_true rfl)
    cases e2
    have := gR0 r
    omega
  · obtain ⟨z2, e2, r⟩ := gW_int (show gW _ _ from q) (Nat.le_of_ble_eq_true rfl)
    cases e2
    have := gR0 r
    omega
theorem q_X_may_c {d : Nat} (hd : 5 ≤ d) : cOK gAll (xF d) 28 K_403 := ct_of ct_ok (show K_403 ∈ CT.getD 28 [] from (show CT.getD 28 [] = [K_403] from rfl) ▸ by simp) hd
theorem q_X_may {d : Nat} (hd : 5 ≤ d) {M : pM} {a1 : Int} (hM : gM gAll M) (h1 : -2147483648 ≤ a1 ∧ a1 ≤ 2147483647) : ∃ z M', xF d 28 [.inr 2, .inl a1] M = rI z M' ∧ gM gAll M' ∧ Fr [(5, 1), (6, 999), (32, 6), (32, 7), (32, 8), (32, 9), (33, 999), (34, 999), (35, 999), (36, 999), (37, 999)] M M' ∧ (-2147483648 ≤ z ∧ z ≤ 2147483647) := by
  obtain ⟨z, M', e, g, f, alt, ha, q, -⟩ := cOK_I (q_X_may_c hd) (A := [.inr 2, .inl a1]) (show aF2 gW [aRef 2, (0, -2147483648, 2147483647, 0, 0, 0)] [.inr 2, .inl a1] from ⟨gW_o, gW_i h1.1 h1.2, trivial⟩) hM (show gP0 [] M from fun e he => by cases he) rfl
  refine ⟨z, M', e, g, f, ?_⟩
  have ha : alt ∈ [(some (0, -1, -1, 0, 0, 0), [], []), (some (0, -3, -3, 0, 0, 0), [(4, 0, 0, 0, 0, 0), (0, 0, 9, 0, 0, 0)], [(7, 12, (0, 1, 10, 0, 0, 0))]), (some (0, -2147483648, 2147483647, 0, 0, 0), [(4, 0, 0, 0, 0, 0), (0, 0, 9, 0, 0, 0)], [(5, 1, (0, 1, 1, 0, 0, 0)), (7, 12, (0, 1, 10, 0, 0, 0))])] := ha
  simp only [List.mem_cons, List.not_mem_nil, or_false] at ha
  rcases ha with rfl | rfl | rfl
  · obtain ⟨z2, e2, r⟩ := gW_int (show gW _ _ from q) (Nat.le_of_ble_eq_true rfl)
    cases e2
    have := gR0 r
    omega
  · obtain ⟨z2, e2, r⟩ := gW_int (show gW _ _ from q) (Nat.le_of_ble_eq_true rfl)
    cases e2
    have := gR0 r
    omega
  · obtain ⟨z2, e2, r⟩ := gW_int (show gW _ _ from q) (Nat.le_of_ble_eq_true rfl)
    cases e2
    have := gR0 r
    omega
theorem q_X_together_c {d : Nat} (hd : 5 ≤ d) : cOK gAll (xF d) 29 K_405 := ct_of ct_ok (show K_405 ∈ CT.getD 29 [] from (show CT.getD 29 [] = [K_405] from rfl) ▸ by simp) hd
theorem q_X_together {d : Nat} (hd : 5 ≤ d) {M : pM} {a1 : Int} {a2 : Int} (hM : gM gAll M) (h1 : -2147483648 ≤ a1 ∧ a1 ≤ 2147483647) (h2 : -2147483648 ≤ a2 ∧ a2 ≤ 2147483647) : ∃ z M', xF d 29 [.inr 2, .inl a1, .inl a2] M = rI z M' ∧ gM gAll M' ∧ Fr [(5, 1), (6, 999), (32, 6), (32, 7), (32, 8), (32, 9), (33, 999), (34, 999), (35, 999), (36, 999), (37, 999)] M M' := by
  obtain ⟨z, M', e, g, f, alt, ha, q, -⟩ := cOK_I (q_X_together_c hd) (A := [.inr 2, .inl a1, .inl a2]) (show aF2 gW [aRef 2, (0, -2147483648, 2147483647, 0, 0, 0), (0, -2147483648, 2147483647, 0, 0, 0)] [.inr 2, .inl a1, .inl a2] from ⟨gW_o, gW_i h1.1 h1.2, gW_i h2.1 h2.2, trivial⟩) hM (show gP0 [] M from fun e he => by cases he) rfl
  exact ⟨z, M', e, g, f⟩
theorem q_X_fullest_c {d : Nat} (hd : 6 ≤ d) : cOK gAll (xF d) 30 K_406 := ct_of ct_ok (show K_406 ∈ CT.getD 30 [] from (show CT.getD 30 [] = [K_406] from rfl) ▸ by simp) hd
theorem q_X_fullest {d : Nat} (hd : 6 ≤ d) {M : pM} {a1 : Int} (hM : gM gAll M) (h1 : -2147483648 ≤ a1 ∧ a1 ≤ 2147483647) : ∃ z M', xF d 30 [.inr 2, .inl a1] M = rI z M' ∧ gM gAll M' ∧ Fr [(5, 1), (6, 999), (32, 6), (32, 7), (32, 8), (32, 9), (32, 10), (32, 11), (33, 999), (34, 999), (35, 999), (36, 999), (37, 999), (38, 999)] M M' := by
  obtain ⟨z, M', e, g, f, alt, ha, q, -⟩ := cOK_I (q_X_fullest_c hd) (A := [.inr 2, .inl a1]) (show aF2 gW [aRef 2, (0, -2147483648, 2147483647, 0, 0, 0)] [.inr 2, .inl a1] from ⟨gW_o, gW_i h1.1 h1.2, trivial⟩) hM (show gP0 [] M from fun e he => by cases he) rfl
  exact ⟨z, M', e, g, f⟩
theorem q_X_swap_c {d : Nat} (hd : 6 ≤ d) : cOK gAll (xF d) 31 K_408 := ct_of ct_ok (show K_408 ∈ CT.getD 31 [] from (show CT.getD 31 [] = [K_642, K_643, K_644, K_645, K_646, K_647, K_648, K_649, K_650, K_651, K_652, K_653, K_408] from rfl) ▸ by simp) hd
theorem q_X_swap {d : Nat} (hd : 6 ≤ d) {M : pM} {a1 : Int} {a2 : Int} (hM : gM gAll M) (h1 : -2147483648 ≤ a1 ∧ a1 ≤ 2147483647) (h2 : -2147483648 ≤ a2 ∧ a2 ≤ 2147483647) : ∃ z M', xF d 31 [.inr 2, .inl a1, .inl a2] M = rI z M' ∧ gM gAll M' ∧ Fr [(5, 1), (6, 999), (59, 999)] M M' ∧ (-1 ≤ z ∧ z ≤ 1) := by
  obtain ⟨z, M', e, g, f, alt, ha, q, -⟩ := cOK_I (q_X_swap_c hd) (A := [.inr 2, .inl a1, .inl a2]) (show aF2 gW [aRef 2, (0, -2147483648, 2147483647, 0, 0, 0), (0, -2147483648, 2147483647, 0, 0, 0)] [.inr 2, .inl a1, .inl a2] from ⟨gW_o, gW_i h1.1 h1.2, gW_i h2.1 h2.2, trivial⟩) hM (show gP0 [] M from fun e he => by cases he) rfl
  refine ⟨z, M', e, g, f, ?_⟩
  have ha : alt ∈ [(some (0, -1, -1, 0, 0, 0), [], []), (some (0, 0, 0, 0, 0, 0), [(4, 0, 0, 0, 0, 0), (0, 0, 5, 0, 0, 0), (0, 0, 5, 0, 0, 0)], [(5, 1, (0, 1, 1, 0, 0, 0)), (6, 0, (0, -2147483648, 2147483647, 0, 0, 0)), (7, 9, (0, 1, 6, 0, 0, 0))]), (some (0, 1, 1, 0, 0, 0), [(4, 0, 0, 0, 0, 0), (0, 0, 5, 0, 0, 0), (0, 0, 5, 0, 0, 0)], [(5, 1, (0, 1, 1, 0, 0, 0)), (6, 0, (0, -2147483648, 2147483647, 0, 0, 0)), (7, 9, (0, 1, 6, 0, 0, 0))])] := ha
  simp only [List.mem_cons, List.not_mem_nil, or_false] at ha
  rcases ha with rfl | rfl | rfl
  · obtain ⟨z2, e2, r⟩ := gW_int (show gW _ _ from q) (Nat.le_of_ble_eq_true rfl)
    cases e2
    have := gR0 r
    omega
  · obtain ⟨z2, e2, r⟩ := gW_int (show gW _ _ from q) (Nat.le_of_ble_eq_true rfl)
    cases e2
    have := gR0 r
    omega
  · obtain ⟨z2, e2, r⟩ := gW_int (show gW _ _ from q) (Nat.le_of_ble_eq_true rfl)
    cases e2
    have := gR0 r
    omega
theorem q_X_sell_c {d : Nat} (hd : 5 ≤ d) : cOK gAll (xF d) 32 K_410 := ct_of ct_ok (show K_410 ∈ CT.getD 32 [] from (show CT.getD 32 [] = [K_654, K_655, K_656, K_657, K_658, K_659, K_660, K_661, K_662, K_663, K_664, K_665, K_410] from rfl) ▸ by simp) hd
theorem q_X_sell {d : Nat} (hd : 5 ≤ d) {M : pM} (hM : gM gAll M)  : ∃ z M', xF d 32 [.inr 2] M = rI z M' ∧ gM gAll M' ∧ Fr [(5, 1), (6, 999), (32, 6), (32, 7), (32, 8), (32, 9), (33, 999), (34, 999), (35, 999), (36, 999), (37, 999)] M M' ∧ (-3 ≤ z ∧ z ≤ 63) := by
  obtain ⟨z, M', e, g, f, alt, ha, q, -⟩ := cOK_I (q_X_sell_c hd) (A := [.inr 2]) (show aF2 gW [aRef 2] [.inr 2] from ⟨gW_o, trivial⟩) hM (show gP0 [] M from fun e he => by cases he) rfl
  refine ⟨z, M', e, g, f, ?_⟩
  have ha : alt ∈ [(some (0, -3, -3, 0, 0, 0), [], []), (some (0, 0, 63, 0, 0, 0), [], [(5, 1, (0, 1, 1, 0, 0, 0)), (6, 0, (0, -2147483648, 2147483647, 0, 0, 0))])] := ha
  simp only [List.mem_cons, List.not_mem_nil, or_false] at ha
  rcases ha with rfl | rfl
  · obtain ⟨z2, e2, r⟩ := gW_int (show gW _ _ from q) (Nat.le_of_ble_eq_true rfl)
    cases e2
    have := gR0 r
    omega
  · obtain ⟨z2, e2, r⟩ := gW_int (show gW _ _ from q) (Nat.le_of_ble_eq_true rfl)
    cases e2
    have := gR0 r
    omega
theorem q_X_build_c {d : Nat} (hd : 6 ≤ d) : cOK gAll (xF d) 33 K_411 := ct_of ct_ok (show K_411 ∈ CT.getD 33 [] from (show CT.getD 33 [] = [K_411] from rfl) ▸ by simp) hd
theorem q_X_build {d : Nat} (hd : 6 ≤ d) {M : pM} (hM : gM gAll M)  : ∃ z M', xF d 33 [.inr 2] M = rI z M' ∧ gM gAll M' ∧ Fr [(5, 1), (6, 999), (32, 6), (32, 7), (32, 8), (32, 9), (32, 10), (32, 11), (33, 999), (34, 999), (35, 999), (36, 999), (37, 999), (38, 999)] M M' := by
  obtain ⟨z, M', e, g, f, alt, ha, q, -⟩ := cOK_I (q_X_build_c hd) (A := [.inr 2]) (show aF2 gW [aRef 2] [.inr 2] from ⟨gW_o, trivial⟩) hM (show gP0 [] M from fun e he => by cases he) rfl
  exact ⟨z, M', e, g, f⟩
theorem q_X_way_c {d : Nat} (hd : 5 ≤ d) : cOK gAll (xF d) 34 K_413 := ct_of ct_ok (show K_413 ∈ CT.getD 34 [] from (show CT.getD 34 [] = [K_702, K_703, K_704, K_705, K_706, K_707, K_708, K_709, K_710, K_711, K_712, K_713, K_413] from rfl) ▸ by simp) hd
theorem q_X_way {d : Nat} (hd : 5 ≤ d) {M : pM} {a1 : Int} {a2 : Int} (hM : gM gAll M) (h1 : -2147483648 ≤ a1 ∧ a1 ≤ 2147483647) (h2 : -2147483648 ≤ a2 ∧ a2 ≤ 2147483647) : ∃ z M', xF d 34 [.inr 2, .inl a1, .inl a2] M = rI z M' ∧ gM gAll M' ∧ Fr [(5, 1), (6, 999)] M M' ∧ (-2 ≤ z ∧ z ≤ 5) := by
  obtain ⟨z, M', e, g, f, alt, ha, q, -⟩ := cOK_I (q_X_way_c hd) (A := [.inr 2, .inl a1, .inl a2]) (show aF2 gW [aRef 2, (0, -2147483648, 2147483647, 0, 0, 0), (0, -2147483648, 2147483647, 0, 0, 0)] [.inr 2, .inl a1, .inl a2] from ⟨gW_o, gW_i h1.1 h1.2, gW_i h2.1 h2.2, trivial⟩) hM (show gP0 [] M from fun e he => by cases he) rfl
  refine ⟨z, M', e, g, f, ?_⟩
  have ha : alt ∈ [(some (0, -1, -1, 0, 0, 0), [], []), (some (0, -2, -2, 0, 0, 0), [(4, 0, 0, 0, 0, 0), (0, 0, 9, 0, 0, 0), (0, 0, 5, 0, 0, 0)], [(7, 9, (0, 1, 6, 0, 0, 0)), (7, 10, (0, 1, 10, 0, 0, 0))]), (some (0, 0, 0, 0, 0, 0), [(4, 0, 0, 0, 0, 0), (0, 0, 9, 0, 0, 0), (0, 0, 5, 0, 0, 0)], [(5, 1, (0, 0, 0, 0, 0, 0)), (7, 9, (0, 1, 6, 0, 0, 0)), (7, 10, (0, 1, 10, 0, 0, 0))]), (some (0, 1, 1, 0, 0, 0), [(4, 0, 0, 0, 0, 0), (0, 0, 9, 0, 0, 0), (0, 0, 5, 0, 0, 0)], [(5, 1, (0, 1, 1, 0, 0, 0)), (6, 0, (0, -2147483648, 2147483647, 0, 0, 0)), (7, 9, (0, 1, 6, 0, 0, 0)), (7, 10, (0, 1, 10, 0, 0, 0))]), (some (0, 2, 2, 0, 0, 0), [(4, 0, 0, 0, 0, 0), (0, 0, 9, 0, 0, 0), (0, 0, 5, 0, 0, 0)], [(5, 1, (0, 2, 2, 0, 0, 0)), (6, 1, (0, -2147483648, 2147483647, 0, 0, 0)), (7, 9, (0, 1, 6, 0, 0, 0)), (7, 10, (0, 1, 10, 0, 0, 0))]), (some (0, 3, 3, 0, 0, 0), [(4, 0, 0, 0, 0, 0), (0, 0, 9, 0, 0, 0), (0, 0, 5, 0, 0, 0)], [(5, 1, (0, 3, 3, 0, 0, 0)), (6, 2, (0, -2147483648, 2147483647, 0, 0, 0)), (7, 9, (0, 1, 6, 0, 0, 0)), (7, 10, (0, 1, 10, 0, 0, 0))]), (some (0, 4, 4, 0, 0, 0), [(4, 0, 0, 0, 0, 0), (0, 0, 9, 0, 0, 0), (0, 0, 5, 0, 0, 0)], [(5, 1, (0, 4, 4, 0, 0, 0)), (6, 3, (0, -2147483648, 2147483647, 0, 0, 0)), (7, 9, (0, 1, 6, 0, 0, 0)), (7, 10, (0, 1, 10, 0, 0, 0))]), (some (0, 5, 5, 0, 0, 0), [(4, 0, 0, 0, 0, 0), (0, 0, 9, 0, 0, 0), (0, 0, 5, 0, 0, 0)], [(5, 1, (0, 5, 5, 0, 0, 0)), (6, 4, (0, -2147483648, 2147483647, 0, 0, 0)), (7, 9, (0, 1, 6, 0, 0, 0)), (7, 10, (0, 1, 10, 0, 0, 0))])] := ha
  simp only [List.mem_cons, List.not_mem_nil, or_false] at ha
  rcases ha with rfl | rfl | rfl | rfl | rfl | rfl | rfl | rfl
  · obtain ⟨z2, e2, r⟩ := gW_int (show gW _ _ from q) (Nat.le_of_ble_eq_true rfl)
    cases e2
    have := gR0 r
    omega
  · obtain ⟨z2, e2, r⟩ := gW_int (show gW _ _ from q) (Nat.le_of_ble_eq_true rfl)
    cases e2
    have := gR0 r
    omega
  · obtain ⟨z2, e2, r⟩ := gW_int (show gW _ _ from q) (Nat.le_of_ble_eq_true rfl)
    cases e2
    have := gR0 r
    omega
  · obtain ⟨z2, e2, r⟩ := gW_int (show gW _ _ from q) (Nat.le_of_ble_eq_true rfl)
    cases e2
    have := gR0 r
    omega
  · obtain ⟨z2, e2, r⟩ := gW_int (show gW _ _ from q) (Nat.le_of_ble_eq_true rfl)
    cases e2
    have := gR0 r
    omega
  · obtain ⟨z2, e2, r⟩ := gW_int (show gW _ _ from q) (Nat.le_of_ble_eq_true rfl)
    cases e2
    have := gR0 r
    omega
  · obtain ⟨z2, e2, r⟩ := gW_int (show gW _ _ from q) (Nat.le_of_ble_eq_true rfl)
    cases e2
    have := gR0 r
    omega
  · obtain ⟨z2, e2, r⟩ := gW_int (show gW _ _ from q) (Nat.le_of_ble_eq_true rfl)
    cases e2
    have := gR0 r
    omega
theorem q_X_widest_c {d : Nat} (hd : 4 ≤ d) : cOK gAll (xF d) 35 K_414 := ct_of ct_ok (show K_414 ∈ CT.getD 35 [] from (show CT.getD 35 [] = [K_414] from rfl) ▸ by simp) hd
theorem q_X_widest {d : Nat} (hd : 4 ≤ d) {M : pM} {a1 : Int} {a2 : Int} (hM : gM gAll M) (h1 : -2147483648 ≤ a1 ∧ a1 ≤ 2147483647) (h2 : -2147483648 ≤ a2 ∧ a2 ≤ 2147483647) : ∃ z M', xF d 35 [.inr 2, .inl a1, .inl a2] M = rI z M' ∧ gM gAll M' ∧ Fr [] M M' ∧ (-1 ≤ z ∧ z ≤ 9) := by
  obtain ⟨z, M', e, g, f, alt, ha, q, -⟩ := cOK_I (q_X_widest_c hd) (A := [.inr 2, .inl a1, .inl a2]) (show aF2 gW [aRef 2, (0, -2147483648, 2147483647, 0, 0, 0), (0, -2147483648, 2147483647, 0, 0, 0)] [.inr 2, .inl a1, .inl a2] from ⟨gW_o, gW_i h1.1 h1.2, gW_i h2.1 h2.2, trivial⟩) hM (show gP0 [] M from fun e he => by cases he) rfl
  refine ⟨z, M', e, g, f, ?_⟩
  have ha : alt ∈ [(some (0, -1, -1, 0, 0, 0), [], []), (some (0, 0, 0, 0, 0, 0), [(4, 0, 0, 0, 0, 0), (0, 0, 5, 0, 0, 0), (0, 0, 5, 0, 0, 0)], [(7, 9, (0, 1, 6, 0, 0, 0))]), (some (0, 1, 9, 0, 0, 0), [(4, 0, 0, 0, 0, 0), (0, 0, 5, 0, 0, 0), (0, 0, 5, 0, 0, 0)], [(7, 9, (0, 1, 6, 0, 0, 0))])] := ha
  simp only [List.mem_cons, List.not_mem_nil, or_false] at ha
  rcases ha with rfl | rfl | rfl
  · obtain ⟨z2, e2, r⟩ := gW_int (show gW _ _ from q) (Nat.le_of_ble_eq_true rfl)
    cases e2
    have := gR0 r
    omega
  · obtain ⟨z2, e2, r⟩ := gW_int (show gW _ _ from q) (Nat.le_of_ble_eq_true rfl)
    cases e2
    have := gR0 r
    omega
  · obtain ⟨z2, e2, r⟩ := gW_int (show gW _ _ from q) (Nat.le_of_ble_eq_true rfl)
    cases e2
    have := gR0 r
    omega
theorem q_X_stuck_c {d : Nat} (hd : 4 ≤ d) : cOK gAll (xF d) 36 K_417 := ct_of ct_ok (show K_417 ∈ CT.getD 36 [] from (show CT.getD 36 [] = [K_417] from rfl) ▸ by simp) hd
theorem q_X_stuck {d : Nat} (hd : 4 ≤ d) {M : pM} (hM : gM gAll M)  : ∃ z M', xF d 36 [.inr 2] M = rI z M' ∧ gM gAll M' ∧ Fr [] M M' ∧ (0 ≤ z ∧ z ≤ 1023) := by
  obtain ⟨z, M', e, g, f, alt, ha, q, -⟩ := cOK_I (q_X_stuck_c hd) (A := [.inr 2]) (show aF2 gW [aRef 2] [.inr 2] from ⟨gW_o, trivial⟩) hM (show gP0 [] M from fun e he => by cases he) rfl
  refine ⟨z, M', e, g, f, ?_⟩
  have ha : alt ∈ [(some (0, 0, 1023, 0, 0, 0), [], [])] := ha
  simp only [List.mem_cons, List.not_mem_nil, or_false] at ha
  rcases ha with rfl
  · obtain ⟨z2, e2, r⟩ := gW_int (show gW _ _ from q) (Nat.le_of_ble_eq_true rfl)
    cases e2
    have := gR0 r
    omega
theorem q_X_hinge_c {d : Nat} (hd : 5 ≤ d) : cOK gAll (xF d) 37 K_422 := ct_of ct_ok (show K_422 ∈ CT.getD 37 [] from (show CT.getD 37 [] = [K_666, K_667, K_668, K_669, K_670, K_671, K_672, K_673, K_674, K_675, K_676, K_677, K_422] from rfl) ▸ by simp) hd
theorem q_X_hinge {d : Nat} (hd : 5 ≤ d) {M : pM} {a1 : Int} (hM : gM gAll M) (h1 : -2147483648 ≤ a1 ∧ a1 ≤ 2147483647) : ∃ z M', xF d 37 [.inr 2, .inl a1] M = rI z M' ∧ gM gAll M' ∧ Fr [(5, 1), (6, 999), (9, 999)] M M' ∧ (-2 ≤ z ∧ z ≤ 5) := by
  obtain ⟨z, M', e, g, f, alt, ha, q, -⟩ := cOK_I (q_X_hinge_c hd) (A := [.inr 2, .inl a1]) (show aF2 gW [aRef 2, (0, -2147483648, 2147483647, 0, 0, 0)] [.inr 2, .inl a1] from ⟨gW_o, gW_i h1.1 h1.2, trivial⟩) hM (show gP0 [] M from fun e he => by cases he) rfl
  refine ⟨z, M', e, g, f, ?_⟩
  have ha : alt ∈ [(some (0, -1, -1, 0, 0, 0), [], []), (some (0, -2, -2, 0, 0, 0), [(4, 0, 0, 0, 0, 0), (0, 0, 5, 0, 0, 0)], [(7, 9, (0, 1, 6, 0, 0, 0))]), (some (0, 0, 5, 0, 0, 0), [(4, 0, 0, 0, 0, 0), (0, 0, 5, 0, 0, 0)], [(5, 1, (0, 2, 2, 0, 0, 0)), (7, 9, (0, 1, 6, 0, 0, 0))])] := ha
  simp only [List.mem_cons, List.not_mem_nil, or_false] at ha
  rcases ha with rfl | rfl | rfl
  · obtain ⟨z2, e2, r⟩ := gW_int (show gW _ _ from q) (Nat.le_of_ble_eq_true rfl)
    cases e2
    have := gR0 r
    omega
  · obtain ⟨z2, e2, r⟩ := gW_int (show gW _ _ from q) (Nat.le_of_ble_eq_true rfl)
    cases e2
    have := gR0 r
    omega
  · obtain ⟨z2, e2, r⟩ := gW_int (show gW _ _ from q) (Nat.le_of_ble_eq_true rfl)
    cases e2
    have := gR0 r
    omega
theorem q_X_aim_c {d : Nat} (hd : 5 ≤ d) : cOK gAll (xF d) 38 K_425 := ct_of ct_ok (show K_425 ∈ CT.getD 38 [] from (show CT.getD 38 [] = [K_425] from rfl) ▸ by simp) hd
theorem q_X_aim {d : Nat} (hd : 5 ≤ d) {M : pM} (hM : gM gAll M)  : ∃ z M', xF d 38 [.inr 2] M = rI z M' ∧ gM gAll M' ∧ Fr [(0, 14), (1, 1), (3, 1), (3, 2), (3, 3), (58, 999)] M M' ∧ (-81 ≤ z ∧ z ≤ 80) := by
  obtain ⟨z, M', e, g, f, alt, ha, q, -⟩ := cOK_I (q_X_aim_c hd) (A := [.inr 2]) (show aF2 gW [aRef 2] [.inr 2] from ⟨gW_o, trivial⟩) hM (show gP0 [] M from fun e he => by cases he) rfl
  refine ⟨z, M', e, g, f, ?_⟩
  have ha : alt ∈ [(some (0, 0, 80, 0, 0, 0), [], []), (some (0, -81, -1, 0, 0, 0), [], [(3, 2, (0, 0, 10, 0, 0, 0))])] := ha
  simp only [List.mem_cons, List.not_mem_nil, or_false] at ha
  rcases ha with rfl | rfl
  · obtain ⟨z2, e2, r⟩ := gW_int (show gW _ _ from q) (Nat.le_of_ble_eq_true rfl)
    cases e2
    have := gR0 r
    omega
  · obtain ⟨z2, e2, r⟩ := gW_int (show gW _ _ from q) (Nat.le_of_ble_eq_true rfl)
    cases e2
    have := gR0 r
    omega
theorem q_X_apart_c {d : Nat} (hd : 6 ≤ d) : cOK gAll (xF d) 39 K_435 := ct_of ct_ok (show K_435 ∈ CT.getD 39 [] from (show CT.getD 39 [] = [K_678, K_679, K_680, K_681, K_682, K_683, K_684, K_685, K_686, K_687, K_688, K_689, K_435] from rfl) ▸ by simp) hd
theorem q_X_apart {d : Nat} (hd : 6 ≤ d) {M : pM} (hM : gM gAll M)  : ∃ z M', xF d 39 [.inr 2] M = rI z M' ∧ gM gAll M' ∧ Fr [(5, 1), (6, 999)] M M' ∧ (-4 ≤ z ∧ z ≤ 450) := by
  obtain ⟨z, M', e, g, f, alt, ha, q, -⟩ := cOK_I (q_X_apart_c hd) (A := [.inr 2]) (show aF2 gW [aRef 2] [.inr 2] from ⟨gW_o, trivial⟩) hM (show gP0 [] M from fun e he => by cases he) rfl
  refine ⟨z, M', e, g, f, ?_⟩
  have ha : alt ∈ [(some (0, -2, -2, 0, 0, 0), [], [(0, 14, (0, 1, 10, 0, 0, 0)), (7, 10, (0, 1, 10, 0, 0, 0))]), (some (0, -4, -4, 0, 0, 0), [], []), (some (0, 0, 450, 0, 0, 0), [], [(0, 14, (0, 1, 10, 0, 0, 0)), (5, 1, (0, 1, 1, 0, 0, 0)), (6, 0, (0, -2147483648, 2147483647, 0, 0, 0)), (7, 9, (0, 1, 6, 0, 0, 0)), (7, 10, (0, 1, 10, 0, 0, 0))])] := ha
  simp only [List.mem_cons, List.not_mem_nil, or_false] at ha
  rcases ha with rfl | rfl | rfl
  · obtain ⟨z2, e2, r⟩ := gW_int (show gW _ _ from q) (Nat.le_of_ble_eq_true rfl)
    cases e2
    have := gR0 r
    omega
  · obtain ⟨z2, e2, r⟩ := gW_int (show gW _ _ from q) (Nat.le_of_ble_eq_true rfl)
    cases e2
    have := gR0 r
    omega
  · obtain ⟨z2, e2, r⟩ := gW_int (show gW _ _ from q) (Nat.le_of_ble_eq_true rfl)
    cases e2
    have := gR0 r
    omega
theorem q_X_queue_c {d : Nat} (hd : 7 ≤ d) : cOK gAll (xF d) 40 K_445 := ct_of ct_ok (show K_445 ∈ CT.getD 40 [] from (show CT.getD 40 [] = [K_714, K_715, K_716, K_717, K_718, K_719, K_720, K_721, K_722, K_723, K_724, K_725, K_445] from rfl) ▸ by simp) hd
theorem q_X_queue {d : Nat} (hd : 7 ≤ d) {M : pM} (hM : gM gAll M)  : ∃ z M', xF d 40 [.inr 2] M = rI z M' ∧ gM gAll M' ∧ Fr [(5, 1), (6, 999), (48, 3), (49, 999), (50, 999), (51, 999)] M M' ∧ (-5 ≤ z ∧ z ≤ 10) := by
  obtain ⟨z, M', e, g, f, alt, ha, q, -⟩ := cOK_I (q_X_queue_c hd) (A := [.inr 2]) (show aF2 gW [aRef 2] [.inr 2] from ⟨gW_o, trivial⟩) hM (show gP0 [] M from fun e he => by cases he) rfl
  refine ⟨z, M', e, g, f, ?_⟩
  have ha : alt ∈ [(some (0, -2, -2, 0, 0, 0), [], [(0, 14, (0, 1, 10, 0, 0, 0)), (7, 10, (0, 1, 10, 0, 0, 0))]), (some (0, -4, -4, 0, 0, 0), [], []), (some (0, -5, -5, 0, 0, 0), [], [(0, 14, (0, 1, 10, 0, 0, 0)), (7, 10, (0, 1, 10, 0, 0, 0))]), (some (0, 0, 0, 0, 0, 0), [], [(0, 14, (0, 1, 10, 0, 0, 0)), (5, 1, (0, 0, 0, 0, 0, 0)), (7, 9, (0, 1, 6, 0, 0, 0)), (7, 10, (0, 1, 10, 0, 0, 0)), (48, 3, (0, 0, 0, 0, 0, 0))]), (some (0, 1, 1, 0, 0, 0), [], [(0, 14, (0, 1, 10, 0, 0, 0)), (5, 1, (0, 1, 1, 0, 0, 0)), (6, 0, (0, -2147483648, 2147483647, 0, 0, 0)), (7, 9, (0, 1, 6, 0, 0, 0)), (7, 10, (0, 1, 10, 0, 0, 0)), (48, 3, (0, 1, 1, 0, 0, 0))]), (some (0, 10, 10, 0, 0, 0), [], [(0, 14, (0, 1, 10, 0, 0, 0)), (5, 1, (0, 10, 10, 0, 0, 0)), (6, 9, (0, -2147483648, 2147483647, 0, 0, 0)), (7, 9, (0, 1, 6, 0, 0, 0)), (7, 10, (0, 1, 10, 0, 0, 0)), (48, 3, (0, 10, 10, 0, 0, 0))]), (some (0, 2, 2, 0, 0, 0), [], [(0, 14, (0, 1, 10, 0, 0, 0)), (5, 1, (0, 2, 2, 0, 0, 0)), (6, 1, (0, -2147483648, 2147483647, 0, 0, 0)), (7, 9, (0, 1, 6, 0, 0, 0)), (7, 10, (0, 1, 10, 0, 0, 0)), (48, 3, (0, 2, 2, 0, 0, 0))]), (some (0, 3, 3, 0, 0, 0), [], [(0, 14, (0, 1, 10, 0, 0, 0)), (5, 1, (0, 3, 3, 0, 0, 0)), (6, 2, (0, -2147483648, 2147483647, 0, 0, 0)), (7, 9, (0, 1, 6, 0, 0, 0)), (7, 10, (0, 1, 10, 0, 0, 0)), (48, 3, (0, 3, 3, 0, 0, 0))]), (some (0, 4, 4, 0, 0, 0), [], [(0, 14, (0, 1, 10, 0, 0, 0)), (5, 1, (0, 4, 4, 0, 0, 0)), (6, 3, (0, -2147483648, 2147483647, 0, 0, 0)), (7, 9, (0, 1, 6, 0, 0, 0)), (7, 10, (0, 1, 10, 0, 0, 0)), (48, 3, (0, 4, 4, 0, 0, 0))]), (some (0, 5, 5, 0, 0, 0), [], [(0, 14, (0, 1, 10, 0, 0, 0)), (5, 1, (0, 5, 5, 0, 0, 0)), (6, 4, (0, -2147483648, 2147483647, 0, 0, 0)), (7, 9, (0, 1, 6, 0, 0, 0)), (7, 10, (0, 1, 10, 0, 0, 0)), (48, 3, (0, 5, 5, 0, 0, 0))]), (some (0, 6, 6, 0, 0, 0), [], [(0, 14, (0, 1, 10, 0, 0, 0)), (5, 1, (0, 6, 6, 0, 0, 0)), (6, 5, (0, -2147483648, 2147483647, 0, 0, 0)), (7, 9, (0, 1, 6, 0, 0, 0)), (7, 10, (0, 1, 10, 0, 0, 0)), (48, 3, (0, 6, 6, 0, 0, 0))]), (some (0, 7, 7, 0, 0, 0), [], [(0, 14, (0, 1, 10, 0, 0, 0)), (5, 1, (0, 7, 7, 0, 0, 0)), (6, 6, (0, -2147483648, 2147483647, 0, 0, 0)), (7, 9, (0, 1, 6, 0, 0, 0)), (7, 10, (0, 1, 10, 0, 0, 0)), (48, 3, (0, 7, 7, 0, 0, 0))]), (some (0, 8, 8, 0, 0, 0), [], [(0, 14, (0, 1, 10, 0, 0, 0)), (5, 1, (0, 8, 8, 0, 0, 0)), (6, 7, (0, -2147483648, 2147483647, 0, 0, 0)), (7, 9, (0, 1, 6, 0, 0, 0)), (7, 10, (0, 1, 10, 0, 0, 0)), (48, 3, (0, 8, 8, 0, 0, 0))]), (some (0, 9, 9, 0, 0, 0), [], [(0, 14, (0, 1, 10, 0, 0, 0)), (5, 1, (0, 9, 9, 0, 0, 0)), (6, 8, (0, -2147483648, 2147483647, 0, 0, 0)), (7, 9, (0, 1, 6, 0, 0, 0)), (7, 10, (0, 1, 10, 0, 0, 0)), (48, 3, (0, 9, 9, 0, 0, 0))])] := ha
  simp only [List.mem_cons, List.not_mem_nil, or_false] at ha
  rcases ha with rfl | rfl | rfl | rfl | rfl | rfl | rfl | rfl | rfl | rfl | rfl | rfl | rfl | rfl
  · obtain ⟨z2, e2, r⟩ := gW_int (show gW _ _ from q) (Nat.le_of_ble_eq_true rfl)
    cases e2
    have := gR0 r
    omega
  · obtain ⟨z2, e2, r⟩ := gW_int (show gW _ _ from q) (Nat.le_of_ble_eq_true rfl)
    cases e2
    have := gR0 r
    omega
  · obtain ⟨z2, e2, r⟩ := gW_int (show gW _ _ from q) (Nat.le_of_ble_eq_true rfl)
    cases e2
    have := gR0 r
    omega
  · obtain ⟨z2, e2, r⟩ := gW_int (show gW _ _ from q) (Nat.le_of_ble_eq_true rfl)
    cases e2
    have := gR0 r
    omega
  · obtain ⟨z2, e2, r⟩ := gW_int (show gW _ _ from q) (Nat.le_of_ble_eq_true rfl)
    cases e2
    have := gR0 r
    omega
  · obtain ⟨z2, e2, r⟩ := gW_int (show gW _ _ from q) (Nat.le_of_ble_eq_true rfl)
    cases e2
    have := gR0 r
    omega
  · obtain ⟨z2, e2, r⟩ := gW_int (show gW _ _ from q) (Nat.le_of_ble_eq_true rfl)
    cases e2
    have := gR0 r
    omega
  · obtain ⟨z2, e2, r⟩ := gW_int (show gW _ _ from q) (Nat.le_of_ble_eq_true rfl)
    cases e2
    have := gR0 r
    omega
  · obtain ⟨z2, e2, r⟩ := gW_int (show gW _ _ from q) (Nat.le_of_ble_eq_true rfl)
    cases e2
    have := gR0 r
    omega
  · obtain ⟨z2, e2, r⟩ := gW_int (show gW _ _ from q) (Nat.le_of_ble_eq_true rfl)
    cases e2
    have := gR0 r
    omega
  · obtain ⟨z2, e2, r⟩ := gW_int (show gW _ _ from q) (Nat.le_of_ble_eq_true rfl)
    cases e2
    have := gR0 r
    omega
  · obtain ⟨z2, e2, r⟩ := gW_int (show gW _ _ from q) (Nat.le_of_ble_eq_true rfl)
    cases e2
    have := gR0 r
    omega
  · obtain ⟨z2, e2, r⟩ := gW_int (show gW _ _ from q) (Nat.le_of_ble_eq_true rfl)
    cases e2
    have := gR0 r
    omega
  · obtain ⟨z2, e2, r⟩ := gW_int (show gW _ _ from q) (Nat.le_of_ble_eq_true rfl)
    cases e2
    have := gR0 r
    omega
theorem q_X_evenings_c {d : Nat} (hd : 8 ≤ d) : cOK gAll (xF d) 41 K_460 := ct_of ct_ok (show K_460 ∈ CT.getD 41 [] from (show CT.getD 41 [] = [K_816, K_727, K_729, K_731, K_733, K_735, K_737, K_739, K_741, K_743, K_745, K_747, K_749, K_817, K_818, K_819, K_820, K_821, K_822, K_823, K_824, K_825, K_826, K_460] from rfl) ▸ by simp) hd
theorem q_X_evenings {d : Nat} (hd : 8 ≤ d) {M : pM} (hM : gM gAll M)  : ∃ z M', xF d 41 [.inr 2] M = rI z M' ∧ gM gAll M' ∧ Fr [(5, 1), (6, 999), (32, 6), (32, 7), (32, 8), (32, 9), (33, 999), (34, 999), (35, 999), (36, 999), (37, 999), (52, 5), (52, 6), (52, 7), (52, 8), (52, 9), (53, 999), (54, 999), (55, 999), (56, 999), (57, 999)] M M' ∧ (-4 ≤ z ∧ z ≤ 300) := by
  obtain ⟨z, M', e, g, f, alt, ha, q, -⟩ := cOK_I (q_X_evenings_c hd) (A := [.inr 2]) (show aF2 gW [aRef 2] [.inr 2] from ⟨gW_o, trivial⟩) hM (show gP0 [] M from fun e he => by cases he) rfl
  refine ⟨z, M', e, g, f, ?_⟩
  have ha : alt ∈ [(some (0, -2, -2, 0, 0, 0), [], [(0, 14, (0, 1, 10, 0, 0, 0)), (7, 10, (0, 1, 10, 0, 0, 0))]), (some (0, -3, -3, 0, 0, 0), [], [(0, 14, (0, 1, 10, 0, 0, 0)), (7, 10, (0, 1, 10, 0, 0, 0))]), (some (0, -4, -4, 0, 0, 0), [], []), (some (0, 0, 0, 0, 0, 0), [], [(0, 14, (0, 1, 10, 0, 0, 0)), (5, 1, (0, 1, 1, 0, 0, 0)), (6, 0, (0, -2147483648, 2147483647, 0, 0, 0)), (7, 10, (0, 1, 10, 0, 0, 0))]), (some (0, 1, 300, 0, 0, 0), [], [(0, 14, (0, 1, 10, 0, 0, 0)), (5, 1, (0, 2, 11, 0, 0, 0)), (7, 10, (0, 1, 10, 0, 0, 0)), (52, 5, (0, 1, 300, 0, 0, 0)), (52, 7, (0, 0, 299, 0, 0, 0)), (52, 9, (0, 0, 299, 0, 0, 0))])] := ha
  simp only [List.mem_cons, List.not_mem_nil, or_false] at ha
  rcases ha with rfl | rfl | rfl | rfl | rfl
  · obtain ⟨z2, e2, r⟩ := gW_int (show gW _ _ from q) (Nat.le_of_ble_eq_true rfl)
    cases e2
    have := gR0 r
    omega
  · obtain ⟨z2, e2, r⟩ := gW_int (show gW _ _ from q) (Nat.le_of_ble_eq_true rfl)
    cases e2
    have := gR0 r
    omega
  · obtain ⟨z2, e2, r⟩ := gW_int (show gW _ _ from q) (Nat.le_of_ble_eq_true rfl)
    cases e2
    have := gR0 r
    omega
  · obtain ⟨z2, e2, r⟩ := gW_int (show gW _ _ from q) (Nat.le_of_ble_eq_true rfl)
    cases e2
    have := gR0 r
    omega
  · obtain ⟨z2, e2, r⟩ := gW_int (show gW _ _ from q) (Nat.le_of_ble_eq_true rfl)
    cases e2
    have := gR0 r
    omega
theorem q_X_weakest_c {d : Nat} (hd : 8 ≤ d) : cOK gAll (xF d) 42 K_467 := ct_of ct_ok (show K_467 ∈ CT.getD 42 [] from (show CT.getD 42 [] = [K_467] from rfl) ▸ by simp) hd
theorem q_X_weakest {d : Nat} (hd : 8 ≤ d) {M : pM} (hM : gM gAll M)  : ∃ z M', xF d 42 [.inr 2] M = rI z M' ∧ gM gAll M' ∧ Fr [(5, 1), (6, 999), (32, 6), (32, 7), (32, 8), (32, 9), (33, 999), (34, 999), (35, 999), (36, 999), (37, 999), (52, 5), (52, 6), (52, 7), (52, 8), (52, 9), (53, 999), (54, 999), (55, 999), (56, 999), (57, 999)] M M' := by
  obtain ⟨z, M', e, g, f, alt, ha, q, -⟩ := cOK_I (q_X_weakest_c hd) (A := [.inr 2]) (show aF2 gW [aRef 2] [.inr 2] from ⟨gW_o, trivial⟩) hM (show gP0 [] M from fun e he => by cases he) rfl
  exact ⟨z, M', e, g, f⟩
theorem q_X_keep_c {d : Nat} (hd : 3 ≤ d) : cOK gAll (xF d) 43 K_473 := ct_of ct_ok (show K_473 ∈ CT.getD 43 [] from (show CT.getD 43 [] = [K_473] from rfl) ▸ by simp) hd
theorem q_X_keep {d : Nat} (hd : 3 ≤ d) {M : pM} {a1 : Int} (hM : gM gAll M) (h1 : -2147483648 ≤ a1 ∧ a1 ≤ 2147483647) : ∃ z M', xF d 43 [.inr 2, .inl a1] M = rI z M' ∧ gM gAll M' ∧ Fr [(44, 1), (44, 2), (44, 3), (44, 4), (44, 5), (45, 999), (46, 1), (46, 2), (46, 3), (46, 4), (46, 5), (47, 999)] M M' ∧ (0 ≤ z ∧ z ≤ 1) := by
  obtain ⟨z, M', e, g, f, alt, ha, q, -⟩ := cOK_I (q_X_keep_c hd) (A := [.inr 2, .inl a1]) (show aF2 gW [aRef 2, (0, -2147483648, 2147483647, 0, 0, 0)] [.inr 2, .inl a1] from ⟨gW_o, gW_i h1.1 h1.2, trivial⟩) hM (show gP0 [] M from fun e he => by cases he) rfl
  refine ⟨z, M', e, g, f, ?_⟩
  have ha : alt ∈ [(some (0, 0, 0, 0, 0, 0), [], []), (some (0, 1, 1, 0, 0, 0), [(4, 0, 0, 0, 0, 0), (0, 0, 1, 0, 0, 0)], [])] := ha
  simp only [List.mem_cons, List.not_mem_nil, or_false] at ha
  rcases ha with rfl | rfl
  · obtain ⟨z2, e2, r⟩ := gW_int (show gW _ _ from q) (Nat.le_of_ble_eq_true rfl)
    cases e2
    have := gR0 r
    omega
  · obtain ⟨z2, e2, r⟩ := gW_int (show gW _ _ from q) (Nat.le_of_ble_eq_true rfl)
    cases e2
    have := gR0 r
    omega
theorem q_X_again_c {d : Nat} (hd : 2 ≤ d) : cOK gAll (xF d) 44 K_478 := ct_of ct_ok (show K_478 ∈ CT.getD 44 [] from (show CT.getD 44 [] = [K_478] from rfl) ▸ by simp) hd
theorem q_X_again {d : Nat} (hd : 2 ≤ d) {M : pM} {a1 : Int} (hM : gM gAll M) (h1 : -2147483648 ≤ a1 ∧ a1 ≤ 2147483647) : ∃ z M', xF d 44 [.inr 2, .inl a1] M = rI z M' ∧ gM gAll M' ∧ Fr [(0, 15), (0, 16), (13, 999), (39, 3)] M M' ∧ (0 ≤ z ∧ z ≤ 1) := by
  obtain ⟨z, M', e, g, f, alt, ha, q, -⟩ := cOK_I (q_X_again_c hd) (A := [.inr 2, .inl a1]) (show aF2 gW [aRef 2, (0, -2147483648, 2147483647, 0, 0, 0)] [.inr 2, .inl a1] from ⟨gW_o, gW_i h1.1 h1.2, trivial⟩) hM (show gP0 [] M from fun e he => by cases he) rfl
  refine ⟨z, M', e, g, f, ?_⟩
  have ha : alt ∈ [(some (0, 0, 0, 0, 0, 0), [], []), (some (0, 1, 1, 0, 0, 0), [(4, 0, 0, 0, 0, 0), (0, 0, 1, 0, 0, 0)], [(39, 3, (0, 0, 0, 0, 0, 0))])] := ha
  simp only [List.mem_cons, List.not_mem_nil, or_false] at ha
  rcases ha with rfl | rfl
  · obtain ⟨z2, e2, r⟩ := gW_int (show gW _ _ from q) (Nat.le_of_ble_eq_true rfl)
    cases e2
    have := gR0 r
    omega
  · obtain ⟨z2, e2, r⟩ := gW_int (show gW _ _ from q) (Nat.le_of_ble_eq_true rfl)
    cases e2
    have := gR0 r
    omega
theorem q_X_count_c {d : Nat} (hd : 6 ≤ d) : cOK gAll (xF d) 45 K_480 := ct_of ct_ok (show K_480 ∈ CT.getD 45 [] from (show CT.getD 45 [] = [K_480] from rfl) ▸ by simp) hd
theorem q_X_count {d : Nat} (hd : 6 ≤ d) {M : pM} {a1 : Int} (hM : gM gAll M) (h1 : -2147483648 ≤ a1 ∧ a1 ≤ 2147483647) : ∃ z M', xF d 45 [.inr 2, .inl a1] M = rI z M' ∧ gM gAll M' ∧ Fr [] M M' := by
  obtain ⟨z, M', e, g, f, alt, ha, q, -⟩ := cOK_I (q_X_count_c hd) (A := [.inr 2, .inl a1]) (show aF2 gW [aRef 2, (0, -2147483648, 2147483647, 0, 0, 0)] [.inr 2, .inl a1] from ⟨gW_o, gW_i h1.1 h1.2, trivial⟩) hM (show gP0 [] M from fun e he => by cases he) rfl
  exact ⟨z, M', e, g, f⟩
theorem q_M_sign_c {d : Nat} (hd : 1 ≤ d) : cOK gAll (xF d) 175 K_481 := ct_of ct_ok (show K_481 ∈ CT.getD 175 [] from (show CT.getD 175 [] = [K_481] from rfl) ▸ by simp) hd
theorem q_M_sign {d : Nat} (hd : 1 ≤ d) {M : pM} {a1 : Int} (hM : gM gAll M) (h1 : -2147483648 ≤ a1 ∧ a1 ≤ 2147483647) : ∃ z M', xF d 175 [.inr 62, .inl a1] M = rI z M' ∧ gM gAll M' ∧ Fr [(60, 14), (60, 17), (68, 999)] M M' ∧ (-1 ≤ z ∧ z ≤ 80) := by
  obtain ⟨z, M', e, g, f, alt, ha, q, -⟩ := cOK_I (q_M_sign_c hd) (A := [.inr 62, .inl a1]) (show aF2 gW [aRef 62, (0, -2147483648, 2147483647, 0, 0, 0)] [.inr 62, .inl a1] from ⟨gW_o, gW_i h1.1 h1.2, trivial⟩) hM (show gP0 [] M from fun e he => by cases he) rfl
  refine ⟨z, M', e, g, f, ?_⟩
  have ha : alt ∈ [(some (0, -1, -1, 0, 0, 0), [], [(60, 14, (0, 77, 80, 0, 0, 0)), (60, 17, (0, 0, 0, 0, 0, 0))]), (some (0, 4, 80, 0, 0, 0), [], [(60, 14, (0, 4, 80, 0, 0, 0)), (60, 17, (0, 0, 0, 0, 0, 0))])] := ha
  simp only [List.mem_cons, List.not_mem_nil, or_false] at ha
  rcases ha with rfl | rfl
  · obtain ⟨z2, e2, r⟩ := gW_int (show gW _ _ from q) (Nat.le_of_ble_eq_true rfl)
    cases e2
    have := gR0 r
    omega
  · obtain ⟨z2, e2, r⟩ := gW_int (show gW _ _ from q) (Nat.le_of_ble_eq_true rfl)
    cases e2
    have := gR0 r
    omega
theorem q_M_end_c {d : Nat} (hd : 2 ≤ d) : cOK gAll (xF d) 176 K_483 := ct_of ct_ok (show K_483 ∈ CT.getD 176 [] from (show CT.getD 176 [] = [K_483] from rfl) ▸ by simp) hd
theorem q_M_end {d : Nat} (hd : 2 ≤ d) {M : pM} {a1 : Int} (hM : gM gAll M) (h1 : -2147483648 ≤ a1 ∧ a1 ≤ 2147483647) : ∃ z M', xF d 176 [.inr 62, .inl a1] M = rI z M' ∧ gM gAll M' ∧ Fr [(60, 14), (60, 17)] M M' ∧ (0 ≤ z ∧ z ≤ 1) := by
  obtain ⟨z, M', e, g, f, alt, ha, q, -⟩ := cOK_I (q_M_end_c hd) (A := [.inr 62, .inl a1]) (show aF2 gW [aRef 62, (0, -2147483648, 2147483647, 0, 0, 0)] [.inr 62, .inl a1] from ⟨gW_o, gW_i h1.1 h1.2, trivial⟩) hM (show gP0 [] M from fun e he => by cases he) rfl
  refine ⟨z, M', e, g, f, ?_⟩
  have ha : alt ∈ [(some (0, 0, 0, 0, 0, 0), [], [(60, 17, (0, 0, 0, 0, 0, 0))]), (some (0, 1, 1, 0, 0, 0), [(4, 0, 0, 0, 0, 0), (0, 0, 80, 0, 0, 0)], [(60, 17, (0, 0, 0, 0, 0, 0))])] := ha
  simp only [List.mem_cons, List.not_mem_nil, or_false] at ha
  rcases ha with rfl | rfl
  · obtain ⟨z2, e2, r⟩ := gW_int (show gW _ _ from q) (Nat.le_of_ble_eq_true rfl)
    cases e2
    have := gR0 r
    omega
  · obtain ⟨z2, e2, r⟩ := gW_int (show gW _ _ from q) (Nat.le_of_ble_eq_true rfl)
    cases e2
    have := gR0 r
    omega
theorem q_M_rule_c {d : Nat} (hd : 341 ≤ d) : cOK gAll (xF d) 193 K_489 := ct_of ct_ok (show K_489 ∈ CT.getD 193 [] from (show CT.getD 193 [] = [K_489] from rfl) ▸ by simp) hd
theorem q_M_rule {d : Nat} (hd : 341 ≤ d) {M : pM} (hM : gM gAll M)  : ∃ z M', xF d 193 [.inr 62] M = rI z M' ∧ gM gAll M' ∧ Fr [(60, 14), (60, 17), (60, 18), (60, 19), (60, 20), (60, 21), (60, 22), (60, 25), (60, 26), (71, 999)] M M' ∧ (-81 ≤ z ∧ z ≤ 0) := by
  obtain ⟨z, M', e, g, f, alt, ha, q, -⟩ := cOK_I (q_M_rule_c hd) (A := [.inr 62]) (show aF2 gW [aRef 62] [.inr 62] from ⟨gW_o, trivial⟩) hM (show gP0 [] M from fun e he => by cases he) rfl
  refine ⟨z, M', e, g, f, ?_⟩
  have ha : alt ∈ [(some (0, 0, 0, 0, 0, 0), [], [(60, 14, (0, 0, 0, 0, 0, 0)), (60, 17, (0, 0, 0, 0, 0, 0)), (60, 18, (0, 70, 70, 0, 0, 0)), (60, 20, (0, 40, 40, 0, 0, 0)), (60, 21, (0, 0, 40, 0, 0, 0)), (60, 22, (0, -1, -1, 0, 0, 0)), (60, 26, (0, -1, -1, 0, 0, 0))]), (some (0, -81, -1, 0, 0, 0), [], [(60, 14, (0, 0, 0, 0, 0, 0)), (60, 17, (0, 0, 0, 0, 0, 0)), (60, 18, (0, 70, 70, 0, 0, 0)), (60, 20, (0, 40, 40, 0, 0, 0)), (60, 21, (0, 0, 40, 0, 0, 0)), (60, 22, (0, 0, 80, 0, 0, 0)), (60, 26, (0, -1, -1, 0, 0, 0))])] := ha
  simp only [List.mem_cons, List.not_mem_nil, or_false] at ha
  rcases ha with rfl | rfl
  · obtain ⟨z2, e2, r⟩ := gW_int (show gW _ _ from q) (Nat.le_of_ble_eq_true rfl)
    cases e2
    have := gR0 r
    omega
  · obtain ⟨z2, e2, r⟩ := gW_int (show gW _ _ from q) (Nat.le_of_ble_eq_true rfl)
    cases e2
    have := gR0 r
    omega
theorem q_M_room_c {d : Nat} (hd : 3 ≤ d) : cOK gAll (xF d) 199 K_496 := ct_of ct_ok (show K_496 ∈ CT.getD 199 [] from (show CT.getD 199 [] = [K_496] from rfl) ▸ by simp) hd
theorem q_M_room {d : Nat} (hd : 3 ≤ d) {M : pM} {a1 : Int} {a2 : Int} (hM : gM gAll M) (h1 : -2147483648 ≤ a1 ∧ a1 ≤ 2147483647) (h2 : -2147483648 ≤ a2 ∧ a2 ≤ 2147483647) : ∃ z M', xF d 199 [.inr 62, .inl a1, .inl a2] M = rI z M' ∧ gM gAll M' ∧ Fr [(60, 17)] M M' := by
  obtain ⟨z, M', e, g, f, alt, ha, q, -⟩ := cOK_I (q_M_room_c hd) (A := [.inr 62, .inl a1, .inl a2]) (show aF2 gW [aRef 62, (0, -2147483648, 2147483647, 0, 0, 0), (0, -2147483648, 2147483647, 0, 0, 0)] [.inr 62, .inl a1, .inl a2] from ⟨gW_o, gW_i h1.1 h1.2, gW_i h2.1 h2.2, trivial⟩) hM (show gP0 [] M from fun e he => by cases he) rfl
  exact ⟨z, M', e, g, f⟩
theorem q_M_thing_c {d : Nat} (hd : 342 ≤ d) : cOK gAll (xF d) 201 K_506 := ct_of ct_ok (show K_506 ∈ CT.getD 201 [] from (show CT.getD 201 [] = [K_506] from rfl) ▸ by simp) hd
theorem q_M_thing {d : Nat} (hd : 342 ≤ d) {M : pM} {a1 : Int} {a2 : Int} (hM : gM gAll M) (h1 : -2147483648 ≤ a1 ∧ a1 ≤ 2147483647) (h2 : -2147483648 ≤ a2 ∧ a2 ≤ 2147483647) : ∃ z M', xF d 201 [.inr 62, .inl a1, .inl a2] M = rI z M' ∧ gM gAll M' ∧ Fr [(60, 17), (60, 18), (60, 19), (60, 20), (60, 21), (60, 22), (60, 26), (60, 27), (60, 30), (72, 999), (73, 999)] M M' ∧ (-999 ≤ z ∧ z ≤ 999) := by
  obtain ⟨z, M', e, g, f, alt, ha, q, -⟩ := cOK_I (q_M_thing_c hd) (A := [.inr 62, .inl a1, .inl a2]) (show aF2 gW [aRef 62, (0, -2147483648, 2147483647, 0, 0, 0), (0, -2147483648, 2147483647, 0, 0, 0)] [.inr 62, .inl a1, .inl a2] from ⟨gW_o, gW_i h1.1 h1.2, gW_i h2.1 h2.2, trivial⟩) hM (show gP0 [] M from fun e he => by cases he) rfl
  refine ⟨z, M', e, g, f, ?_⟩
  have ha : alt ∈ [(some (0, 0, 0, 0, 0, 0), [], []), (some (0, 0, 255, 0, 0, 0), [(4, 0, 0, 0, 0, 0), (0, 0, 9, 0, 0, 0), (0, 0, 5, 0, 0, 0)], [(60, 17, (0, 0, 0, 0, 0, 0))]), (some (0, -999, 999, 0, 0, 0), [(4, 0, 0, 0, 0, 0), (0, 0, 9, 0, 0, 0), (0, 0, 6, 0, 0, 0)], [(60, 17, (0, 0, 0, 0, 0, 0)), (60, 18, (0, 73, 73, 0, 0, 0)), (60, 19, (0, 1, 40, 0, 0, 0)), (60, 20, (0, 40, 40, 0, 0, 0)), (60, 21, (0, 0, 40, 0, 0, 0)), (60, 25, (0, 1, 40, 0, 0, 0)), (60, 26, (0, 0, 9, 0, 0, 0))])] := ha
  simp only [List.mem_cons, List.not_mem_nil, or_false] at ha
  rcases ha with rfl | rfl | rfl
  · obtain ⟨z2, e2, r⟩ := gW_int (show gW _ _ from q) (Nat.le_of_ble_eq_true rfl)
    cases e2
    have := gR0 r
    omega
  · obtain ⟨z2, e2, r⟩ := gW_int (show gW _ _ from q) (Nat.le_of_ble_eq_true rfl)
    cases e2
    have := gR0 r
    omega
  · obtain ⟨z2, e2, r⟩ := gW_int (show gW _ _ from q) (Nat.le_of_ble_eq_true rfl)
    cases e2
    have := gR0 r
    omega
theorem q_M_set_c {d : Nat} (hd : 2 ≤ d) : cOK gAll (xF d) 202 K_508 := ct_of ct_ok (show K_508 ∈ CT.getD 202 [] from (show CT.getD 202 [] = [K_508] from rfl) ▸ by simp) hd
theorem q_M_set {d : Nat} (hd : 2 ≤ d) {M : pM} {a1 : Int} (hM : gM gAll M) (h1 : -2147483648 ≤ a1 ∧ a1 ≤ 2147483647) : ∃ z M', xF d 202 [.inr 62, .inl a1] M = rI z M' ∧ gM gAll M' ∧ Fr [(60, 17)] M M' ∧ (-1 ≤ z ∧ z ≤ 1023) := by
  obtain ⟨z, M', e, g, f, alt, ha, q, -⟩ := cOK_I (q_M_set_c hd) (A := [.inr 62, .inl a1]) (show aF2 gW [aRef 62, (0, -2147483648, 2147483647, 0, 0, 0)] [.inr 62, .inl a1] from ⟨gW_o, gW_i h1.1 h1.2, trivial⟩) hM (show gP0 [] M from fun e he => by cases he) rfl
  refine ⟨z, M', e, g, f, ?_⟩
  have ha : alt ∈ [(some (0, -1, -1, 0, 0, 0), [], [(60, 17, (0, 0, 0, 0, 0, 0))]), (some (0, 0, 1023, 0, 0, 0), [(4, 0, 0, 0, 0, 0), (0, 0, 7, 0, 0, 0)], [(60, 17, (0, 0, 0, 0, 0, 0))])] := ha
  simp only [List.mem_cons, List.not_mem_nil, or_false] at ha
  rcases ha with rfl | rfl
  · obtain ⟨z2, e2, r⟩ := gW_int (show gW _ _ from q) (Nat.le_of_ble_eq_true rfl)
    cases e2
    have := gR0 r
    omega
  · obtain ⟨z2, e2, r⟩ := gW_int (show gW _ _ from q) (Nat.le_of_ble_eq_true rfl)
    cases e2
    have := gR0 r
    omega
theorem q_M_door_c {d : Nat} (hd : 3 ≤ d) : cOK gAll (xF d) 203 K_509 := ct_of ct_ok (show K_509 ∈ CT.getD 203 [] from (show CT.getD 203 [] = [K_509] from rfl) ▸ by simp) hd
theorem q_M_door {d : Nat} (hd : 3 ≤ d) {M : pM} {a1 : Int} {a2 : Int} (hM : gM gAll M) (h1 : -2147483648 ≤ a1 ∧ a1 ≤ 2147483647) (h2 : -2147483648 ≤ a2 ∧ a2 ≤ 2147483647) : ∃ z M', xF d 203 [.inr 62, .inl a1, .inl a2] M = rI z M' ∧ gM gAll M' ∧ Fr [(60, 17)] M M' ∧ (-2 ≤ z ∧ z ≤ 9) := by
  obtain ⟨z, M', e, g, f, alt, ha, q, -⟩ := cOK_I (q_M_door_c hd) (A := [.inr 62, .inl a1, .inl a2]) (show aF2 gW [aRef 62, (0, -2147483648, 2147483647, 0, 0, 0), (0, -2147483648, 2147483647, 0, 0, 0)] [.inr 62, .inl a1, .inl a2] from ⟨gW_o, gW_i h1.1 h1.2, gW_i h2.1 h2.2, trivial⟩) hM (show gP0 [] M from fun e he => by cases he) rfl
  refine ⟨z, M', e, g, f, ?_⟩
  have ha : alt ∈ [(some (0, -1, -1, 0, 0, 0), [], [(60, 17, (0, 0, 0, 0, 0, 0))]), (some (0, -2, -2, 0, 0, 0), [(4, 0, 0, 0, 0, 0), (0, 0, 5, 0, 0, 0), (0, 0, 5, 0, 0, 0)], [(60, 17, (0, 0, 0, 0, 0, 0))]), (some (0, 0, 9, 0, 0, 0), [(4, 0, 0, 0, 0, 0), (0, 0, 5, 0, 0, 0), (0, 0, 5, 0, 0, 0)], [(60, 17, (0, 0, 0, 0, 0, 0))])] := ha
  simp only [List.mem_cons, List.not_mem_nil, or_false] at ha
  rcases ha with rfl | rfl | rfl
  · obtain ⟨z2, e2, r⟩ := gW_int (show gW _ _ from q) (Nat.le_of_ble_eq_true rfl)
    cases e2
    have := gR0 r
    omega
  · obtain ⟨z2, e2, r⟩ := gW_int (show gW _ _ from q) (Nat.le_of_ble_eq_true rfl)
    cases e2
    have := gR0 r
    omega
  · obtain ⟨z2, e2, r⟩ := gW_int (show gW _ _ from q) (Nat.le_of_ble_eq_true rfl)
    cases e2
    have := gR0 r
    omega
theorem q_M_strength_c {d : Nat} (hd : 2 ≤ d) : cOK gAll (xF d) 205 K_511 := ct_of ct_ok (show K_511 ∈ CT.getD 205 [] from (show CT.getD 205 [] = [K_511] from rfl) ▸ by simp) hd
theorem q_M_strength {d : Nat} (hd : 2 ≤ d) {M : pM} {a1 : Int} (hM : gM gAll M) (h1 : -2147483648 ≤ a1 ∧ a1 ≤ 2147483647) : ∃ z M', xF d 205 [.inr 62, .inl a1] M = rI z M' ∧ gM gAll M' ∧ Fr [(60, 12), (60, 17)] M M' ∧ (-1 ≤ z ∧ z ≤ 999) := by
  obtain ⟨z, M', e, g, f, alt, ha, q, -⟩ := cOK_I (q_M_strength_c hd) (A := [.inr 62, .inl a1]) (show aF2 gW [aRef 62, (0, -2147483648, 2147483647, 0, 0, 0)] [.inr 62, .inl a1] from ⟨gW_o, gW_i h1.1 h1.2, trivial⟩) hM (show gP0 [] M from fun e he => by cases he) rfl
  refine ⟨z, M', e, g, f, ?_⟩
  have ha : alt ∈ [(some (0, -1, -1, 0, 0, 0), [], [(60, 17, (0, 0, 0, 0, 0, 0))]), (some (0, 1, 999, 0, 0, 0), [(4, 0, 0, 0, 0, 0), (0, 1, 999, 0, 0, 0)], [(60, 17, (0, 0, 0, 0, 0, 0))])] := ha
  simp only [List.mem_cons, List.not_mem_nil, or_false] at ha
  rcases ha with rfl | rfl
  · obtain ⟨z2, e2, r⟩ := gW_int (show gW _ _ from q) (Nat.le_of_ble_eq_true rfl)
    cases e2
    have := gR0 r
    omega
  · obtain ⟨z2, e2, r⟩ := gW_int (show gW _ _ from q) (Nat.le_of_ble_eq_true rfl)
    cases e2
    have := gR0 r
    omega
theorem q_M_clumps_c {d : Nat} (hd : 3 ≤ d) : cOK gAll (xF d) 222 K_522 := ct_of ct_ok (show K_522 ∈ CT.getD 222 [] from (show CT.getD 222 [] = [K_522] from rfl) ▸ by simp) hd
theorem q_M_clumps {d : Nat} (hd : 3 ≤ d) {M : pM} (hM : gM gAll M)  : ∃ z M', xF d 222 [.inr 62] M = rI z M' ∧ gM gAll M' ∧ Fr [(60, 16), (60, 17), (60, 30), (69, 999), (72, 999), (73, 999)] M M' ∧ (0 ≤ z ∧ z ≤ 10) := by
  obtain ⟨z, M', e, g, f, alt, ha, q, -⟩ := cOK_I (q_M_clumps_c hd) (A := [.inr 62]) (show aF2 gW [aRef 62] [.inr 62] from ⟨gW_o, trivial⟩) hM (show gP0 [] M from fun e he => by cases he) rfl
  refine ⟨z, M', e, g, f, ?_⟩
  have ha : alt ∈ [(some (0, 0, 0, 0, 0, 0), [], [(60, 16, (0, 0, 0, 0, 0, 0)), (60, 17, (0, 0, 0, 0, 0, 0)), (60, 30, (0, 0, 0, 0, 0, 0))]), (some (0, 1, 1, 0, 0, 0), [], [(60, 16, (0, 1, 1, 0, 0, 0)), (60, 17, (0, 0, 0, 0, 0, 0)), (60, 30, (0, 1, 1, 0, 0, 0)), (69, 0, (0, -2147483648, 2147483647, 0, 0, 0))]), (some (0, 2, 10, 0, 0, 0), [], [(60, 16, (0, 2, 10, 0, 0, 0)), (60, 17, (0, 0, 0, 0, 0, 0)), (60, 30, (0, 2, 10, 0, 0, 0))])] := ha
  simp only [List.mem_cons, List.not_mem_nil, or_false] at ha
  rcases ha with rfl | rfl | rfl
  · obtain ⟨z2, e2, r⟩ := gW_int (show gW _ _ from q) (Nat.le_of_ble_eq_true rfl)
    cases e2
    have := gR0 r
    omega
  · obtain ⟨z2, e2, r⟩ := gW_int (show gW _ _ from q) (Nat.le_of_ble_eq_true rfl)
    cases e2
    have := gR0 r
    omega
  · obtain ⟨z2, e2, r⟩ := gW_int (show gW _ _ from q) (Nat.le_of_ble_eq_true rfl)
    cases e2
    have := gR0 r
    omega
theorem q_M_heaviest_c {d : Nat} (hd : 3 ≤ d) : cOK gAll (xF d) 224 K_525 := ct_of ct_ok (show K_525 ∈ CT.getD 224 [] from (show CT.getD 224 [] = [K_828, K_829, K_830, K_831, K_832, K_833, K_834, K_835, K_836, K_837, K_838, K_839, K_525] from rfl) ▸ by simp) hd
theorem q_M_heaviest {d : Nat} (hd : 3 ≤ d) {M : pM} (hM : gM gAll M)  : ∃ z M', xF d 224 [.inr 62] M = rI z M' ∧ gM gAll M' ∧ Fr [(60, 16), (60, 17), (60, 30), (69, 999), (72, 999), (73, 999)] M M' ∧ (-2 ≤ z ∧ z ≤ 9) := by
  obtain ⟨z, M', e, g, f, alt, ha, q, -⟩ := cOK_I (q_M_heaviest_c hd) (A := [.inr 62]) (show aF2 gW [aRef 62] [.inr 62] from ⟨gW_o, trivial⟩) hM (show gP0 [] M from fun e he => by cases he) rfl
  refine ⟨z, M', e, g, f, ?_⟩
  have ha : alt ∈ [(some (0, -2, -2, 0, 0, 0), [], [(60, 3, (0, 0, 0, 0, 0, 0)), (60, 17, (0, 0, 0, 0, 0, 0))]), (some (0, 0, 9, 0, 0, 0), [], [(60, 3, (0, 1, 10, 0, 0, 0)), (60, 16, (0, 2, 2, 0, 0, 0)), (60, 17, (0, 0, 0, 0, 0, 0)), (69, 1, (0, -2147483648, 2147483647, 0, 0, 0))])] := ha
  simp only [List.mem_cons, List.not_mem_nil, or_false] at ha
  rcases ha with rfl | rfl
  · obtain ⟨z2, e2, r⟩ := gW_int (show gW _ _ from q) (Nat.le_of_ble_eq_true rfl)
    cases e2
    have := gR0 r
    omega
  · obtain ⟨z2, e2, r⟩ := gW_int (show gW _ _ from q) (Nat.le_of_ble_eq_true rfl)
    cases e2
    have := gR0 r
    omega
theorem q_M_without_c {d : Nat} (hd : 3 ≤ d) : cOK gAll (xF d) 225 K_526 := ct_of ct_ok (show K_526 ∈ CT.getD 225 [] from (show CT.getD 225 [] = [K_840, K_841, K_842, K_843, K_844, K_845, K_846, K_847, K_848, K_849, K_850, K_851, K_526] from rfl) ▸ by simp) hd
theorem q_M_without {d : Nat} (hd : 3 ≤ d) {M : pM} {a1 : Int} (hM : gM gAll M) (h1 : -2147483648 ≤ a1 ∧ a1 ≤ 2147483647) : ∃ z M', xF d 225 [.inr 62, .inl a1] M = rI z M' ∧ gM gAll M' ∧ Fr [(60, 16), (60, 17), (60, 30), (69, 999), (72, 999), (73, 999)] M M' ∧ (-1 ≤ z ∧ z ≤ 10) := by
  obtain ⟨z, M', e, g, f, alt, ha, q, -⟩ := cOK_I (q_M_without_c hd) (A := [.inr 62, .inl a1]) (show aF2 gW [aRef 62, (0, -2147483648, 2147483647, 0, 0, 0)] [.inr 62, .inl a1] from ⟨gW_o, gW_i h1.1 h1.2, trivial⟩) hM (show gP0 [] M from fun e he => by cases he) rfl
  refine ⟨z, M', e, g, f, ?_⟩
  have ha : alt ∈ [(some (0, -1, -1, 0, 0, 0), [], [(60, 17, (0, 0, 0, 0, 0, 0))]), (some (0, 0, 10, 0, 0, 0), [(4, 0, 0, 0, 0, 0), (0, 0, 9, 0, 0, 0)], [(60, 16, (0, 1, 1, 0, 0, 0)), (60, 17, (0, 0, 0, 0, 0, 0)), (69, 0, (0, -2147483648, 2147483647, 0, 0, 0))])] := ha
  simp only [List.mem_cons, List.not_mem_nil, or_false] at ha
  rcases ha with rfl | rfl
  · obtain ⟨z2, e2, r⟩ := gW_int (show gW _ _ from q) (Nat.le_of_ble_eq_true rfl)
    cases e2
    have := gR0 r
    omega
  · obtain ⟨z2, e2, r⟩ := gW_int (show gW _ _ from q) (Nat.le_of_ble_eq_true rfl)
    cases e2
    have := gR0 r
    omega
theorem q_M_ties_c {d : Nat} (hd : 3 ≤ d) : cOK gAll (xF d) 227 K_527 := ct_of ct_ok (show K_527 ∈ CT.getD 227 [] from (show CT.getD 227 [] = [K_527] from rfl) ▸ by simp) hd
theorem q_M_ties {d : Nat} (hd : 3 ≤ d) {M : pM} (hM : gM gAll M)  : ∃ z M', xF d 227 [.inr 62] M = rI z M' ∧ gM gAll M' ∧ Fr [(60, 17), (60, 30), (72, 999), (73, 999)] M M' ∧ (0 ≤ z ∧ z ≤ 255) := by
  obtain ⟨z, M', e, g, f, alt, ha, q, -⟩ := cOK_I (q_M_ties_c hd) (A := [.inr 62]) (show aF2 gW [aRef 62] [.inr 62] from ⟨gW_o, trivial⟩) hM (show gP0 [] M from fun e he => by cases he) rfl
  refine ⟨z, M', e, g, f, ?_⟩
  have ha : alt ∈ [(some (0, 0, 255, 0, 0, 0), [], [(60, 17, (0, 0, 0, 0, 0, 0))])] := ha
  simp only [List.mem_cons, List.not_mem_nil, or_false] at ha
  rcases ha with rfl
  · obtain ⟨z2, e2, r⟩ := gW_int (show gW _ _ from q) (Nat.le_of_ble_eq_true rfl)
    cases e2
    have := gR0 r
    omega
theorem q_M_fits_1_c {d : Nat} (hd : 4 ≤ d) : cOK gAll (xF d) 234 K_536 := ct_of ct_ok (show K_536 ∈ CT.getD 234 [] from (show CT.getD 234 [] = [K_542, K_536] from rfl) ▸ by simp) hd
theorem q_M_fits_1 {d : Nat} (hd : 4 ≤ d) {M : pM} (hM : gM gAll M) (p0 : 1 ≤ M 60 0 ∧ M 60 0 ≤ 6) : ∃ z M', xF d 234 [.inr 62] M = rI z M' ∧ gM gAll M' ∧ Fr [(60, 16), (60, 17), (60, 30), (60, 39), (60, 40), (69, 999), (72, 999), (73, 999), (78, 999), (79, 999), (80, 999)] M M' := by
  obtain ⟨z, M', e, g, f, alt, ha, q, -⟩ := cOK_I (q_M_fits_1_c hd) (A := [.inr 62]) (show aF2 gW [aRef 62] [.inr 62] from ⟨gW_o, trivial⟩) hM (show gP0 [(60, 0, (0, 1, 6, 0, 0, 0))] M from fun e he => by
    simp only [List.mem_cons, List.not_mem_nil, or_false] at he
    rcases he with rfl
    · exact gR_i p0.1 p0.2) rfl
  exact ⟨z, M', e, g, f⟩
theorem q_M_fits_0_c {d : Nat} (hd : 4 ≤ d) : cOK gAll (xF d) 234 K_542 := ct_of ct_ok (show K_542 ∈ CT.getD 234 [] from (show CT.getD 234 [] = [K_542, K_536] from rfl) ▸ by simp) hd
theorem q_M_fits_0 {d : Nat} (hd : 4 ≤ d) {M : pM} (hM : gM gAll M) (p0 : 0 ≤ M 60 0 ∧ M 60 0 ≤ 0) (p1 : 0 ≤ M 60 3 ∧ M 60 3 ≤ 0) : ∃ z M', xF d 234 [.inr 62] M = rI z M' ∧ gM gAll M' ∧ Fr [(60, 16), (60, 17), (60, 30), (60, 39), (60, 40), (72, 999), (73, 999), (80, 999)] M M' := by
  obtain ⟨z, M', e, g, f, alt, ha, q, -⟩ := cOK_I (q_M_fits_0_c hd) (A := [.inr 62]) (show aF2 gW [aRef 62] [.inr 62] from ⟨gW_o, trivial⟩) hM (show gP0 [(60, 0, (0, 0, 0, 0, 0, 0)), (60, 3, (0, 0, 0, 0, 0, 0))] M from fun e he => by
    simp only [List.mem_cons, List.not_mem_nil, or_false] at he
    rcases he with rfl | rfl
    · exact gR_i p0.1 p0.2
    · exact gR_i p1.1 p1.2) rfl
  exact ⟨z, M', e, g, f⟩
theorem q_M_worth_c {d : Nat} (hd : 343 ≤ d) : cOK gAll (xF d) 235 K_544 := ct_of ct_ok (show K_544 ∈ CT.getD 235 [] from (show CT.getD 235 [] = [K_544] from rfl) ▸ by simp) hd
theorem q_M_worth {d : Nat} (hd : 343 ≤ d) {M : pM} (hM : gM gAll M)  : ∃ z M', xF d 235 [.inr 62] M = rI z M' ∧ gM gAll M' ∧ Fr [(60, 17), (60, 18), (60, 19), (60, 20), (60, 21), (60, 22), (60, 26), (60, 27)] M M' := by
  obtain ⟨z, M', e, g, f, alt, ha, q, -⟩ := cOK_I (q_M_worth_c hd) (A := [.inr 62]) (show aF2 gW [aRef 62] [.inr 62] from ⟨gW_o, trivial⟩) hM (show gP0 [] M from fun e he => by cases he) rfl
  exact ⟨z, M', e, g, f⟩
theorem q_M_best_0_c {d : Nat} (hd : 4 ≤ d) : cOK gAll (xF d) 236 K_597 := ct_of ct_ok (show K_597 ∈ CT.getD 236 [] from (show CT.getD 236 [] = [K_597] from rfl) ▸ by simp) hd
theorem q_M_best_0 {d : Nat} (hd : 4 ≤ d) {M : pM} (hM : gM gAll M) (p0 : 0 ≤ M 60 0 ∧ M 60 0 ≤ 0) (p1 : 0 ≤ M 60 3 ∧ M 60 3 ≤ 0) (p2 : 0 ≤ M 60 38 ∧ M 60 38 ≤ 0) : ∃ z M', xF d 236 [.inr 62] M = rI z M' ∧ gM gAll M' ∧ Fr [(60, 16), (60, 17), (60, 30), (60, 39), (60, 40), (69, 999), (72, 999), (73, 999), (80, 999)] M M' ∧ (-2 ≤ z ∧ z ≤ 1) := by
  obtain ⟨z, M', e, g, f, alt, ha, q, -⟩ := cOK_I (q_M_best_0_c hd) (A := [.inr 62]) (show aF2 gW [aRef 62] [.inr 62] from ⟨gW_o, trivial⟩) hM (show gP0 [(60, 0, (0, 0, 0, 0, 0, 0)), (60, 3, (0, 0, 0, 0, 0, 0)), (60, 38, (0, 0, 0, 0, 0, 0))] M from fun e he => by
    simp only [List.mem_cons, List.not_mem_nil, or_false] at he
    rcases he with rfl | rfl | rfl
    · exact gR_i p0.1 p0.2
    · exact gR_i p1.1 p1.2
    · exact gR_i p2.1 p2.2) rfl
  refine ⟨z, M', e, g, f, ?_⟩
  have ha : alt ∈ [(some (0, -2, -2, 0, 0, 0), [], [(60, 0, (0, 0, 0, 0, 0, 0)), (60, 3, (0, 0, 0, 0, 0, 0)), (60, 17, (0, 0, 0, 0, 0, 0)), (60, 30, (0, 0, 0, 0, 0, 0)), (60, 38, (0, 0, 0, 0, 0, 0)), (60, 39, (0, 1, 1, 0, 0, 0)), (60, 40, (0, 0, 1000000, 0, 0, 0))]), (some (0, 1, 1, 0, 0, 0), [], [(60, 0, (0, 0, 0, 0, 0, 0)), (60, 3, (0, 0, 0, 0, 0, 0)), (60, 16, (0, 1, 1, 0, 0, 0)), (60, 17, (0, 0, 0, 0, 0, 0)), (60, 30, (0, 0, 0, 0, 0, 0)), (60, 38, (0, 0, 0, 0, 0, 0)), (60, 39, (0, 1, 1, 0, 0, 0)), (60, 40, (0, 0, 1000000, 0, 0, 0)), (69, 0, (0, -2147483648, 2147483647, 0, 0, 0))])] := ha
  simp only [List.mem_cons, List.not_mem_nil, or_false] at ha
  rcases ha with rfl | rfl
  · obtain ⟨z2, e2, r⟩ := gW_int (show gW _ _ from q) (Nat.le_of_ble_eq_true rfl)
    cases e2
    have := gR0 r
    omega
  · obtain ⟨z2, e2, r⟩ := gW_int (show gW _ _ from q) (Nat.le_of_ble_eq_true rfl)
    cases e2
    have := gR0 r
    omega
theorem q_M_near_1_c {d : Nat} (hd : 5 ≤ d) : cOK gAll (xF d) 238 K_549 := ct_of ct_ok (show K_549 ∈ CT.getD 238 [] from (show CT.getD 238 [] = [K_919, K_921, K_923, K_925, K_927, K_929, K_931, K_933, K_935, K_937, K_939, K_941, K_551, K_1018, K_895, K_897, K_899, K_901, K_903, K_905, K_907, K_909, K_911, K_913, K_915, K_917, K_1024, K_1030, K_1036, K_1042, K_1048, K_1054, K_1060, K_1066, K_1072, K_1078, K_549] from rfl) ▸ by simp) hd
theorem q_M_near_1 {d : Nat} (hd : 5 ≤ d) {M : pM} (hM : gM gAll M) (p0 : 1 ≤ M 60 0 ∧ M 60 0 ≤ 6) : ∃ z M', xF d 238 [.inr 62] M = rI z M' ∧ gM gAll M' ∧ Fr [(60, 16), (60, 17), (60, 30), (60, 39), (60, 40), (69, 999), (72, 999), (73, 999), (74, 999), (78, 999), (79, 999), (80, 999)] M M' ∧ (-3 ≤ z ∧ z ≤ 999999) := by
  obtain ⟨z, M', e, g, f, alt, ha, q, -⟩ := cOK_I (q_M_near_1_c hd) (A := [.inr 62]) (show aF2 gW [aRef 62] [.inr 62] from ⟨gW_o, trivial⟩) hM (show gP0 [(60, 0, (0, 1, 6, 0, 0, 0))] M from fun e he => by
    simp only [List.mem_cons, List.not_mem_nil, or_false] at he
    rcases he with rfl
    · exact gR_i p0.1 p0.2) rfl
  refine ⟨z, M', e, g, f, ?_⟩
  have ha : alt ∈ [(some (0, -2, -2, 0, 0, 0), [], [(60, 0, (0, 1, 6, 0, 0, 0)), (60, 17, (0, 0, 0, 0, 0, 0)), (60, 39, (0, 1, 20000, 0, 0, 0)), (60, 40, (0, 0, 1000000, 0, 0, 0))]), (some (0, -3, -3, 0, 0, 0), [], [(60, 0, (0, 1, 6, 0, 0, 0)), (60, 17, (0, 0, 0, 0, 0, 0)), (60, 39, (0, 20001, 1000000, 0, 0, 0))]), (some (0, 0, 999999, 0, 0, 0), [], [(60, 0, (0, 1, 6, 0, 0, 0)), (60, 16, (0, 0, 10, 0, 0, 0)), (60, 17, (0, 0, 0, 0, 0, 0)), (60, 39, (0, 1, 20000, 0, 0, 0)), (60, 40, (0, 0, 1000000, 0, 0, 0))])] := ha
  simp only [List.mem_cons, List.not_mem_nil, or_false] at ha
  rcases ha with rfl | rfl | rfl
  · obtain ⟨z2, e2, r⟩ := gW_int (show gW _ _ from q) (Nat.le_of_ble_eq_true rfl)
    cases e2
    have := gR0 r
    omega
  · obtain ⟨z2, e2, r⟩ := gW_int (show gW _ _ from q) (Nat.le_of_ble_eq_true rfl)
    cases e2
    have := gR0 r
    omega
  · obtain ⟨z2, e2, r⟩ := gW_int (show gW _ _ from q) (Nat.le_of_ble_eq_true rfl)
    cases e2
    have := gR0 r
    omega
theorem q_M_near_0_c {d : Nat} (hd : 5 ≤ d) : cOK gAll (xF d) 238 K_551 := ct_of ct_ok (show K_551 ∈ CT.getD 238 [] from (show CT.getD 238 [] = [K_919, K_921, K_923, K_925, K_927, K_929, K_931, K_933, K_935, K_937, K_939, K_941, K_551, K_1018, K_895, K_897, K_899, K_901, K_903, K_905, K_907, K_909, K_911, K_913, K_915, K_917, K_1024, K_1030, K_1036, K_1042, K_1048, K_1054, K_1060, K_1066, K_1072, K_1078, K_549] from rfl) ▸ by simp) hd
theorem q_M_near_0 {d : Nat} (hd : 5 ≤ d) {M : pM} (hM : gM gAll M) (p0 : 0 ≤ M 60 0 ∧ M 60 0 ≤ 0) (p1 : 0 ≤ M 60 3 ∧ M 60 3 ≤ 0) : ∃ z M', xF d 238 [.inr 62] M = rI z M' ∧ gM gAll M' ∧ Fr [(60, 16), (60, 17), (60, 30), (60, 39), (60, 40), (72, 999), (73, 999), (74, 999), (80, 999)] M M' ∧ (-2 ≤ z ∧ z ≤ 999999) := by
  obtain ⟨z, M', e, g, f, alt, ha, q, -⟩ := cOK_I (q_M_near_0_c hd) (A := [.inr 62]) (show aF2 gW [aRef 62] [.inr 62] from ⟨gW_o, trivial⟩) hM (show gP0 [(60, 0, (0, 0, 0, 0, 0, 0)), (60, 3, (0, 0, 0, 0, 0, 0))] M from fun e he => by
    simp only [List.mem_cons, List.not_mem_nil, or_false] at he
    rcases he with rfl | rfl
    · exact gR_i p0.1 p0.2
    · exact gR_i p1.1 p1.2) rfl
  refine ⟨z, M', e, g, f, ?_⟩
  have ha : alt ∈ [(some (0, -2, -2, 0, 0, 0), [], [(60, 0, (0, 0, 0, 0, 0, 0)), (60, 3, (0, 0, 0, 0, 0, 0)), (60, 17, (0, 0, 0, 0, 0, 0)), (60, 30, (0, 0, 0, 0, 0, 0)), (60, 39, (0, 1, 1, 0, 0, 0)), (60, 40, (0, 0, 1000000, 0, 0, 0))]), (some (0, 0, 999999, 0, 0, 0), [], [(60, 0, (0, 0, 0, 0, 0, 0)), (60, 3, (0, 0, 0, 0, 0, 0)), (60, 16, (0, 0, 0, 0, 0, 0)), (60, 17, (0, 0, 0, 0, 0, 0)), (60, 30, (0, 0, 0, 0, 0, 0)), (60, 39, (0, 1, 1, 0, 0, 0)), (60, 40, (0, 0, 1000000, 0, 0, 0))])] := ha
  simp only [List.mem_cons, List.not_mem_nil, or_false] at ha
  rcases ha with rfl | rfl
  · obtain ⟨z2, e2, r⟩ := gW_int (show gW _ _ from q) (Nat.le_of_ble_eq_true rfl)
    cases e2
    have := gR0 r
    omega
  · obtain ⟨z2, e2, r⟩ := gW_int (show gW _ _ from q) (Nat.le_of_ble_eq_true rfl)
    cases e2
    have := gR0 r
    omega
theorem q_M_guest_1_c {d : Nat} (hd : 5 ≤ d) : cOK gAll (xF d) 239 K_554 := ct_of ct_ok (show K_554 ∈ CT.getD 239 [] from (show CT.getD 239 [] = [K_967, K_969, K_971, K_973, K_975, K_977, K_979, K_981, K_983, K_985, K_987, K_989, K_556, K_1080, K_943, K_945, K_947, K_949, K_951, K_953, K_955, K_957, K_959, K_961, K_963, K_965, K_1082, K_1084, K_1086, K_1088, K_1090, K_1092, K_1094, K_1096, K_1098, K_1100, K_554] from rfl) ▸ by simp) hd
theorem q_M_guest_1 {d : Nat} (hd : 5 ≤ d) {M : pM} {a1 : Int} {a2 : Int} (hM : gM gAll M) (h1 : -2147483648 ≤ a1 ∧ a1 ≤ 2147483647) (h2 : -2147483648 ≤ a2 ∧ a2 ≤ 2147483647) (p0 : 1 ≤ M 60 0 ∧ M 60 0 ≤ 6) : ∃ z M', xF d 239 [.inr 62, .inl a1, .inl a2] M = rI z M' ∧ gM gAll M' ∧ Fr [(60, 16), (60, 17), (60, 30), (60, 39), (60, 40), (69, 999), (72, 999), (73, 999), (74, 999), (78, 999), (79, 999), (80, 999)] M M' ∧ (-3 ≤ z ∧ z ≤ 999999) := by
  obtain ⟨z, M', e, g, f, alt, ha, q, -⟩ := cOK_I (q_M_guest_1_c hd) (A := [.inr 62, .inl a1, .inl a2]) (show aF2 gW [aRef 62, (0, -2147483648, 2147483647, 0, 0, 0), (0, -2147483648, 2147483647, 0, 0, 0)] [.inr 62, .inl a1, .inl a2] from ⟨gW_o, gW_i h1.1 h1.2, gW_i h2.1 h2.2, trivial⟩) hM (show gP0 [(60, 0, (0, 1, 6, 0, 0, 0))] M from fun e he => by
    simp only [List.mem_cons, List.not_mem_nil, or_false] at he
    rcases he with rfl
    · exact gR_i p0.1 p0.2) rfl
  refine ⟨z, M', e, g, f, ?_⟩
  have ha : alt ∈ [(some (0, -1, -1, 0, 0, 0), [], [(60, 0, (0, 1, 6, 0, 0, 0)), (60, 17, (0, 0, 0, 0, 0, 0))]), (some (0, -2, -2, 0, 0, 0), [(4, 0, 0, 0, 0, 0), (0, 0, 5, 0, 0, 0), (0, 0, 99, 0, 0, 0)], [(60, 0, (0, 1, 6, 0, 0, 0)), (60, 17, (0, 0, 0, 0, 0, 0)), (60, 39, (0, 1, 20000, 0, 0, 0)), (60, 40, (0, 0, 1000000, 0, 0, 0))]), (some (0, -3, -3, 0, 0, 0), [(4, 0, 0, 0, 0, 0), (0, 0, 5, 0, 0, 0), (0, 0, 99, 0, 0, 0)], [(60, 0, (0, 1, 6, 0, 0, 0)), (60, 17, (0, 0, 0, 0, 0, 0)), (60, 39, (0, 20001, 1000000, 0, 0, 0))]), (some (0, 0, 999999, 0, 0, 0), [(4, 0, 0, 0, 0, 0), (0, 0, 5, 0, 0, 0), (0, 0, 99, 0, 0, 0)], [(60, 0, (0, 1, 6, 0, 0, 0)), (60, 16, (0, 0, 10, 0, 0, 0)), (60, 17, (0, 0, 0, 0, 0, 0)), (60, 39, (0, 1, 20000, 0, 0, 0)), (60, 40, (0, 0, 1000000, 0, 0, 0))])] := ha
  simp only [List.mem_cons, List.not_mem_nil, or_false] at ha
  rcases ha with rfl | rfl | rfl | rfl
  · obtain ⟨z2, e2, r⟩ := gW_int (show gW _ _ from q) (Nat.le_of_ble_eq_true rfl)
    cases e2
    have := gR0 r
    omega
  · obtain ⟨z2, e2, r⟩ := gW_int (show gW _ _ from q) (Nat.le_of_ble_eq_true rfl)
    cases e2
    have := gR0 r
    omega
  · obtain ⟨z2, e2, r⟩ := gW_int (show gW _ _ from q) (Nat.le_of_ble_eq_true rfl)
    cases e2
    have := gR0 r
    omega
  · obtain ⟨z2, e2, r⟩ := gW_int (show gW _ _ from q) (Nat.le_of_ble_eq_true rfl)
    cases e2
    have := gR0 r
    omega
theorem q_M_guest_0_c {d : Nat} (hd : 5 ≤ d) : cOK gAll (xF d) 239 K_556 := ct_of ct_ok (show K_556 ∈ CT.getD 239 [] from (show CT.getD 239 [] = [K_967, K_969, K_971, K_973, K_975, K_977, K_979, K_981, K_983, K_985, K_987, K_989, K_556, K_1080, K_943, K_945, K_947, K_949, K_951, K_953, K_955, K_957, K_959, K_961, K_963, K_965, K_1082, K_1084, K_1086, K_1088, K_1090, K_1092, K_1094, K_1096, K_1098, K_1100, K_554] from rfl) ▸ by simp) hd
theorem q_M_guest_0 {d : Nat} (hd : 5 ≤ d) {M : pM} {a1 : Int} {a2 : Int} (hM : gM gAll M) (h1 : -2147483648 ≤ a1 ∧ a1 ≤ 2147483647) (h2 : -2147483648 ≤ a2 ∧ a2 ≤ 2147483647) (p0 : 0 ≤ M 60 0 ∧ M 60 0 ≤ 0) (p1 : 0 ≤ M 60 3 ∧ M 60 3 ≤ 0) : ∃ z M', xF d 239 [.inr 62, .inl a1, .inl a2] M = rI z M' ∧ gM gAll M' ∧ Fr [(60, 16), (60, 17), (60, 30), (60, 39), (60, 40), (72, 999), (73, 999), (74, 999), (80, 999)] M M' ∧ (-2 ≤ z ∧ z ≤ 999999) := by
  obtain ⟨z, M', e, g, f, alt, ha, q, -⟩ := cOK_I (q_M_guest_0_c hd) (A := [.inr 62, .inl a1, .inl a2]) (show aF2 gW [aRef 62, (0, -2147483648, 2147483647, 0, 0, 0), (0, -2147483648, 2147483647, 0, 0, 0)] [.inr 62, .inl a1, .inl a2] from ⟨gW_o, gW_i h1.1 h1.2, gW_i h2.1 h2.2, trivial⟩) hM (show gP0 [(60, 0, (0, 0, 0, 0, 0, 0)), (60, 3, (0, 0, 0, 0, 0, 0))] M from fun e he => by
    simp only [List.mem_cons, List.not_mem_nil, or_false] at he
    rcases he with rfl | rfl
    · exact gR_i p0.1 p0.2
    · exact gR_i p1.1 p1.2) rfl
  refine ⟨z, M', e, g, f, ?_⟩
  have ha : alt ∈ [(some (0, -1, -1, 0, 0, 0), [], [(60, 0, (0, 0, 0, 0, 0, 0)), (60, 3, (0, 0, 0, 0, 0, 0)), (60, 17, (0, 0, 0, 0, 0, 0))]), (some (0, -2, -2, 0, 0, 0), [(4, 0, 0, 0, 0, 0), (0, 0, 5, 0, 0, 0), (0, 0, 99, 0, 0, 0)], [(60, 0, (0, 0, 0, 0, 0, 0)), (60, 3, (0, 0, 0, 0, 0, 0)), (60, 17, (0, 0, 0, 0, 0, 0)), (60, 30, (0, 0, 0, 0, 0, 0)), (60, 39, (0, 1, 1, 0, 0, 0)), (60, 40, (0, 0, 1000000, 0, 0, 0))]), (some (0, 0, 999999, 0, 0, 0), [(4, 0, 0, 0, 0, 0), (0, 0, 5, 0, 0, 0), (0, 0, 99, 0, 0, 0)], [(60, 0, (0, 0, 0, 0, 0, 0)), (60, 3, (0, 0, 0, 0, 0, 0)), (60, 16, (0, 0, 0, 0, 0, 0)), (60, 17, (0, 0, 0, 0, 0, 0)), (60, 30, (0, 0, 0, 0, 0, 0)), (60, 39, (0, 1, 1, 0, 0, 0)), (60, 40, (0, 0, 1000000, 0, 0, 0))])] := ha
  simp only [List.mem_cons, List.not_mem_nil, or_false] at ha
  rcases ha with rfl | rfl | rfl
  · obtain ⟨z2, e2, r⟩ := gW_int (show gW _ _ from q) (Nat.le_of_ble_eq_true rfl)
    cases e2
    have := gR0 r
    omega
  · obtain ⟨z2, e2, r⟩ := gW_int (show gW _ _ from q) (Nat.le_of_ble_eq_true rfl)
    cases e2
    have := gR0 r
    omega
  · obtain ⟨z2, e2, r⟩ := gW_int (show gW _ _ from q) (Nat.le_of_ble_eq_true rfl)
    cases e2
    have := gR0 r
    omega
theorem q_M_space_c {d : Nat} (hd : 4 ≤ d) : cOK gAll (xF d) 240 K_559 := ct_of ct_ok (show K_559 ∈ CT.getD 240 [] from (show CT.getD 240 [] = [K_1112, K_1114, K_1116, K_1118, K_1120, K_1122, K_1124, K_1126, K_1128, K_1130, K_1132, K_559] from rfl) ▸ by simp) hd
theorem q_M_space {d : Nat} (hd : 4 ≤ d) {M : pM} (hM : gM gAll M)  : ∃ z M', xF d 240 [.inr 62] M = rI z M' ∧ gM gAll M' ∧ Fr [(60, 16), (60, 17), (60, 30), (60, 39), (60, 40), (69, 999), (72, 999), (73, 999), (78, 999), (79, 999), (80, 999)] M M' := by
  obtain ⟨z, M', e, g, f, alt, ha, q, -⟩ := cOK_I (q_M_space_c hd) (A := [.inr 62]) (show aF2 gW [aRef 62] [.inr 62] from ⟨gW_o, trivial⟩) hM (show gP0 [] M from fun e he => by cases he) rfl
  exact ⟨z, M', e, g, f⟩
theorem q_M_could_1_c {d : Nat} (hd : 4 ≤ d) : cOK gAll (xF d) 241 K_562 := ct_of ct_ok (show K_562 ∈ CT.getD 241 [] from (show CT.getD 241 [] = [K_563, K_562] from rfl) ▸ by simp) hd
theorem q_M_could_1 {d : Nat} (hd : 4 ≤ d) {M : pM} {a1 : Int} {a2 : Int} (hM : gM gAll M) (h1 : -2147483648 ≤ a1 ∧ a1 ≤ 2147483647) (h2 : -2147483648 ≤ a2 ∧ a2 ≤ 2147483647) (p0 : 1 ≤ M 60 0 ∧ M 60 0 ≤ 6) : ∃ z M', xF d 241 [.inr 62, .inl a1, .inl a2] M = rI z M' ∧ gM gAll M' ∧ Fr [(60, 17), (60, 30), (60, 39), (60, 40), (72, 999), (73, 999), (78, 999), (79, 999)] M M' ∧ (-3 ≤ z ∧ z ≤ 63) := by
  obtain ⟨z, M', e, g, f, alt, ha, q, -⟩ := cOK_I (q_M_could_1_c hd) (A := [.inr 62, .inl a1, .inl a2]) (show aF2 gW [aRef 62, (0, -2147483648, 2147483647, 0, 0, 0), (0, -2147483648, 2147483647, 0, 0, 0)] [.inr 62, .inl a1, .inl a2] from ⟨gW_o, gW_i h1.1 h1.2, gW_i h2.1 h2.2, trivial⟩) hM (show gP0 [(60, 0, (0, 1, 6, 0, 0, 0))] M from fun e he => by
    simp only [List.mem_cons, List.not_mem_nil, or_false] at he
    rcases he with rfl
    · exact gR_i p0.1 p0.2) rfl
  refine ⟨z, M', e, g, f, ?_⟩
  have ha : alt ∈ [(some (0, -1, -1, 0, 0, 0), [], [(60, 0, (0, 1, 6, 0, 0, 0)), (60, 17, (0, 0, 0, 0, 0, 0))]), (some (0, -3, -3, 0, 0, 0), [(4, 0, 0, 0, 0, 0), (0, 1, 99, 0, 0, 0), (0, 0, 255, 0, 0, 0)], [(60, 0, (0, 1, 6, 0, 0, 0)), (60, 17, (0, 0, 0, 0, 0, 0)), (60, 39, (0, 20001, 1000000, 0, 0, 0))]), (some (0, 0, 63, 0, 0, 0), [(4, 0, 0, 0, 0, 0), (0, 1, 99, 0, 0, 0), (0, 0, 255, 0, 0, 0)], [(60, 0, (0, 1, 6, 0, 0, 0)), (60, 17, (0, 0, 0, 0, 0, 0)), (60, 39, (0, 1, 20000, 0, 0, 0)), (60, 40, (0, 0, 1000000, 0, 0, 0))])] := ha
  simp only [List.mem_cons, List.not_mem_nil, or_false] at ha
  rcases ha with rfl | rfl | rfl
  · obtain ⟨z2, e2, r⟩ := gW_int (show gW _ _ from q) (Nat.le_of_ble_eq_true rfl)
    cases e2
    have := gR0 r
    omega
  · obtain ⟨z2, e2, r⟩ := gW_int (show gW _ _ from q) (Nat.le_of_ble_eq_true rfl)
    cases e2
    have := gR0 r
    omega
  · obtain ⟨z2, e2, r⟩ := gW_int (show gW _ _ from q) (Nat.le_of_ble_eq_true rfl)
    cases e2
    have := gR0 r
    omega
theorem q_M_could_0_c {d : Nat} (hd : 4 ≤ d) : cOK gAll (xF d) 241 K_563 := ct_of ct_ok (show K_563 ∈ CT.getD 241 [] from (show CT.getD 241 [] = [K_563, K_562] from rfl) ▸ by simp) hd
theorem q_M_could_0 {d : Nat} (hd : 4 ≤ d) {M : pM} {a1 : Int} {a2 : Int} (hM : gM gAll M) (h1 : -2147483648 ≤ a1 ∧ a1 ≤ 2147483647) (h2 : -2147483648 ≤ a2 ∧ a2 ≤ 2147483647) (p0 : 0 ≤ M 60 0 ∧ M 60 0 ≤ 0) (p1 : 0 ≤ M 60 3 ∧ M 60 3 ≤ 0) : ∃ z M', xF d 241 [.inr 62, .inl a1, .inl a2] M = rI z M' ∧ gM gAll M' ∧ Fr [(60, 17), (60, 30), (60, 39), (60, 40), (72, 999), (73, 999)] M M' ∧ (-1 ≤ z ∧ z ≤ 0) := by
  obtain ⟨z, M', e, g, f, alt, ha, q, -⟩ := cOK_I (q_M_could_0_c hd) (A := [.inr 62, .inl a1, .inl a2]) (show aF2 gW [aRef 62, (0, -2147483648, 2147483647, 0, 0, 0), (0, -2147483648, 2147483647, 0, 0, 0)] [.inr 62, .inl a1, .inl a2] from ⟨gW_o, gW_i h1.1 h1.2, gW_i h2.1 h2.2, trivial⟩) hM (show gP0 [(60, 0, (0, 0, 0, 0, 0, 0)), (60, 3, (0, 0, 0, 0, 0, 0))] M from fun e he => by
    simp only [List.mem_cons, List.not_mem_nil, or_false] at he
    rcases he with rfl | rfl
    · exact gR_i p0.1 p0.2
    · exact gR_i p1.1 p1.2) rfl
  refine ⟨z, M', e, g, f, ?_⟩
  have ha : alt ∈ [(some (0, -1, -1, 0, 0, 0), [], [(60, 0, (0, 0, 0, 0, 0, 0)), (60, 3, (0, 0, 0, 0, 0, 0)), (60, 17, (0, 0, 0, 0, 0, 0))]), (some (0, 0, 0, 0, 0, 0), [(4, 0, 0, 0, 0, 0), (0, 1, 99, 0, 0, 0), (0, 0, 255, 0, 0, 0)], [(60, 0, (0, 0, 0, 0, 0, 0)), (60, 3, (0, 0, 0, 0, 0, 0)), (60, 17, (0, 0, 0, 0, 0, 0)), (60, 30, (0, 0, 0, 0, 0, 0)), (60, 39, (0, 1, 1, 0, 0, 0)), (60, 40, (0, 0, 1000000, 0, 0, 0))])] := ha
  simp only [List.mem_cons, List.not_mem_nil, or_false] at ha
  rcases ha with rfl | rfl
  · obtain ⟨z2, e2, r⟩ := gW_int (show gW _ _ from q) (Nat.le_of_ble_eq_true rfl)
    cases e2
    have := gR0 r
    omega
  · obtain ⟨z2, e2, r⟩ := gW_int (show gW _ _ from q) (Nat.le_of_ble_eq_true rfl)
    cases e2
    have := gR0 r
    omega
theorem q_M_may_0_c {d : Nat} (hd : 3 ≤ d) : cOK gAll (xF d) 242 K_599 := ct_of ct_ok (show K_599 ∈ CT.getD 242 [] from (show CT.getD 242 [] = [K_599] from rfl) ▸ by simp) hd
theorem q_M_may_0 {d : Nat} (hd : 3 ≤ d) {M : pM} {a1 : Int} (hM : gM gAll M) (h1 : -2147483648 ≤ a1 ∧ a1 ≤ 2147483647) (p0 : 0 ≤ M 60 0 ∧ M 60 0 ≤ 0) (p1 : 0 ≤ M 60 3 ∧ M 60 3 ≤ 0) : ∃ z M', xF d 242 [.inr 62, .inl a1] M = rI z M' ∧ gM gAll M' ∧ Fr [(60, 17), (60, 30), (72, 999), (73, 999)] M M' ∧ (-1 ≤ z ∧ z ≤ -1) := by
  obtain ⟨z, M', e, g, f, alt, ha, q, -⟩ := cOK_I (q_M_may_0_c hd) (A := [.inr 62, .inl a1]) (show aF2 gW [aRef 62, (0, -2147483648, 2147483647, 0, 0, 0)] [.inr 62, .inl a1] from ⟨gW_o, gW_i h1.1 h1.2, trivial⟩) hM (show gP0 [(60, 0, (0, 0, 0, 0, 0, 0)), (60, 3, (0, 0, 0, 0, 0, 0))] M from fun e he => by
    simp only [List.mem_cons, List.not_mem_nil, or_false] at he
    rcases he with rfl | rfl
    · exact gR_i p0.1 p0.2
    · exact gR_i p1.1 p1.2) rfl
  refine ⟨z, M', e, g, f, ?_⟩
  have ha : alt ∈ [(some (0, -1, -1, 0, 0, 0), [], [(60, 0, (0, 0, 0, 0, 0, 0)), (60, 3, (0, 0, 0, 0, 0, 0)), (60, 17, (0, 0, 0, 0, 0, 0)), (60, 30, (0, 0, 0, 0, 0, 0))])] := ha
  simp only [List.mem_cons, List.not_mem_nil, or_false] at ha
  rcases ha with rfl
  · obtain ⟨z2, e2, r⟩ := gW_int (show gW _ _ from q) (Nat.le_of_ble_eq_true rfl)
    cases e2
    have := gR0 r
    omega
theorem q_M_together_1_c {d : Nat} (hd : 4 ≤ d) : cOK gAll (xF d) 243 K_564 := ct_of ct_ok (show K_564 ∈ CT.getD 243 [] from (show CT.getD 243 [] = [K_565, K_564] from rfl) ▸ by simp) hd
theorem q_M_together_1 {d : Nat} (hd : 4 ≤ d) {M : pM} {a1 : Int} {a2 : Int} (hM : gM gAll M) (h1 : -2147483648 ≤ a1 ∧ a1 ≤ 2147483647) (h2 : -2147483648 ≤ a2 ∧ a2 ≤ 2147483647) (p0 : 1 ≤ M 60 0 ∧ M 60 0 ≤ 6) : ∃ z M', xF d 243 [.inr 62, .inl a1, .inl a2] M = rI z M' ∧ gM gAll M' ∧ Fr [(60, 16), (60, 17), (60, 30), (60, 39), (60, 40), (69, 999), (72, 999), (73, 999), (78, 999), (79, 999)] M M' := by
  obtain ⟨z, M', e, g, f, alt, ha, q, -⟩ := cOK_I (q_M_together_1_c hd) (A := [.inr 62, .inl a1, .inl a2]) (show aF2 gW [aRef 62, (0, -2147483648, 2147483647, 0, 0, 0), (0, -2147483648, 2147483647, 0, 0, 0)] [.inr 62, .inl a1, .inl a2] from ⟨gW_o, gW_i h1.1 h1.2, gW_i h2.1 h2.2, trivial⟩) hM (show gP0 [(60, 0, (0, 1, 6, 0, 0, 0))] M from fun e he => by
    simp only [List.mem_cons, List.not_mem_nil, or_false] at he
    rcases he with rfl
    · exact gR_i p0.1 p0.2) rfl
  exact ⟨z, M', e, g, f⟩
theorem q_M_together_0_c {d : Nat} (hd : 4 ≤ d) : cOK gAll (xF d) 243 K_565 := ct_of ct_ok (show K_565 ∈ CT.getD 243 [] from (show CT.getD 243 [] = [K_565, K_564] from rfl) ▸ by simp) hd
theorem q_M_together_0 {d : Nat} (hd : 4 ≤ d) {M : pM} {a1 : Int} {a2 : Int} (hM : gM gAll M) (h1 : -2147483648 ≤ a1 ∧ a1 ≤ 2147483647) (h2 : -2147483648 ≤ a2 ∧ a2 ≤ 2147483647) (p0 : 0 ≤ M 60 0 ∧ M 60 0 ≤ 0) (p1 : 0 ≤ M 60 3 ∧ M 60 3 ≤ 0) : ∃ z M', xF d 243 [.inr 62, .inl a1, .inl a2] M = rI z M' ∧ gM gAll M' ∧ Fr [(60, 16), (60, 17), (60, 30), (60, 39), (60, 40), (69, 999), (72, 999), (73, 999)] M M' := by
  obtain ⟨z, M', e, g, f, alt, ha, q, -⟩ := cOK_I (q_M_together_0_c hd) (A := [.inr 62, .inl a1, .inl a2]) (show aF2 gW [aRef 62, (0, -2147483648, 2147483647, 0, 0, 0), (0, -2147483648, 2147483647, 0, 0, 0)] [.inr 62, .inl a1, .inl a2] from ⟨gW_o, gW_i h1.1 h1.2, gW_i h2.1 h2.2, trivial⟩) hM (show gP0 [(60, 0, (0, 0, 0, 0, 0, 0)), (60, 3, (0, 0, 0, 0, 0, 0))] M from fun e he => by
    simp only [List.mem_cons, List.not_mem_nil, or_false] at he
    rcases he with rfl | rfl
    · exact gR_i p0.1 p0.2
    · exact gR_i p1.1 p1.2) rfl
  exact ⟨z, M', e, g, f⟩
theorem q_M_fullest_1_c {d : Nat} (hd : 4 ≤ d) : cOK gAll (xF d) 244 K_566 := ct_of ct_ok (show K_566 ∈ CT.getD 244 [] from (show CT.getD 244 [] = [K_567, K_1101, K_1102, K_1103, K_1104, K_1105, K_1106, K_1107, K_1108, K_1109, K_1110, K_1111, K_566] from rfl) ▸ by simp) hd
theorem q_M_fullest_1 {d : Nat} (hd : 4 ≤ d) {M : pM} {a1 : Int} (hM : gM gAll M) (h1 : -2147483648 ≤ a1 ∧ a1 ≤ 2147483647) (p0 : 1 ≤ M 60 0 ∧ M 60 0 ≤ 6) : ∃ z M', xF d 244 [.inr 62, .inl a1] M = rI z M' ∧ gM gAll M' ∧ Fr [(60, 16), (60, 17), (60, 30), (60, 39), (60, 40), (69, 999), (72, 999), (73, 999), (78, 999), (79, 999), (80, 999)] M M' := by
  obtain ⟨z, M', e, g, f, alt, ha, q, -⟩ := cOK_I (q_M_fullest_1_c hd) (A := [.inr 62, .inl a1]) (show aF2 gW [aRef 62, (0, -2147483648, 2147483647, 0, 0, 0)] [.inr 62, .inl a1] from ⟨gW_o, gW_i h1.1 h1.2, trivial⟩) hM (show gP0 [(60, 0, (0, 1, 6, 0, 0, 0))] M from fun e he => by
    simp only [List.mem_cons, List.not_mem_nil, or_false] at he
    rcases he with rfl
    · exact gR_i p0.1 p0.2) rfl
  exact ⟨z, M', e, g, f⟩
theorem q_M_fullest_0_c {d : Nat} (hd : 4 ≤ d) : cOK gAll (xF d) 244 K_567 := ct_of ct_ok (show K_567 ∈ CT.getD 244 [] from (show CT.getD 244 [] = [K_567, K_1101, K_1102, K_1103, K_1104, K_1105, K_1106, K_1107, K_1108, K_1109, K_1110, K_1111, K_566] from rfl) ▸ by simp) hd
theorem q_M_fullest_0 {d : Nat} (hd : 4 ≤ d) {M : pM} {a1 : Int} (hM : gM gAll M) (h1 : -2147483648 ≤ a1 ∧ a1 ≤ 2147483647) (p0 : 0 ≤ M 60 0 ∧ M 60 0 ≤ 0) (p1 : 0 ≤ M 60 3 ∧ M 60 3 ≤ 0) : ∃ z M', xF d 244 [.inr 62, .inl a1] M = rI z M' ∧ gM gAll M' ∧ Fr [(60, 16), (60, 17), (60, 30), (60, 39), (60, 40), (72, 999), (73, 999), (80, 999)] M M' := by
  obtain ⟨z, M', e, g, f, alt, ha, q, -⟩ := cOK_I (q_M_fullest_0_c hd) (A := [.inr 62, .inl a1]) (show aF2 gW [aRef 62, (0, -2147483648, 2147483647, 0, 0, 0)] [.inr 62, .inl a1] from ⟨gW_o, gW_i h1.1 h1.2, trivial⟩) hM (show gP0 [(60, 0, (0, 0, 0, 0, 0, 0)), (60, 3, (0, 0, 0, 0, 0, 0))] M from fun e he => by
    simp only [List.mem_cons, List.not_mem_nil, or_false] at he
    rcases he with rfl | rfl
    · exact gR_i p0.1 p0.2
    · exact gR_i p1.1 p1.2) rfl
  exact ⟨z, M', e, g, f⟩
theorem q_M_swap_c {d : Nat} (hd : 4 ≤ d) : cOK gAll (xF d) 245 K_571 := ct_of ct_ok (show K_571 ∈ CT.getD 245 [] from (show CT.getD 245 [] = [K_852, K_853, K_854, K_855, K_856, K_857, K_858, K_859, K_860, K_861, K_862, K_863, K_571] from rfl) ▸ by simp) hd
theorem q_M_swap {d : Nat} (hd : 4 ≤ d) {M : pM} {a1 : Int} {a2 : Int} (hM : gM gAll M) (h1 : -2147483648 ≤ a1 ∧ a1 ≤ 2147483647) (h2 : -2147483648 ≤ a2 ∧ a2 ≤ 2147483647) : ∃ z M', xF d 245 [.inr 62, .inl a1, .inl a2] M = rI z M' ∧ gM gAll M' ∧ Fr [(60, 16), (60, 17), (69, 999), (74, 999), (78, 999)] M M' ∧ (-1 ≤ z ∧ z ≤ 1) := by
  obtain ⟨z, M', e, g, f, alt, ha, q, -⟩ := cOK_I (q_M_swap_c hd) (A := [.inr 62, .inl a1, .inl a2]) (show aF2 gW [aRef 62, (0, -2147483648, 2147483647, 0, 0, 0), (0, -2147483648, 2147483647, 0, 0, 0)] [.inr 62, .inl a1, .inl a2] from ⟨gW_o, gW_i h1.1 h1.2, gW_i h2.1 h2.2, trivial⟩) hM (show gP0 [] M from fun e he => by cases he) rfl
  refine ⟨z, M', e, g, f, ?_⟩
  have ha : alt ∈ [(some (0, -1, -1, 0, 0, 0), [], [(60, 17, (0, 0, 0, 0, 0, 0))]), (some (0, 0, 0, 0, 0, 0), [(4, 0, 0, 0, 0, 0), (0, 0, 5, 0, 0, 0), (0, 0, 5, 0, 0, 0)], [(60, 16, (0, 1, 1, 0, 0, 0)), (60, 17, (0, 0, 0, 0, 0, 0)), (69, 0, (0, -2147483648, 2147483647, 0, 0, 0))]), (some (0, 1, 1, 0, 0, 0), [(4, 0, 0, 0, 0, 0), (0, 0, 5, 0, 0, 0), (0, 0, 5, 0, 0, 0)], [(60, 16, (0, 1, 1, 0, 0, 0)), (60, 17, (0, 0, 0, 0, 0, 0)), (69, 0, (0, -2147483648, 2147483647, 0, 0, 0))])] := ha
  simp only [List.mem_cons, List.not_mem_nil, or_false] at ha
  rcases ha with rfl | rfl | rfl
  · obtain ⟨z2, e2, r⟩ := gW_int (show gW _ _ from q) (Nat.le_of_ble_eq_true rfl)
    cases e2
    have := gR0 r
    omega
  · obtain ⟨z2, e2, r⟩ := gW_int (show gW _ _ from q) (Nat.le_of_ble_eq_true rfl)
    cases e2
    have := gR0 r
    omega
  · obtain ⟨z2, e2, r⟩ := gW_int (show gW _ _ from q) (Nat.le_of_ble_eq_true rfl)
    cases e2
    have := gR0 r
    omega
theorem q_M_sell_1_c {d : Nat} (hd : 4 ≤ d) : cOK gAll (xF d) 246 K_574 := ct_of ct_ok (show K_574 ∈ CT.getD 246 [] from (show CT.getD 246 [] = [K_1002, K_1003, K_1004, K_1005, K_1006, K_1007, K_1008, K_1009, K_1010, K_1011, K_1012, K_1013, K_575, K_990, K_991, K_992, K_993, K_994, K_995, K_996, K_997, K_998, K_999, K_1000, K_1001, K_574] from rfl) ▸ by simp) hd
theorem q_M_sell_1 {d : Nat} (hd : 4 ≤ d) {M : pM} (hM : gM gAll M) (p0 : 1 ≤ M 60 0 ∧ M 60 0 ≤ 6) (p1 : 0 ≤ M 60 38 ∧ M 60 38 ≤ 0) : ∃ z M', xF d 246 [.inr 62] M = rI z M' ∧ gM gAll M' ∧ Fr [(60, 16), (60, 17), (60, 30), (60, 38), (60, 39), (60, 40), (69, 999), (72, 999), (73, 999), (78, 999), (79, 999)] M M' ∧ (-3 ≤ z ∧ z ≤ 63) := by
  obtain ⟨z, M', e, g, f, alt, ha, q, -⟩ := cOK_I (q_M_sell_1_c hd) (A := [.inr 62]) (show aF2 gW [aRef 62] [.inr 62] from ⟨gW_o, trivial⟩) hM (show gP0 [(60, 0, (0, 1, 6, 0, 0, 0)), (60, 38, (0, 0, 0, 0, 0, 0))] M from fun e he => by
    simp only [List.mem_cons, List.not_mem_nil, or_false] at he
    rcases he with rfl | rfl
    · exact gR_i p0.1 p0.2
    · exact gR_i p1.1 p1.2) rfl
  refine ⟨z, M', e, g, f, ?_⟩
  have ha : alt ∈ [(some (0, -3, -3, 0, 0, 0), [], [(60, 0, (0, 1, 6, 0, 0, 0)), (60, 17, (0, 0, 0, 0, 0, 0)), (60, 38, (0, 0, 0, 0, 0, 0)), (60, 39, (0, 20001, 1000000, 0, 0, 0))]), (some (0, 0, 63, 0, 0, 0), [], [(60, 0, (0, 1, 6, 0, 0, 0)), (60, 16, (0, 1, 1, 0, 0, 0)), (60, 17, (0, 0, 0, 0, 0, 0)), (60, 38, (0, 0, 0, 0, 0, 0)), (60, 39, (0, 1, 20000, 0, 0, 0)), (69, 0, (0, -2147483648, 2147483647, 0, 0, 0))])] := ha
  simp only [List.mem_cons, List.not_mem_nil, or_false] at ha
  rcases ha with rfl | rfl
  · obtain ⟨z2, e2, r⟩ := gW_int (show gW _ _ from q) (Nat.le_of_ble_eq_true rfl)
    cases e2
    have := gR0 r
    omega
  · obtain ⟨z2, e2, r⟩ := gW_int (show gW _ _ from q) (Nat.le_of_ble_eq_true rfl)
    cases e2
    have := gR0 r
    omega
theorem q_M_sell_0_c {d : Nat} (hd : 4 ≤ d) : cOK gAll (xF d) 246 K_575 := ct_of ct_ok (show K_575 ∈ CT.getD 246 [] from (show CT.getD 246 [] = [K_1002, K_1003, K_1004, K_1005, K_1006, K_1007, K_1008, K_1009, K_1010, K_1011, K_1012, K_1013, K_575, K_990, K_991, K_992, K_993, K_994, K_995, K_996, K_997, K_998, K_999, K_1000, K_1001, K_574] from rfl) ▸ by simp) hd
theorem q_M_sell_0 {d : Nat} (hd : 4 ≤ d) {M : pM} (hM : gM gAll M) (p0 : 0 ≤ M 60 0 ∧ M 60 0 ≤ 0) (p1 : 0 ≤ M 60 3 ∧ M 60 3 ≤ 0) (p2 : 0 ≤ M 60 38 ∧ M 60 38 ≤ 0) : ∃ z M', xF d 246 [.inr 62] M = rI z M' ∧ gM gAll M' ∧ Fr [(60, 16), (60, 17), (60, 30), (60, 38), (60, 39), (69, 999), (72, 999), (73, 999)] M M' ∧ (0 ≤ z ∧ z ≤ 63) := by
  obtain ⟨z, M', e, g, f, alt, ha, q, -⟩ := cOK_I (q_M_sell_0_c hd) (A := [.inr 62]) (show aF2 gW [aRef 62] [.inr 62] from ⟨gW_o, trivial⟩) hM (show gP0 [(60, 0, (0, 0, 0, 0, 0, 0)), (60, 3, (0, 0, 0, 0, 0, 0)), (60, 38, (0, 0, 0, 0, 0, 0))] M from fun e he => by
    simp only [List.mem_cons, List.not_mem_nil, or_false] at he
    rcases he with rfl | rfl | rfl
    · exact gR_i p0.1 p0.2
    · exact gR_i p1.1 p1.2
    · exact gR_i p2.1 p2.2) rfl
  refine ⟨z, M', e, g, f, ?_⟩
  have ha : alt ∈ [(some (0, 0, 63, 0, 0, 0), [], [(60, 0, (0, 0, 0, 0, 0, 0)), (60, 3, (0, 0, 0, 0, 0, 0)), (60, 16, (0, 1, 1, 0, 0, 0)), (60, 17, (0, 0, 0, 0, 0, 0)), (60, 30, (0, 0, 0, 0, 0, 0)), (60, 38, (0, 0, 0, 0, 0, 0)), (60, 39, (0, 1, 1, 0, 0, 0)), (69, 0, (0, -2147483648, 2147483647, 0, 0, 0))])] := ha
  simp only [List.mem_cons, List.not_mem_nil, or_false] at ha
  rcases ha with rfl
  · obtain ⟨z2, e2, r⟩ := gW_int (show gW _ _ from q) (Nat.le_of_ble_eq_true rfl)
    cases e2
    have := gR0 r
    omega
theorem q_M_widest_c {d : Nat} (hd : 3 ≤ d) : cOK gAll (xF d) 251 K_577 := ct_of ct_ok (show K_577 ∈ CT.getD 251 [] from (show CT.getD 251 [] = [K_577] from rfl) ▸ by simp) hd
theorem q_M_widest {d : Nat} (hd : 3 ≤ d) {M : pM} {a1 : Int} {a2 : Int} (hM : gM gAll M) (h1 : -2147483648 ≤ a1 ∧ a1 ≤ 2147483647) (h2 : -2147483648 ≤ a2 ∧ a2 ≤ 2147483647) : ∃ z M', xF d 251 [.inr 62, .inl a1, .inl a2] M = rI z M' ∧ gM gAll M' ∧ Fr [(60, 17), (74, 999)] M M' ∧ (-1 ≤ z ∧ z ≤ 9) := by
  obtain ⟨z, M', e, g, f, alt, ha, q, -⟩ := cOK_I (q_M_widest_c hd) (A := [.inr 62, .inl a1, .inl a2]) (show aF2 gW [aRef 62, (0, -2147483648, 2147483647, 0, 0, 0), (0, -2147483648, 2147483647, 0, 0, 0)] [.inr 62, .inl a1, .inl a2] from ⟨gW_o, gW_i h1.1 h1.2, gW_i h2.1 h2.2, trivial⟩) hM (show gP0 [] M from fun e he => by cases he) rfl
  refine ⟨z, M', e, g, f, ?_⟩
  have ha : alt ∈ [(some (0, -1, -1, 0, 0, 0), [], [(60, 17, (0, 0, 0, 0, 0, 0))]), (some (0, 0, 0, 0, 0, 0), [(4, 0, 0, 0, 0, 0), (0, 0, 5, 0, 0, 0), (0, 0, 5, 0, 0, 0)], [(60, 17, (0, 0, 0, 0, 0, 0))]), (some (0, 1, 9, 0, 0, 0), [(4, 0, 0, 0, 0, 0), (0, 0, 5, 0, 0, 0), (0, 0, 5, 0, 0, 0)], [(60, 17, (0, 0, 0, 0, 0, 0))])] := ha
  simp only [List.mem_cons, List.not_mem_nil, or_false] at ha
  rcases ha with rfl | rfl | rfl
  · obtain ⟨z2, e2, r⟩ := gW_int (show gW _ _ from q) (Nat.le_of_ble_eq_true rfl)
    cases e2
    have := gR0 r
    omega
  · obtain ⟨z2, e2, r⟩ := gW_int (show gW _ _ from q) (Nat.le_of_ble_eq_true rfl)
    cases e2
    have := gR0 r
    omega
  · obtain ⟨z2, e2, r⟩ := gW_int (show gW _ _ from q) (Nat.le_of_ble_eq_true rfl)
    cases e2
    have := gR0 r
    omega
theorem q_M_stuck_c {d : Nat} (hd : 3 ≤ d) : cOK gAll (xF d) 252 K_580 := ct_of ct_ok (show K_580 ∈ CT.getD 252 [] from (show CT.getD 252 [] = [K_580] from rfl) ▸ by simp) hd
theorem q_M_stuck {d : Nat} (hd : 3 ≤ d) {M : pM} (hM : gM gAll M)  : ∃ z M', xF d 252 [.inr 62] M = rI z M' ∧ gM gAll M' ∧ Fr [(60, 17), (74, 999)] M M' ∧ (0 ≤ z ∧ z ≤ 1023) := by
  obtain ⟨z, M', e, g, f, alt, ha, q, -⟩ := cOK_I (q_M_stuck_c hd) (A := [.inr 62]) (show aF2 gW [aRef 62] [.inr 62] from ⟨gW_o, trivial⟩) hM (show gP0 [] M from fun e he => by cases he) rfl
  refine ⟨z, M', e, g, f, ?_⟩
  have ha : alt ∈ [(some (0, 0, 1023, 0, 0, 0), [], [(60, 17, (0, 0, 0, 0, 0, 0))])] := ha
  simp only [List.mem_cons, List.not_mem_nil, or_false] at ha
  rcases ha with rfl
  · obtain ⟨z2, e2, r⟩ := gW_int (show gW _ _ from q) (Nat.le_of_ble_eq_true rfl)
    cases e2
    have := gR0 r
    omega
theorem q_M_aim_c {d : Nat} (hd : 2 ≤ d) : cOK gAll (xF d) 255 K_582 := ct_of ct_ok (show K_582 ∈ CT.getD 255 [] from (show CT.getD 255 [] = [K_582] from rfl) ▸ by simp) hd
theorem q_M_aim {d : Nat} (hd : 2 ≤ d) {M : pM} (hM : gM gAll M)  : ∃ z M', xF d 255 [.inr 62] M = rI z M' ∧ gM gAll M' ∧ Fr [(60, 14), (60, 17), (60, 43), (60, 44), (81, 999)] M M' ∧ (-11 ≤ z ∧ z ≤ 10) := by
  obtain ⟨z, M', e, g, f, alt, ha, q, -⟩ := cOK_I (q_M_aim_c hd) (A := [.inr 62]) (show aF2 gW [aRef 62] [.inr 62] from ⟨gW_o, trivial⟩) hM (show gP0 [] M from fun e he => by cases he) rfl
  refine ⟨z, M', e, g, f, ?_⟩
  have ha : alt ∈ [(some (0, -1, -1, 0, 0, 0), [], [(60, 14, (0, 0, 0, 0, 0, 0)), (60, 17, (0, 0, 0, 0, 0, 0))]), (some (0, -2, -2, 0, 0, 0), [], [(60, 3, (0, 1, 10, 0, 0, 0)), (60, 14, (0, 0, 0, 0, 0, 0)), (60, 17, (0, 0, 0, 0, 0, 0)), (68, 0, (0, 48, 53, 0, 0, 0))]), (some (0, -3, -3, 0, 0, 0), [], [(60, 3, (0, 2, 10, 0, 0, 0)), (60, 14, (0, 0, 0, 0, 0, 0)), (60, 17, (0, 0, 0, 0, 0, 0)), (68, 0, (0, 48, 53, 0, 0, 0)), (68, 1, (0, 48, 53, 0, 0, 0))]), (some (0, -4, -4, 0, 0, 0), [], [(60, 3, (0, 3, 10, 0, 0, 0)), (60, 14, (0, 0, 0, 0, 0, 0)), (60, 17, (0, 0, 0, 0, 0, 0)), (68, 0, (0, 48, 53, 0, 0, 0)), (68, 1, (0, 48, 53, 0, 0, 0)), (68, 2, (0, 48, 53, 0, 0, 0))]), (some (0, -5, -5, 0, 0, 0), [], [(60, 3, (0, 4, 10, 0, 0, 0)), (60, 14, (0, 0, 0, 0, 0, 0)), (60, 17, (0, 0, 0, 0, 0, 0)), (68, 0, (0, 48, 53, 0, 0, 0)), (68, 1, (0, 48, 53, 0, 0, 0)), (68, 2, (0, 48, 53, 0, 0, 0)), (68, 3, (0, 48, 53, 0, 0, 0))]), (some (0, 0, 0, 0, 0, 0), [], [(60, 14, (0, 0, 0, 0, 0, 0)), (60, 17, (0, 0, 0, 0, 0, 0)), (60, 44, (0, 0, 0, 0, 0, 0))]), (some (0, 1, 1, 0, 0, 0), [], [(60, 3, (0, 1, 1, 0, 0, 0)), (60, 14, (0, 0, 0, 0, 0, 0)), (60, 17, (0, 0, 0, 0, 0, 0)), (60, 43, (0, 1, 1, 0, 0, 0)), (60, 44, (0, 1, 1, 0, 0, 0)), (68, 0, (0, 48, 53, 0, 0, 0))]), (some (0, 2, 10, 0, 0, 0), [], [(60, 3, (0, 2, 10, 0, 0, 0)), (60, 14, (0, 0, 0, 0, 0, 0)), (60, 17, (0, 0, 0, 0, 0, 0)), (60, 43, (0, 2, 10, 0, 0, 0)), (60, 44, (0, 1, 1, 0, 0, 0)), (68, 0, (0, 48, 53, 0, 0, 0)), (68, 1, (0, 48, 53, 0, 0, 0))]), (some (0, -11, -6, 0, 0, 0), [], [(60, 3, (0, 5, 10, 0, 0, 0)), (60, 14, (0, 0, 0, 0, 0, 0)), (60, 17, (0, 0, 0, 0, 0, 0)), (68, 0, (0, 48, 53, 0, 0, 0)), (68, 1, (0, 48, 53, 0, 0, 0)), (68, 2, (0, 48, 53, 0, 0, 0)), (68, 3, (0, 48, 53, 0, 0, 0)), (68, 4, (0, 48, 53, 0, 0, 0))])] := ha
  simp only [List.mem_cons, List.not_mem_nil, or_false] at ha
  rcases ha with rfl | rfl | rfl | rfl | rfl | rfl | rfl | rfl | rfl
  · obtain ⟨z2, e2, r⟩ := gW_int (show gW _ _ from q) (Nat.le_of_ble_eq_true rfl)
    cases e2
    have := gR0 r
    omega
  · obtain ⟨z2, e2, r⟩ := gW_int (show gW _ _ from q) (Nat.le_of_ble_eq_true rfl)
    cases e2
    have := gR0 r
    omega
  · obtain ⟨z2, e2, r⟩ := gW_int (show gW _ _ from q) (Nat.le_of_ble_eq_true rfl)
    cases e2
    have := gR0 r
    omega
  · obtain ⟨z2, e2, r⟩ := gW_int (show gW _ _ from q) (Nat.le_of_ble_eq_true rfl)
    cases e2
    have := gR0 r
    omega
  · obtain ⟨z2, e2, r⟩ := gW_int (show gW _ _ from q) (Nat.le_of_ble_eq_true rfl)
    cases e2
    have := gR0 r
    omega
  · obtain ⟨z2, e2, r⟩ := gW_int (show gW _ _ from q) (Nat.le_of_ble_eq_true rfl)
    cases e2
    have := gR0 r
    omega
  · obtain ⟨z2, e2, r⟩ := gW_int (show gW _ _ from q) (Nat.le_of_ble_eq_true rfl)
    cases e2
    have := gR0 r
    omega
  · obtain ⟨z2, e2, r⟩ := gW_int (show gW _ _ from q) (Nat.le_of_ble_eq_true rfl)
    cases e2
    have := gR0 r
    omega
  · obtain ⟨z2, e2, r⟩ := gW_int (show gW _ _ from q) (Nat.le_of_ble_eq_true rfl)
    cases e2
    have := gR0 r
    omega
theorem q_M_apart_c {d : Nat} (hd : 4 ≤ d) : cOK gAll (xF d) 257 K_589 := ct_of ct_ok (show K_589 ∈ CT.getD 257 [] from (show CT.getD 257 [] = [K_864, K_865, K_866, K_867, K_868, K_869, K_870, K_871, K_872, K_873, K_874, K_875, K_589] from rfl) ▸ by simp) hd
theorem q_M_apart {d : Nat} (hd : 4 ≤ d) {M : pM} (hM : gM gAll M)  : ∃ z M', xF d 257 [.inr 62] M = rI z M' ∧ gM gAll M' ∧ Fr [(60, 16), (60, 17), (69, 999), (74, 999)] M M' ∧ (-4 ≤ z ∧ z ≤ 999999) := by
  obtain ⟨z, M', e, g, f, alt, ha, q, -⟩ := cOK_I (q_M_apart_c hd) (A := [.inr 62]) (show aF2 gW [aRef 62] [.inr 62] from ⟨gW_o, trivial⟩) hM (show gP0 [] M from fun e he => by cases he) rfl
  refine ⟨z, M', e, g, f, ?_⟩
  have ha : alt ∈ [(some (0, -2, -2, 0, 0, 0), [], [(60, 3, (0, 1, 10, 0, 0, 0)), (60, 17, (0, 0, 0, 0, 0, 0)), (60, 44, (0, 1, 1, 0, 0, 0))]), (some (0, -4, -4, 0, 0, 0), [], [(60, 17, (0, 0, 0, 0, 0, 0))]), (some (0, 0, 0, 0, 0, 0), [], [(60, 3, (0, 0, 0, 0, 0, 0)), (60, 16, (0, 1, 1, 0, 0, 0)), (60, 17, (0, 0, 0, 0, 0, 0)), (60, 44, (0, 1, 1, 0, 0, 0)), (69, 0, (0, -2147483648, 2147483647, 0, 0, 0))]), (some (0, 0, 999999, 0, 0, 0), [], [(60, 3, (0, 1, 10, 0, 0, 0)), (60, 16, (0, 1, 1, 0, 0, 0)), (60, 17, (0, 0, 0, 0, 0, 0)), (60, 44, (0, 1, 1, 0, 0, 0)), (69, 0, (0, -2147483648, 2147483647, 0, 0, 0))])] := ha
  simp only [List.mem_cons, List.not_mem_nil, or_false] at ha
  rcases ha with rfl | rfl | rfl | rfl
  · obtain ⟨z2, e2, r⟩ := gW_int (show gW _ _ from q) (Nat.le_of_ble_eq_true rfl)
    cases e2
    have := gR0 r
    omega
  · obtain ⟨z2, e2, r⟩ := gW_int (show gW _ _ from q) (Nat.le_of_ble_eq_true rfl)
    cases e2
    have := gR0 r
    omega
  · obtain ⟨z2, e2, r⟩ := gW_int (show gW _ _ from q) (Nat.le_of_ble_eq_true rfl)
    cases e2
    have := gR0 r
    omega
  · obtain ⟨z2, e2, r⟩ := gW_int (show gW _ _ from q) (Nat.le_of_ble_eq_true rfl)
    cases e2
    have := gR0 r
    omega
theorem q_M_evenings_0_c {d : Nat} (hd : 2 ≤ d) : cOK gAll (xF d) 263 K_601 := ct_of ct_ok (show K_601 ∈ CT.getD 263 [] from (show CT.getD 263 [] = [K_601] from rfl) ▸ by simp) hd
theorem q_M_evenings_0 {d : Nat} (hd : 2 ≤ d) {M : pM} (hM : gM gAll M) (p0 : 0 ≤ M 60 0 ∧ M 60 0 ≤ 0) (p1 : 0 ≤ M 60 3 ∧ M 60 3 ≤ 0) (p2 : 0 ≤ M 60 38 ∧ M 60 38 ≤ 0) : ∃ z M', xF d 263 [.inr 62] M = rI z M' ∧ gM gAll M' ∧ Fr [(60, 16), (60, 17), (69, 999)] M M' ∧ (-4 ≤ z ∧ z ≤ 0) := by
  obtain ⟨z, M', e, g, f, alt, ha, q, -⟩ := cOK_I (q_M_evenings_0_c hd) (A := [.inr 62]) (show aF2 gW [aRef 62] [.inr 62] from ⟨gW_o, trivial⟩) hM (show gP0 [(60, 0, (0, 0, 0, 0, 0, 0)), (60, 3, (0, 0, 0, 0, 0, 0)), (60, 38, (0, 0, 0, 0, 0, 0))] M from fun e he => by
    simp only [List.mem_cons, List.not_mem_nil, or_false] at he
    rcases he with rfl | rfl | rfl
    · exact gR_i p0.1 p0.2
    · exact gR_i p1.1 p1.2
    · exact gR_i p2.1 p2.2) rfl
  refine ⟨z, M', e, g, f, ?_⟩
  have ha : alt ∈ [(some (0, -4, -4, 0, 0, 0), [], [(60, 0, (0, 0, 0, 0, 0, 0)), (60, 3, (0, 0, 0, 0, 0, 0)), (60, 17, (0, 0, 0, 0, 0, 0)), (60, 38, (0, 0, 0, 0, 0, 0))]), (some (0, 0, 0, 0, 0, 0), [], [(60, 0, (0, 0, 0, 0, 0, 0)), (60, 3, (0, 0, 0, 0, 0, 0)), (60, 16, (0, 1, 1, 0, 0, 0)), (60, 17, (0, 0, 0, 0, 0, 0)), (60, 38, (0, 0, 0, 0, 0, 0)), (60, 44, (0, 1, 1, 0, 0, 0)), (69, 0, (0, -2147483648, 2147483647, 0, 0, 0))])] := ha
  simp only [List.mem_cons, List.not_mem_nil, or_false] at ha
  rcases ha with rfl | rfl
  · obtain ⟨z2, e2, r⟩ := gW_int (show gW _ _ from q) (Nat.le_of_ble_eq_true rfl)
    cases e2
    have := gR0 r
    omega
  · obtain ⟨z2, e2, r⟩ := gW_int (show gW _ _ from q) (Nat.le_of_ble_eq_true rfl)
    cases e2
    have := gR0 r
    omega
theorem q_M_weakest_0_c {d : Nat} (hd : 2 ≤ d) : cOK gAll (xF d) 264 K_602 := ct_of ct_ok (show K_602 ∈ CT.getD 264 [] from (show CT.getD 264 [] = [K_602] from rfl) ▸ by simp) hd
theorem q_M_weakest_0 {d : Nat} (hd : 2 ≤ d) {M : pM} (hM : gM gAll M) (p0 : 0 ≤ M 60 0 ∧ M 60 0 ≤ 0) (p1 : 0 ≤ M 60 3 ∧ M 60 3 ≤ 0) (p2 : 0 ≤ M 60 38 ∧ M 60 38 ≤ 0) : ∃ z M', xF d 264 [.inr 62] M = rI z M' ∧ gM gAll M' ∧ Fr [(60, 16), (60, 17), (69, 999)] M M' ∧ (-4 ≤ z ∧ z ≤ 0) := by
  obtain ⟨z, M', e, g, f, alt, ha, q, -⟩ := cOK_I (q_M_weakest_0_c hd) (A := [.inr 62]) (show aF2 gW [aRef 62] [.inr 62] from ⟨gW_o, trivial⟩) hM (show gP0 [(60, 0, (0, 0, 0, 0, 0, 0)), (60, 3, (0, 0, 0, 0, 0, 0)), (60, 38, (0, 0, 0, 0, 0, 0))] M from fun e he => by
    simp only [List.mem_cons, List.not_mem_nil, or_false] at he
    rcases he with rfl | rfl | rfl
    · exact gR_i p0.1 p0.2
    · exact gR_i p1.1 p1.2
    · exact gR_i p2.1 p2.2) rfl
  refine ⟨z, M', e, g, f, ?_⟩
  have ha : alt ∈ [(some (0, -4, -4, 0, 0, 0), [], [(60, 0, (0, 0, 0, 0, 0, 0)), (60, 3, (0, 0, 0, 0, 0, 0)), (60, 17, (0, 0, 0, 0, 0, 0)), (60, 38, (0, 0, 0, 0, 0, 0))]), (some (0, 0, 0, 0, 0, 0), [], [(60, 0, (0, 0, 0, 0, 0, 0)), (60, 3, (0, 0, 0, 0, 0, 0)), (60, 16, (0, 1, 1, 0, 0, 0)), (60, 17, (0, 0, 0, 0, 0, 0)), (60, 38, (0, 0, 0, 0, 0, 0)), (60, 44, (0, 1, 1, 0, 0, 0)), (69, 0, (0, -2147483648, 2147483647, 0, 0, 0))])] := ha
  simp only [List.mem_cons, List.not_mem_nil, or_false] at ha
  rcases ha with rfl | rfl
  · obtain ⟨z2, e2, r⟩ := gW_int (show gW _ _ from q) (Nat.le_of_ble_eq_true rfl)
    cases e2
    have := gR0 r
    omega
  · obtain ⟨z2, e2, r⟩ := gW_int (show gW _ _ from q) (Nat.le_of_ble_eq_true rfl)
    cases e2
    have := gR0 r
    omega
theorem q_M_count_c {d : Nat} (hd : 3 ≤ d) : cOK gAll (xF d) 268 K_592 := ct_of ct_ok (show K_592 ∈ CT.getD 268 [] from (show CT.getD 268 [] = [K_592] from rfl) ▸ by simp) hd
theorem q_M_count {d : Nat} (hd : 3 ≤ d) {M : pM} {a1 : Int} (hM : gM gAll M) (h1 : -2147483648 ≤ a1 ∧ a1 ≤ 2147483647) : ∃ z M', xF d 268 [.inr 62, .inl a1] M = rI z M' ∧ gM gAll M' ∧ Fr [(60, 17)] M M' := by
  obtain ⟨z, M', e, g, f, alt, ha, q, -⟩ := cOK_I (q_M_count_c hd) (A := [.inr 62, .inl a1]) (show aF2 gW [aRef 62, (0, -2147483648, 2147483647, 0, 0, 0)] [.inr 62, .inl a1] from ⟨gW_o, gW_i h1.1 h1.2, trivial⟩) hM (show gP0 [] M from fun e he => by cases he) rfl
  exact ⟨z, M', e, g, f⟩
theorem q_M_row_c {d : Nat} (hd : 2 ≤ d) : cOK gAll (xF d) 269 K_594 := ct_of ct_ok (show K_594 ∈ CT.getD 269 [] from (show CT.getD 269 [] = [K_594] from rfl) ▸ by simp) hd
theorem q_M_row {d : Nat} (hd : 2 ≤ d) {M : pM} {a1 : Int} (hM : gM gAll M) (h1 : -2147483648 ≤ a1 ∧ a1 ≤ 2147483647) : ∃ z M', xF d 269 [.inr 62, .inl a1] M = rI z M' ∧ gM gAll M' ∧ Fr [(60, 17)] M M' := by
  obtain ⟨z, M', e, g, f, alt, ha, q, -⟩ := cOK_I (q_M_row_c hd) (A := [.inr 62, .inl a1]) (show aF2 gW [aRef 62, (0, -2147483648, 2147483647, 0, 0, 0)] [.inr 62, .inl a1] from ⟨gW_o, gW_i h1.1 h1.2, trivial⟩) hM (show gP0 [] M from fun e he => by cases he) rfl
  exact ⟨z, M', e, g, f⟩
end
