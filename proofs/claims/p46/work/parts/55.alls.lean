section
/-! the contracts that are proved by hand (by program) -/
theorem o_463 : okK 188 K_463 := ⟨by decide, fun d hd _ => cOK_held (q := 70) (by decide) hd⟩
theorem o_480 : okK 200 K_480 := ⟨by decide, fun d hd _ => cOK_fc1 hd⟩
theorem o_482 : okK 188 K_482 := ⟨by decide, fun d hd _ => cOK_held (q := 73) (by decide) hd⟩
theorem o_515 : okK 200 K_515 := ⟨by decide, fun d hd _ => cOK_fc0 hd⟩
theorem o_545 : okK 210 K_545 := ⟨by decide, fun d hd _ => cOK_pd (o := 78) rfl (fun M S T sv h => m_parted_78 hd h)⟩
theorem o_562 : okK 210 K_562 := ⟨by decide, fun d hd _ => cOK_pd (o := 81) rfl (fun M S T sv h => m_parted_81 hd h)⟩
theorem o_567 : okK 210 K_567 := ⟨by decide, fun d hd _ => cOK_pd (o := 66) rfl (fun M S T sv h => m_parted_66 hd h)⟩
end
section
/-! all contracts (by program) -/
theorem ol_0 : okL 0 [K_1] := ⟨o_1, trivial⟩
theorem ol_1 : okL 1 [K_3] := ⟨o_3, trivial⟩
theorem ol_2 : okL 2 [K_166] := ⟨o_166, trivial⟩
theorem ol_3 : okL 3 [K_214] := ⟨o_214, trivial⟩
theorem ol_4 : okL 4 [] := trivial
theorem ol_5 : okL 5 [] := trivial
theorem ol_6 : okL 6 [K_215] := ⟨o_215, trivial⟩
theorem ol_7 : okL 7 [K_219] := ⟨o_219, trivial⟩
theorem ol_8 : okL 8 [K_221] := ⟨o_221, trivial⟩
theorem ol_9 : okL 9 [K_222] := ⟨o_222, trivial⟩
theorem ol_10 : okL 10 [K_224] := ⟨o_224, trivial⟩
theorem ol_11 : okL 11 [K_234] := ⟨o_234, trivial⟩
theorem ol_12 : okL 12 [K_244] := ⟨o_244, trivial⟩
theorem ol_13 : okL 13 [K_260] := ⟨o_260, trivial⟩
theorem ol_14 : okL 14 [K_264] := ⟨o_264, trivial⟩
theorem ol_15 : okL 15 [K_274] := ⟨o_274, trivial⟩
theorem ol_16 : okL 16 [K_275] := ⟨o_275, trivial⟩
theorem ol_17 : okL 17 [K_279] := ⟨o_279, trivial⟩
theorem ol_18 : okL 18 [K_283] := ⟨o_283, trivial⟩
theorem ol_19 : okL 19 [K_285] := ⟨o_285, trivial⟩
theorem ol_20 : okL 20 [K_286] := ⟨o_286, trivial⟩
theorem ol_21 : okL 21 [K_300] := ⟨o_300, trivial⟩
theorem ol_22 : okL 22 [K_365] := ⟨o_365, trivial⟩
theorem ol_23 : okL 23 [K_367] := ⟨o_367, trivial⟩
theorem ol_24 : okL 24 [K_370] := ⟨o_370, trivial⟩
theorem ol_25 : okL 25 [K_371] := ⟨o_371, trivial⟩
theorem ol_26 : okL 26 [K_375] := ⟨o_375, trivial⟩
theorem ol_27 : okL 27 [K_378] := ⟨o_378, trivial⟩
theorem ol_28 : okL 28 [K_381] := ⟨o_381, trivial⟩
theorem ol_29 : okL 29 [K_383] := ⟨o_383, trivial⟩
theorem ol_30 : okL 30 [K_384] := ⟨o_384, trivial⟩
theorem ol_31 : okL 31 [K_386] := ⟨o_386, trivial⟩
theorem ol_32 : okL 32 [K_388] := ⟨o_388, trivial⟩
theorem ol_33 : okL 33 [K_389] := ⟨o_389, trivial⟩
theorem ol_34 : okL 34 [K_391] := ⟨o_391, trivial⟩
theorem ol_35 : okL 35 [K_392] := ⟨o_392, trivial⟩
theorem ol_36 : okL 36 [K_395] := ⟨o_395, trivial⟩
theorem ol_37 : okL 37 [K_400] := ⟨o_400, trivial⟩
theorem ol_38 : okL 38 [K_403] := ⟨o_403, trivial⟩
theorem ol_39 : okL 39 [K_413] := ⟨o_413, trivial⟩
theorem ol_40 : okL 40 [K_423] := ⟨o_423, trivial⟩
theorem ol_41 : okL 41 [K_438] := ⟨o_438, trivial⟩
theorem ol_42 : okL 42 [K_445] := ⟨o_445, trivial⟩
theorem ol_43 : okL 43 [K_451] := ⟨o_451, trivial⟩
theorem ol_44 : okL 44 [K_456] := ⟨o_456, trivial⟩
theorem ol_45 : okL 45 [K_458] := ⟨o_458, trivial⟩
theorem ol_46 : okL 46 [] := trivial
theorem ol_47 : okL 47 [K_226, K_258, K_261, K_262, K_263, K_266, K_276, K_294, K_298, K_382, K_405, K_416, K_422, K_433] := ⟨o_226, ⟨o_258, ⟨o_261, ⟨o_262, ⟨o_263, ⟨o_266, ⟨o_276, ⟨o_294, ⟨o_298, ⟨o_382, ⟨o_405, ⟨o_416, ⟨o_422, ⟨o_433, trivial⟩⟩⟩⟩⟩⟩⟩⟩⟩⟩⟩⟩⟩⟩
theorem ol_48 : okL 48 [K_4, K_5, K_6, K_7, K_8, K_9, K_10, K_11, K_12, K_149, K_150, K_151, K_152, K_153, K_154, K_155, K_156, K_157, K_212, K_265, K_289, K_296, K_447, K_449, K_453, K_455] := ⟨o_4, ⟨o_5, ⟨o_6, ⟨o_7, ⟨o_8, ⟨o_9, ⟨o_10, ⟨o_11, ⟨o_12, ⟨o_149, ⟨o_150, ⟨o_151, ⟨o_152, ⟨o_153, ⟨o_154, ⟨o_155, ⟨o_156, ⟨o_157, ⟨o_212, ⟨o_265, ⟨o_289, ⟨o_296, ⟨o_447, ⟨o_449, ⟨o_453, ⟨o_455, trivial⟩⟩⟩⟩⟩⟩⟩⟩⟩⟩⟩⟩⟩⟩⟩⟩⟩⟩⟩⟩⟩⟩⟩⟩⟩⟩
theorem ol_49 : okL 49 [K_160] := ⟨o_160, trivial⟩
theorem ol_50 : okL 50 [K_446] := ⟨o_446, trivial⟩
theorem ol_51 : okL 51 [K_230, K_273] := ⟨o_230, ⟨o_273, trivial⟩⟩
theorem ol_52 : okL 52 [K_233] := ⟨o_233, trivial⟩
theorem ol_53 : okL 53 [K_243] := ⟨o_243, trivial⟩
theorem ol_54 : okL 54 [K_255] := ⟨o_255, trivial⟩
theorem ol_55 : okL 55 [K_254] := ⟨o_254, trivial⟩
theorem ol_56 : okL 56 [K_402] := ⟨o_402, trivial⟩
theorem ol_57 : okL 57 [K_404] := ⟨o_404, trivial⟩
theorem ol_58 : okL 58 [K_299] := ⟨o_299, trivial⟩
theorem ol_59 : okL 59 [K_369] := ⟨o_369, trivial⟩
theorem ol_60 : okL 60 [K_374] := ⟨o_374, trivial⟩
theorem ol_61 : okL 61 [K_431] := ⟨o_431, trivial⟩
theorem ol_62 : okL 62 [K_13, K_158] := ⟨o_13, ⟨o_158, trivial⟩⟩
theorem ol_63 : okL 63 [K_119, K_216] := ⟨o_119, ⟨o_216, trivial⟩⟩
theorem ol_64 : okL 64 [K_225] := ⟨o_225, trivial⟩
theorem ol_65 : okL 65 [K_120, K_217] := ⟨o_120, ⟨o_217, trivial⟩⟩
theorem ol_66 : okL 66 [K_394] := ⟨o_394, trivial⟩
theorem ol_67 : okL 67 [K_159] := ⟨o_159, trivial⟩
theorem ol_68 : okL 68 [K_161] := ⟨o_161, trivial⟩
theorem ol_69 : okL 69 [K_288] := ⟨o_288, trivial⟩
theorem ol_70 : okL 70 [K_141, K_142, K_144, K_143] := ⟨o_141, ⟨o_142, ⟨o_144, ⟨o_143, trivial⟩⟩⟩⟩
theorem ol_71 : okL 71 [K_88] := ⟨o_88, trivial⟩
theorem ol_72 : okL 72 [K_107] := ⟨o_107, trivial⟩
theorem ol_73 : okL 73 [K_397, K_121, K_220, K_396, K_398] := ⟨o_397, ⟨o_121, ⟨o_220, ⟨o_396, ⟨o_398, trivial⟩⟩⟩⟩⟩
theorem ol_74 : okL 74 [K_218] := ⟨o_218, trivial⟩
theorem ol_75 : okL 75 [K_457] := ⟨o_457, trivial⟩
theorem ol_76 : okL 76 [K_223] := ⟨o_223, trivial⟩
theorem ol_77 : okL 77 [K_303] := ⟨o_303, trivial⟩
theorem ol_78 : okL 78 [K_227] := ⟨o_227, trivial⟩
theorem ol_79 : okL 79 [K_393] := ⟨o_393, trivial⟩
theorem ol_80 : okL 80 [K_228] := ⟨o_228, trivial⟩
theorem ol_81 : okL 81 [K_390] := ⟨o_390, trivial⟩
theorem ol_82 : okL 82 [K_229] := ⟨o_229, trivial⟩
theorem ol_83 : okL 83 [K_385, K_406] := ⟨o_385, ⟨o_406, trivial⟩⟩
theorem ol_84 : okL 84 [K_399] := ⟨o_399, trivial⟩
theorem ol_85 : okL 85 [K_424] := ⟨o_424, trivial⟩
theorem ol_86 : okL 86 [K_235, K_267, K_407, K_417] := ⟨o_235, ⟨o_267, ⟨o_407, ⟨o_417, trivial⟩⟩⟩⟩
theorem ol_87 : okL 87 [K_239, K_270, K_410, K_418] := ⟨o_239, ⟨o_270, ⟨o_410, ⟨o_418, trivial⟩⟩⟩⟩
theorem ol_88 : okL 88 [K_240, K_271, K_411, K_419] := ⟨o_240, ⟨o_271, ⟨o_411, ⟨o_419, trivial⟩⟩⟩⟩
theorem ol_89 : okL 89 [K_237, K_269, K_409] := ⟨o_237, ⟨o_269, ⟨o_409, trivial⟩⟩⟩
theorem ol_90 : okL 90 [K_236, K_268, K_408] := ⟨o_236, ⟨o_268, ⟨o_408, trivial⟩⟩⟩
theorem ol_91 : okL 91 [K_256, K_272, K_412] := ⟨o_256, ⟨o_272, ⟨o_412, trivial⟩⟩⟩
theorem ol_92 : okL 92 [K_287] := ⟨o_287, trivial⟩
theorem ol_93 : okL 93 [K_301] := ⟨o_301, trivial⟩
theorem ol_94 : okL 94 [K_280] := ⟨o_280, trivial⟩
theorem ol_95 : okL 95 [K_284] := ⟨o_284, trivial⟩
theorem ol_96 : okL 96 [K_162, K_281] := ⟨o_162, ⟨o_281, trivial⟩⟩
theorem ol_97 : okL 97 [K_282] := ⟨o_282, trivial⟩
theorem ol_98 : okL 98 [K_164] := ⟨o_164, trivial⟩
theorem ol_99 : okL 99 [K_163] := ⟨o_163, trivial⟩
theorem ol_100 : okL 100 [K_380] := ⟨o_380, trivial⟩
theorem ol_101 : okL 101 [K_277] := ⟨o_277, trivial⟩
theorem ol_102 : okL 102 [K_238] := ⟨o_238, trivial⟩
theorem ol_103 : okL 103 [K_278] := ⟨o_278, trivial⟩
theorem ol_104 : okL 104 [K_377] := ⟨o_377, trivial⟩
theorem ol_105 : okL 105 [K_376] := ⟨o_376, trivial⟩
theorem ol_106 : okL 106 [K_387] := ⟨o_387, trivial⟩
theorem ol_107 : okL 107 [K_148] := ⟨o_148, trivial⟩
theorem ol_108 : okL 108 [K_145] := ⟨o_145, trivial⟩
theorem ol_109 : okL 109 [K_128] := ⟨o_128, trivial⟩
theorem ol_110 : okL 110 [K_96] := ⟨o_96, trivial⟩
theorem ol_111 : okL 111 [K_106] := ⟨o_106, trivial⟩
theorem ol_112 : okL 112 [K_425] := ⟨o_425, trivial⟩
theorem ol_113 : okL 113 [K_430] := ⟨o_430, trivial⟩
theorem ol_114 : okL 114 [K_426] := ⟨o_426, trivial⟩
theorem ol_115 : okL 115 [K_427] := ⟨o_427, trivial⟩
theorem ol_116 : okL 116 [K_428] := ⟨o_428, trivial⟩
theorem ol_117 : okL 117 [K_429] := ⟨o_429, trivial⟩
theorem ol_118 : okL 118 [K_434] := ⟨o_434, trivial⟩
theorem ol_119 : okL 119 [K_437, K_444] := ⟨o_437, ⟨o_444, trivial⟩⟩
theorem ol_120 : okL 120 [K_432, K_441] := ⟨o_432, ⟨o_441, trivial⟩⟩
theorem ol_121 : okL 121 [K_436, K_443] := ⟨o_436, ⟨o_443, trivial⟩⟩
theorem ol_122 : okL 122 [K_435, K_442] := ⟨o_435, ⟨o_442, trivial⟩⟩
theorem ol_123 : okL 123 [K_440] := ⟨o_440, trivial⟩
theorem ol_124 : okL 124 [K_439] := ⟨o_439, trivial⟩
theorem ol_125 : okL 125 [K_448, K_450] := ⟨o_448, ⟨o_450, trivial⟩⟩
theorem ol_126 : okL 126 [K_452, K_454] := ⟨o_452, ⟨o_454, trivial⟩⟩
theorem ol_127 : okL 127 [K_241] := ⟨o_241, trivial⟩
theorem ol_128 : okL 128 [K_242, K_257] := ⟨o_242, ⟨o_257, trivial⟩⟩
theorem ol_129 : okL 129 [K_165] := ⟨o_165, trivial⟩
theorem ol_130 : okL 130 [K_232] := ⟨o_232, trivial⟩
theorem ol_131 : okL 131 [K_231] := ⟨o_231, trivial⟩
theorem ol_132 : okL 132 [K_14, K_167, K_304, K_401] := ⟨o_14, ⟨o_167, ⟨o_304, ⟨o_401, trivial⟩⟩⟩⟩
theorem ol_133 : okL 133 [K_79, K_134, K_326, K_27, K_65, K_317, K_324, K_24, K_97, K_308, K_315, K_90, K_322, K_125, K_44, K_76, K_131, K_170, K_313, K_59, K_187, K_339, K_83, K_69, K_52, K_22, K_15, K_305] := ⟨o_79, ⟨o_134, ⟨o_326, ⟨o_27, ⟨o_65, ⟨o_317, ⟨o_324, ⟨o_24, ⟨o_97, ⟨o_308, ⟨o_315, ⟨o_90, ⟨o_322, ⟨o_125, ⟨o_44, ⟨o_76, ⟨o_131, ⟨o_170, ⟨o_313, ⟨o_59, ⟨o_187, ⟨o_339, ⟨o_83, ⟨o_69, ⟨o_52, ⟨o_22, ⟨o_15, ⟨o_305, trivial⟩⟩⟩⟩⟩⟩⟩⟩⟩⟩⟩⟩⟩⟩⟩⟩⟩⟩⟩⟩⟩⟩⟩⟩⟩⟩⟩⟩
theorem ol_134 : okL 134 [K_102, K_362] := ⟨o_102, ⟨o_362, trivial⟩⟩
theorem ol_135 : okL 135 [K_81, K_67, K_80, K_139, K_327, K_28, K_33, K_66, K_318, K_122, K_18, K_26, K_50, K_309, K_138, K_32, K_123, K_42, K_74, K_57, K_84, K_70, K_53, K_188, K_340, K_35, K_338, K_17, K_307] := ⟨o_81, ⟨o_67, ⟨o_80, ⟨o_139, ⟨o_327, ⟨o_28, ⟨o_33, ⟨o_66, ⟨o_318, ⟨o_122, ⟨o_18, ⟨o_26, ⟨o_50, ⟨o_309, ⟨o_138, ⟨o_32, ⟨o_123, ⟨o_42, ⟨o_74, ⟨o_57, ⟨o_84, ⟨o_70, ⟨o_53, ⟨o_188, ⟨o_340, ⟨o_35, ⟨o_338, ⟨o_17, ⟨o_307, trivial⟩⟩⟩⟩⟩⟩⟩⟩⟩⟩⟩⟩⟩⟩⟩⟩⟩⟩⟩⟩⟩⟩⟩⟩⟩⟩⟩⟩⟩
theorem ol_136 : okL 136 [K_146] := ⟨o_146, trivial⟩
theorem ol_137 : okL 137 [K_82, K_68, K_118, K_51, K_113, K_147, K_251, K_89, K_93, K_124, K_43, K_47, K_75, K_58, K_62, K_117, K_36, K_39, K_111, K_112, K_248, K_189, K_341] := ⟨o_82, ⟨o_68, ⟨o_118, ⟨o_51, ⟨o_113, ⟨o_147, ⟨o_251, ⟨o_89, ⟨o_93, ⟨o_124, ⟨o_43, ⟨o_47, ⟨o_75, ⟨o_58, ⟨o_62, ⟨o_117, ⟨o_36, ⟨o_39, ⟨o_111, ⟨o_112, ⟨o_248, ⟨o_189, ⟨o_341, trivial⟩⟩⟩⟩⟩⟩⟩⟩⟩⟩⟩⟩⟩⟩⟩⟩⟩⟩⟩⟩⟩⟩⟩
theorem ol_138 : okL 138 [K_133, K_325, K_25, K_98, K_316, K_332, K_172, K_323, K_132, K_171, K_314, K_23, K_16, K_306] := ⟨o_133, ⟨o_325, ⟨o_25, ⟨o_98, ⟨o_316, ⟨o_332, ⟨o_172, ⟨o_323, ⟨o_132, ⟨o_171, ⟨o_314, ⟨o_23, ⟨o_16, ⟨o_306, trivial⟩⟩⟩⟩⟩⟩⟩⟩⟩⟩⟩⟩⟩⟩
theorem ol_139 : okL 139 [K_137, K_330, K_31, K_321, K_130, K_169, K_312, K_92, K_127, K_46, K_61, K_95, K_49, K_78, K_64, K_73, K_56, K_253, K_38, K_250, K_116, K_87, K_41, K_21, K_110] := ⟨o_137, ⟨o_330, ⟨o_31, ⟨o_321, ⟨o_130, ⟨o_169, ⟨o_312, ⟨o_92, ⟨o_127, ⟨o_46, ⟨o_61, ⟨o_95, ⟨o_49, ⟨o_78, ⟨o_64, ⟨o_73, ⟨o_56, ⟨o_253, ⟨o_38, ⟨o_250, ⟨o_116, ⟨o_87, ⟨o_41, ⟨o_21, ⟨o_110, trivial⟩⟩⟩⟩⟩⟩⟩⟩⟩⟩⟩⟩⟩⟩⟩⟩⟩⟩⟩⟩⟩⟩⟩⟩⟩
theorem ol_140 : okL 140 [K_105, K_247, K_101] := ⟨o_105, ⟨o_247, ⟨o_101, trivial⟩⟩⟩
theorem ol_141 : okL 141 [K_135, K_328, K_29, K_319, K_129, K_168, K_310, K_91, K_126, K_45, K_60, K_94, K_48, K_77, K_63, K_103, K_72, K_136, K_329, K_30, K_55, K_320, K_20, K_246, K_311, K_115, K_86, K_109, K_100, K_104, K_71, K_54, K_252, K_37, K_249, K_114, K_85, K_40, K_19, K_245, K_108, K_99] := ⟨o_135, ⟨o_328, ⟨o_29, ⟨o_319, ⟨o_129, ⟨o_168, ⟨o_310, ⟨o_91, ⟨o_126, ⟨o_45, ⟨o_60, ⟨o_94, ⟨o_48, ⟨o_77, ⟨o_63, ⟨o_103, ⟨o_72, ⟨o_136, ⟨o_329, ⟨o_30, ⟨o_55, ⟨o_320, ⟨o_20, ⟨o_246, ⟨o_311, ⟨o_115, ⟨o_86, ⟨o_109, ⟨o_100, ⟨o_104, ⟨o_71, ⟨o_54, ⟨o_252, ⟨o_37, ⟨o_249, ⟨o_114, ⟨o_85, ⟨o_40, ⟨o_19, ⟨o_245, ⟨o_108, ⟨o_99, trivial⟩⟩⟩⟩⟩⟩⟩⟩⟩⟩⟩⟩⟩⟩⟩⟩⟩⟩⟩⟩⟩⟩⟩⟩⟩⟩⟩⟩⟩⟩⟩⟩⟩⟩⟩⟩⟩⟩⟩⟩⟩⟩
theorem ol_142 : okL 142 [K_140, K_34] := ⟨o_140, ⟨o_34, trivial⟩⟩
theorem ol_143 : okL 143 [K_211] := ⟨o_211, trivial⟩
theorem ol_144 : okL 144 [K_364] := ⟨o_364, trivial⟩
theorem ol_145 : okL 145 [K_210, K_363] := ⟨o_210, ⟨o_363, trivial⟩⟩
theorem ol_146 : okL 146 [K_186, K_194, K_199, K_204, K_209, K_337, K_346, K_351, K_356, K_361] := ⟨o_186, ⟨o_194, ⟨o_199, ⟨o_204, ⟨o_209, ⟨o_337, ⟨o_346, ⟨o_351, ⟨o_356, ⟨o_361, trivial⟩⟩⟩⟩⟩⟩⟩⟩⟩⟩
theorem ol_147 : okL 147 [K_185, K_193, K_198, K_203, K_208, K_336, K_345, K_350, K_355, K_360] := ⟨o_185, ⟨o_193, ⟨o_198, ⟨o_203, ⟨o_208, ⟨o_336, ⟨o_345, ⟨o_350, ⟨o_355, ⟨o_360, trivial⟩⟩⟩⟩⟩⟩⟩⟩⟩⟩
theorem ol_148 : okL 148 [K_184, K_192, K_197, K_202, K_207, K_335, K_344, K_349, K_354, K_359] := ⟨o_184, ⟨o_192, ⟨o_197, ⟨o_202, ⟨o_207, ⟨o_335, ⟨o_344, ⟨o_349, ⟨o_354, ⟨o_359, trivial⟩⟩⟩⟩⟩⟩⟩⟩⟩⟩
theorem ol_149 : okL 149 [K_183, K_191, K_196, K_201, K_206, K_334, K_343, K_348, K_353, K_358] := ⟨o_183, ⟨o_191, ⟨o_196, ⟨o_201, ⟨o_206, ⟨o_334, ⟨o_343, ⟨o_348, ⟨o_353, ⟨o_358, trivial⟩⟩⟩⟩⟩⟩⟩⟩⟩⟩
theorem ol_150 : okL 150 [K_182, K_333, K_190, K_195, K_200, K_205, K_342, K_347, K_352, K_357] := ⟨o_182, ⟨o_333, ⟨o_190, ⟨o_195, ⟨o_200, ⟨o_205, ⟨o_342, ⟨o_347, ⟨o_352, ⟨o_357, trivial⟩⟩⟩⟩⟩⟩⟩⟩⟩⟩
theorem ol_151 : okL 151 [K_173, K_331] := ⟨o_173, ⟨o_331, trivial⟩⟩
theorem ol_152 : okL 152 [K_0] := ⟨o_0, trivial⟩
theorem ol_153 : okL 153 [K_2] := ⟨o_2, trivial⟩
theorem ol_154 : okL 154 [K_259] := ⟨o_259, trivial⟩
theorem ol_155 : okL 155 [K_213] := ⟨o_213, trivial⟩
theorem ol_156 : okL 156 [K_421] := ⟨o_421, trivial⟩
theorem ol_157 : okL 157 [K_414] := ⟨o_414, trivial⟩
theorem ol_158 : okL 158 [K_415] := ⟨o_415, trivial⟩
theorem ol_159 : okL 159 [K_420] := ⟨o_420, trivial⟩
theorem ol_160 : okL 160 [K_290] := ⟨o_290, trivial⟩
theorem ol_161 : okL 161 [K_368, K_372] := ⟨o_368, ⟨o_372, trivial⟩⟩
theorem ol_162 : okL 162 [K_366, K_373] := ⟨o_366, ⟨o_373, trivial⟩⟩
theorem ol_163 : okL 163 [K_293] := ⟨o_293, trivial⟩
theorem ol_164 : okL 164 [K_291] := ⟨o_291, trivial⟩
theorem ol_165 : okL 165 [K_292] := ⟨o_292, trivial⟩
theorem ol_166 : okL 166 [K_295] := ⟨o_295, trivial⟩
theorem ol_167 : okL 167 [K_297] := ⟨o_297, trivial⟩
theorem ol_168 : okL 168 [] := trivial
theorem ol_169 : okL 169 [K_558, K_574, K_471, K_477, K_488, K_529, K_537, K_468, K_485, K_475, K_570, K_460, K_538] := ⟨o_558, ⟨o_574, ⟨o_471, ⟨o_477, ⟨o_488, ⟨o_529, ⟨o_537, ⟨o_468, ⟨o_485, ⟨o_475, ⟨o_570, ⟨o_460, ⟨o_538, trivial⟩⟩⟩⟩⟩⟩⟩⟩⟩⟩⟩⟩⟩
theorem ol_170 : okL 170 [K_478, K_508] := ⟨o_478, ⟨o_508, trivial⟩⟩
theorem ol_171 : okL 171 [K_470] := ⟨o_470, trivial⟩
theorem ol_172 : okL 172 [K_490, K_491, K_492, K_493, K_494, K_495, K_496, K_497, K_498, K_499, K_534, K_580, K_581, K_582, K_583, K_584, K_585, K_586, K_587, K_588, K_589, K_502, K_579] := ⟨o_490, ⟨o_491, ⟨o_492, ⟨o_493, ⟨o_494, ⟨o_495, ⟨o_496, ⟨o_497, ⟨o_498, ⟨o_499, ⟨o_534, ⟨o_580, ⟨o_581, ⟨o_582, ⟨o_583, ⟨o_584, ⟨o_585, ⟨o_586, ⟨o_587, ⟨o_588, ⟨o_589, ⟨o_502, ⟨o_579, trivial⟩⟩⟩⟩⟩⟩⟩⟩⟩⟩⟩⟩⟩⟩⟩⟩⟩⟩⟩⟩⟩⟩⟩
theorem ol_173 : okL 173 [K_469] := ⟨o_469, trivial⟩
theorem ol_174 : okL 174 [K_476] := ⟨o_476, trivial⟩
theorem ol_175 : okL 175 [K_459] := ⟨o_459, trivial⟩
theorem ol_176 : okL 176 [K_461] := ⟨o_461, trivial⟩
theorem ol_177 : okL 177 [K_481, K_462] := ⟨o_481, ⟨o_462, trivial⟩⟩
theorem ol_178 : okL 178 [] := trivial
theorem ol_179 : okL 179 [K_466, K_464] := ⟨o_466, ⟨o_464, trivial⟩⟩
theorem ol_180 : okL 180 [K_465] := ⟨o_465, trivial⟩
theorem ol_181 : okL 181 [] := trivial
theorem ol_182 : okL 182 [] := trivial
theorem ol_183 : okL 183 [] := trivial
theorem ol_184 : okL 184 [] := trivial
theorem ol_185 : okL 185 [] := trivial
theorem ol_186 : okL 186 [] := trivial
theorem ol_187 : okL 187 [] := trivial
theorem ol_188 : okL 188 [K_463, K_482] := ⟨o_463, ⟨o_482, trivial⟩⟩
theorem ol_189 : okL 189 [] := trivial
theorem ol_190 : okL 190 [] := trivial
theorem ol_191 : okL 191 [] := trivial
theorem ol_192 : okL 192 [] := trivial
theorem ol_193 : okL 193 [K_467] := ⟨o_467, trivial⟩
theorem ol_194 : okL 194 [K_483] := ⟨o_483, trivial⟩
theorem ol_195 : okL 195 [K_572, K_520] := ⟨o_572, ⟨o_520, trivial⟩⟩
theorem ol_196 : okL 196 [K_479] := ⟨o_479, trivial⟩
theorem ol_197 : okL 197 [K_472] := ⟨o_472, trivial⟩
theorem ol_198 : okL 198 [K_473, K_509, K_563] := ⟨o_473, ⟨o_509, ⟨o_563, trivial⟩⟩⟩
theorem ol_199 : okL 199 [K_474] := ⟨o_474, trivial⟩
theorem ol_200 : okL 200 [K_515, K_480] := ⟨o_515, ⟨o_480, trivial⟩⟩
theorem ol_201 : okL 201 [K_484] := ⟨o_484, trivial⟩
theorem ol_202 : okL 202 [K_486] := ⟨o_486, trivial⟩
theorem ol_203 : okL 203 [K_487] := ⟨o_487, trivial⟩
theorem ol_204 : okL 204 [] := trivial
theorem ol_205 : okL 205 [K_489] := ⟨o_489, trivial⟩
theorem ol_206 : okL 206 [] := trivial
theorem ol_207 : okL 207 [K_553, K_555, K_522] := ⟨o_553, ⟨o_555, ⟨o_522, trivial⟩⟩⟩
theorem ol_208 : okL 208 [K_556, K_523] := ⟨o_556, ⟨o_523, trivial⟩⟩
theorem ol_209 : okL 209 [K_524, K_561, K_591] := ⟨o_524, ⟨o_561, ⟨o_591, trivial⟩⟩⟩
theorem ol_210 : okL 210 [K_545, K_562, K_567] := ⟨o_545, ⟨o_562, ⟨o_567, trivial⟩⟩⟩
theorem ol_211 : okL 211 [K_546, K_564, K_568] := ⟨o_546, ⟨o_564, ⟨o_568, trivial⟩⟩⟩
theorem ol_212 : okL 212 [K_547, K_565] := ⟨o_547, ⟨o_565, trivial⟩⟩
theorem ol_213 : okL 213 [] := trivial
theorem ol_214 : okL 214 [] := trivial
theorem ol_215 : okL 215 [] := trivial
theorem ol_216 : okL 216 [] := trivial
theorem ol_217 : okL 217 [] := trivial
theorem ol_218 : okL 218 [] := trivial
theorem ol_219 : okL 219 [] := trivial
theorem ol_220 : okL 220 [] := trivial
theorem ol_221 : okL 221 [] := trivial
theorem ol_222 : okL 222 [K_500] := ⟨o_500, trivial⟩
theorem ol_223 : okL 223 [K_501] := ⟨o_501, trivial⟩
theorem ol_224 : okL 224 [K_503] := ⟨o_503, trivial⟩
theorem ol_225 : okL 225 [K_504] := ⟨o_504, trivial⟩
theorem ol_226 : okL 226 [] := trivial
theorem ol_227 : okL 227 [K_505] := ⟨o_505, trivial⟩
theorem ol_228 : okL 228 [K_516, K_506] := ⟨o_516, ⟨o_506, trivial⟩⟩
theorem ol_229 : okL 229 [K_507] := ⟨o_507, trivial⟩
theorem ol_230 : okL 230 [K_518, K_549, K_511] := ⟨o_518, ⟨o_549, ⟨o_511, trivial⟩⟩⟩
theorem ol_231 : okL 231 [K_517, K_510] := ⟨o_517, ⟨o_510, trivial⟩⟩
theorem ol_232 : okL 232 [K_512, K_535, K_590] := ⟨o_512, ⟨o_535, ⟨o_590, trivial⟩⟩⟩
theorem ol_233 : okL 233 [K_513] := ⟨o_513, trivial⟩
theorem ol_234 : okL 234 [K_519, K_514] := ⟨o_519, ⟨o_514, trivial⟩⟩
theorem ol_235 : okL 235 [K_521] := ⟨o_521, trivial⟩
theorem ol_236 : okL 236 [K_573] := ⟨o_573, trivial⟩
theorem ol_237 : okL 237 [K_527, K_532, K_525, K_530] := ⟨o_527, ⟨o_532, ⟨o_525, ⟨o_530, trivial⟩⟩⟩⟩
theorem ol_238 : okL 238 [K_528, K_526] := ⟨o_528, ⟨o_526, trivial⟩⟩
theorem ol_239 : okL 239 [K_533, K_531] := ⟨o_533, ⟨o_531, trivial⟩⟩
theorem ol_240 : okL 240 [K_536] := ⟨o_536, trivial⟩
theorem ol_241 : okL 241 [K_540, K_539] := ⟨o_540, ⟨o_539, trivial⟩⟩
theorem ol_242 : okL 242 [K_575] := ⟨o_575, trivial⟩
theorem ol_243 : okL 243 [K_542, K_541] := ⟨o_542, ⟨o_541, trivial⟩⟩
theorem ol_244 : okL 244 [K_544, K_543] := ⟨o_544, ⟨o_543, trivial⟩⟩
theorem ol_245 : okL 245 [K_548] := ⟨o_548, trivial⟩
theorem ol_246 : okL 246 [K_552, K_551] := ⟨o_552, ⟨o_551, trivial⟩⟩
theorem ol_247 : okL 247 [K_550] := ⟨o_550, trivial⟩
theorem ol_248 : okL 248 [] := trivial
theorem ol_249 : okL 249 [K_593] := ⟨o_593, trivial⟩
theorem ol_250 : okL 250 [] := trivial
theorem ol_251 : okL 251 [K_554] := ⟨o_554, trivial⟩
theorem ol_252 : okL 252 [K_557] := ⟨o_557, trivial⟩
theorem ol_253 : okL 253 [] := trivial
theorem ol_254 : okL 254 [] := trivial
theorem ol_255 : okL 255 [K_559] := ⟨o_559, trivial⟩
theorem ol_256 : okL 256 [K_560] := ⟨o_560, trivial⟩
theorem ol_257 : okL 257 [K_566] := ⟨o_566, trivial⟩
theorem ol_258 : okL 258 [] := trivial
theorem ol_259 : okL 259 [] := trivial
theorem ol_260 : okL 260 [] := trivial
theorem ol_261 : okL 261 [K_576] := ⟨o_576, trivial⟩
theorem ol_262 : okL 262 [] := trivial
theorem ol_263 : okL 263 [K_577] := ⟨o_577, trivial⟩
theorem ol_264 : okL 264 [K_578] := ⟨o_578, trivial⟩
theorem ol_265 : okL 265 [K_592] := ⟨o_592, trivial⟩
theorem ol_266 : okL 266 [] := trivial
theorem ol_267 : okL 267 [] := trivial
theorem ol_268 : okL 268 [K_569] := ⟨o_569, trivial⟩
theorem ol_269 : okL 269 [K_571] := ⟨o_571, trivial⟩
theorem ol_270 : okL 270 [K_302] := ⟨o_302, trivial⟩
theorem ol_271 : okL 271 [K_379] := ⟨o_379, trivial⟩
theorem ol_272 : okL 272 [K_181] := ⟨o_181, trivial⟩
theorem ol_273 : okL 273 [K_180] := ⟨o_180, trivial⟩
theorem ol_274 : okL 274 [K_174] := ⟨o_174, trivial⟩
theorem ol_275 : okL 275 [K_176] := ⟨o_176, trivial⟩
theorem ol_276 : okL 276 [K_175] := ⟨o_175, trivial⟩
theorem ol_277 : okL 277 [K_179] := ⟨o_179, trivial⟩
theorem ol_278 : okL 278 [K_177] := ⟨o_177, trivial⟩
theorem ol_279 : okL 279 [K_178] := ⟨o_178, trivial⟩
set_option maxRecDepth 100000 in
theorem ct_ok : okCT := ⟨⟨⟨⟨⟨⟨⟨⟨⟨rfl, ol_0⟩, ⟨rfl, ol_1⟩⟩, ⟨⟨rfl, ol_2⟩, ⟨rfl, ol_3⟩⟩⟩, ⟨⟨⟨rfl, ol_4⟩, ⟨rfl, ol_5⟩⟩, ⟨⟨rfl, ol_6⟩, ⟨rfl, ol_7⟩⟩⟩⟩, ⟨⟨⟨⟨rfl, ol_8⟩, ⟨rfl, ol_9⟩⟩, ⟨⟨rfl, ol_10⟩, ⟨rfl, ol_11⟩⟩⟩, ⟨⟨⟨rfl, ol_12⟩, ⟨rfl, ol_13⟩⟩, ⟨⟨rfl, ol_14⟩, ⟨⟨rfl, ol_15⟩, ⟨rfl, ol_16⟩⟩⟩⟩⟩⟩, ⟨⟨⟨⟨⟨rfl, ol_17⟩, ⟨rfl, ol_18⟩⟩, ⟨⟨rfl, ol_19⟩, ⟨rfl, ol_20⟩⟩⟩, ⟨⟨⟨rfl, ol_21⟩, ⟨rfl, ol_22⟩⟩, ⟨⟨rfl, ol_23⟩, ⟨⟨rfl, ol_24⟩, ⟨rfl, ol_25⟩⟩⟩⟩⟩, ⟨⟨⟨⟨rfl, ol_26⟩, ⟨rfl, ol_27⟩⟩, ⟨⟨rfl, ol_28⟩, ⟨rfl, ol_29⟩⟩⟩, ⟨⟨⟨rfl, ol_30⟩, ⟨rfl, ol_31⟩⟩, ⟨⟨rfl, ol_32⟩, ⟨⟨rfl, ol_33⟩, ⟨rfl, ol_34⟩⟩⟩⟩⟩⟩⟩, ⟨⟨⟨⟨⟨⟨rfl, ol_35⟩, ⟨rfl, ol_36⟩⟩, ⟨⟨rfl, ol_37⟩, ⟨rfl, ol_38⟩⟩⟩, ⟨⟨⟨rfl, ol_39⟩, ⟨rfl, ol_40⟩⟩, ⟨⟨rfl, ol_41⟩, ⟨rfl, ol_42⟩⟩⟩⟩, ⟨⟨⟨⟨rfl, ol_43⟩, ⟨rfl, ol_44⟩⟩, ⟨⟨rfl, ol_45⟩, ⟨rfl, ol_46⟩⟩⟩, ⟨⟨⟨rfl, ol_47⟩, ⟨rfl, ol_48⟩⟩, ⟨⟨rfl, ol_49⟩, ⟨⟨rfl, ol_50⟩, ⟨rfl, ol_51⟩⟩⟩⟩⟩⟩, ⟨⟨⟨⟨⟨rfl, ol_52⟩, ⟨rfl, ol_53⟩⟩, ⟨⟨rfl, ol_54⟩, ⟨rfl, ol_55⟩⟩⟩, ⟨⟨⟨rfl, ol_56⟩, ⟨rfl, ol_57⟩⟩, ⟨⟨rfl, ol_58⟩, ⟨⟨rfl, ol_59⟩, ⟨rfl, ol_60⟩⟩⟩⟩⟩, ⟨⟨⟨⟨rfl, ol_61⟩, ⟨rfl, ol_62⟩⟩, ⟨⟨rfl, ol_63⟩, ⟨rfl, ol_64⟩⟩⟩, ⟨⟨⟨rfl, ol_65⟩, ⟨rfl, ol_66⟩⟩, ⟨⟨rfl, ol_67⟩, ⟨⟨rfl, ol_68⟩, ⟨rfl, ol_69⟩⟩⟩⟩⟩⟩⟩⟩, ⟨⟨⟨⟨⟨⟨⟨rfl, ol_70⟩, ⟨rfl, ol_71⟩⟩, ⟨⟨rfl, ol_72⟩, ⟨rfl, ol_73⟩⟩⟩, ⟨⟨⟨rfl, ol_74⟩, ⟨rfl, ol_75⟩⟩, ⟨⟨rfl, ol_76⟩, ⟨rfl, ol_77⟩⟩⟩⟩, ⟨⟨⟨⟨rfl, ol_78⟩, ⟨rfl, ol_79⟩⟩, ⟨⟨rfl, ol_80⟩, ⟨rfl, ol_81⟩⟩⟩, ⟨⟨⟨rfl, ol_82⟩, ⟨rfl, ol_83⟩⟩, ⟨⟨rfl, ol_84⟩, ⟨⟨rfl, ol_85⟩, ⟨rfl, ol_86⟩⟩⟩⟩⟩⟩, ⟨⟨⟨⟨⟨rfl, ol_87⟩, ⟨rfl, ol_88⟩⟩, ⟨⟨rfl, ol_89⟩, ⟨rfl, ol_90⟩⟩⟩, ⟨⟨⟨rfl, ol_91⟩, ⟨rfl, ol_92⟩⟩, ⟨⟨rfl, ol_93⟩, ⟨⟨rfl, ol_94⟩, ⟨rfl, ol_95⟩⟩⟩⟩⟩, ⟨⟨⟨⟨rfl, ol_96⟩, ⟨rfl, ol_97⟩⟩, ⟨⟨rfl, ol_98⟩, ⟨rfl, ol_99⟩⟩⟩, ⟨⟨⟨rfl, ol_100⟩, ⟨rfl, ol_101⟩⟩, ⟨⟨rfl, ol_102⟩, ⟨⟨rfl, ol_103⟩, ⟨rfl, ol_104⟩⟩⟩⟩⟩⟩⟩, ⟨⟨⟨⟨⟨⟨rfl, ol_105⟩, ⟨rfl, ol_106⟩⟩, ⟨⟨rfl, ol_107⟩, ⟨rfl, ol_108⟩⟩⟩, ⟨⟨⟨rfl, ol_109⟩, ⟨rfl, ol_110⟩⟩, ⟨⟨rfl, ol_111⟩, ⟨rfl, ol_112⟩⟩⟩⟩, ⟨⟨⟨⟨rfl, ol_113⟩, ⟨rfl, ol_114⟩⟩, ⟨⟨rfl, ol_115⟩, ⟨rfl, ol_116⟩⟩⟩, ⟨⟨⟨rfl, ol_117⟩, ⟨rfl, ol_118⟩⟩, ⟨⟨rfl, ol_119⟩, ⟨⟨rfl, ol_120⟩, ⟨rfl, ol_121⟩⟩⟩⟩⟩⟩, ⟨⟨⟨⟨⟨rfl, ol_122⟩, ⟨rfl, ol_123⟩⟩, ⟨⟨rfl, ol_124⟩, ⟨rfl, ol_125⟩⟩⟩, ⟨⟨⟨rfl, ol_126⟩, ⟨rfl, ol_127⟩⟩, ⟨⟨rfl, ol_128⟩, ⟨⟨rfl, ol_129⟩, ⟨rfl, ol_130⟩⟩⟩⟩⟩, ⟨⟨⟨⟨rfl, ol_131⟩, ⟨rfl, ol_132⟩⟩, ⟨⟨rfl, ol_133⟩, ⟨rfl, ol_134⟩⟩⟩, ⟨⟨⟨rfl, ol_135⟩, ⟨rfl, ol_136⟩⟩, ⟨⟨rfl, ol_137⟩, ⟨⟨rfl, ol_138⟩, ⟨rfl, ol_139⟩⟩⟩⟩⟩⟩⟩⟩⟩, ⟨⟨⟨⟨⟨⟨⟨⟨rfl, ol_140⟩, ⟨rfl, ol_141⟩⟩, ⟨⟨rfl, ol_142⟩, ⟨rfl, ol_143⟩⟩⟩, ⟨⟨⟨rfl, ol_144⟩, ⟨rfl, ol_145⟩⟩, ⟨⟨rfl, ol_146⟩, ⟨rfl, ol_147⟩⟩⟩⟩, ⟨⟨⟨⟨rfl, ol_148⟩, ⟨rfl, ol_149⟩⟩, ⟨⟨rfl, ol_150⟩, ⟨rfl, ol_151⟩⟩⟩, ⟨⟨⟨rfl, ol_152⟩, ⟨rfl, ol_153⟩⟩, ⟨⟨rfl, ol_154⟩, ⟨⟨rfl, ol_155⟩, ⟨rfl, ol_156⟩⟩⟩⟩⟩⟩, ⟨⟨⟨⟨⟨rfl, ol_157⟩, ⟨rfl, ol_158⟩⟩, ⟨⟨rfl, ol_159⟩, ⟨rfl, ol_160⟩⟩⟩, ⟨⟨⟨rfl, ol_161⟩, ⟨rfl, ol_162⟩⟩, ⟨⟨rfl, ol_163⟩, ⟨⟨rfl, ol_164⟩, ⟨rfl, ol_165⟩⟩⟩⟩⟩, ⟨⟨⟨⟨rfl, ol_166⟩, ⟨rfl, ol_167⟩⟩, ⟨⟨rfl, ol_168⟩, ⟨rfl, ol_169⟩⟩⟩, ⟨⟨⟨rfl, ol_170⟩, ⟨rfl, ol_171⟩⟩, ⟨⟨rfl, ol_172⟩, ⟨⟨rfl, ol_173⟩, ⟨rfl, ol_174⟩⟩⟩⟩⟩⟩⟩, ⟨⟨⟨⟨⟨⟨rfl, ol_175⟩, ⟨rfl, ol_176⟩⟩, ⟨⟨rfl, ol_177⟩, ⟨rfl, ol_178⟩⟩⟩, ⟨⟨⟨rfl, ol_179⟩, ⟨rfl, ol_180⟩⟩, ⟨⟨rfl, ol_181⟩, ⟨rfl, ol_182⟩⟩⟩⟩, ⟨⟨⟨⟨rfl, ol_183⟩, ⟨rfl, ol_184⟩⟩, ⟨⟨rfl, ol_185⟩, ⟨rfl, ol_186⟩⟩⟩, ⟨⟨⟨rfl, ol_187⟩, ⟨rfl, ol_188⟩⟩, ⟨⟨rfl, ol_189⟩, ⟨⟨rfl, ol_190⟩, ⟨rfl, ol_191⟩⟩⟩⟩⟩⟩, ⟨⟨⟨⟨⟨rfl, ol_192⟩, ⟨rfl, ol_193⟩⟩, ⟨⟨rfl, ol_194⟩, ⟨rfl, ol_195⟩⟩⟩, ⟨⟨⟨rfl, ol_196⟩, ⟨rfl, ol_197⟩⟩, ⟨⟨rfl, ol_198⟩, ⟨⟨rfl, ol_199⟩, ⟨rfl, ol_200⟩⟩⟩⟩⟩, ⟨⟨⟨⟨rfl, ol_201⟩, ⟨rfl, ol_202⟩⟩, ⟨⟨rfl, ol_203⟩, ⟨rfl, ol_204⟩⟩⟩, ⟨⟨⟨rfl, ol_205⟩, ⟨rfl, ol_206⟩⟩, ⟨⟨rfl, ol_207⟩, ⟨⟨rfl, ol_208⟩, ⟨rfl, ol_209⟩⟩⟩⟩⟩⟩⟩⟩, ⟨⟨⟨⟨⟨⟨⟨rfl, ol_210⟩, ⟨rfl, ol_211⟩⟩, ⟨⟨rfl, ol_212⟩, ⟨rfl, ol_213⟩⟩⟩, ⟨⟨⟨rfl, ol_214⟩, ⟨rfl, ol_215⟩⟩, ⟨⟨rfl, ol_216⟩, ⟨rfl, ol_217⟩⟩⟩⟩, ⟨⟨⟨⟨rfl, ol_218⟩, ⟨rfl, ol_219⟩⟩, ⟨⟨rfl, ol_220⟩, ⟨rfl, ol_221⟩⟩⟩, ⟨⟨⟨rfl, ol_222⟩, ⟨rfl, ol_223⟩⟩, ⟨⟨rfl, ol_224⟩, ⟨⟨rfl, ol_225⟩, ⟨rfl, ol_226⟩⟩⟩⟩⟩⟩, ⟨⟨⟨⟨⟨rfl, ol_227⟩, ⟨rfl, ol_228⟩⟩, ⟨⟨rfl, ol_229⟩, ⟨rfl, ol_230⟩⟩⟩, ⟨⟨⟨rfl, ol_231⟩, ⟨rfl, ol_232⟩⟩, ⟨⟨rfl, ol_233⟩, ⟨⟨rfl, ol_234⟩, ⟨rfl, ol_235⟩⟩⟩⟩⟩, ⟨⟨⟨⟨rfl, ol_236⟩, ⟨rfl, ol_237⟩⟩, ⟨⟨rfl, ol_238⟩, ⟨rfl, ol_239⟩⟩⟩, ⟨⟨⟨rfl, ol_240⟩, ⟨rfl, ol_241⟩⟩, ⟨⟨rfl, ol_242⟩, ⟨⟨rfl, ol_243⟩, ⟨rfl, ol_244⟩⟩⟩⟩⟩⟩⟩, ⟨⟨⟨⟨⟨⟨rfl, ol_245⟩, ⟨rfl, ol_246⟩⟩, ⟨⟨rfl, ol_247⟩, ⟨rfl, ol_248⟩⟩⟩, ⟨⟨⟨rfl, ol_249⟩, ⟨rfl, ol_250⟩⟩, ⟨⟨rfl, ol_251⟩, ⟨⟨rfl, ol_252⟩, ⟨rfl, ol_253⟩⟩⟩⟩⟩, ⟨⟨⟨⟨rfl, ol_254⟩, ⟨rfl, ol_255⟩⟩, ⟨⟨rfl, ol_256⟩, ⟨rfl, ol_257⟩⟩⟩, ⟨⟨⟨rfl, ol_258⟩, ⟨rfl, ol_259⟩⟩, ⟨⟨rfl, ol_260⟩, ⟨⟨rfl, ol_261⟩, ⟨rfl, ol_262⟩⟩⟩⟩⟩⟩, ⟨⟨⟨⟨⟨rfl, ol_263⟩, ⟨rfl, ol_264⟩⟩, ⟨⟨rfl, ol_265⟩, ⟨rfl, ol_266⟩⟩⟩, ⟨⟨⟨rfl, ol_267⟩, ⟨rfl, ol_268⟩⟩, ⟨⟨rfl, ol_269⟩, ⟨⟨rfl, ol_270⟩, ⟨rfl, ol_271⟩⟩⟩⟩⟩, ⟨⟨⟨⟨rfl, ol_272⟩, ⟨rfl, ol_273⟩⟩, ⟨⟨rfl, ol_274⟩, ⟨rfl, ol_275⟩⟩⟩, ⟨⟨⟨rfl, ol_276⟩, ⟨rfl, ol_277⟩⟩, ⟨⟨rfl, ol_278⟩, ⟨⟨rfl, ol_279⟩, ⟨rfl, trivial⟩⟩⟩⟩⟩⟩⟩⟩⟩⟩
theorem u_tell_c {d : Nat} (hd : 1 ≤ d) : cOK gAll (xF d) 172 K_579 := ct_of ct_ok (show K_579 ∈ CT.get 172 from (show CT.get 172 = [K_490, K_491, K_492, K_493, K_494, K_495, K_496, K_497, K_498, K_499, K_534, K_580, K_581, K_582, K_583, K_584, K_585, K_586, K_587, K_588, K_589, K_502, K_579] from rfl) ▸ by simp) hd
theorem u_tell {d : Nat} (hd : 1 ≤ d) {M : pM} {a1 : Int} (hM : gM gAll M) (p0 : 0 ≤ M 60 16 ∧ M 60 16 ≤ 15) : ∃ M', xF d 172 [.inr 62, .inl a1] M = rV M' ∧ gM gAll M' ∧ Fr [(60, 16), (69, 999)] M M' := by
  obtain ⟨M', e, g, f, -⟩ := cOK_V (u_tell_c hd) (A := [.inr 62, .inl a1]) (show aF2 gW [aRef 62, (1, 0, 0, 0, 0, 0)] [.inr 62, .inl a1] from ⟨gW_o, gW_1, trivial⟩) hM (show gP0 [(60, 16, (0, 0, 15, 0, 0, 0))] M from fun e he => by
    simp only [List.mem_cons, List.not_mem_nil, or_false] at he
    rcases he with rfl
    · exact gR_i p0.1 p0.2) rfl
  exact ⟨M', e, g, f⟩
theorem u_tellF_c {d : Nat} (hd : 2 ≤ d) : cOK gAll (xF d) 232 K_590 := ct_of ct_ok (show K_590 ∈ CT.get 232 from (show CT.get 232 = [K_512, K_535, K_590] from rfl) ▸ by simp) hd
theorem u_tellF {d : Nat} (hd : 2 ≤ d) {M : pM} (hM : gM gAll M) (p0 : 0 ≤ M 60 16 ∧ M 60 16 ≤ 6) : ∃ M', xF d 232 [.inr 62, .inr 82] M = rV M' ∧ gM gAll M' ∧ Fr [(60, 16), (69, 999)] M M' := by
  obtain ⟨M', e, g, f, -⟩ := cOK_V (u_tellF_c hd) (A := [.inr 62, .inr 82]) (show aF2 gW [aRef 62, aRef 82] [.inr 62, .inr 82] from ⟨gW_o, gW_o, trivial⟩) hM (show gP0 [(60, 16, (0, 0, 6, 0, 0, 0))] M from fun e he => by
    simp only [List.mem_cons, List.not_mem_nil, or_false] at he
    rcases he with rfl
    · exact gR_i p0.1 p0.2) rfl
  exact ⟨M', e, g, f⟩
theorem u_take_c {d : Nat} (hd : 1 ≤ d) : cOK gAll (xF d) 233 K_513 := ct_of ct_ok (show K_513 ∈ CT.get 233 from (show CT.get 233 = [K_513] from rfl) ▸ by simp) hd
theorem u_take {d : Nat} (hd : 1 ≤ d) {M : pM} (hM : gM gAll M)  : ∃ M', xF d 233 [.inr 62] M = rV M' ∧ gM gAll M' ∧ Fr [(80, 999)] M M' := by
  obtain ⟨M', e, g, f, -⟩ := cOK_V (u_take_c hd) (A := [.inr 62]) (show aF2 gW [aRef 62] [.inr 62] from ⟨gW_o, trivial⟩) hM (show gP0 [] M from fun e he => by cases he) rfl
  exact ⟨M', e, g, f⟩
theorem u_worthOf_c {d : Nat} (hd : 341 ≤ d) : cOK gAll (xF d) 194 K_483 := ct_of ct_ok (show K_483 ∈ CT.get 194 from (show CT.get 194 = [K_483] from rfl) ▸ by simp) hd
theorem u_worthOf {d : Nat} (hd : 341 ≤ d) {M : pM} {a1 : Int} {a2 : Int} (hM : gM gAll M) (h1 : 0 ≤ a1 ∧ a1 ≤ 9) (h2 : 0 ≤ a2 ∧ a2 ≤ 5) : ∃ z M', xF d 194 [.inr 62, .inl a1, .inl a2] M = rI z M' ∧ gM gAll M' ∧ Fr [(60, 18), (60, 19), (60, 20), (60, 21), (60, 22), (60, 26), (60, 27)] M M' ∧ (-999 ≤ z ∧ z ≤ 999) := by
  obtain ⟨z, M', e, g, f, alt, ha, q, -⟩ := cOK_I (u_worthOf_c hd) (A := [.inr 62, .inl a1, .inl a2]) (show aF2 gW [aRef 62, (0, 0, 9, 0, 0, 0), (0, 0, 5, 0, 0, 0)] [.inr 62, .inl a1, .inl a2] from ⟨gW_o, gW_i h1.1 h1.2, gW_i h2.1 h2.2, trivial⟩) hM (show gP0 [] M from fun e he => by cases he) rfl
  refine ⟨z, M', e, g, f, ?_⟩
  have ha : alt ∈ [(some (0, 0, 0, 0, 0, 0), [], [(60, 25, (0, 0, 0, 0, 0, 0))]), (some (0, -999, 999, 0, 0, 0), [], [(60, 18, (0, 73, 73, 0, 0, 0)), (60, 19, (0, 1, 40, 0, 0, 0)), (60, 20, (0, 40, 40, 0, 0, 0)), (60, 21, (0, 0, 40, 0, 0, 0)), (60, 25, (0, 1, 40, 0, 0, 0)), (60, 26, (0, 0, 9, 0, 0, 0))])] := ha
  simp only [List.mem_cons, List.not_mem_nil, or_false] at ha
  rcases ha with rfl | rfl
  · obtain ⟨z2, e2, r⟩ := gW_int (show gW _ _ from q) (Nat.le_of_ble_eq_true rfl)
    cases e2
    have := gR0 r
    omega
  · obtain ⟨z2, e2, r⟩ := gW_int (show gW _ _ from q) (Nat.le_of_ble_eq_true rfl)
    cases e2
    have := gR0 r
    omega
theorem u_costR_c {d : Nat} (hd : 3 ≤ d) : cOK gAll (xF d) 209 K_591 := ct_of ct_ok (show K_591 ∈ CT.get 209 from (show CT.get 209 = [K_524, K_561, K_591] from rfl) ▸ by simp) hd
theorem u_costR {d : Nat} (hd : 3 ≤ d) {M : pM} {a2 : Int} {a4 : Int} (hM : gM gAll M) (h2 : 0 ≤ a2 ∧ a2 ≤ 3000) (h4 : 0 ≤ a4 ∧ a4 ≤ 3000) : ∃ z M', xF d 209 [.inr 62, .inr 85, .inl a2, .inr 85, .inl a4] M = rI z M' ∧ gM gAll M' ∧ Fr [(74, 999)] M M' ∧ (0 ≤ z ∧ z ≤ 89999910) := by
  obtain ⟨z, M', e, g, f, alt, ha, q, -⟩ := cOK_I (u_costR_c hd) (A := [.inr 62, .inr 85, .inl a2, .inr 85, .inl a4]) (show aF2 gW [aRef 62, aRef 85, (0, 0, 3000, 0, 0, 0), aRef 85, (0, 0, 3000, 0, 0, 0)] [.inr 62, .inr 85, .inl a2, .inr 85, .inl a4] from ⟨gW_o, gW_o, gW_i h2.1 h2.2, gW_o, gW_i h4.1 h4.2, trivial⟩) hM (show gP0 [] M from fun e he => by cases he) rfl
  refine ⟨z, M', e, g, f, ?_⟩
  have ha : alt ∈ [(some (0, 0, 0, 0, 0, 0), [], [(60, 3, (0, 0, 0, 0, 0, 0))]), (some (0, 0, 89999910, 0, 0, 0), [], [(60, 3, (0, 1, 10, 0, 0, 0))])] := ha
  simp only [List.mem_cons, List.not_mem_nil, or_false] at ha
  rcases ha with rfl | rfl
  · obtain ⟨z2, e2, r⟩ := gW_int (show gW _ _ from q) (Nat.le_of_ble_eq_true rfl)
    cases e2
    have := gR0 r
    omega
  · obtain ⟨z2, e2, r⟩ := gW_int (show gW _ _ from q) (Nat.le_of_ble_eq_true rfl)
    cases e2
    have := gR0 r
    omega
theorem u_costA_c {d : Nat} (hd : 3 ≤ d) : cOK gAll (xF d) 209 K_561 := ct_of ct_ok (show K_561 ∈ CT.get 209 from (show CT.get 209 = [K_524, K_561, K_591] from rfl) ▸ by simp) hd
theorem u_costA {d : Nat} (hd : 3 ≤ d) {M : pM} {a2 : Int} {a4 : Int} (hM : gM gAll M) (h2 : 0 ≤ a2 ∧ a2 ≤ 0) (h4 : 0 ≤ a4 ∧ a4 ≤ 0) : ∃ z M', xF d 209 [.inr 62, .inr 68, .inl a2, .inr 83, .inl a4] M = rI z M' ∧ gM gAll M' ∧ Fr [(74, 999)] M M' ∧ (0 ≤ z ∧ z ≤ 89999910) := by
  obtain ⟨z, M', e, g, f, alt, ha, q, -⟩ := cOK_I (u_costA_c hd) (A := [.inr 62, .inr 68, .inl a2, .inr 83, .inl a4]) (show aF2 gW [aRef 62, aRef 68, (0, 0, 0, 0, 0, 0), aRef 83, (0, 0, 0, 0, 0, 0)] [.inr 62, .inr 68, .inl a2, .inr 83, .inl a4] from ⟨gW_o, gW_o, gW_i h2.1 h2.2, gW_o, gW_i h4.1 h4.2, trivial⟩) hM (show gP0 [] M from fun e he => by cases he) rfl
  refine ⟨z, M', e, g, f, ?_⟩
  have ha : alt ∈ [(some (0, 0, 0, 0, 0, 0), [], [(60, 3, (0, 0, 0, 0, 0, 0))]), (some (0, 0, 89999910, 0, 0, 0), [], [(60, 3, (0, 1, 10, 0, 0, 0))])] := ha
  simp only [List.mem_cons, List.not_mem_nil, or_false] at ha
  rcases ha with rfl | rfl
  · obtain ⟨z2, e2, r⟩ := gW_int (show gW _ _ from q) (Nat.le_of_ble_eq_true rfl)
    cases e2
    have := gR0 r
    omega
  · obtain ⟨z2, e2, r⟩ := gW_int (show gW _ _ from q) (Nat.le_of_ble_eq_true rfl)
    cases e2
    have := gR0 r
    omega
theorem u_nextRow_c {d : Nat} (hd : 3 ≤ d) : cOK gAll (xF d) 230 K_511 := ct_of ct_ok (show K_511 ∈ CT.get 230 from (show CT.get 230 = [K_518, K_549, K_511] from rfl) ▸ by simp) hd
theorem u_nextRow {d : Nat} (hd : 3 ≤ d) {M : pM} (hM : gM gAll M) (p0 : 1 ≤ M 60 0 ∧ M 60 0 ≤ 6) (p1 : -1 ≤ M 60 40 ∧ M 60 40 ≤ 999999) : ∃ z M', xF d 230 [.inr 62] M = rI z M' ∧ gM gAll M' ∧ Fr [(60, 40), (78, 999), (79, 999)] M M' ∧ (0 ≤ z ∧ z ≤ 1) := by
  obtain ⟨z, M', e, g, f, alt, ha, q, -⟩ := cOK_I (u_nextRow_c hd) (A := [.inr 62]) (show aF2 gW [aRef 62] [.inr 62] from ⟨gW_o, trivial⟩) hM (show gP0 [(60, 0, (0, 1, 6, 0, 0, 0)), (60, 40, (0, -1, 999999, 0, 0, 0))] M from fun e he => by
    simp only [List.mem_cons, List.not_mem_nil, or_false] at he
    rcases he with rfl | rfl
    · exact gR_i p0.1 p0.2
    · exact gR_i p1.1 p1.2) rfl
  refine ⟨z, M', e, g, f, ?_⟩
  have ha : alt ∈ [(some (0, 0, 0, 0, 0, 0), [], [(60, 0, (0, 1, 6, 0, 0, 0)), (60, 40, (0, 0, 1000000, 1, 1, 0))]), (some (0, 1, 1, 0, 0, 0), [], [(60, 0, (0, 1, 6, 0, 0, 0)), (60, 39, (0, 1, 1000000, 0, 0, 0)), (60, 40, (0, 0, 999999, 1, 1, 0))])] := ha
  simp only [List.mem_cons, List.not_mem_nil, or_false] at ha
  rcases ha with rfl | rfl
  · obtain ⟨z2, e2, r⟩ := gW_int (show gW _ _ from q) (Nat.le_of_ble_eq_true rfl)
    cases e2
    have := gR0 r
    omega
  · obtain ⟨z2, e2, r⟩ := gW_int (show gW _ _ from q) (Nat.le_of_ble_eq_true rfl)
    cases e2
    have := gR0 r
    omega
theorem u_steps_c {d : Nat} (hd : 2 ≤ d) : cOK gAll (xF d) 208 K_556 := ct_of ct_ok (show K_556 ∈ CT.get 208 from (show CT.get 208 = [K_556, K_523] from rfl) ▸ by simp) hd
theorem u_steps {d : Nat} (hd : 2 ≤ d) {M : pM} {a1 : Int} {a2 : Int} {a3 : Int} (hM : gM gAll M) (h1 : 0 ≤ a1 ∧ a1 ≤ 9) (h2 : 0 ≤ a2 ∧ a2 ≤ 5) (h3 : 0 ≤ a3 ∧ a3 ≤ 5) : ∃ z M', xF d 208 [.inr 62, .inl a1, .inl a2, .inl a3] M = rI z M' ∧ gM gAll M' ∧ Fr [(74, 999)] M M' ∧ (0 ≤ z ∧ z ≤ 1000000) := by
  obtain ⟨z, M', e, g, f, alt, ha, q, -⟩ := cOK_I (u_steps_c hd) (A := [.inr 62, .inl a1, .inl a2, .inl a3]) (show aF2 gW [aRef 62, (0, 0, 9, 0, 0, 0), (0, 0, 5, 0, 0, 0), (0, 0, 5, 0, 0, 0)] [.inr 62, .inl a1, .inl a2, .inl a3] from ⟨gW_o, gW_i h1.1 h1.2, gW_i h2.1 h2.2, gW_i h3.1 h3.2, trivial⟩) hM (show gP0 [] M from fun e he => by cases he) rfl
  refine ⟨z, M', e, g, f, ?_⟩
  have ha : alt ∈ [(some (0, 0, 1000000, 0, 0, 0), [], [])] := ha
  simp only [List.mem_cons, List.not_mem_nil, or_false] at ha
  rcases ha with rfl
  · obtain ⟨z2, e2, r⟩ := gW_int (show gW _ _ from q) (Nat.le_of_ble_eq_true rfl)
    cases e2
    have := gR0 r
    omega
theorem u_tooMuch_c {d : Nat} (hd : 3 ≤ d) : cOK gAll (xF d) 228 K_506 := ct_of ct_ok (show K_506 ∈ CT.get 228 from (show CT.get 228 = [K_516, K_506] from rfl) ▸ by simp) hd
theorem u_tooMuch {d : Nat} (hd : 3 ≤ d) {M : pM} (hM : gM gAll M) (p0 : 1 ≤ M 60 0 ∧ M 60 0 ≤ 6) : ∃ z M', xF d 228 [.inr 62] M = rI z M' ∧ gM gAll M' ∧ Fr [(60, 30), (60, 39), (72, 999), (73, 999)] M M' ∧ (0 ≤ z ∧ z ≤ 1) := by
  obtain ⟨z, M', e, g, f, alt, ha, q, -⟩ := cOK_I (u_tooMuch_c hd) (A := [.inr 62]) (show aF2 gW [aRef 62] [.inr 62] from ⟨gW_o, trivial⟩) hM (show gP0 [(60, 0, (0, 1, 6, 0, 0, 0))] M from fun e he => by
    simp only [List.mem_cons, List.not_mem_nil, or_false] at he
    rcases he with rfl
    · exact gR_i p0.1 p0.2) rfl
  refine ⟨z, M', e, g, f, ?_⟩
  have ha : alt ∈ [(some (0, 0, 0, 0, 0, 0), [], [(60, 0, (0, 1, 6, 0, 0, 0)), (60, 39, (0, 1, 20000, 0, 0, 0))]), (some (0, 1, 1, 0, 0, 0), [], [(60, 0, (0, 1, 6, 0, 0, 0)), (60, 39, (0, 20001, 1000000, 0, 0, 0))])] := ha
  simp only [List.mem_cons, List.not_mem_nil, or_false] at ha
  rcases ha with rfl | rfl
  · obtain ⟨z2, e2, r⟩ := gW_int (show gW _ _ from q) (Nat.le_of_ble_eq_true rfl)
    cases e2
    have := gR0 r
    omega
  · obtain ⟨z2, e2, r⟩ := gW_int (show gW _ _ from q) (Nat.le_of_ble_eq_true rfl)
    cases e2
    have := gR0 r
    omega
theorem u_isCost_c {d : Nat} (hd : 1 ≤ d) : cOK gAll (xF d) 265 K_592 := ct_of ct_ok (show K_592 ∈ CT.get 265 from (show CT.get 265 = [K_592] from rfl) ▸ by simp) hd
theorem u_isCost {d : Nat} (hd : 1 ≤ d) {M : pM} {a1 : Int} (hM : gM gAll M) (h1 : -2147483648 ≤ a1 ∧ a1 ≤ 2147483647) : ∃ z M', xF d 265 [.inr 62, .inl a1] M = rI z M' ∧ gM gAll M' ∧ Fr [] M M' ∧ (0 ≤ z ∧ z ≤ 1) := by
  obtain ⟨z, M', e, g, f, alt, ha, q, -⟩ := cOK_I (u_isCost_c hd) (A := [.inr 62, .inl a1]) (show aF2 gW [aRef 62, (0, -2147483648, 2147483647, 0, 0, 0)] [.inr 62, .inl a1] from ⟨gW_o, gW_i h1.1 h1.2, trivial⟩) hM (show gP0 [] M from fun e he => by cases he) rfl
  refine ⟨z, M', e, g, f, ?_⟩
  have ha : alt ∈ [(some (0, 0, 0, 0, 0, 0), [], []), (some (0, 1, 1, 0, 0, 0), [(4, 0, 0, 0, 0, 0), (0, 0, 100000000, 0, 0, 0)], [(60, 48, (0, 2, 301, 0, 0, 0))])] := ha
  simp only [List.mem_cons, List.not_mem_nil, or_false] at ha
  rcases ha with rfl | rfl
  · obtain ⟨z2, e2, r⟩ := gW_int (show gW _ _ from q) (Nat.le_of_ble_eq_true rfl)
    cases e2
    have := gR0 r
    omega
  · obtain ⟨z2, e2, r⟩ := gW_int (show gW _ _ from q) (Nat.le_of_ble_eq_true rfl)
    cases e2
    have := gR0 r
    omega
theorem u_hasAim_c {d : Nat} (hd : 1 ≤ d) : cOK gAll (xF d) 256 K_560 := ct_of ct_ok (show K_560 ∈ CT.get 256 from (show CT.get 256 = [K_560] from rfl) ▸ by simp) hd
theorem u_hasAim {d : Nat} (hd : 1 ≤ d) {M : pM} (hM : gM gAll M)  : ∃ z M', xF d 256 [.inr 62] M = rI z M' ∧ gM gAll M' ∧ Fr [] M M' ∧ (0 ≤ z ∧ z ≤ 1) := by
  obtain ⟨z, M', e, g, f, alt, ha, q, -⟩ := cOK_I (u_hasAim_c hd) (A := [.inr 62]) (show aF2 gW [aRef 62] [.inr 62] from ⟨gW_o, trivial⟩) hM (show gP0 [] M from fun e he => by cases he) rfl
  refine ⟨z, M', e, g, f, ?_⟩
  have ha : alt ∈ [(some (0, 0, 0, 0, 0, 0), [], []), (some (0, 1, 1, 0, 0, 0), [], [(60, 44, (0, 1, 1, 0, 0, 0))])] := ha
  simp only [List.mem_cons, List.not_mem_nil, or_false] at ha
  rcases ha with rfl | rfl
  · obtain ⟨z2, e2, r⟩ := gW_int (show gW _ _ from q) (Nat.le_of_ble_eq_true rfl)
    cases e2
    have := gR0 r
    omega
  · obtain ⟨z2, e2, r⟩ := gW_int (show gW _ _ from q) (Nat.le_of_ble_eq_true rfl)
    cases e2
    have := gR0 r
    omega
theorem u_isThere_c {d : Nat} (hd : 1 ≤ d) : cOK gAll (xF d) 261 K_576 := ct_of ct_ok (show K_576 ∈ CT.get 261 from (show CT.get 261 = [K_576] from rfl) ▸ by simp) hd
theorem u_isThere {d : Nat} (hd : 1 ≤ d) {M : pM} (hM : gM gAll M)  : ∃ z M', xF d 261 [.inr 62] M = rI z M' ∧ gM gAll M' ∧ Fr [] M M' ∧ (0 ≤ z ∧ z ≤ 1) := by
  obtain ⟨z, M', e, g, f, alt, ha, q, -⟩ := cOK_I (u_isThere_c hd) (A := [.inr 62]) (show aF2 gW [aRef 62] [.inr 62] from ⟨gW_o, trivial⟩) hM (show gP0 [] M from fun e he => by cases he) rfl
  refine ⟨z, M', e, g, f, ?_⟩
  have ha : alt ∈ [(some (0, 0, 0, 0, 0, 0), [], [(60, 3, (0, 1, 10, 0, 0, 0))]), (some (0, 1, 1, 0, 0, 0), [], [])] := ha
  simp only [List.mem_cons, List.not_mem_nil, or_false] at ha
  rcases ha with rfl | rfl
  · obtain ⟨z2, e2, r⟩ := gW_int (show gW _ _ from q) (Nat.le_of_ble_eq_true rfl)
    cases e2
    have := gR0 r
    omega
  · obtain ⟨z2, e2, r⟩ := gW_int (show gW _ _ from q) (Nat.le_of_ble_eq_true rfl)
    cases e2
    have := gR0 r
    omega
end
section
/-! the calls that need no hand (by program) -/
theorem q_X_sign_c {d : Nat} (hd : 2 ≤ d) : cOK gAll (xF d) 0 K_1 := ct_of ct_ok (show K_1 ∈ CT.get 0 from (show CT.get 0 = [K_1] from rfl) ▸ by simp) hd
theorem q_X_sign {d : Nat} (hd : 2 ≤ d) {M : pM} {a1 : Int} (hM : gM gAll M) (h1 : -2147483648 ≤ a1 ∧ a1 ≤ 2147483647) : ∃ z M', xF d 0 [.inr 2, .inl a1] M = rI z M' ∧ gM gAll M' ∧ Fr [(1, 1), (2, 999)] M M' ∧ (-1 ≤ z ∧ z ≤ 80) := by
  obtain ⟨z, M', e, g, f, alt, ha, q, -⟩ := cOK_I (q_X_sign_c hd) (A := [.inr 2, .inl a1]) (show aF2 gW [aRef 2, (0, -2147483648, 2147483647, 0, 0, 0)] [.inr 2, .inl a1] from ⟨gW_o, gW_i h1.1 h1.2, trivial⟩) hM (show gP0 [] M from fun e he => by cases he) rfl
  refine ⟨z, M', e, g, f, ?_⟩
  have ha : alt ∈ [(some (0, -1, -1, 0, 0, 0), [], [(1, 1, (0, 77, 80, 0, 0, 0))]), (some (0, 4, 80, 0, 0, 0), [], [(1, 1, (0, 4, 80, 0, 0, 0))])] := ha
  simp only [List.mem_cons, List.not_mem_nil, or_false] at ha
  rcases ha with rfl | rfl
  · obtain ⟨z2, e2, r⟩ := gW_int (show gW _ _ from q) (Nat.le_of_ble_eq_true rfl)
    cases e2
    have := gR0 r
    omega
  · obtain ⟨z2, e2, r⟩ := gW_int (show gW _ _ from q) (Nat.le_of_ble_eq_true rfl)
    cases e2
    have := gR0 r
    omega
theorem q_X_end_c {d : Nat} (hd : 2 ≤ d) : cOK gAll (xF d) 1 K_3 := ct_of ct_ok (show K_3 ∈ CT.get 1 from (show CT.get 1 = [K_3] from rfl) ▸ by simp) hd
theorem q_X_end {d : Nat} (hd : 2 ≤ d) {M : pM} {a1 : Int} (hM : gM gAll M) (h1 : -2147483648 ≤ a1 ∧ a1 ≤ 2147483647) : ∃ z M', xF d 1 [.inr 2, .inl a1] M = rI z M' ∧ gM gAll M' ∧ Fr [(1, 1)] M M' ∧ (0 ≤ z ∧ z ≤ 1) := by
  obtain ⟨z, M', e, g, f, alt, ha, q, -⟩ := cOK_I (q_X_end_c hd) (A := [.inr 2, .inl a1]) (show aF2 gW [aRef 2, (0, -2147483648, 2147483647, 0, 0, 0)] [.inr 2, .inl a1] from ⟨gW_o, gW_i h1.1 h1.2, trivial⟩) hM (show gP0 [] M from fun e he => by cases he) rfl
  refine ⟨z, M', e, g, f, ?_⟩
  have ha : alt ∈ [(some (0, 0, 0, 0, 0, 0), [], []), (some (0, 1, 1, 0, 0, 0), [(4, 0, 0, 0, 0, 0), (0, 0, 80, 0, 0, 0)], [])] := ha
  simp only [List.mem_cons, List.not_mem_nil, or_false] at ha
  rcases ha with rfl | rfl
  · obtain ⟨z2, e2, r⟩ := gW_int (show gW _ _ from q) (Nat.le_of_ble_eq_true rfl)
    cases e2
    have := gR0 r
    omega
  · obtain ⟨z2, e2, r⟩ := gW_int (show gW _ _ from q) (Nat.le_of_ble_eq_true rfl)
    cases e2
    have := gR0 r
    omega
theorem q_X_house_c {d : Nat} (hd : 8 ≤ d) : cOK gAll (xF d) 2 K_166 := ct_of ct_ok (show K_166 ∈ CT.get 2 from (show CT.get 2 = [K_166] from rfl) ▸ by simp) hd
theorem q_X_house {d : Nat} (hd : 8 ≤ d) {M : pM} (hM : gM gAll M)  : ∃ z M', xF d 2 [.inr 2] M = rI z M' ∧ gM gAll M' ∧ Fr [(1, 1), (3, 1), (3, 2), (3, 3), (7, 9), (7, 10), (7, 11), (7, 12), (8, 999), (9, 999), (10, 999), (11, 999), (12, 999), (13, 999), (14, 999), (15, 999), (16, 999), (17, 9), (17, 10), (17, 11), (17, 12), (18, 999), (19, 999), (20, 999), (21, 999), (22, 999), (23, 999), (24, 999), (25, 999), (26, 999), (39, 3)] M M' := by
  obtain ⟨z, M', e, g, f, alt, ha, q, -⟩ := cOK_I (q_X_house_c hd) (A := [.inr 2]) (show aF2 gW [aRef 2] [.inr 2] from ⟨gW_o, trivial⟩) hM (show gP0 [] M from fun e he => by cases he) rfl
  exact ⟨z, M', e, g, f⟩
theorem q_X_rule_c {d : Nat} (hd : 32 ≤ d) : cOK gAll (xF d) 3 K_214 := ct_of ct_ok (show K_214 ∈ CT.get 3 from (show CT.get 3 = [K_214] from rfl) ▸ by simp) hd
theorem q_X_rule {d : Nat} (hd : 32 ≤ d) {M : pM} (hM : gM gAll M)  : ∃ z M', xF d 3 [.inr 2] M = rI z M' ∧ gM gAll M' ∧ Fr [(1, 1), (3, 1), (3, 2), (3, 3), (28, 1), (29, 999)] M M' ∧ (-81 ≤ z ∧ z ≤ 0) := by
  obtain ⟨z, M', e, g, f, alt, ha, q, -⟩ := cOK_I (q_X_rule_c hd) (A := [.inr 2]) (show aF2 gW [aRef 2] [.inr 2] from ⟨gW_o, trivial⟩) hM (show gP0 [] M from fun e he => by cases he) rfl
  refine ⟨z, M', e, g, f, ?_⟩
  have ha : alt ∈ [(some (0, 0, 0, 0, 0, 0), [], [(3, 2, (0, 0, 40, 0, 0, 0)), (3, 3, (0, -1, -1, 0, 0, 0))]), (some (0, -81, -1, 0, 0, 0), [], [(3, 2, (0, 0, 40, 0, 0, 0))])] := ha
  simp only [List.mem_cons, List.not_mem_nil, or_false] at ha
  rcases ha with rfl | rfl
  · obtain ⟨z2, e2, r⟩ := gW_int (show gW _ _ from q) (Nat.le_of_ble_eq_true rfl)
    cases e2
    have := gR0 r
    omega
  · obtain ⟨z2, e2, r⟩ := gW_int (show gW _ _ from q) (Nat.le_of_ble_eq_true rfl)
    cases e2
    have := gR0 r
    omega
theorem q_X_set_c {d : Nat} (hd : 1 ≤ d) : cOK gAll (xF d) 6 K_215 := ct_of ct_ok (show K_215 ∈ CT.get 6 from (show CT.get 6 = [K_215] from rfl) ▸ by simp) hd
theorem q_X_set {d : Nat} (hd : 1 ≤ d) {M : pM} {a1 : Int} (hM : gM gAll M) (h1 : -2147483648 ≤ a1 ∧ a1 ≤ 2147483647) : ∃ z M', xF d 6 [.inr 2, .inl a1] M = rI z M' ∧ gM gAll M' ∧ Fr [] M M' ∧ (-1 ≤ z ∧ z ≤ 1023) := by
  obtain ⟨z, M', e, g, f, alt, ha, q, -⟩ := cOK_I (q_X_set_c hd) (A := [.inr 2, .inl a1]) (show aF2 gW [aRef 2, (0, -2147483648, 2147483647, 0, 0, 0)] [.inr 2, .inl a1] from ⟨gW_o, gW_i h1.1 h1.2, trivial⟩) hM (show gP0 [] M from fun e he => by cases he) rfl
  refine ⟨z, M', e, g, f, ?_⟩
  have ha : alt ∈ [(some (0, -1, -1, 0, 0, 0), [], []), (some (0, 0, 1023, 0, 0, 0), [(4, 0, 0, 0, 0, 0), (0, 0, 7, 0, 0, 0)], [(7, 11, (0, 1, 8, 0, 0, 0))])] := ha
  simp only [List.mem_cons, List.not_mem_nil, or_false] at ha
  rcases ha with rfl | rfl
  · obtain ⟨z2, e2, r⟩ := gW_int (show gW _ _ from q) (Nat.le_of_ble_eq_true rfl)
    cases e2
    have := gR0 r
    omega
  · obtain ⟨z2, e2, r⟩ := gW_int (show gW _ _ from q) (Nat.le_of_ble_eq_true rfl)
    cases e2
    have := gR0 r
    omega
theorem q_X_door_c {d : Nat} (hd : 4 ≤ d) : cOK gAll (xF d) 7 K_219 := ct_of ct_ok (show K_219 ∈ CT.get 7 from (show CT.get 7 = [K_219] from rfl) ▸ by simp) hd
theorem q_X_door {d : Nat} (hd : 4 ≤ d) {M : pM} {a1 : Int} {a2 : Int} (hM : gM gAll M) (h1 : -2147483648 ≤ a1 ∧ a1 ≤ 2147483647) (h2 : -2147483648 ≤ a2 ∧ a2 ≤ 2147483647) : ∃ z M', xF d 7 [.inr 2, .inl a1, .inl a2] M = rI z M' ∧ gM gAll M' ∧ Fr [] M M' ∧ (-2 ≤ z ∧ z ≤ 9) := by
  obtain ⟨z, M', e, g, f, alt, ha, q, -⟩ := cOK_I (q_X_door_c hd) (A := [.inr 2, .inl a1, .inl a2]) (show aF2 gW [aRef 2, (0, -2147483648, 2147483647, 0, 0, 0), (0, -2147483648, 2147483647, 0, 0, 0)] [.inr 2, .inl a1, .inl a2] from ⟨gW_o, gW_i h1.1 h1.2, gW_i h2.1 h2.2, trivial⟩) hM (show gP0 [] M from fun e he => by cases he) rfl
  refine ⟨z, M', e, g, f, ?_⟩
  have ha : alt ∈ [(some (0, -1, -1, 0, 0, 0), [], []), (some (0, -2, -2, 0, 0, 0), [(4, 0, 0, 0, 0, 0), (0, 0, 5, 0, 0, 0), (0, 0, 5, 0, 0, 0)], [(7, 9, (0, 1, 6, 0, 0, 0))]), (some (0, 1, 9, 0, 0, 0), [(4, 0, 0, 0, 0, 0), (0, 0, 5, 0, 0, 0), (0, 0, 5, 0, 0, 0)], [(7, 9, (0, 1, 6, 0, 0, 0))])] := ha
  simp only [List.mem_cons, List.not_mem_nil, or_false] at ha
  rcases ha with rfl | rfl | rfl
  · obtain ⟨z2, e2, r⟩ := gW_int (show gW _ _ from q) (Nat.le_of_ble_eq_true rfl)
    cases e2
    have := gR0 r
    omega
  · obtain ⟨z2, e2, r⟩ := gW_int (show gW _ _ from q) (Nat.le_of_ble_eq_true rfl)
    cases e2
    have := gR0 r
    omega
  · obtain ⟨z2, e2, r⟩ := gW_int (show gW _ _ from q) (Nat.le_of_ble_eq_true rfl)
    cases e2
    have := gR0 r
    omega
theorem q_X_widen_c {d : Nat} (hd : 4 ≤ d) : cOK gAll (xF d) 8 K_221 := ct_of ct_ok (show K_221 ∈ CT.get 8 from (show CT.get 8 = [K_221] from rfl) ▸ by simp) hd
theorem q_X_widen {d : Nat} (hd : 4 ≤ d) {M : pM} {a1 : Int} {a2 : Int} {a3 : Int} (hM : gM gAll M) (h1 : -2147483648 ≤ a1 ∧ a1 ≤ 2147483647) (h2 : -2147483648 ≤ a2 ∧ a2 ≤ 2147483647) (h3 : -2147483648 ≤ a3 ∧ a3 ≤ 2147483647) : ∃ z M', xF d 8 [.inr 2, .inl a1, .inl a2, .inl a3] M = rI z M' ∧ gM gAll M' ∧ Fr [(9, 999)] M M' ∧ (-1 ≤ z ∧ z ≤ 9) := by
  obtain ⟨z, M', e, g, f, alt, ha, q, -⟩ := cOK_I (q_X_widen_c hd) (A := [.inr 2, .inl a1, .inl a2, .inl a3]) (show aF2 gW [aRef 2, (0, -2147483648, 2147483647, 0, 0, 0), (0, -2147483648, 2147483647, 0, 0, 0), (0, -2147483648, 2147483647, 0, 0, 0)] [.inr 2, .inl a1, .inl a2, .inl a3] from ⟨gW_o, gW_i h1.1 h1.2, gW_i h2.1 h2.2, gW_i h3.1 h3.2, trivial⟩) hM (show gP0 [] M from fun e he => by cases he) rfl
  refine ⟨z, M', e, g, f, ?_⟩
  have ha : alt ∈ [(some (0, -1, -1, 0, 0, 0), [], []), (some (0, 0, 0, 0, 0, 0), [(4, 0, 0, 0, 0, 0), (0, 0, 5, 0, 0, 0), (0, 0, 5, 0, 0, 0), (0, 0, 9, 0, 0, 0)], [(7, 9, (0, 1, 6, 0, 0, 0))]), (some (0, 0, 9, 0, 0, 0), [(4, 0, 0, 0, 0, 0), (0, 0, 5, 0, 0, 0), (0, 0, 5, 0, 0, 0), (0, 0, 9, 0, 0, 0)], [(7, 9, (0, 1, 6, 0, 0, 0))])] := ha
  simp only [List.mem_cons, List.not_mem_nil, or_false] at ha
  rcases ha with rfl | rfl | rfl
  · obtain ⟨z2, e2, r⟩ := gW_int (show gW _ _ from q) (Nat.le_of_ble_eq_true rfl)
    cases e2
    have := gR0 r
    omega
  · obtain ⟨z2, e2, r⟩ := gW_int (show gW _ _ from q) (Nat.le_of_ble_eq_true rfl)
    cases e2
    have := gR0 r
    omega
  · obtain ⟨z2, e2, r⟩ := gW_int (show gW _ _ from q) (Nat.le_of_ble_eq_true rfl)
    cases e2
    have := gR0 r
    omega
theorem q_X_strength_c {d : Nat} (hd : 1 ≤ d) : cOK gAll (xF d) 9 K_222 := ct_of ct_ok (show K_222 ∈ CT.get 9 from (show CT.get 9 = [K_222] from rfl) ▸ by simp) hd
theorem q_X_strength {d : Nat} (hd : 1 ≤ d) {M : pM} {a1 : Int} (hM : gM gAll M) (h1 : -2147483648 ≤ a1 ∧ a1 ≤ 2147483647) : ∃ z M', xF d 9 [.inr 2, .inl a1] M = rI z M' ∧ gM gAll M' ∧ Fr [(0, 17)] M M' ∧ (-1 ≤ z ∧ z ≤ 999) := by
  obtain ⟨z, M', e, g, f, alt, ha, q, -⟩ := cOK_I (q_X_strength_c hd) (A := [.inr 2, .inl a1]) (show aF2 gW [aRef 2, (0, -2147483648, 2147483647, 0, 0, 0)] [.inr 2, .inl a1] from ⟨gW_o, gW_i h1.1 h1.2, trivial⟩) hM (show gP0 [] M from fun e he => by cases he) rfl
  refine ⟨z, M', e, g, f, ?_⟩
  have ha : alt ∈ [(some (0, -1, -1, 0, 0, 0), [], []), (some (0, 1, 999, 0, 0, 0), [(4, 0, 0, 0, 0, 0), (0, 1, 999, 0, 0, 0)], [])] := ha
  simp only [List.mem_cons, List.not_mem_nil, or_false] at ha
  rcases ha with rfl | rfl
  · obtain ⟨z2, e2, r⟩ := gW_int (show gW _ _ from q) (Nat.le_of_ble_eq_true rfl)
    cases e2
    have := gR0 r
    omega
  · obtain ⟨z2, e2, r⟩ := gW_int (show gW _ _ from q) (Nat.le_of_ble_eq_true rfl)
    cases e2
    have := gR0 r
    omega
theorem q_X_sheet_c {d : Nat} (hd : 2 ≤ d) : cOK gAll (xF d) 10 K_224 := ct_of ct_ok (show K_224 ∈ CT.get 10 from (show CT.get 10 = [K_224] from rfl) ▸ by simp) hd
theorem q_X_sheet {d : Nat} (hd : 2 ≤ d) {M : pM} {a1 : Int} {a2 : Int} {a3 : Int} {a4 : Int} (hM : gM gAll M) (h1 : -2147483648 ≤ a1 ∧ a1 ≤ 2147483647) (h2 : -2147483648 ≤ a2 ∧ a2 ≤ 2147483647) (h3 : -2147483648 ≤ a3 ∧ a3 ≤ 2147483647) (h4 : -2147483648 ≤ a4 ∧ a4 ≤ 2147483647) : ∃ z M', xF d 10 [.inr 2, .inl a1, .inl a2, .inl a3, .inl a4] M = rI z M' ∧ gM gAll M' ∧ Fr [(12, 999)] M M' := by
  obtain ⟨z, M', e, g, f, alt, ha, q, -⟩ := cOK_I (q_X_sheet_c hd) (A := [.inr 2, .inl a1, .inl a2, .inl a3, .inl a4]) (show aF2 gW [aRef 2, (0, -2147483648, 2147483647, 0, 0, 0), (0, -2147483648, 2147483647, 0, 0, 0), (0, -2147483648, 2147483647, 0, 0, 0), (0, -2147483648, 2147483647, 0, 0, 0)] [.inr 2, .inl a1, .inl a2, .inl a3, .inl a4] from ⟨gW_o, gW_i h1.1 h1.2, gW_i h2.1 h2.2, gW_i h3.1 h3.2, gW_i h4.1 h4.2, trivial⟩) hM (show gP0 [] M from fun e he => by cases he) rfl
  exact ⟨z, M', e, g, f⟩
theorem q_X_carry_c {d : Nat} (hd : 6 ≤ d) : cOK gAll (xF d) 11 K_234 := ct_of ct_ok (show K_234 ∈ CT.get 11 from (show CT.get 11 = [K_234] from rfl) ▸ by simp) hd
theorem q_X_carry {d : Nat} (hd : 6 ≤ d) {M : pM} {a1 : Int} {a2 : Int} (hM : gM gAll M) (h1 : -2147483648 ≤ a1 ∧ a1 ≤ 2147483647) (h2 : -2147483648 ≤ a2 ∧ a2 ≤ 2147483647) : ∃ z M', xF d 11 [.inr 2, .inl a1, .inl a2] M = rI z M' ∧ gM gAll M' ∧ Fr [(0, 16), (13, 999), (39, 3), (40, 999), (41, 999), (42, 999)] M M' ∧ (-3 ≤ z ∧ z ≤ 45) := by
  obtain ⟨z, M', e, g, f, alt, ha, q, -⟩ := cOK_I (q_X_carry_c hd) (A := [.inr 2, .inl a1, .inl a2]) (show aF2 gW [aRef 2, (0, -2147483648, 2147483647, 0, 0, 0), (0, -2147483648, 2147483647, 0, 0, 0)] [.inr 2, .inl a1, .inl a2] from ⟨gW_o, gW_i h1.1 h1.2, gW_i h2.1 h2.2, trivial⟩) hM (show gP0 [] M from fun e he => by cases he) rfl
  refine ⟨z, M', e, g, f, ?_⟩
  have ha : alt ∈ [(some (0, -1, -1, 0, 0, 0), [], []), (some (0, -2, -2, 0, 0, 0), [(4, 0, 0, 0, 0, 0), (0, 0, 9, 0, 0, 0), (0, 0, 5, 0, 0, 0)], [(7, 9, (0, 1, 6, 0, 0, 0)), (7, 10, (0, 1, 10, 0, 0, 0))]), (some (0, -3, -3, 0, 0, 0), [(4, 0, 0, 0, 0, 0), (0, 0, 9, 0, 0, 0), (0, 0, 5, 0, 0, 0)], [(7, 9, (0, 1, 6, 0, 0, 0)), (7, 10, (0, 1, 10, 0, 0, 0))]), (some (0, 0, 45, 0, 0, 0), [(4, 0, 0, 0, 0, 0), (0, 0, 9, 0, 0, 0), (0, 0, 5, 0, 0, 0)], [(7, 9, (0, 1, 6, 0, 0, 0)), (7, 10, (0, 1, 10, 0, 0, 0))])] := ha
  simp only [List.mem_cons, List.not_mem_nil, or_false] at ha
  rcases ha with rfl | rfl | rfl | rfl
  · obtain ⟨z2, e2, r⟩ := gW_int (show gW _ _ from q) (Nat.le_of_ble_eq_true rfl)
    cases e2
    have := gR0 r
    omega
  · obtain ⟨z2, e2, r⟩ := gW_int (show gW _ _ from q) (Nat.le_of_ble_eq_true rfl)
    cases e2
    have := gR0 r
    omega
  · obtain ⟨z2, e2, r⟩ := gW_int (show gW _ _ from q) (Nat.le_of_ble_eq_true rfl)
    cases e2
    have := gR0 r
    omega
  · obtain ⟨z2, e2, r⟩ := gW_int (show gW _ _ from q) (Nat.le_of_ble_eq_true rfl)
    cases e2
    have := gR0 r
    omega
theorem q_X_evening_c {d : Nat} (hd : 5 ≤ d) : cOK gAll (xF d) 12 K_244 := ct_of ct_ok (show K_244 ∈ CT.get 12 from (show CT.get 12 = [K_244] from rfl) ▸ by simp) hd
theorem q_X_evening {d : Nat} (hd : 5 ≤ d) {M : pM} (hM : gM gAll M)  : ∃ z M', xF d 12 [.inr 2] M = rI z M' ∧ gM gAll M' ∧ Fr [(0, 15), (0, 16), (5, 1), (6, 999), (39, 3)] M M' ∧ (0 ≤ z ∧ z ≤ 1) := by
  obtain ⟨z, M', e, g, f, alt, ha, q, -⟩ := cOK_I (q_X_evening_c hd) (A := [.inr 2]) (show aF2 gW [aRef 2] [.inr 2] from ⟨gW_o, trivial⟩) hM (show gP0 [] M from fun e he => by cases he) rfl
  refine ⟨z, M', e, g, f, ?_⟩
  have ha : alt ∈ [(some (0, 0, 0, 0, 0, 0), [], [(5, 1, (0, 1, 12, 0, 0, 0))]), (some (0, 1, 1, 0, 0, 0), [], [(0, 16, (0, 0, 0, 0, 0, 0)), (5, 1, (0, 1, 12, 0, 0, 0)), (39, 3, (0, 0, 0, 0, 0, 0))])] := ha
  simp only [List.mem_cons, List.not_mem_nil, or_false] at ha
  rcases ha with rfl | rfl
  · obtain ⟨z2, e2, r⟩ := gW_int (show gW _ _ from q) (Nat.le_of_ble_eq_true rfl)
    cases e2
    have := gR0 r
    omega
  · obtain ⟨z2, e2, r⟩ := gW_int (show gW _ _ from q) (Nat.le_of_ble_eq_true rfl)
    cases e2
    have := gR0 r
    omega
theorem q_X_day_c {d : Nat} (hd : 7 ≤ d) : cOK gAll (xF d) 13 K_260 := ct_of ct_ok (show K_260 ∈ CT.get 13 from (show CT.get 13 = [K_260] from rfl) ▸ by simp) hd
theorem q_X_day {d : Nat} (hd : 7 ≤ d) {M : pM} (hM : gM gAll M)  : ∃ z M', xF d 13 [.inr 2] M = rI z M' ∧ gM gAll M' ∧ Fr [(0, 15), (0, 16), (1, 1), (3, 1), (3, 2), (3, 3), (5, 1), (6, 999), (13, 999), (39, 3), (40, 999), (41, 999), (42, 999)] M M' := by
  obtain ⟨z, M', e, g, f, alt, ha, q, -⟩ := cOK_I (q_X_day_c hd) (A := [.inr 2]) (show aF2 gW [aRef 2] [.inr 2] from ⟨gW_o, trivial⟩) hM (show gP0 [] M from fun e he => by cases he) rfl
  exact ⟨z, M', e, g, f⟩
theorem q_X_undo_c {d : Nat} (hd : 2 ≤ d) : cOK gAll (xF d) 14 K_264 := ct_of ct_ok (show K_264 ∈ CT.get 14 from (show CT.get 14 = [K_264] from rfl) ▸ by simp) hd
theorem q_X_undo {d : Nat} (hd : 2 ≤ d) {M : pM} (hM : gM gAll M)  : ∃ z M', xF d 14 [.inr 2] M = rI z M' ∧ gM gAll M' ∧ Fr [(0, 16), (13, 999), (39, 3)] M M' ∧ (-1 ≤ z ∧ z ≤ 19) := by
  obtain ⟨z, M', e, g, f, alt, ha, q, -⟩ := cOK_I (q_X_undo_c hd) (A := [.inr 2]) (show aF2 gW [aRef 2] [.inr 2] from ⟨gW_o, trivial⟩) hM (show gP0 [] M from fun e he => by cases he) rfl
  refine ⟨z, M', e, g, f, ?_⟩
  have ha : alt ∈ [(some (0, -1, -1, 0, 0, 0), [], [(39, 3, (0, 0, 0, 0, 0, 0))]), (some (0, 0, 19, 0, 0, 0), [], [(39, 3, (0, 0, 19, 0, 0, 0))])] := ha
  simp only [List.mem_cons, List.not_mem_nil, or_false] at ha
  rcases ha with rfl | rfl
  · obtain ⟨z2, e2, r⟩ := gW_int (show gW _ _ from q) (Nat.le_of_ble_eq_true rfl)
    cases e2
    have := gR0 r
    omega
  · obtain ⟨z2, e2, r⟩ := gW_int (show gW _ _ from q) (Nat.le_of_ble_eq_true rfl)
    cases e2
    have := gR0 r
    omega
theorem q_X_judge_c {d : Nat} (hd : 6 ≤ d) : cOK gAll (xF d) 15 K_274 := ct_of ct_ok (show K_274 ∈ CT.get 15 from (show CT.get 15 = [K_274] from rfl) ▸ by simp) hd
theorem q_X_judge {d : Nat} (hd : 6 ≤ d) {M : pM} {a1 : Int} {a2 : Int} (hM : gM gAll M) (h1 : -2147483648 ≤ a1 ∧ a1 ≤ 2147483647) (h2 : -2147483648 ≤ a2 ∧ a2 ≤ 2147483647) : ∃ z M', xF d 15 [.inr 2, .inl a1, .inl a2] M = rI z M' ∧ gM gAll M' ∧ Fr [(5, 1), (6, 999), (59, 999)] M M' ∧ (-2 ≤ z ∧ z ≤ 3) := by
  obtain ⟨z, M', e, g, f, alt, ha, q, -⟩ := cOK_I (q_X_judge_c hd) (A := [.inr 2, .inl a1, .inl a2]) (show aF2 gW [aRef 2, (0, -2147483648, 2147483647, 0, 0, 0), (0, -2147483648, 2147483647, 0, 0, 0)] [.inr 2, .inl a1, .inl a2] from ⟨gW_o, gW_i h1.1 h1.2, gW_i h2.1 h2.2, trivial⟩) hM (show gP0 [] M from fun e he => by cases he) rfl
  refine ⟨z, M', e, g, f, ?_⟩
  have ha : alt ∈ [(some (0, -1, -1, 0, 0, 0), [], []), (some (0, -2, 3, 0, 0, 0), [(4, 0, 0, 0, 0, 0), (0, 0, 4, 0, 0, 0)], [(5, 1, (0, 1, 12, 0, 0, 0))])] := ha
  simp only [List.mem_cons, List.not_mem_nil, or_false] at ha
  rcases ha with rfl | rfl
  · obtain ⟨z2, e2, r⟩ := gW_int (show gW _ _ from q) (Nat.le_of_ble_eq_true rfl)
    cases e2
    have := gR0 r
    omega
  · obtain ⟨z2, e2, r⟩ := gW_int (show gW _ _ from q) (Nat.le_of_ble_eq_true rfl)
    cases e2
    have := gR0 r
    omega
theorem q_X_clumps_c {d : Nat} (hd : 2 ≤ d) : cOK gAll (xF d) 16 K_275 := ct_of ct_ok (show K_275 ∈ CT.get 16 from (show CT.get 16 = [K_275] from rfl) ▸ by simp) hd
theorem q_X_clumps {d : Nat} (hd : 2 ≤ d) {M : pM} (hM : gM gAll M)  : ∃ z M', xF d 16 [.inr 2] M = rI z M' ∧ gM gAll M' ∧ Fr [(5, 1), (6, 999)] M M' ∧ (0 ≤ z ∧ z ≤ 10) := by
  obtain ⟨z, M', e, g, f, alt, ha, q, -⟩ := cOK_I (q_X_clumps_c hd) (A := [.inr 2]) (show aF2 gW [aRef 2] [.inr 2] from ⟨gW_o, trivial⟩) hM (show gP0 [] M from fun e he => by cases he) rfl
  refine ⟨z, M', e, g, f, ?_⟩
  have ha : alt ∈ [(some (0, 0, 10, 0, 0, 0), [], [])] := ha
  simp only [List.mem_cons, List.not_mem_nil, or_false] at ha
  rcases ha with rfl
  · obtain ⟨z2, e2, r⟩ := gW_int (show gW _ _ from q) (Nat.le_of_ble_eq_true rfl)
    cases e2
    have := gR0 r
    omega
theorem q_X_heaviest_c {d : Nat} (hd : 4 ≤ d) : cOK gAll (xF d) 17 K_279 := ct_of ct_ok (show K_279 ∈ CT.get 17 from (show CT.get 17 = [K_279] from rfl) ▸ by simp) hd
theorem q_X_heaviest {d : Nat} (hd : 4 ≤ d) {M : pM} (hM : gM gAll M)  : ∃ z M', xF d 17 [.inr 2] M = rI z M' ∧ gM gAll M' ∧ Fr [(5, 1), (6, 999)] M M' ∧ (-2 ≤ z ∧ z ≤ 9) := by
  obtain ⟨z, M', e, g, f, alt, ha, q, -⟩ := cOK_I (q_X_heaviest_c hd) (A := [.inr 2]) (show aF2 gW [aRef 2] [.inr 2] from ⟨gW_o, trivial⟩) hM (show gP0 [] M from fun e he => by cases he) rfl
  refine ⟨z, M', e, g, f, ?_⟩
  have ha : alt ∈ [(some (0, -2, -2, 0, 0, 0), [], [(7, 10, (0, 0, 0, 0, 0, 0))]), (some (0, 0, 9, 0, 0, 0), [], [(5, 1, (0, 1, 12, 0, 0, 0)), (7, 10, (0, 1, 10, 0, 0, 0))])] := ha
  simp only [List.mem_cons, List.not_mem_nil, or_false] at ha
  rcases ha with rfl | rfl
  · obtain ⟨z2, e2, r⟩ := gW_int (show gW _ _ from q) (Nat.le_of_ble_eq_true rfl)
    cases e2
    have := gR0 r
    omega
  · obtain ⟨z2, e2, r⟩ := gW_int (show gW _ _ from q) (Nat.le_of_ble_eq_true rfl)
    cases e2
    have := gR0 r
    omega
theorem q_X_without_c {d : Nat} (hd : 4 ≤ d) : cOK gAll (xF d) 18 K_283 := ct_of ct_ok (show K_283 ∈ CT.get 18 from (show CT.get 18 = [K_283] from rfl) ▸ by simp) hd
theorem q_X_without {d : Nat} (hd : 4 ≤ d) {M : pM} {a1 : Int} (hM : gM gAll M) (h1 : -2147483648 ≤ a1 ∧ a1 ≤ 2147483647) : ∃ z M', xF d 18 [.inr 2, .inl a1] M = rI z M' ∧ gM gAll M' ∧ Fr [(5, 1), (6, 999)] M M' := by
  obtain ⟨z, M', e, g, f, alt, ha, q, -⟩ := cOK_I (q_X_without_c hd) (A := [.inr 2, .inl a1]) (show aF2 gW [aRef 2, (0, -2147483648, 2147483647, 0, 0, 0)] [.inr 2, .inl a1] from ⟨gW_o, gW_i h1.1 h1.2, trivial⟩) hM (show gP0 [] M from fun e he => by cases he) rfl
  exact ⟨z, M', e, g, f⟩
theorem q_X_breaks_c {d : Nat} (hd : 4 ≤ d) : cOK gAll (xF d) 19 K_285 := ct_of ct_ok (show K_285 ∈ CT.get 19 from (show CT.get 19 = [K_285] from rfl) ▸ by simp) hd
theorem q_X_breaks {d : Nat} (hd : 4 ≤ d) {M : pM} {a1 : Int} (hM : gM gAll M) (h1 : -2147483648 ≤ a1 ∧ a1 ≤ 2147483647) : ∃ z M', xF d 19 [.inr 2, .inl a1] M = rI z M' ∧ gM gAll M' ∧ Fr [(7, 12), (14, 999), (15, 999), (16, 999)] M M' ∧ (-1 ≤ z ∧ z ≤ 10) := by
  obtain ⟨z, M', e, g, f, alt, ha, q, -⟩ := cOK_I (q_X_breaks_c hd) (A := [.inr 2, .inl a1]) (show aF2 gW [aRef 2, (0, -2147483648, 2147483647, 0, 0, 0)] [.inr 2, .inl a1] from ⟨gW_o, gW_i h1.1 h1.2, trivial⟩) hM (show gP0 [] M from fun e he => by cases he) rfl
  refine ⟨z, M', e, g, f, ?_⟩
  have ha : alt ∈ [(some (0, -1, -1, 0, 0, 0), [], []), (some (0, 0, 10, 0, 0, 0), [(4, 0, 0, 0, 0, 0), (0, 0, 9, 0, 0, 0)], [(7, 10, (0, 1, 10, 0, 0, 0))])] := ha
  simp only [List.mem_cons, List.not_mem_nil, or_false] at ha
  rcases ha with rfl | rfl
  · obtain ⟨z2, e2, r⟩ := gW_int (show gW _ _ from q) (Nat.le_of_ble_eq_true rfl)
    cases e2
    have := gR0 r
    omega
  · obtain ⟨z2, e2, r⟩ := gW_int (show gW _ _ from q) (Nat.le_of_ble_eq_true rfl)
    cases e2
    have := gR0 r
    omega
theorem q_X_ties_c {d : Nat} (hd : 4 ≤ d) : cOK gAll (xF d) 20 K_286 := ct_of ct_ok (show K_286 ∈ CT.get 20 from (show CT.get 20 = [K_286] from rfl) ▸ by simp) hd
theorem q_X_ties {d : Nat} (hd : 4 ≤ d) {M : pM} (hM : gM gAll M)  : ∃ z M', xF d 20 [.inr 2] M = rI z M' ∧ gM gAll M' ∧ Fr [] M M' ∧ (0 ≤ z ∧ z ≤ 255) := by
  obtain ⟨z, M', e, g, f, alt, ha, q, -⟩ := cOK_I (q_X_ties_c hd) (A := [.inr 2]) (show aF2 gW [aRef 2] [.inr 2] from ⟨gW_o, trivial⟩) hM (show gP0 [] M from fun e he => by cases he) rfl
  refine ⟨z, M', e, g, f, ?_⟩
  have ha : alt ∈ [(some (0, 0, 255, 0, 0, 0), [], [])] := ha
  simp only [List.mem_cons, List.not_mem_nil, or_false] at ha
  rcases ha with rfl
  · obtain ⟨z2, e2, r⟩ := gW_int (show gW _ _ from q) (Nat.le_of_ble_eq_true rfl)
    cases e2
    have := gR0 r
    omega
theorem q_X_fits_c {d : Nat} (hd : 5 ≤ d) : cOK gAll (xF d) 21 K_300 := ct_of ct_ok (show K_300 ∈ CT.get 21 from (show CT.get 21 = [K_300] from rfl) ▸ by simp) hd
theorem q_X_fits {d : Nat} (hd : 5 ≤ d) {M : pM} (hM : gM gAll M)  : ∃ z M', xF d 21 [.inr 2] M = rI z M' ∧ gM gAll M' ∧ Fr [(5, 1), (6, 999), (32, 6), (32, 7), (32, 8), (32, 9), (32, 10), (32, 11), (33, 999), (34, 999), (35, 999), (36, 999), (37, 999), (38, 999)] M M' := by
  obtain ⟨z, M', e, g, f, alt, ha, q, -⟩ := cOK_I (q_X_fits_c hd) (A := [.inr 2]) (show aF2 gW [aRef 2] [.inr 2] from ⟨gW_o, trivial⟩) hM (show gP0 [] M from fun e he => by cases he) rfl
  exact ⟨z, M', e, g, f⟩
theorem q_X_worth_c {d : Nat} (hd : 32 ≤ d) : cOK gAll (xF d) 22 K_365 := ct_of ct_ok (show K_365 ∈ CT.get 22 from (show CT.get 22 = [K_365] from rfl) ▸ by simp) hd
theorem q_X_worth {d : Nat} (hd : 32 ≤ d) {M : pM} (hM : gM gAll M)  : ∃ z M', xF d 22 [.inr 2] M = rI z M' ∧ gM gAll M' ∧ Fr [(30, 1), (30, 2), (30, 3), (31, 999)] M M' := by
  obtain ⟨z, M', e, g, f, alt, ha, q, -⟩ := cOK_I (q_X_worth_c hd) (A := [.inr 2]) (show aF2 gW [aRef 2] [.inr 2] from ⟨gW_o, trivial⟩) hM (show gP0 [] M from fun e he => by cases he) rfl
  exact ⟨z, M', e, g, f⟩
theorem q_X_best_c {d : Nat} (hd : 32 ≤ d) : cOK gAll (xF d) 23 K_367 := ct_of ct_ok (show K_367 ∈ CT.get 23 from (show CT.get 23 = [K_367] from rfl) ▸ by simp) hd
theorem q_X_best {d : Nat} (hd : 32 ≤ d) {M : pM} (hM : gM gAll M)  : ∃ z M', xF d 23 [.inr 2] M = rI z M' ∧ gM gAll M' ∧ Fr [(5, 1), (6, 999), (30, 1), (30, 2), (30, 3), (31, 999), (32, 6), (32, 7), (32, 8), (32, 9), (32, 10), (32, 11), (33, 999), (34, 999), (35, 999), (36, 999), (37, 999), (38, 999)] M M' ∧ (-3 ≤ z ∧ z ≤ 1) := by
  obtain ⟨z, M', e, g, f, alt, ha, q, -⟩ := cOK_I (q_X_best_c hd) (A := [.inr 2]) (show aF2 gW [aRef 2] [.inr 2] from ⟨gW_o, trivial⟩) hM (show gP0 [] M from fun e he => by cases he) rfl
  refine ⟨z, M', e, g, f, ?_⟩
  have ha : alt ∈ [(some (0, -2, -2, 0, 0, 0), [], []), (some (0, -3, -3, 0, 0, 0), [], []), (some (0, 1, 1, 0, 0, 0), [], [])] := ha
  simp only [List.mem_cons, List.not_mem_nil, or_false] at ha
  rcases ha with rfl | rfl | rfl
  · obtain ⟨z2, e2, r⟩ := gW_int (show gW _ _ from q) (Nat.le_of_ble_eq_true rfl)
    cases e2
    have := gR0 r
    omega
  · obtain ⟨z2, e2, r⟩ := gW_int (show gW _ _ from q) (Nat.le_of_ble_eq_true rfl)
    cases e2
    have := gR0 r
    omega
  · obtain ⟨z2, e2, r⟩ := gW_int (show gW _ _ from q) (Nat.le_of_ble_eq_true rfl)
    cases e2
    have := gR0 r
    omega
theorem q_X_near_c {d : Nat} (hd : 6 ≤ d) : cOK gAll (xF d) 24 K_370 := ct_of ct_ok (show K_370 ∈ CT.get 24 from (show CT.get 24 = [K_370] from rfl) ▸ by simp) hd
theorem q_X_near {d : Nat} (hd : 6 ≤ d) {M : pM} (hM : gM gAll M)  : ∃ z M', xF d 24 [.inr 2] M = rI z M' ∧ gM gAll M' ∧ Fr [(5, 1), (6, 999), (32, 6), (32, 7), (32, 8), (32, 9), (32, 10), (32, 11), (33, 999), (34, 999), (35, 999), (36, 999), (37, 999), (38, 999)] M M' := by
  obtain ⟨z, M', e, g, f, alt, ha, q, -⟩ := cOK_I (q_X_near_c hd) (A := [.inr 2]) (show aF2 gW [aRef 2] [.inr 2] from ⟨gW_o, trivial⟩) hM (show gP0 [] M from fun e he => by cases he) rfl
  exact ⟨z, M', e, g, f⟩
theorem q_X_guest_c {d : Nat} (hd : 6 ≤ d) : cOK gAll (xF d) 25 K_371 := ct_of ct_ok (show K_371 ∈ CT.get 25 from (show CT.get 25 = [K_371] from rfl) ▸ by simp) hd
theorem q_X_guest {d : Nat} (hd : 6 ≤ d) {M : pM} {a1 : Int} {a2 : Int} (hM : gM gAll M) (h1 : -2147483648 ≤ a1 ∧ a1 ≤ 2147483647) (h2 : -2147483648 ≤ a2 ∧ a2 ≤ 2147483647) : ∃ z M', xF d 25 [.inr 2, .inl a1, .inl a2] M = rI z M' ∧ gM gAll M' ∧ Fr [(5, 1), (6, 999), (32, 6), (32, 7), (32, 8), (32, 9), (32, 10), (32, 11), (33, 999), (34, 999), (35, 999), (36, 999), (37, 999), (38, 999)] M M' := by
  obtain ⟨z, M', e, g, f, alt, ha, q, -⟩ := cOK_I (q_X_guest_c hd) (A := [.inr 2, .inl a1, .inl a2]) (show aF2 gW [aRef 2, (0, -2147483648, 2147483647, 0, 0, 0), (0, -2147483648, 2147483647, 0, 0, 0)] [.inr 2, .inl a1, .inl a2] from ⟨gW_o, gW_i h1.1 h1.2, gW_i h2.1 h2.2, trivial⟩) hM (show gP0 [] M from fun e he => by cases he) rfl
  exact ⟨z, M', e, g, f⟩
theorem q_X_space_c {d : Nat} (hd : 6 ≤ d) : cOK gAll (xF d) 26 K_375 := ct_of ct_ok (show K_375 ∈ CT.get 26 from (show CT.get 26 = [K_375] from rfl) ▸ by simp) hd
theorem q_X_space {d : Nat} (hd : 6 ≤ d) {M : pM} (hM : gM gAll M)  : ∃ z M', xF d 26 [.inr 2] M = rI z M' ∧ gM gAll M' ∧ Fr [(5, 1), (6, 999), (32, 6), (32, 7), (32, 8), (32, 9), (32, 10), (32, 11), (33, 999), (34, 999), (35, 999), (36, 999), (37, 999), (38, 999)] M M' := by
  obtain ⟨z, M', e, g, f, alt, ha, q, -⟩ := cOK_I (q_X_space_c hd) (A := [.inr 2]) (show aF2 gW [aRef 2] [.inr 2] from ⟨gW_o, trivial⟩) hM (show gP0 [] M from fun e he => by cases he) rfl
  exact ⟨z, M', e, g, f⟩
theorem q_X_could_c {d : Nat} (hd : 5 ≤ d) : cOK gAll (xF d) 27 K_378 := ct_of ct_ok (show K_378 ∈ CT.get 27 from (show CT.get 27 = [K_378] from rfl) ▸ by simp) hd
theorem q_X_could {d : Nat} (hd : 5 ≤ d) {M : pM} {a1 : Int} {a2 : Int} (hM : gM gAll M) (h1 : -2147483648 ≤ a1 ∧ a1 ≤ 2147483647) (h2 : -2147483648 ≤ a2 ∧ a2 ≤ 2147483647) : ∃ z M', xF d 27 [.inr 2, .inl a1, .inl a2] M = rI z M' ∧ gM gAll M' ∧ Fr [(32, 6), (32, 7), (32, 8), (32, 9), (33, 999), (34, 999), (35, 999), (36, 999), (37, 999)] M M' ∧ (-3 ≤ z ∧ z ≤ 63) := by
  obtain ⟨z, M', e, g, f, alt, ha, q, -⟩ := cOK_I (q_X_could_c hd) (A := [.inr 2, .inl a1, .inl a2]) (show aF2 gW [aRef 2, (0, -2147483648, 2147483647, 0, 0, 0), (0, -2147483648, 2147483647, 0, 0, 0)] [.inr 2, .inl a1, .inl a2] from ⟨gW_o, gW_i h1.1 h1.2, gW_i h2.1 h2.2, trivial⟩) hM (show gP0 [] M from fun e he => by cases he) rfl
  refine ⟨z, M', e, g, f, ?_⟩
  have ha : alt ∈ [(some (0, -1, -1, 0, 0, 0), [], []), (some (0, -3, -3, 0, 0, 0), [(4, 0, 0, 0, 0, 0), (0, 1, 99, 0, 0, 0), (0, 0, 255, 0, 0, 0)], []), (some (0, 0, 63, 0, 0, 0), [(4, 0, 0, 0, 0, 0), (0, 1, 99, 0, 0, 0), (0, 0, 255, 0, 0, 0)], [])] := ha
  simp only [List.mem_cons, List.not_mem_nil, or_false] at ha
  rcases ha with rfl | rfl | rfl
  · obtain ⟨z2, e2, r⟩ := gW_int (show gW _ _ from q) (Nat.le_of_ble_eq_true rfl)
    cases e2
    have := gR0 r
    omega
  · obtain ⟨z2, e2, r⟩ := gW_int (show gW _ _ from q) (Nat.le_of_ble_eq_true rfl)
    cases e2
    have := gR0 r
    omega
  · obtain ⟨z2, e2, r⟩ := gW_int (show gW _ _ from q) (Nat.le_of_ble_eq_true rfl)
    cases e2
    have := gR0 r
    omega
theorem q_X_may_c {d : Nat} (hd : 5 ≤ d) : cOK gAll (xF d) 28 K_381 := ct_of ct_ok (show K_381 ∈ CT.get 28 from (show CT.get 28 = [K_381] from rfl) ▸ by simp) hd
theorem q_X_may {d : Nat} (hd : 5 ≤ d) {M : pM} {a1 : Int} (hM : gM gAll M) (h1 : -2147483648 ≤ a1 ∧ a1 ≤ 2147483647) : ∃ z M', xF d 28 [.inr 2, .inl a1] M = rI z M' ∧ gM gAll M' ∧ Fr [(5, 1), (6, 999), (32, 6), (32, 7), (32, 8), (32, 9), (33, 999), (34, 999), (35, 999), (36, 999), (37, 999)] M M' ∧ (-2147483648 ≤ z ∧ z ≤ 2147483647) := by
  obtain ⟨z, M', e, g, f, alt, ha, q, -⟩ := cOK_I (q_X_may_c hd) (A := [.inr 2, .inl a1]) (show aF2 gW [aRef 2, (0, -2147483648, 2147483647, 0, 0, 0)] [.inr 2, .inl a1] from ⟨gW_o, gW_i h1.1 h1.2, trivial⟩) hM (show gP0 [] M from fun e he => by cases he) rfl
  refine ⟨z, M', e, g, f, ?_⟩
  have ha : alt ∈ [(some (0, -1, -1, 0, 0, 0), [], []), (some (0, -3, -3, 0, 0, 0), [(4, 0, 0, 0, 0, 0), (0, 0, 9, 0, 0, 0)], [(7, 12, (0, 1, 10, 0, 0, 0))]), (some (0, -2147483648, 2147483647, 0, 0, 0), [(4, 0, 0, 0, 0, 0), (0, 0, 9, 0, 0, 0)], [(5, 1, (0, 1, 12, 0, 0, 0)), (7, 12, (0, 1, 10, 0, 0, 0))])] := ha
  simp only [List.mem_cons, List.not_mem_nil, or_false] at ha
  rcases ha with rfl | rfl | rfl
  · obtain ⟨z2, e2, r⟩ := gW_int (show gW _ _ from q) (Nat.le_of_ble_eq_true rfl)
    cases e2
    have := gR0 r
    omega
  · obtain ⟨z2, e2, r⟩ := gW_int (show gW _ _ from q) (Nat.le_of_ble_eq_true rfl)
    cases e2
    have := gR0 r
    omega
  · obtain ⟨z2, e2, r⟩ := gW_int (show gW _ _ from q) (Nat.le_of_ble_eq_true rfl)
    cases e2
    have := gR0 r
    omega
theorem q_X_together_c {d : Nat} (hd : 5 ≤ d) : cOK gAll (xF d) 29 K_383 := ct_of ct_ok (show K_383 ∈ CT.get 29 from (show CT.get 29 = [K_383] from rfl) ▸ by simp) hd
theorem q_X_together {d : Nat} (hd : 5 ≤ d) {M : pM} {a1 : Int} {a2 : Int} (hM : gM gAll M) (h1 : -2147483648 ≤ a1 ∧ a1 ≤ 2147483647) (h2 : -2147483648 ≤ a2 ∧ a2 ≤ 2147483647) : ∃ z M', xF d 29 [.inr 2, .inl a1, .inl a2] M = rI z M' ∧ gM gAll M' ∧ Fr [(5, 1), (6, 999), (32, 6), (32, 7), (32, 8), (32, 9), (33, 999), (34, 999), (35, 999), (36, 999), (37, 999)] M M' := by
  obtain ⟨z, M', e, g, f, alt, ha, q, -⟩ := cOK_I (q_X_together_c hd) (A := [.inr 2, .inl a1, .inl a2]) (show aF2 gW [aRef 2, (0, -2147483648, 2147483647, 0, 0, 0), (0, -2147483648, 2147483647, 0, 0, 0)] [.inr 2, .inl a1, .inl a2] from ⟨gW_o, gW_i h1.1 h1.2, gW_i h2.1 h2.2, trivial⟩) hM (show gP0 [] M from fun e he => by cases he) rfl
  exact ⟨z, M', e, g, f⟩
theorem q_X_fullest_c {d : Nat} (hd : 6 ≤ d) : cOK gAll (xF d) 30 K_384 := ct_of ct_ok (show K_384 ∈ CT.get 30 from (show CT.get 30 = [K_384] from rfl) ▸ by simp) hd
theorem q_X_fullest {d : Nat} (hd : 6 ≤ d) {M : pM} {a1 : Int} (hM : gM gAll M) (h1 : -2147483648 ≤ a1 ∧ a1 ≤ 2147483647) : ∃ z M', xF d 30 [.inr 2, .inl a1] M = rI z M' ∧ gM gAll M' ∧ Fr [(5, 1), (6, 999), (32, 6), (32, 7), (32, 8), (32, 9), (32, 10), (32, 11), (33, 999), (34, 999), (35, 999), (36, 999), (37, 999), (38, 999)] M M' := by
  obtain ⟨z, M', e, g, f, alt, ha, q, -⟩ := cOK_I (q_X_fullest_c hd) (A := [.inr 2, .inl a1]) (show aF2 gW [aRef 2, (0, -2147483648, 2147483647, 0, 0, 0)] [.inr 2, .inl a1] from ⟨gW_o, gW_i h1.1 h1.2, trivial⟩) hM (show gP0 [] M from fun e he => by cases he) rfl
  exact ⟨z, M', e, g, f⟩
theorem q_X_swap_c {d : Nat} (hd : 6 ≤ d) : cOK gAll (xF d) 31 K_386 := ct_of ct_ok (show K_386 ∈ CT.get 31 from (show CT.get 31 = [K_386] from rfl) ▸ by simp) hd
theorem q_X_swap {d : Nat} (hd : 6 ≤ d) {M : pM} {a1 : Int} {a2 : Int} (hM : gM gAll M) (h1 : -2147483648 ≤ a1 ∧ a1 ≤ 2147483647) (h2 : -2147483648 ≤ a2 ∧ a2 ≤ 2147483647) : ∃ z M', xF d 31 [.inr 2, .inl a1, .inl a2] M = rI z M' ∧ gM gAll M' ∧ Fr [(5, 1), (6, 999), (59, 999)] M M' ∧ (-1 ≤ z ∧ z ≤ 1) := by
  obtain ⟨z, M', e, g, f, alt, ha, q, -⟩ := cOK_I (q_X_swap_c hd) (A := [.inr 2, .inl a1, .inl a2]) (show aF2 gW [aRef 2, (0, -2147483648, 2147483647, 0, 0, 0), (0, -2147483648, 2147483647, 0, 0, 0)] [.inr 2, .inl a1, .inl a2] from ⟨gW_o, gW_i h1.1 h1.2, gW_i h2.1 h2.2, trivial⟩) hM (show gP0 [] M from fun e he => by cases he) rfl
  refine ⟨z, M', e, g, f, ?_⟩
  have ha : alt ∈ [(some (0, -1, -1, 0, 0, 0), [], []), (some (0, 0, 0, 0, 0, 0), [(4, 0, 0, 0, 0, 0), (0, 0, 5, 0, 0, 0), (0, 0, 5, 0, 0, 0)], [(5, 1, (0, 1, 12, 0, 0, 0)), (7, 9, (0, 1, 6, 0, 0, 0))]), (some (0, 1, 1, 0, 0, 0), [(4, 0, 0, 0, 0, 0), (0, 0, 5, 0, 0, 0), (0, 0, 5, 0, 0, 0)], [(5, 1, (0, 1, 12, 0, 0, 0)), (7, 9, (0, 1, 6, 0, 0, 0))])] := ha
  simp only [List.mem_cons, List.not_mem_nil, or_false] at ha
  rcases ha with rfl | rfl | rfl
  · obtain ⟨z2, e2, r⟩ := gW_int (show gW _ _ from q) (Nat.le_of_ble_eq_true rfl)
    cases e2
    have := gR0 r
    omega
  · obtain ⟨z2, e2, r⟩ := gW_int (show gW _ _ from q) (Nat.le_of_ble_eq_true rfl)
    cases e2
    have := gR0 r
    omega
  · obtain ⟨z2, e2, r⟩ := gW_int (show gW _ _ from q) (Nat.le_of_ble_eq_true rfl)
    cases e2
    have := gR0 r
    omega
theorem q_X_sell_c {d : Nat} (hd : 5 ≤ d) : cOK gAll (xF d) 32 K_388 := ct_of ct_ok (show K_388 ∈ CT.get 32 from (show CT.get 32 = [K_388] from rfl) ▸ by simp) hd
theorem q_X_sell {d : Nat} (hd : 5 ≤ d) {M : pM} (hM : gM gAll M)  : ∃ z M', xF d 32 [.inr 2] M = rI z M' ∧ gM gAll M' ∧ Fr [(5, 1), (6, 999), (32, 6), (32, 7), (32, 8), (32, 9), (33, 999), (34, 999), (35, 999), (36, 999), (37, 999)] M M' ∧ (-3 ≤ z ∧ z ≤ 63) := by
  obtain ⟨z, M', e, g, f, alt, ha, q, -⟩ := cOK_I (q_X_sell_c hd) (A := [.inr 2]) (show aF2 gW [aRef 2] [.inr 2] from ⟨gW_o, trivial⟩) hM (show gP0 [] M from fun e he => by cases he) rfl
  refine ⟨z, M', e, g, f, ?_⟩
  have ha : alt ∈ [(some (0, -3, -3, 0, 0, 0), [], []), (some (0, 0, 63, 0, 0, 0), [], [(5, 1, (0, 1, 12, 0, 0, 0))])] := ha
  simp only [List.mem_cons, List.not_mem_nil, or_false] at ha
  rcases ha with rfl | rfl
  · obtain ⟨z2, e2, r⟩ := gW_int (show gW _ _ from q) (Nat.le_of_ble_eq_true rfl)
    cases e2
    have := gR0 r
    omega
  · obtain ⟨z2, e2, r⟩ := gW_int (show gW _ _ from q) (Nat.le_of_ble_eq_true rfl)
    cases e2
    have := gR0 r
    omega
theorem q_X_build_c {d : Nat} (hd : 6 ≤ d) : cOK gAll (xF d) 33 K_389 := ct_of ct_ok (show K_389 ∈ CT.get 33 from (show CT.get 33 = [K_389] from rfl) ▸ by simp) hd
theorem q_X_build {d : Nat} (hd : 6 ≤ d) {M : pM} (hM : gM gAll M)  : ∃ z M', xF d 33 [.inr 2] M = rI z M' ∧ gM gAll M' ∧ Fr [(5, 1), (6, 999), (32, 6), (32, 7), (32, 8), (32, 9), (32, 10), (32, 11), (33, 999), (34, 999), (35, 999), (36, 999), (37, 999), (38, 999)] M M' := by
  obtain ⟨z, M', e, g, f, alt, ha, q, -⟩ := cOK_I (q_X_build_c hd) (A := [.inr 2]) (show aF2 gW [aRef 2] [.inr 2] from ⟨gW_o, trivial⟩) hM (show gP0 [] M from fun e he => by cases he) rfl
  exact ⟨z, M', e, g, f⟩
theorem q_X_way_c {d : Nat} (hd : 5 ≤ d) : cOK gAll (xF d) 34 K_391 := ct_of ct_ok (show K_391 ∈ CT.get 34 from (show CT.get 34 = [K_391] from rfl) ▸ by simp) hd
theorem q_X_way {d : Nat} (hd : 5 ≤ d) {M : pM} {a1 : Int} {a2 : Int} (hM : gM gAll M) (h1 : -2147483648 ≤ a1 ∧ a1 ≤ 2147483647) (h2 : -2147483648 ≤ a2 ∧ a2 ≤ 2147483647) : ∃ z M', xF d 34 [.inr 2, .inl a1, .inl a2] M = rI z M' ∧ gM gAll M' ∧ Fr [(5, 1), (6, 999)] M M' ∧ (-2 ≤ z ∧ z ≤ 5) := by
  obtain ⟨z, M', e, g, f, alt, ha, q, -⟩ := cOK_I (q_X_way_c hd) (A := [.inr 2, .inl a1, .inl a2]) (show aF2 gW [aRef 2, (0, -2147483648, 2147483647, 0, 0, 0), (0, -2147483648, 2147483647, 0, 0, 0)] [.inr 2, .inl a1, .inl a2] from ⟨gW_o, gW_i h1.1 h1.2, gW_i h2.1 h2.2, trivial⟩) hM (show gP0 [] M from fun e he => by cases he) rfl
  refine ⟨z, M', e, g, f, ?_⟩
  have ha : alt ∈ [(some (0, -1, -1, 0, 0, 0), [], []), (some (0, -2, -2, 0, 0, 0), [(4, 0, 0, 0, 0, 0), (0, 0, 9, 0, 0, 0), (0, 0, 5, 0, 0, 0)], [(7, 9, (0, 1, 6, 0, 0, 0)), (7, 10, (0, 1, 10, 0, 0, 0))]), (some (0, 0, 5, 0, 0, 0), [(4, 0, 0, 0, 0, 0), (0, 0, 9, 0, 0, 0), (0, 0, 5, 0, 0, 0)], [(7, 9, (0, 1, 6, 0, 0, 0)), (7, 10, (0, 1, 10, 0, 0, 0))])] := ha
  simp only [List.mem_cons, List.not_mem_nil, or_false] at ha
  rcases ha with rfl | rfl | rfl
  · obtain ⟨z2, e2, r⟩ := gW_int (show gW _ _ from q) (Nat.le_of_ble_eq_true rfl)
    cases e2
    have := gR0 r
    omega
  · obtain ⟨z2, e2, r⟩ := gW_int (show gW _ _ from q) (Nat.le_of_ble_eq_true rfl)
    cases e2
    have := gR0 r
    omega
  · obtain ⟨z2, e2, r⟩ := gW_int (show gW _ _ from q) (Nat.le_of_ble_eq_true rfl)
    cases e2
    have := gR0 r
    omega
theorem q_X_widest_c {d : Nat} (hd : 4 ≤ d) : cOK gAll (xF d) 35 K_392 := ct_of ct_ok (show K_392 ∈ CT.get 35 from (show CT.get 35 = [K_392] from rfl) ▸ by simp) hd
theorem q_X_widest {d : Nat} (hd : 4 ≤ d) {M : pM} {a1 : Int} {a2 : Int} (hM : gM gAll M) (h1 : -2147483648 ≤ a1 ∧ a1 ≤ 2147483647) (h2 : -2147483648 ≤ a2 ∧ a2 ≤ 2147483647) : ∃ z M', xF d 35 [.inr 2, .inl a1, .inl a2] M = rI z M' ∧ gM gAll M' ∧ Fr [] M M' ∧ (-1 ≤ z ∧ z ≤ 9) := by
  obtain ⟨z, M', e, g, f, alt, ha, q, -⟩ := cOK_I (q_X_widest_c hd) (A := [.inr 2, .inl a1, .inl a2]) (show aF2 gW [aRef 2, (0, -2147483648, 2147483647, 0, 0, 0), (0, -2147483648, 2147483647, 0, 0, 0)] [.inr 2, .inl a1, .inl a2] from ⟨gW_o, gW_i h1.1 h1.2, gW_i h2.1 h2.2, trivial⟩) hM (show gP0 [] M from fun e he => by cases he) rfl
  refine ⟨z, M', e, g, f, ?_⟩
  have ha : alt ∈ [(some (0, -1, -1, 0, 0, 0), [], []), (some (0, 0, 0, 0, 0, 0), [(4, 0, 0, 0, 0, 0), (0, 0, 5, 0, 0, 0), (0, 0, 5, 0, 0, 0)], [(7, 9, (0, 1, 6, 0, 0, 0))]), (some (0, 1, 9, 0, 0, 0), [(4, 0, 0, 0, 0, 0), (0, 0, 5, 0, 0, 0), (0, 0, 5, 0, 0, 0)], [(7, 9, (0, 1, 6, 0, 0, 0))])] := ha
  simp only [List.mem_cons, List.not_mem_nil, or_false] at ha
  rcases ha with rfl | rfl | rfl
  · obtain ⟨z2, e2, r⟩ := gW_int (show gW _ _ from q) (Nat.le_of_ble_eq_true rfl)
    cases e2
    have := gR0 r
    omega
  · obtain ⟨z2, e2, r⟩ := gW_int (show gW _ _ from q) (Nat.le_of_ble_eq_true rfl)
    cases e2
    have := gR0 r
    omega
  · obtain ⟨z2, e2, r⟩ := gW_int (show gW _ _ from q) (Nat.le_of_ble_eq_true rfl)
    cases e2
    have := gR0 r
    omega
theorem q_X_stuck_c {d : Nat} (hd : 4 ≤ d) : cOK gAll (xF d) 36 K_395 := ct_of ct_ok (show K_395 ∈ CT.get 36 from (show CT.get 36 = [K_395] from rfl) ▸ by simp) hd
theorem q_X_stuck {d : Nat} (hd : 4 ≤ d) {M : pM} (hM : gM gAll M)  : ∃ z M', xF d 36 [.inr 2] M = rI z M' ∧ gM gAll M' ∧ Fr [] M M' ∧ (0 ≤ z ∧ z ≤ 1023) := by
  obtain ⟨z, M', e, g, f, alt, ha, q, -⟩ := cOK_I (q_X_stuck_c hd) (A := [.inr 2]) (show aF2 gW [aRef 2] [.inr 2] from ⟨gW_o, trivial⟩) hM (show gP0 [] M from fun e he => by cases he) rfl
  refine ⟨z, M', e, g, f, ?_⟩
  have ha : alt ∈ [(some (0, 0, 1023, 0, 0, 0), [], [])] := ha
  simp only [List.mem_cons, List.not_mem_nil, or_false] at ha
  rcases ha with rfl
  · obtain ⟨z2, e2, r⟩ := gW_int (show gW _ _ from q) (Nat.le_of_ble_eq_true rfl)
    cases e2
    have := gR0 r
    omega
theorem q_X_hinge_c {d : Nat} (hd : 5 ≤ d) : cOK gAll (xF d) 37 K_400 := ct_of ct_ok (show K_400 ∈ CT.get 37 from (show CT.get 37 = [K_400] from rfl) ▸ by simp) hd
theorem q_X_hinge {d : Nat} (hd : 5 ≤ d) {M : pM} {a1 : Int} (hM : gM gAll M) (h1 : -2147483648 ≤ a1 ∧ a1 ≤ 2147483647) : ∃ z M', xF d 37 [.inr 2, .inl a1] M = rI z M' ∧ gM gAll M' ∧ Fr [(5, 1), (6, 999), (9, 999)] M M' ∧ (-2 ≤ z ∧ z ≤ 5) := by
  obtain ⟨z, M', e, g, f, alt, ha, q, -⟩ := cOK_I (q_X_hinge_c hd) (A := [.inr 2, .inl a1]) (show aF2 gW [aRef 2, (0, -2147483648, 2147483647, 0, 0, 0)] [.inr 2, .inl a1] from ⟨gW_o, gW_i h1.1 h1.2, trivial⟩) hM (show gP0 [] M from fun e he => by cases he) rfl
  refine ⟨z, M', e, g, f, ?_⟩
  have ha : alt ∈ [(some (0, -1, -1, 0, 0, 0), [], []), (some (0, -2, -2, 0, 0, 0), [(4, 0, 0, 0, 0, 0), (0, 0, 5, 0, 0, 0)], [(7, 9, (0, 1, 6, 0, 0, 0))]), (some (0, 0, 5, 0, 0, 0), [(4, 0, 0, 0, 0, 0), (0, 0, 5, 0, 0, 0)], [(5, 1, (0, 1, 12, 0, 0, 0)), (7, 9, (0, 1, 6, 0, 0, 0))])] := ha
  simp only [List.mem_cons, List.not_mem_nil, or_false] at ha
  rcases ha with rfl | rfl | rfl
  · obtain ⟨z2, e2, r⟩ := gW_int (show gW _ _ from q) (Nat.le_of_ble_eq_true rfl)
    cases e2
    have := gR0 r
    omega
  · obtain ⟨z2, e2, r⟩ := gW_int (show gW _ _ from q) (Nat.le_of_ble_eq_true rfl)
    cases e2
    have := gR0 r
    omega
  · obtain ⟨z2, e2, r⟩ := gW_int (show gW _ _ from q) (Nat.le_of_ble_eq_true rfl)
    cases e2
    have := gR0 r
    omega
theorem q_X_aim_c {d : Nat} (hd : 5 ≤ d) : cOK gAll (xF d) 38 K_403 := ct_of ct_ok (show K_403 ∈ CT.get 38 from (show CT.get 38 = [K_403] from rfl) ▸ by simp) hd
theorem q_X_aim {d : Nat} (hd : 5 ≤ d) {M : pM} (hM : gM gAll M)  : ∃ z M', xF d 38 [.inr 2] M = rI z M' ∧ gM gAll M' ∧ Fr [(0, 14), (1, 1), (3, 1), (3, 2), (3, 3), (58, 999)] M M' ∧ (-81 ≤ z ∧ z ≤ 80) := by
  obtain ⟨z, M', e, g, f, alt, ha, q, -⟩ := cOK_I (q_X_aim_c hd) (A := [.inr 2]) (show aF2 gW [aRef 2] [.inr 2] from ⟨gW_o, trivial⟩) hM (show gP0 [] M from fun e he => by cases he) rfl
  refine ⟨z, M', e, g, f, ?_⟩
  have ha : alt ∈ [(some (0, 0, 80, 0, 0, 0), [], []), (some (0, -81, -1, 0, 0, 0), [], [(3, 2, (0, 0, 10, 0, 0, 0))])] := ha
  simp only [List.mem_cons, List.not_mem_nil, or_false] at ha
  rcases ha with rfl | rfl
  · obtain ⟨z2, e2, r⟩ := gW_int (show gW _ _ from q) (Nat.le_of_ble_eq_true rfl)
    cases e2
    have := gR0 r
    omega
  · obtain ⟨z2, e2, r⟩ := gW_int (show gW _ _ from q) (Nat.le_of_ble_eq_true rfl)
    cases e2
    have := gR0 r
    omega
theorem q_X_apart_c {d : Nat} (hd : 6 ≤ d) : cOK gAll (xF d) 39 K_413 := ct_of ct_ok (show K_413 ∈ CT.get 39 from (show CT.get 39 = [K_413] from rfl) ▸ by simp) hd
theorem q_X_apart {d : Nat} (hd : 6 ≤ d) {M : pM} (hM : gM gAll M)  : ∃ z M', xF d 39 [.inr 2] M = rI z M' ∧ gM gAll M' ∧ Fr [(5, 1), (6, 999)] M M' := by
  obtain ⟨z, M', e, g, f, alt, ha, q, -⟩ := cOK_I (q_X_apart_c hd) (A := [.inr 2]) (show aF2 gW [aRef 2] [.inr 2] from ⟨gW_o, trivial⟩) hM (show gP0 [] M from fun e he => by cases he) rfl
  exact ⟨z, M', e, g, f⟩
theorem q_X_queue_c {d : Nat} (hd : 7 ≤ d) : cOK gAll (xF d) 40 K_423 := ct_of ct_ok (show K_423 ∈ CT.get 40 from (show CT.get 40 = [K_423] from rfl) ▸ by simp) hd
theorem q_X_queue {d : Nat} (hd : 7 ≤ d) {M : pM} (hM : gM gAll M)  : ∃ z M', xF d 40 [.inr 2] M = rI z M' ∧ gM gAll M' ∧ Fr [(5, 1), (6, 999), (48, 3), (49, 999), (50, 999), (51, 999)] M M' ∧ (-5 ≤ z ∧ z ≤ 10) := by
  obtain ⟨z, M', e, g, f, alt, ha, q, -⟩ := cOK_I (q_X_queue_c hd) (A := [.inr 2]) (show aF2 gW [aRef 2] [.inr 2] from ⟨gW_o, trivial⟩) hM (show gP0 [] M from fun e he => by cases he) rfl
  refine ⟨z, M', e, g, f, ?_⟩
  have ha : alt ∈ [(some (0, -2, -2, 0, 0, 0), [], [(0, 14, (0, 1, 10, 0, 0, 0)), (7, 10, (0, 1, 10, 0, 0, 0))]), (some (0, -4, -4, 0, 0, 0), [], []), (some (0, -5, -5, 0, 0, 0), [], [(0, 14, (0, 1, 10, 0, 0, 0)), (7, 10, (0, 1, 10, 0, 0, 0))]), (some (0, 0, 10, 0, 0, 0), [], [(0, 14, (0, 1, 10, 0, 0, 0)), (7, 10, (0, 1, 10, 0, 0, 0))])] := ha
  simp only [List.mem_cons, List.not_mem_nil, or_false] at ha
  rcases ha with rfl | rfl | rfl | rfl
  · obtain ⟨z2, e2, r⟩ := gW_int (show gW _ _ from q) (Nat.le_of_ble_eq_true rfl)
    cases e2
    have := gR0 r
    omega
  · obtain ⟨z2, e2, r⟩ := gW_int (show gW _ _ from q) (Nat.le_of_ble_eq_true rfl)
    cases e2
    have := gR0 r
    omega
  · obtain ⟨z2, e2, r⟩ := gW_int (show gW _ _ from q) (Nat.le_of_ble_eq_true rfl)
    cases e2
    have := gR0 r
    omega
  · obtain ⟨z2, e2, r⟩ := gW_int (show gW _ _ from q) (Nat.le_of_ble_eq_true rfl)
    cases e2
    have := gR0 r
    omega
theorem q_X_evenings_c {d : Nat} (hd : 8 ≤ d) : cOK gAll (xF d) 41 K_438 := ct_of ct_ok (show K_438 ∈ CT.get 41 from (show CT.get 41 = [K_438] from rfl) ▸ by simp) hd
theorem q_X_evenings {d : Nat} (hd : 8 ≤ d) {M : pM} (hM : gM gAll M)  : ∃ z M', xF d 41 [.inr 2] M = rI z M' ∧ gM gAll M' ∧ Fr [(5, 1), (6, 999), (32, 6), (32, 7), (32, 8), (32, 9), (33, 999), (34, 999), (35, 999), (36, 999), (37, 999), (52, 5), (52, 6), (52, 7), (52, 8), (52, 9), (53, 999), (54, 999), (55, 999), (56, 999), (57, 999)] M M' ∧ (-4 ≤ z ∧ z ≤ 300) := by
  obtain ⟨z, M', e, g, f, alt, ha, q, -⟩ := cOK_I (q_X_evenings_c hd) (A := [.inr 2]) (show aF2 gW [aRef 2] [.inr 2] from ⟨gW_o, trivial⟩) hM (show gP0 [] M from fun e he => by cases he) rfl
  refine ⟨z, M', e, g, f, ?_⟩
  have ha : alt ∈ [(some (0, -2, -2, 0, 0, 0), [], [(0, 14, (0, 1, 10, 0, 0, 0)), (7, 10, (0, 1, 10, 0, 0, 0))]), (some (0, -3, -3, 0, 0, 0), [], [(0, 14, (0, 1, 10, 0, 0, 0)), (7, 10, (0, 1, 10, 0, 0, 0))]), (some (0, -4, -4, 0, 0, 0), [], []), (some (0, 0, 0, 0, 0, 0), [], [(0, 14, (0, 1, 10, 0, 0, 0)), (5, 1, (0, 1, 12, 0, 0, 0)), (7, 10, (0, 1, 10, 0, 0, 0))]), (some (0, 1, 300, 0, 0, 0), [], [(0, 14, (0, 1, 10, 0, 0, 0)), (5, 1, (0, 1, 12, 0, 0, 0)), (7, 10, (0, 1, 10, 0, 0, 0)), (52, 5, (0, 1, 300, 0, 0, 0)), (52, 7, (0, 0, 299, 0, 0, 0)), (52, 9, (0, 0, 299, 0, 0, 0))])] := ha
  simp only [List.mem_cons, List.not_mem_nil, or_false] at ha
  rcases ha with rfl | rfl | rfl | rfl | rfl
  · obtain ⟨z2, e2, r⟩ := gW_int (show gW _ _ from q) (Nat.le_of_ble_eq_true rfl)
    cases e2
    have := gR0 r
    omega
  · obtain ⟨z2, e2, r⟩ := gW_int (show gW _ _ from q) (Nat.le_of_ble_eq_true rfl)
    cases e2
    have := gR0 r
    omega
  · obtain ⟨z2, e2, r⟩ := gW_int (show gW _ _ from q) (Nat.le_of_ble_eq_true rfl)
    cases e2
    have := gR0 r
    omega
  · obtain ⟨z2, e2, r⟩ := gW_int (show gW _ _ from q) (Nat.le_of_ble_eq_true rfl)
    cases e2
    have := gR0 r
    omega
  · obtain ⟨z2, e2, r⟩ := gW_int (show gW _ _ from q) (Nat.le_of_ble_eq_true rfl)
    cases e2
    have := gR0 r
    omega
theorem q_X_weakest_c {d : Nat} (hd : 8 ≤ d) : cOK gAll (xF d) 42 K_445 := ct_of ct_ok (show K_445 ∈ CT.get 42 from (show CT.get 42 = [K_445] from rfl) ▸ by simp) hd
theorem q_X_weakest {d : Nat} (hd : 8 ≤ d) {M : pM} (hM : gM gAll M)  : ∃ z M', xF d 42 [.inr 2] M = rI z M' ∧ gM gAll M' ∧ Fr [(5, 1), (6, 999), (32, 6), (32, 7), (32, 8), (32, 9), (33, 999), (34, 999), (35, 999), (36, 999), (37, 999), (52, 5), (52, 6), (52, 7), (52, 8), (52, 9), (53, 999), (54, 999), (55, 999), (56, 999), (57, 999)] M M' := by
  obtain ⟨z, M', e, g, f, alt, ha, q, -⟩ := cOK_I (q_X_weakest_c hd) (A := [.inr 2]) (show aF2 gW [aRef 2] [.inr 2] from ⟨gW_o, trivial⟩) hM (show gP0 [] M from fun e he => by cases he) rfl
  exact ⟨z, M', e, g, f⟩
theorem q_X_keep_c {d : Nat} (hd : 3 ≤ d) : cOK gAll (xF d) 43 K_451 := ct_of ct_ok (show K_451 ∈ CT.get 43 from (show CT.get 43 = [K_451] from rfl) ▸ by simp) hd
theorem q_X_keep {d : Nat} (hd : 3 ≤ d) {M : pM} {a1 : Int} (hM : gM gAll M) (h1 : -2147483648 ≤ a1 ∧ a1 ≤ 2147483647) : ∃ z M', xF d 43 [.inr 2, .inl a1] M = rI z M' ∧ gM gAll M' ∧ Fr [(44, 1), (44, 2), (44, 3), (44, 4), (44, 5), (45, 999), (46, 1), (46, 2), (46, 3), (46, 4), (46, 5), (47, 999)] M M' ∧ (0 ≤ z ∧ z ≤ 1) := by
  obtain ⟨z, M', e, g, f, alt, ha, q, -⟩ := cOK_I (q_X_keep_c hd) (A := [.inr 2, .inl a1]) (show aF2 gW [aRef 2, (0, -2147483648, 2147483647, 0, 0, 0)] [.inr 2, .inl a1] from ⟨gW_o, gW_i h1.1 h1.2, trivial⟩) hM (show gP0 [] M from fun e he => by cases he) rfl
  refine ⟨z, M', e, g, f, ?_⟩
  have ha : alt ∈ [(some (0, 0, 0, 0, 0, 0), [], []), (some (0, 1, 1, 0, 0, 0), [(4, 0, 0, 0, 0, 0), (0, 0, 1, 0, 0, 0)], [])] := ha
  simp only [List.mem_cons, List.not_mem_nil, or_false] at ha
  rcases ha with rfl | rfl
  · obtain ⟨z2, e2, r⟩ := gW_int (show gW _ _ from q) (Nat.le_of_ble_eq_true rfl)
    cases e2
    have := gR0 r
    omega
  · obtain ⟨z2, e2, r⟩ := gW_int (show gW _ _ from q) (Nat.le_of_ble_eq_true rfl)
    cases e2
    have := gR0 r
    omega
theorem q_X_again_c {d : Nat} (hd : 2 ≤ d) : cOK gAll (xF d) 44 K_456 := ct_of ct_ok (show K_456 ∈ CT.get 44 from (show CT.get 44 = [K_456] from rfl) ▸ by simp) hd
theorem q_X_again {d : Nat} (hd : 2 ≤ d) {M : pM} {a1 : Int} (hM : gM gAll M) (h1 : -2147483648 ≤ a1 ∧ a1 ≤ 2147483647) : ∃ z M', xF d 44 [.inr 2, .inl a1] M = rI z M' ∧ gM gAll M' ∧ Fr [(0, 15), (0, 16), (13, 999), (39, 3)] M M' ∧ (0 ≤ z ∧ z ≤ 1) := by
  obtain ⟨z, M', e, g, f, alt, ha, q, -⟩ := cOK_I (q_X_again_c hd) (A := [.inr 2, .inl a1]) (show aF2 gW [aRef 2, (0, -2147483648, 2147483647, 0, 0, 0)] [.inr 2, .inl a1] from ⟨gW_o, gW_i h1.1 h1.2, trivial⟩) hM (show gP0 [] M from fun e he => by cases he) rfl
  refine ⟨z, M', e, g, f, ?_⟩
  have ha : alt ∈ [(some (0, 0, 0, 0, 0, 0), [], []), (some (0, 1, 1, 0, 0, 0), [(4, 0, 0, 0, 0, 0), (0, 0, 1, 0, 0, 0)], [(39, 3, (0, 0, 0, 0, 0, 0))])] := ha
  simp only [List.mem_cons, List.not_mem_nil, or_false] at ha
  rcases ha with rfl | rfl
  · obtain ⟨z2, e2, r⟩ := gW_int (show gW _ _ from q) (Nat.le_of_ble_eq_true rfl)
    cases e2
    have := gR0 r
    omega
  · obtain ⟨z2, e2, r⟩ := gW_int (show gW _ _ from q) (Nat.le_of_ble_eq_true rfl)
    cases e2
    have := gR0 r
    omega
theorem q_X_count_c {d : Nat} (hd : 6 ≤ d) : cOK gAll (xF d) 45 K_458 := ct_of ct_ok (show K_458 ∈ CT.get 45 from (show CT.get 45 = [K_458] from rfl) ▸ by simp) hd
theorem q_X_count {d : Nat} (hd : 6 ≤ d) {M : pM} {a1 : Int} (hM : gM gAll M) (h1 : -2147483648 ≤ a1 ∧ a1 ≤ 2147483647) : ∃ z M', xF d 45 [.inr 2, .inl a1] M = rI z M' ∧ gM gAll M' ∧ Fr [] M M' := by
  obtain ⟨z, M', e, g, f, alt, ha, q, -⟩ := cOK_I (q_X_count_c hd) (A := [.inr 2, .inl a1]) (show aF2 gW [aRef 2, (0, -2147483648, 2147483647, 0, 0, 0)] [.inr 2, .inl a1] from ⟨gW_o, gW_i h1.1 h1.2, trivial⟩) hM (show gP0 [] M from fun e he => by cases he) rfl
  exact ⟨z, M', e, g, f⟩
theorem q_M_sign_c {d : Nat} (hd : 1 ≤ d) : cOK gAll (xF d) 175 K_459 := ct_of ct_ok (show K_459 ∈ CT.get 175 from (show CT.get 175 = [K_459] from rfl) ▸ by simp) hd
theorem q_M_sign {d : Nat} (hd : 1 ≤ d) {M : pM} {a1 : Int} (hM : gM gAll M) (h1 : -2147483648 ≤ a1 ∧ a1 ≤ 2147483647) : ∃ z M', xF d 175 [.inr 62, .inl a1] M = rI z M' ∧ gM gAll M' ∧ Fr [(60, 14), (60, 17), (68, 999)] M M' ∧ (-1 ≤ z ∧ z ≤ 80) := by
  obtain ⟨z, M', e, g, f, alt, ha, q, -⟩ := cOK_I (q_M_sign_c hd) (A := [.inr 62, .inl a1]) (show aF2 gW [aRef 62, (0, -2147483648, 2147483647, 0, 0, 0)] [.inr 62, .inl a1] from ⟨gW_o, gW_i h1.1 h1.2, trivial⟩) hM (show gP0 [] M from fun e he => by cases he) rfl
  refine ⟨z, M', e, g, f, ?_⟩
  have ha : alt ∈ [(some (0, -1, -1, 0, 0, 0), [], [(60, 14, (0, 77, 80, 0, 0, 0)), (60, 17, (0, 0, 0, 0, 0, 0))]), (some (0, 4, 80, 0, 0, 0), [], [(60, 14, (0, 4, 80, 0, 0, 0)), (60, 17, (0, 0, 0, 0, 0, 0))])] := ha
  simp only [List.mem_cons, List.not_mem_nil, or_false] at ha
  rcases ha with rfl | rfl
  · obtain ⟨z2, e2, r⟩ := gW_int (show gW _ _ from q) (Nat.le_of_ble_eq_true rfl)
    cases e2
    have := gR0 r
    omega
  · obtain ⟨z2, e2, r⟩ := gW_int (show gW _ _ from q) (Nat.le_of_ble_eq_true rfl)
    cases e2
    have := gR0 r
    omega
theorem q_M_end_c {d : Nat} (hd : 2 ≤ d) : cOK gAll (xF d) 176 K_461 := ct_of ct_ok (show K_461 ∈ CT.get 176 from (show CT.get 176 = [K_461] from rfl) ▸ by simp) hd
theorem q_M_end {d : Nat} (hd : 2 ≤ d) {M : pM} {a1 : Int} (hM : gM gAll M) (h1 : -2147483648 ≤ a1 ∧ a1 ≤ 2147483647) : ∃ z M', xF d 176 [.inr 62, .inl a1] M = rI z M' ∧ gM gAll M' ∧ Fr [(60, 14), (60, 17)] M M' ∧ (0 ≤ z ∧ z ≤ 1) := by
  obtain ⟨z, M', e, g, f, alt, ha, q, -⟩ := cOK_I (q_M_end_c hd) (A := [.inr 62, .inl a1]) (show aF2 gW [aRef 62, (0, -2147483648, 2147483647, 0, 0, 0)] [.inr 62, .inl a1] from ⟨gW_o, gW_i h1.1 h1.2, trivial⟩) hM (show gP0 [] M from fun e he => by cases he) rfl
  refine ⟨z, M', e, g, f, ?_⟩
  have ha : alt ∈ [(some (0, 0, 0, 0, 0, 0), [], [(60, 17, (0, 0, 0, 0, 0, 0))]), (some (0, 1, 1, 0, 0, 0), [(4, 0, 0, 0, 0, 0), (0, 0, 80, 0, 0, 0)], [(60, 17, (0, 0, 0, 0, 0, 0))])] := ha
  simp only [List.mem_cons, List.not_mem_nil, or_false] at ha
  rcases ha with rfl | rfl
  · obtain ⟨z2, e2, r⟩ := gW_int (show gW _ _ from q) (Nat.le_of_ble_eq_true rfl)
    cases e2
    have := gR0 r
    omega
  · obtain ⟨z2, e2, r⟩ := gW_int (show gW _ _ from q) (Nat.le_of_ble_eq_true rfl)
    cases e2
    have := gR0 r
    omega
theorem q_M_rule_c {d : Nat} (hd : 341 ≤ d) : cOK gAll (xF d) 193 K_467 := ct_of ct_ok (show K_467 ∈ CT.get 193 from (show CT.get 193 = [K_467] from rfl) ▸ by simp) hd
theorem q_M_rule {d : Nat} (hd : 341 ≤ d) {M : pM} (hM : gM gAll M)  : ∃ z M', xF d 193 [.inr 62] M = rI z M' ∧ gM gAll M' ∧ Fr [(60, 14), (60, 17), (60, 18), (60, 19), (60, 20), (60, 21), (60, 22), (60, 25), (60, 26), (71, 999)] M M' ∧ (-81 ≤ z ∧ z ≤ 0) := by
  obtain ⟨z, M', e, g, f, alt, ha, q, -⟩ := cOK_I (q_M_rule_c hd) (A := [.inr 62]) (show aF2 gW [aRef 62] [.inr 62] from ⟨gW_o, trivial⟩) hM (show gP0 [] M from fun e he => by cases he) rfl
  refine ⟨z, M', e, g, f, ?_⟩
  have ha : alt ∈ [(some (0, 0, 0, 0, 0, 0), [], [(60, 14, (0, 0, 0, 0, 0, 0)), (60, 17, (0, 0, 0, 0, 0, 0)), (60, 18, (0, 70, 70, 0, 0, 0)), (60, 20, (0, 40, 40, 0, 0, 0)), (60, 21, (0, 0, 40, 0, 0, 0)), (60, 22, (0, -1, -1, 0, 0, 0)), (60, 26, (0, -1, -1, 0, 0, 0))]), (some (0, -81, -1, 0, 0, 0), [], [(60, 14, (0, 0, 0, 0, 0, 0)), (60, 17, (0, 0, 0, 0, 0, 0)), (60, 18, (0, 70, 70, 0, 0, 0)), (60, 20, (0, 40, 40, 0, 0, 0)), (60, 21, (0, 0, 40, 0, 0, 0)), (60, 22, (0, 0, 80, 0, 0, 0)), (60, 26, (0, -1, -1, 0, 0, 0))])] := ha
  simp only [List.mem_cons, List.not_mem_nil, or_false] at ha
  rcases ha with rfl | rfl
  · obtain ⟨z2, e2, r⟩ := gW_int (show gW _ _ from q) (Nat.le_of_ble_eq_true rfl)
    cases e2
    have := gR0 r
    omega
  · obtain ⟨z2, e2, r⟩ := gW_int (show gW _ _ from q) (Nat.le_of_ble_eq_true rfl)
    cases e2
    have := gR0 r
    omega
theorem q_M_room_c {d : Nat} (hd : 3 ≤ d) : cOK gAll (xF d) 199 K_474 := ct_of ct_ok (show K_474 ∈ CT.get 199 from (show CT.get 199 = [K_474] from rfl) ▸ by simp) hd
theorem q_M_room {d : Nat} (hd : 3 ≤ d) {M : pM} {a1 : Int} {a2 : Int} (hM : gM gAll M) (h1 : -2147483648 ≤ a1 ∧ a1 ≤ 2147483647) (h2 : -2147483648 ≤ a2 ∧ a2 ≤ 2147483647) : ∃ z M', xF d 199 [.inr 62, .inl a1, .inl a2] M = rI z M' ∧ gM gAll M' ∧ Fr [(60, 17)] M M' := by
  obtain ⟨z, M', e, g, f, alt, ha, q, -⟩ := cOK_I (q_M_room_c hd) (A := [.inr 62, .inl a1, .inl a2]) (show aF2 gW [aRef 62, (0, -2147483648, 2147483647, 0, 0, 0), (0, -2147483648, 2147483647, 0, 0, 0)] [.inr 62, .inl a1, .inl a2] from ⟨gW_o, gW_i h1.1 h1.2, gW_i h2.1 h2.2, trivial⟩) hM (show gP0 [] M from fun e he => by cases he) rfl
  exact ⟨z, M', e, g, f⟩
theorem q_M_thing_c {d : Nat} (hd : 342 ≤ d) : cOK gAll (xF d) 201 K_484 := ct_of ct_ok (show K_484 ∈ CT.get 201 from (show CT.get 201 = [K_484] from rfl) ▸ by simp) hd
theorem q_M_thing {d : Nat} (hd : 342 ≤ d) {M : pM} {a1 : Int} {a2 : Int} (hM : gM gAll M) (h1 : -2147483648 ≤ a1 ∧ a1 ≤ 2147483647) (h2 : -2147483648 ≤ a2 ∧ a2 ≤ 2147483647) : ∃ z M', xF d 201 [.inr 62, .inl a1, .inl a2] M = rI z M' ∧ gM gAll M' ∧ Fr [(60, 17), (60, 18), (60, 19), (60, 20), (60, 21), (60, 22), (60, 26), (60, 27), (60, 30), (72, 999), (73, 999)] M M' ∧ (-999 ≤ z ∧ z ≤ 999) := by
  obtain ⟨z, M', e, g, f, alt, ha, q, -⟩ := cOK_I (q_M_thing_c hd) (A := [.inr 62, .inl a1, .inl a2]) (show aF2 gW [aRef 62, (0, -2147483648, 2147483647, 0, 0, 0), (0, -2147483648, 2147483647, 0, 0, 0)] [.inr 62, .inl a1, .inl a2] from ⟨gW_o, gW_i h1.1 h1.2, gW_i h2.1 h2.2, trivial⟩) hM (show gP0 [] M from fun e he => by cases he) rfl
  refine ⟨z, M', e, g, f, ?_⟩
  have ha : alt ∈ [(some (0, 0, 0, 0, 0, 0), [], []), (some (0, 0, 255, 0, 0, 0), [(4, 0, 0, 0, 0, 0), (0, 0, 9, 0, 0, 0), (0, 0, 5, 0, 0, 0)], [(60, 17, (0, 0, 0, 0, 0, 0))]), (some (0, -999, 999, 0, 0, 0), [(4, 0, 0, 0, 0, 0), (0, 0, 9, 0, 0, 0), (0, 0, 6, 0, 0, 0)], [(60, 17, (0, 0, 0, 0, 0, 0)), (60, 18, (0, 73, 73, 0, 0, 0)), (60, 19, (0, 1, 40, 0, 0, 0)), (60, 20, (0, 40, 40, 0, 0, 0)), (60, 21, (0, 0, 40, 0, 0, 0)), (60, 25, (0, 1, 40, 0, 0, 0)), (60, 26, (0, 0, 9, 0, 0, 0))])] := ha
  simp only [List.mem_cons, List.not_mem_nil, or_false] at ha
  rcases ha with rfl | rfl | rfl
  · obtain ⟨z2, e2, r⟩ := gW_int (show gW _ _ from q) (Nat.le_of_ble_eq_true rfl)
    cases e2
    have := gR0 r
    omega
  · obtain ⟨z2, e2, r⟩ := gW_int (show gW _ _ from q) (Nat.le_of_ble_eq_true rfl)
    cases e2
    have := gR0 r
    omega
  · obtain ⟨z2, e2, r⟩ := gW_int (show gW _ _ from q) (Nat.le_of_ble_eq_true rfl)
    cases e2
    have := gR0 r
    omega
theorem q_M_set_c {d : Nat} (hd : 2 ≤ d) : cOK gAll (xF d) 202 K_486 := ct_of ct_ok (show K_486 ∈ CT.get 202 from (show CT.get 202 = [K_486] from rfl) ▸ by simp) hd
theorem q_M_set {d : Nat} (hd : 2 ≤ d) {M : pM} {a1 : Int} (hM : gM gAll M) (h1 : -2147483648 ≤ a1 ∧ a1 ≤ 2147483647) : ∃ z M', xF d 202 [.inr 62, .inl a1] M = rI z M' ∧ gM gAll M' ∧ Fr [(60, 17)] M M' ∧ (-1 ≤ z ∧ z ≤ 1023) := by
  obtain ⟨z, M', e, g, f, alt, ha, q, -⟩ := cOK_I (q_M_set_c hd) (A := [.inr 62, .inl a1]) (show aF2 gW [aRef 62, (0, -2147483648, 2147483647, 0, 0, 0)] [.inr 62, .inl a1] from ⟨gW_o, gW_i h1.1 h1.2, trivial⟩) hM (show gP0 [] M from fun e he => by cases he) rfl
  refine ⟨z, M', e, g, f, ?_⟩
  have ha : alt ∈ [(some (0, -1, -1, 0, 0, 0), [], [(60, 17, (0, 0, 0, 0, 0, 0))]), (some (0, 0, 1023, 0, 0, 0), [(4, 0, 0, 0, 0, 0), (0, 0, 7, 0, 0, 0)], [(60, 17, (0, 0, 0, 0, 0, 0))])] := ha
  simp only [List.mem_cons, List.not_mem_nil, or_false] at ha
  rcases ha with rfl | rfl
  · obtain ⟨z2, e2, r⟩ := gW_int (show gW _ _ from q) (Nat.le_of_ble_eq_true rfl)
    cases e2
    have := gR0 r
    omega
  · obtain ⟨z2, e2, r⟩ := gW_int (show gW _ _ from q) (Nat.le_of_ble_eq_true rfl)
    cases e2
    have := gR0 r
    omega
theorem q_M_door_c {d : Nat} (hd : 3 ≤ d) : cOK gAll (xF d) 203 K_487 := ct_of ct_ok (show K_487 ∈ CT.get 203 from (show CT.get 203 = [K_487] from rfl) ▸ by simp) hd
theorem q_M_door {d : Nat} (hd : 3 ≤ d) {M : pM} {a1 : Int} {a2 : Int} (hM : gM gAll M) (h1 : -2147483648 ≤ a1 ∧ a1 ≤ 2147483647) (h2 : -2147483648 ≤ a2 ∧ a2 ≤ 2147483647) : ∃ z M', xF d 203 [.inr 62, .inl a1, .inl a2] M = rI z M' ∧ gM gAll M' ∧ Fr [(60, 17)] M M' ∧ (-2 ≤ z ∧ z ≤ 9) := by
  obtain ⟨z, M', e, g, f, alt, ha, q, -⟩ := cOK_I (q_M_door_c hd) (A := [.inr 62, .inl a1, .inl a2]) (show aF2 gW [aRef 62, (0, -2147483648, 2147483647, 0, 0, 0), (0, -2147483648, 2147483647, 0, 0, 0)] [.inr 62, .inl a1, .inl a2] from ⟨gW_o, gW_i h1.1 h1.2, gW_i h2.1 h2.2, trivial⟩) hM (show gP0 [] M from fun e he => by cases he) rfl
  refine ⟨z, M', e, g, f, ?_⟩
  have ha : alt ∈ [(some (0, -1, -1, 0, 0, 0), [], [(60, 17, (0, 0, 0, 0, 0, 0))]), (some (0, -2, -2, 0, 0, 0), [(4, 0, 0, 0, 0, 0), (0, 0, 5, 0, 0, 0), (0, 0, 5, 0, 0, 0)], [(60, 17, (0, 0, 0, 0, 0, 0))]), (some (0, 0, 9, 0, 0, 0), [(4, 0, 0, 0, 0, 0), (0, 0, 5, 0, 0, 0), (0, 0, 5, 0, 0, 0)], [(60, 17, (0, 0, 0, 0, 0, 0))])] := ha
  simp only [List.mem_cons, List.not_mem_nil, or_false] at ha
  rcases ha with rfl | rfl | rfl
  · obtain ⟨z2, e2, r⟩ := gW_int (show gW _ _ from q) (Nat.le_of_ble_eq_true rfl)
    cases e2
    have := gR0 r
    omega
  · obtain ⟨z2, e2, r⟩ := gW_int (show gW _ _ from q) (Nat.le_of_ble_eq_true rfl)
    cases e2
    have := gR0 r
    omega
  · obtain ⟨z2, e2, r⟩ := gW_int (show gW _ _ from q) (Nat.le_of_ble_eq_true rfl)
    cases e2
    have := gR0 r
    omega
theorem q_M_strength_c {d : Nat} (hd : 2 ≤ d) : cOK gAll (xF d) 205 K_489 := ct_of ct_ok (show K_489 ∈ CT.get 205 from (show CT.get 205 = [K_489] from rfl) ▸ by simp) hd
theorem q_M_strength {d : Nat} (hd : 2 ≤ d) {M : pM} {a1 : Int} (hM : gM gAll M) (h1 : -2147483648 ≤ a1 ∧ a1 ≤ 2147483647) : ∃ z M', xF d 205 [.inr 62, .inl a1] M = rI z M' ∧ gM gAll M' ∧ Fr [(60, 12), (60, 17)] M M' ∧ (-1 ≤ z ∧ z ≤ 999) := by
  obtain ⟨z, M', e, g, f, alt, ha, q, -⟩ := cOK_I (q_M_strength_c hd) (A := [.inr 62, .inl a1]) (show aF2 gW [aRef 62, (0, -2147483648, 2147483647, 0, 0, 0)] [.inr 62, .inl a1] from ⟨gW_o, gW_i h1.1 h1.2, trivial⟩) hM (show gP0 [] M from fun e he => by cases he) rfl
  refine ⟨z, M', e, g, f, ?_⟩
  have ha : alt ∈ [(some (0, -1, -1, 0, 0, 0), [], [(60, 17, (0, 0, 0, 0, 0, 0))]), (some (0, 1, 999, 0, 0, 0), [(4, 0, 0, 0, 0, 0), (0, 1, 999, 0, 0, 0)], [(60, 17, (0, 0, 0, 0, 0, 0))])] := ha
  simp only [List.mem_cons, List.not_mem_nil, or_false] at ha
  rcases ha with rfl | rfl
  · obtain ⟨z2, e2, r⟩ := gW_int (show gW _ _ from q) (Nat.le_of_ble_eq_true rfl)
    cases e2
    have := gR0 r
    omega
  · obtain ⟨z2, e2, r⟩ := gW_int (show gW _ _ from q) (Nat.le_of_ble_eq_true rfl)
    cases e2
    have := gR0 r
    omega
theorem q_M_clumps_c {d : Nat} (hd : 3 ≤ d) : cOK gAll (xF d) 222 K_500 := ct_of ct_ok (show K_500 ∈ CT.get 222 from (show CT.get 222 = [K_500] from rfl) ▸ by simp) hd
theorem q_M_clumps {d : Nat} (hd : 3 ≤ d) {M : pM} (hM : gM gAll M)  : ∃ z M', xF d 222 [.inr 62] M = rI z M' ∧ gM gAll M' ∧ Fr [(60, 16), (60, 17), (60, 30), (69, 999), (72, 999), (73, 999)] M M' ∧ (0 ≤ z ∧ z ≤ 10) := by
  obtain ⟨z, M', e, g, f, alt, ha, q, -⟩ := cOK_I (q_M_clumps_c hd) (A := [.inr 62]) (show aF2 gW [aRef 62] [.inr 62] from ⟨gW_o, trivial⟩) hM (show gP0 [] M from fun e he => by cases he) rfl
  refine ⟨z, M', e, g, f, ?_⟩
  have ha : alt ∈ [(some (0, 0, 0, 0, 0, 0), [], [(60, 16, (0, 0, 0, 0, 0, 0)), (60, 17, (0, 0, 0, 0, 0, 0)), (60, 30, (0, 0, 0, 0, 0, 0))]), (some (0, 1, 1, 0, 0, 0), [], [(60, 16, (0, 1, 1, 0, 0, 0)), (60, 17, (0, 0, 0, 0, 0, 0)), (60, 30, (0, 1, 1, 0, 0, 0)), (69, 0, (0, -2147483648, 2147483647, 0, 0, 0))]), (some (0, 2, 10, 0, 0, 0), [], [(60, 16, (0, 2, 10, 0, 0, 0)), (60, 17, (0, 0, 0, 0, 0, 0)), (60, 30, (0, 2, 10, 0, 0, 0))])] := ha
  simp only [List.mem_cons, List.not_mem_nil, or_false] at ha
  rcases ha with rfl | rfl | rfl
  · obtain ⟨z2, e2, r⟩ := gW_int (show gW _ _ from q) (Nat.le_of_ble_eq_true rfl)
    cases e2
    have := gR0 r
    omega
  · obtain ⟨z2, e2, r⟩ := gW_int (show gW _ _ from q) (Nat.le_of_ble_eq_true rfl)
    cases e2
    have := gR0 r
    omega
  · obtain ⟨z2, e2, r⟩ := gW_int (show gW _ _ from q) (Nat.le_of_ble_eq_true rfl)
    cases e2
    have := gR0 r
    omega
theorem q_M_heaviest_c {d : Nat} (hd : 3 ≤ d) : cOK gAll (xF d) 224 K_503 := ct_of ct_ok (show K_503 ∈ CT.get 224 from (show CT.get 224 = [K_503] from rfl) ▸ by simp) hd
theorem q_M_heaviest {d : Nat} (hd : 3 ≤ d) {M : pM} (hM : gM gAll M)  : ∃ z M', xF d 224 [.inr 62] M = rI z M' ∧ gM gAll M' ∧ Fr [(60, 16), (60, 17), (60, 30), (69, 999), (72, 999), (73, 999)] M M' ∧ (-2 ≤ z ∧ z ≤ 9) := by
  obtain ⟨z, M', e, g, f, alt, ha, q, -⟩ := cOK_I (q_M_heaviest_c hd) (A := [.inr 62]) (show aF2 gW [aRef 62] [.inr 62] from ⟨gW_o, trivial⟩) hM (show gP0 [] M from fun e he => by cases he) rfl
  refine ⟨z, M', e, g, f, ?_⟩
  have ha : alt ∈ [(some (0, -2, -2, 0, 0, 0), [], [(60, 3, (0, 0, 0, 0, 0, 0)), (60, 17, (0, 0, 0, 0, 0, 0))]), (some (0, 0, 9, 0, 0, 0), [], [(60, 3, (0, 1, 10, 0, 0, 0)), (60, 16, (0, 2, 2, 0, 0, 0)), (60, 17, (0, 0, 0, 0, 0, 0)), (69, 1, (0, -2147483648, 2147483647, 0, 0, 0))])] := ha
  simp only [List.mem_cons, List.not_mem_nil, or_false] at ha
  rcases ha with rfl | rfl
  · obtain ⟨z2, e2, r⟩ := gW_int (show gW _ _ from q) (Nat.le_of_ble_eq_true rfl)
    cases e2
    have := gR0 r
    omega
  · obtain ⟨z2, e2, r⟩ := gW_int (show gW _ _ from q) (Nat.le_of_ble_eq_true rfl)
    cases e2
    have := gR0 r
    omega
theorem q_M_without_c {d : Nat} (hd : 3 ≤ d) : cOK gAll (xF d) 225 K_504 := ct_of ct_ok (show K_504 ∈ CT.get 225 from (show CT.get 225 = [K_504] from rfl) ▸ by simp) hd
theorem q_M_without {d : Nat} (hd : 3 ≤ d) {M : pM} {a1 : Int} (hM : gM gAll M) (h1 : -2147483648 ≤ a1 ∧ a1 ≤ 2147483647) : ∃ z M', xF d 225 [.inr 62, .inl a1] M = rI z M' ∧ gM gAll M' ∧ Fr [(60, 16), (60, 17), (60, 30), (69, 999), (72, 999), (73, 999)] M M' ∧ (-1 ≤ z ∧ z ≤ 10) := by
  obtain ⟨z, M', e, g, f, alt, ha, q, -⟩ := cOK_I (q_M_without_c hd) (A := [.inr 62, .inl a1]) (show aF2 gW [aRef 62, (0, -2147483648, 2147483647, 0, 0, 0)] [.inr 62, .inl a1] from ⟨gW_o, gW_i h1.1 h1.2, trivial⟩) hM (show gP0 [] M from fun e he => by cases he) rfl
  refine ⟨z, M', e, g, f, ?_⟩
  have ha : alt ∈ [(some (0, -1, -1, 0, 0, 0), [], [(60, 17, (0, 0, 0, 0, 0, 0))]), (some (0, 0, 10, 0, 0, 0), [(4, 0, 0, 0, 0, 0), (0, 0, 9, 0, 0, 0)], [(60, 16, (0, 1, 1, 0, 0, 0)), (60, 17, (0, 0, 0, 0, 0, 0)), (69, 0, (0, -2147483648, 2147483647, 0, 0, 0))])] := ha
  simp only [List.mem_cons, List.not_mem_nil, or_false] at ha
  rcases ha with rfl | rfl
  · obtain ⟨z2, e2, r⟩ := gW_int (show gW _ _ from q) (Nat.le_of_ble_eq_true rfl)
    cases e2
    have := gR0 r
    omega
  · obtain ⟨z2, e2, r⟩ := gW_int (show gW _ _ from q) (Nat.le_of_ble_eq_true rfl)
    cases e2
    have := gR0 r
    omega
theorem q_M_ties_c {d : Nat} (hd : 3 ≤ d) : cOK gAll (xF d) 227 K_505 := ct_of ct_ok (show K_505 ∈ CT.get 227 from (show CT.get 227 = [K_505] from rfl) ▸ by simp) hd
theorem q_M_ties {d : Nat} (hd : 3 ≤ d) {M : pM} (hM : gM gAll M)  : ∃ z M', xF d 227 [.inr 62] M = rI z M' ∧ gM gAll M' ∧ Fr [(60, 17), (60, 30), (72, 999), (73, 999)] M M' ∧ (0 ≤ z ∧ z ≤ 255) := by
  obtain ⟨z, M', e, g, f, alt, ha, q, -⟩ := cOK_I (q_M_ties_c hd) (A := [.inr 62]) (show aF2 gW [aRef 62] [.inr 62] from ⟨gW_o, trivial⟩) hM (show gP0 [] M from fun e he => by cases he) rfl
  refine ⟨z, M', e, g, f, ?_⟩
  have ha : alt ∈ [(some (0, 0, 255, 0, 0, 0), [], [(60, 17, (0, 0, 0, 0, 0, 0))])] := ha
  simp only [List.mem_cons, List.not_mem_nil, or_false] at ha
  rcases ha with rfl
  · obtain ⟨z2, e2, r⟩ := gW_int (show gW _ _ from q) (Nat.le_of_ble_eq_true rfl)
    cases e2
    have := gR0 r
    omega
theorem q_M_fits_1_c {d : Nat} (hd : 4 ≤ d) : cOK gAll (xF d) 234 K_514 := ct_of ct_ok (show K_514 ∈ CT.get 234 from (show CT.get 234 = [K_519, K_514] from rfl) ▸ by simp) hd
theorem q_M_fits_1 {d : Nat} (hd : 4 ≤ d) {M : pM} (hM : gM gAll M) (p0 : 1 ≤ M 60 0 ∧ M 60 0 ≤ 6) : ∃ z M', xF d 234 [.inr 62] M = rI z M' ∧ gM gAll M' ∧ Fr [(60, 16), (60, 17), (60, 30), (60, 39), (60, 40), (69, 999), (72, 999), (73, 999), (78, 999), (79, 999), (80, 999)] M M' := by
  obtain ⟨z, M', e, g, f, alt, ha, q, -⟩ := cOK_I (q_M_fits_1_c hd) (A := [.inr 62]) (show aF2 gW [aRef 62] [.inr 62] from ⟨gW_o, trivial⟩) hM (show gP0 [(60, 0, (0, 1, 6, 0, 0, 0))] M from fun e he => by
    simp only [List.mem_cons, List.not_mem_nil, or_false] at he
    rcases he with rfl
    · exact gR_i p0.1 p0.2) rfl
  exact ⟨z, M', e, g, f⟩
theorem q_M_fits_0_c {d : Nat} (hd : 4 ≤ d) : cOK gAll (xF d) 234 K_519 := ct_of ct_ok (show K_519 ∈ CT.get 234 from (show CT.get 234 = [K_519, K_514] from rfl) ▸ by simp) hd
theorem q_M_fits_0 {d : Nat} (hd : 4 ≤ d) {M : pM} (hM : gM gAll M) (p0 : 0 ≤ M 60 0 ∧ M 60 0 ≤ 0) (p1 : 0 ≤ M 60 3 ∧ M 60 3 ≤ 0) : ∃ z M', xF d 234 [.inr 62] M = rI z M' ∧ gM gAll M' ∧ Fr [(60, 16), (60, 17), (60, 30), (60, 39), (60, 40), (69, 999), (72, 999), (73, 999), (80, 999)] M M' := by
  obtain ⟨z, M', e, g, f, alt, ha, q, -⟩ := cOK_I (q_M_fits_0_c hd) (A := [.inr 62]) (show aF2 gW [aRef 62] [.inr 62] from ⟨gW_o, trivial⟩) hM (show gP0 [(60, 0, (0, 0, 0, 0, 0, 0)), (60, 3, (0, 0, 0, 0, 0, 0))] M from fun e he => by
    simp only [List.mem_cons, List.not_mem_nil, or_false] at he
    rcases he with rfl | rfl
    · exact gR_i p0.1 p0.2
    · exact gR_i p1.1 p1.2) rfl
  exact ⟨z, M', e, g, f⟩
theorem q_M_worth_c {d : Nat} (hd : 343 ≤ d) : cOK gAll (xF d) 235 K_521 := ct_of ct_ok (show K_521 ∈ CT.get 235 from (show CT.get 235 = [K_521] from rfl) ▸ by simp) hd
theorem q_M_worth {d : Nat} (hd : 343 ≤ d) {M : pM} (hM : gM gAll M)  : ∃ z M', xF d 235 [.inr 62] M = rI z M' ∧ gM gAll M' ∧ Fr [(60, 17), (60, 18), (60, 19), (60, 20), (60, 21), (60, 22), (60, 26), (60, 27)] M M' := by
  obtain ⟨z, M', e, g, f, alt, ha, q, -⟩ := cOK_I (q_M_worth_c hd) (A := [.inr 62]) (show aF2 gW [aRef 62] [.inr 62] from ⟨gW_o, trivial⟩) hM (show gP0 [] M from fun e he => by cases he) rfl
  exact ⟨z, M', e, g, f⟩
theorem q_M_best_0_c {d : Nat} (hd : 4 ≤ d) : cOK gAll (xF d) 236 K_573 := ct_of ct_ok (show K_573 ∈ CT.get 236 from (show CT.get 236 = [K_573] from rfl) ▸ by simp) hd
theorem q_M_best_0 {d : Nat} (hd : 4 ≤ d) {M : pM} (hM : gM gAll M) (p0 : 0 ≤ M 60 0 ∧ M 60 0 ≤ 0) (p1 : 0 ≤ M 60 3 ∧ M 60 3 ≤ 0) (p2 : 0 ≤ M 60 38 ∧ M 60 38 ≤ 0) : ∃ z M', xF d 236 [.inr 62] M = rI z M' ∧ gM gAll M' ∧ Fr [(60, 16), (60, 17), (60, 30), (60, 39), (60, 40), (69, 999), (72, 999), (73, 999), (80, 999)] M M' ∧ (-2 ≤ z ∧ z ≤ 1) := by
  obtain ⟨z, M', e, g, f, alt, ha, q, -⟩ := cOK_I (q_M_best_0_c hd) (A := [.inr 62]) (show aF2 gW [aRef 62] [.inr 62] from ⟨gW_o, trivial⟩) hM (show gP0 [(60, 0, (0, 0, 0, 0, 0, 0)), (60, 3, (0, 0, 0, 0, 0, 0)), (60, 38, (0, 0, 0, 0, 0, 0))] M from fun e he => by
    simp only [List.mem_cons, List.not_mem_nil, or_false] at he
    rcases he with rfl | rfl | rfl
    · exact gR_i p0.1 p0.2
    · exact gR_i p1.1 p1.2
    · exact gR_i p2.1 p2.2) rfl
  refine ⟨z, M', e, g, f, ?_⟩
  have ha : alt ∈ [(some (0, -2, -2, 0, 0, 0), [], [(60, 0, (0, 0, 0, 0, 0, 0)), (60, 3, (0, 0, 0, 0, 0, 0)), (60, 17, (0, 0, 0, 0, 0, 0)), (60, 30, (0, 0, 0, 0, 0, 0)), (60, 38, (0, 0, 0, 0, 0, 0)), (60, 39, (0, 1, 1, 0, 0, 0)), (60, 40, (0, 0, 1000000, 0, 0, 0))]), (some (0, 1, 1, 0, 0, 0), [], [(60, 0, (0, 0, 0, 0, 0, 0)), (60, 3, (0, 0, 0, 0, 0, 0)), (60, 16, (0, 1, 11, 0, 0, 0)), (60, 17, (0, 0, 0, 0, 0, 0)), (60, 30, (0, 0, 0, 0, 0, 0)), (60, 38, (0, 0, 0, 0, 0, 0)), (60, 39, (0, 1, 1, 0, 0, 0)), (60, 40, (0, 0, 1000000, 0, 0, 0))])] := ha
  simp only [List.mem_cons, List.not_mem_nil, or_false] at ha
  rcases ha with rfl | rfl
  · obtain ⟨z2, e2, r⟩ := gW_int (show gW _ _ from q) (Nat.le_of_ble_eq_true rfl)
    cases e2
    have := gR0 r
    omega
  · obtain ⟨z2, e2, r⟩ := gW_int (show gW _ _ from q) (Nat.le_of_ble_eq_true rfl)
    cases e2
    have := gR0 r
    omega
theorem q_M_near_1_c {d : Nat} (hd : 5 ≤ d) : cOK gAll (xF d) 238 K_526 := ct_of ct_ok (show K_526 ∈ CT.get 238 from (show CT.get 238 = [K_528, K_526] from rfl) ▸ by simp) hd
theorem q_M_near_1 {d : Nat} (hd : 5 ≤ d) {M : pM} (hM : gM gAll M) (p0 : 1 ≤ M 60 0 ∧ M 60 0 ≤ 6) : ∃ z M', xF d 238 [.inr 62] M = rI z M' ∧ gM gAll M' ∧ Fr [(60, 16), (60, 17), (60, 30), (60, 39), (60, 40), (69, 999), (72, 999), (73, 999), (74, 999), (78, 999), (79, 999), (80, 999)] M M' ∧ (-3 ≤ z ∧ z ≤ 999999) := by
  obtain ⟨z, M', e, g, f, alt, ha, q, -⟩ := cOK_I (q_M_near_1_c hd) (A := [.inr 62]) (show aF2 gW [aRef 62] [.inr 62] from ⟨gW_o, trivial⟩) hM (show gP0 [(60, 0, (0, 1, 6, 0, 0, 0))] M from fun e he => by
    simp only [List.mem_cons, List.not_mem_nil, or_false] at he
    rcases he with rfl
    · exact gR_i p0.1 p0.2) rfl
  refine ⟨z, M', e, g, f, ?_⟩
  have ha : alt ∈ [(some (0, -2, -2, 0, 0, 0), [], [(60, 0, (0, 1, 6, 0, 0, 0)), (60, 17, (0, 0, 0, 0, 0, 0)), (60, 39, (0, 1, 20000, 0, 0, 0)), (60, 40, (0, 0, 1000000, 0, 0, 0))]), (some (0, -3, -3, 0, 0, 0), [], [(60, 0, (0, 1, 6, 0, 0, 0)), (60, 17, (0, 0, 0, 0, 0, 0)), (60, 39, (0, 20001, 1000000, 0, 0, 0))]), (some (0, 0, 999999, 0, 0, 0), [], [(60, 0, (0, 1, 6, 0, 0, 0)), (60, 16, (0, 0, 10, 0, 0, 0)), (60, 17, (0, 0, 0, 0, 0, 0)), (60, 39, (0, 1, 20000, 0, 0, 0)), (60, 40, (0, 0, 1000000, 0, 0, 0))])] := ha
  simp only [List.mem_cons, List.not_mem_nil, or_false] at ha
  rcases ha with rfl | rfl | rfl
  · obtain ⟨z2, e2, r⟩ := gW_int (show gW _ _ from q) (Nat.le_of_ble_eq_true rfl)
    cases e2
    have := gR0 r
    omega
  · obtain ⟨z2, e2, r⟩ := gW_int (show gW _ _ from q) (Nat.le_of_ble_eq_true rfl)
    cases e2
    have := gR0 r
    omega
  · obtain ⟨z2, e2, r⟩ := gW_int (show gW _ _ from q) (Nat.le_of_ble_eq_true rfl)
    cases e2
    have := gR0 r
    omega
theorem q_M_near_0_c {d : Nat} (hd : 5 ≤ d) : cOK gAll (xF d) 238 K_528 := ct_of ct_ok (show K_528 ∈ CT.get 238 from (show CT.get 238 = [K_528, K_526] from rfl) ▸ by simp) hd
theorem q_M_near_0 {d : Nat} (hd : 5 ≤ d) {M : pM} (hM : gM gAll M) (p0 : 0 ≤ M 60 0 ∧ M 60 0 ≤ 0) (p1 : 0 ≤ M 60 3 ∧ M 60 3 ≤ 0) : ∃ z M', xF d 238 [.inr 62] M = rI z M' ∧ gM gAll M' ∧ Fr [(60, 16), (60, 17), (60, 30), (60, 39), (60, 40), (69, 999), (72, 999), (73, 999), (74, 999), (80, 999)] M M' ∧ (-2 ≤ z ∧ z ≤ 999999) := by
  obtain ⟨z, M', e, g, f, alt, ha, q, -⟩ := cOK_I (q_M_near_0_c hd) (A := [.inr 62]) (show aF2 gW [aRef 62] [.inr 62] from ⟨gW_o, trivial⟩) hM (show gP0 [(60, 0, (0, 0, 0, 0, 0, 0)), (60, 3, (0, 0, 0, 0, 0, 0))] M from fun e he => by
    simp only [List.mem_cons, List.not_mem_nil, or_false] at he
    rcases he with rfl | rfl
    · exact gR_i p0.1 p0.2
    · exact gR_i p1.1 p1.2) rfl
  refine ⟨z, M', e, g, f, ?_⟩
  have ha : alt ∈ [(some (0, -2, -2, 0, 0, 0), [], [(60, 0, (0, 0, 0, 0, 0, 0)), (60, 3, (0, 0, 0, 0, 0, 0)), (60, 17, (0, 0, 0, 0, 0, 0)), (60, 30, (0, 0, 0, 0, 0, 0)), (60, 39, (0, 1, 1, 0, 0, 0)), (60, 40, (0, 0, 1000000, 0, 0, 0))]), (some (0, 0, 999999, 0, 0, 0), [], [(60, 0, (0, 0, 0, 0, 0, 0)), (60, 3, (0, 0, 0, 0, 0, 0)), (60, 16, (0, 0, 10, 0, 0, 0)), (60, 17, (0, 0, 0, 0, 0, 0)), (60, 30, (0, 0, 0, 0, 0, 0)), (60, 39, (0, 1, 1, 0, 0, 0)), (60, 40, (0, 0, 1000000, 0, 0, 0))])] := ha
  simp only [List.mem_cons, List.not_mem_nil, or_false] at ha
  rcases ha with rfl | rfl
  · obtain ⟨z2, e2, r⟩ := gW_int (show gW _ _ from q) (Nat.le_of_ble_eq_true rfl)
    cases e2
    have := gR0 r
    omega
  · obtain ⟨z2, e2, r⟩ := gW_int (show gW _ _ from q) (Nat.le_of_ble_eq_true rfl)
    cases e2
    have := gR0 r
    omega
theorem q_M_guest_1_c {d : Nat} (hd : 5 ≤ d) : cOK gAll (xF d) 239 K_531 := ct_of ct_ok (show K_531 ∈ CT.get 239 from (show CT.get 239 = [K_533, K_531] from rfl) ▸ by simp) hd
theorem q_M_guest_1 {d : Nat} (hd : 5 ≤ d) {M : pM} {a1 : Int} {a2 : Int} (hM : gM gAll M) (h1 : -2147483648 ≤ a1 ∧ a1 ≤ 2147483647) (h2 : -2147483648 ≤ a2 ∧ a2 ≤ 2147483647) (p0 : 1 ≤ M 60 0 ∧ M 60 0 ≤ 6) : ∃ z M', xF d 239 [.inr 62, .inl a1, .inl a2] M = rI z M' ∧ gM gAll M' ∧ Fr [(60, 16), (60, 17), (60, 30), (60, 39), (60, 40), (69, 999), (72, 999), (73, 999), (74, 999), (78, 999), (79, 999), (80, 999)] M M' ∧ (-3 ≤ z ∧ z ≤ 999999) := by
  obtain ⟨z, M', e, g, f, alt, ha, q, -⟩ := cOK_I (q_M_guest_1_c hd) (A := [.inr 62, .inl a1, .inl a2]) (show aF2 gW [aRef 62, (0, -2147483648, 2147483647, 0, 0, 0), (0, -2147483648, 2147483647, 0, 0, 0)] [.inr 62, .inl a1, .inl a2] from ⟨gW_o, gW_i h1.1 h1.2, gW_i h2.1 h2.2, trivial⟩) hM (show gP0 [(60, 0, (0, 1, 6, 0, 0, 0))] M from fun e he => by
    simp only [List.mem_cons, List.not_mem_nil, or_false] at he
    rcases he with rfl
    · exact gR_i p0.1 p0.2) rfl
  refine ⟨z, M', e, g, f, ?_⟩
  have ha : alt ∈ [(some (0, -1, -1, 0, 0, 0), [], [(60, 0, (0, 1, 6, 0, 0, 0)), (60, 17, (0, 0, 0, 0, 0, 0))]), (some (0, -2, -2, 0, 0, 0), [(4, 0, 0, 0, 0, 0), (0, 0, 5, 0, 0, 0), (0, 0, 99, 0, 0, 0)], [(60, 0, (0, 1, 6, 0, 0, 0)), (60, 17, (0, 0, 0, 0, 0, 0)), (60, 39, (0, 1, 20000, 0, 0, 0)), (60, 40, (0, 0, 1000000, 0, 0, 0))]), (some (0, -3, -3, 0, 0, 0), [(4, 0, 0, 0, 0, 0), (0, 0, 5, 0, 0, 0), (0, 0, 99, 0, 0, 0)], [(60, 0, (0, 1, 6, 0, 0, 0)), (60, 17, (0, 0, 0, 0, 0, 0)), (60, 39, (0, 20001, 1000000, 0, 0, 0))]), (some (0, 0, 999999, 0, 0, 0), [(4, 0, 0, 0, 0, 0), (0, 0, 5, 0, 0, 0), (0, 0, 99, 0, 0, 0)], [(60, 0, (0, 1, 6, 0, 0, 0)), (60, 16, (0, 0, 10, 0, 0, 0)), (60, 17, (0, 0, 0, 0, 0, 0)), (60, 39, (0, 1, 20000, 0, 0, 0)), (60, 40, (0, 0, 1000000, 0, 0, 0))])] := ha
  simp only [List.mem_cons, List.not_mem_nil, or_false] at ha
  rcases ha with rfl | rfl | rfl | rfl
  · obtain ⟨z2, e2, r⟩ := gW_int (show gW _ _ from q) (Nat.le_of_ble_eq_true rfl)
    cases e2
    have := gR0 r
    omega
  · obtain ⟨z2, e2, r⟩ := gW_int (show gW _ _ from q) (Nat.le_of_ble_eq_true rfl)
    cases e2
    have := gR0 r
    omega
  · obtain ⟨z2, e2, r⟩ := gW_int (show gW _ _ from q) (Nat.le_of_ble_eq_true rfl)
    cases e2
    have := gR0 r
    omega
  · obtain ⟨z2, e2, r⟩ := gW_int (show gW _ _ from q) (Nat.le_of_ble_eq_true rfl)
    cases e2
    have := gR0 r
    omega
theorem q_M_guest_0_c {d : Nat} (hd : 5 ≤ d) : cOK gAll (xF d) 239 K_533 := ct_of ct_ok (show K_533 ∈ CT.get 239 from (show CT.get 239 = [K_533, K_531] from rfl) ▸ by simp) hd
theorem q_M_guest_0 {d : Nat} (hd : 5 ≤ d) {M : pM} {a1 : Int} {a2 : Int} (hM : gM gAll M) (h1 : -2147483648 ≤ a1 ∧ a1 ≤ 2147483647) (h2 : -2147483648 ≤ a2 ∧ a2 ≤ 2147483647) (p0 : 0 ≤ M 60 0 ∧ M 60 0 ≤ 0) (p1 : 0 ≤ M 60 3 ∧ M 60 3 ≤ 0) : ∃ z M', xF d 239 [.inr 62, .inl a1, .inl a2] M = rI z M' ∧ gM gAll M' ∧ Fr [(60, 16), (60, 17), (60, 30), (60, 39), (60, 40), (69, 999), (72, 999), (73, 999), (74, 999), (80, 999)] M M' ∧ (-2 ≤ z ∧ z ≤ 999999) := by
  obtain ⟨z, M', e, g, f, alt, ha, q, -⟩ := cOK_I (q_M_guest_0_c hd) (A := [.inr 62, .inl a1, .inl a2]) (show aF2 gW [aRef 62, (0, -2147483648, 2147483647, 0, 0, 0), (0, -2147483648, 2147483647, 0, 0, 0)] [.inr 62, .inl a1, .inl a2] from ⟨gW_o, gW_i h1.1 h1.2, gW_i h2.1 h2.2, trivial⟩) hM (show gP0 [(60, 0, (0, 0, 0, 0, 0, 0)), (60, 3, (0, 0, 0, 0, 0, 0))] M from fun e he => by
    simp only [List.mem_cons, List.not_mem_nil, or_false] at he
    rcases he with rfl | rfl
    · exact gR_i p0.1 p0.2
    · exact gR_i p1.1 p1.2) rfl
  refine ⟨z, M', e, g, f, ?_⟩
  have ha : alt ∈ [(some (0, -1, -1, 0, 0, 0), [], [(60, 0, (0, 0, 0, 0, 0, 0)), (60, 3, (0, 0, 0, 0, 0, 0)), (60, 17, (0, 0, 0, 0, 0, 0))]), (some (0, -2, -2, 0, 0, 0), [(4, 0, 0, 0, 0, 0), (0, 0, 5, 0, 0, 0), (0, 0, 99, 0, 0, 0)], [(60, 0, (0, 0, 0, 0, 0, 0)), (60, 3, (0, 0, 0, 0, 0, 0)), (60, 17, (0, 0, 0, 0, 0, 0)), (60, 30, (0, 0, 0, 0, 0, 0)), (60, 39, (0, 1, 1, 0, 0, 0)), (60, 40, (0, 0, 1000000, 0, 0, 0))]), (some (0, 0, 999999, 0, 0, 0), [(4, 0, 0, 0, 0, 0), (0, 0, 5, 0, 0, 0), (0, 0, 99, 0, 0, 0)], [(60, 0, (0, 0, 0, 0, 0, 0)), (60, 3, (0, 0, 0, 0, 0, 0)), (60, 16, (0, 0, 10, 0, 0, 0)), (60, 17, (0, 0, 0, 0, 0, 0)), (60, 30, (0, 0, 0, 0, 0, 0)), (60, 39, (0, 1, 1, 0, 0, 0)), (60, 40, (0, 0, 1000000, 0, 0, 0))])] := ha
  simp only [List.mem_cons, List.not_mem_nil, or_false] at ha
  rcases ha with rfl | rfl | rfl
  · obtain ⟨z2, e2, r⟩ := gW_int (show gW _ _ from q) (Nat.le_of_ble_eq_true rfl)
    cases e2
    have := gR0 r
    omega
  · obtain ⟨z2, e2, r⟩ := gW_int (show gW _ _ from q) (Nat.le_of_ble_eq_true rfl)
    cases e2
    have := gR0 r
    omega
  · obtain ⟨z2, e2, r⟩ := gW_int (show gW _ _ from q) (Nat.le_of_ble_eq_true rfl)
    cases e2
    have := gR0 r
    omega
theorem q_M_space_c {d : Nat} (hd : 4 ≤ d) : cOK gAll (xF d) 240 K_536 := ct_of ct_ok (show K_536 ∈ CT.get 240 from (show CT.get 240 = [K_536] from rfl) ▸ by simp) hd
theorem q_M_space {d : Nat} (hd : 4 ≤ d) {M : pM} (hM : gM gAll M)  : ∃ z M', xF d 240 [.inr 62] M = rI z M' ∧ gM gAll M' ∧ Fr [(60, 16), (60, 17), (60, 30), (60, 39), (60, 40), (69, 999), (72, 999), (73, 999), (78, 999), (79, 999), (80, 999)] M M' := by
  obtain ⟨z, M', e, g, f, alt, ha, q, -⟩ := cOK_I (q_M_space_c hd) (A := [.inr 62]) (show aF2 gW [aRef 62] [.inr 62] from ⟨gW_o, trivial⟩) hM (show gP0 [] M from fun e he => by cases he) rfl
  exact ⟨z, M', e, g, f⟩
theorem q_M_could_1_c {d : Nat} (hd : 4 ≤ d) : cOK gAll (xF d) 241 K_539 := ct_of ct_ok (show K_539 ∈ CT.get 241 from (show CT.get 241 = [K_540, K_539] from rfl) ▸ by simp) hd
theorem q_M_could_1 {d : Nat} (hd : 4 ≤ d) {M : pM} {a1 : Int} {a2 : Int} (hM : gM gAll M) (h1 : -2147483648 ≤ a1 ∧ a1 ≤ 2147483647) (h2 : -2147483648 ≤ a2 ∧ a2 ≤ 2147483647) (p0 : 1 ≤ M 60 0 ∧ M 60 0 ≤ 6) : ∃ z M', xF d 241 [.inr 62, .inl a1, .inl a2] M = rI z M' ∧ gM gAll M' ∧ Fr [(60, 17), (60, 30), (60, 39), (60, 40), (72, 999), (73, 999), (78, 999), (79, 999)] M M' ∧ (-3 ≤ z ∧ z ≤ 63) := by
  obtain ⟨z, M', e, g, f, alt, ha, q, -⟩ := cOK_I (q_M_could_1_c hd) (A := [.inr 62, .inl a1, .inl a2]) (show aF2 gW [aRef 62, (0, -2147483648, 2147483647, 0, 0, 0), (0, -2147483648, 2147483647, 0, 0, 0)] [.inr 62, .inl a1, .inl a2] from ⟨gW_o, gW_i h1.1 h1.2, gW_i h2.1 h2.2, trivial⟩) hM (show gP0 [(60, 0, (0, 1, 6, 0, 0, 0))] M from fun e he => by
    simp only [List.mem_cons, List.not_mem_nil, or_false] at he
    rcases he with rfl
    · exact gR_i p0.1 p0.2) rfl
  refine ⟨z, M', e, g, f, ?_⟩
  have ha : alt ∈ [(some (0, -1, -1, 0, 0, 0), [], [(60, 0, (0, 1, 6, 0, 0, 0)), (60, 17, (0, 0, 0, 0, 0, 0))]), (some (0, -3, -3, 0, 0, 0), [(4, 0, 0, 0, 0, 0), (0, 1, 99, 0, 0, 0), (0, 0, 255, 0, 0, 0)], [(60, 0, (0, 1, 6, 0, 0, 0)), (60, 17, (0, 0, 0, 0, 0, 0)), (60, 39, (0, 20001, 1000000, 0, 0, 0))]), (some (0, 0, 63, 0, 0, 0), [(4, 0, 0, 0, 0, 0), (0, 1, 99, 0, 0, 0), (0, 0, 255, 0, 0, 0)], [(60, 0, (0, 1, 6, 0, 0, 0)), (60, 17, (0, 0, 0, 0, 0, 0)), (60, 39, (0, 1, 20000, 0, 0, 0)), (60, 40, (0, 0, 1000000, 0, 0, 0))])] := ha
  simp only [List.mem_cons, List.not_mem_nil, or_false] at ha
  rcases ha with rfl | rfl | rfl
  · obtain ⟨z2, e2, r⟩ := gW_int (show gW _ _ from q) (Nat.le_of_ble_eq_true rfl)
    cases e2
    have := gR0 r
    omega
  · obtain ⟨z2, e2, r⟩ := gW_int (show gW _ _ from q) (Nat.le_of_ble_eq_true rfl)
    cases e2
    have := gR0 r
    omega
  · obtain ⟨z2, e2, r⟩ := gW_int (show gW _ _ from q) (Nat.le_of_ble_eq_true rfl)
    cases e2
    have := gR0 r
    omega
theorem q_M_could_0_c {d : Nat} (hd : 4 ≤ d) : cOK gAll (xF d) 241 K_540 := ct_of ct_ok (show K_540 ∈ CT.get 241 from (show CT.get 241 = [K_540, K_539] from rfl) ▸ by simp) hd
theorem q_M_could_0 {d : Nat} (hd : 4 ≤ d) {M : pM} {a1 : Int} {a2 : Int} (hM : gM gAll M) (h1 : -2147483648 ≤ a1 ∧ a1 ≤ 2147483647) (h2 : -2147483648 ≤ a2 ∧ a2 ≤ 2147483647) (p0 : 0 ≤ M 60 0 ∧ M 60 0 ≤ 0) (p1 : 0 ≤ M 60 3 ∧ M 60 3 ≤ 0) : ∃ z M', xF d 241 [.inr 62, .inl a1, .inl a2] M = rI z M' ∧ gM gAll M' ∧ Fr [(60, 17), (60, 30), (60, 39), (60, 40), (72, 999), (73, 999)] M M' ∧ (-1 ≤ z ∧ z ≤ 0) := by
  obtain ⟨z, M', e, g, f, alt, ha, q, -⟩ := cOK_I (q_M_could_0_c hd) (A := [.inr 62, .inl a1, .inl a2]) (show aF2 gW [aRef 62, (0, -2147483648, 2147483647, 0, 0, 0), (0, -2147483648, 2147483647, 0, 0, 0)] [.inr 62, .inl a1, .inl a2] from ⟨gW_o, gW_i h1.1 h1.2, gW_i h2.1 h2.2, trivial⟩) hM (show gP0 [(60, 0, (0, 0, 0, 0, 0, 0)), (60, 3, (0, 0, 0, 0, 0, 0))] M from fun e he => by
    simp only [List.mem_cons, List.not_mem_nil, or_false] at he
    rcases he with rfl | rfl
    · exact gR_i p0.1 p0.2
    · exact gR_i p1.1 p1.2) rfl
  refine ⟨z, M', e, g, f, ?_⟩
  have ha : alt ∈ [(some (0, -1, -1, 0, 0, 0), [], [(60, 0, (0, 0, 0, 0, 0, 0)), (60, 3, (0, 0, 0, 0, 0, 0)), (60, 17, (0, 0, 0, 0, 0, 0))]), (some (0, 0, 0, 0, 0, 0), [(4, 0, 0, 0, 0, 0), (0, 1, 99, 0, 0, 0), (0, 0, 255, 0, 0, 0)], [(60, 0, (0, 0, 0, 0, 0, 0)), (60, 3, (0, 0, 0, 0, 0, 0)), (60, 17, (0, 0, 0, 0, 0, 0)), (60, 30, (0, 0, 0, 0, 0, 0)), (60, 39, (0, 1, 1, 0, 0, 0)), (60, 40, (0, 0, 1000000, 0, 0, 0))])] := ha
  simp only [List.mem_cons, List.not_mem_nil, or_false] at ha
  rcases ha with rfl | rfl
  · obtain ⟨z2, e2, r⟩ := gW_int (show gW _ _ from q) (Nat.le_of_ble_eq_true rfl)
    cases e2
    have := gR0 r
    omega
  · obtain ⟨z2, e2, r⟩ := gW_int (show gW _ _ from q) (Nat.le_of_ble_eq_true rfl)
    cases e2
    have := gR0 r
    omega
theorem q_M_may_0_c {d : Nat} (hd : 3 ≤ d) : cOK gAll (xF d) 242 K_575 := ct_of ct_ok (show K_575 ∈ CT.get 242 from (show CT.get 242 = [K_575] from rfl) ▸ by simp) hd
theorem q_M_may_0 {d : Nat} (hd : 3 ≤ d) {M : pM} {a1 : Int} (hM : gM gAll M) (h1 : -2147483648 ≤ a1 ∧ a1 ≤ 2147483647) (p0 : 0 ≤ M 60 0 ∧ M 60 0 ≤ 0) (p1 : 0 ≤ M 60 3 ∧ M 60 3 ≤ 0) : ∃ z M', xF d 242 [.inr 62, .inl a1] M = rI z M' ∧ gM gAll M' ∧ Fr [(60, 17), (60, 30), (72, 999), (73, 999)] M M' ∧ (-1 ≤ z ∧ z ≤ -1) := by
  obtain ⟨z, M', e, g, f, alt, ha, q, -⟩ := cOK_I (q_M_may_0_c hd) (A := [.inr 62, .inl a1]) (show aF2 gW [aRef 62, (0, -2147483648, 2147483647, 0, 0, 0)] [.inr 62, .inl a1] from ⟨gW_o, gW_i h1.1 h1.2, trivial⟩) hM (show gP0 [(60, 0, (0, 0, 0, 0, 0, 0)), (60, 3, (0, 0, 0, 0, 0, 0))] M from fun e he => by
    simp only [List.mem_cons, List.not_mem_nil, or_false] at he
    rcases he with rfl | rfl
    · exact gR_i p0.1 p0.2
    · exact gR_i p1.1 p1.2) rfl
  refine ⟨z, M', e, g, f, ?_⟩
  have ha : alt ∈ [(some (0, -1, -1, 0, 0, 0), [], [(60, 0, (0, 0, 0, 0, 0, 0)), (60, 3, (0, 0, 0, 0, 0, 0)), (60, 17, (0, 0, 0, 0, 0, 0)), (60, 30, (0, 0, 0, 0, 0, 0))])] := ha
  simp only [List.mem_cons, List.not_mem_nil, or_false] at ha
  rcases ha with rfl
  · obtain ⟨z2, e2, r⟩ := gW_int (show gW _ _ from q) (Nat.le_of_ble_eq_true rfl)
    cases e2
    have := gR0 r
    omega
theorem q_M_together_1_c {d : Nat} (hd : 4 ≤ d) : cOK gAll (xF d) 243 K_541 := ct_of ct_ok (show K_541 ∈ CT.get 243 from (show CT.get 243 = [K_542, K_541] from rfl) ▸ by simp) hd
theorem q_M_together_1 {d : Nat} (hd : 4 ≤ d) {M : pM} {a1 : Int} {a2 : Int} (hM : gM gAll M) (h1 : -2147483648 ≤ a1 ∧ a1 ≤ 2147483647) (h2 : -2147483648 ≤ a2 ∧ a2 ≤ 2147483647) (p0 : 1 ≤ M 60 0 ∧ M 60 0 ≤ 6) : ∃ z M', xF d 243 [.inr 62, .inl a1, .inl a2] M = rI z M' ∧ gM gAll M' ∧ Fr [(60, 16), (60, 17), (60, 30), (60, 39), (60, 40), (69, 999), (72, 999), (73, 999), (78, 999), (79, 999)] M M' := by
  obtain ⟨z, M', e, g, f, alt, ha, q, -⟩ := cOK_I (q_M_together_1_c hd) (A := [.inr 62, .inl a1, .inl a2]) (show aF2 gW [aRef 62, (0, -2147483648, 2147483647, 0, 0, 0), (0, -2147483648, 2147483647, 0, 0, 0)] [.inr 62, .inl a1, .inl a2] from ⟨gW_o, gW_i h1.1 h1.2, gW_i h2.1 h2.2, trivial⟩) hM (show gP0 [(60, 0, (0, 1, 6, 0, 0, 0))] M from fun e he => by
    simp only [List.mem_cons, List.not_mem_nil, or_false] at he
    rcases he with rfl
    · exact gR_i p0.1 p0.2) rfl
  exact ⟨z, M', e, g, f⟩
theorem q_M_together_0_c {d : Nat} (hd : 4 ≤ d) : cOK gAll (xF d) 243 K_542 := ct_of ct_ok (show K_542 ∈ CT.get 243 from (show CT.get 243 = [K_542, K_541] from rfl) ▸ by simp) hd
theorem q_M_together_0 {d : Nat} (hd : 4 ≤ d) {M : pM} {a1 : Int} {a2 : Int} (hM : gM gAll M) (h1 : -2147483648 ≤ a1 ∧ a1 ≤ 2147483647) (h2 : -2147483648 ≤ a2 ∧ a2 ≤ 2147483647) (p0 : 0 ≤ M 60 0 ∧ M 60 0 ≤ 0) (p1 : 0 ≤ M 60 3 ∧ M 60 3 ≤ 0) : ∃ z M', xF d 243 [.inr 62, .inl a1, .inl a2] M = rI z M' ∧ gM gAll M' ∧ Fr [(60, 16), (60, 17), (60, 30), (60, 39), (60, 40), (69, 999), (72, 999), (73, 999)] M M' := by
  obtain ⟨z, M', e, g, f, alt, ha, q, -⟩ := cOK_I (q_M_together_0_c hd) (A := [.inr 62, .inl a1, .inl a2]) (show aF2 gW [aRef 62, (0, -2147483648, 2147483647, 0, 0, 0), (0, -2147483648, 2147483647, 0, 0, 0)] [.inr 62, .inl a1, .inl a2] from ⟨gW_o, gW_i h1.1 h1.2, gW_i h2.1 h2.2, trivial⟩) hM (show gP0 [(60, 0, (0, 0, 0, 0, 0, 0)), (60, 3, (0, 0, 0, 0, 0, 0))] M from fun e he => by
    simp only [List.mem_cons, List.not_mem_nil, or_false] at he
    rcases he with rfl | rfl
    · exact gR_i p0.1 p0.2
    · exact gR_i p1.1 p1.2) rfl
  exact ⟨z, M', e, g, f⟩
theorem q_M_fullest_1_c {d : Nat} (hd : 4 ≤ d) : cOK gAll (xF d) 244 K_543 := ct_of ct_ok (show K_543 ∈ CT.get 244 from (show CT.get 244 = [K_544, K_543] from rfl) ▸ by simp) hd
theorem q_M_fullest_1 {d : Nat} (hd : 4 ≤ d) {M : pM} {a1 : Int} (hM : gM gAll M) (h1 : -2147483648 ≤ a1 ∧ a1 ≤ 2147483647) (p0 : 1 ≤ M 60 0 ∧ M 60 0 ≤ 6) : ∃ z M', xF d 244 [.inr 62, .inl a1] M = rI z M' ∧ gM gAll M' ∧ Fr [(60, 16), (60, 17), (60, 30), (60, 39), (60, 40), (69, 999), (72, 999), (73, 999), (78, 999), (79, 999), (80, 999)] M M' := by
  obtain ⟨z, M', e, g, f, alt, ha, q, -⟩ := cOK_I (q_M_fullest_1_c hd) (A := [.inr 62, .inl a1]) (show aF2 gW [aRef 62, (0, -2147483648, 2147483647, 0, 0, 0)] [.inr 62, .inl a1] from ⟨gW_o, gW_i h1.1 h1.2, trivial⟩) hM (show gP0 [(60, 0, (0, 1, 6, 0, 0, 0))] M from fun e he => by
    simp only [List.mem_cons, List.not_mem_nil, or_false] at he
    rcases he with rfl
    · exact gR_i p0.1 p0.2) rfl
  exact ⟨z, M', e, g, f⟩
theorem q_M_fullest_0_c {d : Nat} (hd : 4 ≤ d) : cOK gAll (xF d) 244 K_544 := ct_of ct_ok (show K_544 ∈ CT.get 244 from (show CT.get 244 = [K_544, K_543] from rfl) ▸ by simp) hd
theorem q_M_fullest_0 {d : Nat} (hd : 4 ≤ d) {M : pM} {a1 : Int} (hM : gM gAll M) (h1 : -2147483648 ≤ a1 ∧ a1 ≤ 2147483647) (p0 : 0 ≤ M 60 0 ∧ M 60 0 ≤ 0) (p1 : 0 ≤ M 60 3 ∧ M 60 3 ≤ 0) : ∃ z M', xF d 244 [.inr 62, .inl a1] M = rI z M' ∧ gM gAll M' ∧ Fr [(60, 16), (60, 17), (60, 30), (60, 39), (60, 40), (69, 999), (72, 999), (73, 999), (80, 999)] M M' := by
  obtain ⟨z, M', e, g, f, alt, ha, q, -⟩ := cOK_I (q_M_fullest_0_c hd) (A := [.inr 62, .inl a1]) (show aF2 gW [aRef 62, (0, -2147483648, 2147483647, 0, 0, 0)] [.inr 62, .inl a1] from ⟨gW_o, gW_i h1.1 h1.2, trivial⟩) hM (show gP0 [(60, 0, (0, 0, 0, 0, 0, 0)), (60, 3, (0, 0, 0, 0, 0, 0))] M from fun e he => by
    simp only [List.mem_cons, List.not_mem_nil, or_false] at he
    rcases he with rfl | rfl
    · exact gR_i p0.1 p0.2
    · exact gR_i p1.1 p1.2) rfl
  exact ⟨z, M', e, g, f⟩
theorem q_M_swap_c {d : Nat} (hd : 4 ≤ d) : cOK gAll (xF d) 245 K_548 := ct_of ct_ok (show K_548 ∈ CT.get 245 from (show CT.get 245 = [K_548] from rfl) ▸ by simp) hd
theorem q_M_swap {d : Nat} (hd : 4 ≤ d) {M : pM} {a1 : Int} {a2 : Int} (hM : gM gAll M) (h1 : -2147483648 ≤ a1 ∧ a1 ≤ 2147483647) (h2 : -2147483648 ≤ a2 ∧ a2 ≤ 2147483647) : ∃ z M', xF d 245 [.inr 62, .inl a1, .inl a2] M = rI z M' ∧ gM gAll M' ∧ Fr [(60, 16), (60, 17), (69, 999), (74, 999), (78, 999)] M M' ∧ (-1 ≤ z ∧ z ≤ 1) := by
  obtain ⟨z, M', e, g, f, alt, ha, q, -⟩ := cOK_I (q_M_swap_c hd) (A := [.inr 62, .inl a1, .inl a2]) (show aF2 gW [aRef 62, (0, -2147483648, 2147483647, 0, 0, 0), (0, -2147483648, 2147483647, 0, 0, 0)] [.inr 62, .inl a1, .inl a2] from ⟨gW_o, gW_i h1.1 h1.2, gW_i h2.1 h2.2, trivial⟩) hM (show gP0 [] M from fun e he => by cases he) rfl
  refine ⟨z, M', e, g, f, ?_⟩
  have ha : alt ∈ [(some (0, -1, -1, 0, 0, 0), [], [(60, 17, (0, 0, 0, 0, 0, 0))]), (some (0, 0, 0, 0, 0, 0), [(4, 0, 0, 0, 0, 0), (0, 0, 5, 0, 0, 0), (0, 0, 5, 0, 0, 0)], [(60, 16, (0, 1, 1, 0, 0, 0)), (60, 17, (0, 0, 0, 0, 0, 0)), (69, 0, (0, -2147483648, 2147483647, 0, 0, 0))]), (some (0, 1, 1, 0, 0, 0), [(4, 0, 0, 0, 0, 0), (0, 0, 5, 0, 0, 0), (0, 0, 5, 0, 0, 0)], [(60, 16, (0, 1, 1, 0, 0, 0)), (60, 17, (0, 0, 0, 0, 0, 0)), (69, 0, (0, -2147483648, 2147483647, 0, 0, 0))])] := ha
  simp only [List.mem_cons, List.not_mem_nil, or_false] at ha
  rcases ha with rfl | rfl | rfl
  · obtain ⟨z2, e2, r⟩ := gW_int (show gW _ _ from q) (Nat.le_of_ble_eq_true rfl)
    cases e2
    have := gR0 r
    omega
  · obtain ⟨z2, e2, r⟩ := gW_int (show gW _ _ from q) (Nat.le_of_ble_eq_true rfl)
    cases e2
    have := gR0 r
    omega
  · obtain ⟨z2, e2, r⟩ := gW_int (show gW _ _ from q) (Nat.le_of_ble_eq_true rfl)
    cases e2
    have := gR0 r
    omega
theorem q_M_sell_1_c {d : Nat} (hd : 4 ≤ d) : cOK gAll (xF d) 246 K_551 := ct_of ct_ok (show K_551 ∈ CT.get 246 from (show CT.get 246 = [K_552, K_551] from rfl) ▸ by simp) hd
theorem q_M_sell_0_c {d : Nat} (hd : 4 ≤ d) : cOK gAll (xF d) 246 K_552 := ct_of ct_ok (show K_552 ∈ CT.get 246 from (show CT.get 246 = [K_552, K_551] from rfl) ▸ by simp) hd
theorem q_M_widest_c {d : Nat} (hd : 3 ≤ d) : cOK gAll (xF d) 251 K_554 := ct_of ct_ok (show K_554 ∈ CT.get 251 from (show CT.get 251 = [K_554] from rfl) ▸ by simp) hd
theorem q_M_widest {d : Nat} (hd : 3 ≤ d) {M : pM} {a1 : Int} {a2 : Int} (hM : gM gAll M) (h1 : -2147483648 ≤ a1 ∧ a1 ≤ 2147483647) (h2 : -2147483648 ≤ a2 ∧ a2 ≤ 2147483647) : ∃ z M', xF d 251 [.inr 62, .inl a1, .inl a2] M = rI z M' ∧ gM gAll M' ∧ Fr [(60, 17), (74, 999)] M M' ∧ (-1 ≤ z ∧ z ≤ 9) := by
  obtain ⟨z, M', e, g, f, alt, ha, q, -⟩ := cOK_I (q_M_widest_c hd) (A := [.inr 62, .inl a1, .inl a2]) (show aF2 gW [aRef 62, (0, -2147483648, 2147483647, 0, 0, 0), (0, -2147483648, 2147483647, 0, 0, 0)] [.inr 62, .inl a1, .inl a2] from ⟨gW_o, gW_i h1.1 h1.2, gW_i h2.1 h2.2, trivial⟩) hM (show gP0 [] M from fun e he => by cases he) rfl
  refine ⟨z, M', e, g, f, ?_⟩
  have ha : alt ∈ [(some (0, -1, -1, 0, 0, 0), [], [(60, 17, (0, 0, 0, 0, 0, 0))]), (some (0, 0, 0, 0, 0, 0), [(4, 0, 0, 0, 0, 0), (0, 0, 5, 0, 0, 0), (0, 0, 5, 0, 0, 0)], [(60, 17, (0, 0, 0, 0, 0, 0))]), (some (0, 1, 9, 0, 0, 0), [(4, 0, 0, 0, 0, 0), (0, 0, 5, 0, 0, 0), (0, 0, 5, 0, 0, 0)], [(60, 17, (0, 0, 0, 0, 0, 0))])] := ha
  simp only [List.mem_cons, List.not_mem_nil, or_false] at ha
  rcases ha with rfl | rfl | rfl
  · obtain ⟨z2, e2, r⟩ := gW_int (show gW _ _ from q) (Nat.le_of_ble_eq_true rfl)
    cases e2
    have := gR0 r
    omega
  · obtain ⟨z2, e2, r⟩ := gW_int (show gW _ _ from q) (Nat.le_of_ble_eq_true rfl)
    cases e2
    have := gR0 r
    omega
  · obtain ⟨z2, e2, r⟩ := gW_int (show gW _ _ from q) (Nat.le_of_ble_eq_true rfl)
    cases e2
    have := gR0 r
    omega
theorem q_M_stuck_c {d : Nat} (hd : 3 ≤ d) : cOK gAll (xF d) 252 K_557 := ct_of ct_ok (show K_557 ∈ CT.get 252 from (show CT.get 252 = [K_557] from rfl) ▸ by simp) hd
theorem q_M_stuck {d : Nat} (hd : 3 ≤ d) {M : pM} (hM : gM gAll M)  : ∃ z M', xF d 252 [.inr 62] M = rI z M' ∧ gM gAll M' ∧ Fr [(60, 17), (74, 999)] M M' ∧ (0 ≤ z ∧ z ≤ 1023) := by
  obtain ⟨z, M', e, g, f, alt, ha, q, -⟩ := cOK_I (q_M_stuck_c hd) (A := [.inr 62]) (show aF2 gW [aRef 62] [.inr 62] from ⟨gW_o, trivial⟩) hM (show gP0 [] M from fun e he => by cases he) rfl
  refine ⟨z, M', e, g, f, ?_⟩
  have ha : alt ∈ [(some (0, 0, 1023, 0, 0, 0), [], [(60, 17, (0, 0, 0, 0, 0, 0))])] := ha
  simp only [List.mem_cons, List.not_mem_nil, or_false] at ha
  rcases ha with rfl
  · obtain ⟨z2, e2, r⟩ := gW_int (show gW _ _ from q) (Nat.le_of_ble_eq_true rfl)
    cases e2
    have := gR0 r
    omega
theorem q_M_aim_c {d : Nat} (hd : 2 ≤ d) : cOK gAll (xF d) 255 K_559 := ct_of ct_ok (show K_559 ∈ CT.get 255 from (show CT.get 255 = [K_559] from rfl) ▸ by simp) hd
theorem q_M_aim {d : Nat} (hd : 2 ≤ d) {M : pM} (hM : gM gAll M)  : ∃ z M', xF d 255 [.inr 62] M = rI z M' ∧ gM gAll M' ∧ Fr [(60, 14), (60, 17), (60, 43), (60, 44), (81, 999)] M M' ∧ (-11 ≤ z ∧ z ≤ 10) := by
  obtain ⟨z, M', e, g, f, alt, ha, q, -⟩ := cOK_I (q_M_aim_c hd) (A := [.inr 62]) (show aF2 gW [aRef 62] [.inr 62] from ⟨gW_o, trivial⟩) hM (show gP0 [] M from fun e he => by cases he) rfl
  refine ⟨z, M', e, g, f, ?_⟩
  have ha : alt ∈ [(some (0, -1, -1, 0, 0, 0), [], [(60, 14, (0, 0, 0, 0, 0, 0)), (60, 17, (0, 0, 0, 0, 0, 0))]), (some (0, -2, -2, 0, 0, 0), [], [(60, 3, (0, 1, 10, 0, 0, 0)), (60, 14, (0, 0, 0, 0, 0, 0)), (60, 17, (0, 0, 0, 0, 0, 0)), (68, 0, (0, 48, 53, 0, 0, 0))]), (some (0, -3, -3, 0, 0, 0), [], [(60, 3, (0, 2, 10, 0, 0, 0)), (60, 14, (0, 0, 0, 0, 0, 0)), (60, 17, (0, 0, 0, 0, 0, 0)), (68, 0, (0, 48, 53, 0, 0, 0)), (68, 1, (0, 48, 53, 0, 0, 0))]), (some (0, -4, -4, 0, 0, 0), [], [(60, 3, (0, 3, 10, 0, 0, 0)), (60, 14, (0, 0, 0, 0, 0, 0)), (60, 17, (0, 0, 0, 0, 0, 0)), (68, 0, (0, 48, 53, 0, 0, 0)), (68, 1, (0, 48, 53, 0, 0, 0)), (68, 2, (0, 48, 53, 0, 0, 0))]), (some (0, -5, -5, 0, 0, 0), [], [(60, 3, (0, 4, 10, 0, 0, 0)), (60, 14, (0, 0, 0, 0, 0, 0)), (60, 17, (0, 0, 0, 0, 0, 0)), (68, 0, (0, 48, 53, 0, 0, 0)), (68, 1, (0, 48, 53, 0, 0, 0)), (68, 2, (0, 48, 53, 0, 0, 0)), (68, 3, (0, 48, 53, 0, 0, 0))]), (some (0, 0, 0, 0, 0, 0), [], [(60, 14, (0, 0, 0, 0, 0, 0)), (60, 17, (0, 0, 0, 0, 0, 0)), (60, 44, (0, 0, 0, 0, 0, 0))]), (some (0, 1, 1, 0, 0, 0), [], [(60, 3, (0, 1, 1, 0, 0, 0)), (60, 14, (0, 0, 0, 0, 0, 0)), (60, 17, (0, 0, 0, 0, 0, 0)), (60, 43, (0, 1, 1, 0, 0, 0)), (60, 44, (0, 1, 1, 0, 0, 0)), (68, 0, (0, 48, 53, 0, 0, 0))]), (some (0, 2, 10, 0, 0, 0), [], [(60, 3, (0, 2, 10, 0, 0, 0)), (60, 14, (0, 0, 0, 0, 0, 0)), (60, 17, (0, 0, 0, 0, 0, 0)), (60, 43, (0, 2, 10, 0, 0, 0)), (60, 44, (0, 1, 1, 0, 0, 0)), (68, 0, (0, 48, 53, 0, 0, 0)), (68, 1, (0, 48, 53, 0, 0, 0))]), (some (0, -11, -6, 0, 0, 0), [], [(60, 3, (0, 5, 10, 0, 0, 0)), (60, 14, (0, 0, 0, 0, 0, 0)), (60, 17, (0, 0, 0, 0, 0, 0)), (68, 0, (0, 48, 53, 0, 0, 0)), (68, 1, (0, 48, 53, 0, 0, 0)), (68, 2, (0, 48, 53, 0, 0, 0)), (68, 3, (0, 48, 53, 0, 0, 0)), (68, 4, (0, 48, 53, 0, 0, 0))])] := ha
  simp only [List.mem_cons, List.not_mem_nil, or_false] at ha
  rcases ha with rfl | rfl | rfl | rfl | rfl | rfl | rfl | rfl | rfl
  · obtain ⟨z2, e2, r⟩ := gW_int (show gW _ _ from q) (Nat.le_of_ble_eq_true rfl)
    cases e2
    have := gR0 r
    omega
  · obtain ⟨z2, e2, r⟩ := gW_int (show gW _ _ from q) (Nat.le_of_ble_eq_true rfl)
    cases e2
    have := gR0 r
    omega
  · obtain ⟨z2, e2, r⟩ := gW_int (show gW _ _ from q) (Nat.le_of_ble_eq_true rfl)
    cases e2
    have := gR0 r
    omega
  · obtain ⟨z2, e2, r⟩ := gW_int (show gW _ _ from q) (Nat.le_of_ble_eq_true rfl)
    cases e2
    have := gR0 r
    omega
  · obtain ⟨z2, e2, r⟩ := gW_int (show gW _ _ from q) (Nat.le_of_ble_eq_true rfl)
    cases e2
    have := gR0 r
    omega
  · obtain ⟨z2, e2, r⟩ := gW_int (show gW _ _ from q) (Nat.le_of_ble_eq_true rfl)
    cases e2
    have := gR0 r
    omega
  · obtain ⟨z2, e2, r⟩ := gW_int (show gW _ _ from q) (Nat.le_of_ble_eq_true rfl)
    cases e2
    have := gR0 r
    omega
  · obtain ⟨z2, e2, r⟩ := gW_int (show gW _ _ from q) (Nat.le_of_ble_eq_true rfl)
    cases e2
    have := gR0 r
    omega
  · obtain ⟨z2, e2, r⟩ := gW_int (show gW _ _ from q) (Nat.le_of_ble_eq_true rfl)
    cases e2
    have := gR0 r
    omega
theorem q_M_apart_c {d : Nat} (hd : 4 ≤ d) : cOK gAll (xF d) 257 K_566 := ct_of ct_ok (show K_566 ∈ CT.get 257 from (show CT.get 257 = [K_566] from rfl) ▸ by simp) hd
theorem q_M_apart {d : Nat} (hd : 4 ≤ d) {M : pM} (hM : gM gAll M)  : ∃ z M', xF d 257 [.inr 62] M = rI z M' ∧ gM gAll M' ∧ Fr [(60, 16), (60, 17), (69, 999), (74, 999)] M M' ∧ (-4 ≤ z ∧ z ≤ 999999) := by
  obtain ⟨z, M', e, g, f, alt, ha, q, -⟩ := cOK_I (q_M_apart_c hd) (A := [.inr 62]) (show aF2 gW [aRef 62] [.inr 62] from ⟨gW_o, trivial⟩) hM (show gP0 [] M from fun e he => by cases he) rfl
  refine ⟨z, M', e, g, f, ?_⟩
  have ha : alt ∈ [(some (0, -2, -2, 0, 0, 0), [], [(60, 3, (0, 1, 10, 0, 0, 0)), (60, 17, (0, 0, 0, 0, 0, 0)), (60, 44, (0, 1, 1, 0, 0, 0))]), (some (0, -4, -4, 0, 0, 0), [], [(60, 17, (0, 0, 0, 0, 0, 0))]), (some (0, 0, 0, 0, 0, 0), [], [(60, 3, (0, 0, 0, 0, 0, 0)), (60, 16, (0, 1, 1, 0, 0, 0)), (60, 17, (0, 0, 0, 0, 0, 0)), (60, 44, (0, 1, 1, 0, 0, 0)), (69, 0, (0, -2147483648, 2147483647, 0, 0, 0))]), (some (0, 0, 999999, 0, 0, 0), [], [(60, 3, (0, 1, 10, 0, 0, 0)), (60, 16, (0, 1, 1, 0, 0, 0)), (60, 17, (0, 0, 0, 0, 0, 0)), (60, 44, (0, 1, 1, 0, 0, 0)), (69, 0, (0, -2147483648, 2147483647, 0, 0, 0))])] := ha
  simp only [List.mem_cons, List.not_mem_nil, or_false] at ha
  rcases ha with rfl | rfl | rfl | rfl
  · obtain ⟨z2, e2, r⟩ := gW_int (show gW _ _ from q) (Nat.le_of_ble_eq_true rfl)
    cases e2
    have := gR0 r
    omega
  · obtain ⟨z2, e2, r⟩ := gW_int (show gW _ _ from q) (Nat.le_of_ble_eq_true rfl)
    cases e2
    have := gR0 r
    omega
  · obtain ⟨z2, e2, r⟩ := gW_int (show gW _ _ from q) (Nat.le_of_ble_eq_true rfl)
    cases e2
    have := gR0 r
    omega
  · obtain ⟨z2, e2, r⟩ := gW_int (show gW _ _ from q) (Nat.le_of_ble_eq_true rfl)
    cases e2
    have := gR0 r
    omega
theorem q_M_evenings_0_c {d : Nat} (hd : 2 ≤ d) : cOK gAll (xF d) 263 K_577 := ct_of ct_ok (show K_577 ∈ CT.get 263 from (show CT.get 263 = [K_577] from rfl) ▸ by simp) hd
theorem q_M_evenings_0 {d : Nat} (hd : 2 ≤ d) {M : pM} (hM : gM gAll M) (p0 : 0 ≤ M 60 0 ∧ M 60 0 ≤ 0) (p1 : 0 ≤ M 60 3 ∧ M 60 3 ≤ 0) (p2 : 0 ≤ M 60 38 ∧ M 60 38 ≤ 0) : ∃ z M', xF d 263 [.inr 62] M = rI z M' ∧ gM gAll M' ∧ Fr [(60, 16), (60, 17), (69, 999)] M M' ∧ (-4 ≤ z ∧ z ≤ 0) := by
  obtain ⟨z, M', e, g, f, alt, ha, q, -⟩ := cOK_I (q_M_evenings_0_c hd) (A := [.inr 62]) (show aF2 gW [aRef 62] [.inr 62] from ⟨gW_o, trivial⟩) hM (show gP0 [(60, 0, (0, 0, 0, 0, 0, 0)), (60, 3, (0, 0, 0, 0, 0, 0)), (60, 38, (0, 0, 0, 0, 0, 0))] M from fun e he => by
    simp only [List.mem_cons, List.not_mem_nil, or_false] at he
    rcases he with rfl | rfl | rfl
    · exact gR_i p0.1 p0.2
    · exact gR_i p1.1 p1.2
    · exact gR_i p2.1 p2.2) rfl
  refine ⟨z, M', e, g, f, ?_⟩
  have ha : alt ∈ [(some (0, -4, -4, 0, 0, 0), [], [(60, 0, (0, 0, 0, 0, 0, 0)), (60, 3, (0, 0, 0, 0, 0, 0)), (60, 17, (0, 0, 0, 0, 0, 0)), (60, 38, (0, 0, 0, 0, 0, 0))]), (some (0, 0, 0, 0, 0, 0), [], [(60, 0, (0, 0, 0, 0, 0, 0)), (60, 3, (0, 0, 0, 0, 0, 0)), (60, 16, (0, 1, 1, 0, 0, 0)), (60, 17, (0, 0, 0, 0, 0, 0)), (60, 38, (0, 0, 0, 0, 0, 0)), (60, 44, (0, 1, 1, 0, 0, 0)), (69, 0, (0, -2147483648, 2147483647, 0, 0, 0))])] := ha
  simp only [List.mem_cons, List.not_mem_nil, or_false] at ha
  rcases ha with rfl | rfl
  · obtain ⟨z2, e2, r⟩ := gW_int (show gW _ _ from q) (Nat.le_of_ble_eq_true rfl)
    cases e2
    have := gR0 r
    omega
  · obtain ⟨z2, e2, r⟩ := gW_int (show gW _ _ from q) (Nat.le_of_ble_eq_true rfl)
    cases e2
    have := gR0 r
    omega
theorem q_M_weakest_0_c {d : Nat} (hd : 2 ≤ d) : cOK gAll (xF d) 264 K_578 := ct_of ct_ok (show K_578 ∈ CT.get 264 from (show CT.get 264 = [K_578] from rfl) ▸ by simp) hd
theorem q_M_weakest_0 {d : Nat} (hd : 2 ≤ d) {M : pM} (hM : gM gAll M) (p0 : 0 ≤ M 60 0 ∧ M 60 0 ≤ 0) (p1 : 0 ≤ M 60 3 ∧ M 60 3 ≤ 0) (p2 : 0 ≤ M 60 38 ∧ M 60 38 ≤ 0) : ∃ z M', xF d 264 [.inr 62] M = rI z M' ∧ gM gAll M' ∧ Fr [(60, 16), (60, 17), (69, 999)] M M' ∧ (-4 ≤ z ∧ z ≤ 0) := by
  obtain ⟨z, M', e, g, f, alt, ha, q, -⟩ := cOK_I (q_M_weakest_0_c hd) (A := [.inr 62]) (show aF2 gW [aRef 62] [.inr 62] from ⟨gW_o, trivial⟩) hM (show gP0 [(60, 0, (0, 0, 0, 0, 0, 0)), (60, 3, (0, 0, 0, 0, 0, 0)), (60, 38, (0, 0, 0, 0, 0, 0))] M from fun e he => by
    simp only [List.mem_cons, List.not_mem_nil, or_false] at he
    rcases he with rfl | rfl | rfl
    · exact gR_i p0.1 p0.2
    · exact gR_i p1.1 p1.2
    · exact gR_i p2.1 p2.2) rfl
  refine ⟨z, M', e, g, f, ?_⟩
  have ha : alt ∈ [(some (0, -4, -4, 0, 0, 0), [], [(60, 0, (0, 0, 0, 0, 0, 0)), (60, 3, (0, 0, 0, 0, 0, 0)), (60, 17, (0, 0, 0, 0, 0, 0)), (60, 38, (0, 0, 0, 0, 0, 0))]), (some (0, 0, 0, 0, 0, 0), [], [(60, 0, (0, 0, 0, 0, 0, 0)), (60, 3, (0, 0, 0, 0, 0, 0)), (60, 16, (0, 1, 1, 0, 0, 0)), (60, 17, (0, 0, 0, 0, 0, 0)), (60, 38, (0, 0, 0, 0, 0, 0)), (60, 44, (0, 1, 1, 0, 0, 0)), (69, 0, (0, -2147483648, 2147483647, 0, 0, 0))])] := ha
  simp only [List.mem_cons, List.not_mem_nil, or_false] at ha
  rcases ha with rfl | rfl
  · obtain ⟨z2, e2, r⟩ := gW_int (show gW _ _ from q) (Nat.le_of_ble_eq_true rfl)
    cases e2
    have := gR0 r
    omega
  · obtain ⟨z2, e2, r⟩ := gW_int (show gW _ _ from q) (Nat.le_of_ble_eq_true rfl)
    cases e2
    have := gR0 r
    omega
theorem q_M_count_c {d : Nat} (hd : 3 ≤ d) : cOK gAll (xF d) 268 K_569 := ct_of ct_ok (show K_569 ∈ CT.get 268 from (show CT.get 268 = [K_569] from rfl) ▸ by simp) hd
theorem q_M_count {d : Nat} (hd : 3 ≤ d) {M : pM} {a1 : Int} (hM : gM gAll M) (h1 : -2147483648 ≤ a1 ∧ a1 ≤ 2147483647) : ∃ z M', xF d 268 [.inr 62, .inl a1] M = rI z M' ∧ gM gAll M' ∧ Fr [(60, 17)] M M' := by
  obtain ⟨z, M', e, g, f, alt, ha, q, -⟩ := cOK_I (q_M_count_c hd) (A := [.inr 62, .inl a1]) (show aF2 gW [aRef 62, (0, -2147483648, 2147483647, 0, 0, 0)] [.inr 62, .inl a1] from ⟨gW_o, gW_i h1.1 h1.2, trivial⟩) hM (show gP0 [] M from fun e he => by cases he) rfl
  exact ⟨z, M', e, g, f⟩
theorem q_M_row_c {d : Nat} (hd : 2 ≤ d) : cOK gAll (xF d) 269 K_571 := ct_of ct_ok (show K_571 ∈ CT.get 269 from (show CT.get 269 = [K_571] from rfl) ▸ by simp) hd
theorem q_M_row {d : Nat} (hd : 2 ≤ d) {M : pM} {a1 : Int} (hM : gM gAll M) (h1 : -2147483648 ≤ a1 ∧ a1 ≤ 2147483647) : ∃ z M', xF d 269 [.inr 62, .inl a1] M = rI z M' ∧ gM gAll M' ∧ Fr [(60, 17)] M M' := by
  obtain ⟨z, M', e, g, f, alt, ha, q, -⟩ := cOK_I (q_M_row_c hd) (A := [.inr 62, .inl a1]) (show aF2 gW [aRef 62, (0, -2147483648, 2147483647, 0, 0, 0)] [.inr 62, .inl a1] from ⟨gW_o, gW_i h1.1 h1.2, trivial⟩) hM (show gP0 [] M from fun e he => by cases he) rfl
  exact ⟨z, M', e, g, f⟩
end
