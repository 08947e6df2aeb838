/-! each step is sound (by program) -/
def ZD_0 : List zE := [.inl (zald0 1), .inl (zgetf 11 0 2 10), .inl (zild1 3), .inl (zcallV 1 8 152 1 4 104), .inl (zifeq 9 5), .inl (zald0 6), .inl (zgetf 11 0 7 10), .inl (zgetf 8 1 8 108), .inl (zgo 10), .inl (zicm1 10), .inl (ziret)]
set_option maxRecDepth 100000 in
set_option maxHeartbeats 4000000 in
theorem S_0 : pAll (pSk RX11 cX11_sign 2 (some .int) PC_0) 0 C_0 := zall (D := ZD_0) zgetf_RX11_ok zputi_RX11_ok zcallV_RX11_ok (by decide +kernel)
  trivial
def ZD_1 : List zE := [.inl (zald0 1), .inl (zgetf 11 0 2 10), .inl (zild1 3), .inl (zcallV 1 8 153 1 4 111), .inr (s_zret)]
set_option maxRecDepth 100000 in
set_option maxHeartbeats 4000000 in
theorem S_1 : pAll (pSk RX11 cX11_end 2 (some .boolean) PC_1) 0 C_1 := zall (D := ZD_1) zgetf_RX11_ok zputi_RX11_ok zcallV_RX11_ok (by decide +kernel)
  ⟨sn_zret (Or.inl rfl) (dX_ireturn (by decide +kernel)), trivial⟩
def ZD_2 : List zE := [.inl (zald0 1), .inl (zgetf 11 0 2 10), .inl (zgetf 8 1 3 108), .inl (zifne 6 4), .inl (zic0 5), .inl (ziret), .inl (zald0 7), .inl (zgetf 11 5 8 48), .inl (zald0 9), .inl (zgetf 11 4 10 44), .inl (zcallV 0 0 62 1 11 114), .inl (zald0 12), .inl (zgetf 11 2 13 30), .inl (zald0 14), .inl (zgetf 11 5 15 48), .inl (zcallV 1 1 107 1 16 118), .inl (zist1 17), .inl (zald0 18), .inl (zgetf 11 0 19 10), .inl (zic0 20), .inl (zcallV 1 8 153 1 21 111), .inl (zopop 22), .inl (zild1 23), .inl (ziflt 35 24), .inl (zald0 25), .inl (zgetf 11 4 26 44), .inl (zald0 27), .inl (zgetf 11 5 28 48), .inl (zcallV 0 0 62 1 29 114), .inl (zald0 30), .inl (zgetf 11 4 31 44), .inl (zcallV 0 0 98 0 32 122), .inl (zald0 33), .inl (zgetf 11 8 34 68), .inl (zcallV 0 5 129 0 35 125), .inl (zild1 36), .inl (ziret)]
set_option maxRecDepth 100000 in
set_option maxHeartbeats 4000000 in
theorem S_2 : pAll (pSk RX11 cX11_house 2 (some .int) PC_2) 0 C_2 := zall (D := ZD_2) zgetf_RX11_ok zputi_RX11_ok zcallV_RX11_ok (by decide +kernel)
  trivial
def ZD_3 : List zE := [.inl (zald0 1), .inl (zgetf 11 6 2 54), .inl (zald0 3), .inl (zgetf 11 1 4 21), .inl (zcallV 1 7 143 1 5 128), .inl (zist1 6), .inl (zild1 7), .inl (zicm1 8), .inl (zicne 15 9), .inl (zald0 10), .inl (zgetf 11 6 11 54), .inl (zgetf 7 0 12 132), .inl (zald0 13), .inl (zgetf 11 0 14 10), .inl (zcallV 0 8 155 1 15 135), .inl (zald0 16), .inl (zgetf 11 0 17 10), .inl (zic0 18), .inl (zcallV 1 8 153 1 19 111), .inl (zopop 20), .inl (zild1 21), .inl (zicm1 22), .inl (zicne 25 23), .inl (zic0 24), .inl (zgo 28), .inl (zicm1 26), .inl (zild1 27), .inl (zosub 28), .inl (ziret)]
set_option maxRecDepth 100000 in
set_option maxHeartbeats 4000000 in
theorem S_3 : pAll (pSk RX11 cX11_rule 2 (some .int) PC_3) 0 C_3 := zall (D := ZD_3) zgetf_RX11_ok zputi_RX11_ok zcallV_RX11_ok (by decide +kernel)
  trivial
def ZD_4 : List zE := [.inl (zald0 1), .inl (zgetf 11 4 2 44), .inl (zild1 3), .inl (zcallV 1 0 63 1 4 137), .inl (zifeq 10 5), .inl (zild2 6), .inl (ziflt 10 7), .inl (zild2 8), .inl (zic3 9), .inl (zicle 15 10), .inr (s_none), .inl (zodup 12), .inr (s_none), .inr (s_none), .inr (s_none), .inl (zild2 16), .inr (s_sw [(0, 17), (1, 23), (2, 31)] 45), .inl (zald0 18), .inl (zgetf 11 4 19 44), .inl (zgetf 0 0 20 147), .inl (zild1 21), .inl (zoiald 22), .inl (ziret), .inl (zald0 24), .inl (zgetf 11 4 25 44), .inl (zild1 26), .inl (zald0 27), .inl (zgetf 11 4 28 44), .inl (zgetf 0 5 29 150), .inl (zcallV 1 0 86 2 30 153), .inl (ziret), .inl (zald0 32), .inl (zgetf 11 4 33 44), .inl (zgetf 0 0 34 147), .inl (zild1 35), .inl (zoiald 36), .inl (zald0 37), .inl (zgetf 11 4 38 44), .inl (zild1 39), .inl (zald0 40), .inl (zgetf 11 4 41 44), .inl (zgetf 0 5 42 150), .inl (zcallV 1 0 87 2 43 157), .inl (zosub 44), .inl (ziret), .inl (zald0 46), .inl (zgetf 11 4 47 44), .inl (zild1 48), .inl (zic1 49), .inl (zcallV 1 0 77 2 50 160), .inl (ziret)]
set_option maxRecDepth 100000 in
set_option maxHeartbeats 4000000 in
theorem S_4 : pAll (pSk RX11 cX11_room 3 (some .int) PC_4) 0 C_4 := zall (D := ZD_4) zgetf_RX11_ok zputi_RX11_ok zcallV_RX11_ok (by decide +kernel)
  ⟨sn_none,
   sn_none,
   sn_none,
   sn_none,
   sn_sw (dflt := 77) (lo := 0) (hi := 2) (offs := #[25, 35, 51]) (len := 25) (by decide +kernel) (by decide) (by decide +kernel) (p_sw_all (by decide +kernel)) (by decide +kernel), trivial⟩
def ZD_5 : List zE := [.inl (zald0 1), .inl (zgetf 11 4 2 44), .inl (zild1 3), .inl (zcallV 1 0 64 1 4 164), .inl (zifeq 10 5), .inl (zild2 6), .inl (ziflt 10 7), .inl (zild2 8), .inl (zbi (6) 9), .inl (zicle 15 10), .inr (s_none), .inl (zodup 12), .inr (s_none), .inr (s_none), .inr (s_none), .inl (zild2 16), .inr (s_sw [(0, 17), (1, 23), (2, 29), (3, 35), (4, 41), (5, 46)] 52), .inl (zald0 18), .inl (zgetf 11 4 19 44), .inl (zgetf 0 2 20 169), .inl (zild1 21), .inl (zoiald 22), .inl (ziret), .inl (zald0 24), .inl (zgetf 11 4 25 44), .inl (zgetf 0 3 26 172), .inl (zild1 27), .inl (zoiald 28), .inl (ziret), .inl (zald0 30), .inl (zgetf 11 4 31 44), .inl (zgetf 0 4 32 175), .inl (zild1 33), .inl (zoiald 34), .inl (ziret), .inl (zald0 36), .inl (zgetf 11 4 37 44), .inl (zgetf 0 5 38 150), .inl (zild1 39), .inl (zoiald 40), .inl (ziret), .inl (zald0 42), .inl (zgetf 11 4 43 44), .inl (zild1 44), .inl (zcallV 1 0 93 1 45 178), .inl (ziret), .inl (zald0 47), .inl (zgetf 11 4 48 44), .inl (zgetf 0 8 49 182), .inl (zild1 50), .inl (zoiald 51), .inl (ziret), .inl (zald0 53), .inl (zgetf 11 6 54 54), .inl (zald0 55), .inl (zgetf 11 4 56 44), .inl (zild1 57), .inl (zald0 58), .inl (zgetf 11 4 59 44), .inl (zgetf 0 5 60 150), .inl (zild1 61), .inl (zoiald 62), .inl (zcallV 1 7 144 3 63 185), .inl (ziret)]
set_option maxRecDepth 100000 in
set_option maxHeartbeats 4000000 in
theorem S_5 : pAll (pSk RX11 cX11_thing 3 (some .int) PC_5) 0 C_5 := zall (D := ZD_5) zgetf_RX11_ok zputi_RX11_ok zcallV_RX11_ok (by decide +kernel)
  ⟨sn_none,
   sn_none,
   sn_none,
   sn_none,
   sn_sw (dflt := 99) (lo := 0) (hi := 5) (offs := #[40, 50, 60, 70, 80, 89]) (len := 40) (by decide +kernel) (by decide) (by decide +kernel) (p_sw_all (by decide +kernel)) (by decide +kernel), trivial⟩
def ZD_6 : List zE := [.inl (zild1 1), .inl (ziflt 13 2), .inl (zild1 3), .inl (zald0 4), .inl (zgetf 11 4 5 44), .inl (zgetf 0 11 6 189), .inl (zicge 13 7), .inl (zald0 8), .inl (zgetf 11 4 9 44), .inl (zgetf 0 6 10 192), .inl (zild1 11), .inl (zoiald 12), .inl (zgo 14), .inl (zicm1 14), .inl (ziret)]
set_option maxRecDepth 100000 in
set_option maxHeartbeats 4000000 in
theorem S_6 : pAll (pSk RX11 cX11_set 2 (some .int) PC_6) 0 C_6 := zall (D := ZD_6) zgetf_RX11_ok zputi_RX11_ok zcallV_RX11_ok (by decide +kernel)
  trivial
def ZD_7 : List zE := [.inl (zald0 1), .inl (zgetf 11 4 2 44), .inl (zild1 3), .inl (zild2 4), .inl (zcallV 1 0 65 2 5 195), .inl (zifne 8 6), .inl (zicm1 7), .inl (ziret), .inl (zald0 9), .inl (zgetf 11 4 10 44), .inl (zild1 11), .inl (zild2 12), .inl (zcallV 1 0 74 2 13 199), .inl (zist3 14), .inl (zild3 15), .inl (zifne 18 16), .inl (zbi (-2) 17), .inl (zgo 19), .inl (zild3 19), .inl (ziret)]
set_option maxRecDepth 100000 in
set_option maxHeartbeats 4000000 in
theorem S_7 : pAll (pSk RX11 cX11_door 4 (some .int) PC_7) 0 C_7 := zall (D := ZD_7) zgetf_RX11_ok zputi_RX11_ok zcallV_RX11_ok (by decide +kernel)
  trivial
def ZD_8 : List zE := [.inl (zald0 1), .inl (zgetf 11 4 2 44), .inl (zild1 3), .inl (zild2 4), .inl (zcallV 1 0 65 2 5 195), .inl (zifeq 11 6), .inl (zild3 7), .inl (ziflt 11 8), .inl (zild3 9), .inl (zbi (9) 10), .inl (zicle 13 11), .inl (zicm1 12), .inl (ziret), .inl (zald0 14), .inl (zgetf 11 4 15 44), .inl (zild1 16), .inl (zild2 17), .inl (zcallV 1 0 74 2 18 199), .inl (zist 4 19), .inl (zald0 20), .inl (zgetf 11 4 21 44), .inl (zild1 22), .inl (zild2 23), .inl (zild3 24), .inl (zcallV 0 0 73 3 25 202), .inl (zild 4 26), .inl (ziret)]
set_option maxRecDepth 100000 in
set_option maxHeartbeats 4000000 in
theorem S_8 : pAll (pSk RX11 cX11_widen 5 (some .int) PC_8) 0 C_8 := zall (D := ZD_8) zgetf_RX11_ok zputi_RX11_ok zcallV_RX11_ok (by decide +kernel)
  trivial
def ZD_9 : List zE := [.inl (zild1 1), .inl (zic1 2), .inl (ziclt 6 3), .inl (zild1 4), .inl (zsi (999) 5), .inl (zicle 8 6), .inl (zicm1 7), .inl (ziret), .inl (zald0 9), .inl (zgetf 11 17 10 100), .inl (zist2 11), .inl (zald0 12), .inl (zild1 13), .inl (zputi 11 17 14 100), .inl (zild2 15), .inl (ziret)]
set_option maxRecDepth 100000 in
set_option maxHeartbeats 4000000 in
theorem S_9 : pAll (pSk RX11 cX11_strength 3 (some .int) PC_9) 0 C_9 := zall (D := ZD_9) zgetf_RX11_ok zputi_RX11_ok zcallV_RX11_ok (by decide +kernel)
  trivial
def ZD_10 : List zE := [.inl (zild1 1), .inl (ziflt 8 2), .inl (zild1 3), .inl (zic3 4), .inl (zicgt 8 5), .inl (zild2 6), .inl (zbi (10) 7), .inl (zicle 10 8), .inl (zicm1 9), .inl (ziret), .inl (zild1 11), .inl (zic3 12), .inl (zicne 23 13), .inl (zald0 14), .inl (zgetf 11 4 15 44), .inl (zic2 16), .inl (zic0 17), .inl (zic0 18), .inl (zic0 19), .inl (zcallV 1 0 76 4 20 206), .inl (zopop 21), .inl (zbi (-3) 22), .inl (ziret), .inl (zild2 24), .inl (zifge 27 25), .inl (zbi (-2) 26), .inl (zgo 34), .inl (zald0 28), .inl (zgetf 11 4 29 44), .inl (zild1 30), .inl (zild2 31), .inl (zild3 32), .inl (zild 4 33), .inl (zcallV 1 0 76 4 34 206), .inl (ziret)]
set_option maxRecDepth 100000 in
set_option maxHeartbeats 4000000 in
theorem S_10 : pAll (pSk RX11 cX11_sheet 5 (some .int) PC_10) 0 C_10 := zall (D := ZD_10) zgetf_RX11_ok zputi_RX11_ok zcallV_RX11_ok (by decide +kernel)
  trivial
def ZD_11 : List zE := [.inl (zald0 1), .inl (zild1 2), .inl (zild2 3), .inl (zald0 4), .inl (zgetf 11 4 5 44), .inl (zgetf 0 5 6 150), .inl (zald0 7), .inl (zgetf 11 16 8 210), .inl (zcallV 1 11 51 4 9 213), .inl (zist3 10), .inl (zild3 11), .inl (ziflt 17 12), .inl (zald0 13), .inl (zild1 14), .inl (zild2 15), .inl (zild3 16), .inl (zcallV 0 11 52 3 17 217), .inl (zild3 18), .inl (ziret)]
set_option maxRecDepth 100000 in
set_option maxHeartbeats 4000000 in
theorem S_11 : pAll (pSk RX11 cX11_carry 4 (some .int) PC_11) 0 C_11 := zall (D := ZD_11) zgetf_RX11_ok zputi_RX11_ok zcallV_RX11_ok (by decide +kernel)
  trivial
def ZD_12 : List zE := [.inl (zald0 1), .inl (zgetf 11 4 2 44), .inl (zald0 3), .inl (zgetf 11 4 4 44), .inl (zgetf 0 5 5 150), .inl (zcallV 1 0 89 1 6 220), .inl (zist1 7), .inl (zald0 8), .inl (zgetf 11 4 9 44), .inl (zald0 10), .inl (zgetf 11 4 11 44), .inl (zgetf 0 5 12 150), .inl (zcallV 1 0 88 1 13 224), .inl (zist2 14), .inl (zald0 15), .inl (zgetf 11 3 16 37), .inl (zcallV 0 4 127 0 17 227), .inl (zald0 18), .inl (zgetf 11 3 19 37), .inl (zild1 20), .inl (zcallV 0 4 128 1 21 230), .inl (zald0 22), .inl (zgetf 11 3 23 37), .inl (zild2 24), .inl (zcallV 0 4 128 1 25 230), .inl (zild1 26), .inl (zild2 27), .inl (zoor 28), .inl (zifne 32 29), .inl (zald0 30), .inl (zcallV 1 11 53 0 31 234), .inl (zgo 33), .inl (zic0 33), .inl (ziret)]
set_option maxRecDepth 100000 in
set_option maxHeartbeats 4000000 in
theorem S_12 : pAll (pSk RX11 cX11_evening 3 (some .int) PC_12) 0 C_12 := zall (D := ZD_12) zgetf_RX11_ok zputi_RX11_ok zcallV_RX11_ok (by decide +kernel)
  trivial
def ZD_13 : List zE := [.inl (zald0 1), .inl (zcallV 1 11 54 0 2 238), .inl (zist1 3), .inl (zild1 4), .inl (zicm1 5), .inl (ziceq 15 6), .inl (zald0 7), .inl (zgetf 11 0 8 10), .inl (zic0 9), .inl (zcallV 1 8 153 1 10 111), .inl (zopop 11), .inl (zicm1 12), .inl (zild1 13), .inl (zosub 14), .inl (ziret), .inl (zald0 16), .inl (zgetf 11 0 17 10), .inl (zgetf 8 1 18 108), .inl (zic1 19), .inl (zoadd 20), .inl (zic4 21), .inr (s_div jdiv 22), .inl (zist2 23), .inl (zic0 24), .inl (zist3 25), .inl (zic0 26), .inl (zist 4 27), .inl (zic0 28), .inl (zist 5 29), .inl (zild 5 30), .inl (zild2 31), .inl (zicge 63 32), .inl (zald0 33), .inl (zald0 34), .inl (zgetf 11 0 35 10), .inl (zild 5 36), .inl (zic4 37), .inl (zomul 38), .inl (zcallV 1 8 154 1 39 241), .inl (zbi (97) 40), .inl (zosub 41), .inl (zald0 42), .inl (zgetf 11 0 43 10), .inl (zild 5 44), .inl (zic4 45), .inl (zomul 46), .inl (zic2 47), .inl (zoadd 48), .inl (zcallV 1 8 154 1 49 241), .inl (zbi (48) 50), .inl (zosub 51), .inl (zcallV 1 11 11 2 52 244), .inl (zist 6 53), .inl (zild 6 54), .inl (zifge 56 55), .inl (zgo 63), .inl (zild3 57), .inl (zild 6 58), .inl (zoadd 59), .inl (zist3 60), .inl (zinc 4 (1) 61), .inl (zinc 5 (1) 62), .inl (zgo 29), .inl (zald0 64), .inl (zgetf 11 0 65 10), .inl (zic0 66), .inl (zcallV 1 8 153 1 67 111), .inl (zopop 68), .inl (zild 4 69), .inl (zild2 70), .inl (zicge 73 71), .inl (zicm1 72), .inl (zgo 84), .inl (zald0 74), .inl (zgetf 11 4 75 44), .inl (zald0 76), .inl (zgetf 11 4 77 44), .inl (zgetf 0 5 78 150), .inl (zcallV 1 0 91 1 79 247), .inl (zifeq 83 80), .inl (zald0 81), .inl (zcallV 1 11 53 0 82 234), .inl (zgo 84), .inl (zic0 84), .inl (zist 5 85), .inl (zald0 86), .inl (zgetf 11 3 87 37), .inl (zcallV 0 4 127 0 88 227), .inl (zald0 89), .inl (zgetf 11 3 90 37), .inl (zild 5 91), .inl (zcallV 0 4 128 1 92 230), .inl (zald0 93), .inl (zgetf 11 3 94 37), .inl (zild3 95), .inl (zcallV 0 4 128 1 96 230), .inl (zild 4 97), .inl (ziret)]
set_option maxRecDepth 100000 in
set_option maxHeartbeats 4000000 in
theorem S_13 : pAll (pSk RX11 cX11_day 7 (some .int) PC_13) 0 C_13 := zall (D := ZD_13) zgetf_RX11_ok zputi_RX11_ok zcallV_RX11_ok (by decide +kernel)
  ⟨sn_idiv (dX_idiv (by decide +kernel)) (by decide +kernel), trivial⟩
def ZD_14 : List zE := [.inl (zald0 1), .inl (zgetf 11 8 2 68), .inl (zgetf 5 3 3 251), .inl (zifne 6 4), .inl (zicm1 5), .inl (ziret), .inl (zald0 7), .inl (zgetf 11 8 8 68), .inl (zodup 9), .inl (zgetf 5 3 10 251), .inl (zic1 11), .inl (zosub 12), .inl (zputi 5 3 13 251), .inl (zald0 14), .inl (zgetf 11 8 15 68), .inl (zgetf 5 0 16 254), .inl (zald0 17), .inl (zgetf 11 8 18 68), .inl (zgetf 5 3 19 251), .inr (s_callS 1 47 2 20), .inl (zist1 21), .inl (zald0 22), .inl (zgetf 11 4 23 44), .inl (zild1 24), .inl (zcallV 1 0 64 1 25 164), .inl (zifeq 38 26), .inl (zald0 27), .inl (zgetf 11 4 28 44), .inl (zgetf 0 5 29 150), .inl (zild1 30), .inl (zald0 31), .inl (zgetf 11 8 32 68), .inl (zgetf 5 1 33 261), .inl (zald0 34), .inl (zgetf 11 8 35 68), .inl (zgetf 5 3 36 251), .inr (s_callS 1 47 2 37), .inl (zoiast 38), .inl (zald0 39), .inl (zald0 40), .inl (zgetf 11 8 41 68), .inl (zgetf 5 2 42 264), .inl (zald0 43), .inl (zgetf 11 8 44 68), .inl (zgetf 5 3 45 251), .inr (s_callS 1 47 2 46), .inl (zputi 11 16 47 210), .inl (zald0 48), .inl (zgetf 11 8 49 68), .inl (zgetf 5 3 50 251), .inl (ziret)]
set_option maxRecDepth 100000 in
set_option maxHeartbeats 4000000 in
theorem S_14 : pAll (pSk RX11 cX11_undo 2 (some .int) PC_14) 0 C_14 := zall (D := ZD_14) zgetf_RX11_ok zputi_RX11_ok zcallV_RX11_ok (by decide +kernel)
  ⟨sn_callS (idx := 257) cal_47 (pmt4 24 rfl (by decide +kernel)) (pmt4 25 rfl (by decide +kernel)) (dX_invokestatic (by decide +kernel)) (by decide +kernel),
   sn_callS (idx := 257) cal_47 (pmt4 24 rfl (by decide +kernel)) (pmt4 25 rfl (by decide +kernel)) (dX_invokestatic (by decide +kernel)) (by decide +kernel),
   sn_callS (idx := 257) cal_47 (pmt4 24 rfl (by decide +kernel)) (pmt4 25 rfl (by decide +kernel)) (dX_invokestatic (by decide +kernel)) (by decide +kernel), trivial⟩
def ZD_15 : List zE := [.inl (zild1 1), .inl (ziflt 5 2), .inl (zild1 3), .inl (zic4 4), .inl (zicle 7 5), .inl (zicm1 6), .inl (ziret), .inl (zald0 8), .inl (zgetf 11 4 9 44), .inl (zgetf 0 5 10 150), .inl (zald0 11), .inl (zgetf 11 13 12 97), .inr (s_callS 0 48 2 13), .inl (zic0 14), .inl (zist3 15), .inl (zbi (-2) 16), .inl (zist 4 17), .inl (zic0 18), .inl (zist 5 19), .inl (zild 5 20), .inl (zild1 21), .inl (zicge 68 22), .inl (zild 4 23), .inl (zbi (-2) 24), .inl (zicne 68 25), .inl (zild2 26), .inl (zbi (7) 27), .inl (zild 5 28), .inl (zomul 29), .inl (zoshr 30), .inl (zbi (127) 31), .inl (zoand 32), .inl (zist 6 33), .inl (zald0 34), .inl (zild 6 35), .inl (zbi (10) 36), .inr (s_div jdiv 37), .inl (zild 6 38), .inl (zbi (10) 39), .inr (s_div jrem 40), .inl (zald0 41), .inl (zgetf 11 13 42 97), .inl (zald0 43), .inl (zgetf 11 16 44 210), .inl (zild3 45), .inl (zoadd 46), .inl (zcallV 1 11 51 4 47 213), .inl (zist 7 48), .inl (zild 7 49), .inl (zifge 53 50), .inl (zild 5 51), .inl (zist 4 52), .inl (zgo 66), .inl (zald0 54), .inl (zgetf 11 13 55 97), .inl (zild 6 56), .inl (zbi (10) 57), .inr (s_div jdiv 58), .inl (zild 6 59), .inl (zbi (10) 60), .inr (s_div jrem 61), .inl (zoiast 62), .inl (zild3 63), .inl (zild 7 64), .inl (zoadd 65), .inl (zist3 66), .inl (zinc 5 (1) 67), .inl (zgo 19), .inl (zald0 69), .inl (zgetf 11 3 70 37), .inl (zcallV 0 4 127 0 71 227), .inl (zald0 72), .inl (zgetf 11 3 73 37), .inl (zild3 74), .inl (zcallV 0 4 128 1 75 230), .inl (zald0 76), .inl (zgetf 11 3 77 37), .inl (zald0 78), .inl (zgetf 11 4 79 44), .inl (zald0 80), .inl (zgetf 11 13 81 97), .inl (zcallV 1 0 91 1 82 247), .inl (zifeq 85 83), .inl (zic1 84), .inl (zgo 86), .inl (zic0 86), .inl (zcallV 0 4 128 1 87 230), .inl (zild 4 88), .inl (ziret)]
set_option maxRecDepth 100000 in
set_option maxHeartbeats 4000000 in
theorem S_15 : pAll (pSk RX11 cX11_judge 8 (some .int) PC_15) 0 C_15 := zall (D := ZD_15) zgetf_RX11_ok zputi_RX11_ok zcallV_RX11_ok (by decide +kernel)
  ⟨sn_callS (idx := 266) cal_48 (pmt4 131 rfl (by decide +kernel)) (pmt2 200 rfl (by decide +kernel)) (dX_invokestatic (by decide +kernel)) (by decide +kernel),
   sn_idiv (dX_idiv (by decide +kernel)) (by decide +kernel),
   sn_irem (dX_irem (by decide +kernel)) (by decide +kernel),
   sn_idiv (dX_idiv (by decide +kernel)) (by decide +kernel),
   sn_irem (dX_irem (by decide +kernel)) (by decide +kernel), trivial⟩
def ZD_16 : List zE := [.inl (zald0 1), .inl (zgetf 11 3 2 37), .inl (zcallV 0 4 127 0 3 227), .inl (zic0 4), .inl (zist1 5), .inl (zild1 6), .inl (zald0 7), .inl (zgetf 11 4 8 44), .inl (zgetf 0 12 9 270), .inl (zicge 20 10), .inl (zald0 11), .inl (zgetf 11 3 12 37), .inl (zald0 13), .inl (zgetf 11 4 14 44), .inl (zgetf 0 7 15 273), .inl (zild1 16), .inl (zoiald 17), .inl (zcallV 0 4 128 1 18 230), .inl (zinc 1 (1) 19), .inl (zgo 5), .inl (zald0 21), .inl (zgetf 11 4 22 44), .inl (zgetf 0 12 23 270), .inl (ziret)]
set_option maxRecDepth 100000 in
set_option maxHeartbeats 4000000 in
theorem S_16 : pAll (pSk RX11 cX11_clumps 2 (some .int) PC_16) 0 C_16 := zall (D := ZD_16) zgetf_RX11_ok zputi_RX11_ok zcallV_RX11_ok (by decide +kernel)
  trivial
def ZD_17 : List zE := [.inl (zald0 1), .inl (zgetf 11 4 2 44), .inl (zgetf 0 10 3 276), .inl (zifne 6 4), .inl (zbi (-2) 5), .inl (ziret), .inl (zic0 7), .inl (zist1 8), .inl (zic1 9), .inl (zist2 10), .inl (zild2 11), .inl (zald0 12), .inl (zgetf 11 4 13 44), .inl (zgetf 0 12 14 270), .inl (zicge 28 15), .inl (zald0 16), .inl (zgetf 11 4 17 44), .inl (zild2 18), .inl (zcallV 1 0 101 1 19 279), .inl (zald0 20), .inl (zgetf 11 4 21 44), .inl (zild1 22), .inl (zcallV 1 0 101 1 23 279), .inl (zicle 26 24), .inl (zild2 25), .inl (zist1 26), .inl (zinc 2 (1) 27), .inl (zgo 10), .inl (zald0 29), .inl (zgetf 11 4 30 44), .inl (zild1 31), .inl (zcallV 1 0 101 1 32 279), .inl (zist2 33), .inl (zald0 34), .inl (zgetf 11 3 35 37), .inl (zcallV 0 4 127 0 36 227), .inl (zald0 37), .inl (zgetf 11 3 38 37), .inl (zild2 39), .inl (zcallV 0 4 128 1 40 230), .inl (zald0 41), .inl (zgetf 11 3 42 37), .inl (zald0 43), .inl (zgetf 11 4 44 44), .inl (zild2 45), .inl (zcallV 1 0 103 1 46 282), .inl (zcallV 0 4 128 1 47 230), .inl (zild1 48), .inl (ziret)]
set_option maxRecDepth 100000 in
set_option maxHeartbeats 4000000 in
theorem S_17 : pAll (pSk RX11 cX11_heaviest 3 (some .int) PC_17) 0 C_17 := zall (D := ZD_17) zgetf_RX11_ok zputi_RX11_ok zcallV_RX11_ok (by decide +kernel)
  trivial
def ZD_18 : List zE := [.inl (zald0 1), .inl (zgetf 11 4 2 44), .inl (zild1 3), .inl (zcallV 1 0 64 1 4 164), .inl (zifne 7 5), .inl (zicm1 6), .inl (ziret), .inl (zald0 8), .inl (zgetf 11 4 9 44), .inl (zcallV 1 0 67 0 10 285), .inl (zic1 11), .inl (zild1 12), .inl (zoshl 13), .inl (zicm1 14), .inl (zoxor 15), .inl (zoand 16), .inl (zist2 17), .inl (zald0 18), .inl (zgetf 11 3 19 37), .inl (zcallV 0 4 127 0 20 227), .inl (zald0 21), .inl (zgetf 11 3 22 37), .inl (zald0 23), .inl (zgetf 11 4 24 44), .inl (zild2 25), .inl (zcallV 1 0 94 1 26 288), .inl (zcallV 0 4 128 1 27 230), .inl (zald0 28), .inl (zgetf 11 4 29 44), .inl (zild2 30), .inl (zald0 31), .inl (zgetf 11 4 32 44), .inl (zcallV 1 0 68 0 33 291), .inl (zcallV 1 0 97 2 34 294), .inl (ziret)]
set_option maxRecDepth 100000 in
set_option maxHeartbeats 4000000 in
theorem S_18 : pAll (pSk RX11 cX11_without 3 (some .int) PC_18) 0 C_18 := zall (D := ZD_18) zgetf_RX11_ok zputi_RX11_ok zcallV_RX11_ok (by decide +kernel)
  trivial
def ZD_19 : List zE := [.inl (zald0 1), .inl (zgetf 11 4 2 44), .inl (zild1 3), .inl (zcallV 1 0 64 1 4 164), .inl (zifne 7 5), .inl (zicm1 6), .inl (ziret), .inl (zald0 8), .inl (zgetf 11 4 9 44), .inl (zild1 10), .inl (zcallV 0 0 95 1 11 297), .inl (zald0 12), .inl (zgetf 11 4 13 44), .inl (zcallV 0 0 98 0 14 122), .inl (zald0 15), .inl (zgetf 11 4 16 44), .inl (zgetf 0 12 17 270), .inl (ziret)]
set_option maxRecDepth 100000 in
set_option maxHeartbeats 4000000 in
theorem S_19 : pAll (pSk RX11 cX11_breaks 2 (some .int) PC_19) 0 C_19 := zall (D := ZD_19) zgetf_RX11_ok zputi_RX11_ok zcallV_RX11_ok (by decide +kernel)
  trivial
def ZD_20 : List zE := [.inl (zic0 1), .inl (zist1 2), .inl (zic0 3), .inl (zist2 4), .inl (zild2 5), .inl (zald0 6), .inl (zgetf 11 4 7 44), .inl (zgetf 0 11 8 189), .inl (zicge 36 9), .inl (zald0 10), .inl (zgetf 11 4 11 44), .inl (zald0 12), .inl (zgetf 11 4 13 44), .inl (zcallV 1 0 67 0 14 285), .inl (zald0 15), .inl (zgetf 11 4 16 44), .inl (zcallV 1 0 68 0 17 291), .inl (zic1 18), .inl (zild2 19), .inl (zoshl 20), .inl (zicm1 21), .inl (zoxor 22), .inl (zoand 23), .inl (zcallV 1 0 97 2 24 294), .inl (zald0 25), .inl (zgetf 11 4 26 44), .inl (zgetf 0 12 27 270), .inl (zicle 34 28), .inl (zild1 29), .inl (zic1 30), .inl (zild2 31), .inl (zoshl 32), .inl (zoor 33), .inl (zist1 34), .inl (zinc 2 (1) 35), .inl (zgo 4), .inl (zild1 37), .inl (ziret)]
set_option maxRecDepth 100000 in
set_option maxHeartbeats 4000000 in
theorem S_20 : pAll (pSk RX11 cX11_ties 3 (some .int) PC_20) 0 C_20 := zall (D := ZD_20) zgetf_RX11_ok zputi_RX11_ok zcallV_RX11_ok (by decide +kernel)
  trivial
def ZD_21 : List zE := [.inl (zald0 1), .inl (zgetf 11 4 2 44), .inl (zcallV 1 0 92 0 3 300), .inl (zifeq 6 4), .inl (zbi (-3) 5), .inl (ziret), .inl (zald0 7), .inl (zgetf 11 7 8 61), .inl (zald0 9), .inl (zgetf 11 4 10 44), .inl (zald0 11), .inl (zgetf 11 4 12 44), .inl (zcallV 1 0 69 0 13 304), .inl (zcallV 0 10 160 2 14 307), .inl (zald0 15), .inl (zgetf 11 7 16 61), .inl (zcallV 1 10 167 0 17 310), .inl (zopop 18), .inl (zald0 19), .inl (zgetf 11 3 20 37), .inl (zcallV 0 4 127 0 21 227), .inl (zald0 22), .inl (zgetf 11 7 23 61), .inl (zgetf 10 11 24 313), .inl (zifle 27 25), .inl (zald0 26), .inl (zcallV 0 11 58 0 27 316), .inl (zald0 28), .inl (zgetf 11 7 29 61), .inl (zgetf 10 11 30 313), .inl (ziret)]
set_option maxRecDepth 100000 in
set_option maxHeartbeats 4000000 in
theorem S_21 : pAll (pSk RX11 cX11_fits 1 (some .int) PC_21) 0 C_21 := zall (D := ZD_21) zgetf_RX11_ok zputi_RX11_ok zcallV_RX11_ok (by decide +kernel)
  trivial
def ZD_22 : List zE := [.inl (zic0 1), .inl (zist1 2), .inl (zic0 3), .inl (zist2 4), .inl (zild2 5), .inl (zald0 6), .inl (zgetf 11 4 7 44), .inl (zgetf 0 10 8 276), .inl (zicge 25 9), .inl (zild1 10), .inl (zald0 11), .inl (zgetf 11 6 12 54), .inl (zald0 13), .inl (zgetf 11 4 14 44), .inl (zild2 15), .inl (zald0 16), .inl (zgetf 11 4 17 44), .inl (zgetf 0 5 18 150), .inl (zild2 19), .inl (zoiald 20), .inl (zcallV 1 7 144 3 21 185), .inl (zoadd 22), .inl (zist1 23), .inl (zinc 2 (1) 24), .inl (zgo 4), .inl (zild1 26), .inl (ziret)]
set_option maxRecDepth 100000 in
set_option maxHeartbeats 4000000 in
theorem S_22 : pAll (pSk RX11 cX11_worth 3 (some .int) PC_22) 0 C_22 := zall (D := ZD_22) zgetf_RX11_ok zputi_RX11_ok zcallV_RX11_ok (by decide +kernel)
  trivial
def ZD_23 : List zE := [.inl (zald0 1), .inl (zgetf 11 4 2 44), .inl (zcallV 1 0 92 0 3 300), .inl (zifeq 6 4), .inl (zbi (-3) 5), .inl (ziret), .inl (zald0 7), .inl (zgetf 11 7 8 61), .inl (zald0 9), .inl (zgetf 11 4 10 44), .inl (zald0 11), .inl (zgetf 11 4 12 44), .inl (zcallV 1 0 69 0 13 304), .inl (zcallV 0 10 160 2 14 307), .inl (zic0 15), .inl (zist1 16), .inl (zild1 17), .inl (zald0 18), .inl (zgetf 11 4 19 44), .inl (zgetf 0 10 20 276), .inl (zicge 48 21), .inl (zic0 22), .inl (zist2 23), .inl (zild2 24), .inl (zald0 25), .inl (zgetf 11 4 26 44), .inl (zgetf 0 9 27 319), .inl (zicge 46 28), .inl (zald0 29), .inl (zgetf 11 7 30 61), .inl (zald0 31), .inl (zgetf 11 4 32 44), .inl (zgetf 0 8 33 182), .inl (zild1 34), .inl (zoiald 35), .inl (zild2 36), .inl (zald0 37), .inl (zgetf 11 6 38 54), .inl (zald0 39), .inl (zgetf 11 4 40 44), .inl (zild1 41), .inl (zild2 42), .inl (zcallV 1 7 144 3 43 185), .inl (zcallV 0 10 162 3 44 322), .inl (zinc 2 (1) 45), .inl (zgo 23), .inl (zinc 1 (1) 47), .inl (zgo 16), .inl (zald0 49), .inl (zgetf 11 7 50 61), .inl (zcallV 1 10 167 0 51 310), .inl (zifne 54 52), .inl (zbi (-2) 53), .inl (ziret), .inl (zald0 55), .inl (zgetf 11 3 56 37), .inl (zcallV 0 4 127 0 57 227), .inl (zald0 58), .inl (zgetf 11 3 59 37), .inl (zald0 60), .inl (zgetf 11 7 61 61), .inl (zgetf 10 10 62 325), .inl (zcallV 0 4 128 1 63 230), .inl (zald0 64), .inl (zcallV 0 11 58 0 65 316), .inl (zic1 66), .inl (ziret)]
set_option maxRecDepth 100000 in
set_option maxHeartbeats 4000000 in
theorem S_23 : pAll (pSk RX11 cX11_best 3 (some .int) PC_23) 0 C_23 := zall (D := ZD_23) zgetf_RX11_ok zputi_RX11_ok zcallV_RX11_ok (by decide +kernel)
  trivial
def ZD_24 : List zE := [.inl (zald0 1), .inl (zgetf 11 4 2 44), .inl (zcallV 1 0 92 0 3 300), .inl (zifeq 6 4), .inl (zbi (-3) 5), .inl (zgo 10), .inl (zald0 7), .inl (zicm1 8), .inl (zic0 9), .inl (zcallV 1 11 59 2 10 327), .inl (ziret)]
set_option maxRecDepth 100000 in
set_option maxHeartbeats 4000000 in
theorem S_24 : pAll (pSk RX11 cX11_near 1 (some .int) PC_24) 0 C_24 := zall (D := ZD_24) zgetf_RX11_ok zputi_RX11_ok zcallV_RX11_ok (by decide +kernel)
  trivial
def ZD_25 : List zE := [.inl (zald0 1), .inl (zgetf 11 4 2 44), .inl (zild1 3), .inl (zcallV 1 0 63 1 4 137), .inl (zifeq 10 5), .inl (zild2 6), .inl (ziflt 10 7), .inl (zild2 8), .inl (zbi (99) 9), .inl (zicle 12 10), .inl (zicm1 11), .inl (ziret), .inl (zald0 13), .inl (zgetf 11 4 14 44), .inl (zcallV 1 0 92 0 15 300), .inl (zifeq 18 16), .inl (zbi (-3) 17), .inl (zgo 22), .inl (zald0 19), .inl (zild1 20), .inl (zild2 21), .inl (zcallV 1 11 59 2 22 327), .inl (ziret)]
set_option maxRecDepth 100000 in
set_option maxHeartbeats 4000000 in
theorem S_25 : pAll (pSk RX11 cX11_guest 3 (some .int) PC_25) 0 C_25 := zall (D := ZD_25) zgetf_RX11_ok zputi_RX11_ok zcallV_RX11_ok (by decide +kernel)
  trivial
def ZD_26 : List zE := [.inl (zald0 1), .inl (zgetf 11 4 2 44), .inl (zcallV 1 0 92 0 3 300), .inl (zifeq 6 4), .inl (zbi (-3) 5), .inl (ziret), .inl (zicm1 7), .inl (zist1 8), .inl (zic0 9), .inl (zist2 10), .inl (zild2 11), .inl (zald0 12), .inl (zgetf 11 4 13 44), .inl (zgetf 0 9 14 319), .inl (zicge 53 15), .inl (zald0 16), .inl (zild2 17), .inl (zic0 18), .inl (zicm1 19), .inl (zcallV 1 11 60 3 20 330), .inl (zifeq 51 21), .inl (zald0 22), .inl (zgetf 11 4 23 44), .inl (zgetf 0 0 24 147), .inl (zild2 25), .inl (zoiald 26), .inl (zald0 27), .inl (zgetf 11 7 28 61), .inl (zgetf 10 10 29 325), .inl (zoadd 30), .inl (zild1 31), .inl (zicle 51 32), .inl (zald0 33), .inl (zgetf 11 4 34 44), .inl (zgetf 0 0 35 147), .inl (zild2 36), .inl (zoiald 37), .inl (zald0 38), .inl (zgetf 11 7 39 61), .inl (zgetf 10 10 40 325), .inl (zoadd 41), .inl (zist1 42), .inl (zald0 43), .inl (zgetf 11 3 44 37), .inl (zcallV 0 4 127 0 45 227), .inl (zald0 46), .inl (zgetf 11 3 47 37), .inl (zild2 48), .inl (zcallV 0 4 128 1 49 230), .inl (zald0 50), .inl (zcallV 0 11 58 0 51 316), .inl (zinc 2 (1) 52), .inl (zgo 10), .inl (zild1 54), .inl (zicm1 55), .inl (zicne 58 56), .inl (zbi (-2) 57), .inl (zgo 59), .inl (zild1 59), .inl (ziret)]
set_option maxRecDepth 100000 in
set_option maxHeartbeats 4000000 in
theorem S_26 : pAll (pSk RX11 cX11_space 3 (some .int) PC_26) 0 C_26 := zall (D := ZD_26) zgetf_RX11_ok zputi_RX11_ok zcallV_RX11_ok (by decide +kernel)
  trivial
def ZD_27 : List zE := [.inl (zild1 1), .inl (zic1 2), .inl (ziclt 13 3), .inl (zild1 4), .inl (zbi (99) 5), .inl (zicgt 13 6), .inl (zild2 7), .inl (ziflt 13 8), .inl (zild2 9), .inl (zald0 10), .inl (zgetf 11 4 11 44), .inl (zcallV 1 0 68 0 12 291), .inl (zicle 15 13), .inl (zicm1 14), .inl (ziret), .inl (zald0 16), .inl (zgetf 11 4 17 44), .inl (zcallV 1 0 92 0 18 300), .inl (zifeq 21 19), .inl (zbi (-3) 20), .inl (ziret), .inl (zald0 22), .inl (zgetf 11 4 23 44), .inl (zild2 24), .inl (zcallV 1 0 105 1 25 334), .inl (zist3 26), .inl (zild1 27), .inl (zald0 28), .inl (zgetf 11 4 29 44), .inl (zald0 30), .inl (zgetf 11 4 31 44), .inl (zild3 32), .inl (zcallV 1 0 104 1 33 337), .inl (zcallV 1 0 102 1 34 340), .inl (zoadd 35), .inl (zist 4 36), .inl (zic0 37), .inl (zist 5 38), .inl (zic0 39), .inl (zist 6 40), .inl (zild 6 41), .inl (zald0 42), .inl (zgetf 11 4 43 44), .inl (zgetf 0 9 44 319), .inl (zicge 74 45), .inl (zald0 46), .inl (zgetf 11 7 47 61), .inl (zald0 48), .inl (zgetf 11 4 49 44), .inl (zald0 50), .inl (zgetf 11 4 51 44), .inl (zcallV 1 0 69 0 52 304), .inl (zild3 53), .inl (zicm1 54), .inl (zoxor 55), .inl (zoand 56), .inl (zcallV 0 10 160 2 57 307), .inl (zald0 58), .inl (zgetf 11 7 59 61), .inl (zild 6 60), .inl (zild 4 61), .inl (zcallV 0 10 161 2 62 343), .inl (zald0 63), .inl (zgetf 11 7 64 61), .inl (zcallV 1 10 163 0 65 347), .inl (zifeq 72 66), .inl (zild 5 67), .inl (zic1 68), .inl (zild 6 69), .inl (zoshl 70), .inl (zoor 71), .inl (zist 5 72), .inl (zinc 6 (1) 73), .inl (zgo 40), .inl (zild 5 75), .inl (ziret)]
set_option maxRecDepth 100000 in
set_option maxHeartbeats 4000000 in
theorem S_27 : pAll (pSk RX11 cX11_could 7 (some .int) PC_27) 0 C_27 := zall (D := ZD_27) zgetf_RX11_ok zputi_RX11_ok zcallV_RX11_ok (by decide +kernel)
  trivial
def ZD_28 : List zE := [.inl (zild1 1), .inl (ziflt 7 2), .inl (zild1 3), .inl (zald0 4), .inl (zgetf 11 4 5 44), .inl (zgetf 0 12 6 270), .inl (ziclt 9 7), .inl (zicm1 8), .inl (ziret), .inl (zald0 10), .inl (zgetf 11 4 11 44), .inl (zcallV 1 0 92 0 12 300), .inl (zifeq 15 13), .inl (zbi (-3) 14), .inl (ziret), .inl (zald0 16), .inl (zgetf 11 4 17 44), .inl (zgetf 0 5 18 150), .inl (zald0 19), .inl (zgetf 11 4 20 44), .inl (zild1 21), .inl (zcallV 1 0 100 1 22 350), .inr (s_callS 1 47 2 23), .inl (zist2 24), .inl (zic0 25), .inl (zist3 26), .inl (zic0 27), .inl (zist 4 28), .inl (zald0 29), .inl (zgetf 11 7 30 61), .inl (zald0 31), .inl (zgetf 11 4 32 44), .inl (zald0 33), .inl (zgetf 11 4 34 44), .inl (zcallV 1 0 69 0 35 304), .inl (zcallV 0 10 160 2 36 307), .inl (zic0 37), .inl (zist 5 38), .inl (zild 5 39), .inr (s_push (.inl (1000000)) 40), .inl (zicge 68 41), .inl (zald0 42), .inl (zgetf 11 7 43 61), .inl (zcallV 1 10 163 0 44 347), .inl (zifeq 68 45), .inl (zald0 46), .inl (zgetf 11 7 47 61), .inl (zgetf 10 3 48 354), .inl (zild1 49), .inl (zoiald 50), .inl (zist 6 51), .inl (zild3 52), .inl (zic1 53), .inl (zild 6 54), .inl (zoshl 55), .inl (zoor 56), .inl (zist3 57), .inl (zild 4 58), .inl (zild 6 59), .inl (zild2 60), .inl (zicne 63 61), .inl (zic1 62), .inl (zgo 64), .inl (zic0 64), .inl (zoadd 65), .inl (zist 4 66), .inl (zinc 5 (1) 67), .inl (zgo 38), .inl (zald0 69), .inl (zgetf 11 3 70 37), .inl (zcallV 0 4 127 0 71 227), .inl (zald0 72), .inl (zgetf 11 3 73 37), .inl (zild 4 74), .inl (zcallV 0 4 128 1 75 230), .inl (zild3 76), .inl (ziret)]
set_option maxRecDepth 100000 in
set_option maxHeartbeats 4000000 in
theorem S_28 : pAll (pSk RX11 cX11_may 7 (some .int) PC_28) 0 C_28 := zall (D := ZD_28) zgetf_RX11_ok zputi_RX11_ok zcallV_RX11_ok (by decide +kernel)
  ⟨sn_callS (idx := 257) cal_47 (pmt4 24 rfl (by decide +kernel)) (pmt4 25 rfl (by decide +kernel)) (dX_invokestatic (by decide +kernel)) (by decide +kernel),
   sn_ldcw (idx := 353) (dX_ldc_w (by decide +kernel)) (pmt5 68 rfl (by decide +kernel)) (by decide +kernel), trivial⟩
def ZD_29 : List zE := [.inl (zald0 1), .inl (zgetf 11 4 2 44), .inl (zild1 3), .inl (zcallV 1 0 64 1 4 164), .inl (zifeq 13 5), .inl (zald0 6), .inl (zgetf 11 4 7 44), .inl (zild2 8), .inl (zcallV 1 0 64 1 9 164), .inl (zifeq 13 10), .inl (zild1 11), .inl (zild2 12), .inl (zicne 15 13), .inl (zicm1 14), .inl (ziret), .inl (zald0 16), .inl (zgetf 11 4 17 44), .inl (zcallV 1 0 92 0 18 300), .inl (zifeq 21 19), .inl (zbi (-3) 20), .inl (ziret), .inl (zald0 22), .inl (zgetf 11 4 23 44), .inl (zgetf 0 8 24 182), .inl (zild1 25), .inl (zoiald 26), .inl (zist3 27), .inl (zald0 28), .inl (zgetf 11 4 29 44), .inl (zgetf 0 8 30 182), .inl (zild2 31), .inl (zoiald 32), .inl (zist 4 33), .inl (zic0 34), .inl (zist 5 35), .inl (zic0 36), .inl (zist 6 37), .inl (zald0 38), .inl (zgetf 11 7 39 61), .inl (zald0 40), .inl (zgetf 11 4 41 44), .inl (zald0 42), .inl (zgetf 11 4 43 44), .inl (zcallV 1 0 69 0 44 304), .inl (zcallV 0 10 160 2 45 307), .inl (zic0 46), .inl (zist 7 47), .inl (zild 7 48), .inr (s_push (.inl (1000000)) 49), .inl (zicge 74 50), .inl (zald0 51), .inl (zgetf 11 7 52 61), .inl (zcallV 1 10 163 0 53 347), .inl (zifeq 74 54), .inl (zinc 6 (1) 55), .inl (zild 5 56), .inl (zald0 57), .inl (zgetf 11 7 58 61), .inl (zgetf 10 3 59 354), .inl (zild3 60), .inr (s_callS 1 47 2 61), .inl (zald0 62), .inl (zgetf 11 7 63 61), .inl (zgetf 10 3 64 354), .inl (zild 4 65), .inr (s_callS 1 47 2 66), .inl (zicne 69 67), .inl (zic1 68), .inl (zgo 70), .inl (zic0 70), .inl (zoadd 71), .inl (zist 5 72), .inl (zinc 7 (1) 73), .inl (zgo 47), .inl (zald0 75), .inl (zgetf 11 3 76 37), .inl (zcallV 0 4 127 0 77 227), .inl (zald0 78), .inl (zgetf 11 3 79 37), .inl (zild 6 80), .inl (zcallV 0 4 128 1 81 230), .inl (zild 5 82), .inl (ziret)]
set_option maxRecDepth 100000 in
set_option maxHeartbeats 4000000 in
theorem S_29 : pAll (pSk RX11 cX11_together 8 (some .int) PC_29) 0 C_29 := zall (D := ZD_29) zgetf_RX11_ok zputi_RX11_ok zcallV_RX11_ok (by decide +kernel)
  ⟨sn_ldcw (idx := 353) (dX_ldc_w (by decide +kernel)) (pmt5 68 rfl (by decide +kernel)) (by decide +kernel),
   sn_callS (idx := 257) cal_47 (pmt4 24 rfl (by decide +kernel)) (pmt4 25 rfl (by decide +kernel)) (dX_invokestatic (by decide +kernel)) (by decide +kernel),
   sn_callS (idx := 257) cal_47 (pmt4 24 rfl (by decide +kernel)) (pmt4 25 rfl (by decide +kernel)) (dX_invokestatic (by decide +kernel)) (by decide +kernel), trivial⟩
def ZD_30 : List zE := [.inl (zald0 1), .inl (zgetf 11 4 2 44), .inl (zild1 3), .inl (zcallV 1 0 63 1 4 137), .inl (zifne 7 5), .inl (zicm1 6), .inl (ziret), .inl (zald0 8), .inl (zgetf 11 4 9 44), .inl (zcallV 1 0 92 0 10 300), .inl (zifeq 13 11), .inl (zbi (-3) 12), .inl (ziret), .inl (zald0 14), .inl (zild1 15), .inl (zic0 16), .inl (zic1 17), .inl (zcallV 1 11 60 3 18 330), .inl (zifne 21 19), .inl (zbi (-2) 20), .inl (ziret), .inl (zald0 22), .inl (zgetf 11 3 23 37), .inl (zcallV 0 4 127 0 24 227), .inl (zald0 25), .inl (zcallV 0 11 58 0 26 316), .inl (zald0 27), .inl (zgetf 11 7 28 61), .inl (zgetf 10 10 29 325), .inl (ziret)]
set_option maxRecDepth 100000 in
set_option maxHeartbeats 4000000 in
theorem S_30 : pAll (pSk RX11 cX11_fullest 2 (some .int) PC_30) 0 C_30 := zall (D := ZD_30) zgetf_RX11_ok zputi_RX11_ok zcallV_RX11_ok (by decide +kernel)
  trivial
def ZD_31 : List zE := [.inl (zald0 1), .inl (zgetf 11 4 2 44), .inl (zild1 3), .inl (zild2 4), .inl (zcallV 1 0 65 2 5 195), .inl (zifne 8 6), .inl (zicm1 7), .inl (ziret), .inl (zald0 9), .inl (zgetf 11 4 10 44), .inl (zgetf 0 5 11 150), .inl (zald0 12), .inl (zgetf 11 13 13 97), .inr (s_callS 0 48 2 14), .inl (zic0 15), .inl (zist3 16), .inl (zild3 17), .inl (zald0 18), .inl (zgetf 11 4 19 44), .inl (zgetf 0 10 20 276), .inl (zicge 48 21), .inl (zald0 22), .inl (zgetf 11 4 23 44), .inl (zgetf 0 5 24 150), .inl (zild3 25), .inl (zoiald 26), .inl (zild1 27), .inl (zicne 34 28), .inl (zald0 29), .inl (zgetf 11 13 30 97), .inl (zild3 31), .inl (zild2 32), .inl (zoiast 33), .inl (zgo 46), .inl (zald0 35), .inl (zgetf 11 4 36 44), .inl (zgetf 0 5 37 150), .inl (zild3 38), .inl (zoiald 39), .inl (zild2 40), .inl (zicne 46 41), .inl (zald0 42), .inl (zgetf 11 13 43 97), .inl (zild3 44), .inl (zild1 45), .inl (zoiast 46), .inl (zinc 3 (1) 47), .inl (zgo 16), .inl (zald0 49), .inl (zgetf 11 3 50 37), .inl (zcallV 0 4 127 0 51 227), .inl (zald0 52), .inl (zgetf 11 3 53 37), .inl (zald0 54), .inl (zgetf 11 4 55 44), .inl (zald0 56), .inl (zgetf 11 13 57 97), .inl (zcallV 1 0 83 1 58 357), .inl (zcallV 0 4 128 1 59 230), .inl (zald0 60), .inl (zgetf 11 4 61 44), .inl (zald0 62), .inl (zgetf 11 13 63 97), .inl (zcallV 1 0 91 1 64 247), .inl (zifeq 67 65), .inl (zic1 66), .inl (zgo 68), .inl (zic0 68), .inl (ziret)]
set_option maxRecDepth 100000 in
set_option maxHeartbeats 4000000 in
theorem S_31 : pAll (pSk RX11 cX11_swap 4 (some .int) PC_31) 0 C_31 := zall (D := ZD_31) zgetf_RX11_ok zputi_RX11_ok zcallV_RX11_ok (by decide +kernel)
  ⟨sn_callS (idx := 266) cal_48 (pmt4 131 rfl (by decide +kernel)) (pmt2 200 rfl (by decide +kernel)) (dX_invokestatic (by decide +kernel)) (by decide +kernel), trivial⟩
def ZD_32 : List zE := [.inl (zald0 1), .inl (zgetf 11 4 2 44), .inl (zcallV 1 0 92 0 3 300), .inl (zifeq 6 4), .inl (zbi (-3) 5), .inl (ziret), .inl (zald0 7), .inl (zgetf 11 4 8 44), .inl (zcallV 1 0 67 0 9 285), .inl (zist1 10), .inl (zic0 11), .inl (zist2 12), .inl (zild2 13), .inl (zic1 14), .inl (zald0 15), .inl (zgetf 11 4 16 44), .inl (zgetf 0 12 17 270), .inl (zoshl 18), .inl (zicge 52 19), .inl (zald0 20), .inl (zgetf 11 4 21 44), .inl (zild2 22), .inl (zcallV 1 0 104 1 23 337), .inl (zist3 24), .inl (zald0 25), .inl (zgetf 11 4 26 44), .inl (zild3 27), .inl (zild1 28), .inl (zcallV 1 0 106 2 29 360), .inl (zifeq 50 30), .inl (zald0 31), .inl (zgetf 11 7 32 61), .inl (zald0 33), .inl (zgetf 11 4 34 44), .inl (zald0 35), .inl (zgetf 11 4 36 44), .inl (zcallV 1 0 69 0 37 304), .inl (zild2 38), .inl (zicm1 39), .inl (zoxor 40), .inl (zoand 41), .inl (zcallV 0 10 160 2 42 307), .inl (zald0 43), .inl (zgetf 11 7 44 61), .inl (zcallV 1 10 163 0 45 347), .inl (zifeq 48 46), .inl (zild3 47), .inl (zgo 49), .inl (zild1 49), .inl (zist1 50), .inl (zinc 2 (1) 51), .inl (zgo 12), .inl (zald0 53), .inl (zgetf 11 3 54 37), .inl (zcallV 0 4 127 0 55 227), .inl (zald0 56), .inl (zgetf 11 3 57 37), .inl (zild1 58), .inl (zcallV 0 4 128 1 59 230), .inl (zild1 60), .inr (s_callS 1 270 1 61), .inl (ziret)]
set_option maxRecDepth 100000 in
set_option maxHeartbeats 4000000 in
theorem S_32 : pAll (pSk RX11 cX11_sell 4 (some .int) PC_32) 0 C_32 := zall (D := ZD_32) zgetf_RX11_ok zputi_RX11_ok zcallV_RX11_ok (by decide +kernel)
  ⟨sn_callS (idx := 363) cal_270 (pmt5 95 rfl (by decide +kernel)) (pmt4 236 rfl (by decide +kernel)) (dX_invokestatic (by decide +kernel)) (by decide +kernel), trivial⟩
def ZD_33 : List zE := [.inl (zald0 1), .inl (zgetf 11 4 2 44), .inl (zgetf 0 9 3 319), .inl (zifne 6 4), .inl (zbi (-2) 5), .inl (ziret), .inl (zald0 7), .inl (zgetf 11 4 8 44), .inl (zcallV 1 0 92 0 9 300), .inl (zifeq 12 10), .inl (zbi (-3) 11), .inl (ziret), .inl (zald0 13), .inl (zgetf 11 7 14 61), .inl (zald0 15), .inl (zgetf 11 4 16 44), .inl (zald0 17), .inl (zgetf 11 4 18 44), .inl (zcallV 1 0 69 0 19 304), .inl (zcallV 0 10 160 2 20 307), .inl (zicm1 21), .inl (zist1 22), .inl (zald0 23), .inl (zgetf 11 7 24 61), .inl (zcallV 1 10 163 0 25 347), .inl (zifeq 28 26), .inl (zic0 27), .inl (zgo 29), .inr (s_push (.inl (1000000)) 29), .inl (zist2 30), .inl (zic0 31), .inl (zist3 32), .inl (zild3 33), .inl (zald0 34), .inl (zgetf 11 4 35 44), .inl (zgetf 0 9 36 319), .inl (zicge 72 37), .inl (zild2 38), .inl (zifle 72 39), .inl (zald0 40), .inl (zild3 41), .inl (zbi (99) 42), .inl (zicm1 43), .inl (zcallV 1 11 60 3 44 330), .inl (zifeq 70 45), .inl (zald0 46), .inl (zgetf 11 7 47 61), .inl (zgetf 10 10 48 325), .inr (s_un (fun x => -x) 49), .inl (zald0 50), .inl (zgetf 11 4 51 44), .inl (zgetf 0 0 52 147), .inl (zild3 53), .inl (zoiald 54), .inl (zosub 55), .inl (zild2 56), .inl (zicge 70 57), .inl (zald0 58), .inl (zgetf 11 7 59 61), .inl (zgetf 10 10 60 325), .inr (s_un (fun x => -x) 61), .inl (zald0 62), .inl (zgetf 11 4 63 44), .inl (zgetf 0 0 64 147), .inl (zild3 65), .inl (zoiald 66), .inl (zosub 67), .inl (zist2 68), .inl (zild3 69), .inl (zist1 70), .inl (zinc 3 (1) 71), .inl (zgo 32), .inl (zild2 73), .inr (s_push (.inl (1000000)) 74), .inl (zicne 77 75), .inl (zbi (-2) 76), .inl (ziret), .inl (zald0 78), .inl (zgetf 11 3 79 37), .inl (zcallV 0 4 127 0 80 227), .inl (zald0 81), .inl (zgetf 11 3 82 37), .inl (zild1 83), .inl (zcallV 0 4 128 1 84 230), .inl (zild2 85), .inl (ziret)]
set_option maxRecDepth 100000 in
set_option maxHeartbeats 4000000 in
theorem S_33 : pAll (pSk RX11 cX11_build 4 (some .int) PC_33) 0 C_33 := zall (D := ZD_33) zgetf_RX11_ok zputi_RX11_ok zcallV_RX11_ok (by decide +kernel)
  ⟨sn_ldcw (idx := 353) (dX_ldc_w (by decide +kernel)) (pmt5 68 rfl (by decide +kernel)) (by decide +kernel),
   sn_ineg (dX_ineg (by decide +kernel)) (by decide +kernel),
   sn_ineg (dX_ineg (by decide +kernel)) (by decide +kernel),
   sn_ldcw (idx := 353) (dX_ldc_w (by decide +kernel)) (pmt5 68 rfl (by decide +kernel)) (by decide +kernel), trivial⟩
def ZD_34 : List zE := [.inl (zald0 1), .inl (zgetf 11 4 2 44), .inl (zild1 3), .inl (zcallV 1 0 64 1 4 164), .inl (zifeq 10 5), .inl (zald0 6), .inl (zgetf 11 4 7 44), .inl (zild2 8), .inl (zcallV 1 0 63 1 9 137), .inl (zifne 12 10), .inl (zicm1 11), .inl (ziret), .inl (zald0 13), .inl (zgetf 11 4 14 44), .inl (zgetf 0 3 15 172), .inl (zild1 16), .inl (zoiald 17), .inl (zist3 18), .inl (zald0 19), .inl (zgetf 11 4 20 44), .inl (zgetf 0 5 21 150), .inl (zild1 22), .inl (zoiald 23), .inl (zist 4 24), .inl (zald0 25), .inl (zgetf 11 4 26 44), .inl (zild3 27), .inl (zild 4 28), .inl (zild2 29), .inl (zcallV 1 0 80 3 30 368), .inl (zist 5 31), .inl (zild 5 32), .inl (zifge 35 33), .inl (zbi (-2) 34), .inl (ziret), .inl (zald0 36), .inl (zgetf 11 3 37 37), .inl (zcallV 0 4 127 0 38 227), .inl (zild 5 39), .inl (zic1 40), .inl (zosub 41), .inl (zist 6 42), .inl (zild 6 43), .inl (ziflt 58 44), .inl (zald0 45), .inl (zgetf 11 4 46 44), .inl (zild3 47), .inl (zild 4 48), .inl (zild2 49), .inl (zild 6 50), .inl (zcallV 1 0 81 4 51 372), .inl (zist 4 52), .inl (zald0 53), .inl (zgetf 11 3 54 37), .inl (zild 4 55), .inl (zcallV 0 4 128 1 56 230), .inl (zinc 6 (-1) 57), .inl (zgo 42), .inl (zild 5 59), .inl (ziret)]
set_option maxRecDepth 100000 in
set_option maxHeartbeats 4000000 in
theorem S_34 : pAll (pSk RX11 cX11_way 7 (some .int) PC_34) 0 C_34 := zall (D := ZD_34) zgetf_RX11_ok zputi_RX11_ok zcallV_RX11_ok (by decide +kernel)
  trivial
def ZD_35 : List zE := [.inl (zald0 1), .inl (zgetf 11 4 2 44), .inl (zild1 3), .inl (zcallV 1 0 63 1 4 137), .inl (zifeq 10 5), .inl (zald0 6), .inl (zgetf 11 4 7 44), .inl (zild2 8), .inl (zcallV 1 0 63 1 9 137), .inl (zifne 12 10), .inl (zicm1 11), .inl (ziret), .inl (zbi (9) 13), .inl (zist3 14), .inl (zild3 15), .inl (zifle 27 16), .inl (zald0 17), .inl (zgetf 11 4 18 44), .inl (zild3 19), .inl (zild1 20), .inl (zild2 21), .inl (zcallV 1 0 80 3 22 368), .inl (ziflt 25 23), .inl (zild3 24), .inl (ziret), .inl (zinc 3 (-1) 26), .inl (zgo 14), .inl (zic0 28), .inl (ziret)]
set_option maxRecDepth 100000 in
set_option maxHeartbeats 4000000 in
theorem S_35 : pAll (pSk RX11 cX11_widest 4 (some .int) PC_35) 0 C_35 := zall (D := ZD_35) zgetf_RX11_ok zputi_RX11_ok zcallV_RX11_ok (by decide +kernel)
  trivial
def ZD_36 : List zE := [.inl (zic0 1), .inl (zist1 2), .inl (zic0 3), .inl (zist2 4), .inl (zild2 5), .inl (zald0 6), .inl (zgetf 11 4 7 44), .inl (zgetf 0 10 8 276), .inl (zicge 34 9), .inl (zald0 10), .inl (zgetf 11 4 11 44), .inl (zald0 12), .inl (zgetf 11 4 13 44), .inl (zgetf 0 3 14 172), .inl (zild2 15), .inl (zoiald 16), .inl (zald0 17), .inl (zgetf 11 4 18 44), .inl (zgetf 0 5 19 150), .inl (zild2 20), .inl (zoiald 21), .inl (zcallV 1 0 79 2 22 375), .inl (zald0 23), .inl (zgetf 11 4 24 44), .inl (zcallV 1 0 66 0 25 378), .inl (ziceq 32 26), .inl (zild1 27), .inl (zic1 28), .inl (zild2 29), .inl (zoshl 30), .inl (zoor 31), .inl (zist1 32), .inl (zinc 2 (1) 33), .inl (zgo 4), .inl (zild1 35), .inl (ziret)]
set_option maxRecDepth 100000 in
set_option maxHeartbeats 4000000 in
theorem S_36 : pAll (pSk RX11 cX11_stuck 3 (some .int) PC_36) 0 C_36 := zall (D := ZD_36) zgetf_RX11_ok zputi_RX11_ok zcallV_RX11_ok (by decide +kernel)
  trivial
def ZD_37 : List zE := [.inl (zald0 1), .inl (zgetf 11 4 2 44), .inl (zild1 3), .inl (zcallV 1 0 63 1 4 137), .inl (zifne 7 5), .inl (zicm1 6), .inl (ziret), .inl (zicm1 8), .inl (zist2 9), .inl (zicm1 10), .inl (zist3 11), .inl (zicm1 12), .inl (zist 4 13), .inl (zic0 14), .inl (zist 5 15), .inl (zild 5 16), .inl (zald0 17), .inl (zgetf 11 4 18 44), .inl (zgetf 0 9 19 319), .inl (zicge 57 20), .inl (zild 5 21), .inl (zic1 22), .inl (zoadd 23), .inl (zist 6 24), .inl (zild 6 25), .inl (zald0 26), .inl (zgetf 11 4 27 44), .inl (zgetf 0 9 28 319), .inl (zicge 55 29), .inl (zald0 30), .inl (zgetf 11 4 31 44), .inl (zild 5 32), .inl (zild 6 33), .inl (zcallV 1 0 74 2 34 199), .inl (zifne 37 35), .inl (zicm1 36), .inl (zgo 43), .inl (zald0 38), .inl (zgetf 11 4 39 44), .inl (zild 5 40), .inl (zild 6 41), .inl (zild1 42), .inl (zcallV 1 0 84 3 43 381), .inl (zist 7 44), .inl (zild 7 45), .inl (zild 4 46), .inl (zicle 53 47), .inl (zild 7 48), .inl (zist 4 49), .inl (zild 5 50), .inl (zist2 51), .inl (zild 6 52), .inl (zist3 53), .inl (zinc 6 (1) 54), .inl (zgo 24), .inl (zinc 5 (1) 56), .inl (zgo 15), .inl (zild2 58), .inl (zicm1 59), .inl (zicne 62 60), .inl (zbi (-2) 61), .inl (ziret), .inl (zald0 63), .inl (zgetf 11 3 64 37), .inl (zcallV 0 4 127 0 65 227), .inl (zald0 66), .inl (zgetf 11 3 67 37), .inl (zild3 68), .inl (zcallV 0 4 128 1 69 230), .inl (zald0 70), .inl (zgetf 11 3 71 37), .inl (zild 4 72), .inl (zcallV 0 4 128 1 73 230), .inl (zild2 74), .inl (ziret)]
set_option maxRecDepth 100000 in
set_option maxHeartbeats 4000000 in
theorem S_37 : pAll (pSk RX11 cX11_hinge 8 (some .int) PC_37) 0 C_37 := zall (D := ZD_37) zgetf_RX11_ok zputi_RX11_ok zcallV_RX11_ok (by decide +kernel)
  trivial
def ZD_38 : List zE := [.inl (zald0 1), .inl (zgetf 11 0 2 10), .inl (zgetf 8 1 3 108), .inl (zist1 4), .inl (zild1 5), .inl (zifne 8 6), .inl (zicm1 7), .inl (zgo 10), .inl (zald0 9), .inl (zcallV 1 11 56 0 10 384), .inl (zist2 11), .inl (zild2 12), .inl (zicm1 13), .inl (zicne 37 14), .inl (zic0 15), .inl (zist3 16), .inl (zild3 17), .inl (zild1 18), .inl (zicge 34 19), .inl (zild3 20), .inl (zbi (10) 21), .inl (zicge 34 22), .inl (zald0 23), .inl (zgetf 11 12 24 93), .inl (zild3 25), .inl (zald0 26), .inl (zgetf 11 0 27 10), .inl (zild3 28), .inl (zcallV 1 8 154 1 29 241), .inl (zbi (48) 30), .inl (zosub 31), .inl (zoiast 32), .inl (zinc 3 (1) 33), .inl (zgo 16), .inl (zald0 35), .inl (zild1 36), .inl (zputi 11 14 37 387), .inl (zald0 38), .inl (zgetf 11 0 39 10), .inl (zic0 40), .inl (zcallV 1 8 153 1 41 111), .inl (zopop 42), .inl (zild2 43), .inl (zicm1 44), .inl (zicne 47 45), .inl (zild1 46), .inl (zgo 50), .inl (zicm1 48), .inl (zild2 49), .inl (zosub 50), .inl (ziret)]
set_option maxRecDepth 100000 in
set_option maxHeartbeats 4000000 in
theorem S_38 : pAll (pSk RX11 cX11_aim 4 (some .int) PC_38) 0 C_38 := zall (D := ZD_38) zgetf_RX11_ok zputi_RX11_ok zcallV_RX11_ok (by decide +kernel)
  trivial
def ZD_39 : List zE := [.inl (zald0 1), .inl (zcallV 1 11 57 0 2 390), .inl (zifne 5 3), .inl (zbi (-4) 4), .inl (ziret), .inl (zald0 6), .inl (zgetf 11 4 7 44), .inl (zald0 8), .inl (zgetf 11 12 9 93), .inl (zcallV 1 0 83 1 10 357), .inl (zist1 11), .inl (zild1 12), .inl (zifge 15 13), .inl (zbi (-2) 14), .inl (ziret), .inl (zald0 16), .inl (zgetf 11 3 17 37), .inl (zcallV 0 4 127 0 18 227), .inl (zald0 19), .inl (zgetf 11 3 20 37), .inl (zald0 21), .inl (zgetf 11 4 22 44), .inl (zald0 23), .inl (zgetf 11 12 24 93), .inl (zcallV 1 0 91 1 25 247), .inl (zifeq 28 26), .inl (zic1 27), .inl (zgo 29), .inl (zic0 29), .inl (zcallV 0 4 128 1 30 230), .inl (zild1 31), .inl (ziret)]
set_option maxRecDepth 100000 in
set_option maxHeartbeats 4000000 in
theorem S_39 : pAll (pSk RX11 cX11_apart 2 (some .int) PC_39) 0 C_39 := zall (D := ZD_39) zgetf_RX11_ok zputi_RX11_ok zcallV_RX11_ok (by decide +kernel)
  trivial
def ZD_40 : List zE := [.inl (zald0 1), .inl (zcallV 1 11 57 0 2 390), .inl (zifne 5 3), .inl (zbi (-4) 4), .inl (ziret), .inl (zald0 6), .inl (zgetf 11 4 7 44), .inl (zald0 8), .inl (zgetf 11 12 9 93), .inl (zcallV 1 0 89 1 10 220), .inl (zifne 18 11), .inl (zald0 12), .inl (zgetf 11 4 13 44), .inl (zald0 14), .inl (zgetf 11 4 15 44), .inl (zgetf 0 5 16 150), .inl (zcallV 1 0 89 1 17 220), .inl (zifeq 20 18), .inl (zbi (-5) 19), .inl (ziret), .inl (zald0 21), .inl (zgetf 11 4 22 44), .inl (zald0 23), .inl (zgetf 11 12 24 93), .inl (zcallV 1 0 83 1 25 357), .inl (ziflt 34 26), .inl (zald0 27), .inl (zgetf 11 10 28 82), .inl (zald0 29), .inl (zgetf 11 4 30 44), .inl (zald0 31), .inl (zgetf 11 12 32 93), .inl (zcallV 1 9 156 2 33 393), .inl (zifne 36 34), .inl (zbi (-2) 35), .inl (ziret), .inl (zald0 37), .inl (zgetf 11 3 38 37), .inl (zcallV 0 4 127 0 39 227), .inl (zic0 40), .inl (zist1 41), .inl (zild1 42), .inl (zald0 43), .inl (zgetf 11 10 44 82), .inl (zgetf 9 3 45 397), .inl (zicge 56 46), .inl (zald0 47), .inl (zgetf 11 3 48 37), .inl (zald0 49), .inl (zgetf 11 10 50 82), .inl (zgetf 9 1 51 398), .inl (zild1 52), .inr (s_callS 1 47 2 53), .inl (zcallV 0 4 128 1 54 230), .inl (zinc 1 (1) 55), .inl (zgo 41), .inl (zald0 57), .inl (zgetf 11 10 58 82), .inl (zgetf 9 3 59 397), .inl (ziret)]
set_option maxRecDepth 100000 in
set_option maxHeartbeats 4000000 in
theorem S_40 : pAll (pSk RX11 cX11_queue 2 (some .int) PC_40) 0 C_40 := zall (D := ZD_40) zgetf_RX11_ok zputi_RX11_ok zcallV_RX11_ok (by decide +kernel)
  ⟨sn_callS (idx := 257) cal_47 (pmt4 24 rfl (by decide +kernel)) (pmt4 25 rfl (by decide +kernel)) (dX_invokestatic (by decide +kernel)) (by decide +kernel), trivial⟩
def ZD_41 : List zE := [.inl (zald0 1), .inl (zcallV 1 11 61 0 2 401), .inl (zist1 3), .inl (zild1 4), .inl (zifgt 7 5), .inl (zild1 6), .inl (ziret), .inl (zald0 8), .inl (zgetf 11 11 9 89), .inl (zald0 10), .inl (zgetf 11 17 11 100), .inl (zcallV 1 2 119 1 12 404), .inl (zist2 13), .inl (zild2 14), .inl (zifge 17 15), .inl (zbi (-2) 16), .inl (ziret), .inl (zald0 18), .inl (zgetf 11 3 19 37), .inl (zcallV 0 4 127 0 20 227), .inl (zald0 21), .inl (zgetf 11 3 22 37), .inl (zald0 23), .inl (zgetf 11 11 24 89), .inl (zgetf 2 8 25 407), .inl (zcallV 0 4 128 1 26 230), .inl (zic0 27), .inl (zist3 28), .inl (zild3 29), .inl (zald0 30), .inl (zgetf 11 4 31 44), .inl (zgetf 0 10 32 276), .inl (zicge 49 33), .inl (zald0 34), .inl (zgetf 11 3 35 37), .inl (zald0 36), .inl (zgetf 11 11 37 89), .inl (zald0 38), .inl (zgetf 11 11 39 89), .inl (zgetf 2 9 40 410), .inl (zald0 41), .inl (zgetf 11 4 42 44), .inl (zgetf 0 8 43 182), .inl (zild3 44), .inl (zoiald 45), .inl (zcallV 1 2 114 2 46 412), .inl (zcallV 0 4 128 1 47 230), .inl (zinc 3 (1) 48), .inl (zgo 28), .inl (zild2 50), .inl (ziret)]
set_option maxRecDepth 100000 in
set_option maxHeartbeats 4000000 in
theorem S_41 : pAll (pSk RX11 cX11_evenings 4 (some .int) PC_41) 0 C_41 := zall (D := ZD_41) zgetf_RX11_ok zputi_RX11_ok zcallV_RX11_ok (by decide +kernel)
  trivial
def ZD_42 : List zE := [.inl (zald0 1), .inl (zcallV 1 11 61 0 2 401), .inl (zist1 3), .inl (zild1 4), .inl (zifgt 7 5), .inl (zild1 6), .inl (ziret), .inl (zald0 8), .inl (zgetf 11 11 9 89), .inl (zcallV 1 2 123 0 10 415), .inl (zist2 11), .inl (zild2 12), .inl (zsi (999) 13), .inl (zicle 16 14), .inl (zbi (-2) 15), .inl (ziret), .inl (zald0 17), .inl (zgetf 11 11 18 89), .inl (zild2 19), .inl (zcallV 1 2 119 1 20 404), .inl (zist3 21), .inl (zald0 22), .inl (zgetf 11 3 23 37), .inl (zcallV 0 4 127 0 24 227), .inl (zald0 25), .inl (zgetf 11 3 26 37), .inl (zild3 27), .inl (zcallV 0 4 128 1 28 230), .inl (zild2 29), .inl (ziret)]
set_option maxRecDepth 100000 in
set_option maxHeartbeats 4000000 in
theorem S_42 : pAll (pSk RX11 cX11_weakest 4 (some .int) PC_42) 0 C_42 := zall (D := ZD_42) zgetf_RX11_ok zputi_RX11_ok zcallV_RX11_ok (by decide +kernel)
  trivial
def ZD_43 : List zE := [.inl (zald0 1), .inl (zild1 2), .inl (zcallV 2 11 50 1 3 418), .inr (s_ast 2 4), .inl (zald2 5), .inr (s_ifnull 6 8), .inl (zic0 7), .inr (s_zret), .inl (zald2 9), .inl (zald0 10), .inl (zgetf 11 4 11 44), .inl (zald0 12), .inl (zgetf 11 15 13 422), .inl (zald0 14), .inl (zgetf 11 16 15 210), .inl (zcallV 0 3 125 3 16 425), .inl (zic1 17), .inr (s_zret)]
set_option maxRecDepth 100000 in
set_option maxHeartbeats 4000000 in
theorem S_43 : pAll (pSk RX11 cX11_keep 3 (some .boolean) PC_43) 0 C_43 := zall (D := ZD_43) zgetf_RX11_ok zputi_RX11_ok zcallV_RX11_ok (by decide +kernel)
  ⟨sn_astore_n (k := 2) (dX_astore_2 (by decide +kernel)) rfl (by decide) (by decide +kernel),
   sn_ifnonnull (off := 5) (dX_ifnonnull (by decide +kernel)) (by decide +kernel) (by decide +kernel),
   sn_zret (Or.inl rfl) (dX_ireturn (by decide +kernel)),
   sn_zret (Or.inl rfl) (dX_ireturn (by decide +kernel)), trivial⟩
def ZD_44 : List zE := [.inl (zald0 1), .inl (zild1 2), .inl (zcallV 2 11 50 1 3 418), .inr (s_ast 2 4), .inl (zald2 5), .inr (s_ifnull 11 6), .inl (zald2 7), .inl (zald0 8), .inl (zgetf 11 4 9 44), .inl (zcallV 1 3 126 1 10 429), .inl (zifne 13 11), .inl (zic0 12), .inr (s_zret), .inl (zald2 14), .inl (zgetf 3 0 15 433), .inl (zald0 16), .inl (zgetf 11 4 17 44), .inl (zgetf 0 5 18 150), .inr (s_callS 0 48 2 19), .inl (zald0 20), .inl (zald2 21), .inl (zgetf 3 4 22 434), .inl (zputi 11 15 23 422), .inl (zald0 24), .inl (zald2 25), .inl (zgetf 3 5 26 435), .inl (zputi 11 16 27 210), .inl (zald0 28), .inl (zgetf 11 8 29 68), .inl (zcallV 0 5 129 0 30 125), .inl (zic1 31), .inr (s_zret)]
set_option maxRecDepth 100000 in
set_option maxHeartbeats 4000000 in
theorem S_44 : pAll (pSk RX11 cX11_again 3 (some .boolean) PC_44) 0 C_44 := zall (D := ZD_44) zgetf_RX11_ok zputi_RX11_ok zcallV_RX11_ok (by decide +kernel)
  ⟨sn_astore_n (k := 2) (dX_astore_2 (by decide +kernel)) rfl (by decide) (by decide +kernel),
   sn_ifnull (off := 14) (dX_ifnull (by decide +kernel)) (by decide +kernel) (by decide +kernel),
   sn_zret (Or.inl rfl) (dX_ireturn (by decide +kernel)),
   sn_callS (idx := 266) cal_48 (pmt4 131 rfl (by decide +kernel)) (pmt2 200 rfl (by decide +kernel)) (dX_invokestatic (by decide +kernel)) (by decide +kernel),
   sn_zret (Or.inl rfl) (dX_ireturn (by decide +kernel)), trivial⟩
def ZD_45 : List zE := [.inl (zild1 1), .inr (s_sw [(0, 2), (1, 6), (2, 10), (3, 14), (4, 18), (5, 21), (6, 24), (7, 31), (8, 38), (9, 42), (10, 46), (11, 50)] 53), .inl (zald0 3), .inl (zgetf 11 4 4 44), .inl (zgetf 0 9 5 319), .inl (ziret), .inl (zald0 7), .inl (zgetf 11 4 8 44), .inl (zgetf 0 10 9 276), .inl (ziret), .inl (zald0 11), .inl (zgetf 11 4 12 44), .inl (zgetf 0 11 13 189), .inl (ziret), .inl (zald0 15), .inl (zgetf 11 4 16 44), .inl (zcallV 1 0 75 0 17 436), .inl (ziret), .inl (zald0 19), .inl (zgetf 11 15 20 422), .inl (ziret), .inl (zald0 22), .inl (zgetf 11 16 23 210), .inl (ziret), .inl (zald0 25), .inl (zgetf 11 4 26 44), .inl (zald0 27), .inl (zgetf 11 4 28 44), .inl (zgetf 0 5 29 150), .inl (zcallV 1 0 89 1 30 220), .inl (ziret), .inl (zald0 32), .inl (zgetf 11 4 33 44), .inl (zald0 34), .inl (zgetf 11 4 35 44), .inl (zgetf 0 5 36 150), .inl (zcallV 1 0 88 1 37 224), .inl (ziret), .inl (zald0 39), .inl (zgetf 11 8 40 68), .inl (zgetf 5 3 41 251), .inl (ziret), .inl (zald0 43), .inl (zgetf 11 3 44 37), .inl (zgetf 4 1 45 439), .inl (ziret), .inl (zald0 47), .inl (zgetf 11 0 48 10), .inl (zgetf 8 1 49 108), .inl (ziret), .inl (zald0 51), .inl (zgetf 11 17 52 100), .inl (ziret), .inl (zicm1 54), .inl (ziret)]
set_option maxRecDepth 100000 in
set_option maxHeartbeats 4000000 in
theorem S_45 : pAll (pSk RX11 cX11_count 2 (some .int) PC_45) 0 C_45 := zall (D := ZD_45) zgetf_RX11_ok zputi_RX11_ok zcallV_RX11_ok (by decide +kernel)
  ⟨sn_sw (dflt := 164) (lo := 0) (hi := 11) (offs := #[63, 71, 79, 87, 95, 100, 105, 120, 135, 143, 151, 159]) (len := 63) (by decide +kernel) (by decide) (by decide +kernel) (p_sw_all (by decide +kernel)) (by decide +kernel), trivial⟩
def ZD_46 : List zE := [.inl (zild1 1), .inl (ziflt 7 2), .inl (zild1 3), .inl (zald0 4), .inl (zgetf 11 3 5 37), .inl (zgetf 4 1 6 439), .inl (ziclt 12 7), .inr (s_none), .inl (zodup 9), .inr (s_none), .inr (s_none), .inr (s_none), .inl (zald0 13), .inl (zgetf 11 3 14 37), .inl (zgetf 4 0 15 442), .inl (zild1 16), .inr (s_callS 1 47 2 17), .inl (ziret)]
set_option maxRecDepth 100000 in
set_option maxHeartbeats 4000000 in
theorem S_46 : pAll (pSk RX11 cX11_row 2 (some .int) PC_46) 0 C_46 := zall (D := ZD_46) zgetf_RX11_ok zputi_RX11_ok zcallV_RX11_ok (by decide +kernel)
  ⟨sn_none,
   sn_none,
   sn_none,
   sn_none,
   sn_callS (idx := 257) cal_47 (pmt4 24 rfl (by decide +kernel)) (pmt4 25 rfl (by decide +kernel)) (dX_invokestatic (by decide +kernel)) (by decide +kernel), trivial⟩
def ZD_47 : List zE := [.inl (zild1 1), .inl (ziflt 10 2), .inl (zild1 3), .inl (zald0 4), .inr (s_len 5), .inl (zicge 10 6), .inl (zald0 7), .inl (zild1 8), .inl (zoiald 9), .inl (zgo 11), .inl (zic0 11), .inl (ziret)]
set_option maxRecDepth 100000 in
set_option maxHeartbeats 4000000 in
theorem S_47 : pAll (pSk RX11 cX11_numberAt 2 (some .int) PC_47) 0 C_47 := zall (D := ZD_47) zgetf_RX11_ok zputi_RX11_ok zcallV_RX11_ok (by decide +kernel)
  ⟨sn_alen (dX_arraylength (by decide +kernel)) (by decide +kernel), trivial⟩
def ZD_48 : List zE := [.inl (zic0 1), .inl (zist2 2), .inl (zild2 3), .inl (zald0 4), .inr (s_len 5), .inl (zicge 18 6), .inl (zild2 7), .inl (zald1 8), .inr (s_len 9), .inl (zicge 18 10), .inl (zald1 11), .inl (zild2 12), .inl (zald0 13), .inl (zild2 14), .inl (zoiald 15), .inl (zoiast 16), .inl (zinc 2 (1) 17), .inl (zgo 2), .inl (zvret)]
set_option maxRecDepth 100000 in
set_option maxHeartbeats 4000000 in
theorem S_48 : pAll (pSk RX11 cX11_copy 3 none PC_48) 0 C_48 := zall (D := ZD_48) zgetf_RX11_ok zputi_RX11_ok zcallV_RX11_ok (by decide +kernel)
  ⟨sn_alen (dX_arraylength (by decide +kernel)) (by decide +kernel),
   sn_alen (dX_arraylength (by decide +kernel)) (by decide +kernel), trivial⟩
def ZD_49 : List zE := [.inl (zild0 1), .inl (zild1 2), .inl (zoshr 3), .inl (zic1 4), .inl (zoand 5), .inl (zic1 6), .inl (zicne 9 7), .inl (zic1 8), .inl (zgo 10), .inl (zic0 10), .inr (s_zret)]
set_option maxRecDepth 100000 in
set_option maxHeartbeats 4000000 in
theorem S_49 : pAll (pSk RX11 cX11_has 2 (some .boolean) PC_49) 0 C_49 := zall (D := ZD_49) zgetf_RX11_ok zputi_RX11_ok zcallV_RX11_ok (by decide +kernel)
  ⟨sn_zret (Or.inl rfl) (dX_ireturn (by decide +kernel)), trivial⟩
def ZD_50 : List zE := [.inl (zild1 1), .inl (ziflt 12 2), .inl (zild1 3), .inl (zald0 4), .inl (zgetf 11 9 5 75), .inr (s_len 6), .inl (zicge 12 7), .inl (zald0 8), .inl (zgetf 11 9 9 75), .inl (zild1 10), .inr (s_getq 11), .inl (zgo 13), .inr (s_push (.inr 1) 13), .inr (s_aret)]
set_option maxRecDepth 100000 in
set_option maxHeartbeats 4000000 in
theorem S_50 : pAll (pSk RX11 cX11_keptAt 2 (some (.object "SetsStayTogether$Kept")) PC_50) 0 C_50 := zall (D := ZD_50) zgetf_RX11_ok zputi_RX11_ok zcallV_RX11_ok (by decide +kernel)
  ⟨sn_alen (dX_arraylength (by decide +kernel)) (by decide +kernel),
   sn_aald (dX_aaload (by decide +kernel)) (by decide +kernel),
   sn_null (dX_aconst_null (by decide +kernel)) (by decide +kernel),
   sn_aret ⟨_, rfl⟩ (dX_areturn (by decide +kernel)), trivial⟩
def ZD_51 : List zE := [.inl (zald0 1), .inl (zgetf 11 4 2 44), .inl (zild1 3), .inl (zcallV 1 0 64 1 4 164), .inl (zifeq 10 5), .inl (zald0 6), .inl (zgetf 11 4 7 44), .inl (zild2 8), .inl (zcallV 1 0 63 1 9 137), .inl (zifne 12 10), .inl (zicm1 11), .inl (ziret), .inl (zald0 13), .inl (zgetf 11 4 14 44), .inl (zild1 15), .inl (zald3 16), .inl (zild1 17), .inr (s_callS 1 47 2 18), .inl (zild2 19), .inl (zcallV 1 0 82 3 20 445), .inl (zist 5 21), .inl (zild 5 22), .inl (zifge 25 23), .inl (zbi (-2) 24), .inl (ziret), .inl (zild 4 26), .inl (zild 5 27), .inl (zoadd 28), .inl (zald0 29), .inl (zgetf 11 17 30 100), .inl (zicle 33 31), .inl (zbi (-3) 32), .inl (zgo 34), .inl (zild 5 34), .inl (ziret)]
set_option maxRecDepth 100000 in
set_option maxHeartbeats 4000000 in
theorem S_51 : pAll (pSk RX11 cX11_attempt 6 (some .int) PC_51) 0 C_51 := zall (D := ZD_51) zgetf_RX11_ok zputi_RX11_ok zcallV_RX11_ok (by decide +kernel)
  ⟨sn_callS (idx := 257) cal_47 (pmt4 24 rfl (by decide +kernel)) (pmt4 25 rfl (by decide +kernel)) (dX_invokestatic (by decide +kernel)) (by decide +kernel), trivial⟩
def ZD_52 : List zE := [.inl (zald0 1), .inl (zgetf 11 4 2 44), .inl (zild1 3), .inl (zcallV 1 0 64 1 4 164), .inl (zifeq 28 5), .inl (zald0 6), .inl (zgetf 11 8 7 68), .inl (zild1 8), .inl (zald0 9), .inl (zgetf 11 4 10 44), .inl (zgetf 0 5 11 150), .inl (zild1 12), .inl (zoiald 13), .inl (zald0 14), .inl (zgetf 11 16 15 210), .inl (zcallV 0 5 130 3 16 448), .inl (zald0 17), .inl (zgetf 11 4 18 44), .inl (zgetf 0 5 19 150), .inl (zild1 20), .inl (zild2 21), .inl (zoiast 22), .inl (zald0 23), .inl (zodup 24), .inl (zgetf 11 16 25 210), .inl (zild3 26), .inl (zoadd 27), .inl (zputi 11 16 28 210), .inl (zvret)]
set_option maxRecDepth 100000 in
set_option maxHeartbeats 4000000 in
theorem S_52 : pAll (pSk RX11 cX11_bring 4 none PC_52) 0 C_52 := zall (D := ZD_52) zgetf_RX11_ok zputi_RX11_ok zcallV_RX11_ok (by decide +kernel)
  trivial
def ZD_53 : List zE := [.inl (zald0 1), .inl (zodup 2), .inl (zgetf 11 15 3 422), .inl (zic1 4), .inl (zoadd 5), .inl (zputi 11 15 6 422), .inl (zald0 7), .inl (zic0 8), .inl (zputi 11 16 9 210), .inl (zald0 10), .inl (zgetf 11 8 11 68), .inl (zcallV 0 5 129 0 12 125), .inl (zic1 13), .inl (ziret)]
set_option maxRecDepth 100000 in
set_option maxHeartbeats 4000000 in
theorem S_53 : pAll (pSk RX11 cX11_sleep 1 (some .int) PC_53) 0 C_53 := zall (D := ZD_53) zgetf_RX11_ok zputi_RX11_ok zcallV_RX11_ok (by decide +kernel)
  trivial
def ZD_54 : List zE := [.inl (zald0 1), .inl (zgetf 11 1 2 21), .inl (zbi (40) 3), .inl (zcallV 0 6 132 1 4 449), .inl (zald0 5), .inl (zgetf 11 0 6 10), .inl (zgetf 8 1 7 108), .inl (zifne 10 8), .inl (zicm1 9), .inl (ziret), .inl (zald0 11), .inl (zcallV 0 11 55 0 12 451), .inl (zic0 13), .inl (zist1 14), .inl (zild1 15), .inl (zbi (40) 16), .inl (zicge 29 17), .inl (zald0 18), .inl (zgetf 11 1 19 21), .inl (zcallV 1 6 134 0 20 454), .inl (zifeq 29 21), .inl (zald0 22), .inl (zgetf 11 1 23 21), .inl (zbi (59) 24), .inl (zcallV 0 6 137 1 25 457), .inl (zald0 26), .inl (zcallV 0 11 55 0 27 451), .inl (zinc 1 (1) 28), .inl (zgo 14), .inl (zald0 30), .inl (zgetf 11 1 31 21), .inl (zcallV 1 6 136 0 32 460), .inl (ziret)]
set_option maxRecDepth 100000 in
set_option maxHeartbeats 4000000 in
theorem S_54 : pAll (pSk RX11 cX11_dayFault 2 (some .int) PC_54) 0 C_54 := zall (D := ZD_54) zgetf_RX11_ok zputi_RX11_ok zcallV_RX11_ok (by decide +kernel)
  trivial
def ZD_55 : List zE := [.inl (zald0 1), .inl (zgetf 11 1 2 21), .inl (zic0 3), .inl (zbi (10) 4), .inl (zcallV 1 6 140 2 5 462), .inl (zopop 6), .inl (zald0 7), .inl (zgetf 11 1 8 21), .inl (zbi (62) 9), .inl (zcallV 0 6 137 1 10 457), .inl (zald0 11), .inl (zgetf 11 1 12 21), .inl (zic0 13), .inl (zbi (10) 14), .inl (zcallV 1 6 139 2 15 465), .inl (zopop 16), .inl (zvret)]
set_option maxRecDepth 100000 in
set_option maxHeartbeats 4000000 in
theorem S_55 : pAll (pSk RX11 cX11_readCarrying 1 none PC_55) 0 C_55 := zall (D := ZD_55) zgetf_RX11_ok zputi_RX11_ok zcallV_RX11_ok (by decide +kernel)
  trivial
def ZD_56 : List zE := [.inl (zald0 1), .inl (zgetf 11 1 2 21), .inl (zald0 3), .inl (zgetf 11 4 4 44), .inl (zgetf 0 10 5 276), .inl (zcallV 0 6 132 1 6 449), .inl (zic0 7), .inl (zist1 8), .inl (zild1 9), .inl (zald0 10), .inl (zgetf 11 4 11 44), .inl (zgetf 0 10 12 276), .inl (zicge 23 13), .inl (zald0 14), .inl (zgetf 11 1 15 21), .inl (zic0 16), .inl (zald0 17), .inl (zgetf 11 4 18 44), .inl (zgetf 0 9 19 319), .inl (zcallV 1 6 139 2 20 465), .inl (zopop 21), .inl (zinc 1 (1) 22), .inl (zgo 8), .inl (zald0 24), .inl (zgetf 11 1 25 21), .inl (zcallV 1 6 136 0 26 460), .inl (ziret)]
set_option maxRecDepth 100000 in
set_option maxHeartbeats 4000000 in
theorem S_56 : pAll (pSk RX11 cX11_aimFault 2 (some .int) PC_56) 0 C_56 := zall (D := ZD_56) zgetf_RX11_ok zputi_RX11_ok zcallV_RX11_ok (by decide +kernel)
  trivial
def ZD_57 : List zE := [.inl (zald0 1), .inl (zgetf 11 14 2 387), .inl (zifle 11 3), .inl (zald0 4), .inl (zgetf 11 14 5 387), .inl (zald0 6), .inl (zgetf 11 4 7 44), .inl (zgetf 0 10 8 276), .inl (zicne 11 9), .inl (zic1 10), .inl (zgo 12), .inl (zic0 12), .inr (s_zret)]
set_option maxRecDepth 100000 in
set_option maxHeartbeats 4000000 in
theorem S_57 : pAll (pSk RX11 cX11_hasAim 1 (some .boolean) PC_57) 0 C_57 := zall (D := ZD_57) zgetf_RX11_ok zputi_RX11_ok zcallV_RX11_ok (by decide +kernel)
  ⟨sn_zret (Or.inl rfl) (dX_ireturn (by decide +kernel)), trivial⟩
def ZD_58 : List zE := [.inl (zic0 1), .inl (zist1 2), .inl (zild1 3), .inl (zald0 4), .inl (zgetf 11 4 5 44), .inl (zgetf 0 10 6 276), .inl (zicge 21 7), .inl (zald0 8), .inl (zgetf 11 3 9 37), .inl (zald0 10), .inl (zgetf 11 7 11 61), .inl (zgetf 10 5 12 468), .inl (zald0 13), .inl (zgetf 11 4 14 44), .inl (zgetf 0 8 15 182), .inl (zild1 16), .inl (zoiald 17), .inr (s_callS 1 47 2 18), .inl (zcallV 0 4 128 1 19 230), .inl (zinc 1 (1) 20), .inl (zgo 2), .inl (zvret)]
set_option maxRecDepth 100000 in
set_option maxHeartbeats 4000000 in
theorem S_58 : pAll (pSk RX11 cX11_tellChosen 2 none PC_58) 0 C_58 := zall (D := ZD_58) zgetf_RX11_ok zputi_RX11_ok zcallV_RX11_ok (by decide +kernel)
  ⟨sn_callS (idx := 257) cal_47 (pmt4 24 rfl (by decide +kernel)) (pmt4 25 rfl (by decide +kernel)) (dX_invokestatic (by decide +kernel)) (by decide +kernel), trivial⟩
def ZD_59 : List zE := [.inl (zald0 1), .inl (zgetf 11 7 2 61), .inl (zald0 3), .inl (zgetf 11 4 4 44), .inl (zald0 5), .inl (zgetf 11 4 6 44), .inl (zcallV 1 0 69 0 7 304), .inl (zcallV 0 10 160 2 8 307), .inl (zald0 9), .inl (zgetf 11 7 10 61), .inl (zild1 11), .inl (zild2 12), .inl (zcallV 0 10 161 2 13 343), .inl (zic0 14), .inl (zist3 15), .inl (zild3 16), .inl (zald0 17), .inl (zgetf 11 4 18 44), .inl (zgetf 0 10 19 276), .inl (zicge 57 20), .inl (zic0 21), .inl (zist 4 22), .inl (zild 4 23), .inl (zald0 24), .inl (zgetf 11 4 25 44), .inl (zgetf 0 9 26 319), .inl (zicge 55 27), .inl (zald0 28), .inl (zgetf 11 4 29 44), .inl (zild3 30), .inl (zald0 31), .inl (zgetf 11 4 32 44), .inl (zgetf 0 5 33 150), .inl (zild3 34), .inl (zoiald 35), .inl (zild 4 36), .inl (zcallV 1 0 82 3 37 445), .inl (zist 5 38), .inl (zald0 39), .inl (zgetf 11 7 40 61), .inl (zald0 41), .inl (zgetf 11 4 42 44), .inl (zgetf 0 8 43 182), .inl (zild3 44), .inl (zoiald 45), .inl (zild 4 46), .inl (zild 5 47), .inl (zifge 50 48), .inr (s_push (.inl (-1000000)) 49), .inl (zgo 52), .inl (zild 5 51), .inr (s_un (fun x => -x) 52), .inl (zcallV 0 10 162 3 53 322), .inl (zinc 4 (1) 54), .inl (zgo 22), .inl (zinc 3 (1) 56), .inl (zgo 15), .inl (zald0 58), .inl (zgetf 11 7 59 61), .inl (zcallV 1 10 167 0 60 310), .inl (zifeq 66 61), .inl (zald0 62), .inl (zgetf 11 7 63 61), .inl (zgetf 10 10 64 325), .inr (s_push (.inl (-1000000)) 65), .inl (zicgt 68 66), .inl (zbi (-2) 67), .inl (ziret), .inl (zald0 69), .inl (zgetf 11 3 70 37), .inl (zcallV 0 4 127 0 71 227), .inl (zald0 72), .inl (zcallV 0 11 58 0 73 316), .inl (zald0 74), .inl (zgetf 11 7 75 61), .inl (zgetf 10 10 76 325), .inr (s_un (fun x => -x) 77), .inl (ziret)]
set_option maxRecDepth 100000 in
set_option maxHeartbeats 4000000 in
theorem S_59 : pAll (pSk RX11 cX11_nearest 6 (some .int) PC_59) 0 C_59 := zall (D := ZD_59) zgetf_RX11_ok zputi_RX11_ok zcallV_RX11_ok (by decide +kernel)
  ⟨sn_ldcw (idx := 471) (dX_ldc_w (by decide +kernel)) (pmt5 28 rfl (by decide +kernel)) (by decide +kernel),
   sn_ineg (dX_ineg (by decide +kernel)) (by decide +kernel),
   sn_ldcw (idx := 471) (dX_ldc_w (by decide +kernel)) (pmt5 28 rfl (by decide +kernel)) (by decide +kernel),
   sn_ineg (dX_ineg (by decide +kernel)) (by decide +kernel), trivial⟩
def ZD_60 : List zE := [.inl (zald0 1), .inl (zgetf 11 7 2 61), .inl (zald0 3), .inl (zgetf 11 4 4 44), .inl (zald0 5), .inl (zgetf 11 4 6 44), .inl (zcallV 1 0 69 0 7 304), .inl (zcallV 0 10 160 2 8 307), .inl (zald0 9), .inl (zgetf 11 7 10 61), .inl (zild1 11), .inl (zild2 12), .inr (s_un (fun x => -x) 13), .inl (zcallV 0 10 161 2 14 343), .inl (zic0 15), .inl (zist 4 16), .inl (zild 4 17), .inl (zald0 18), .inl (zgetf 11 4 19 44), .inl (zgetf 0 12 20 270), .inl (zicge 34 21), .inl (zald0 22), .inl (zgetf 11 7 23 61), .inl (zild 4 24), .inl (zild1 25), .inl (zild3 26), .inl (zald0 27), .inl (zgetf 11 4 28 44), .inl (zild 4 29), .inl (zcallV 1 0 101 1 30 279), .inl (zomul 31), .inl (zcallV 0 10 162 3 32 322), .inl (zinc 4 (1) 33), .inl (zgo 16), .inl (zald0 35), .inl (zgetf 11 7 36 61), .inl (zcallV 1 10 167 0 37 310), .inr (s_zret)]
set_option maxRecDepth 100000 in
set_option maxHeartbeats 4000000 in
theorem S_60 : pAll (pSk RX11 cX11_chooseByBulk 5 (some .boolean) PC_60) 0 C_60 := zall (D := ZD_60) zgetf_RX11_ok zputi_RX11_ok zcallV_RX11_ok (by decide +kernel)
  ⟨sn_ineg (dX_ineg (by decide +kernel)) (by decide +kernel),
   sn_zret (Or.inl rfl) (dX_ireturn (by decide +kernel)), trivial⟩
def ZD_61 : List zE := [.inl (zald0 1), .inl (zcallV 1 11 57 0 2 390), .inl (zifne 5 3), .inl (zbi (-4) 4), .inl (ziret), .inl (zald0 6), .inl (zgetf 11 4 7 44), .inl (zald0 8), .inl (zgetf 11 12 9 93), .inl (zcallV 1 0 85 1 10 472), .inl (zifeq 20 11), .inl (zald0 12), .inl (zgetf 11 3 13 37), .inl (zcallV 0 4 127 0 14 227), .inl (zald0 15), .inl (zgetf 11 3 16 37), .inl (zic0 17), .inl (zcallV 0 4 128 1 18 230), .inl (zic0 19), .inl (ziret), .inl (zald0 21), .inl (zgetf 11 4 22 44), .inl (zcallV 1 0 92 0 23 300), .inl (zifne 32 24), .inl (zald0 25), .inl (zgetf 11 11 26 89), .inl (zald0 27), .inl (zgetf 11 4 28 44), .inl (zald0 29), .inl (zgetf 11 7 30 61), .inl (zcallV 1 2 112 2 31 475), .inl (zifne 34 32), .inl (zbi (-3) 33), .inl (ziret), .inl (zald0 35), .inl (zgetf 11 11 36 89), .inl (zald0 37), .inl (zgetf 11 4 38 44), .inl (zald0 39), .inl (zgetf 11 12 40 93), .inl (zcallV 1 2 113 2 41 479), .inl (zifeq 44 42), .inl (zic1 43), .inl (zgo 45), .inl (zbi (-2) 45), .inl (ziret)]
set_option maxRecDepth 100000 in
set_option maxHeartbeats 4000000 in
theorem S_61 : pAll (pSk RX11 cX11_readyJourney 1 (some .int) PC_61) 0 C_61 := zall (D := ZD_61) zgetf_RX11_ok zputi_RX11_ok zcallV_RX11_ok (by decide +kernel)
  trivial
def ZD_62 : List zE := [.inl (zald1 1), .inl (zgetf 0 0 2 9), .inl (zald0 3), .inl (zgetf 0 0 4 9), .inr (s_callS 0 48 2 5), .inl (zald1 6), .inl (zgetf 0 1 7 15), .inl (zald0 8), .inl (zgetf 0 1 9 15), .inr (s_callS 0 48 2 10), .inl (zald1 11), .inl (zgetf 0 2 12 18), .inl (zald0 13), .inl (zgetf 0 2 14 18), .inr (s_callS 0 48 2 15), .inl (zald1 16), .inl (zgetf 0 3 17 21), .inl (zald0 18), .inl (zgetf 0 3 19 21), .inr (s_callS 0 48 2 20), .inl (zald1 21), .inl (zgetf 0 4 22 24), .inl (zald0 23), .inl (zgetf 0 4 24 24), .inr (s_callS 0 48 2 25), .inl (zald1 26), .inl (zgetf 0 5 27 27), .inl (zald0 28), .inl (zgetf 0 5 29 27), .inr (s_callS 0 48 2 30), .inl (zald1 31), .inl (zgetf 0 6 32 30), .inl (zald0 33), .inl (zgetf 0 6 34 30), .inr (s_callS 0 48 2 35), .inl (zald1 36), .inl (zgetf 0 7 37 33), .inl (zald0 38), .inl (zgetf 0 7 39 33), .inr (s_callS 0 48 2 40), .inl (zald1 41), .inl (zgetf 0 8 42 36), .inl (zald0 43), .inl (zgetf 0 8 44 36), .inr (s_callS 0 48 2 45), .inl (zald0 46), .inl (zald1 47), .inl (zgetf 0 9 48 43), .inl (zputi 0 9 49 43), .inl (zald0 50), .inl (zald1 51), .inl (zgetf 0 10 52 47), .inl (zputi 0 10 53 47), .inl (zald0 54), .inl (zald1 55), .inl (zgetf 0 11 56 50), .inl (zputi 0 11 57 50), .inl (zald0 58), .inl (zald1 59), .inl (zgetf 0 12 60 53), .inl (zputi 0 12 61 53), .inl (zvret)]
set_option maxRecDepth 100000 in
set_option maxHeartbeats 4000000 in
theorem S_62 : pAll (pSk RX0 cX0_become 2 none PC_62) 0 C_62 := zall (D := ZD_62) zgetf_RX0_ok zputi_RX0_ok zcallV_RX0_ok (by decide +kernel)
  ⟨sn_callSN (idx := 39) (host := "SetsStayTogether") cal_48 (pnest_of 39) (pmt2 200 rfl (by decide +kernel)) (dX_invokestatic (by decide +kernel)) (by decide +kernel),
   sn_callSN (idx := 39) (host := "SetsStayTogether") cal_48 (pnest_of 39) (pmt2 200 rfl (by decide +kernel)) (dX_invokestatic (by decide +kernel)) (by decide +kernel),
   sn_callSN (idx := 39) (host := "SetsStayTogether") cal_48 (pnest_of 39) (pmt2 200 rfl (by decide +kernel)) (dX_invokestatic (by decide +kernel)) (by decide +kernel),
   sn_callSN (idx := 39) (host := "SetsStayTogether") cal_48 (pnest_of 39) (pmt2 200 rfl (by decide +kernel)) (dX_invokestatic (by decide +kernel)) (by decide +kernel),
   sn_callSN (idx := 39) (host := "SetsStayTogether") cal_48 (pnest_of 39) (pmt2 200 rfl (by decide +kernel)) (dX_invokestatic (by decide +kernel)) (by decide +kernel),
   sn_callSN (idx := 39) (host := "SetsStayTogether") cal_48 (pnest_of 39) (pmt2 200 rfl (by decide +kernel)) (dX_invokestatic (by decide +kernel)) (by decide +kernel),
   sn_callSN (idx := 39) (host := "SetsStayTogether") cal_48 (pnest_of 39) (pmt2 200 rfl (by decide +kernel)) (dX_invokestatic (by decide +kernel)) (by decide +kernel),
   sn_callSN (idx := 39) (host := "SetsStayTogether") cal_48 (pnest_of 39) (pmt2 200 rfl (by decide +kernel)) (dX_invokestatic (by decide +kernel)) (by decide +kernel),
   sn_callSN (idx := 39) (host := "SetsStayTogether") cal_48 (pnest_of 39) (pmt2 200 rfl (by decide +kernel)) (dX_invokestatic (by decide +kernel)) (by decide +kernel), trivial⟩
def ZD_63 : List zE := [.inl (zild1 1), .inl (ziflt 8 2), .inl (zild1 3), .inl (zald0 4), .inl (zgetf 0 9 5 43), .inl (zicge 8 6), .inl (zic1 7), .inl (zgo 9), .inl (zic0 9), .inr (s_zret)]
set_option maxRecDepth 100000 in
set_option maxHeartbeats 4000000 in
theorem S_63 : pAll (pSk RX0 cX0_isRoom 2 (some .boolean) PC_63) 0 C_63 := zall (D := ZD_63) zgetf_RX0_ok zputi_RX0_ok zcallV_RX0_ok (by decide +kernel)
  ⟨sn_zret (Or.inl rfl) (dX_ireturn (by decide +kernel)), trivial⟩
def ZD_64 : List zE := [.inl (zild1 1), .inl (ziflt 8 2), .inl (zild1 3), .inl (zald0 4), .inl (zgetf 0 10 5 47), .inl (zicge 8 6), .inl (zic1 7), .inl (zgo 9), .inl (zic0 9), .inr (s_zret)]
set_option maxRecDepth 100000 in
set_option maxHeartbeats 4000000 in
theorem S_64 : pAll (pSk RX0 cX0_isThing 2 (some .boolean) PC_64) 0 C_64 := zall (D := ZD_64) zgetf_RX0_ok zputi_RX0_ok zcallV_RX0_ok (by decide +kernel)
  ⟨sn_zret (Or.inl rfl) (dX_ireturn (by decide +kernel)), trivial⟩
def ZD_65 : List zE := [.inl (zald0 1), .inl (zild1 2), .inl (zcallV 1 0 63 1 3 56), .inl (zifeq 13 4), .inl (zald0 5), .inl (zild2 6), .inl (zcallV 1 0 63 1 7 56), .inl (zifeq 13 8), .inl (zild1 9), .inl (zild2 10), .inl (ziceq 13 11), .inl (zic1 12), .inl (zgo 14), .inl (zic0 14), .inr (s_zret)]
set_option maxRecDepth 100000 in
set_option maxHeartbeats 4000000 in
theorem S_65 : pAll (pSk RX0 cX0_areUnlikeRooms 3 (some .boolean) PC_65) 0 C_65 := zall (D := ZD_65) zgetf_RX0_ok zputi_RX0_ok zcallV_RX0_ok (by decide +kernel)
  ⟨sn_zret (Or.inl rfl) (dX_ireturn (by decide +kernel)), trivial⟩
def ZD_66 : List zE := [.inl (zic1 1), .inl (zald0 2), .inl (zgetf 0 9 3 43), .inl (zoshl 4), .inl (zic1 5), .inl (zosub 6), .inl (ziret)]
set_option maxRecDepth 100000 in
set_option maxHeartbeats 4000000 in
theorem S_66 : pAll (pSk RX0 cX0_allRooms 1 (some .int) PC_66) 0 C_66 := zall (D := ZD_66) zgetf_RX0_ok zputi_RX0_ok zcallV_RX0_ok (by decide +kernel)
  trivial
def ZD_67 : List zE := [.inl (zic1 1), .inl (zald0 2), .inl (zgetf 0 10 3 47), .inl (zoshl 4), .inl (zic1 5), .inl (zosub 6), .inl (ziret)]
set_option maxRecDepth 100000 in
set_option maxHeartbeats 4000000 in
theorem S_67 : pAll (pSk RX0 cX0_allThings 1 (some .int) PC_67) 0 C_67 := zall (D := ZD_67) zgetf_RX0_ok zputi_RX0_ok zcallV_RX0_ok (by decide +kernel)
  trivial
def ZD_68 : List zE := [.inl (zic1 1), .inl (zald0 2), .inl (zgetf 0 11 3 50), .inl (zoshl 4), .inl (zic1 5), .inl (zosub 6), .inl (ziret)]
set_option maxRecDepth 100000 in
set_option maxHeartbeats 4000000 in
theorem S_68 : pAll (pSk RX0 cX0_allSets 1 (some .int) PC_68) 0 C_68 := zall (D := ZD_68) zgetf_RX0_ok zputi_RX0_ok zcallV_RX0_ok (by decide +kernel)
  trivial
def ZD_69 : List zE := [.inl (zic1 1), .inl (zald0 2), .inl (zgetf 0 12 3 53), .inl (zoshl 4), .inl (zic1 5), .inl (zosub 6), .inl (ziret)]
set_option maxRecDepth 100000 in
set_option maxHeartbeats 4000000 in
theorem S_69 : pAll (pSk RX0 cX0_allClumps 1 (some .int) PC_69) 0 C_69 := zall (D := ZD_69) zgetf_RX0_ok zputi_RX0_ok zcallV_RX0_ok (by decide +kernel)
  trivial
def ZD_70 : List zE := [.inl (zald0 1), .inl (zgetf 0 9 2 43), .inl (ziflt 19 3), .inl (zald0 4), .inl (zgetf 0 9 5 43), .inl (zbi (6) 6), .inl (zicge 19 7), .inl (zald0 8), .inl (zgetf 0 0 9 9), .inl (zald0 10), .inl (zgetf 0 9 11 43), .inl (zild1 12), .inl (zoiast 13), .inl (zald0 14), .inl (zodup 15), .inl (zgetf 0 9 16 43), .inl (zic1 17), .inl (zoadd 18), .inl (zputi 0 9 19 43), .inl (zvret)]
set_option maxRecDepth 100000 in
set_option maxHeartbeats 4000000 in
theorem S_70 : pAll (pSk RX0 cX0_addRoom 2 none PC_70) 0 C_70 := zall (D := ZD_70) zgetf_RX0_ok zputi_RX0_ok zcallV_RX0_ok (by decide +kernel)
  trivial
def ZD_71 : List zE := [.inl (zald0 1), .inl (zgetf 0 10 2 47), .inl (ziflt 37 3), .inl (zald0 4), .inl (zgetf 0 10 5 47), .inl (zbi (10) 6), .inl (zicge 37 7), .inl (zald0 8), .inl (zgetf 0 2 9 18), .inl (zald0 10), .inl (zgetf 0 10 11 47), .inl (zild1 12), .inl (zoiast 13), .inl (zald0 14), .inl (zgetf 0 3 15 21), .inl (zald0 16), .inl (zgetf 0 10 17 47), .inl (zild2 18), .inl (zoiast 19), .inl (zald0 20), .inl (zgetf 0 4 21 24), .inl (zald0 22), .inl (zgetf 0 10 23 47), .inl (zild3 24), .inl (zoiast 25), .inl (zald0 26), .inl (zgetf 0 5 27 27), .inl (zald0 28), .inl (zgetf 0 10 29 47), .inl (zild 4 30), .inl (zoiast 31), .inl (zald0 32), .inl (zodup 33), .inl (zgetf 0 10 34 47), .inl (zic1 35), .inl (zoadd 36), .inl (zputi 0 10 37 47), .inl (zvret)]
set_option maxRecDepth 100000 in
set_option maxHeartbeats 4000000 in
theorem S_71 : pAll (pSk RX0 cX0_addThing 5 none PC_71) 0 C_71 := zall (D := ZD_71) zgetf_RX0_ok zputi_RX0_ok zcallV_RX0_ok (by decide +kernel)
  trivial
def ZD_72 : List zE := [.inl (zald0 1), .inl (zgetf 0 11 2 50), .inl (ziflt 19 3), .inl (zald0 4), .inl (zgetf 0 11 5 50), .inl (zbi (8) 6), .inl (zicge 19 7), .inl (zald0 8), .inl (zgetf 0 6 9 30), .inl (zald0 10), .inl (zgetf 0 11 11 50), .inl (zild1 12), .inl (zoiast 13), .inl (zald0 14), .inl (zodup 15), .inl (zgetf 0 11 16 50), .inl (zic1 17), .inl (zoadd 18), .inl (zputi 0 11 19 50), .inl (zvret)]
set_option maxRecDepth 100000 in
set_option maxHeartbeats 4000000 in
theorem S_72 : pAll (pSk RX0 cX0_addSet 2 none PC_72) 0 C_72 := zall (D := ZD_72) zgetf_RX0_ok zputi_RX0_ok zcallV_RX0_ok (by decide +kernel)
  trivial
def ZD_73 : List zE := [.inl (zald0 1), .inl (zild1 2), .inl (zild2 3), .inl (zcallV 1 0 65 2 4 60), .inl (zifeq 23 5), .inl (zald0 6), .inl (zgetf 0 1 7 15), .inl (zild1 8), .inl (zbi (6) 9), .inl (zomul 10), .inl (zild2 11), .inl (zoadd 12), .inl (zild3 13), .inl (zoiast 14), .inl (zald0 15), .inl (zgetf 0 1 16 15), .inl (zild2 17), .inl (zbi (6) 18), .inl (zomul 19), .inl (zild1 20), .inl (zoadd 21), .inl (zild3 22), .inl (zoiast 23), .inl (zvret)]
set_option maxRecDepth 100000 in
set_option maxHeartbeats 4000000 in
theorem S_73 : pAll (pSk RX0 cX0_makeDoor 4 none PC_73) 0 C_73 := zall (D := ZD_73) zgetf_RX0_ok zputi_RX0_ok zcallV_RX0_ok (by decide +kernel)
  trivial
def ZD_74 : List zE := [.inl (zald0 1), .inl (zild1 2), .inl (zild2 3), .inl (zcallV 1 0 65 2 4 60), .inl (zifeq 14 5), .inl (zald0 6), .inl (zgetf 0 1 7 15), .inl (zild1 8), .inl (zbi (6) 9), .inl (zomul 10), .inl (zild2 11), .inl (zoadd 12), .inl (zoiald 13), .inl (zgo 15), .inl (zic0 15), .inl (ziret)]
set_option maxRecDepth 100000 in
set_option maxHeartbeats 4000000 in
theorem S_74 : pAll (pSk RX0 cX0_doorWidth 3 (some .int) PC_74) 0 C_74 := zall (D := ZD_74) zgetf_RX0_ok zputi_RX0_ok zcallV_RX0_ok (by decide +kernel)
  trivial
def ZD_75 : List zE := [.inl (zic0 1), .inl (zist1 2), .inl (zic0 3), .inl (zist2 4), .inl (zild2 5), .inl (zald0 6), .inl (zgetf 0 9 7 43), .inl (zicge 18 8), .inl (zild1 9), .inl (zald0 10), .inl (zild2 11), .inl (zic1 12), .inl (zcallV 1 0 77 2 13 64), .inr (s_callS 1 270 1 14), .inl (zoadd 15), .inl (zist1 16), .inl (zinc 2 (1) 17), .inl (zgo 4), .inl (zild1 19), .inl (zic2 20), .inr (s_div jdiv 21), .inl (ziret)]
set_option maxRecDepth 100000 in
set_option maxHeartbeats 4000000 in
theorem S_75 : pAll (pSk RX0 cX0_doors 3 (some .int) PC_75) 0 C_75 := zall (D := ZD_75) zgetf_RX0_ok zputi_RX0_ok zcallV_RX0_ok (by decide +kernel)
  ⟨sn_callS (idx := 68) cal_270 (pmt5 94 rfl (by decide +kernel)) (pmt4 236 rfl (by decide +kernel)) (dX_invokestatic (by decide +kernel)) (by decide +kernel),
   sn_idiv (dX_idiv (by decide +kernel)) (by decide +kernel), trivial⟩
def ZD_76 : List zE := [.inl (zic0 1), .inl (zist 5 2), .inl (zic0 3), .inl (zist 6 4), .inl (zild 6 5), .inl (zald0 6), .inl (zgetf 0 10 7 47), .inl (zicge 50 8), .inl (zild 6 9), .inl (zild2 10), .inl (zicge 17 11), .inl (zild3 12), .inl (zild 6 13), .inl (zild 4 14), .inl (zomul 15), .inl (zoadd 16), .inl (zgo 18), .inl (zic1 18), .inl (zist 7 19), .inl (zild1 20), .inl (zifne 24 21), .inl (zild 7 22), .inr (s_un jb 23), .inl (zgo 31), .inl (zild1 25), .inl (zic1 26), .inl (zicne 30 27), .inl (zild 7 28), .inr (s_un js 29), .inl (zgo 31), .inl (zild 7 31), .inl (zist 8 32), .inl (zald0 33), .inl (zgetf 0 4 34 24), .inl (zild 6 35), .inl (zic1 36), .inl (zbi (9) 37), .inl (zild 8 38), .inr (s_mm jmin 39), .inr (s_mm jmax 40), .inl (zoiast 41), .inl (zild 5 42), .inl (zald0 43), .inl (zgetf 0 4 44 24), .inl (zild 6 45), .inl (zoiald 46), .inl (zoadd 47), .inl (zist 5 48), .inl (zinc 6 (1) 49), .inl (zgo 4), .inl (zild 5 51), .inl (ziret)]
set_option maxRecDepth 100000 in
set_option maxHeartbeats 4000000 in
theorem S_76 : pAll (pSk RX0 cX0_weigh 9 (some .int) PC_76) 0 C_76 := zall (D := ZD_76) zgetf_RX0_ok zputi_RX0_ok zcallV_RX0_ok (by decide +kernel)
  ⟨sn_i2b (dX_i2b (by decide +kernel)) (by decide +kernel),
   sn_i2s (dX_i2s (by decide +kernel)) (by decide +kernel),
   sn_mmin (idx := 74) (pmt4 9 rfl (by decide +kernel)) (pmt2 211 rfl (by decide +kernel)) (pmt1 14 rfl (by decide +kernel)) (pmt2 212 rfl (by decide +kernel)) (dX_invokestatic (by decide +kernel)) (by decide +kernel),
   sn_mmax (idx := 79) (pmt4 10 rfl (by decide +kernel)) (pmt3 154 rfl (by decide +kernel)) (pmt1 14 rfl (by decide +kernel)) (pmt3 155 rfl (by decide +kernel)) (dX_invokestatic (by decide +kernel)) (by decide +kernel), trivial⟩
def ZD_77 : List zE := [.inl (zic0 1), .inl (zist3 2), .inl (zic0 3), .inl (zist 4 4), .inl (zild 4 5), .inl (zald0 6), .inl (zgetf 0 9 7 43), .inl (zicge 22 8), .inl (zald0 9), .inl (zild1 10), .inl (zild 4 11), .inl (zcallV 1 0 74 2 12 82), .inl (zild2 13), .inl (ziclt 20 14), .inl (zild3 15), .inl (zic1 16), .inl (zild 4 17), .inl (zoshl 18), .inl (zoor 19), .inl (zist3 20), .inl (zinc 4 (1) 21), .inl (zgo 4), .inl (zild3 23), .inl (ziret)]
set_option maxRecDepth 100000 in
set_option maxHeartbeats 4000000 in
theorem S_77 : pAll (pSk RX0 cX0_nextTo 5 (some .int) PC_77) 0 C_77 := zall (D := ZD_77) zgetf_RX0_ok zputi_RX0_ok zcallV_RX0_ok (by decide +kernel)
  trivial
def ZD_78 : List zE := [.inl (zild1 1), .inl (zist3 2), .inl (zic0 3), .inl (zist 4 4), .inl (zild 4 5), .inl (zald0 6), .inl (zgetf 0 1 7 15), .inr (s_len 8), .inl (zicge 31 9), .inl (zild1 10), .inl (zild 4 11), .inl (zbi (6) 12), .inr (s_div jdiv 13), .inr (s_callS 1 49 2 14), .inl (zifeq 29 15), .inl (zald0 16), .inl (zgetf 0 1 17 15), .inl (zild 4 18), .inl (zoiald 19), .inl (zild2 20), .inl (ziclt 29 21), .inl (zild3 22), .inl (zic1 23), .inl (zild 4 24), .inl (zbi (6) 25), .inr (s_div jrem 26), .inl (zoshl 27), .inl (zoor 28), .inl (zist3 29), .inl (zinc 4 (1) 30), .inl (zgo 4), .inl (zild3 32), .inl (ziret)]
set_option maxRecDepth 100000 in
set_option maxHeartbeats 4000000 in
theorem S_78 : pAll (pSk RX0 cX0_oneStepFrom 5 (some .int) PC_78) 0 C_78 := zall (D := ZD_78) zgetf_RX0_ok zputi_RX0_ok zcallV_RX0_ok (by decide +kernel)
  ⟨sn_alen (dX_arraylength (by decide +kernel)) (by decide +kernel),
   sn_idiv (dX_idiv (by decide +kernel)) (by decide +kernel),
   sn_callSN (idx := 85) (host := "SetsStayTogether") cal_49 (pnest_of 85) (pmt3 66 rfl (by decide +kernel)) (dX_invokestatic (by decide +kernel)) (by decide +kernel),
   sn_irem (dX_irem (by decide +kernel)) (by decide +kernel), trivial⟩
def ZD_79 : List zE := [.inl (zald0 1), .inl (zild2 2), .inl (zcallV 1 0 63 1 3 56), .inl (zifeq 8 4), .inl (zic1 5), .inl (zild2 6), .inl (zoshl 7), .inl (zgo 9), .inl (zic0 9), .inl (zist3 10), .inl (zic1 11), .inl (zist 4 12), .inl (zild 4 13), .inl (zald0 14), .inl (zgetf 0 9 15 43), .inl (zicge 23 16), .inl (zald0 17), .inl (zild3 18), .inl (zild1 19), .inl (zcallV 1 0 78 2 20 88), .inl (zist3 21), .inl (zinc 4 (1) 22), .inl (zgo 12), .inl (zild3 24), .inl (ziret)]
set_option maxRecDepth 100000 in
set_option maxHeartbeats 4000000 in
theorem S_79 : pAll (pSk RX0 cX0_roomsFrom 5 (some .int) PC_79) 0 C_79 := zall (D := ZD_79) zgetf_RX0_ok zputi_RX0_ok zcallV_RX0_ok (by decide +kernel)
  trivial
def ZD_80 : List zE := [.inl (zald0 1), .inl (zild2 2), .inl (zcallV 1 0 63 1 3 56), .inl (zifeq 8 4), .inl (zald0 5), .inl (zild3 6), .inl (zcallV 1 0 63 1 7 56), .inl (zifne 10 8), .inl (zicm1 9), .inl (ziret), .inl (zic1 11), .inl (zild2 12), .inl (zoshl 13), .inl (zist 4 14), .inl (zic0 15), .inl (zist 5 16), .inl (zild 5 17), .inl (zald0 18), .inl (zgetf 0 9 19 43), .inl (zicge 33 20), .inl (zild 4 21), .inl (zild3 22), .inr (s_callS 1 49 2 23), .inl (zifeq 26 24), .inl (zild 5 25), .inl (ziret), .inl (zald0 27), .inl (zild 4 28), .inl (zild1 29), .inl (zcallV 1 0 78 2 30 88), .inl (zist 4 31), .inl (zinc 5 (1) 32), .inl (zgo 16), .inl (zicm1 34), .inl (ziret)]
set_option maxRecDepth 100000 in
set_option maxHeartbeats 4000000 in
theorem S_80 : pAll (pSk RX0 cX0_steps 6 (some .int) PC_80) 0 C_80 := zall (D := ZD_80) zgetf_RX0_ok zputi_RX0_ok zcallV_RX0_ok (by decide +kernel)
  ⟨sn_callSN (idx := 85) (host := "SetsStayTogether") cal_49 (pnest_of 85) (pmt3 66 rfl (by decide +kernel)) (dX_invokestatic (by decide +kernel)) (by decide +kernel), trivial⟩
def ZD_81 : List zE := [.inl (zic0 1), .inl (zist 5 2), .inl (zild 5 3), .inl (zald0 4), .inl (zgetf 0 9 5 43), .inl (zicge 23 6), .inl (zald0 7), .inl (zild2 8), .inl (zild 5 9), .inl (zcallV 1 0 74 2 10 82), .inl (zild1 11), .inl (ziclt 21 12), .inl (zald0 13), .inl (zild1 14), .inl (zild 5 15), .inl (zild3 16), .inl (zcallV 1 0 80 3 17 91), .inl (zild 4 18), .inl (zicne 21 19), .inl (zild 5 20), .inl (ziret), .inl (zinc 5 (1) 22), .inl (zgo 2), .inl (zicm1 24), .inl (ziret)]
set_option maxRecDepth 100000 in
set_option maxHeartbeats 4000000 in
theorem S_81 : pAll (pSk RX0 cX0_firstNearer 6 (some .int) PC_81) 0 C_81 := zall (D := ZD_81) zgetf_RX0_ok zputi_RX0_ok zcallV_RX0_ok (by decide +kernel)
  trivial
def ZD_82 : List zE := [.inl (zald0 1), .inl (zild1 2), .inl (zcallV 1 0 64 1 3 95), .inl (zifne 6 4), .inl (zicm1 5), .inl (ziret), .inl (zald0 7), .inl (zald0 8), .inl (zgetf 0 3 9 21), .inl (zild1 10), .inl (zoiald 11), .inl (zild2 12), .inl (zild3 13), .inl (zcallV 1 0 80 3 14 91), .inl (zist 4 15), .inl (zild 4 16), .inl (zifge 19 17), .inl (zicm1 18), .inl (zgo 25), .inl (zild 4 20), .inl (zald0 21), .inl (zgetf 0 4 22 24), .inl (zild1 23), .inl (zoiald 24), .inl (zomul 25), .inl (ziret)]
set_option maxRecDepth 100000 in
set_option maxHeartbeats 4000000 in
theorem S_82 : pAll (pSk RX0 cX0_cost 5 (some .int) PC_82) 0 C_82 := zall (D := ZD_82) zgetf_RX0_ok zputi_RX0_ok zcallV_RX0_ok (by decide +kernel)
  trivial
def ZD_83 : List zE := [.inl (zic0 1), .inl (zist2 2), .inl (zic0 3), .inl (zist3 4), .inl (zild3 5), .inl (zald0 6), .inl (zgetf 0 10 7 47), .inl (zicge 29 8), .inl (zald0 9), .inl (zild3 10), .inl (zald0 11), .inl (zgetf 0 5 12 27), .inl (zild3 13), .inl (zoiald 14), .inl (zald1 15), .inl (zild3 16), .inr (s_callS 1 47 2 17), .inl (zcallV 1 0 82 3 18 102), .inl (zist 4 19), .inl (zild 4 20), .inl (zifge 23 21), .inl (zicm1 22), .inl (ziret), .inl (zild2 24), .inl (zild 4 25), .inl (zoadd 26), .inl (zist2 27), .inl (zinc 3 (1) 28), .inl (zgo 4), .inl (zild2 30), .inl (ziret)]
set_option maxRecDepth 100000 in
set_option maxHeartbeats 4000000 in
theorem S_83 : pAll (pSk RX0 cX0_carriedTo 5 (some .int) PC_83) 0 C_83 := zall (D := ZD_83) zgetf_RX0_ok zputi_RX0_ok zcallV_RX0_ok (by decide +kernel)
  ⟨sn_callSN (idx := 98) (host := "SetsStayTogether") cal_47 (pnest_of 98) (pmt4 25 rfl (by decide +kernel)) (dX_invokestatic (by decide +kernel)) (by decide +kernel), trivial⟩
def ZD_84 : List zE := [.inl (zald0 1), .inl (zild1 2), .inl (zild2 3), .inl (zcallV 1 0 74 2 4 82), .inl (zist 4 5), .inl (zald0 6), .inl (zild1 7), .inl (zild2 8), .inl (zbi (9) 9), .inl (zcallV 0 0 73 3 10 105), .inl (zic0 11), .inl (zist 5 12), .inl (zic0 13), .inl (zist 6 14), .inl (zild 6 15), .inl (zald0 16), .inl (zgetf 0 10 17 47), .inl (zicge 38 18), .inl (zild 5 19), .inl (zald0 20), .inl (zald0 21), .inl (zgetf 0 3 22 21), .inl (zild 6 23), .inl (zoiald 24), .inl (zald0 25), .inl (zgetf 0 5 26 27), .inl (zild 6 27), .inl (zoiald 28), .inl (zild3 29), .inl (zcallV 1 0 80 3 30 91), .inl (ziflt 33 31), .inl (zic1 32), .inl (zgo 34), .inl (zic0 34), .inl (zoadd 35), .inl (zist 5 36), .inl (zinc 6 (1) 37), .inl (zgo 14), .inl (zald0 39), .inl (zild1 40), .inl (zild2 41), .inl (zild 4 42), .inl (zcallV 0 0 73 3 43 105), .inl (zild 5 44), .inl (ziret)]
set_option maxRecDepth 100000 in
set_option maxHeartbeats 4000000 in
theorem S_84 : pAll (pSk RX0 cX0_comersIfWide 7 (some .int) PC_84) 0 C_84 := zall (D := ZD_84) zgetf_RX0_ok zputi_RX0_ok zcallV_RX0_ok (by decide +kernel)
  trivial
def ZD_85 : List zE := [.inl (zic0 1), .inl (zist2 2), .inl (zild2 3), .inl (zald0 4), .inl (zgetf 0 10 5 47), .inl (zicge 18 6), .inl (zald0 7), .inl (zgetf 0 5 8 27), .inl (zild2 9), .inl (zoiald 10), .inl (zald1 11), .inl (zild2 12), .inr (s_callS 1 47 2 13), .inl (ziceq 16 14), .inl (zic0 15), .inr (s_zret), .inl (zinc 2 (1) 17), .inl (zgo 2), .inl (zic1 19), .inr (s_zret)]
set_option maxRecDepth 100000 in
set_option maxHeartbeats 4000000 in
theorem S_85 : pAll (pSk RX0 cX0_isNow 3 (some .boolean) PC_85) 0 C_85 := zall (D := ZD_85) zgetf_RX0_ok zputi_RX0_ok zcallV_RX0_ok (by decide +kernel)
  ⟨sn_callSN (idx := 98) (host := "SetsStayTogether") cal_47 (pnest_of 98) (pmt4 25 rfl (by decide +kernel)) (dX_invokestatic (by decide +kernel)) (by decide +kernel),
   sn_zret (Or.inl rfl) (dX_ireturn (by decide +kernel)),
   sn_zret (Or.inl rfl) (dX_ireturn (by decide +kernel)), trivial⟩
def ZD_86 : List zE := [.inl (zic0 1), .inl (zist3 2), .inl (zic0 3), .inl (zist 4 4), .inl (zild 4 5), .inl (zald0 6), .inl (zgetf 0 10 7 47), .inl (zicge 21 8), .inl (zald2 9), .inl (zild 4 10), .inr (s_callS 1 47 2 11), .inl (zild1 12), .inl (zicne 19 13), .inl (zild3 14), .inl (zic1 15), .inl (zild 4 16), .inl (zoshl 17), .inl (zoor 18), .inl (zist3 19), .inl (zinc 4 (1) 20), .inl (zgo 4), .inl (zild3 22), .inl (ziret)]
set_option maxRecDepth 100000 in
set_option maxHeartbeats 4000000 in
theorem S_86 : pAll (pSk RX0 cX0_thingsIn 5 (some .int) PC_86) 0 C_86 := zall (D := ZD_86) zgetf_RX0_ok zputi_RX0_ok zcallV_RX0_ok (by decide +kernel)
  ⟨sn_callSN (idx := 98) (host := "SetsStayTogether") cal_47 (pnest_of 98) (pmt4 25 rfl (by decide +kernel)) (dX_invokestatic (by decide +kernel)) (by decide +kernel), trivial⟩
def ZD_87 : List zE := [.inl (zald0 1), .inl (zald0 2), .inl (zild1 3), .inl (zald2 4), .inl (zcallV 1 0 86 2 5 109), .inl (zcallV 1 0 102 1 6 113), .inl (ziret)]
set_option maxRecDepth 100000 in
set_option maxHeartbeats 4000000 in
theorem S_87 : pAll (pSk RX0 cX0_load 3 (some .int) PC_87) 0 C_87 := zall (D := ZD_87) zgetf_RX0_ok zputi_RX0_ok zcallV_RX0_ok (by decide +kernel)
  trivial
def ZD_88 : List zE := [.inl (zic0 1), .inl (zist2 2), .inl (zic0 3), .inl (zist3 4), .inl (zild3 5), .inl (zald0 6), .inl (zgetf 0 9 7 43), .inl (zicge 25 8), .inl (zald0 9), .inl (zild3 10), .inl (zald1 11), .inl (zcallV 1 0 87 2 12 116), .inl (zald0 13), .inl (zgetf 0 0 14 9), .inl (zild3 15), .inl (zoiald 16), .inl (zicle 23 17), .inl (zild2 18), .inl (zic1 19), .inl (zild3 20), .inl (zoshl 21), .inl (zoor 22), .inl (zist2 23), .inl (zinc 3 (1) 24), .inl (zgo 4), .inl (zild2 26), .inl (ziret)]
set_option maxRecDepth 100000 in
set_option maxHeartbeats 4000000 in
theorem S_88 : pAll (pSk RX0 cX0_overfull 4 (some .int) PC_88) 0 C_88 := zall (D := ZD_88) zgetf_RX0_ok zputi_RX0_ok zcallV_RX0_ok (by decide +kernel)
  trivial
def ZD_89 : List zE := [.inl (zic0 1), .inl (zist2 2), .inl (zic0 3), .inl (zist3 4), .inl (zild3 5), .inl (zald0 6), .inl (zgetf 0 11 7 50), .inl (zicge 24 8), .inl (zald0 9), .inl (zald0 10), .inl (zgetf 0 6 11 30), .inl (zild3 12), .inl (zoiald 13), .inl (zald1 14), .inl (zcallV 1 0 90 2 15 119), .inl (zifne 22 16), .inl (zild2 17), .inl (zic1 18), .inl (zild3 19), .inl (zoshl 20), .inl (zoor 21), .inl (zist2 22), .inl (zinc 3 (1) 23), .inl (zgo 4), .inl (zild2 25), .inl (ziret)]
set_option maxRecDepth 100000 in
set_option maxHeartbeats 4000000 in
theorem S_89 : pAll (pSk RX0 cX0_parted 4 (some .int) PC_89) 0 C_89 := zall (D := ZD_89) zgetf_RX0_ok zputi_RX0_ok zcallV_RX0_ok (by decide +kernel)
  trivial
def ZD_90 : List zE := [.inl (zic0 1), .inl (zist3 2), .inl (zild3 3), .inl (zald0 4), .inl (zgetf 0 9 5 43), .inl (zicge 22 6), .inl (zald0 7), .inl (zild3 8), .inl (zald2 9), .inl (zcallV 1 0 86 2 10 109), .inl (zild1 11), .inl (zoand 12), .inl (zist 4 13), .inl (zild 4 14), .inl (zifeq 20 15), .inl (zild 4 16), .inl (zild1 17), .inl (ziceq 20 18), .inl (zic0 19), .inr (s_zret), .inl (zinc 3 (1) 21), .inl (zgo 2), .inl (zic1 23), .inr (s_zret)]
set_option maxRecDepth 100000 in
set_option maxHeartbeats 4000000 in
theorem S_90 : pAll (pSk RX0 cX0_areInOneRoom 5 (some .boolean) PC_90) 0 C_90 := zall (D := ZD_90) zgetf_RX0_ok zputi_RX0_ok zcallV_RX0_ok (by decide +kernel)
  ⟨sn_zret (Or.inl rfl) (dX_ireturn (by decide +kernel)),
   sn_zret (Or.inl rfl) (dX_ireturn (by decide +kernel)), trivial⟩
def ZD_91 : List zE := [.inl (zald0 1), .inl (zald1 2), .inl (zcallV 1 0 89 1 3 123), .inl (zald0 4), .inl (zald1 5), .inl (zcallV 1 0 88 1 6 127), .inl (zoor 7), .inl (zifne 10 8), .inl (zic1 9), .inl (zgo 11), .inl (zic0 11), .inr (s_zret)]
set_option maxRecDepth 100000 in
set_option maxHeartbeats 4000000 in
theorem S_91 : pAll (pSk RX0 cX0_lawful 2 (some .boolean) PC_91) 0 C_91 := zall (D := ZD_91) zgetf_RX0_ok zputi_RX0_ok zcallV_RX0_ok (by decide +kernel)
  ⟨sn_zret (Or.inl rfl) (dX_ireturn (by decide +kernel)), trivial⟩
def ZD_92 : List zE := [.inl (zic1 1), .inl (zist1 2), .inl (zic0 3), .inl (zist2 4), .inl (zild2 5), .inl (zald0 6), .inl (zgetf 0 12 7 53), .inl (zicge 18 8), .inl (zild1 9), .inl (zsi (20000) 10), .inl (zicgt 18 11), .inl (zild1 12), .inl (zald0 13), .inl (zgetf 0 9 14 43), .inl (zomul 15), .inl (zist1 16), .inl (zinc 2 (1) 17), .inl (zgo 4), .inl (zild1 19), .inl (zsi (20000) 20), .inl (zicle 23 21), .inl (zic1 22), .inl (zgo 24), .inl (zic0 24), .inr (s_zret)]
set_option maxRecDepth 100000 in
set_option maxHeartbeats 4000000 in
theorem S_92 : pAll (pSk RX0 cX0_tooMany 3 (some .boolean) PC_92) 0 C_92 := zall (D := ZD_92) zgetf_RX0_ok zputi_RX0_ok zcallV_RX0_ok (by decide +kernel)
  ⟨sn_zret (Or.inl rfl) (dX_ireturn (by decide +kernel)), trivial⟩
def ZD_93 : List zE := [.inl (zic0 1), .inl (zist2 2), .inl (zic0 3), .inl (zist3 4), .inl (zild3 5), .inl (zald0 6), .inl (zgetf 0 11 7 50), .inl (zicge 23 8), .inl (zald0 9), .inl (zgetf 0 6 10 30), .inl (zild3 11), .inl (zoiald 12), .inl (zild1 13), .inr (s_callS 1 49 2 14), .inl (zifeq 21 15), .inl (zild2 16), .inl (zic1 17), .inl (zild3 18), .inl (zoshl 19), .inl (zoor 20), .inl (zist2 21), .inl (zinc 3 (1) 22), .inl (zgo 4), .inl (zild2 24), .inl (ziret)]
set_option maxRecDepth 100000 in
set_option maxHeartbeats 4000000 in
theorem S_93 : pAll (pSk RX0 cX0_setsOf 4 (some .int) PC_93) 0 C_93 := zall (D := ZD_93) zgetf_RX0_ok zputi_RX0_ok zcallV_RX0_ok (by decide +kernel)
  ⟨sn_callSN (idx := 85) (host := "SetsStayTogether") cal_49 (pnest_of 85) (pmt3 66 rfl (by decide +kernel)) (dX_invokestatic (by decide +kernel)) (by decide +kernel), trivial⟩
def ZD_94 : List zE := [.inl (zic0 1), .inl (zist2 2), .inl (zic0 3), .inl (zist3 4), .inl (zild3 5), .inl (zald0 6), .inl (zgetf 0 11 7 50), .inl (zicge 23 8), .inl (zald0 9), .inl (zgetf 0 6 10 30), .inl (zild3 11), .inl (zoiald 12), .inl (zild1 13), .inl (zoand 14), .inl (zifne 21 15), .inl (zild2 16), .inl (zic1 17), .inl (zild3 18), .inl (zoshl 19), .inl (zoor 20), .inl (zist2 21), .inl (zinc 3 (1) 22), .inl (zgo 4), .inl (zild2 24), .inl (ziret)]
set_option maxRecDepth 100000 in
set_option maxHeartbeats 4000000 in
theorem S_94 : pAll (pSk RX0 cX0_setsWithNoneOf 4 (some .int) PC_94) 0 C_94 := zall (D := ZD_94) zgetf_RX0_ok zputi_RX0_ok zcallV_RX0_ok (by decide +kernel)
  trivial
def ZD_95 : List zE := [.inl (zic0 1), .inl (zist2 2), .inl (zild2 3), .inl (zald0 4), .inl (zgetf 0 11 5 50), .inl (zicge 20 6), .inl (zald0 7), .inl (zgetf 0 6 8 30), .inl (zild2 9), .inr (s_dup2 10), .inl (zoiald 11), .inl (zic1 12), .inl (zild1 13), .inl (zoshl 14), .inl (zicm1 15), .inl (zoxor 16), .inl (zoand 17), .inl (zoiast 18), .inl (zinc 2 (1) 19), .inl (zgo 2), .inl (zvret)]
set_option maxRecDepth 100000 in
set_option maxHeartbeats 4000000 in
theorem S_95 : pAll (pSk RX0 cX0_leaveSets 3 none PC_95) 0 C_95 := zall (D := ZD_95) zgetf_RX0_ok zputi_RX0_ok zcallV_RX0_ok (by decide +kernel)
  ⟨sn_dup2 (dX_dup2 (by decide +kernel)) (by decide +kernel), trivial⟩
def ZD_96 : List zE := [.inl (zic1 1), .inl (zild1 2), .inl (zoshl 3), .inl (zist 4 4), .inl (zic0 5), .inl (zist 5 6), .inl (zild 5 7), .inl (zald0 8), .inl (zgetf 0 11 9 50), .inl (zicge 40 10), .inl (zic0 11), .inl (zist 6 12), .inl (zild 6 13), .inl (zald0 14), .inl (zgetf 0 11 15 50), .inl (zicge 38 16), .inl (zild3 17), .inl (zild 6 18), .inr (s_callS 1 49 2 19), .inl (zifeq 36 20), .inl (zald0 21), .inl (zgetf 0 6 22 30), .inl (zild 6 23), .inl (zoiald 24), .inl (zild 4 25), .inl (zoand 26), .inl (zifeq 36 27), .inl (zild 4 28), .inl (zald0 29), .inl (zgetf 0 6 30 30), .inl (zild 6 31), .inl (zoiald 32), .inl (zild2 33), .inl (zoand 34), .inl (zoor 35), .inl (zist 4 36), .inl (zinc 6 (1) 37), .inl (zgo 12), .inl (zinc 5 (1) 39), .inl (zgo 6), .inl (zild 4 41), .inl (ziret)]
set_option maxRecDepth 100000 in
set_option maxHeartbeats 4000000 in
theorem S_96 : pAll (pSk RX0 cX0_hangingOn 7 (some .int) PC_96) 0 C_96 := zall (D := ZD_96) zgetf_RX0_ok zputi_RX0_ok zcallV_RX0_ok (by decide +kernel)
  ⟨sn_callSN (idx := 85) (host := "SetsStayTogether") cal_49 (pnest_of 85) (pmt3 66 rfl (by decide +kernel)) (dX_invokestatic (by decide +kernel)) (by decide +kernel), trivial⟩
def ZD_97 : List zE := [.inl (zic0 1), .inl (zist3 2), .inl (zild1 3), .inl (zist 4 4), .inl (zic0 5), .inl (zist 5 6), .inl (zild 5 7), .inl (zald0 8), .inl (zgetf 0 10 9 47), .inl (zicge 27 10), .inl (zild 4 11), .inl (zild 5 12), .inr (s_callS 1 49 2 13), .inl (zifeq 25 14), .inl (zild 4 15), .inl (zald0 16), .inl (zild 5 17), .inl (zild1 18), .inl (zild2 19), .inl (zcallV 1 0 96 3 20 130), .inl (zicm1 21), .inl (zoxor 22), .inl (zoand 23), .inl (zist 4 24), .inl (zinc 3 (1) 25), .inl (zinc 5 (1) 26), .inl (zgo 6), .inl (zild3 28), .inl (ziret)]
set_option maxRecDepth 100000 in
set_option maxHeartbeats 4000000 in
theorem S_97 : pAll (pSk RX0 cX0_clumpsBy 6 (some .int) PC_97) 0 C_97 := zall (D := ZD_97) zgetf_RX0_ok zputi_RX0_ok zcallV_RX0_ok (by decide +kernel)
  ⟨sn_callSN (idx := 85) (host := "SetsStayTogether") cal_49 (pnest_of 85) (pmt3 66 rfl (by decide +kernel)) (dX_invokestatic (by decide +kernel)) (by decide +kernel), trivial⟩
def ZD_98 : List zE := [.inl (zald0 1), .inl (zic0 2), .inl (zputi 0 12 3 53), .inl (zald0 4), .inl (zcallV 1 0 67 0 5 133), .inl (zist1 6), .inl (zic0 7), .inl (zist2 8), .inl (zild2 9), .inl (zald0 10), .inl (zgetf 0 10 11 47), .inl (zicge 35 12), .inl (zild1 13), .inl (zild2 14), .inr (s_callS 1 49 2 15), .inl (zifeq 33 16), .inl (zald0 17), .inl (zild2 18), .inl (zald0 19), .inl (zcallV 1 0 67 0 20 133), .inl (zald0 21), .inl (zcallV 1 0 68 0 22 137), .inl (zcallV 1 0 96 3 23 130), .inl (zist3 24), .inl (zild1 25), .inl (zild3 26), .inl (zicm1 27), .inl (zoxor 28), .inl (zoand 29), .inl (zist1 30), .inl (zald0 31), .inl (zild3 32), .inl (zcallV 0 0 99 1 33 140), .inl (zinc 2 (1) 34), .inl (zgo 8), .inl (zvret)]
set_option maxRecDepth 100000 in
set_option maxHeartbeats 4000000 in
theorem S_98 : pAll (pSk RX0 cX0_hang 4 none PC_98) 0 C_98 := zall (D := ZD_98) zgetf_RX0_ok zputi_RX0_ok zcallV_RX0_ok (by decide +kernel)
  ⟨sn_callSN (idx := 85) (host := "SetsStayTogether") cal_49 (pnest_of 85) (pmt3 66 rfl (by decide +kernel)) (dX_invokestatic (by decide +kernel)) (by decide +kernel), trivial⟩
def ZD_99 : List zE := [.inl (zald0 1), .inl (zgetf 0 12 2 53), .inl (ziflt 37 3), .inl (zald0 4), .inl (zgetf 0 12 5 53), .inl (zbi (10) 6), .inl (zicge 37 7), .inl (zald0 8), .inl (zgetf 0 7 9 33), .inl (zald0 10), .inl (zgetf 0 12 11 53), .inl (zild1 12), .inl (zoiast 13), .inl (zic0 14), .inl (zist2 15), .inl (zild2 16), .inl (zald0 17), .inl (zgetf 0 10 18 47), .inl (zicge 31 19), .inl (zild1 20), .inl (zild2 21), .inr (s_callS 1 49 2 22), .inl (zifeq 29 23), .inl (zald0 24), .inl (zgetf 0 8 25 36), .inl (zild2 26), .inl (zald0 27), .inl (zgetf 0 12 28 53), .inl (zoiast 29), .inl (zinc 2 (1) 30), .inl (zgo 15), .inl (zald0 32), .inl (zodup 33), .inl (zgetf 0 12 34 53), .inl (zic1 35), .inl (zoadd 36), .inl (zputi 0 12 37 53), .inl (zvret)]
set_option maxRecDepth 100000 in
set_option maxHeartbeats 4000000 in
theorem S_99 : pAll (pSk RX0 cX0_addClump 3 none PC_99) 0 C_99 := zall (D := ZD_99) zgetf_RX0_ok zputi_RX0_ok zcallV_RX0_ok (by decide +kernel)
  ⟨sn_callSN (idx := 85) (host := "SetsStayTogether") cal_49 (pnest_of 85) (pmt3 66 rfl (by decide +kernel)) (dX_invokestatic (by decide +kernel)) (by decide +kernel), trivial⟩
def ZD_100 : List zE := [.inl (zald0 1), .inl (zgetf 0 7 2 33), .inl (zild1 3), .inr (s_callS 1 47 2 4), .inr (s_callS 1 271 1 5), .inl (ziret)]
set_option maxRecDepth 100000 in
set_option maxHeartbeats 4000000 in
theorem S_100 : pAll (pSk RX0 cX0_leastOf 2 (some .int) PC_100) 0 C_100 := zall (D := ZD_100) zgetf_RX0_ok zputi_RX0_ok zcallV_RX0_ok (by decide +kernel)
  ⟨sn_callSN (idx := 98) (host := "SetsStayTogether") cal_47 (pnest_of 98) (pmt4 25 rfl (by decide +kernel)) (dX_invokestatic (by decide +kernel)) (by decide +kernel),
   sn_callS (idx := 144) cal_271 (pmt5 64 rfl (by decide +kernel)) (pmt5 65 rfl (by decide +kernel)) (dX_invokestatic (by decide +kernel)) (by decide +kernel), trivial⟩
def ZD_101 : List zE := [.inl (zald0 1), .inl (zald0 2), .inl (zgetf 0 7 3 33), .inl (zild1 4), .inr (s_callS 1 47 2 5), .inl (zcallV 1 0 102 1 6 113), .inl (ziret)]
set_option maxRecDepth 100000 in
set_option maxHeartbeats 4000000 in
theorem S_101 : pAll (pSk RX0 cX0_clumpBulk 2 (some .int) PC_101) 0 C_101 := zall (D := ZD_101) zgetf_RX0_ok zputi_RX0_ok zcallV_RX0_ok (by decide +kernel)
  ⟨sn_callSN (idx := 98) (host := "SetsStayTogether") cal_47 (pnest_of 98) (pmt4 25 rfl (by decide +kernel)) (dX_invokestatic (by decide +kernel)) (by decide +kernel), trivial⟩
def ZD_102 : List zE := [.inl (zic0 1), .inl (zist2 2), .inl (zic0 3), .inl (zist3 4), .inl (zild3 5), .inl (zald0 6), .inl (zgetf 0 10 7 47), .inl (zicge 23 8), .inl (zild2 9), .inl (zild1 10), .inl (zild3 11), .inr (s_callS 1 49 2 12), .inl (zifeq 18 13), .inl (zald0 14), .inl (zgetf 0 2 15 18), .inl (zild3 16), .inl (zoiald 17), .inl (zgo 19), .inl (zic0 19), .inl (zoadd 20), .inl (zist2 21), .inl (zinc 3 (1) 22), .inl (zgo 4), .inl (zild2 24), .inl (ziret)]
set_option maxRecDepth 100000 in
set_option maxHeartbeats 4000000 in
theorem S_102 : pAll (pSk RX0 cX0_bulkOf 4 (some .int) PC_102) 0 C_102 := zall (D := ZD_102) zgetf_RX0_ok zputi_RX0_ok zcallV_RX0_ok (by decide +kernel)
  ⟨sn_callSN (idx := 85) (host := "SetsStayTogether") cal_49 (pnest_of 85) (pmt3 66 rfl (by decide +kernel)) (dX_invokestatic (by decide +kernel)) (by decide +kernel), trivial⟩
def ZD_103 : List zE := [.inl (zic0 1), .inl (zist2 2), .inl (zic0 3), .inl (zist3 4), .inl (zild3 5), .inl (zald0 6), .inl (zgetf 0 9 7 43), .inl (zicge 22 8), .inl (zald0 9), .inl (zgetf 0 0 10 9), .inl (zild3 11), .inl (zoiald 12), .inl (zild1 13), .inl (ziclt 20 14), .inl (zild2 15), .inl (zic1 16), .inl (zild3 17), .inl (zoshl 18), .inl (zoor 19), .inl (zist2 20), .inl (zinc 3 (1) 21), .inl (zgo 4), .inl (zild2 23), .inl (ziret)]
set_option maxRecDepth 100000 in
set_option maxHeartbeats 4000000 in
theorem S_103 : pAll (pSk RX0 cX0_roomsFor 4 (some .int) PC_103) 0 C_103 := zall (D := ZD_103) zgetf_RX0_ok zputi_RX0_ok zcallV_RX0_ok (by decide +kernel)
  trivial
def ZD_104 : List zE := [.inl (zic0 1), .inl (zist2 2), .inl (zic0 3), .inl (zist3 4), .inl (zild3 5), .inl (zald0 6), .inl (zgetf 0 12 7 53), .inl (zicge 21 8), .inl (zild1 9), .inl (zild3 10), .inr (s_callS 1 49 2 11), .inl (zifeq 19 12), .inl (zild2 13), .inl (zald0 14), .inl (zgetf 0 7 15 33), .inl (zild3 16), .inl (zoiald 17), .inl (zoor 18), .inl (zist2 19), .inl (zinc 3 (1) 20), .inl (zgo 4), .inl (zild2 22), .inl (ziret)]
set_option maxRecDepth 100000 in
set_option maxHeartbeats 4000000 in
theorem S_104 : pAll (pSk RX0 cX0_thingsOf 4 (some .int) PC_104) 0 C_104 := zall (D := ZD_104) zgetf_RX0_ok zputi_RX0_ok zcallV_RX0_ok (by decide +kernel)
  ⟨sn_callSN (idx := 85) (host := "SetsStayTogether") cal_49 (pnest_of 85) (pmt3 66 rfl (by decide +kernel)) (dX_invokestatic (by decide +kernel)) (by decide +kernel), trivial⟩
def ZD_105 : List zE := [.inl (zic0 1), .inl (zist2 2), .inl (zic0 3), .inl (zist3 4), .inl (zild3 5), .inl (zald0 6), .inl (zgetf 0 10 7 47), .inl (zicge 25 8), .inl (zald0 9), .inl (zild3 10), .inl (zcallV 1 0 93 1 11 147), .inl (zild1 12), .inl (zoand 13), .inl (zifeq 23 14), .inl (zild2 15), .inl (zic1 16), .inl (zald0 17), .inl (zgetf 0 8 18 36), .inl (zild3 19), .inl (zoiald 20), .inl (zoshl 21), .inl (zoor 22), .inl (zist2 23), .inl (zinc 3 (1) 24), .inl (zgo 4), .inl (zild2 26), .inl (ziret)]
set_option maxRecDepth 100000 in
set_option maxHeartbeats 4000000 in
theorem S_105 : pAll (pSk RX0 cX0_clumpsIn 4 (some .int) PC_105) 0 C_105 := zall (D := ZD_105) zgetf_RX0_ok zputi_RX0_ok zcallV_RX0_ok (by decide +kernel)
  trivial
def ZD_106 : List zE := [.inl (zild2 1), .inr (s_callS 1 270 1 2), .inl (zild1 3), .inr (s_callS 1 270 1 4), .inl (zosub 5), .inl (zist3 6), .inl (zild3 7), .inl (zifeq 14 8), .inl (zild3 9), .inl (zifle 12 10), .inl (zic1 11), .inl (zgo 13), .inl (zic0 13), .inr (s_zret), .inl (zald0 15), .inl (zild2 16), .inl (zcallV 1 0 102 1 17 113), .inl (zald0 18), .inl (zild1 19), .inl (zcallV 1 0 102 1 20 113), .inl (zosub 21), .inl (zist 4 22), .inl (zild 4 23), .inl (zifeq 30 24), .inl (zild 4 25), .inl (zifle 28 26), .inl (zic1 27), .inl (zgo 36), .inl (zic0 29), .inl (zgo 36), .inl (zild1 31), .inl (zild2 32), .inl (zicge 35 33), .inl (zic1 34), .inl (zgo 36), .inl (zic0 36), .inr (s_zret)]
set_option maxRecDepth 100000 in
set_option maxHeartbeats 4000000 in
theorem S_106 : pAll (pSk RX0 cX0_isLessToSell 5 (some .boolean) PC_106) 0 C_106 := zall (D := ZD_106) zgetf_RX0_ok zputi_RX0_ok zcallV_RX0_ok (by decide +kernel)
  ⟨sn_callS (idx := 68) cal_270 (pmt5 94 rfl (by decide +kernel)) (pmt4 236 rfl (by decide +kernel)) (dX_invokestatic (by decide +kernel)) (by decide +kernel),
   sn_callS (idx := 68) cal_270 (pmt5 94 rfl (by decide +kernel)) (pmt4 236 rfl (by decide +kernel)) (dX_invokestatic (by decide +kernel)) (by decide +kernel),
   sn_zret (Or.inl rfl) (dX_ireturn (by decide +kernel)),
   sn_zret (Or.inl rfl) (dX_ireturn (by decide +kernel)), trivial⟩
def ZD_107 : List zE := [.inl (zald0 1), .inl (zgetf 1 0 2 9), .inl (zbi (76) 3), .inl (zcallV 0 6 132 1 4 15), .inl (zald0 5), .inl (zald1 6), .inl (zcallV 0 1 108 1 7 21), .inl (zic1 8), .inl (zist2 9), .inl (zic0 10), .inl (zist3 11), .inl (zild3 12), .inl (zbi (76) 13), .inl (zicge 28 14), .inl (zald0 15), .inl (zgetf 1 0 16 9), .inl (zcallV 1 6 134 0 17 25), .inl (zifeq 28 18), .inl (zald0 19), .inl (zgetf 1 0 20 9), .inl (zbi (59) 21), .inl (zcallV 0 6 137 1 22 29), .inl (zald0 23), .inl (zald1 24), .inl (zcallV 0 1 108 1 25 21), .inl (zinc 2 (1) 26), .inl (zinc 3 (1) 27), .inl (zgo 11), .inl (zald0 29), .inl (zgetf 1 0 30 9), .inl (zcallV 1 6 136 0 31 32), .inl (zist3 32), .inl (zild3 33), .inl (zicm1 34), .inl (zicne 37 35), .inl (zild2 36), .inl (zgo 40), .inl (zicm1 38), .inl (zild3 39), .inl (zosub 40), .inl (ziret)]
set_option maxRecDepth 100000 in
set_option maxHeartbeats 4000000 in
theorem S_107 : pAll (pSk RX1 cX1_read 4 (some .int) PC_107) 0 C_107 := zall (D := ZD_107) zgetf_RX1_ok zputi_RX1_ok zcallV_RX1_ok (by decide +kernel)
  trivial
def ZD_108 : List zE := [.inl (zald0 1), .inl (zgetf 1 0 2 9), .inl (zcallV 1 6 133 0 3 36), .inl (zist2 4), .inl (zild2 5), .inl (zbi (114) 6), .inl (zicne 24 7), .inl (zald1 8), .inl (zgetf 0 9 9 39), .inl (zbi (6) 10), .inl (zicge 24 11), .inl (zald0 12), .inl (zgetf 1 0 13 9), .inl (zodup 14), .inl (zgetf 6 1 15 45), .inl (zic1 16), .inl (zoadd 17), .inl (zputi 6 1 18 45), .inl (zald1 19), .inl (zald0 20), .inl (zgetf 1 0 21 9), .inl (zcallV 1 6 142 0 22 48), .inl (zcallV 0 0 70 1 23 51), .inl (zgo 77), .inl (zild2 25), .inl (zbi (100) 26), .inl (zicne 38 27), .inl (zald0 28), .inl (zgetf 1 0 29 9), .inl (zodup 30), .inl (zgetf 6 1 31 45), .inl (zic1 32), .inl (zoadd 33), .inl (zputi 6 1 34 45), .inl (zald0 35), .inl (zald1 36), .inl (zcallV 0 1 109 1 37 54), .inl (zgo 77), .inl (zild2 39), .inl (zbi (115) 40), .inl (zicne 59 41), .inl (zald1 42), .inl (zgetf 0 11 43 57), .inl (zbi (8) 44), .inl (zicge 59 45), .inl (zald0 46), .inl (zgetf 1 0 47 9), .inl (zodup 48), .inl (zgetf 6 1 49 45), .inl (zic1 50), .inl (zoadd 51), .inl (zputi 6 1 52 45), .inl (zald1 53), .inl (zald0 54), .inl (zald1 55), .inl (zgetf 0 10 56 60), .inl (zcallV 1 1 111 1 57 63), .inl (zcallV 0 0 72 1 58 67), .inl (zgo 77), .inl (zald0 60), .inl (zgetf 1 0 61 9), .inl (zcallV 1 6 138 0 62 70), .inl (zifeq 71 63), .inl (zald1 64), .inl (zgetf 0 10 65 60), .inl (zbi (10) 66), .inl (zicge 71 67), .inl (zald0 68), .inl (zald1 69), .inl (zcallV 0 1 110 1 70 73), .inl (zgo 77), .inl (zald0 72), .inl (zgetf 1 0 73 9), .inl (zald0 74), .inl (zgetf 1 0 75 9), .inl (zgetf 6 1 76 45), .inl (zcallV 0 6 135 1 77 76), .inl (zvret)]
set_option maxRecDepth 100000 in
set_option maxHeartbeats 4000000 in
theorem S_108 : pAll (pSk RX1 cX1_line 3 none PC_108) 0 C_108 := zall (D := ZD_108) zgetf_RX1_ok zputi_RX1_ok zcallV_RX1_ok (by decide +kernel)
  trivial
def ZD_109 : List zE := [.inl (zald0 1), .inl (zgetf 1 0 2 9), .inl (zic0 3), .inl (zald1 4), .inl (zgetf 0 9 5 39), .inl (zcallV 1 6 139 2 6 79), .inl (zist2 7), .inl (zald0 8), .inl (zgetf 1 0 9 9), .inl (zbi (45) 10), .inl (zcallV 0 6 137 1 11 29), .inl (zald0 12), .inl (zgetf 1 0 13 9), .inl (zgetf 6 1 14 45), .inl (zist3 15), .inl (zald0 16), .inl (zgetf 1 0 17 9), .inl (zic0 18), .inl (zald1 19), .inl (zgetf 0 9 20 39), .inl (zcallV 1 6 139 2 21 79), .inl (zist 4 22), .inl (zild2 23), .inl (zild 4 24), .inl (zicne 29 25), .inl (zald0 26), .inl (zgetf 1 0 27 9), .inl (zild3 28), .inl (zcallV 0 6 135 1 29 76), .inl (zald0 30), .inl (zgetf 1 0 31 9), .inl (zbi (61) 32), .inl (zcallV 0 6 137 1 33 29), .inl (zald0 34), .inl (zgetf 1 0 35 9), .inl (zic1 36), .inl (zbi (10) 37), .inl (zcallV 1 6 139 2 38 79), .inl (zist 5 39), .inl (zald0 40), .inl (zgetf 1 0 41 9), .inl (zgetf 6 3 42 83), .inl (zicm1 43), .inl (zicne 49 44), .inl (zald1 45), .inl (zild2 46), .inl (zild 4 47), .inl (zild 5 48), .inl (zcallV 0 0 73 3 49 86), .inl (zvret)]
set_option maxRecDepth 100000 in
set_option maxHeartbeats 4000000 in
theorem S_109 : pAll (pSk RX1 cX1_doorLine 6 none PC_109) 0 C_109 := zall (D := ZD_109) zgetf_RX1_ok zputi_RX1_ok zcallV_RX1_ok (by decide +kernel)
  trivial
def ZD_110 : List zE := [.inl (zald0 1), .inl (zgetf 1 0 2 9), .inl (zcallV 1 6 142 0 3 48), .inl (zist2 4), .inl (zald0 5), .inl (zgetf 1 0 6 9), .inl (zbi (44) 7), .inl (zcallV 0 6 137 1 8 29), .inl (zald0 9), .inl (zgetf 1 0 10 9), .inl (zic1 11), .inl (zbi (10) 12), .inl (zcallV 1 6 139 2 13 79), .inl (zist3 14), .inl (zald0 15), .inl (zgetf 1 0 16 9), .inl (zbi (44) 17), .inl (zcallV 0 6 137 1 18 29), .inl (zald0 19), .inl (zgetf 1 0 20 9), .inl (zic1 21), .inl (zbi (10) 22), .inl (zcallV 1 6 139 2 23 79), .inl (zist 4 24), .inl (zald0 25), .inl (zgetf 1 0 26 9), .inl (zbi (64) 27), .inl (zcallV 0 6 137 1 28 29), .inl (zald0 29), .inl (zgetf 1 0 30 9), .inl (zic0 31), .inl (zald1 32), .inl (zgetf 0 9 33 39), .inl (zcallV 1 6 139 2 34 79), .inl (zist 5 35), .inl (zald0 36), .inl (zgetf 1 0 37 9), .inl (zgetf 6 3 38 83), .inl (zicm1 39), .inl (zicne 46 40), .inl (zald1 41), .inl (zild2 42), .inl (zild3 43), .inl (zild 4 44), .inl (zild 5 45), .inl (zcallV 0 0 71 4 46 90), .inl (zvret)]
set_option maxRecDepth 100000 in
set_option maxHeartbeats 4000000 in
theorem S_110 : pAll (pSk RX1 cX1_thingLine 6 none PC_110) 0 C_110 := zall (D := ZD_110) zgetf_RX1_ok zputi_RX1_ok zcallV_RX1_ok (by decide +kernel)
  trivial
def ZD_111 : List zE := [.inl (zald0 1), .inl (zgetf 1 0 2 9), .inl (zic0 3), .inl (zild1 4), .inl (zcallV 1 6 140 2 5 94), .inl (zist2 6), .inl (zild2 7), .inl (zifge 10 8), .inl (zic0 9), .inl (zgo 13), .inl (zic1 11), .inl (zild2 12), .inl (zoshl 13), .inl (zist3 14), .inl (zic0 15), .inl (zist 4 16), .inl (zild 4 17), .inl (zbi (10) 18), .inl (zicge 48 19), .inl (zald0 20), .inl (zgetf 1 0 21 9), .inl (zcallV 1 6 134 0 22 25), .inl (zifeq 48 23), .inl (zald0 24), .inl (zgetf 1 0 25 9), .inl (zcallV 1 6 133 0 26 36), .inl (zbi (59) 27), .inl (ziceq 48 28), .inl (zald0 29), .inl (zgetf 1 0 30 9), .inl (zild2 31), .inl (zic1 32), .inl (zoadd 33), .inl (zild1 34), .inl (zcallV 1 6 140 2 35 94), .inl (zist2 36), .inl (zild3 37), .inl (zild2 38), .inl (zifge 41 39), .inl (zic0 40), .inl (zgo 44), .inl (zic1 42), .inl (zild2 43), .inl (zoshl 44), .inl (zoor 45), .inl (zist3 46), .inl (zinc 4 (1) 47), .inl (zgo 16), .inl (zild3 49), .inl (ziret)]
set_option maxRecDepth 100000 in
set_option maxHeartbeats 4000000 in
theorem S_111 : pAll (pSk RX1 cX1_letters 5 (some .int) PC_111) 0 C_111 := zall (D := ZD_111) zgetf_RX1_ok zputi_RX1_ok zcallV_RX1_ok (by decide +kernel)
  trivial
def ZD_112 : List zE := [.inl (zald0 1), .inl (zald1 2), .inl (zgetf 0 12 3 27), .inl (zputi 2 6 4 33), .inl (zald0 5), .inl (zic0 6), .inl (zputi 2 5 7 34), .inl (zald2 8), .inl (zald1 9), .inl (zald1 10), .inl (zcallV 1 0 69 0 11 37), .inl (zcallV 0 10 160 2 12 41), .inl (zic0 13), .inl (zist3 14), .inl (zild3 15), .inr (s_push (.inl (1000000)) 16), .inl (zicge 64 17), .inl (zald2 18), .inl (zcallV 1 10 163 0 19 48), .inl (zifeq 64 20), .inl (zald0 21), .inl (zgetf 2 5 22 34), .inl (zsi (300) 23), .inl (ziclt 26 24), .inl (zic0 25), .inr (s_zret), .inl (zald0 27), .inl (zgetf 2 0 28 11), .inl (zald0 29), .inl (zgetf 2 5 30 34), .inl (zic0 31), .inl (zoiast 32), .inl (zic0 33), .inl (zist 4 34), .inl (zild 4 35), .inl (zald0 36), .inl (zgetf 2 6 37 33), .inl (zicge 56 38), .inl (zald0 39), .inl (zgetf 2 0 40 11), .inl (zald0 41), .inl (zgetf 2 5 42 34), .inr (s_dup2 43), .inl (zoiald 44), .inl (zald2 45), .inl (zgetf 10 3 46 52), .inl (zild 4 47), .inl (zoiald 48), .inl (zic3 49), .inl (zild 4 50), .inl (zomul 51), .inl (zoshl 52), .inl (zoor 53), .inl (zoiast 54), .inl (zinc 4 (1) 55), .inl (zgo 34), .inl (zald0 57), .inl (zodup 58), .inl (zgetf 2 5 59 34), .inl (zic1 60), .inl (zoadd 61), .inl (zputi 2 5 62 34), .inl (zinc 3 (1) 63), .inl (zgo 14), .inl (zic1 65), .inr (s_zret)]
set_option maxRecDepth 100000 in
set_option maxHeartbeats 4000000 in
theorem S_112 : pAll (pSk RX2 cX2_listLawful 5 (some .boolean) PC_112) 0 C_112 := zall (D := ZD_112) zgetf_RX2_ok zputi_RX2_ok zcallV_RX2_ok (by decide +kernel)
  ⟨sn_ldc (idx := 47) (dX_ldc (by decide +kernel)) (pmt5 190 rfl (by decide +kernel)) (by decide +kernel),
   sn_zret (Or.inl rfl) (dX_ireturn (by decide +kernel)),
   sn_dup2 (dX_dup2 (by decide +kernel)) (by decide +kernel),
   sn_zret (Or.inl rfl) (dX_ireturn (by decide +kernel)), trivial⟩
def ZD_113 : List zE := [.inl (zald0 1), .inl (zald1 2), .inl (zald2 3), .inl (zcallV 1 0 89 1 4 55), .inl (zifne 10 5), .inl (zald0 6), .inl (zald1 7), .inl (zald2 8), .inl (zcallV 1 2 115 2 9 59), .inl (zgo 11), .inl (zicm1 11), .inl (zputi 2 7 12 63), .inl (zald0 13), .inl (zgetf 2 7 14 63), .inl (zicm1 15), .inl (zicne 18 16), .inl (zic0 17), .inr (s_zret), .inl (zald0 19), .inl (zald1 20), .inl (zcallV 0 2 116 1 21 66), .inl (zic0 22), .inl (zist3 23), .inl (zild3 24), .inl (zald0 25), .inl (zgetf 2 5 26 34), .inl (zicge 37 27), .inl (zald0 28), .inl (zgetf 2 2 29 18), .inl (zild3 30), .inl (zald0 31), .inl (zald1 32), .inl (zild3 33), .inl (zcallV 1 2 117 2 34 70), .inl (zoiast 35), .inl (zinc 3 (1) 36), .inl (zgo 23), .inl (zic1 38), .inr (s_zret)]
set_option maxRecDepth 100000 in
set_option maxHeartbeats 4000000 in
theorem S_113 : pAll (pSk RX2 cX2_prepare 4 (some .boolean) PC_113) 0 C_113 := zall (D := ZD_113) zgetf_RX2_ok zputi_RX2_ok zcallV_RX2_ok (by decide +kernel)
  ⟨sn_zret (Or.inl rfl) (dX_ireturn (by decide +kernel)),
   sn_zret (Or.inl rfl) (dX_ireturn (by decide +kernel)), trivial⟩
def ZD_114 : List zE := [.inl (zild1 1), .inl (ziflt 17 2), .inl (zild1 3), .inl (zald0 4), .inl (zgetf 2 5 5 34), .inl (zicge 17 6), .inl (zald0 7), .inl (zgetf 2 0 8 11), .inl (zild1 9), .inl (zoiald 10), .inl (zic3 11), .inl (zild2 12), .inl (zomul 13), .inl (zoshr 14), .inl (zbi (7) 15), .inl (zoand 16), .inl (zgo 18), .inl (zicm1 18), .inl (ziret)]
set_option maxRecDepth 100000 in
set_option maxHeartbeats 4000000 in
theorem S_114 : pAll (pSk RX2 cX2_roomAt 3 (some .int) PC_114) 0 C_114 := zall (D := ZD_114) zgetf_RX2_ok zputi_RX2_ok zcallV_RX2_ok (by decide +kernel)
  trivial
def ZD_115 : List zE := [.inl (zic0 1), .inl (zist3 2), .inl (zild3 3), .inl (zald0 4), .inl (zgetf 2 5 5 34), .inl (zicge 41 6), .inl (zic0 7), .inl (zist 4 8), .inl (zic0 9), .inl (zist 5 10), .inl (zild 5 11), .inl (zald1 12), .inl (zgetf 0 10 13 74), .inl (zicge 33 14), .inl (zild 4 15), .inl (zald0 16), .inl (zild3 17), .inl (zald1 18), .inl (zgetf 0 8 19 77), .inl (zild 5 20), .inl (zoiald 21), .inl (zcallV 1 2 114 2 22 80), .inl (zald2 23), .inl (zild 5 24), .inr (s_callS 1 47 2 25), .inl (zicne 28 26), .inl (zic1 27), .inl (zgo 29), .inl (zic0 29), .inl (zoadd 30), .inl (zist 4 31), .inl (zinc 5 (1) 32), .inl (zgo 10), .inl (zild 4 34), .inl (zald1 35), .inl (zgetf 0 10 36 74), .inl (zicne 39 37), .inl (zild3 38), .inl (ziret), .inl (zinc 3 (1) 40), .inl (zgo 2), .inl (zicm1 42), .inl (ziret)]
set_option maxRecDepth 100000 in
set_option maxHeartbeats 4000000 in
theorem S_115 : pAll (pSk RX2 cX2_find 6 (some .int) PC_115) 0 C_115 := zall (D := ZD_115) zgetf_RX2_ok zputi_RX2_ok zcallV_RX2_ok (by decide +kernel)
  ⟨sn_callSN (idx := 84) (host := "SetsStayTogether") cal_47 (pnest_of 84) (pmt4 25 rfl (by decide +kernel)) (dX_invokestatic (by decide +kernel)) (by decide +kernel), trivial⟩
def ZD_116 : List zE := [.inl (zic0 1), .inl (zist2 2), .inl (zild2 3), .inl (zald0 4), .inl (zgetf 2 1 5 15), .inr (s_len 6), .inl (zicge 14 7), .inl (zald0 8), .inl (zgetf 2 1 9 15), .inl (zild2 10), .inl (zic0 11), .inl (zoiast 12), .inl (zinc 2 (1) 13), .inl (zgo 2), .inl (zic0 15), .inl (zist2 16), .inl (zild2 17), .inl (zald1 18), .inl (zgetf 0 10 19 74), .inl (zicge 71 20), .inl (zald1 21), .inl (zgetf 0 8 22 77), .inl (zild2 23), .inl (zoiald 24), .inl (zbi (6) 25), .inl (zomul 26), .inl (zbi (6) 27), .inl (zomul 28), .inl (zist3 29), .inl (zic0 30), .inl (zist 4 31), .inl (zild 4 32), .inl (zbi (36) 33), .inl (zicge 69 34), .inl (zald1 35), .inl (zild2 36), .inl (zild 4 37), .inl (zbi (6) 38), .inr (s_div jdiv 39), .inl (zild 4 40), .inl (zbi (6) 41), .inr (s_div jrem 42), .inl (zcallV 1 0 82 3 43 88), .inl (zist 5 44), .inl (zild3 45), .inl (ziflt 67 46), .inl (zild3 47), .inl (zild 4 48), .inl (zoadd 49), .inl (zald0 50), .inl (zgetf 2 1 51 15), .inr (s_len 52), .inl (zicge 67 53), .inl (zald0 54), .inl (zgetf 2 1 55 15), .inl (zild3 56), .inl (zild 4 57), .inl (zoadd 58), .inr (s_dup2 59), .inl (zoiald 60), .inl (zild 5 61), .inl (zifge 64 62), .inr (s_push (.inl (1000000)) 63), .inl (zgo 65), .inl (zild 5 65), .inl (zoadd 66), .inl (zoiast 67), .inl (zinc 4 (1) 68), .inl (zgo 31), .inl (zinc 2 (1) 70), .inl (zgo 16), .inl (zvret)]
set_option maxRecDepth 100000 in
set_option maxHeartbeats 4000000 in
theorem S_116 : pAll (pSk RX2 cX2_fillCosts 6 none PC_116) 0 C_116 := zall (D := ZD_116) zgetf_RX2_ok zputi_RX2_ok zcallV_RX2_ok (by decide +kernel)
  ⟨sn_alen (dX_arraylength (by decide +kernel)) (by decide +kernel),
   sn_idiv (dX_idiv (by decide +kernel)) (by decide +kernel),
   sn_irem (dX_irem (by decide +kernel)) (by decide +kernel),
   sn_alen (dX_arraylength (by decide +kernel)) (by decide +kernel),
   sn_dup2 (dX_dup2 (by decide +kernel)) (by decide +kernel),
   sn_ldc (idx := 47) (dX_ldc (by decide +kernel)) (pmt5 190 rfl (by decide +kernel)) (by decide +kernel), trivial⟩
