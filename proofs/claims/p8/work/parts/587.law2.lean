/-! ===== the law ===== -/
def f_L2_law_18 (L : Nat) (xs : Nat → Int32) : Nat → Nat → Nat → Int32 → Mem → Option (Int32 × Mem)
  | 0, _, _, _, _ => none
  | n + 1, v1, v2, v3, M =>
    if ((Int32.ofNat L) - (4 : Int32)) < v3 then (
      some ((1 : Int32), M)
      ) else (
      chk (inB v3 L) <|
      bnd ((xs (v3).toNatClampNeg) &&& (63 : Int32)) fun x4 =>
      if x4 = (0 : Int32) then (
        chk (inB (v3 + (1 : Int32)) L) <|
        chk (isO M 9 v1) <|
        obd2 (f_X9_grid n v1 (xs ((v3 + (1 : Int32))).toNatClampNeg) M) fun r11 M12 =>
        chk (inB (v3 + (1 : Int32)) L) <|
        chk (isO M12 10 v2) <|
        obd2 (f_X10_grid n v2 (xs ((v3 + (1 : Int32))).toNatClampNeg) M12) fun r16 M17 =>
        bnd (v3 + (4 : Int32)) fun x18 =>
        f_L2_law_18 L xs n v1 v2 x18 M17
        ) else (
      if x4 = (1 : Int32) then (
        chk (inB (v3 + (1 : Int32)) L) <|
        chk (isO M 9 v1) <|
        obd2 (f_X9_plane n v1 (xs ((v3 + (1 : Int32))).toNatClampNeg) M) fun r25 M26 =>
        chk (inB (v3 + (1 : Int32)) L) <|
        chk (isO M26 10 v2) <|
        obd2 (f_X10_plane n v2 (xs ((v3 + (1 : Int32))).toNatClampNeg) M26) fun r30 M31 =>
        bnd (v3 + (4 : Int32)) fun x32 =>
        f_L2_law_18 L xs n v1 v2 x32 M31
        ) else (
      if x4 = (2 : Int32) then (
        chk (inB (v3 + (1 : Int32)) L) <|
        chk (isO M 9 v1) <|
        obd2 (f_X9_filled n v1 (xs ((v3 + (1 : Int32))).toNatClampNeg) M) fun r39 M40 =>
        chk (inB (v3 + (1 : Int32)) L) <|
        chk (isO M40 10 v2) <|
        obd2 (f_X10_filled n v2 (xs ((v3 + (1 : Int32))).toNatClampNeg) M40) fun r44 M45 =>
        bnd (v3 + (4 : Int32)) fun x46 =>
        f_L2_law_18 L xs n v1 v2 x46 M45
        ) else (
      if x4 = (3 : Int32) then (
        chk (inB (v3 + (1 : Int32)) L) <|
        chk (isO M 9 v1) <|
        obd2 (f_X9_majority n v1 (xs ((v3 + (1 : Int32))).toNatClampNeg) M) fun r53 M54 =>
        chk (inB (v3 + (1 : Int32)) L) <|
        chk (isO M54 10 v2) <|
        obd2 (f_X10_majority n v2 (xs ((v3 + (1 : Int32))).toNatClampNeg) M54) fun r58 M59 =>
        bnd (v3 + (4 : Int32)) fun x60 =>
        f_L2_law_18 L xs n v1 v2 x60 M59
        ) else (
      if x4 = (4 : Int32) then (
        chk (inB (v3 + (1 : Int32)) L) <|
        chk (isO M 9 v1) <|
        obd2 (f_X9_wheel n v1 (xs ((v3 + (1 : Int32))).toNatClampNeg) M) fun r67 M68 =>
        chk (inB (v3 + (1 : Int32)) L) <|
        chk (isO M68 10 v2) <|
        obd2 (f_X10_wheel n v2 (xs ((v3 + (1 : Int32))).toNatClampNeg) M68) fun r72 M73 =>
        bnd (v3 + (4 : Int32)) fun x74 =>
        f_L2_law_18 L xs n v1 v2 x74 M73
        ) else (
      if x4 = (5 : Int32) then (
        chk (inB (v3 + (1 : Int32)) L) <|
        chk (isO M 9 v1) <|
        obd2 (f_X9_tree n v1 (xs ((v3 + (1 : Int32))).toNatClampNeg) M) fun r81 M82 =>
        chk (inB (v3 + (1 : Int32)) L) <|
        chk (isO M82 10 v2) <|
        obd2 (f_X10_tree n v2 (xs ((v3 + (1 : Int32))).toNatClampNeg) M82) fun r86 M87 =>
        bnd (v3 + (4 : Int32)) fun x88 =>
        f_L2_law_18 L xs n v1 v2 x88 M87
        ) else (
      if x4 = (6 : Int32) then (
        chk (inB (v3 + (1 : Int32)) L) <|
        chk (inB (v3 + (2 : Int32)) L) <|
        chk (isO M 9 v1) <|
        obd2 (f_X9_within n v1 (xs ((v3 + (1 : Int32))).toNatClampNeg) (xs ((v3 + (2 : Int32))).toNatClampNeg) M) fun r96 M97 =>
        chk (inB (v3 + (1 : Int32)) L) <|
        chk (inB (v3 + (2 : Int32)) L) <|
        chk (isO M97 10 v2) <|
        obd2 (f_X10_within n v2 (xs ((v3 + (1 : Int32))).toNatClampNeg) (xs ((v3 + (2 : Int32))).toNatClampNeg) M97) fun r102 M103 =>
        if r96 = r102 then (
          bnd (v3 + (4 : Int32)) fun x106 =>
          f_L2_law_18 L xs n v1 v2 x106 M103
          ) else (
          some ((0 : Int32), M103)
          )
        ) else (
      if x4 = (7 : Int32) then (
        chk (inB (v3 + (1 : Int32)) L) <|
        chk (inB (v3 + (2 : Int32)) L) <|
        chk (isO M 9 v1) <|
        obd2 (f_X9_base n v1 (xs ((v3 + (1 : Int32))).toNatClampNeg) (xs ((v3 + (2 : Int32))).toNatClampNeg) M) fun r114 M115 =>
        chk (inB (v3 + (1 : Int32)) L) <|
        chk (inB (v3 + (2 : Int32)) L) <|
        chk (isO M115 10 v2) <|
        obd2 (f_X10_base n v2 (xs ((v3 + (1 : Int32))).toNatClampNeg) (xs ((v3 + (2 : Int32))).toNatClampNeg) M115) fun r120 M121 =>
        bnd (v3 + (4 : Int32)) fun x122 =>
        f_L2_law_18 L xs n v1 v2 x122 M121
        ) else (
      if x4 = (8 : Int32) then (
        chk (inB (v3 + (1 : Int32)) L) <|
        chk (inB (v3 + (2 : Int32)) L) <|
        chk (isO M 9 v1) <|
        obd (f_X9_quorum v1 (xs ((v3 + (1 : Int32))).toNatClampNeg) (xs ((v3 + (2 : Int32))).toNatClampNeg) M) fun r130 =>
        chk (inB (v3 + (1 : Int32)) L) <|
        chk (inB (v3 + (2 : Int32)) L) <|
        chk (isO M 10 v2) <|
        obd2 (f_X10_quorum n v2 (xs ((v3 + (1 : Int32))).toNatClampNeg) (xs ((v3 + (2 : Int32))).toNatClampNeg) M) fun r135 M136 =>
        bnd (v3 + (4 : Int32)) fun x137 =>
        f_L2_law_18 L xs n v1 v2 x137 M136
        ) else (
      if x4 = (9 : Int32) then (
        chk (inB (v3 + (1 : Int32)) L) <|
        chk (inB (v3 + (2 : Int32)) L) <|
        chk (isO M 9 v1) <|
        obd (f_X9_meeting v1 (xs ((v3 + (1 : Int32))).toNatClampNeg) (xs ((v3 + (2 : Int32))).toNatClampNeg) M) fun r145 =>
        chk (inB (v3 + (1 : Int32)) L) <|
        chk (inB (v3 + (2 : Int32)) L) <|
        chk (isO M 10 v2) <|
        obd (f_X10_meeting n v2 (xs ((v3 + (1 : Int32))).toNatClampNeg) (xs ((v3 + (2 : Int32))).toNatClampNeg) M) fun r150 =>
        bnd (v3 + (4 : Int32)) fun x151 =>
        f_L2_law_18 L xs n v1 v2 x151 M
        ) else (
      if x4 = (10 : Int32) then (
        chk (isO M 9 v1) <|
        obd (f_X9_apart n v1 M) fun r157 =>
        chk (isO M 10 v2) <|
        obd (f_X10_apart n v2 M) fun r160 =>
        bnd (v3 + (4 : Int32)) fun x161 =>
        f_L2_law_18 L xs n v1 v2 x161 M
        ) else (
      if x4 = (11 : Int32) then (
        chk (inB (v3 + (1 : Int32)) L) <|
        chk (isO M 9 v1) <|
        obd (f_X9_load n v1 (xs ((v3 + (1 : Int32))).toNatClampNeg) M) fun r168 =>
        chk (inB (v3 + (1 : Int32)) L) <|
        chk (isO M 10 v2) <|
        obd (f_X10_load n v2 (xs ((v3 + (1 : Int32))).toNatClampNeg) M) fun r172 =>
        bnd (v3 + (4 : Int32)) fun x173 =>
        f_L2_law_18 L xs n v1 v2 x173 M
        ) else (
      if x4 = (12 : Int32) then (
        chk (inB (v3 + (1 : Int32)) L) <|
        chk (isO M 9 v1) <|
        obd2 (f_X9_stops n v1 (xs ((v3 + (1 : Int32))).toNatClampNeg) M) fun r180 M181 =>
        chk (inB (v3 + (1 : Int32)) L) <|
        chk (isO M181 10 v2) <|
        obd2 (f_X10_stops n v2 (xs ((v3 + (1 : Int32))).toNatClampNeg) M181) fun r185 M186 =>
        bnd (v3 + (4 : Int32)) fun x187 =>
        f_L2_law_18 L xs n v1 v2 x187 M186
        ) else (
      if x4 = (13 : Int32) then (
        chk (inB (v3 + (1 : Int32)) L) <|
        chk (isO M 9 v1) <|
        obd2 (f_X9_weakest n v1 (xs ((v3 + (1 : Int32))).toNatClampNeg) M) fun r194 M195 =>
        chk (inB (v3 + (1 : Int32)) L) <|
        chk (isO M195 10 v2) <|
        obd2 (f_X10_weakest n v2 (xs ((v3 + (1 : Int32))).toNatClampNeg) M195) fun r199 M200 =>
        bnd (v3 + (4 : Int32)) fun x201 =>
        f_L2_law_18 L xs n v1 v2 x201 M200
        ) else (
      if x4 = (14 : Int32) then (
        chk (isO M 9 v1) <|
        obd (f_X9_needless n v1 M) fun r207 =>
        chk (isO M 10 v2) <|
        obd (f_X10_needless n v2 M) fun r210 =>
        bnd (v3 + (4 : Int32)) fun x211 =>
        f_L2_law_18 L xs n v1 v2 x211 M
        ) else (
      if x4 = (15 : Int32) then (
        chk (inB (v3 + (1 : Int32)) L) <|
        chk (isO M 9 v1) <|
        obd2 (f_X9_chance n v1 (xs ((v3 + (1 : Int32))).toNatClampNeg) M) fun r218 M219 =>
        chk (inB (v3 + (1 : Int32)) L) <|
        chk (isO M219 10 v2) <|
        obd2 (f_X10_chance n v2 (xs ((v3 + (1 : Int32))).toNatClampNeg) M219) fun r223 M224 =>
        bnd (v3 + (4 : Int32)) fun x225 =>
        f_L2_law_18 L xs n v1 v2 x225 M224
        ) else (
      if x4 = (16 : Int32) then (
        chk (inB (v3 + (1 : Int32)) L) <|
        chk (inB (v3 + (2 : Int32)) L) <|
        chk (isO M 9 v1) <|
        obd2 (f_X9_chanceOf n v1 (xs ((v3 + (1 : Int32))).toNatClampNeg) (xs ((v3 + (2 : Int32))).toNatClampNeg) M) fun r233 M234 =>
        chk (inB (v3 + (1 : Int32)) L) <|
        chk (inB (v3 + (2 : Int32)) L) <|
        chk (isO M234 10 v2) <|
        obd2 (f_X10_chanceOf n v2 (xs ((v3 + (1 : Int32))).toNatClampNeg) (xs ((v3 + (2 : Int32))).toNatClampNeg) M234) fun r239 M240 =>
        bnd (v3 + (4 : Int32)) fun x241 =>
        f_L2_law_18 L xs n v1 v2 x241 M240
        ) else (
      if x4 = (17 : Int32) then (
        chk (inB (v3 + (1 : Int32)) L) <|
        chk (isO M 9 v1) <|
        obd (f_X9_sizes n v1 (xs ((v3 + (1 : Int32))).toNatClampNeg) M) fun r248 =>
        chk (inB (v3 + (1 : Int32)) L) <|
        chk (isO M 10 v2) <|
        obd (f_X10_sizes n v2 (xs ((v3 + (1 : Int32))).toNatClampNeg) M) fun r252 =>
        bnd (v3 + (4 : Int32)) fun x253 =>
        f_L2_law_18 L xs n v1 v2 x253 M
        ) else (
      if x4 = (18 : Int32) then (
        chk (inB (v3 + (1 : Int32)) L) <|
        chk (isO M 9 v1) <|
        obd2 (f_X9_pivotal n v1 (xs ((v3 + (1 : Int32))).toNatClampNeg) M) fun r260 M261 =>
        chk (inB (v3 + (1 : Int32)) L) <|
        chk (isO M261 10 v2) <|
        obd (f_X10_pivotal n v2 (xs ((v3 + (1 : Int32))).toNatClampNeg) M261) fun r265 =>
        bnd (v3 + (4 : Int32)) fun x266 =>
        f_L2_law_18 L xs n v1 v2 x266 M261
        ) else (
      if x4 = (19 : Int32) then (
        chk (isO M 9 v1) <|
        obd (f_X9_fair n v1 M) fun r272 =>
        chk (isO M 10 v2) <|
        obd (f_X10_fair n v2 M) fun r275 =>
        bnd (v3 + (4 : Int32)) fun x276 =>
        f_L2_law_18 L xs n v1 v2 x276 M
        ) else (
      if x4 = (20 : Int32) then (
        chk (isO M 9 v1) <|
        obd2 (f_X9_better n v1 M) fun r282 M283 =>
        chk (isO M283 10 v2) <|
        obd (f_X10_better n v2 M283) fun r286 =>
        bnd (v3 + (4 : Int32)) fun x287 =>
        f_L2_law_18 L xs n v1 v2 x287 M283
        ) else (
      if x4 = (21 : Int32) then (
        chk (inB (v3 + (1 : Int32)) L) <|
        chk (isO M 9 v1) <|
        obd2 (f_X9_ask n v1 (xs ((v3 + (1 : Int32))).toNatClampNeg) M) fun r294 M295 =>
        chk (inB (v3 + (1 : Int32)) L) <|
        chk (isO M295 10 v2) <|
        obd2 (f_X10_ask n v2 (xs ((v3 + (1 : Int32))).toNatClampNeg) M295) fun r299 M300 =>
        bnd (v3 + (4 : Int32)) fun x301 =>
        f_L2_law_18 L xs n v1 v2 x301 M300
        ) else (
      if x4 = (22 : Int32) then (
        chk (inB (v3 + (1 : Int32)) L) <|
        chk (isO M 9 v1) <|
        obd2 (f_X9_leave n v1 (xs ((v3 + (1 : Int32))).toNatClampNeg) M) fun r308 M309 =>
        chk (inB (v3 + (1 : Int32)) L) <|
        chk (isO M309 10 v2) <|
        obd2 (f_X10_leave n v2 (xs ((v3 + (1 : Int32))).toNatClampNeg) M309) fun r313 M314 =>
        bnd (v3 + (4 : Int32)) fun x315 =>
        f_L2_law_18 L xs n v1 v2 x315 M314
        ) else (
      if x4 = (23 : Int32) then (
        chk (inB (v3 + (1 : Int32)) L) <|
        chk (inB (v3 + (2 : Int32)) L) <|
        chk (isO M 9 v1) <|
        obd2 (f_X9_bring n v1 (xs ((v3 + (1 : Int32))).toNatClampNeg) (xs ((v3 + (2 : Int32))).toNatClampNeg) M) fun r323 M324 =>
        chk (inB (v3 + (1 : Int32)) L) <|
        chk (inB (v3 + (2 : Int32)) L) <|
        chk (isO M324 10 v2) <|
        obd2 (f_X10_bring n v2 (xs ((v3 + (1 : Int32))).toNatClampNeg) (xs ((v3 + (2 : Int32))).toNatClampNeg) M324) fun r329 M330 =>
        bnd (v3 + (4 : Int32)) fun x331 =>
        f_L2_law_18 L xs n v1 v2 x331 M330
        ) else (
      if x4 = (24 : Int32) then (
        chk (inB (v3 + (1 : Int32)) L) <|
        chk (isO M 9 v1) <|
        obd2 (f_X9_withdraw n v1 (xs ((v3 + (1 : Int32))).toNatClampNeg) M) fun r338 M339 =>
        chk (inB (v3 + (1 : Int32)) L) <|
        chk (isO M339 10 v2) <|
        obd2 (f_X10_withdraw n v2 (xs ((v3 + (1 : Int32))).toNatClampNeg) M339) fun r343 M344 =>
        bnd (v3 + (4 : Int32)) fun x345 =>
        f_L2_law_18 L xs n v1 v2 x345 M344
        ) else (
      if x4 = (25 : Int32) then (
        chk (inB (v3 + (1 : Int32)) L) <|
        chk (isO M 9 v1) <|
        obd2 (f_X9_breakDown n v1 (xs ((v3 + (1 : Int32))).toNatClampNeg) M) fun r352 M353 =>
        chk (inB (v3 + (1 : Int32)) L) <|
        chk (isO M353 10 v2) <|
        obd2 (f_X10_breakDown n v2 (xs ((v3 + (1 : Int32))).toNatClampNeg) M353) fun r357 M358 =>
        bnd (v3 + (4 : Int32)) fun x359 =>
        f_L2_law_18 L xs n v1 v2 x359 M358
        ) else (
      if x4 = (26 : Int32) then (
        chk (inB (v3 + (1 : Int32)) L) <|
        chk (isO M 9 v1) <|
        obd2 (f_X9_mend n v1 (xs ((v3 + (1 : Int32))).toNatClampNeg) M) fun r366 M367 =>
        chk (inB (v3 + (1 : Int32)) L) <|
        chk (isO M367 10 v2) <|
        obd2 (f_X10_mend n v2 (xs ((v3 + (1 : Int32))).toNatClampNeg) M367) fun r371 M372 =>
        bnd (v3 + (4 : Int32)) fun x373 =>
        f_L2_law_18 L xs n v1 v2 x373 M372
        ) else (
      if x4 = (27 : Int32) then (
        chk (inB (v3 + (1 : Int32)) L) <|
        chk (inB (v3 + (2 : Int32)) L) <|
        chk (isO M 9 v1) <|
        obd (f_X9_node v1 (xs ((v3 + (1 : Int32))).toNatClampNeg) (xs ((v3 + (2 : Int32))).toNatClampNeg) M) fun r381 =>
        chk (inB (v3 + (1 : Int32)) L) <|
        chk (inB (v3 + (2 : Int32)) L) <|
        chk (isO M 10 v2) <|
        obd (f_X10_node v2 (xs ((v3 + (1 : Int32))).toNatClampNeg) (xs ((v3 + (2 : Int32))).toNatClampNeg) M) fun r386 =>
        bnd (v3 + (4 : Int32)) fun x387 =>
        f_L2_law_18 L xs n v1 v2 x387 M
        ) else (
      if x4 = (28 : Int32) then (
        chk (inB (v3 + (1 : Int32)) L) <|
        chk (inB (v3 + (2 : Int32)) L) <|
        chk (isO M 9 v1) <|
        obd (f_X9_arbiter v1 (xs ((v3 + (1 : Int32))).toNatClampNeg) (xs ((v3 + (2 : Int32))).toNatClampNeg) M) fun r395 =>
        chk (inB (v3 + (1 : Int32)) L) <|
        chk (inB (v3 + (2 : Int32)) L) <|
        chk (isO M 10 v2) <|
        obd (f_X10_arbiter v2 (xs ((v3 + (1 : Int32))).toNatClampNeg) (xs ((v3 + (2 : Int32))).toNatClampNeg) M) fun r400 =>
        bnd (v3 + (4 : Int32)) fun x401 =>
        f_L2_law_18 L xs n v1 v2 x401 M
        ) else (
      if x4 = (29 : Int32) then (
        chk (inB (v3 + (1 : Int32)) L) <|
        chk (inB (v3 + (2 : Int32)) L) <|
        chk (inB (v3 + (3 : Int32)) L) <|
        chk (isO M 9 v1) <|
        obd (f_X9_waiting n v1 (xs ((v3 + (1 : Int32))).toNatClampNeg) (xs ((v3 + (2 : Int32))).toNatClampNeg) (xs ((v3 + (3 : Int32))).toNatClampNeg) M) fun r410 =>
        chk (inB (v3 + (1 : Int32)) L) <|
        chk (inB (v3 + (2 : Int32)) L) <|
        chk (inB (v3 + (3 : Int32)) L) <|
        chk (isO M 10 v2) <|
        obd (f_X10_waiting v2 (xs ((v3 + (1 : Int32))).toNatClampNeg) (xs ((v3 + (2 : Int32))).toNatClampNeg) (xs ((v3 + (3 : Int32))).toNatClampNeg) M) fun r416 =>
        bnd (v3 + (4 : Int32)) fun x417 =>
        f_L2_law_18 L xs n v1 v2 x417 M
        ) else (
      if x4 = (30 : Int32) then (
        chk (inB (v3 + (1 : Int32)) L) <|
        chk (inB (v3 + (2 : Int32)) L) <|
        chk (inB (v3 + (3 : Int32)) L) <|
        chk (isO M 9 v1) <|
        obd (f_X9_way n v1 (xs ((v3 + (1 : Int32))).toNatClampNeg) (xs ((v3 + (2 : Int32))).toNatClampNeg) (xs ((v3 + (3 : Int32))).toNatClampNeg) M) fun r426 =>
        chk (inB (v3 + (1 : Int32)) L) <|
        chk (inB (v3 + (2 : Int32)) L) <|
        chk (inB (v3 + (3 : Int32)) L) <|
        chk (isO M 10 v2) <|
        obd (f_X10_way n v2 (xs ((v3 + (1 : Int32))).toNatClampNeg) (xs ((v3 + (2 : Int32))).toNatClampNeg) (xs ((v3 + (3 : Int32))).toNatClampNeg) M) fun r432 =>
        bnd (v3 + (4 : Int32)) fun x433 =>
        f_L2_law_18 L xs n v1 v2 x433 M
        ) else (
      if x4 = (31 : Int32) then (
        chk (inB (v3 + (1 : Int32)) L) <|
        chk (isO M 9 v1) <|
        obd2 (f_X9_is n v1 (xs ((v3 + (1 : Int32))).toNatClampNeg) M) fun r440 M441 =>
        chk (inB (v3 + (1 : Int32)) L) <|
        chk (isO M441 10 v2) <|
        obd2 (f_X10_is n v2 (xs ((v3 + (1 : Int32))).toNatClampNeg) M441) fun r445 M446 =>
        bnd (v3 + (4 : Int32)) fun x447 =>
        f_L2_law_18 L xs n v1 v2 x447 M446
        ) else (
      if x4 = (32 : Int32) then (
        chk (inB (v3 + (1 : Int32)) L) <|
        chk (isO M 9 v1) <|
        obd (f_X9_handled v1 (xs ((v3 + (1 : Int32))).toNatClampNeg) M) fun r454 =>
        chk (inB (v3 + (1 : Int32)) L) <|
        chk (isO M 10 v2) <|
        obd (f_X10_handled v2 (xs ((v3 + (1 : Int32))).toNatClampNeg) M) fun r458 =>
        bnd (v3 + (4 : Int32)) fun x459 =>
        f_L2_law_18 L xs n v1 v2 x459 M
        ) else (
      if x4 = (33 : Int32) then (
        chk (inB (v3 + (1 : Int32)) L) <|
        chk (isO M 9 v1) <|
        obd (f_X9_sent n v1 (xs ((v3 + (1 : Int32))).toNatClampNeg) M) fun r466 =>
        chk (inB (v3 + (1 : Int32)) L) <|
        chk (isO M 10 v2) <|
        obd (f_X10_sent n v2 (xs ((v3 + (1 : Int32))).toNatClampNeg) M) fun r470 =>
        bnd (v3 + (4 : Int32)) fun x471 =>
        f_L2_law_18 L xs n v1 v2 x471 M
        ) else (
      if x4 = (34 : Int32) then (
        chk (inB (v3 + (1 : Int32)) L) <|
        chk (inB (v3 + (2 : Int32)) L) <|
        chk (isO M 9 v1) <|
        obd (f_X9_book v1 (xs ((v3 + (1 : Int32))).toNatClampNeg) (xs ((v3 + (2 : Int32))).toNatClampNeg) M) fun r479 =>
        chk (inB (v3 + (1 : Int32)) L) <|
        chk (inB (v3 + (2 : Int32)) L) <|
        chk (isO M 10 v2) <|
        obd (f_X10_book v2 (xs ((v3 + (1 : Int32))).toNatClampNeg) (xs ((v3 + (2 : Int32))).toNatClampNeg) M) fun r484 =>
        bnd (v3 + (4 : Int32)) fun x485 =>
        f_L2_law_18 L xs n v1 v2 x485 M
        ) else (
      if x4 = (35 : Int32) then (
        chk (inB (v3 + (1 : Int32)) L) <|
        chk (isO M 9 v1) <|
        obd (f_X9_waitsFor n v1 (xs ((v3 + (1 : Int32))).toNatClampNeg) M) fun r492 =>
        chk (inB (v3 + (1 : Int32)) L) <|
        chk (isO M 10 v2) <|
        obd (f_X10_waitsFor n v2 (xs ((v3 + (1 : Int32))).toNatClampNeg) M) fun r496 =>
        bnd (v3 + (4 : Int32)) fun x497 =>
        f_L2_law_18 L xs n v1 v2 x497 M
        ) else (
      if x4 = (36 : Int32) then (
        chk (inB (v3 + (1 : Int32)) L) <|
        chk (isO M 9 v1) <|
        obd (f_X9_unheard v1 (xs ((v3 + (1 : Int32))).toNatClampNeg) M) fun r504 =>
        chk (inB (v3 + (1 : Int32)) L) <|
        chk (isO M 10 v2) <|
        obd (f_X10_unheard v2 (xs ((v3 + (1 : Int32))).toNatClampNeg) M) fun r508 =>
        bnd (v3 + (4 : Int32)) fun x509 =>
        f_L2_law_18 L xs n v1 v2 x509 M
        ) else (
      if x4 = (37 : Int32) then (
        chk (inB (v3 + (1 : Int32)) L) <|
        chk (isO M 9 v1) <|
        obd (f_X9_crowded n v1 (xs ((v3 + (1 : Int32))).toNatClampNeg) M) fun r516 =>
        chk (inB (v3 + (1 : Int32)) L) <|
        chk (isO M 10 v2) <|
        obd (f_X10_crowded n v2 (xs ((v3 + (1 : Int32))).toNatClampNeg) M) fun r520 =>
        bnd (v3 + (4 : Int32)) fun x521 =>
        f_L2_law_18 L xs n v1 v2 x521 M
        ) else (
      if x4 = (38 : Int32) then (
        chk (inB (v3 + (1 : Int32)) L) <|
        chk (inB (v3 + (2 : Int32)) L) <|
        chk (isO M 9 v1) <|
        obd (f_X9_trace v1 (xs ((v3 + (1 : Int32))).toNatClampNeg) (xs ((v3 + (2 : Int32))).toNatClampNeg) M) fun r529 =>
        chk (inB (v3 + (1 : Int32)) L) <|
        chk (inB (v3 + (2 : Int32)) L) <|
        chk (isO M 10 v2) <|
        obd (f_X10_trace v2 (xs ((v3 + (1 : Int32))).toNatClampNeg) (xs ((v3 + (2 : Int32))).toNatClampNeg) M) fun r534 =>
        bnd (v3 + (4 : Int32)) fun x535 =>
        f_L2_law_18 L xs n v1 v2 x535 M
        ) else (
      if x4 = (39 : Int32) then (
        chk (inB (v3 + (1 : Int32)) L) <|
        chk (inB (v3 + (2 : Int32)) L) <|
        chk (isO M 9 v1) <|
        obd2 (f_X9_goOn n v1 (xs ((v3 + (1 : Int32))).toNatClampNeg) (xs ((v3 + (2 : Int32))).toNatClampNeg) M) fun r543 M544 =>
        chk (inB (v3 + (1 : Int32)) L) <|
        chk (inB (v3 + (2 : Int32)) L) <|
        chk (isO M544 10 v2) <|
        obd2 (f_X10_goOn n v2 (xs ((v3 + (1 : Int32))).toNatClampNeg) (xs ((v3 + (2 : Int32))).toNatClampNeg) M544) fun r549 M550 =>
        bnd (v3 + (4 : Int32)) fun x551 =>
        f_L2_law_18 L xs n v1 v2 x551 M550
        ) else (
      if x4 = (40 : Int32) then (
        chk (inB (v3 + (1 : Int32)) L) <|
        chk (inB (v3 + (2 : Int32)) L) <|
        chk (isO M 9 v1) <|
        obd2 (f_X9_entersBy n v1 (xs ((v3 + (1 : Int32))).toNatClampNeg) (xs ((v3 + (2 : Int32))).toNatClampNeg) M) fun r559 M560 =>
        chk (inB (v3 + (1 : Int32)) L) <|
        chk (inB (v3 + (2 : Int32)) L) <|
        chk (isO M560 10 v2) <|
        obd2 (f_X10_entersBy n v2 (xs ((v3 + (1 : Int32))).toNatClampNeg) (xs ((v3 + (2 : Int32))).toNatClampNeg) M560) fun r565 M566 =>
        bnd (v3 + (4 : Int32)) fun x567 =>
        f_L2_law_18 L xs n v1 v2 x567 M566
        ) else (
      if x4 = (41 : Int32) then (
        chk (inB (v3 + (1 : Int32)) L) <|
        chk (inB (v3 + (2 : Int32)) L) <|
        chk (isO M 9 v1) <|
        obd2 (f_X9_searched n v1 (xs ((v3 + (1 : Int32))).toNatClampNeg) (xs ((v3 + (2 : Int32))).toNatClampNeg) M) fun r575 M576 =>
        chk (inB (v3 + (1 : Int32)) L) <|
        chk (inB (v3 + (2 : Int32)) L) <|
        chk (isO M576 10 v2) <|
        obd2 (f_X10_searched n v2 (xs ((v3 + (1 : Int32))).toNatClampNeg) (xs ((v3 + (2 : Int32))).toNatClampNeg) M576) fun r581 M582 =>
        bnd (v3 + (4 : Int32)) fun x583 =>
        f_L2_law_18 L xs n v1 v2 x583 M582
        ) else (
      if x4 = (42 : Int32) then (
        chk (inB (v3 + (1 : Int32)) L) <|
        chk (inB (v3 + (2 : Int32)) L) <|
        chk (inB (v3 + (3 : Int32)) L) <|
        chk (isO M 9 v1) <|
        obd2 (f_X9_searchedBy n v1 (xs ((v3 + (1 : Int32))).toNatClampNeg) (xs ((v3 + (2 : Int32))).toNatClampNeg) (xs ((v3 + (3 : Int32))).toNatClampNeg) M) fun r592 M593 =>
        chk (inB (v3 + (1 : Int32)) L) <|
        chk (inB (v3 + (2 : Int32)) L) <|
        chk (inB (v3 + (3 : Int32)) L) <|
        chk (isO M593 10 v2) <|
        obd2 (f_X10_searchedBy n v2 (xs ((v3 + (1 : Int32))).toNatClampNeg) (xs ((v3 + (2 : Int32))).toNatClampNeg) (xs ((v3 + (3 : Int32))).toNatClampNeg) M593) fun r599 M600 =>
        bnd (v3 + (4 : Int32)) fun x601 =>
        f_L2_law_18 L xs n v1 v2 x601 M600
        ) else (
      if x4 = (43 : Int32) then (
        chk (inB (v3 + (1 : Int32)) L) <|
        chk (inB (v3 + (2 : Int32)) L) <|
        chk (inB (v3 + (3 : Int32)) L) <|
        chk (isO M 9 v1) <|
        obd2 (f_X9_delay v1 (xs ((v3 + (1 : Int32))).toNatClampNeg) (xs ((v3 + (2 : Int32))).toNatClampNeg) (xs ((v3 + (3 : Int32))).toNatClampNeg) M) fun r610 M611 =>
        chk (inB (v3 + (1 : Int32)) L) <|
        chk (inB (v3 + (2 : Int32)) L) <|
        chk (inB (v3 + (3 : Int32)) L) <|
        chk (isO M611 10 v2) <|
        obd2 (f_X10_delay v2 (xs ((v3 + (1 : Int32))).toNatClampNeg) (xs ((v3 + (2 : Int32))).toNatClampNeg) (xs ((v3 + (3 : Int32))).toNatClampNeg) M611) fun r617 M618 =>
        bnd (v3 + (4 : Int32)) fun x619 =>
        f_L2_law_18 L xs n v1 v2 x619 M618
        ) else (
      if x4 = (44 : Int32) then (
        chk (inB (v3 + (1 : Int32)) L) <|
        chk (inB (v3 + (2 : Int32)) L) <|
        chk (inB (v3 + (3 : Int32)) L) <|
        chk (isO M 9 v1) <|
        obd2 (f_X9_timed n v1 (xs ((v3 + (1 : Int32))).toNatClampNeg) (xs ((v3 + (2 : Int32))).toNatClampNeg) (xs ((v3 + (3 : Int32))).toNatClampNeg) M) fun r628 M629 =>
        chk (inB (v3 + (1 : Int32)) L) <|
        chk (inB (v3 + (2 : Int32)) L) <|
        chk (inB (v3 + (3 : Int32)) L) <|
        chk (isO M629 10 v2) <|
        obd2 (f_X10_timed n v2 (xs ((v3 + (1 : Int32))).toNatClampNeg) (xs ((v3 + (2 : Int32))).toNatClampNeg) (xs ((v3 + (3 : Int32))).toNatClampNeg) M629) fun r635 M636 =>
        bnd (v3 + (4 : Int32)) fun x637 =>
        f_L2_law_18 L xs n v1 v2 x637 M636
        ) else (
      if x4 = (45 : Int32) then (
        chk (inB (v3 + (1 : Int32)) L) <|
        chk (inB (v3 + (2 : Int32)) L) <|
        chk (isO M 9 v1) <|
        obd2 (f_X9_soonest n v1 (xs ((v3 + (1 : Int32))).toNatClampNeg) (xs ((v3 + (2 : Int32))).toNatClampNeg) M) fun r645 M646 =>
        chk (inB (v3 + (1 : Int32)) L) <|
        chk (inB (v3 + (2 : Int32)) L) <|
        chk (isO M646 10 v2) <|
        obd2 (f_X10_soonest n v2 (xs ((v3 + (1 : Int32))).toNatClampNeg) (xs ((v3 + (2 : Int32))).toNatClampNeg) M646) fun r651 M652 =>
        bnd (v3 + (4 : Int32)) fun x653 =>
        f_L2_law_18 L xs n v1 v2 x653 M652
        ) else (
      if x4 = (46 : Int32) then (
        chk (inB (v3 + (1 : Int32)) L) <|
        chk (inB (v3 + (2 : Int32)) L) <|
        chk (inB (v3 + (3 : Int32)) L) <|
        chk (isO M 9 v1) <|
        obd2 (f_X9_crowd n v1 (xs ((v3 + (1 : Int32))).toNatClampNeg) (xs ((v3 + (2 : Int32))).toNatClampNeg) (xs ((v3 + (3 : Int32))).toNatClampNeg) M) fun r662 M663 =>
        chk (inB (v3 + (1 : Int32)) L) <|
        chk (inB (v3 + (2 : Int32)) L) <|
        chk (inB (v3 + (3 : Int32)) L) <|
        chk (isO M663 10 v2) <|
        obd2 (f_X10_crowd n v2 (xs ((v3 + (1 : Int32))).toNatClampNeg) (xs ((v3 + (2 : Int32))).toNatClampNeg) (xs ((v3 + (3 : Int32))).toNatClampNeg) M663) fun r669 M670 =>
        bnd (v3 + (4 : Int32)) fun x671 =>
        f_L2_law_18 L xs n v1 v2 x671 M670
        ) else (
      if x4 = (47 : Int32) then (
        chk (isO M 9 v1) <|
        obd (f2_X9_mean n v1 M) fun r677 =>
        chk (isO M 10 v2) <|
        obd (f2_X10_mean n v2 M) fun r680 =>
        bnd (v3 + (4 : Int32)) fun x681 =>
        f_L2_law_18 L xs n v1 v2 x681 M
        ) else (
      if x4 = (48 : Int32) then (
        chk (isO M 9 v1) <|
        obd (f2_X9_byRoot n v1 M) fun r687 =>
        chk (isO M 10 v2) <|
        obd (f2_X10_byRoot n v2 M) fun r690 =>
        bnd (v3 + (4 : Int32)) fun x691 =>
        f_L2_law_18 L xs n v1 v2 x691 M
        ) else (
      bnd (v3 + (4 : Int32)) fun x693 =>
      f_L2_law_18 L xs n v1 v2 x693 M
      )
      )
      )
      )
      )
      )
      )
      )
      )
      )
      )
      )
      )
      )
      )
      )
      )
      )
      )
      )
      )
      )
      )
      )
      )
      )
      )
      )
      )
      )
      )
      )
      )
      )
      )
      )
      )
      )
      )
      )
      )
      )
      )
      )
      )
      )
      )
      )
      )
      )
def f_L2_law (L : Nat) (xs : Nat → Int32) (n : Nat) (M : Mem) : Option (Int32 × Mem) :=
  chk (mN M + 1 ≤ CAP ∧ mU M + 6 ≤ CAPU) <|
  bnd (mN M) fun o4 =>
  bnd (nw M 9 0 6) fun M2 =>
  obd (f_X9_init n o4 M2) fun M8 =>
  chk (mN M8 + 1 ≤ CAP ∧ mU M8 + 25 ≤ CAPU) <|
  bnd (mN M8) fun o12 =>
  bnd (nw M8 10 0 25) fun M10 =>
  obd (f_X10_init n o12 M10) fun M16 =>
  f_L2_law_18 L xs n o4 o12 (0 : Int32) M16
section
variable {p : Program} {l : Launch} {e : Env} {s s0 : State} {d0 : Drawn} {m : MethodId} {below : List Frame} {meth : Method} {c : Code} {G : Gam} {M0 : Mem} {b L : Nat} {xs : Nat → Int32}
theorem l_L2_law_18 {rv : Mem} (X : Cx p room_1 s m #[Value.ref b] c G M0 cL_law yL_law.cls 4 11 257) (hr : meth.sig.returnType = ret) (hlk : meth.locks = false) (hnm : LawB s0 d0 s b L xs G M0) : ∀ {n : Nat} (v1 : Nat) (v2 : Nat) (v3 : Int32) (M : Mem), f_L2_law_18 L xs n v1 v2 v3 M = some ((1 : Int32), rv) → Sg p l e room_1 s m #[Value.ref b] below meth c (lw_Z below #[Value.ref b] s0) G M0 4 18 [(0, .ref b), (1, .ref (gB G + v1)), (2, .ref (gB G + v2)), (3, .int v3)] [] M := by
  intro n
  induction n with
  | zero => intro v1 v2 v3 M hf; exact (pk_none hf).elim
  | succ n ih =>
    intro v1 v2 v3 M hf
    rw [f_L2_law_18] at hf
    refine s_iload_n X 3 dL_law_18 rfl rfl ?_
    refine s_aload_n X 0 dL_law_19 rfl rfl ?_
    refine s_slen X hnm.1 hnm.2.1 hnm.2.2.1 dL_law_20 ?_
    refine s_iconst X (v := (4 : Int32)) dL_law_21 rfl ?_
    refine s_isub X dL_law_22 ?_
    have hs1 := pk_ite hf
    clear hf
    refine s_icmp_gt X (tgt := 1577) dL_law_23 rfl (fun c2 => ?_) (fun c2 => ?_)
    · have hf := hs1.1 c2
      refine s_iconst X (v := (1 : Int32)) dL_law_1577 rfl ?_
      cases hf
      exact s_lawret X hr hlk hnm dL_law_1578
    · have hf := hs1.2 c2
      refine s_aload_n X 0 dL_law_26 rfl rfl ?_
      refine s_iload_n X 3 dL_law_27 rfl rfl ?_
      obtain ⟨h3, hf⟩ := pk_chk hf
      refine s_sld X hnm.1 hnm.2.1 hnm.2.2.1 h3 dL_law_28 ?_
      refine s_bipush X (v := (63 : Int32)) dL_law_29 rfl ?_
      refine s_iand X dL_law_31 ?_
      obtain ⟨x4, e5, hf⟩ := pk_bnd hf
      refine s_nmI e5 ?_
      have hs6 := pk_ite hf
      clear hf
      by_cases c7 : x4 = (0 : Int32)
      · have hf := hs6.1 c7
        refine s_swC X (v := (0 : Int32)) (tgt := 244) dL_law_32 c7 (by decide) (by decide) rfl rfl ?_
        refine s_aload_n X 1 dL_law_244 rfl rfl ?_
        refine s_aload_n X 0 dL_law_245 rfl rfl ?_
        refine s_iload_n X 3 dL_law_246 rfl rfl ?_
        refine s_iconst X (v := (1 : Int32)) dL_law_247 rfl ?_
        refine s_iadd X dL_law_248 ?_
        obtain ⟨h8, hf⟩ := pk_chk hf
        refine s_sld X hnm.1 hnm.2.1 hnm.2.2.1 h8 dL_law_249 ?_
        obtain ⟨h9, hf⟩ := pk_chk hf
        obtain ⟨r11, M12, hc10, hf⟩ := pk_obd2 hf
        refine s_callV X (ci := 9) (k_X9_grid G hc10) rfl h9 wd646 wd647 wd648 wd649 wd126 cd_X9_grid ⟨Nat.le_of_ble_eq_true rfl, Nat.le_of_ble_eq_true rfl⟩ (Nat.le_of_ble_eq_true rfl) dL_law_250 ?_
        refine s_pop X dL_law_253 rfl ?_
        refine s_aload_n X 2 dL_law_254 rfl rfl ?_
        refine s_aload_n X 0 dL_law_255 rfl rfl ?_
        refine s_iload_n X 3 dL_law_256 rfl rfl ?_
        refine s_iconst X (v := (1 : Int32)) dL_law_257 rfl ?_
        refine s_iadd X dL_law_258 ?_
        obtain ⟨h13, hf⟩ := pk_chk hf
        refine s_sld X hnm.1 hnm.2.1 hnm.2.2.1 h13 dL_law_259 ?_
        obtain ⟨h14, hf⟩ := pk_chk hf
        obtain ⟨r16, M17, hc15, hf⟩ := pk_obd2 hf
        refine s_callV X (ci := 10) (k_X10_grid G hc15) rfl h14 wd1516 wd1517 wd1518 wd1519 wd138 cd_X10_grid ⟨Nat.le_of_ble_eq_true rfl, Nat.le_of_ble_eq_true rfl⟩ (Nat.le_of_ble_eq_true rfl) dL_law_260 ?_
        refine s_pop X dL_law_263 rfl ?_
        refine s_goto X (tgt := 1571) dL_law_264 rfl ?_
        obtain ⟨x18, e19, hf⟩ := pk_bnd hf
        refine s_iinc X (vs' := [(0, .ref b), (1, .ref (gB G + v1)), (2, .ref (gB G + v2)), (3, .int x18)]) 3 dL_law_1571 rfl (v := x18) e19.symm (Nat.le_of_ble_eq_true rfl) [1, 2, 3, 0] rfl ?_
        refine s_goto X (tgt := 18) dL_law_1574 rfl ?_
        exact ih _ _ _ _ hf
      have hf := hs6.2 c7
      have hs20 := pk_ite hf
      clear hf
      by_cases c21 : x4 = (1 : Int32)
      · have hf := hs20.1 c21
        refine s_swC X (v := (1 : Int32)) (tgt := 267) dL_law_32 c21 (by decide) (by decide) rfl rfl ?_
        refine s_aload_n X 1 dL_law_267 rfl rfl ?_
        refine s_aload_n X 0 dL_law_268 rfl rfl ?_
        refine s_iload_n X 3 dL_law_269 rfl rfl ?_
        refine s_iconst X (v := (1 : Int32)) dL_law_270 rfl ?_
        refine s_iadd X dL_law_271 ?_
        obtain ⟨h22, hf⟩ := pk_chk hf
        refine s_sld X hnm.1 hnm.2.1 hnm.2.2.1 h22 dL_law_272 ?_
        obtain ⟨h23, hf⟩ := pk_chk hf
        obtain ⟨r25, M26, hc24, hf⟩ := pk_obd2 hf
        refine s_callV X (ci := 9) (k_X9_plane G hc24) rfl h23 wd650 wd651 wd652 wd653 wd126 cd_X9_plane ⟨Nat.le_of_ble_eq_true rfl, Nat.le_of_ble_eq_true rfl⟩ (Nat.le_of_ble_eq_true rfl) dL_law_273 ?_
        refine s_pop X dL_law_276 rfl ?_
        refine s_aload_n X 2 dL_law_277 rfl rfl ?_
        refine s_aload_n X 0 dL_law_278 rfl rfl ?_
        refine s_iload_n X 3 dL_law_279 rfl rfl ?_
        refine s_iconst X (v := (1 : Int32)) dL_law_280 rfl ?_
        refine s_iadd X dL_law_281 ?_
        obtain ⟨h27, hf⟩ := pk_chk hf
        refine s_sld X hnm.1 hnm.2.1 hnm.2.2.1 h27 dL_law_282 ?_
        obtain ⟨h28, hf⟩ := pk_chk hf
        obtain ⟨r30, M31, hc29, hf⟩ := pk_obd2 hf
        refine s_callV X (ci := 10) (k_X10_plane G hc29) rfl h28 wd1527 wd1528 wd1529 wd1530 wd138 cd_X10_plane ⟨Nat.le_of_ble_eq_true rfl, Nat.le_of_ble_eq_true rfl⟩ (Nat.le_of_ble_eq_true rfl) dL_law_283 ?_
        refine s_pop X dL_law_286 rfl ?_
        refine s_goto X (tgt := 1571) dL_law_287 rfl ?_
        obtain ⟨x32, e33, hf⟩ := pk_bnd hf
        refine s_iinc X (vs' := [(0, .ref b), (1, .ref (gB G + v1)), (2, .ref (gB G + v2)), (3, .int x32)]) 3 dL_law_1571 rfl (v := x32) e33.symm (Nat.le_of_ble_eq_true rfl) [1, 2, 3, 0] rfl ?_
        refine s_goto X (tgt := 18) dL_law_1574 rfl ?_
        exact ih _ _ _ _ hf
      have hf := hs20.2 c21
      have hs34 := pk_ite hf
      clear hf
      by_cases c35 : x4 = (2 : Int32)
      · have hf := hs34.1 c35
        refine s_swC X (v := (2 : Int32)) (tgt := 290) dL_law_32 c35 (by decide) (by decide) rfl rfl ?_
        refine s_aload_n X 1 dL_law_290 rfl rfl ?_
        refine s_aload_n X 0 dL_law_291 rfl rfl ?_
        refine s_iload_n X 3 dL_law_292 rfl rfl ?_
        refine s_iconst X (v := (1 : Int32)) dL_law_293 rfl ?_
        refine s_iadd X dL_law_294 ?_
        obtain ⟨h36, hf⟩ := pk_chk hf
        refine s_sld X hnm.1 hnm.2.1 hnm.2.2.1 h36 dL_law_295 ?_
        obtain ⟨h37, hf⟩ := pk_chk hf
        obtain ⟨r39, M40, hc38, hf⟩ := pk_obd2 hf
        refine s_callV X (ci := 9) (k_X9_filled G hc38) rfl h37 wd660 wd661 wd662 wd663 wd126 cd_X9_filled ⟨Nat.le_of_ble_eq_true rfl, Nat.le_of_ble_eq_true rfl⟩ (Nat.le_of_ble_eq_true rfl) dL_law_296 ?_
        refine s_pop X dL_law_299 rfl ?_
        refine s_aload_n X 2 dL_law_300 rfl rfl ?_
        refine s_aload_n X 0 dL_law_301 rfl rfl ?_
        refine s_iload_n X 3 dL_law_302 rfl rfl ?_
        refine s_iconst X (v := (1 : Int32)) dL_law_303 rfl ?_
        refine s_iadd X dL_law_304 ?_
        obtain ⟨h41, hf⟩ := pk_chk hf
        refine s_sld X hnm.1 hnm.2.1 hnm.2.2.1 h41 dL_law_305 ?_
        obtain ⟨h42, hf⟩ := pk_chk hf
        obtain ⟨r44, M45, hc43, hf⟩ := pk_obd2 hf
        refine s_callV X (ci := 10) (k_X10_filled G hc43) rfl h42 wd1523 wd1524 wd1525 wd1526 wd138 cd_X10_filled ⟨Nat.le_of_ble_eq_true rfl, Nat.le_of_ble_eq_true rfl⟩ (Nat.le_of_ble_eq_true rfl) dL_law_306 ?_
        refine s_pop X dL_law_309 rfl ?_
        refine s_goto X (tgt := 1571) dL_law_310 rfl ?_
        obtain ⟨x46, e47, hf⟩ := pk_bnd hf
        refine s_iinc X (vs' := [(0, .ref b), (1, .ref (gB G + v1)), (2, .ref (gB G + v2)), (3, .int x46)]) 3 dL_law_1571 rfl (v := x46) e47.symm (Nat.le_of_ble_eq_true rfl) [1, 2, 3, 0] rfl ?_
        refine s_goto X (tgt := 18) dL_law_1574 rfl ?_
        exact ih _ _ _ _ hf
      have hf := hs34.2 c35
      have hs48 := pk_ite hf
      clear hf
      by_cases c49 : x4 = (3 : Int32)
      · have hf := hs48.1 c49
        refine s_swC X (v := (3 : Int32)) (tgt := 313) dL_law_32 c49 (by decide) (by decide) rfl rfl ?_
        refine s_aload_n X 1 dL_law_313 rfl rfl ?_
        refine s_aload_n X 0 dL_law_314 rfl rfl ?_
        refine s_iload_n X 3 dL_law_315 rfl rfl ?_
        refine s_iconst X (v := (1 : Int32)) dL_law_316 rfl ?_
        refine s_iadd X dL_law_317 ?_
        obtain ⟨h50, hf⟩ := pk_chk hf
        refine s_sld X hnm.1 hnm.2.1 hnm.2.2.1 h50 dL_law_318 ?_
        obtain ⟨h51, hf⟩ := pk_chk hf
        obtain ⟨r53, M54, hc52, hf⟩ := pk_obd2 hf
        refine s_callV X (ci := 9) (k_X9_majority G hc52) rfl h51 wd664 wd665 wd666 wd667 wd126 cd_X9_majority ⟨Nat.le_of_ble_eq_true rfl, Nat.le_of_ble_eq_true rfl⟩ (Nat.le_of_ble_eq_true rfl) dL_law_319 ?_
        refine s_pop X dL_law_322 rfl ?_
        refine s_aload_n X 2 dL_law_323 rfl rfl ?_
        refine s_aload_n X 0 dL_law_324 rfl rfl ?_
        refine s_iload_n X 3 dL_law_325 rfl rfl ?_
        refine s_iconst X (v := (1 : Int32)) dL_law_326 rfl ?_
        refine s_iadd X dL_law_327 ?_
        obtain ⟨h55, hf⟩ := pk_chk hf
        refine s_sld X hnm.1 hnm.2.1 hnm.2.2.1 h55 dL_law_328 ?_
        obtain ⟨h56, hf⟩ := pk_chk hf
        obtain ⟨r58, M59, hc57, hf⟩ := pk_obd2 hf
        refine s_callV X (ci := 10) (k_X10_majority G hc57) rfl h56 wd1531 wd1532 wd1533 wd1534 wd138 cd_X10_majority ⟨Nat.le_of_ble_eq_true rfl, Nat.le_of_ble_eq_true rfl⟩ (Nat.le_of_ble_eq_true rfl) dL_law_329 ?_
        refine s_pop X dL_law_332 rfl ?_
        refine s_goto X (tgt := 1571) dL_law_333 rfl ?_
        obtain ⟨x60, e61, hf⟩ := pk_bnd hf
        refine s_iinc X (vs' := [(0, .ref b), (1, .ref (gB G + v1)), (2, .ref (gB G + v2)), (3, .int x60)]) 3 dL_law_1571 rfl (v := x60) e61.symm (Nat.le_of_ble_eq_true rfl) [1, 2, 3, 0] rfl ?_
        refine s_goto X (tgt := 18) dL_law_1574 rfl ?_
        exact ih _ _ _ _ hf
      have hf := hs48.2 c49
      have hs62 := pk_ite hf
      clear hf
      by_cases c63 : x4 = (4 : Int32)
      · have hf := hs62.1 c63
        refine s_swC X (v := (4 : Int32)) (tgt := 336) dL_law_32 c63 (by decide) (by decide) rfl rfl ?_
        refine s_aload_n X 1 dL_law_336 rfl rfl ?_
        refine s_aload_n X 0 dL_law_337 rfl rfl ?_
        refine s_iload_n X 3 dL_law_338 rfl rfl ?_
        refine s_iconst X (v := (1 : Int32)) dL_law_339 rfl ?_
        refine s_iadd X dL_law_340 ?_
        obtain ⟨h64, hf⟩ := pk_chk hf
        refine s_sld X hnm.1 hnm.2.1 hnm.2.2.1 h64 dL_law_341 ?_
        obtain ⟨h65, hf⟩ := pk_chk hf
        obtain ⟨r67, M68, hc66, hf⟩ := pk_obd2 hf
        refine s_callV X (ci := 9) (k_X9_wheel G hc66) rfl h65 wd675 wd676 wd677 wd678 wd126 cd_X9_wheel ⟨Nat.le_of_ble_eq_true rfl, Nat.le_of_ble_eq_true rfl⟩ (Nat.le_of_ble_eq_true rfl) dL_law_342 ?_
        refine s_pop X dL_law_345 rfl ?_
        refine s_aload_n X 2 dL_law_346 rfl rfl ?_
        refine s_aload_n X 0 dL_law_347 rfl rfl ?_
        refine s_iload_n X 3 dL_law_348 rfl rfl ?_
        refine s_iconst X (v := (1 : Int32)) dL_law_349 rfl ?_
        refine s_iadd X dL_law_350 ?_
        obtain ⟨h69, hf⟩ := pk_chk hf
        refine s_sld X hnm.1 hnm.2.1 hnm.2.2.1 h69 dL_law_351 ?_
        obtain ⟨h70, hf⟩ := pk_chk hf
        obtain ⟨r72, M73, hc71, hf⟩ := pk_obd2 hf
        refine s_callV X (ci := 10) (k_X10_wheel G hc71) rfl h70 wd1538 wd1539 wd1540 wd1541 wd138 cd_X10_wheel ⟨Nat.le_of_ble_eq_true rfl, Nat.le_of_ble_eq_true rfl⟩ (Nat.le_of_ble_eq_true rfl) dL_law_352 ?_
        refine s_pop X dL_law_355 rfl ?_
        refine s_goto X (tgt := 1571) dL_law_356 rfl ?_
        obtain ⟨x74, e75, hf⟩ := pk_bnd hf
        refine s_iinc X (vs' := [(0, .ref b), (1, .ref (gB G + v1)), (2, .ref (gB G + v2)), (3, .int x74)]) 3 dL_law_1571 rfl (v := x74) e75.symm (Nat.le_of_ble_eq_true rfl) [1, 2, 3, 0] rfl ?_
        refine s_goto X (tgt := 18) dL_law_1574 rfl ?_
        exact ih _ _ _ _ hf
      have hf := hs62.2 c63
      have hs76 := pk_ite hf
      clear hf
      by_cases c77 : x4 = (5 : Int32)
      · have hf := hs76.1 c77
        refine s_swC X (v := (5 : Int32)) (tgt := 359) dL_law_32 c77 (by decide) (by decide) rfl rfl ?_
        refine s_aload_n X 1 dL_law_359 rfl rfl ?_
        refine s_aload_n X 0 dL_law_360 rfl rfl ?_
        refine s_iload_n X 3 dL_law_361 rfl rfl ?_
        refine s_iconst X (v := (1 : Int32)) dL_law_362 rfl ?_
        refine s_iadd X dL_law_363 ?_
        obtain ⟨h78, hf⟩ := pk_chk hf
        refine s_sld X hnm.1 hnm.2.1 hnm.2.2.1 h78 dL_law_364 ?_
        obtain ⟨h79, hf⟩ := pk_chk hf
        obtain ⟨r81, M82, hc80, hf⟩ := pk_obd2 hf
        refine s_callV X (ci := 9) (k_X9_tree G hc80) rfl h79 wd687 wd688 wd689 wd690 wd126 cd_X9_tree ⟨Nat.le_of_ble_eq_true rfl, Nat.le_of_ble_eq_true rfl⟩ (Nat.le_of_ble_eq_true rfl) dL_law_365 ?_
        refine s_pop X dL_law_368 rfl ?_
        refine s_aload_n X 2 dL_law_369 rfl rfl ?_
        refine s_aload_n X 0 dL_law_370 rfl rfl ?_
        refine s_iload_n X 3 dL_law_371 rfl rfl ?_
        refine s_iconst X (v := (1 : Int32)) dL_law_372 rfl ?_
        refine s_iadd X dL_law_373 ?_
        obtain ⟨h83, hf⟩ := pk_chk hf
        refine s_sld X hnm.1 hnm.2.1 hnm.2.2.1 h83 dL_law_374 ?_
        obtain ⟨h84, hf⟩ := pk_chk hf
        obtain ⟨r86, M87, hc85, hf⟩ := pk_obd2 hf
        refine s_callV X (ci := 10) (k_X10_tree G hc85) rfl h84 wd1546 wd1547 wd1548 wd1549 wd138 cd_X10_tree ⟨Nat.le_of_ble_eq_true rfl, Nat.le_of_ble_eq_true rfl⟩ (Nat.le_of_ble_eq_true rfl) dL_law_375 ?_
        refine s_pop X dL_law_378 rfl ?_
        refine s_goto X (tgt := 1571) dL_law_379 rfl ?_
        obtain ⟨x88, e89, hf⟩ := pk_bnd hf
        refine s_iinc X (vs' := [(0, .ref b), (1, .ref (gB G + v1)), (2, .ref (gB G + v2)), (3, .int x88)]) 3 dL_law_1571 rfl (v := x88) e89.symm (Nat.le_of_ble_eq_true rfl) [1, 2, 3, 0] rfl ?_
        refine s_goto X (tgt := 18) dL_law_1574 rfl ?_
        exact ih _ _ _ _ hf
      have hf := hs76.2 c77
      have hs90 := pk_ite hf
      clear hf
      by_cases c91 : x4 = (6 : Int32)
      · have hf := hs90.1 c91
        refine s_swC X (v := (6 : Int32)) (tgt := 382) dL_law_32 c91 (by decide) (by decide) rfl rfl ?_
        refine s_aload_n X 1 dL_law_382 rfl rfl ?_
        refine s_aload_n X 0 dL_law_383 rfl rfl ?_
        refine s_iload_n X 3 dL_law_384 rfl rfl ?_
        refine s_iconst X (v := (1 : Int32)) dL_law_385 rfl ?_
        refine s_iadd X dL_law_386 ?_
        obtain ⟨h92, hf⟩ := pk_chk hf
        refine s_sld X hnm.1 hnm.2.1 hnm.2.2.1 h92 dL_law_387 ?_
        refine s_aload_n X 0 dL_law_388 rfl rfl ?_
        refine s_iload_n X 3 dL_law_389 rfl rfl ?_
        refine s_iconst X (v := (2 : Int32)) dL_law_390 rfl ?_
        refine s_iadd X dL_law_391 ?_
        obtain ⟨h93, hf⟩ := pk_chk hf
        refine s_sld X hnm.1 hnm.2.1 hnm.2.2.1 h93 dL_law_392 ?_
        obtain ⟨h94, hf⟩ := pk_chk hf
        obtain ⟨r96, M97, hc95, hf⟩ := pk_obd2 hf
        refine s_callV X (ci := 9) (k_X9_within G hc95) rfl h94 wd695 wd696 wd697 wd698 wd126 cd_X9_within ⟨Nat.le_of_ble_eq_true rfl, Nat.le_of_ble_eq_true rfl⟩ (Nat.le_of_ble_eq_true rfl) dL_law_393 ?_
        refine s_aload_n X 2 dL_law_396 rfl rfl ?_
        refine s_aload_n X 0 dL_law_397 rfl rfl ?_
        refine s_iload_n X 3 dL_law_398 rfl rfl ?_
        refine s_iconst X (v := (1 : Int32)) dL_law_399 rfl ?_
        refine s_iadd X dL_law_400 ?_
        obtain ⟨h98, hf⟩ := pk_chk hf
        refine s_sld X hnm.1 hnm.2.1 hnm.2.2.1 h98 dL_law_401 ?_
        refine s_aload_n X 0 dL_law_402 rfl rfl ?_
        refine s_iload_n X 3 dL_law_403 rfl rfl ?_
        refine s_iconst X (v := (2 : Int32)) dL_law_404 rfl ?_
        refine s_iadd X dL_law_405 ?_
        obtain ⟨h99, hf⟩ := pk_chk hf
        refine s_sld X hnm.1 hnm.2.1 hnm.2.2.1 h99 dL_law_406 ?_
        obtain ⟨h100, hf⟩ := pk_chk hf
        obtain ⟨r102, M103, hc101, hf⟩ := pk_obd2 hf
        refine s_callV X (ci := 10) (k_X10_within G hc101) rfl h100 wd1550 wd1551 wd1552 wd1553 wd138 cd_X10_within ⟨Nat.le_of_ble_eq_true rfl, Nat.le_of_ble_eq_true rfl⟩ (Nat.le_of_ble_eq_true rfl) dL_law_407 ?_
        have hs104 := pk_ite hf
        clear hf
        refine s_icmp_eq X (tgt := 1571) dL_law_410 rfl (fun c105 => ?_) (fun c105 => ?_)
        · have hf := hs104.1 c105
          obtain ⟨x106, e107, hf⟩ := pk_bnd hf
          refine s_iinc X (vs' := [(0, .ref b), (1, .ref (gB G + v1)), (2, .ref (gB G + v2)), (3, .int x106)]) 3 dL_law_1571 rfl (v := x106) e107.symm (Nat.le_of_ble_eq_true rfl) [1, 2, 3, 0] rfl ?_
          refine s_goto X (tgt := 18) dL_law_1574 rfl ?_
          exact ih _ _ _ _ hf
        · have hf := hs104.2 c105
          refine s_iconst X (v := (0 : Int32)) dL_law_413 rfl ?_
          exact (pk_01 hf).elim
      have hf := hs90.2 c91
      have hs108 := pk_ite hf
      clear hf
      by_cases c109 : x4 = (7 : Int32)
      · have hf := hs108.1 c109
        refine s_swC X (v := (7 : Int32)) (tgt := 415) dL_law_32 c109 (by decide) (by decide) rfl rfl ?_
        refine s_aload_n X 1 dL_law_415 rfl rfl ?_
        refine s_aload_n X 0 dL_law_416 rfl rfl ?_
        refine s_iload_n X 3 dL_law_417 rfl rfl ?_
        refine s_iconst X (v := (1 : Int32)) dL_law_418 rfl ?_
        refine s_iadd X dL_law_419 ?_
        obtain ⟨h110, hf⟩ := pk_chk hf
        refine s_sld X hnm.1 hnm.2.1 hnm.2.2.1 h110 dL_law_420 ?_
        refine s_aload_n X 0 dL_law_421 rfl rfl ?_
        refine s_iload_n X 3 dL_law_422 rfl rfl ?_
        refine s_iconst X (v := (2 : Int32)) dL_law_423 rfl ?_
        refine s_iadd X dL_law_424 ?_
        obtain ⟨h111, hf⟩ := pk_chk hf
        refine s_sld X hnm.1 hnm.2.1 hnm.2.2.1 h111 dL_law_425 ?_
        obtain ⟨h112, hf⟩ := pk_chk hf
        obtain ⟨r114, M115, hc113, hf⟩ := pk_obd2 hf
        refine s_callV X (ci := 9) (k_X9_base G hc113) rfl h112 wd714 wd715 wd716 wd717 wd126 cd_X9_base ⟨Nat.le_of_ble_eq_true rfl, Nat.le_of_ble_eq_true rfl⟩ (Nat.le_of_ble_eq_true rfl) dL_law_426 ?_
        refine s_pop X dL_law_429 rfl ?_
        refine s_aload_n X 2 dL_law_430 rfl rfl ?_
        refine s_aload_n X 0 dL_law_431 rfl rfl ?_
        refine s_iload_n X 3 dL_law_432 rfl rfl ?_
        refine s_iconst X (v := (1 : Int32)) dL_law_433 rfl ?_
        refine s_iadd X dL_law_434 ?_
        obtain ⟨h116, hf⟩ := pk_chk hf
        refine s_sld X hnm.1 hnm.2.1 hnm.2.2.1 h116 dL_law_435 ?_
        refine s_aload_n X 0 dL_law_436 rfl rfl ?_
        refine s_iload_n X 3 dL_law_437 rfl rfl ?_
        refine s_iconst X (v := (2 : Int32)) dL_law_438 rfl ?_
        refine s_iadd X dL_law_439 ?_
        obtain ⟨h117, hf⟩ := pk_chk hf
        refine s_sld X hnm.1 hnm.2.1 hnm.2.2.1 h117 dL_law_440 ?_
        obtain ⟨h118, hf⟩ := pk_chk hf
        obtain ⟨r120, M121, hc119, hf⟩ := pk_obd2 hf
        refine s_callV X (ci := 10) (k_X10_base G hc119) rfl h118 wd1568 wd1569 wd1570 wd1571 wd138 cd_X10_base ⟨Nat.le_of_ble_eq_true rfl, Nat.le_of_ble_eq_true rfl⟩ (Nat.le_of_ble_eq_true rfl) dL_law_441 ?_
        refine s_pop X dL_law_444 rfl ?_
        refine s_goto X (tgt := 1571) dL_law_445 rfl ?_
        obtain ⟨x122, e123, hf⟩ := pk_bnd hf
        refine s_iinc X (vs' := [(0, .ref b), (1, .ref (gB G + v1)), (2, .ref (gB G + v2)), (3, .int x122)]) 3 dL_law_1571 rfl (v := x122) e123.symm (Nat.le_of_ble_eq_true rfl) [1, 2, 3, 0] rfl ?_
        refine s_goto X (tgt := 18) dL_law_1574 rfl ?_
        exact ih _ _ _ _ hf
      have hf := hs108.2 c109
      have hs124 := pk_ite hf
      clear hf
      by_cases c125 : x4 = (8 : Int32)
      · have hf := hs124.1 c125
        refine s_swC X (v := (8 : Int32)) (tgt := 448) dL_law_32 c125 (by decide) (by decide) rfl rfl ?_
        refine s_aload_n X 1 dL_law_448 rfl rfl ?_
        refine s_aload_n X 0 dL_law_449 rfl rfl ?_
        refine s_iload_n X 3 dL_law_450 rfl rfl ?_
        refine s_iconst X (v := (1 : Int32)) dL_law_451 rfl ?_
        refine s_iadd X dL_law_452 ?_
        obtain ⟨h126, hf⟩ := pk_chk hf
        refine s_sld X hnm.1 hnm.2.1 hnm.2.2.1 h126 dL_law_453 ?_
        refine s_aload_n X 0 dL_law_454 rfl rfl ?_
        refine s_iload_n X 3 dL_law_455 rfl rfl ?_
        refine s_iconst X (v := (2 : Int32)) dL_law_456 rfl ?_
        refine s_iadd X dL_law_457 ?_
        obtain ⟨h127, hf⟩ := pk_chk hf
        refine s_sld X hnm.1 hnm.2.1 hnm.2.2.1 h127 dL_law_458 ?_
        obtain ⟨h128, hf⟩ := pk_chk hf
        obtain ⟨r130, hc129, hf⟩ := pk_obd hf
        refine s_callV X (ci := 9) (k_X9_quorum G hc129) rfl h128 wd730 wd731 wd732 wd733 wd126 cd_X9_quorum ⟨Nat.le_of_ble_eq_true rfl, Nat.le_of_ble_eq_true rfl⟩ (Nat.le_of_ble_eq_true rfl) dL_law_459 ?_
        refine s_pop X dL_law_462 rfl ?_
        refine s_aload_n X 2 dL_law_463 rfl rfl ?_
        refine s_aload_n X 0 dL_law_464 rfl rfl ?_
        refine s_iload_n X 3 dL_law_465 rfl rfl ?_
        refine s_iconst X (v := (1 : Int32)) dL_law_466 rfl ?_
        refine s_iadd X dL_law_467 ?_
        obtain ⟨h131, hf⟩ := pk_chk hf
        refine s_sld X hnm.1 hnm.2.1 hnm.2.2.1 h131 dL_law_468 ?_
        refine s_aload_n X 0 dL_law_469 rfl rfl ?_
        refine s_iload_n X 3 dL_law_470 rfl rfl ?_
        refine s_iconst X (v := (2 : Int32)) dL_law_471 rfl ?_
        refine s_iadd X dL_law_472 ?_
        obtain ⟨h132, hf⟩ := pk_chk hf
        refine s_sld X hnm.1 hnm.2.1 hnm.2.2.1 h132 dL_law_473 ?_
        obtain ⟨h133, hf⟩ := pk_chk hf
        obtain ⟨r135, M136, hc134, hf⟩ := pk_obd2 hf
        refine s_callV X (ci := 10) (k_X10_quorum G hc134) rfl h133 wd1576 wd1577 wd1578 wd1579 wd138 cd_X10_quorum ⟨Nat.le_of_ble_eq_true rfl, Nat.le_of_ble_eq_true rfl⟩ (Nat.le_of_ble_eq_true rfl) dL_law_474 ?_
        refine s_pop X dL_law_477 rfl ?_
        refine s_goto X (tgt := 1571) dL_law_478 rfl ?_
        obtain ⟨x137, e138, hf⟩ := pk_bnd hf
        refine s_iinc X (vs' := [(0, .ref b), (1, .ref (gB G + v1)), (2, .ref (gB G + v2)), (3, .int x137)]) 3 dL_law_1571 rfl (v := x137) e138.symm (Nat.le_of_ble_eq_true rfl) [1, 2, 3, 0] rfl ?_
        refine s_goto X (tgt := 18) dL_law_1574 rfl ?_
        exact ih _ _ _ _ hf
      have hf := hs124.2 c125
      have hs139 := pk_ite hf
      clear hf
      by_cases c140 : x4 = (9 : Int32)
      · have hf := hs139.1 c140
        refine s_swC X (v := (9 : Int32)) (tgt := 481) dL_law_32 c140 (by decide) (by decide) rfl rfl ?_
        refine s_aload_n X 1 dL_law_481 rfl rfl ?_
        refine s_aload_n X 0 dL_law_482 rfl rfl ?_
        refine s_iload_n X 3 dL_law_483 rfl rfl ?_
        refine s_iconst X (v := (1 : Int32)) dL_law_484 rfl ?_
        refine s_iadd X dL_law_485 ?_
        obtain ⟨h141, hf⟩ := pk_chk hf
        refine s_sld X hnm.1 hnm.2.1 hnm.2.2.1 h141 dL_law_486 ?_
        refine s_aload_n X 0 dL_law_487 rfl rfl ?_
        refine s_iload_n X 3 dL_law_488 rfl rfl ?_
        refine s_iconst X (v := (2 : Int32)) dL_law_489 rfl ?_
        refine s_iadd X dL_law_490 ?_
        obtain ⟨h142, hf⟩ := pk_chk hf
        refine s_sld X hnm.1 hnm.2.1 hnm.2.2.1 h142 dL_law_491 ?_
        obtain ⟨h143, hf⟩ := pk_chk hf
        obtain ⟨r145, hc144, hf⟩ := pk_obd hf
        refine s_callV X (ci := 9) (k_X9_meeting G hc144) rfl h143 wd734 wd735 wd736 wd737 wd126 cd_X9_meeting ⟨Nat.le_of_ble_eq_true rfl, Nat.le_of_ble_eq_true rfl⟩ (Nat.le_of_ble_eq_true rfl) dL_law_492 ?_
        refine s_pop X dL_law_495 rfl ?_
        refine s_aload_n X 2 dL_law_496 rfl rfl ?_
        refine s_aload_n X 0 dL_law_497 rfl rfl ?_
        refine s_iload_n X 3 dL_law_498 rfl rfl ?_
        refine s_iconst X (v := (1 : Int32)) dL_law_499 rfl ?_
        refine s_iadd X dL_law_500 ?_
        obtain ⟨h146, hf⟩ := pk_chk hf
        refine s_sld X hnm.1 hnm.2.1 hnm.2.2.1 h146 dL_law_501 ?_
        refine s_aload_n X 0 dL_law_502 rfl rfl ?_
        refine s_iload_n X 3 dL_law_503 rfl rfl ?_
        refine s_iconst X (v := (2 : Int32)) dL_law_504 rfl ?_
        refine s_iadd X dL_law_505 ?_
        obtain ⟨h147, hf⟩ := pk_chk hf
        refine s_sld X hnm.1 hnm.2.1 hnm.2.2.1 h147 dL_law_506 ?_
        obtain ⟨h148, hf⟩ := pk_chk hf
        obtain ⟨r150, hc149, hf⟩ := pk_obd hf
        refine s_callV X (ci := 10) (k_X10_meeting G hc149) rfl h148 wd1600 wd1601 wd1602 wd1603 wd138 cd_X10_meeting ⟨Nat.le_of_ble_eq_true rfl, Nat.le_of_ble_eq_true rfl⟩ (Nat.le_of_ble_eq_true rfl) dL_law_507 ?_
        refine s_pop X dL_law_510 rfl ?_
        refine s_goto X (tgt := 1571) dL_law_511 rfl ?_
        obtain ⟨x151, e152, hf⟩ := pk_bnd hf
        refine s_iinc X (vs' := [(0, .ref b), (1, .ref (gB G + v1)), (2, .ref (gB G + v2)), (3, .int x151)]) 3 dL_law_1571 rfl (v := x151) e152.symm (Nat.le_of_ble_eq_true rfl) [1, 2, 3, 0] rfl ?_
        refine s_goto X (tgt := 18) dL_law_1574 rfl ?_
        exact ih _ _ _ _ hf
      have hf := hs139.2 c140
      have hs153 := pk_ite hf
      clear hf
      by_cases c154 : x4 = (10 : Int32)
      · have hf := hs153.1 c154
        refine s_swC X (v := (10 : Int32)) (tgt := 514) dL_law_32 c154 (by decide) (by decide) rfl rfl ?_
        refine s_aload_n X 1 dL_law_514 rfl rfl ?_
        obtain ⟨h155, hf⟩ := pk_chk hf
        obtain ⟨r157, hc156, hf⟩ := pk_obd hf
        refine s_callV X (ci := 9) (k_X9_apart G hc156) rfl h155 wd747 wd748 wd749 wd750 wd126 cd_X9_apart ⟨Nat.le_of_ble_eq_true rfl, Nat.le_of_ble_eq_true rfl⟩ (Nat.le_of_ble_eq_true rfl) dL_law_515 ?_
        refine s_pop X dL_law_518 rfl ?_
        refine s_aload_n X 2 dL_law_519 rfl rfl ?_
        obtain ⟨h158, hf⟩ := pk_chk hf
        obtain ⟨r160, hc159, hf⟩ := pk_obd hf
        refine s_callV X (ci := 10) (k_X10_apart G hc159) rfl h158 wd1607 wd1573 wd1574 wd1575 wd138 cd_X10_apart ⟨Nat.le_of_ble_eq_true rfl, Nat.le_of_ble_eq_true rfl⟩ (Nat.le_of_ble_eq_true rfl) dL_law_520 ?_
        refine s_pop X dL_law_523 rfl ?_
        refine s_goto X (tgt := 1571) dL_law_524 rfl ?_
        obtain ⟨x161, e162, hf⟩ := pk_bnd hf
        refine s_iinc X (vs' := [(0, .ref b), (1, .ref (gB G + v1)), (2, .ref (gB G + v2)), (3, .int x161)]) 3 dL_law_1571 rfl (v := x161) e162.symm (Nat.le_of_ble_eq_true rfl) [1, 2, 3, 0] rfl ?_
        refine s_goto X (tgt := 18) dL_law_1574 rfl ?_
        exact ih _ _ _ _ hf
      have hf := hs153.2 c154
      have hs163 := pk_ite hf
      clear hf
      by_cases c164 : x4 = (11 : Int32)
      · have hf := hs163.1 c164
        refine s_swC X (v := (11 : Int32)) (tgt := 527) dL_law_32 c164 (by decide) (by decide) rfl rfl ?_
        refine s_aload_n X 1 dL_law_527 rfl rfl ?_
        refine s_aload_n X 0 dL_law_528 rfl rfl ?_
        refine s_iload_n X 3 dL_law_529 rfl rfl ?_
        refine s_iconst X (v := (1 : Int32)) dL_law_530 rfl ?_
        refine s_iadd X dL_law_531 ?_
        obtain ⟨h165, hf⟩ := pk_chk hf
        refine s_sld X hnm.1 hnm.2.1 hnm.2.2.1 h165 dL_law_532 ?_
        obtain ⟨h166, hf⟩ := pk_chk hf
        obtain ⟨r168, hc167, hf⟩ := pk_obd hf
        refine s_callV X (ci := 9) (k_X9_load G hc167) rfl h166 wd751 wd752 wd753 wd754 wd126 cd_X9_load ⟨Nat.le_of_ble_eq_true rfl, Nat.le_of_ble_eq_true rfl⟩ (Nat.le_of_ble_eq_true rfl) dL_law_533 ?_
        refine s_pop X dL_law_536 rfl ?_
        refine s_aload_n X 2 dL_law_537 rfl rfl ?_
        refine s_aload_n X 0 dL_law_538 rfl rfl ?_
        refine s_iload_n X 3 dL_law_539 rfl rfl ?_
        refine s_iconst X (v := (1 : Int32)) dL_law_540 rfl ?_
        refine s_iadd X dL_law_541 ?_
        obtain ⟨h169, hf⟩ := pk_chk hf
        refine s_sld X hnm.1 hnm.2.1 hnm.2.2.1 h169 dL_law_542 ?_
        obtain ⟨h170, hf⟩ := pk_chk hf
        obtain ⟨r172, hc171, hf⟩ := pk_obd hf
        refine s_callV X (ci := 10) (k_X10_load G hc171) rfl h170 wd1608 wd1609 wd1610 wd1611 wd138 cd_X10_load ⟨Nat.le_of_ble_eq_true rfl, Nat.le_of_ble_eq_true rfl⟩ (Nat.le_of_ble_eq_true rfl) dL_law_543 ?_
        refine s_pop X dL_law_546 rfl ?_
        refine s_goto X (tgt := 1571) dL_law_547 rfl ?_
        obtain ⟨x173, e174, hf⟩ := pk_bnd hf
        refine s_iinc X (vs' := [(0, .ref b), (1, .ref (gB G + v1)), (2, .ref (gB G + v2)), (3, .int x173)]) 3 dL_law_1571 rfl (v := x173) e174.symm (Nat.le_of_ble_eq_true rfl) [1, 2, 3, 0] rfl ?_
        refine s_goto X (tgt := 18) dL_law_1574 rfl ?_
        exact ih _ _ _ _ hf
      have hf := hs163.2 c164
      have hs175 := pk_ite hf
      clear hf
      by_cases c176 : x4 = (12 : Int32)
      · have hf := hs175.1 c176
        refine s_swC X (v := (12 : Int32)) (tgt := 550) dL_law_32 c176 (by decide) (by decide) rfl rfl ?_
        refine s_aload_n X 1 dL_law_550 rfl rfl ?_
        refine s_aload_n X 0 dL_law_551 rfl rfl ?_
        refine s_iload_n X 3 dL_law_552 rfl rfl ?_
        refine s_iconst X (v := (1 : Int32)) dL_law_553 rfl ?_
        refine s_iadd X dL_law_554 ?_
        obtain ⟨h177, hf⟩ := pk_chk hf
        refine s_sld X hnm.1 hnm.2.1 hnm.2.2.1 h177 dL_law_555 ?_
        obtain ⟨h178, hf⟩ := pk_chk hf
        obtain ⟨r180, M181, hc179, hf⟩ := pk_obd2 hf
        refine s_callV X (ci := 9) (k_X9_stops G hc179) rfl h178 wd759 wd760 wd761 wd762 wd126 cd_X9_stops ⟨Nat.le_of_ble_eq_true rfl, Nat.le_of_ble_eq_true rfl⟩ (Nat.le_of_ble_eq_true rfl) dL_law_556 ?_
        refine s_pop X dL_law_559 rfl ?_
        refine s_aload_n X 2 dL_law_560 rfl rfl ?_
        refine s_aload_n X 0 dL_law_561 rfl rfl ?_
        refine s_iload_n X 3 dL_law_562 rfl rfl ?_
        refine s_iconst X (v := (1 : Int32)) dL_law_563 rfl ?_
        refine s_iadd X dL_law_564 ?_
        obtain ⟨h182, hf⟩ := pk_chk hf
        refine s_sld X hnm.1 hnm.2.1 hnm.2.2.1 h182 dL_law_565 ?_
        obtain ⟨h183, hf⟩ := pk_chk hf
        obtain ⟨r185, M186, hc184, hf⟩ := pk_obd2 hf
        refine s_callV X (ci := 10) (k_X10_stops G hc184) rfl h183 wd1612 wd1613 wd1614 wd1615 wd138 cd_X10_stops ⟨Nat.le_of_ble_eq_true rfl, Nat.le_of_ble_eq_true rfl⟩ (Nat.le_of_ble_eq_true rfl) dL_law_566 ?_
        refine s_pop X dL_law_569 rfl ?_
        refine s_goto X (tgt := 1571) dL_law_570 rfl ?_
        obtain ⟨x187, e188, hf⟩ := pk_bnd hf
        refine s_iinc X (vs' := [(0, .ref b), (1, .ref (gB G + v1)), (2, .ref (gB G + v2)), (3, .int x187)]) 3 dL_law_1571 rfl (v := x187) e188.symm (Nat.le_of_ble_eq_true rfl) [1, 2, 3, 0] rfl ?_
        refine s_goto X (tgt := 18) dL_law_1574 rfl ?_
        exact ih _ _ _ _ hf
      have hf := hs175.2 c176
      have hs189 := pk_ite hf
      clear hf
      by_cases c190 : x4 = (13 : Int32)
      · have hf := hs189.1 c190
        refine s_swC X (v := (13 : Int32)) (tgt := 573) dL_law_32 c190 (by decide) (by decide) rfl rfl ?_
        refine s_aload_n X 1 dL_law_573 rfl rfl ?_
        refine s_aload_n X 0 dL_law_574 rfl rfl ?_
        refine s_iload_n X 3 dL_law_575 rfl rfl ?_
        refine s_iconst X (v := (1 : Int32)) dL_law_576 rfl ?_
        refine s_iadd X dL_law_577 ?_
        obtain ⟨h191, hf⟩ := pk_chk hf
        refine s_sld X hnm.1 hnm.2.1 hnm.2.2.1 h191 dL_law_578 ?_
        obtain ⟨h192, hf⟩ := pk_chk hf
        obtain ⟨r194, M195, hc193, hf⟩ := pk_obd2 hf
        refine s_callV X (ci := 9) (k_X9_weakest G hc193) rfl h192 wd780 wd781 wd782 wd783 wd126 cd_X9_weakest ⟨Nat.le_of_ble_eq_true rfl, Nat.le_of_ble_eq_true rfl⟩ (Nat.le_of_ble_eq_true rfl) dL_law_579 ?_
        refine s_pop X dL_law_582 rfl ?_
        refine s_aload_n X 2 dL_law_583 rfl rfl ?_
        refine s_aload_n X 0 dL_law_584 rfl rfl ?_
        refine s_iload_n X 3 dL_law_585 rfl rfl ?_
        refine s_iconst X (v := (1 : Int32)) dL_law_586 rfl ?_
        refine s_iadd X dL_law_587 ?_
        obtain ⟨h196, hf⟩ := pk_chk hf
        refine s_sld X hnm.1 hnm.2.1 hnm.2.2.1 h196 dL_law_588 ?_
        obtain ⟨h197, hf⟩ := pk_chk hf
        obtain ⟨r199, M200, hc198, hf⟩ := pk_obd2 hf
        refine s_callV X (ci := 10) (k_X10_weakest G hc198) rfl h197 wd1620 wd1621 wd1622 wd1623 wd138 cd_X10_weakest ⟨Nat.le_of_ble_eq_true rfl, Nat.le_of_ble_eq_true rfl⟩ (Nat.le_of_ble_eq_true rfl) dL_law_589 ?_
        refine s_pop X dL_law_592 rfl ?_
        refine s_goto X (tgt := 1571) dL_law_593 rfl ?_
        obtain ⟨x201, e202, hf⟩ := pk_bnd hf
        refine s_iinc X (vs' := [(0, .ref b), (1, .ref (gB G + v1)), (2, .ref (gB G + v2)), (3, .int x201)]) 3 dL_law_1571 rfl (v := x201) e202.symm (Nat.le_of_ble_eq_true rfl) [1, 2, 3, 0] rfl ?_
        refine s_goto X (tgt := 18) dL_law_1574 rfl ?_
        exact ih _ _ _ _ hf
      have hf := hs189.2 c190
      have hs203 := pk_ite hf
      clear hf
      by_cases c204 : x4 = (14 : Int32)
      · have hf := hs203.1 c204
        refine s_swC X (v := (14 : Int32)) (tgt := 596) dL_law_32 c204 (by decide) (by decide) rfl rfl ?_
        refine s_aload_n X 1 dL_law_596 rfl rfl ?_
        obtain ⟨h205, hf⟩ := pk_chk hf
        obtain ⟨r207, hc206, hf⟩ := pk_obd hf
        refine s_callV X (ci := 9) (k_X9_needless G hc206) rfl h205 wd840 wd841 wd842 wd843 wd126 cd_X9_needless ⟨Nat.le_of_ble_eq_true rfl, Nat.le_of_ble_eq_true rfl⟩ (Nat.le_of_ble_eq_true rfl) dL_law_597 ?_
        refine s_pop X dL_law_600 rfl ?_
        refine s_aload_n X 2 dL_law_601 rfl rfl ?_
        obtain ⟨h208, hf⟩ := pk_chk hf
        obtain ⟨r210, hc209, hf⟩ := pk_obd hf
        refine s_callV X (ci := 10) (k_X10_needless G hc209) rfl h208 wd1627 wd1628 wd1629 wd1630 wd138 cd_X10_needless ⟨Nat.le_of_ble_eq_true rfl, Nat.le_of_ble_eq_true rfl⟩ (Nat.le_of_ble_eq_true rfl) dL_law_602 ?_
        refine s_pop X dL_law_605 rfl ?_
        refine s_goto X (tgt := 1571) dL_law_606 rfl ?_
        obtain ⟨x211, e212, hf⟩ := pk_bnd hf
        refine s_iinc X (vs' := [(0, .ref b), (1, .ref (gB G + v1)), (2, .ref (gB G + v2)), (3, .int x211)]) 3 dL_law_1571 rfl (v := x211) e212.symm (Nat.le_of_ble_eq_true rfl) [1, 2, 3, 0] rfl ?_
        refine s_goto X (tgt := 18) dL_law_1574 rfl ?_
        exact ih _ _ _ _ hf
      have hf := hs203.2 c204
      have hs213 := pk_ite hf
      clear hf
      by_cases c214 : x4 = (15 : Int32)
      · have hf := hs213.1 c214
        refine s_swC X (v := (15 : Int32)) (tgt := 609) dL_law_32 c214 (by decide) (by decide) rfl rfl ?_
        refine s_aload_n X 1 dL_law_609 rfl rfl ?_
        refine s_aload_n X 0 dL_law_610 rfl rfl ?_
        refine s_iload_n X 3 dL_law_611 rfl rfl ?_
        refine s_iconst X (v := (1 : Int32)) dL_law_612 rfl ?_
        refine s_iadd X dL_law_613 ?_
        obtain ⟨h215, hf⟩ := pk_chk hf
        refine s_sld X hnm.1 hnm.2.1 hnm.2.2.1 h215 dL_law_614 ?_
        obtain ⟨h216, hf⟩ := pk_chk hf
        obtain ⟨r218, M219, hc217, hf⟩ := pk_obd2 hf
        refine s_callV X (ci := 9) (k_X9_chance G hc217) rfl h216 wd852 wd853 wd854 wd855 wd126 cd_X9_chance ⟨Nat.le_of_ble_eq_true rfl, Nat.le_of_ble_eq_true rfl⟩ (Nat.le_of_ble_eq_true rfl) dL_law_615 ?_
        refine s_pop X dL_law_618 rfl ?_
        refine s_aload_n X 2 dL_law_619 rfl rfl ?_
        refine s_aload_n X 0 dL_law_620 rfl rfl ?_
        refine s_iload_n X 3 dL_law_621 rfl rfl ?_
        refine s_iconst X (v := (1 : Int32)) dL_law_622 rfl ?_
        refine s_iadd X dL_law_623 ?_
        obtain ⟨h220, hf⟩ := pk_chk hf
        refine s_sld X hnm.1 hnm.2.1 hnm.2.2.1 h220 dL_law_624 ?_
        obtain ⟨h221, hf⟩ := pk_chk hf
        obtain ⟨r223, M224, hc222, hf⟩ := pk_obd2 hf
        refine s_callV X (ci := 10) (k_X10_chance G hc222) rfl h221 wd1635 wd1636 wd1637 wd1638 wd138 cd_X10_chance ⟨Nat.le_of_ble_eq_true rfl, Nat.le_of_ble_eq_true rfl⟩ (Nat.le_of_ble_eq_true rfl) dL_law_625 ?_
        refine s_pop X dL_law_628 rfl ?_
        refine s_goto X (tgt := 1571) dL_law_629 rfl ?_
        obtain ⟨x225, e226, hf⟩ := pk_bnd hf
        refine s_iinc X (vs' := [(0, .ref b), (1, .ref (gB G + v1)), (2, .ref (gB G + v2)), (3, .int x225)]) 3 dL_law_1571 rfl (v := x225) e226.symm (Nat.le_of_ble_eq_true rfl) [1, 2, 3, 0] rfl ?_
        refine s_goto X (tgt := 18) dL_law_1574 rfl ?_
        exact ih _ _ _ _ hf
      have hf := hs213.2 c214
      have hs227 := pk_ite hf
      clear hf
      by_cases c228 : x4 = (16 : Int32)
      · have hf := hs227.1 c228
        refine s_swC X (v := (16 : Int32)) (tgt := 632) dL_law_32 c228 (by decide) (by decide) rfl rfl ?_
        refine s_aload_n X 1 dL_law_632 rfl rfl ?_
        refine s_aload_n X 0 dL_law_633 rfl rfl ?_
        refine s_iload_n X 3 dL_law_634 rfl rfl ?_
        refine s_iconst X (v := (1 : Int32)) dL_law_635 rfl ?_
        refine s_iadd X dL_law_636 ?_
        obtain ⟨h229, hf⟩ := pk_chk hf
        refine s_sld X hnm.1 hnm.2.1 hnm.2.2.1 h229 dL_law_637 ?_
        refine s_aload_n X 0 dL_law_638 rfl rfl ?_
        refine s_iload_n X 3 dL_law_639 rfl rfl ?_
        refine s_iconst X (v := (2 : Int32)) dL_law_640 rfl ?_
        refine s_iadd X dL_law_641 ?_
        obtain ⟨h230, hf⟩ := pk_chk hf
        refine s_sld X hnm.1 hnm.2.1 hnm.2.2.1 h230 dL_law_642 ?_
        obtain ⟨h231, hf⟩ := pk_chk hf
        obtain ⟨r233, M234, hc232, hf⟩ := pk_obd2 hf
        refine s_callV X (ci := 9) (k_X9_chanceOf G hc232) rfl h231 wd875 wd876 wd877 wd878 wd126 cd_X9_chanceOf ⟨Nat.le_of_ble_eq_true rfl, Nat.le_of_ble_eq_true rfl⟩ (Nat.le_of_ble_eq_true rfl) dL_law_643 ?_
        refine s_pop X dL_law_646 rfl ?_
        refine s_aload_n X 2 dL_law_647 rfl rfl ?_
        refine s_aload_n X 0 dL_law_648 rfl rfl ?_
        refine s_iload_n X 3 dL_law_649 rfl rfl ?_
        refine s_iconst X (v := (1 : Int32)) dL_law_650 rfl ?_
        refine s_iadd X dL_law_651 ?_
        obtain ⟨h235, hf⟩ := pk_chk hf
        refine s_sld X hnm.1 hnm.2.1 hnm.2.2.1 h235 dL_law_652 ?_
        refine s_aload_n X 0 dL_law_653 rfl rfl ?_
        refine s_iload_n X 3 dL_law_654 rfl rfl ?_
        refine s_iconst X (v := (2 : Int32)) dL_law_655 rfl ?_
        refine s_iadd X dL_law_656 ?_
        obtain ⟨h236, hf⟩ := pk_chk hf
        refine s_sld X hnm.1 hnm.2.1 hnm.2.2.1 h236 dL_law_657 ?_
        obtain ⟨h237, hf⟩ := pk_chk hf
        obtain ⟨r239, M240, hc238, hf⟩ := pk_obd2 hf
        refine s_callV X (ci := 10) (k_X10_chanceOf G hc238) rfl h237 wd1651 wd1652 wd1653 wd1654 wd138 cd_X10_chanceOf ⟨Nat.le_of_ble_eq_true rfl, Nat.le_of_ble_eq_true rfl⟩ (Nat.le_of_ble_eq_true rfl) dL_law_658 ?_
        refine s_pop X dL_law_661 rfl ?_
        refine s_goto X (tgt := 1571) dL_law_662 rfl ?_
        obtain ⟨x241, e242, hf⟩ := pk_bnd hf
        refine s_iinc X (vs' := [(0, .ref b), (1, .ref (gB G + v1)), (2, .ref (gB G + v2)), (3, .int x241)]) 3 dL_law_1571 rfl (v := x241) e242.symm (Nat.le_of_ble_eq_true rfl) [1, 2, 3, 0] rfl ?_
        refine s_goto X (tgt := 18) dL_law_1574 rfl ?_
        exact ih _ _ _ _ hf
      have hf := hs227.2 c228
      have hs243 := pk_ite hf
      clear hf
      by_cases c244 : x4 = (17 : Int32)
      · have hf := hs243.1 c244
        refine s_swC X (v := (17 : Int32)) (tgt := 665) dL_law_32 c244 (by decide) (by decide) rfl rfl ?_
        refine s_aload_n X 1 dL_law_665 rfl rfl ?_
        refine s_aload_n X 0 dL_law_666 rfl rfl ?_
        refine s_iload_n X 3 dL_law_667 rfl rfl ?_
        refine s_iconst X (v := (1 : Int32)) dL_law_668 rfl ?_
        refine s_iadd X dL_law_669 ?_
        obtain ⟨h245, hf⟩ := pk_chk hf
        refine s_sld X hnm.1 hnm.2.1 hnm.2.2.1 h245 dL_law_670 ?_
        obtain ⟨h246, hf⟩ := pk_chk hf
        obtain ⟨r248, hc247, hf⟩ := pk_obd hf
        refine s_callV X (ci := 9) (k_X9_sizes G hc247) rfl h246 wd879 wd880 wd881 wd882 wd126 cd_X9_sizes ⟨Nat.le_of_ble_eq_true rfl, Nat.le_of_ble_eq_true rfl⟩ (Nat.le_of_ble_eq_true rfl) dL_law_671 ?_
        refine s_pop X dL_law_674 rfl ?_
        refine s_aload_n X 2 dL_law_675 rfl rfl ?_
        refine s_aload_n X 0 dL_law_676 rfl rfl ?_
        refine s_iload_n X 3 dL_law_677 rfl rfl ?_
        refine s_iconst X (v := (1 : Int32)) dL_law_678 rfl ?_
        refine s_iadd X dL_law_679 ?_
        obtain ⟨h249, hf⟩ := pk_chk hf
        refine s_sld X hnm.1 hnm.2.1 hnm.2.2.1 h249 dL_law_680 ?_
        obtain ⟨h250, hf⟩ := pk_chk hf
        obtain ⟨r252, hc251, hf⟩ := pk_obd hf
        refine s_callV X (ci := 10) (k_X10_sizes G hc251) rfl h250 wd1655 wd1656 wd1657 wd1658 wd138 cd_X10_sizes ⟨Nat.le_of_ble_eq_true rfl, Nat.le_of_ble_eq_true rfl⟩ (Nat.le_of_ble_eq_true rfl) dL_law_681 ?_
        refine s_pop X dL_law_684 rfl ?_
        refine s_goto X (tgt := 1571) dL_law_685 rfl ?_
        obtain ⟨x253, e254, hf⟩ := pk_bnd hf
        refine s_iinc X (vs' := [(0, .ref b), (1, .ref (gB G + v1)), (2, .ref (gB G + v2)), (3, .int x253)]) 3 dL_law_1571 rfl (v := x253) e254.symm (Nat.le_of_ble_eq_true rfl) [1, 2, 3, 0] rfl ?_
        refine s_goto X (tgt := 18) dL_law_1574 rfl ?_
        exact ih _ _ _ _ hf
      have hf := hs243.2 c244
      have hs255 := pk_ite hf
      clear hf
      by_cases c256 : x4 = (18 : Int32)
      · have hf := hs255.1 c256
        refine s_swC X (v := (18 : Int32)) (tgt := 688) dL_law_32 c256 (by decide) (by decide) rfl rfl ?_
        refine s_aload_n X 1 dL_law_688 rfl rfl ?_
        refine s_aload_n X 0 dL_law_689 rfl rfl ?_
        refine s_iload_n X 3 dL_law_690 rfl rfl ?_
        refine s_iconst X (v := (1 : Int32)) dL_law_691 rfl ?_
        refine s_iadd X dL_law_692 ?_
        obtain ⟨h257, hf⟩ := pk_chk hf
        refine s_sld X hnm.1 hnm.2.1 hnm.2.2.1 h257 dL_law_693 ?_
        obtain ⟨h258, hf⟩ := pk_chk hf
        obtain ⟨r260, M261, hc259, hf⟩ := pk_obd2 hf
        refine s_callV X (ci := 9) (k_X9_pivotal G hc259) rfl h258 wd902 wd903 wd904 wd905 wd126 cd_X9_pivotal ⟨Nat.le_of_ble_eq_true rfl, Nat.le_of_ble_eq_true rfl⟩ (Nat.le_of_ble_eq_true rfl) dL_law_694 ?_
        refine s_pop X dL_law_697 rfl ?_
        refine s_aload_n X 2 dL_law_698 rfl rfl ?_
        refine s_aload_n X 0 dL_law_699 rfl rfl ?_
        refine s_iload_n X 3 dL_law_700 rfl rfl ?_
        refine s_iconst X (v := (1 : Int32)) dL_law_701 rfl ?_
        refine s_iadd X dL_law_702 ?_
        obtain ⟨h262, hf⟩ := pk_chk hf
        refine s_sld X hnm.1 hnm.2.1 hnm.2.2.1 h262 dL_law_703 ?_
        obtain ⟨h263, hf⟩ := pk_chk hf
        obtain ⟨r265, hc264, hf⟩ := pk_obd hf
        refine s_callV X (ci := 10) (k_X10_pivotal G hc264) rfl h263 wd1659 wd1660 wd1661 wd1662 wd138 cd_X10_pivotal ⟨Nat.le_of_ble_eq_true rfl, Nat.le_of_ble_eq_true rfl⟩ (Nat.le_of_ble_eq_true rfl) dL_law_704 ?_
        refine s_pop X dL_law_707 rfl ?_
        refine s_goto X (tgt := 1571) dL_law_708 rfl ?_
        obtain ⟨x266, e267, hf⟩ := pk_bnd hf
        refine s_iinc X (vs' := [(0, .ref b), (1, .ref (gB G + v1)), (2, .ref (gB G + v2)), (3, .int x266)]) 3 dL_law_1571 rfl (v := x266) e267.symm (Nat.le_of_ble_eq_true rfl) [1, 2, 3, 0] rfl ?_
        refine s_goto X (tgt := 18) dL_law_1574 rfl ?_
        exact ih _ _ _ _ hf
      have hf := hs255.2 c256
      have hs268 := pk_ite hf
      clear hf
      by_cases c269 : x4 = (19 : Int32)
      · have hf := hs268.1 c269
        refine s_swC X (v := (19 : Int32)) (tgt := 711) dL_law_32 c269 (by decide) (by decide) rfl rfl ?_
        refine s_aload_n X 1 dL_law_711 rfl rfl ?_
        obtain ⟨h270, hf⟩ := pk_chk hf
        obtain ⟨r272, hc271, hf⟩ := pk_obd hf
        refine s_callV X (ci := 9) (k_X9_fair G hc271) rfl h270 wd910 wd911 wd912 wd913 wd126 cd_X9_fair ⟨Nat.le_of_ble_eq_true rfl, Nat.le_of_ble_eq_true rfl⟩ (Nat.le_of_ble_eq_true rfl) dL_law_712 ?_
        refine s_pop X dL_law_715 rfl ?_
        refine s_aload_n X 2 dL_law_716 rfl rfl ?_
        obtain ⟨h273, hf⟩ := pk_chk hf
        obtain ⟨r275, hc274, hf⟩ := pk_obd hf
        refine s_callV X (ci := 10) (k_X10_fair G hc274) rfl h273 wd1667 wd1668 wd1669 wd1670 wd138 cd_X10_fair ⟨Nat.le_of_ble_eq_true rfl, Nat.le_of_ble_eq_true rfl⟩ (Nat.le_of_ble_eq_true rfl) dL_law_717 ?_
        refine s_pop X dL_law_720 rfl ?_
        refine s_goto X (tgt := 1571) dL_law_721 rfl ?_
        obtain ⟨x276, e277, hf⟩ := pk_bnd hf
        refine s_iinc X (vs' := [(0, .ref b), (1, .ref (gB G + v1)), (2, .ref (gB G + v2)), (3, .int x276)]) 3 dL_law_1571 rfl (v := x276) e277.symm (Nat.le_of_ble_eq_true rfl) [1, 2, 3, 0] rfl ?_
        refine s_goto X (tgt := 18) dL_law_1574 rfl ?_
        exact ih _ _ _ _ hf
      have hf := hs268.2 c269
      have hs278 := pk_ite hf
      clear hf
      by_cases c279 : x4 = (20 : Int32)
      · have hf := hs278.1 c279
        refine s_swC X (v := (20 : Int32)) (tgt := 724) dL_law_32 c279 (by decide) (by decide) rfl rfl ?_
        refine s_aload_n X 1 dL_law_724 rfl rfl ?_
        obtain ⟨h280, hf⟩ := pk_chk hf
        obtain ⟨r282, M283, hc281, hf⟩ := pk_obd2 hf
        refine s_callV X (ci := 9) (k_X9_better G hc281) rfl h280 wd919 wd920 wd921 wd922 wd126 cd_X9_better ⟨Nat.le_of_ble_eq_true rfl, Nat.le_of_ble_eq_true rfl⟩ (Nat.le_of_ble_eq_true rfl) dL_law_725 ?_
        refine s_pop X dL_law_728 rfl ?_
        refine s_aload_n X 2 dL_law_729 rfl rfl ?_
        obtain ⟨h284, hf⟩ := pk_chk hf
        obtain ⟨r286, hc285, hf⟩ := pk_obd hf
        refine s_callV X (ci := 10) (k_X10_better G hc285) rfl h284 wd1672 wd1673 wd1674 wd1675 wd138 cd_X10_better ⟨Nat.le_of_ble_eq_true rfl, Nat.le_of_ble_eq_true rfl⟩ (Nat.le_of_ble_eq_true rfl) dL_law_730 ?_
        refine s_pop X dL_law_733 rfl ?_
        refine s_goto X (tgt := 1571) dL_law_734 rfl ?_
        obtain ⟨x287, e288, hf⟩ := pk_bnd hf
        refine s_iinc X (vs' := [(0, .ref b), (1, .ref (gB G + v1)), (2, .ref (gB G + v2)), (3, .int x287)]) 3 dL_law_1571 rfl (v := x287) e288.symm (Nat.le_of_ble_eq_true rfl) [1, 2, 3, 0] rfl ?_
        refine s_goto X (tgt := 18) dL_law_1574 rfl ?_
        exact ih _ _ _ _ hf
      have hf := hs278.2 c279
      have hs289 := pk_ite hf
      clear hf
      by_cases c290 : x4 = (21 : Int32)
      · have hf := hs289.1 c290
        refine s_swC X (v := (21 : Int32)) (tgt := 737) dL_law_32 c290 (by decide) (by decide) rfl rfl ?_
        refine s_aload_n X 1 dL_law_737 rfl rfl ?_
        refine s_aload_n X 0 dL_law_738 rfl rfl ?_
        refine s_iload_n X 3 dL_law_739 rfl rfl ?_
        refine s_iconst X (v := (1 : Int32)) dL_law_740 rfl ?_
        refine s_iadd X dL_law_741 ?_
        obtain ⟨h291, hf⟩ := pk_chk hf
        refine s_sld X hnm.1 hnm.2.1 hnm.2.2.1 h291 dL_law_742 ?_
        obtain ⟨h292, hf⟩ := pk_chk hf
        obtain ⟨r294, M295, hc293, hf⟩ := pk_obd2 hf
        refine s_callV X (ci := 9) (k_X9_ask G hc293) rfl h292 wd927 wd928 wd929 wd930 wd126 cd_X9_ask ⟨Nat.le_of_ble_eq_true rfl, Nat.le_of_ble_eq_true rfl⟩ (Nat.le_of_ble_eq_true rfl) dL_law_743 ?_
        refine s_pop X dL_law_746 rfl ?_
        refine s_aload_n X 2 dL_law_747 rfl rfl ?_
        refine s_aload_n X 0 dL_law_748 rfl rfl ?_
        refine s_iload_n X 3 dL_law_749 rfl rfl ?_
        refine s_iconst X (v := (1 : Int32)) dL_law_750 rfl ?_
        refine s_iadd X dL_law_751 ?_
        obtain ⟨h296, hf⟩ := pk_chk hf
        refine s_sld X hnm.1 hnm.2.1 hnm.2.2.1 h296 dL_law_752 ?_
        obtain ⟨h297, hf⟩ := pk_chk hf
        obtain ⟨r299, M300, hc298, hf⟩ := pk_obd2 hf
        refine s_callV X (ci := 10) (k_X10_ask G hc298) rfl h297 wd1680 wd1681 wd1682 wd1683 wd138 cd_X10_ask ⟨Nat.le_of_ble_eq_true rfl, Nat.le_of_ble_eq_true rfl⟩ (Nat.le_of_ble_eq_true rfl) dL_law_753 ?_
        refine s_pop X dL_law_756 rfl ?_
        refine s_goto X (tgt := 1571) dL_law_757 rfl ?_
        obtain ⟨x301, e302, hf⟩ := pk_bnd hf
        refine s_iinc X (vs' := [(0, .ref b), (1, .ref (gB G + v1)), (2, .ref (gB G + v2)), (3, .int x301)]) 3 dL_law_1571 rfl (v := x301) e302.symm (Nat.le_of_ble_eq_true rfl) [1, 2, 3, 0] rfl ?_
        refine s_goto X (tgt := 18) dL_law_1574 rfl ?_
        exact ih _ _ _ _ hf
      have hf := hs289.2 c290
      have hs303 := pk_ite hf
      clear hf
      by_cases c304 : x4 = (22 : Int32)
      · have hf := hs303.1 c304
        refine s_swC X (v := (22 : Int32)) (tgt := 760) dL_law_32 c304 (by decide) (by decide) rfl rfl ?_
        refine s_aload_n X 1 dL_law_760 rfl rfl ?_
        refine s_aload_n X 0 dL_law_761 rfl rfl ?_
        refine s_iload_n X 3 dL_law_762 rfl rfl ?_
        refine s_iconst X (v := (1 : Int32)) dL_law_763 rfl ?_
        refine s_iadd X dL_law_764 ?_
        obtain ⟨h305, hf⟩ := pk_chk hf
        refine s_sld X hnm.1 hnm.2.1 hnm.2.2.1 h305 dL_law_765 ?_
        obtain ⟨h306, hf⟩ := pk_chk hf
        obtain ⟨r308, M309, hc307, hf⟩ := pk_obd2 hf
        refine s_callV X (ci := 9) (k_X9_leave G hc307) rfl h306 wd962 wd963 wd964 wd965 wd126 cd_X9_leave ⟨Nat.le_of_ble_eq_true rfl, Nat.le_of_ble_eq_true rfl⟩ (Nat.le_of_ble_eq_true rfl) dL_law_766 ?_
        refine s_pop X dL_law_769 rfl ?_
        refine s_aload_n X 2 dL_law_770 rfl rfl ?_
        refine s_aload_n X 0 dL_law_771 rfl rfl ?_
        refine s_iload_n X 3 dL_law_772 rfl rfl ?_
        refine s_iconst X (v := (1 : Int32)) dL_law_773 rfl ?_
        refine s_iadd X dL_law_774 ?_
        obtain ⟨h310, hf⟩ := pk_chk hf
        refine s_sld X hnm.1 hnm.2.1 hnm.2.2.1 h310 dL_law_775 ?_
        obtain ⟨h311, hf⟩ := pk_chk hf
        obtain ⟨r313, M314, hc312, hf⟩ := pk_obd2 hf
        refine s_callV X (ci := 10) (k_X10_leave G hc312) rfl h311 wd1707 wd1708 wd1709 wd1710 wd138 cd_X10_leave ⟨Nat.le_of_ble_eq_true rfl, Nat.le_of_ble_eq_true rfl⟩ (Nat.le_of_ble_eq_true rfl) dL_law_776 ?_
        refine s_pop X dL_law_779 rfl ?_
        refine s_goto X (tgt := 1571) dL_law_780 rfl ?_
        obtain ⟨x315, e316, hf⟩ := pk_bnd hf
        refine s_iinc X (vs' := [(0, .ref b), (1, .ref (gB G + v1)), (2, .ref (gB G + v2)), (3, .int x315)]) 3 dL_law_1571 rfl (v := x315) e316.symm (Nat.le_of_ble_eq_true rfl) [1, 2, 3, 0] rfl ?_
        refine s_goto X (tgt := 18) dL_law_1574 rfl ?_
        exact ih _ _ _ _ hf
      have hf := hs303.2 c304
      have hs317 := pk_ite hf
      clear hf
      by_cases c318 : x4 = (23 : Int32)
      · have hf := hs317.1 c318
        refine s_swC X (v := (23 : Int32)) (tgt := 783) dL_law_32 c318 (by decide) (by decide) rfl rfl ?_
        refine s_aload_n X 1 dL_law_783 rfl rfl ?_
        refine s_aload_n X 0 dL_law_784 rfl rfl ?_
        refine s_iload_n X 3 dL_law_785 rfl rfl ?_
        refine s_iconst X (v := (1 : Int32)) dL_law_786 rfl ?_
        refine s_iadd X dL_law_787 ?_
        obtain ⟨h319, hf⟩ := pk_chk hf
        refine s_sld X hnm.1 hnm.2.1 hnm.2.2.1 h319 dL_law_788 ?_
        refine s_aload_n X 0 dL_law_789 rfl rfl ?_
        refine s_iload_n X 3 dL_law_790 rfl rfl ?_
        refine s_iconst X (v := (2 : Int32)) dL_law_791 rfl ?_
        refine s_iadd X dL_law_792 ?_
        obtain ⟨h320, hf⟩ := pk_chk hf
        refine s_sld X hnm.1 hnm.2.1 hnm.2.2.1 h320 dL_law_793 ?_
        obtain ⟨h321, hf⟩ := pk_chk hf
        obtain ⟨r323, M324, hc322, hf⟩ := pk_obd2 hf
        refine s_callV X (ci := 9) (k_X9_bring G hc322) rfl h321 wd975 wd976 wd977 wd978 wd126 cd_X9_bring ⟨Nat.le_of_ble_eq_true rfl, Nat.le_of_ble_eq_true rfl⟩ (Nat.le_of_ble_eq_true rfl) dL_law_794 ?_
        refine s_pop X dL_law_797 rfl ?_
        refine s_aload_n X 2 dL_law_798 rfl rfl ?_
        refine s_aload_n X 0 dL_law_799 rfl rfl ?_
        refine s_iload_n X 3 dL_law_800 rfl rfl ?_
        refine s_iconst X (v := (1 : Int32)) dL_law_801 rfl ?_
        refine s_iadd X dL_law_802 ?_
        obtain ⟨h325, hf⟩ := pk_chk hf
        refine s_sld X hnm.1 hnm.2.1 hnm.2.2.1 h325 dL_law_803 ?_
        refine s_aload_n X 0 dL_law_804 rfl rfl ?_
        refine s_iload_n X 3 dL_law_805 rfl rfl ?_
        refine s_iconst X (v := (2 : Int32)) dL_law_806 rfl ?_
        refine s_iadd X dL_law_807 ?_
        obtain ⟨h326, hf⟩ := pk_chk hf
        refine s_sld X hnm.1 hnm.2.1 hnm.2.2.1 h326 dL_law_808 ?_
        obtain ⟨h327, hf⟩ := pk_chk hf
        obtain ⟨r329, M330, hc328, hf⟩ := pk_obd2 hf
        refine s_callV X (ci := 10) (k_X10_bring G hc328) rfl h327 wd1727 wd1728 wd1729 wd1730 wd138 cd_X10_bring ⟨Nat.le_of_ble_eq_true rfl, Nat.le_of_ble_eq_true rfl⟩ (Nat.le_of_ble_eq_true rfl) dL_law_809 ?_
        refine s_pop X dL_law_812 rfl ?_
        refine s_goto X (tgt := 1571) dL_law_813 rfl ?_
        obtain ⟨x331, e332, hf⟩ := pk_bnd hf
        refine s_iinc X (vs' := [(0, .ref b), (1, .ref (gB G + v1)), (2, .ref (gB G + v2)), (3, .int x331)]) 3 dL_law_1571 rfl (v := x331) e332.symm (Nat.le_of_ble_eq_true rfl) [1, 2, 3, 0] rfl ?_
        refine s_goto X (tgt := 18) dL_law_1574 rfl ?_
        exact ih _ _ _ _ hf
      have hf := hs317.2 c318
      have hs333 := pk_ite hf
      clear hf
      by_cases c334 : x4 = (24 : Int32)
      · have hf := hs333.1 c334
        refine s_swC X (v := (24 : Int32)) (tgt := 816) dL_law_32 c334 (by decide) (by decide) rfl rfl ?_
        refine s_aload_n X 1 dL_law_816 rfl rfl ?_
        refine s_aload_n X 0 dL_law_817 rfl rfl ?_
        refine s_iload_n X 3 dL_law_818 rfl rfl ?_
        refine s_iconst X (v := (1 : Int32)) dL_law_819 rfl ?_
        refine s_iadd X dL_law_820 ?_
        obtain ⟨h335, hf⟩ := pk_chk hf
        refine s_sld X hnm.1 hnm.2.1 hnm.2.2.1 h335 dL_law_821 ?_
        obtain ⟨h336, hf⟩ := pk_chk hf
        obtain ⟨r338, M339, hc337, hf⟩ := pk_obd2 hf
        refine s_callV X (ci := 9) (k_X9_withdraw G hc337) rfl h336 wd1070 wd1071 wd1072 wd1073 wd126 cd_X9_withdraw ⟨Nat.le_of_ble_eq_true rfl, Nat.le_of_ble_eq_true rfl⟩ (Nat.le_of_ble_eq_true rfl) dL_law_822 ?_
        refine s_pop X dL_law_825 rfl ?_
        refine s_aload_n X 2 dL_law_826 rfl rfl ?_
        refine s_aload_n X 0 dL_law_827 rfl rfl ?_
        refine s_iload_n X 3 dL_law_828 rfl rfl ?_
        refine s_iconst X (v := (1 : Int32)) dL_law_829 rfl ?_
        refine s_iadd X dL_law_830 ?_
        obtain ⟨h340, hf⟩ := pk_chk hf
        refine s_sld X hnm.1 hnm.2.1 hnm.2.2.1 h340 dL_law_831 ?_
        obtain ⟨h341, hf⟩ := pk_chk hf
        obtain ⟨r343, M344, hc342, hf⟩ := pk_obd2 hf
        refine s_callV X (ci := 10) (k_X10_withdraw G hc342) rfl h341 wd1719 wd1720 wd1721 wd1722 wd138 cd_X10_withdraw ⟨Nat.le_of_ble_eq_true rfl, Nat.le_of_ble_eq_true rfl⟩ (Nat.le_of_ble_eq_true rfl) dL_law_832 ?_
        refine s_pop X dL_law_835 rfl ?_
        refine s_goto X (tgt := 1571) dL_law_836 rfl ?_
        obtain ⟨x345, e346, hf⟩ := pk_bnd hf
        refine s_iinc X (vs' := [(0, .ref b), (1, .ref (gB G + v1)), (2, .ref (gB G + v2)), (3, .int x345)]) 3 dL_law_1571 rfl (v := x345) e346.symm (Nat.le_of_ble_eq_true rfl) [1, 2, 3, 0] rfl ?_
        refine s_goto X (tgt := 18) dL_law_1574 rfl ?_
        exact ih _ _ _ _ hf
      have hf := hs333.2 c334
      have hs347 := pk_ite hf
      clear hf
      by_cases c348 : x4 = (25 : Int32)
      · have hf := hs347.1 c348
        refine s_swC X (v := (25 : Int32)) (tgt := 839) dL_law_32 c348 (by decide) (by decide) rfl rfl ?_
        refine s_aload_n X 1 dL_law_839 rfl rfl ?_
        refine s_aload_n X 0 dL_law_840 rfl rfl ?_
        refine s_iload_n X 3 dL_law_841 rfl rfl ?_
        refine s_iconst X (v := (1 : Int32)) dL_law_842 rfl ?_
        refine s_iadd X dL_law_843 ?_
        obtain ⟨h349, hf⟩ := pk_chk hf
        refine s_sld X hnm.1 hnm.2.1 hnm.2.2.1 h349 dL_law_844 ?_
        obtain ⟨h350, hf⟩ := pk_chk hf
        obtain ⟨r352, M353, hc351, hf⟩ := pk_obd2 hf
        refine s_callV X (ci := 9) (k_X9_breakDown G hc351) rfl h350 wd1074 wd1075 wd1076 wd1077 wd126 cd_X9_breakDown ⟨Nat.le_of_ble_eq_true rfl, Nat.le_of_ble_eq_true rfl⟩ (Nat.le_of_ble_eq_true rfl) dL_law_845 ?_
        refine s_pop X dL_law_848 rfl ?_
        refine s_aload_n X 2 dL_law_849 rfl rfl ?_
        refine s_aload_n X 0 dL_law_850 rfl rfl ?_
        refine s_iload_n X 3 dL_law_851 rfl rfl ?_
        refine s_iconst X (v := (1 : Int32)) dL_law_852 rfl ?_
        refine s_iadd X dL_law_853 ?_
        obtain ⟨h354, hf⟩ := pk_chk hf
        refine s_sld X hnm.1 hnm.2.1 hnm.2.2.1 h354 dL_law_854 ?_
        obtain ⟨h355, hf⟩ := pk_chk hf
        obtain ⟨r357, M358, hc356, hf⟩ := pk_obd2 hf
        refine s_callV X (ci := 10) (k_X10_breakDown G hc356) rfl h355 wd1842 wd1843 wd1844 wd1845 wd138 cd_X10_breakDown ⟨Nat.le_of_ble_eq_true rfl, Nat.le_of_ble_eq_true rfl⟩ (Nat.le_of_ble_eq_true rfl) dL_law_855 ?_
        refine s_pop X dL_law_858 rfl ?_
        refine s_goto X (tgt := 1571) dL_law_859 rfl ?_
        obtain ⟨x359, e360, hf⟩ := pk_bnd hf
        refine s_iinc X (vs' := [(0, .ref b), (1, .ref (gB G + v1)), (2, .ref (gB G + v2)), (3, .int x359)]) 3 dL_law_1571 rfl (v := x359) e360.symm (Nat.le_of_ble_eq_true rfl) [1, 2, 3, 0] rfl ?_
        refine s_goto X (tgt := 18) dL_law_1574 rfl ?_
        exact ih _ _ _ _ hf
      have hf := hs347.2 c348
      have hs361 := pk_ite hf
      clear hf
      by_cases c362 : x4 = (26 : Int32)
      · have hf := hs361.1 c362
        refine s_swC X (v := (26 : Int32)) (tgt := 862) dL_law_32 c362 (by decide) (by decide) rfl rfl ?_
        refine s_aload_n X 1 dL_law_862 rfl rfl ?_
        refine s_aload_n X 0 dL_law_863 rfl rfl ?_
        refine s_iload_n X 3 dL_law_864 rfl rfl ?_
        refine s_iconst X (v := (1 : Int32)) dL_law_865 rfl ?_
        refine s_iadd X dL_law_866 ?_
        obtain ⟨h363, hf⟩ := pk_chk hf
        refine s_sld X hnm.1 hnm.2.1 hnm.2.2.1 h363 dL_law_867 ?_
        obtain ⟨h364, hf⟩ := pk_chk hf
        obtain ⟨r366, M367, hc365, hf⟩ := pk_obd2 hf
        refine s_callV X (ci := 9) (k_X9_mend G hc365) rfl h364 wd1114 wd1115 wd1116 wd1117 wd126 cd_X9_mend ⟨Nat.le_of_ble_eq_true rfl, Nat.le_of_ble_eq_true rfl⟩ (Nat.le_of_ble_eq_true rfl) dL_law_868 ?_
        refine s_pop X dL_law_871 rfl ?_
        refine s_aload_n X 2 dL_law_872 rfl rfl ?_
        refine s_aload_n X 0 dL_law_873 rfl rfl ?_
        refine s_iload_n X 3 dL_law_874 rfl rfl ?_
        refine s_iconst X (v := (1 : Int32)) dL_law_875 rfl ?_
        refine s_iadd X dL_law_876 ?_
        obtain ⟨h368, hf⟩ := pk_chk hf
        refine s_sld X hnm.1 hnm.2.1 hnm.2.2.1 h368 dL_law_877 ?_
        obtain ⟨h369, hf⟩ := pk_chk hf
        obtain ⟨r371, M372, hc370, hf⟩ := pk_obd2 hf
        refine s_callV X (ci := 10) (k_X10_mend G hc370) rfl h369 wd1858 wd1859 wd1860 wd1861 wd138 cd_X10_mend ⟨Nat.le_of_ble_eq_true rfl, Nat.le_of_ble_eq_true rfl⟩ (Nat.le_of_ble_eq_true rfl) dL_law_878 ?_
        refine s_pop X dL_law_881 rfl ?_
        refine s_goto X (tgt := 1571) dL_law_882 rfl ?_
        obtain ⟨x373, e374, hf⟩ := pk_bnd hf
        refine s_iinc X (vs' := [(0, .ref b), (1, .ref (gB G + v1)), (2, .ref (gB G + v2)), (3, .int x373)]) 3 dL_law_1571 rfl (v := x373) e374.symm (Nat.le_of_ble_eq_true rfl) [1, 2, 3, 0] rfl ?_
        refine s_goto X (tgt := 18) dL_law_1574 rfl ?_
        exact ih _ _ _ _ hf
      have hf := hs361.2 c362
      have hs375 := pk_ite hf
      clear hf
      by_cases c376 : x4 = (27 : Int32)
      · have hf := hs375.1 c376
        refine s_swC X (v := (27 : Int32)) (tgt := 885) dL_law_32 c376 (by decide) (by decide) rfl rfl ?_
        refine s_aload_n X 1 dL_law_885 rfl rfl ?_
        refine s_aload_n X 0 dL_law_886 rfl rfl ?_
        refine s_iload_n X 3 dL_law_887 rfl rfl ?_
        refine s_iconst X (v := (1 : Int32)) dL_law_888 rfl ?_
        refine s_iadd X dL_law_889 ?_
        obtain ⟨h377, hf⟩ := pk_chk hf
        refine s_sld X hnm.1 hnm.2.1 hnm.2.2.1 h377 dL_law_890 ?_
        refine s_aload_n X 0 dL_law_891 rfl rfl ?_
        refine s_iload_n X 3 dL_law_892 rfl rfl ?_
        refine s_iconst X (v := (2 : Int32)) dL_law_893 rfl ?_
        refine s_iadd X dL_law_894 ?_
        obtain ⟨h378, hf⟩ := pk_chk hf
        refine s_sld X hnm.1 hnm.2.1 hnm.2.2.1 h378 dL_law_895 ?_
        obtain ⟨h379, hf⟩ := pk_chk hf
        obtain ⟨r381, hc380, hf⟩ := pk_obd hf
        refine s_callV X (ci := 9) (k_X9_node G hc380) rfl h379 wd1126 wd1127 wd1128 wd1129 wd126 cd_X9_node ⟨Nat.le_of_ble_eq_true rfl, Nat.le_of_ble_eq_true rfl⟩ (Nat.le_of_ble_eq_true rfl) dL_law_896 ?_
        refine s_pop X dL_law_899 rfl ?_
        refine s_aload_n X 2 dL_law_900 rfl rfl ?_
        refine s_aload_n X 0 dL_law_901 rfl rfl ?_
        refine s_iload_n X 3 dL_law_902 rfl rfl ?_
        refine s_iconst X (v := (1 : Int32)) dL_law_903 rfl ?_
        refine s_iadd X dL_law_904 ?_
        obtain ⟨h382, hf⟩ := pk_chk hf
        refine s_sld X hnm.1 hnm.2.1 hnm.2.2.1 h382 dL_law_905 ?_
        refine s_aload_n X 0 dL_law_906 rfl rfl ?_
        refine s_iload_n X 3 dL_law_907 rfl rfl ?_
        refine s_iconst X (v := (2 : Int32)) dL_law_908 rfl ?_
        refine s_iadd X dL_law_909 ?_
        obtain ⟨h383, hf⟩ := pk_chk hf
        refine s_sld X hnm.1 hnm.2.1 hnm.2.2.1 h383 dL_law_910 ?_
        obtain ⟨h384, hf⟩ := pk_chk hf
        obtain ⟨r386, hc385, hf⟩ := pk_obd hf
        refine s_callV X (ci := 10) (k_X10_node G hc385) rfl h384 wd1866 wd1867 wd1868 wd1869 wd138 cd_X10_node ⟨Nat.le_of_ble_eq_true rfl, Nat.le_of_ble_eq_true rfl⟩ (Nat.le_of_ble_eq_true rfl) dL_law_911 ?_
        refine s_pop X dL_law_914 rfl ?_
        refine s_goto X (tgt := 1571) dL_law_915 rfl ?_
        obtain ⟨x387, e388, hf⟩ := pk_bnd hf
        refine s_iinc X (vs' := [(0, .ref b), (1, .ref (gB G + v1)), (2, .ref (gB G + v2)), (3, .int x387)]) 3 dL_law_1571 rfl (v := x387) e388.symm (Nat.le_of_ble_eq_true rfl) [1, 2, 3, 0] rfl ?_
        refine s_goto X (tgt := 18) dL_law_1574 rfl ?_
        exact ih _ _ _ _ hf
      have hf := hs375.2 c376
      have hs389 := pk_ite hf
      clear hf
      by_cases c390 : x4 = (28 : Int32)
      · have hf := hs389.1 c390
        refine s_swC X (v := (28 : Int32)) (tgt := 918) dL_law_32 c390 (by decide) (by decide) rfl rfl ?_
        refine s_aload_n X 1 dL_law_918 rfl rfl ?_
        refine s_aload_n X 0 dL_law_919 rfl rfl ?_
        refine s_iload_n X 3 dL_law_920 rfl rfl ?_
        refine s_iconst X (v := (1 : Int32)) dL_law_921 rfl ?_
        refine s_iadd X dL_law_922 ?_
        obtain ⟨h391, hf⟩ := pk_chk hf
        refine s_sld X hnm.1 hnm.2.1 hnm.2.2.1 h391 dL_law_923 ?_
        refine s_aload_n X 0 dL_law_924 rfl rfl ?_
        refine s_iload_n X 3 dL_law_925 rfl rfl ?_
        refine s_iconst X (v := (2 : Int32)) dL_law_926 rfl ?_
        refine s_iadd X dL_law_927 ?_
        obtain ⟨h392, hf⟩ := pk_chk hf
        refine s_sld X hnm.1 hnm.2.1 hnm.2.2.1 h392 dL_law_928 ?_
        obtain ⟨h393, hf⟩ := pk_chk hf
        obtain ⟨r395, hc394, hf⟩ := pk_obd hf
        refine s_callV X (ci := 9) (k_X9_arbiter G hc394) rfl h393 wd1130 wd1131 wd1132 wd1133 wd126 cd_X9_arbiter ⟨Nat.le_of_ble_eq_true rfl, Nat.le_of_ble_eq_true rfl⟩ (Nat.le_of_ble_eq_true rfl) dL_law_929 ?_
        refine s_pop X dL_law_932 rfl ?_
        refine s_aload_n X 2 dL_law_933 rfl rfl ?_
        refine s_aload_n X 0 dL_law_934 rfl rfl ?_
        refine s_iload_n X 3 dL_law_935 rfl rfl ?_
        refine s_iconst X (v := (1 : Int32)) dL_law_936 rfl ?_
        refine s_iadd X dL_law_937 ?_
        obtain ⟨h396, hf⟩ := pk_chk hf
        refine s_sld X hnm.1 hnm.2.1 hnm.2.2.1 h396 dL_law_938 ?_
        refine s_aload_n X 0 dL_law_939 rfl rfl ?_
        refine s_iload_n X 3 dL_law_940 rfl rfl ?_
        refine s_iconst X (v := (2 : Int32)) dL_law_941 rfl ?_
        refine s_iadd X dL_law_942 ?_
        obtain ⟨h397, hf⟩ := pk_chk hf
        refine s_sld X hnm.1 hnm.2.1 hnm.2.2.1 h397 dL_law_943 ?_
        obtain ⟨h398, hf⟩ := pk_chk hf
        obtain ⟨r400, hc399, hf⟩ := pk_obd hf
        refine s_callV X (ci := 10) (k_X10_arbiter G hc399) rfl h398 wd1870 wd1871 wd1872 wd1873 wd138 cd_X10_arbiter ⟨Nat.le_of_ble_eq_true rfl, Nat.le_of_ble_eq_true rfl⟩ (Nat.le_of_ble_eq_true rfl) dL_law_944 ?_
        refine s_pop X dL_law_947 rfl ?_
        refine s_goto X (tgt := 1571) dL_law_948 rfl ?_
        obtain ⟨x401, e402, hf⟩ := pk_bnd hf
        refine s_iinc X (vs' := [(0, .ref b), (1, .ref (gB G + v1)), (2, .ref (gB G + v2)), (3, .int x401)]) 3 dL_law_1571 rfl (v := x401) e402.symm (Nat.le_of_ble_eq_true rfl) [1, 2, 3, 0] rfl ?_
        refine s_goto X (tgt := 18) dL_law_1574 rfl ?_
        exact ih _ _ _ _ hf
      have hf := hs389.2 c390
      have hs403 := pk_ite hf
      clear hf
      by_cases c404 : x4 = (29 : Int32)
      · have hf := hs403.1 c404
        refine s_swC X (v := (29 : Int32)) (tgt := 951) dL_law_32 c404 (by decide) (by decide) rfl rfl ?_
        refine s_aload_n X 1 dL_law_951 rfl rfl ?_
        refine s_aload_n X 0 dL_law_952 rfl rfl ?_
        refine s_iload_n X 3 dL_law_953 rfl rfl ?_
        refine s_iconst X (v := (1 : Int32)) dL_law_954 rfl ?_
        refine s_iadd X dL_law_955 ?_
        obtain ⟨h405, hf⟩ := pk_chk hf
        refine s_sld X hnm.1 hnm.2.1 hnm.2.2.1 h405 dL_law_956 ?_
        refine s_aload_n X 0 dL_law_957 rfl rfl ?_
        refine s_iload_n X 3 dL_law_958 rfl rfl ?_
        refine s_iconst X (v := (2 : Int32)) dL_law_959 rfl ?_
        refine s_iadd X dL_law_960 ?_
        obtain ⟨h406, hf⟩ := pk_chk hf
        refine s_sld X hnm.1 hnm.2.1 hnm.2.2.1 h406 dL_law_961 ?_
        refine s_aload_n X 0 dL_law_962 rfl rfl ?_
        refine s_iload_n X 3 dL_law_963 rfl rfl ?_
        refine s_iconst X (v := (3 : Int32)) dL_law_964 rfl ?_
        refine s_iadd X dL_law_965 ?_
        obtain ⟨h407, hf⟩ := pk_chk hf
        refine s_sld X hnm.1 hnm.2.1 hnm.2.2.1 h407 dL_law_966 ?_
        obtain ⟨h408, hf⟩ := pk_chk hf
        obtain ⟨r410, hc409, hf⟩ := pk_obd hf
        refine s_callV X (ci := 9) (k_X9_waiting G hc409) rfl h408 wd1134 wd1135 wd1136 wd1137 wd126 cd_X9_waiting ⟨Nat.le_of_ble_eq_true rfl, Nat.le_of_ble_eq_true rfl⟩ (Nat.le_of_ble_eq_true rfl) dL_law_967 ?_
        refine s_pop X dL_law_970 rfl ?_
        refine s_aload_n X 2 dL_law_971 rfl rfl ?_
        refine s_aload_n X 0 dL_law_972 rfl rfl ?_
        refine s_iload_n X 3 dL_law_973 rfl rfl ?_
        refine s_iconst X (v := (1 : Int32)) dL_law_974 rfl ?_
        refine s_iadd X dL_law_975 ?_
        obtain ⟨h411, hf⟩ := pk_chk hf
        refine s_sld X hnm.1 hnm.2.1 hnm.2.2.1 h411 dL_law_976 ?_
        refine s_aload_n X 0 dL_law_977 rfl rfl ?_
        refine s_iload_n X 3 dL_law_978 rfl rfl ?_
        refine s_iconst X (v := (2 : Int32)) dL_law_979 rfl ?_
        refine s_iadd X dL_law_980 ?_
        obtain ⟨h412, hf⟩ := pk_chk hf
        refine s_sld X hnm.1 hnm.2.1 hnm.2.2.1 h412 dL_law_981 ?_
        refine s_aload_n X 0 dL_law_982 rfl rfl ?_
        refine s_iload_n X 3 dL_law_983 rfl rfl ?_
        refine s_iconst X (v := (3 : Int32)) dL_law_984 rfl ?_
        refine s_iadd X dL_law_985 ?_
        obtain ⟨h413, hf⟩ := pk_chk hf
        refine s_sld X hnm.1 hnm.2.1 hnm.2.2.1 h413 dL_law_986 ?_
        obtain ⟨h414, hf⟩ := pk_chk hf
        obtain ⟨r416, hc415, hf⟩ := pk_obd hf
        refine s_callV X (ci := 10) (k_X10_waiting G hc415) rfl h414 wd1874 wd1875 wd1876 wd1877 wd138 cd_X10_waiting ⟨Nat.le_of_ble_eq_true rfl, Nat.le_of_ble_eq_true rfl⟩ (Nat.le_of_ble_eq_true rfl) dL_law_987 ?_
        refine s_pop X dL_law_990 rfl ?_
        refine s_goto X (tgt := 1571) dL_law_991 rfl ?_
        obtain ⟨x417, e418, hf⟩ := pk_bnd hf
        refine s_iinc X (vs' := [(0, .ref b), (1, .ref (gB G + v1)), (2, .ref (gB G + v2)), (3, .int x417)]) 3 dL_law_1571 rfl (v := x417) e418.symm (Nat.le_of_ble_eq_true rfl) [1, 2, 3, 0] rfl ?_
        refine s_goto X (tgt := 18) dL_law_1574 rfl ?_
        exact ih _ _ _ _ hf
      have hf := hs403.2 c404
      have hs419 := pk_ite hf
      clear hf
      by_cases c420 : x4 = (30 : Int32)
      · have hf := hs419.1 c420
        refine s_swC X (v := (30 : Int32)) (tgt := 994) dL_law_32 c420 (by decide) (by decide) rfl rfl ?_
        refine s_aload_n X 1 dL_law_994 rfl rfl ?_
        refine s_aload_n X 0 dL_law_995 rfl rfl ?_
        refine s_iload_n X 3 dL_law_996 rfl rfl ?_
        refine s_iconst X (v := (1 : Int32)) dL_law_997 rfl ?_
        refine s_iadd X dL_law_998 ?_
        obtain ⟨h421, hf⟩ := pk_chk hf
        refine s_sld X hnm.1 hnm.2.1 hnm.2.2.1 h421 dL_law_999 ?_
        refine s_aload_n X 0 dL_law_1000 rfl rfl ?_
        refine s_iload_n X 3 dL_law_1001 rfl rfl ?_
        refine s_iconst X (v := (2 : Int32)) dL_law_1002 rfl ?_
        refine s_iadd X dL_law_1003 ?_
        obtain ⟨h422, hf⟩ := pk_chk hf
        refine s_sld X hnm.1 hnm.2.1 hnm.2.2.1 h422 dL_law_1004 ?_
        refine s_aload_n X 0 dL_law_1005 rfl rfl ?_
        refine s_iload_n X 3 dL_law_1006 rfl rfl ?_
        refine s_iconst X (v := (3 : Int32)) dL_law_1007 rfl ?_
        refine s_iadd X dL_law_1008 ?_
        obtain ⟨h423, hf⟩ := pk_chk hf
        refine s_sld X hnm.1 hnm.2.1 hnm.2.2.1 h423 dL_law_1009 ?_
        obtain ⟨h424, hf⟩ := pk_chk hf
        obtain ⟨r426, hc425, hf⟩ := pk_obd hf
        refine s_callV X (ci := 9) (k_X9_way G hc425) rfl h424 wd1146 wd1147 wd1148 wd1149 wd126 cd_X9_way ⟨Nat.le_of_ble_eq_true rfl, Nat.le_of_ble_eq_true rfl⟩ (Nat.le_of_ble_eq_true rfl) dL_law_1010 ?_
        refine s_pop X dL_law_1013 rfl ?_
        refine s_aload_n X 2 dL_law_1014 rfl rfl ?_
        refine s_aload_n X 0 dL_law_1015 rfl rfl ?_
        refine s_iload_n X 3 dL_law_1016 rfl rfl ?_
        refine s_iconst X (v := (1 : Int32)) dL_law_1017 rfl ?_
        refine s_iadd X dL_law_1018 ?_
        obtain ⟨h427, hf⟩ := pk_chk hf
        refine s_sld X hnm.1 hnm.2.1 hnm.2.2.1 h427 dL_law_1019 ?_
        refine s_aload_n X 0 dL_law_1020 rfl rfl ?_
        refine s_iload_n X 3 dL_law_1021 rfl rfl ?_
        refine s_iconst X (v := (2 : Int32)) dL_law_1022 rfl ?_
        refine s_iadd X dL_law_1023 ?_
        obtain ⟨h428, hf⟩ := pk_chk hf
        refine s_sld X hnm.1 hnm.2.1 hnm.2.2.1 h428 dL_law_1024 ?_
        refine s_aload_n X 0 dL_law_1025 rfl rfl ?_
        refine s_iload_n X 3 dL_law_1026 rfl rfl ?_
        refine s_iconst X (v := (3 : Int32)) dL_law_1027 rfl ?_
        refine s_iadd X dL_law_1028 ?_
        obtain ⟨h429, hf⟩ := pk_chk hf
        refine s_sld X hnm.1 hnm.2.1 hnm.2.2.1 h429 dL_law_1029 ?_
        obtain ⟨h430, hf⟩ := pk_chk hf
        obtain ⟨r432, hc431, hf⟩ := pk_obd hf
        refine s_callV X (ci := 10) (k_X10_way G hc431) rfl h430 wd1878 wd1879 wd1880 wd1881 wd138 cd_X10_way ⟨Nat.le_of_ble_eq_true rfl, Nat.le_of_ble_eq_true rfl⟩ (Nat.le_of_ble_eq_true rfl) dL_law_1030 ?_
        refine s_pop X dL_law_1033 rfl ?_
        refine s_goto X (tgt := 1571) dL_law_1034 rfl ?_
        obtain ⟨x433, e434, hf⟩ := pk_bnd hf
        refine s_iinc X (vs' := [(0, .ref b), (1, .ref (gB G + v1)), (2, .ref (gB G + v2)), (3, .int x433)]) 3 dL_law_1571 rfl (v := x433) e434.symm (Nat.le_of_ble_eq_true rfl) [1, 2, 3, 0] rfl ?_
        refine s_goto X (tgt := 18) dL_law_1574 rfl ?_
        exact ih _ _ _ _ hf
      have hf := hs419.2 c420
      have hs435 := pk_ite hf
      clear hf
      by_cases c436 : x4 = (31 : Int32)
      · have hf := hs435.1 c436
        refine s_swC X (v := (31 : Int32)) (tgt := 1037) dL_law_32 c436 (by decide) (by decide) rfl rfl ?_
        refine s_aload_n X 1 dL_law_1037 rfl rfl ?_
        refine s_aload_n X 0 dL_law_1038 rfl rfl ?_
        refine s_iload_n X 3 dL_law_1039 rfl rfl ?_
        refine s_iconst X (v := (1 : Int32)) dL_law_1040 rfl ?_
        refine s_iadd X dL_law_1041 ?_
        obtain ⟨h437, hf⟩ := pk_chk hf
        refine s_sld X hnm.1 hnm.2.1 hnm.2.2.1 h437 dL_law_1042 ?_
        obtain ⟨h438, hf⟩ := pk_chk hf
        obtain ⟨r440, M441, hc439, hf⟩ := pk_obd2 hf
        refine s_callV X (ci := 9) (k_X9_is G hc439) rfl h438 wd1156 wd1157 wd1158 wd1159 wd126 cd_X9_is ⟨Nat.le_of_ble_eq_true rfl, Nat.le_of_ble_eq_true rfl⟩ (Nat.le_of_ble_eq_true rfl) dL_law_1043 ?_
        refine s_pop X dL_law_1046 rfl ?_
        refine s_aload_n X 2 dL_law_1047 rfl rfl ?_
        refine s_aload_n X 0 dL_law_1048 rfl rfl ?_
        refine s_iload_n X 3 dL_law_1049 rfl rfl ?_
        refine s_iconst X (v := (1 : Int32)) dL_law_1050 rfl ?_
        refine s_iadd X dL_law_1051 ?_
        obtain ⟨h442, hf⟩ := pk_chk hf
        refine s_sld X hnm.1 hnm.2.1 hnm.2.2.1 h442 dL_law_1052 ?_
        obtain ⟨h443, hf⟩ := pk_chk hf
        obtain ⟨r445, M446, hc444, hf⟩ := pk_obd2 hf
        refine s_callV X (ci := 10) (k_X10_is G hc444) rfl h443 wd1898 wd1899 wd1900 wd1901 wd138 cd_X10_is ⟨Nat.le_of_ble_eq_true rfl, Nat.le_of_ble_eq_true rfl⟩ (Nat.le_of_ble_eq_true rfl) dL_law_1053 ?_
        refine s_pop X dL_law_1056 rfl ?_
        refine s_goto X (tgt := 1571) dL_law_1057 rfl ?_
        obtain ⟨x447, e448, hf⟩ := pk_bnd hf
        refine s_iinc X (vs' := [(0, .ref b), (1, .ref (gB G + v1)), (2, .ref (gB G + v2)), (3, .int x447)]) 3 dL_law_1571 rfl (v := x447) e448.symm (Nat.le_of_ble_eq_true rfl) [1, 2, 3, 0] rfl ?_
        refine s_goto X (tgt := 18) dL_law_1574 rfl ?_
        exact ih _ _ _ _ hf
      have hf := hs435.2 c436
      have hs449 := pk_ite hf
      clear hf
      by_cases c450 : x4 = (32 : Int32)
      · have hf := hs449.1 c450
        refine s_swC X (v := (32 : Int32)) (tgt := 1060) dL_law_32 c450 (by decide) (by decide) rfl rfl ?_
        refine s_aload_n X 1 dL_law_1060 rfl rfl ?_
        refine s_aload_n X 0 dL_law_1061 rfl rfl ?_
        refine s_iload_n X 3 dL_law_1062 rfl rfl ?_
        refine s_iconst X (v := (1 : Int32)) dL_law_1063 rfl ?_
        refine s_iadd X dL_law_1064 ?_
        obtain ⟨h451, hf⟩ := pk_chk hf
        refine s_sld X hnm.1 hnm.2.1 hnm.2.2.1 h451 dL_law_1065 ?_
        obtain ⟨h452, hf⟩ := pk_chk hf
        obtain ⟨r454, hc453, hf⟩ := pk_obd hf
        refine s_callV X (ci := 9) (k_X9_handled G hc453) rfl h452 wd1172 wd1173 wd1174 wd1175 wd126 cd_X9_handled ⟨Nat.le_of_ble_eq_true rfl, Nat.le_of_ble_eq_true rfl⟩ (Nat.le_of_ble_eq_true rfl) dL_law_1066 ?_
        refine s_pop X dL_law_1069 rfl ?_
        refine s_aload_n X 2 dL_law_1070 rfl rfl ?_
        refine s_aload_n X 0 dL_law_1071 rfl rfl ?_
        refine s_iload_n X 3 dL_law_1072 rfl rfl ?_
        refine s_iconst X (v := (1 : Int32)) dL_law_1073 rfl ?_
        refine s_iadd X dL_law_1074 ?_
        obtain ⟨h455, hf⟩ := pk_chk hf
        refine s_sld X hnm.1 hnm.2.1 hnm.2.2.1 h455 dL_law_1075 ?_
        obtain ⟨h456, hf⟩ := pk_chk hf
        obtain ⟨r458, hc457, hf⟩ := pk_obd hf
        refine s_callV X (ci := 10) (k_X10_handled G hc457) rfl h456 wd1723 wd1724 wd1725 wd1726 wd138 cd_X10_handled ⟨Nat.le_of_ble_eq_true rfl, Nat.le_of_ble_eq_true rfl⟩ (Nat.le_of_ble_eq_true rfl) dL_law_1076 ?_
        refine s_pop X dL_law_1079 rfl ?_
        refine s_goto X (tgt := 1571) dL_law_1080 rfl ?_
        obtain ⟨x459, e460, hf⟩ := pk_bnd hf
        refine s_iinc X (vs' := [(0, .ref b), (1, .ref (gB G + v1)), (2, .ref (gB G + v2)), (3, .int x459)]) 3 dL_law_1571 rfl (v := x459) e460.symm (Nat.le_of_ble_eq_true rfl) [1, 2, 3, 0] rfl ?_
        refine s_goto X (tgt := 18) dL_law_1574 rfl ?_
        exact ih _ _ _ _ hf
      have hf := hs449.2 c450
      have hs461 := pk_ite hf
      clear hf
      by_cases c462 : x4 = (33 : Int32)
      · have hf := hs461.1 c462
        refine s_swC X (v := (33 : Int32)) (tgt := 1083) dL_law_32 c462 (by decide) (by decide) rfl rfl ?_
        refine s_aload_n X 1 dL_law_1083 rfl rfl ?_
        refine s_aload_n X 0 dL_law_1084 rfl rfl ?_
        refine s_iload_n X 3 dL_law_1085 rfl rfl ?_
        refine s_iconst X (v := (1 : Int32)) dL_law_1086 rfl ?_
        refine s_iadd X dL_law_1087 ?_
        obtain ⟨h463, hf⟩ := pk_chk hf
        refine s_sld X hnm.1 hnm.2.1 hnm.2.2.1 h463 dL_law_1088 ?_
        obtain ⟨h464, hf⟩ := pk_chk hf
        obtain ⟨r466, hc465, hf⟩ := pk_obd hf
        refine s_callV X (ci := 9) (k_X9_sent G hc465) rfl h464 wd1176 wd1177 wd1178 wd1179 wd126 cd_X9_sent ⟨Nat.le_of_ble_eq_true rfl, Nat.le_of_ble_eq_true rfl⟩ (Nat.le_of_ble_eq_true rfl) dL_law_1089 ?_
        refine s_pop X dL_law_1092 rfl ?_
        refine s_aload_n X 2 dL_law_1093 rfl rfl ?_
        refine s_aload_n X 0 dL_law_1094 rfl rfl ?_
        refine s_iload_n X 3 dL_law_1095 rfl rfl ?_
        refine s_iconst X (v := (1 : Int32)) dL_law_1096 rfl ?_
        refine s_iadd X dL_law_1097 ?_
        obtain ⟨h467, hf⟩ := pk_chk hf
        refine s_sld X hnm.1 hnm.2.1 hnm.2.2.1 h467 dL_law_1098 ?_
        obtain ⟨h468, hf⟩ := pk_chk hf
        obtain ⟨r470, hc469, hf⟩ := pk_obd hf
        refine s_callV X (ci := 10) (k_X10_sent G hc469) rfl h468 wd1918 wd1919 wd1920 wd1921 wd138 cd_X10_sent ⟨Nat.le_of_ble_eq_true rfl, Nat.le_of_ble_eq_true rfl⟩ (Nat.le_of_ble_eq_true rfl) dL_law_1099 ?_
        refine s_pop X dL_law_1102 rfl ?_
        refine s_goto X (tgt := 1571) dL_law_1103 rfl ?_
        obtain ⟨x471, e472, hf⟩ := pk_bnd hf
        refine s_iinc X (vs' := [(0, .ref b), (1, .ref (gB G + v1)), (2, .ref (gB G + v2)), (3, .int x471)]) 3 dL_law_1571 rfl (v := x471) e472.symm (Nat.le_of_ble_eq_true rfl) [1, 2, 3, 0] rfl ?_
        refine s_goto X (tgt := 18) dL_law_1574 rfl ?_
        exact ih _ _ _ _ hf
      have hf := hs461.2 c462
      have hs473 := pk_ite hf
      clear hf
      by_cases c474 : x4 = (34 : Int32)
      · have hf := hs473.1 c474
        refine s_swC X (v := (34 : Int32)) (tgt := 1106) dL_law_32 c474 (by decide) (by decide) rfl rfl ?_
        refine s_aload_n X 1 dL_law_1106 rfl rfl ?_
        refine s_aload_n X 0 dL_law_1107 rfl rfl ?_
        refine s_iload_n X 3 dL_law_1108 rfl rfl ?_
        refine s_iconst X (v := (1 : Int32)) dL_law_1109 rfl ?_
        refine s_iadd X dL_law_1110 ?_
        obtain ⟨h475, hf⟩ := pk_chk hf
        refine s_sld X hnm.1 hnm.2.1 hnm.2.2.1 h475 dL_law_1111 ?_
        refine s_aload_n X 0 dL_law_1112 rfl rfl ?_
        refine s_iload_n X 3 dL_law_1113 rfl rfl ?_
        refine s_iconst X (v := (2 : Int32)) dL_law_1114 rfl ?_
        refine s_iadd X dL_law_1115 ?_
        obtain ⟨h476, hf⟩ := pk_chk hf
        refine s_sld X hnm.1 hnm.2.1 hnm.2.2.1 h476 dL_law_1116 ?_
        obtain ⟨h477, hf⟩ := pk_chk hf
        obtain ⟨r479, hc478, hf⟩ := pk_obd hf
        refine s_callV X (ci := 9) (k_X9_book G hc478) rfl h477 wd1184 wd1185 wd1186 wd1187 wd126 cd_X9_book ⟨Nat.le_of_ble_eq_true rfl, Nat.le_of_ble_eq_true rfl⟩ (Nat.le_of_ble_eq_true rfl) dL_law_1117 ?_
        refine s_pop X dL_law_1120 rfl ?_
        refine s_aload_n X 2 dL_law_1121 rfl rfl ?_
        refine s_aload_n X 0 dL_law_1122 rfl rfl ?_
        refine s_iload_n X 3 dL_law_1123 rfl rfl ?_
        refine s_iconst X (v := (1 : Int32)) dL_law_1124 rfl ?_
        refine s_iadd X dL_law_1125 ?_
        obtain ⟨h480, hf⟩ := pk_chk hf
        refine s_sld X hnm.1 hnm.2.1 hnm.2.2.1 h480 dL_law_1126 ?_
        refine s_aload_n X 0 dL_law_1127 rfl rfl ?_
        refine s_iload_n X 3 dL_law_1128 rfl rfl ?_
        refine s_iconst X (v := (2 : Int32)) dL_law_1129 rfl ?_
        refine s_iadd X dL_law_1130 ?_
        obtain ⟨h481, hf⟩ := pk_chk hf
        refine s_sld X hnm.1 hnm.2.1 hnm.2.2.1 h481 dL_law_1131 ?_
        obtain ⟨h482, hf⟩ := pk_chk hf
        obtain ⟨r484, hc483, hf⟩ := pk_obd hf
        refine s_callV X (ci := 10) (k_X10_book G hc483) rfl h482 wd1926 wd1927 wd1928 wd1929 wd138 cd_X10_book ⟨Nat.le_of_ble_eq_true rfl, Nat.le_of_ble_eq_true rfl⟩ (Nat.le_of_ble_eq_true rfl) dL_law_1132 ?_
        refine s_pop X dL_law_1135 rfl ?_
        refine s_goto X (tgt := 1571) dL_law_1136 rfl ?_
        obtain ⟨x485, e486, hf⟩ := pk_bnd hf
        refine s_iinc X (vs' := [(0, .ref b), (1, .ref (gB G + v1)), (2, .ref (gB G + v2)), (3, .int x485)]) 3 dL_law_1571 rfl (v := x485) e486.symm (Nat.le_of_ble_eq_true rfl) [1, 2, 3, 0] rfl ?_
        refine s_goto X (tgt := 18) dL_law_1574 rfl ?_
        exact ih _ _ _ _ hf
      have hf := hs473.2 c474
      have hs487 := pk_ite hf
      clear hf
      by_cases c488 : x4 = (35 : Int32)
      · have hf := hs487.1 c488
        refine s_swC X (v := (35 : Int32)) (tgt := 1139) dL_law_32 c488 (by decide) (by decide) rfl rfl ?_
        refine s_aload_n X 1 dL_law_1139 rfl rfl ?_
        refine s_aload_n X 0 dL_law_1140 rfl rfl ?_
        refine s_iload_n X 3 dL_law_1141 rfl rfl ?_
        refine s_iconst X (v := (1 : Int32)) dL_law_1142 rfl ?_
        refine s_iadd X dL_law_1143 ?_
        obtain ⟨h489, hf⟩ := pk_chk hf
        refine s_sld X hnm.1 hnm.2.1 hnm.2.2.1 h489 dL_law_1144 ?_
        obtain ⟨h490, hf⟩ := pk_chk hf
        obtain ⟨r492, hc491, hf⟩ := pk_obd hf
        refine s_callV X (ci := 9) (k_X9_waitsFor G hc491) rfl h490 wd1192 wd1193 wd1194 wd1195 wd126 cd_X9_waitsFor ⟨Nat.le_of_ble_eq_true rfl, Nat.le_of_ble_eq_true rfl⟩ (Nat.le_of_ble_eq_true rfl) dL_law_1145 ?_
        refine s_pop X dL_law_1148 rfl ?_
        refine s_aload_n X 2 dL_law_1149 rfl rfl ?_
        refine s_aload_n X 0 dL_law_1150 rfl rfl ?_
        refine s_iload_n X 3 dL_law_1151 rfl rfl ?_
        refine s_iconst X (v := (1 : Int32)) dL_law_1152 rfl ?_
        refine s_iadd X dL_law_1153 ?_
        obtain ⟨h493, hf⟩ := pk_chk hf
        refine s_sld X hnm.1 hnm.2.1 hnm.2.2.1 h493 dL_law_1154 ?_
        obtain ⟨h494, hf⟩ := pk_chk hf
        obtain ⟨r496, hc495, hf⟩ := pk_obd hf
        refine s_callV X (ci := 10) (k_X10_waitsFor G hc495) rfl h494 wd1882 wd1883 wd1884 wd1885 wd138 cd_X10_waitsFor ⟨Nat.le_of_ble_eq_true rfl, Nat.le_of_ble_eq_true rfl⟩ (Nat.le_of_ble_eq_true rfl) dL_law_1155 ?_
        refine s_pop X dL_law_1158 rfl ?_
        refine s_goto X (tgt := 1571) dL_law_1159 rfl ?_
        obtain ⟨x497, e498, hf⟩ := pk_bnd hf
        refine s_iinc X (vs' := [(0, .ref b), (1, .ref (gB G + v1)), (2, .ref (gB G + v2)), (3, .int x497)]) 3 dL_law_1571 rfl (v := x497) e498.symm (Nat.le_of_ble_eq_true rfl) [1, 2, 3, 0] rfl ?_
        refine s_goto X (tgt := 18) dL_law_1574 rfl ?_
        exact ih _ _ _ _ hf
      have hf := hs487.2 c488
      have hs499 := pk_ite hf
      clear hf
      by_cases c500 : x4 = (36 : Int32)
      · have hf := hs499.1 c500
        refine s_swC X (v := (36 : Int32)) (tgt := 1162) dL_law_32 c500 (by decide) (by decide) rfl rfl ?_
        refine s_aload_n X 1 dL_law_1162 rfl rfl ?_
        refine s_aload_n X 0 dL_law_1163 rfl rfl ?_
        refine s_iload_n X 3 dL_law_1164 rfl rfl ?_
        refine s_iconst X (v := (1 : Int32)) dL_law_1165 rfl ?_
        refine s_iadd X dL_law_1166 ?_
        obtain ⟨h501, hf⟩ := pk_chk hf
        refine s_sld X hnm.1 hnm.2.1 hnm.2.2.1 h501 dL_law_1167 ?_
        obtain ⟨h502, hf⟩ := pk_chk hf
        obtain ⟨r504, hc503, hf⟩ := pk_obd hf
        refine s_callV X (ci := 9) (k_X9_unheard G hc503) rfl h502 wd1197 wd1198 wd1199 wd1200 wd126 cd_X9_unheard ⟨Nat.le_of_ble_eq_true rfl, Nat.le_of_ble_eq_true rfl⟩ (Nat.le_of_ble_eq_true rfl) dL_law_1168 ?_
        refine s_pop X dL_law_1171 rfl ?_
        refine s_aload_n X 2 dL_law_1172 rfl rfl ?_
        refine s_aload_n X 0 dL_law_1173 rfl rfl ?_
        refine s_iload_n X 3 dL_law_1174 rfl rfl ?_
        refine s_iconst X (v := (1 : Int32)) dL_law_1175 rfl ?_
        refine s_iadd X dL_law_1176 ?_
        obtain ⟨h505, hf⟩ := pk_chk hf
        refine s_sld X hnm.1 hnm.2.1 hnm.2.2.1 h505 dL_law_1177 ?_
        obtain ⟨h506, hf⟩ := pk_chk hf
        obtain ⟨r508, hc507, hf⟩ := pk_obd hf
        refine s_callV X (ci := 10) (k_X10_unheard G hc507) rfl h506 wd1890 wd1891 wd1892 wd1893 wd138 cd_X10_unheard ⟨Nat.le_of_ble_eq_true rfl, Nat.le_of_ble_eq_true rfl⟩ (Nat.le_of_ble_eq_true rfl) dL_law_1178 ?_
        refine s_pop X dL_law_1181 rfl ?_
        refine s_goto X (tgt := 1571) dL_law_1182 rfl ?_
        obtain ⟨x509, e510, hf⟩ := pk_bnd hf
        refine s_iinc X (vs' := [(0, .ref b), (1, .ref (gB G + v1)), (2, .ref (gB G + v2)), (3, .int x509)]) 3 dL_law_1571 rfl (v := x509) e510.symm (Nat.le_of_ble_eq_true rfl) [1, 2, 3, 0] rfl ?_
        refine s_goto X (tgt := 18) dL_law_1574 rfl ?_
        exact ih _ _ _ _ hf
      have hf := hs499.2 c500
      have hs511 := pk_ite hf
      clear hf
      by_cases c512 : x4 = (37 : Int32)
      · have hf := hs511.1 c512
        refine s_swC X (v := (37 : Int32)) (tgt := 1185) dL_law_32 c512 (by decide) (by decide) rfl rfl ?_
        refine s_aload_n X 1 dL_law_1185 rfl rfl ?_
        refine s_aload_n X 0 dL_law_1186 rfl rfl ?_
        refine s_iload_n X 3 dL_law_1187 rfl rfl ?_
        refine s_iconst X (v := (1 : Int32)) dL_law_1188 rfl ?_
        refine s_iadd X dL_law_1189 ?_
        obtain ⟨h513, hf⟩ := pk_chk hf
        refine s_sld X hnm.1 hnm.2.1 hnm.2.2.1 h513 dL_law_1190 ?_
        obtain ⟨h514, hf⟩ := pk_chk hf
        obtain ⟨r516, hc515, hf⟩ := pk_obd hf
        refine s_callV X (ci := 9) (k_X9_crowded G hc515) rfl h514 wd1201 wd1202 wd1203 wd1204 wd126 cd_X9_crowded ⟨Nat.le_of_ble_eq_true rfl, Nat.le_of_ble_eq_true rfl⟩ (Nat.le_of_ble_eq_true rfl) dL_law_1191 ?_
        refine s_pop X dL_law_1194 rfl ?_
        refine s_aload_n X 2 dL_law_1195 rfl rfl ?_
        refine s_aload_n X 0 dL_law_1196 rfl rfl ?_
        refine s_iload_n X 3 dL_law_1197 rfl rfl ?_
        refine s_iconst X (v := (1 : Int32)) dL_law_1198 rfl ?_
        refine s_iadd X dL_law_1199 ?_
        obtain ⟨h517, hf⟩ := pk_chk hf
        refine s_sld X hnm.1 hnm.2.1 hnm.2.2.1 h517 dL_law_1200 ?_
        obtain ⟨h518, hf⟩ := pk_chk hf
        obtain ⟨r520, hc519, hf⟩ := pk_obd hf
        refine s_callV X (ci := 10) (k_X10_crowded G hc519) rfl h518 wd1894 wd1895 wd1896 wd1897 wd138 cd_X10_crowded ⟨Nat.le_of_ble_eq_true rfl, Nat.le_of_ble_eq_true rfl⟩ (Nat.le_of_ble_eq_true rfl) dL_law_1201 ?_
        refine s_pop X dL_law_1204 rfl ?_
        refine s_goto X (tgt := 1571) dL_law_1205 rfl ?_
        obtain ⟨x521, e522, hf⟩ := pk_bnd hf
        refine s_iinc X (vs' := [(0, .ref b), (1, .ref (gB G + v1)), (2, .ref (gB G + v2)), (3, .int x521)]) 3 dL_law_1571 rfl (v := x521) e522.symm (Nat.le_of_ble_eq_true rfl) [1, 2, 3, 0] rfl ?_
        refine s_goto X (tgt := 18) dL_law_1574 rfl ?_
        exact ih _ _ _ _ hf
      have hf := hs511.2 c512
      have hs523 := pk_ite hf
      clear hf
      by_cases c524 : x4 = (38 : Int32)
      · have hf := hs523.1 c524
        refine s_swC X (v := (38 : Int32)) (tgt := 1208) dL_law_32 c524 (by decide) (by decide) rfl rfl ?_
        refine s_aload_n X 1 dL_law_1208 rfl rfl ?_
        refine s_aload_n X 0 dL_law_1209 rfl rfl ?_
        refine s_iload_n X 3 dL_law_1210 rfl rfl ?_
        refine s_iconst X (v := (1 : Int32)) dL_law_1211 rfl ?_
        refine s_iadd X dL_law_1212 ?_
        obtain ⟨h525, hf⟩ := pk_chk hf
        refine s_sld X hnm.1 hnm.2.1 hnm.2.2.1 h525 dL_law_1213 ?_
        refine s_aload_n X 0 dL_law_1214 rfl rfl ?_
        refine s_iload_n X 3 dL_law_1215 rfl rfl ?_
        refine s_iconst X (v := (2 : Int32)) dL_law_1216 rfl ?_
        refine s_iadd X dL_law_1217 ?_
        obtain ⟨h526, hf⟩ := pk_chk hf
        refine s_sld X hnm.1 hnm.2.1 hnm.2.2.1 h526 dL_law_1218 ?_
        obtain ⟨h527, hf⟩ := pk_chk hf
        obtain ⟨r529, hc528, hf⟩ := pk_obd hf
        refine s_callV X (ci := 9) (k_X9_trace G hc528) rfl h527 wd1205 wd1206 wd1207 wd1208 wd126 cd_X9_trace ⟨Nat.le_of_ble_eq_true rfl, Nat.le_of_ble_eq_true rfl⟩ (Nat.le_of_ble_eq_true rfl) dL_law_1219 ?_
        refine s_pop X dL_law_1222 rfl ?_
        refine s_aload_n X 2 dL_law_1223 rfl rfl ?_
        refine s_aload_n X 0 dL_law_1224 rfl rfl ?_
        refine s_iload_n X 3 dL_law_1225 rfl rfl ?_
        refine s_iconst X (v := (1 : Int32)) dL_law_1226 rfl ?_
        refine s_iadd X dL_law_1227 ?_
        obtain ⟨h530, hf⟩ := pk_chk hf
        refine s_sld X hnm.1 hnm.2.1 hnm.2.2.1 h530 dL_law_1228 ?_
        refine s_aload_n X 0 dL_law_1229 rfl rfl ?_
        refine s_iload_n X 3 dL_law_1230 rfl rfl ?_
        refine s_iconst X (v := (2 : Int32)) dL_law_1231 rfl ?_
        refine s_iadd X dL_law_1232 ?_
        obtain ⟨h531, hf⟩ := pk_chk hf
        refine s_sld X hnm.1 hnm.2.1 hnm.2.2.1 h531 dL_law_1233 ?_
        obtain ⟨h532, hf⟩ := pk_chk hf
        obtain ⟨r534, hc533, hf⟩ := pk_obd hf
        refine s_callV X (ci := 10) (k_X10_trace G hc533) rfl h532 wd1930 wd1931 wd1932 wd1933 wd138 cd_X10_trace ⟨Nat.le_of_ble_eq_true rfl, Nat.le_of_ble_eq_true rfl⟩ (Nat.le_of_ble_eq_true rfl) dL_law_1234 ?_
        refine s_pop X dL_law_1237 rfl ?_
        refine s_goto X (tgt := 1571) dL_law_1238 rfl ?_
        obtain ⟨x535, e536, hf⟩ := pk_bnd hf
        refine s_iinc X (vs' := [(0, .ref b), (1, .ref (gB G + v1)), (2, .ref (gB G + v2)), (3, .int x535)]) 3 dL_law_1571 rfl (v := x535) e536.symm (Nat.le_of_ble_eq_true rfl) [1, 2, 3, 0] rfl ?_
        refine s_goto X (tgt := 18) dL_law_1574 rfl ?_
        exact ih _ _ _ _ hf
      have hf := hs523.2 c524
      have hs537 := pk_ite hf
      clear hf
      by_cases c538 : x4 = (39 : Int32)
      · have hf := hs537.1 c538
        refine s_swC X (v := (39 : Int32)) (tgt := 1241) dL_law_32 c538 (by decide) (by decide) rfl rfl ?_
        refine s_aload_n X 1 dL_law_1241 rfl rfl ?_
        refine s_aload_n X 0 dL_law_1242 rfl rfl ?_
        refine s_iload_n X 3 dL_law_1243 rfl rfl ?_
        refine s_iconst X (v := (1 : Int32)) dL_law_1244 rfl ?_
        refine s_iadd X dL_law_1245 ?_
        obtain ⟨h539, hf⟩ := pk_chk hf
        refine s_sld X hnm.1 hnm.2.1 hnm.2.2.1 h539 dL_law_1246 ?_
        refine s_aload_n X 0 dL_law_1247 rfl rfl ?_
        refine s_iload_n X 3 dL_law_1248 rfl rfl ?_
        refine s_iconst X (v := (2 : Int32)) dL_law_1249 rfl ?_
        refine s_iadd X dL_law_1250 ?_
        obtain ⟨h540, hf⟩ := pk_chk hf
        refine s_sld X hnm.1 hnm.2.1 hnm.2.2.1 h540 dL_law_1251 ?_
        obtain ⟨h541, hf⟩ := pk_chk hf
        obtain ⟨r543, M544, hc542, hf⟩ := pk_obd2 hf
        refine s_callV X (ci := 9) (k_X9_goOn G hc542) rfl h541 wd1209 wd1210 wd1211 wd1212 wd126 cd_X9_goOn ⟨Nat.le_of_ble_eq_true rfl, Nat.le_of_ble_eq_true rfl⟩ (Nat.le_of_ble_eq_true rfl) dL_law_1252 ?_
        refine s_pop X dL_law_1255 rfl ?_
        refine s_aload_n X 2 dL_law_1256 rfl rfl ?_
        refine s_aload_n X 0 dL_law_1257 rfl rfl ?_
        refine s_iload_n X 3 dL_law_1258 rfl rfl ?_
        refine s_iconst X (v := (1 : Int32)) dL_law_1259 rfl ?_
        refine s_iadd X dL_law_1260 ?_
        obtain ⟨h545, hf⟩ := pk_chk hf
        refine s_sld X hnm.1 hnm.2.1 hnm.2.2.1 h545 dL_law_1261 ?_
        refine s_aload_n X 0 dL_law_1262 rfl rfl ?_
        refine s_iload_n X 3 dL_law_1263 rfl rfl ?_
        refine s_iconst X (v := (2 : Int32)) dL_law_1264 rfl ?_
        refine s_iadd X dL_law_1265 ?_
        obtain ⟨h546, hf⟩ := pk_chk hf
        refine s_sld X hnm.1 hnm.2.1 hnm.2.2.1 h546 dL_law_1266 ?_
        obtain ⟨h547, hf⟩ := pk_chk hf
        obtain ⟨r549, M550, hc548, hf⟩ := pk_obd2 hf
        refine s_callV X (ci := 10) (k_X10_goOn G hc548) rfl h547 wd1934 wd1935 wd1936 wd1937 wd138 cd_X10_goOn ⟨Nat.le_of_ble_eq_true rfl, Nat.le_of_ble_eq_true rfl⟩ (Nat.le_of_ble_eq_true rfl) dL_law_1267 ?_
        refine s_pop X dL_law_1270 rfl ?_
        refine s_goto X (tgt := 1571) dL_law_1271 rfl ?_
        obtain ⟨x551, e552, hf⟩ := pk_bnd hf
        refine s_iinc X (vs' := [(0, .ref b), (1, .ref (gB G + v1)), (2, .ref (gB G + v2)), (3, .int x551)]) 3 dL_law_1571 rfl (v := x551) e552.symm (Nat.le_of_ble_eq_true rfl) [1, 2, 3, 0] rfl ?_
        refine s_goto X (tgt := 18) dL_law_1574 rfl ?_
        exact ih _ _ _ _ hf
      have hf := hs537.2 c538
      have hs553 := pk_ite hf
      clear hf
      by_cases c554 : x4 = (40 : Int32)
      · have hf := hs553.1 c554
        refine s_swC X (v := (40 : Int32)) (tgt := 1274) dL_law_32 c554 (by decide) (by decide) rfl rfl ?_
        refine s_aload_n X 1 dL_law_1274 rfl rfl ?_
        refine s_aload_n X 0 dL_law_1275 rfl rfl ?_
        refine s_iload_n X 3 dL_law_1276 rfl rfl ?_
        refine s_iconst X (v := (1 : Int32)) dL_law_1277 rfl ?_
        refine s_iadd X dL_law_1278 ?_
        obtain ⟨h555, hf⟩ := pk_chk hf
        refine s_sld X hnm.1 hnm.2.1 hnm.2.2.1 h555 dL_law_1279 ?_
        refine s_aload_n X 0 dL_law_1280 rfl rfl ?_
        refine s_iload_n X 3 dL_law_1281 rfl rfl ?_
        refine s_iconst X (v := (2 : Int32)) dL_law_1282 rfl ?_
        refine s_iadd X dL_law_1283 ?_
        obtain ⟨h556, hf⟩ := pk_chk hf
        refine s_sld X hnm.1 hnm.2.1 hnm.2.2.1 h556 dL_law_1284 ?_
        obtain ⟨h557, hf⟩ := pk_chk hf
        obtain ⟨r559, M560, hc558, hf⟩ := pk_obd2 hf
        refine s_callV X (ci := 9) (k_X9_entersBy G hc558) rfl h557 wd1231 wd1232 wd1233 wd1234 wd126 cd_X9_entersBy ⟨Nat.le_of_ble_eq_true rfl, Nat.le_of_ble_eq_true rfl⟩ (Nat.le_of_ble_eq_true rfl) dL_law_1285 ?_
        refine s_pop X dL_law_1288 rfl ?_
        refine s_aload_n X 2 dL_law_1289 rfl rfl ?_
        refine s_aload_n X 0 dL_law_1290 rfl rfl ?_
        refine s_iload_n X 3 dL_law_1291 rfl rfl ?_
        refine s_iconst X (v := (1 : Int32)) dL_law_1292 rfl ?_
        refine s_iadd X dL_law_1293 ?_
        obtain ⟨h561, hf⟩ := pk_chk hf
        refine s_sld X hnm.1 hnm.2.1 hnm.2.2.1 h561 dL_law_1294 ?_
        refine s_aload_n X 0 dL_law_1295 rfl rfl ?_
        refine s_iload_n X 3 dL_law_1296 rfl rfl ?_
        refine s_iconst X (v := (2 : Int32)) dL_law_1297 rfl ?_
        refine s_iadd X dL_law_1298 ?_
        obtain ⟨h562, hf⟩ := pk_chk hf
        refine s_sld X hnm.1 hnm.2.1 hnm.2.2.1 h562 dL_law_1299 ?_
        obtain ⟨h563, hf⟩ := pk_chk hf
        obtain ⟨r565, M566, hc564, hf⟩ := pk_obd2 hf
        refine s_callV X (ci := 10) (k_X10_entersBy G hc564) rfl h563 wd1958 wd1959 wd1960 wd1961 wd138 cd_X10_entersBy ⟨Nat.le_of_ble_eq_true rfl, Nat.le_of_ble_eq_true rfl⟩ (Nat.le_of_ble_eq_true rfl) dL_law_1300 ?_
        refine s_pop X dL_law_1303 rfl ?_
        refine s_goto X (tgt := 1571) dL_law_1304 rfl ?_
        obtain ⟨x567, e568, hf⟩ := pk_bnd hf
        refine s_iinc X (vs' := [(0, .ref b), (1, .ref (gB G + v1)), (2, .ref (gB G + v2)), (3, .int x567)]) 3 dL_law_1571 rfl (v := x567) e568.symm (Nat.le_of_ble_eq_true rfl) [1, 2, 3, 0] rfl ?_
        refine s_goto X (tgt := 18) dL_law_1574 rfl ?_
        exact ih _ _ _ _ hf
      have hf := hs553.2 c554
      have hs569 := pk_ite hf
      clear hf
      by_cases c570 : x4 = (41 : Int32)
      · have hf := hs569.1 c570
        refine s_swC X (v := (41 : Int32)) (tgt := 1307) dL_law_32 c570 (by decide) (by decide) rfl rfl ?_
        refine s_aload_n X 1 dL_law_1307 rfl rfl ?_
        refine s_aload_n X 0 dL_law_1308 rfl rfl ?_
        refine s_iload_n X 3 dL_law_1309 rfl rfl ?_
        refine s_iconst X (v := (1 : Int32)) dL_law_1310 rfl ?_
        refine s_iadd X dL_law_1311 ?_
        obtain ⟨h571, hf⟩ := pk_chk hf
        refine s_sld X hnm.1 hnm.2.1 hnm.2.2.1 h571 dL_law_1312 ?_
        refine s_aload_n X 0 dL_law_1313 rfl rfl ?_
        refine s_iload_n X 3 dL_law_1314 rfl rfl ?_
        refine s_iconst X (v := (2 : Int32)) dL_law_1315 rfl ?_
        refine s_iadd X dL_law_1316 ?_
        obtain ⟨h572, hf⟩ := pk_chk hf
        refine s_sld X hnm.1 hnm.2.1 hnm.2.2.1 h572 dL_law_1317 ?_
        obtain ⟨h573, hf⟩ := pk_chk hf
        obtain ⟨r575, M576, hc574, hf⟩ := pk_obd2 hf
        refine s_callV X (ci := 9) (k_X9_searched G hc574) rfl h573 wd1249 wd1250 wd1251 wd1252 wd126 cd_X9_searched ⟨Nat.le_of_ble_eq_true rfl, Nat.le_of_ble_eq_true rfl⟩ (Nat.le_of_ble_eq_true rfl) dL_law_1318 ?_
        refine s_pop X dL_law_1321 rfl ?_
        refine s_aload_n X 2 dL_law_1322 rfl rfl ?_
        refine s_aload_n X 0 dL_law_1323 rfl rfl ?_
        refine s_iload_n X 3 dL_law_1324 rfl rfl ?_
        refine s_iconst X (v := (1 : Int32)) dL_law_1325 rfl ?_
        refine s_iadd X dL_law_1326 ?_
        obtain ⟨h577, hf⟩ := pk_chk hf
        refine s_sld X hnm.1 hnm.2.1 hnm.2.2.1 h577 dL_law_1327 ?_
        refine s_aload_n X 0 dL_law_1328 rfl rfl ?_
        refine s_iload_n X 3 dL_law_1329 rfl rfl ?_
        refine s_iconst X (v := (2 : Int32)) dL_law_1330 rfl ?_
        refine s_iadd X dL_law_1331 ?_
        obtain ⟨h578, hf⟩ := pk_chk hf
        refine s_sld X hnm.1 hnm.2.1 hnm.2.2.1 h578 dL_law_1332 ?_
        obtain ⟨h579, hf⟩ := pk_chk hf
        obtain ⟨r581, M582, hc580, hf⟩ := pk_obd2 hf
        refine s_callV X (ci := 10) (k_X10_searched G hc580) rfl h579 wd1982 wd1983 wd1984 wd1985 wd138 cd_X10_searched ⟨Nat.le_of_ble_eq_true rfl, Nat.le_of_ble_eq_true rfl⟩ (Nat.le_of_ble_eq_true rfl) dL_law_1333 ?_
        refine s_pop X dL_law_1336 rfl ?_
        refine s_goto X (tgt := 1571) dL_law_1337 rfl ?_
        obtain ⟨x583, e584, hf⟩ := pk_bnd hf
        refine s_iinc X (vs' := [(0, .ref b), (1, .ref (gB G + v1)), (2, .ref (gB G + v2)), (3, .int x583)]) 3 dL_law_1571 rfl (v := x583) e584.symm (Nat.le_of_ble_eq_true rfl) [1, 2, 3, 0] rfl ?_
        refine s_goto X (tgt := 18) dL_law_1574 rfl ?_
        exact ih _ _ _ _ hf
      have hf := hs569.2 c570
      have hs585 := pk_ite hf
      clear hf
      by_cases c586 : x4 = (42 : Int32)
      · have hf := hs585.1 c586
        refine s_swC X (v := (42 : Int32)) (tgt := 1340) dL_law_32 c586 (by decide) (by decide) rfl rfl ?_
        refine s_aload_n X 1 dL_law_1340 rfl rfl ?_
        refine s_aload_n X 0 dL_law_1341 rfl rfl ?_
        refine s_iload_n X 3 dL_law_1342 rfl rfl ?_
        refine s_iconst X (v := (1 : Int32)) dL_law_1343 rfl ?_
        refine s_iadd X dL_law_1344 ?_
        obtain ⟨h587, hf⟩ := pk_chk hf
        refine s_sld X hnm.1 hnm.2.1 hnm.2.2.1 h587 dL_law_1345 ?_
        refine s_aload_n X 0 dL_law_1346 rfl rfl ?_
        refine s_iload_n X 3 dL_law_1347 rfl rfl ?_
        refine s_iconst X (v := (2 : Int32)) dL_law_1348 rfl ?_
        refine s_iadd X dL_law_1349 ?_
        obtain ⟨h588, hf⟩ := pk_chk hf
        refine s_sld X hnm.1 hnm.2.1 hnm.2.2.1 h588 dL_law_1350 ?_
        refine s_aload_n X 0 dL_law_1351 rfl rfl ?_
        refine s_iload_n X 3 dL_law_1352 rfl rfl ?_
        refine s_iconst X (v := (3 : Int32)) dL_law_1353 rfl ?_
        refine s_iadd X dL_law_1354 ?_
        obtain ⟨h589, hf⟩ := pk_chk hf
        refine s_sld X hnm.1 hnm.2.1 hnm.2.2.1 h589 dL_law_1355 ?_
        obtain ⟨h590, hf⟩ := pk_chk hf
        obtain ⟨r592, M593, hc591, hf⟩ := pk_obd2 hf
        refine s_callV X (ci := 9) (k_X9_searchedBy G hc591) rfl h590 wd1328 wd1329 wd1330 wd1331 wd126 cd_X9_searchedBy ⟨Nat.le_of_ble_eq_true rfl, Nat.le_of_ble_eq_true rfl⟩ (Nat.le_of_ble_eq_true rfl) dL_law_1356 ?_
        refine s_pop X dL_law_1359 rfl ?_
        refine s_aload_n X 2 dL_law_1360 rfl rfl ?_
        refine s_aload_n X 0 dL_law_1361 rfl rfl ?_
        refine s_iload_n X 3 dL_law_1362 rfl rfl ?_
        refine s_iconst X (v := (1 : Int32)) dL_law_1363 rfl ?_
        refine s_iadd X dL_law_1364 ?_
        obtain ⟨h594, hf⟩ := pk_chk hf
        refine s_sld X hnm.1 hnm.2.1 hnm.2.2.1 h594 dL_law_1365 ?_
        refine s_aload_n X 0 dL_law_1366 rfl rfl ?_
        refine s_iload_n X 3 dL_law_1367 rfl rfl ?_
        refine s_iconst X (v := (2 : Int32)) dL_law_1368 rfl ?_
        refine s_iadd X dL_law_1369 ?_
        obtain ⟨h595, hf⟩ := pk_chk hf
        refine s_sld X hnm.1 hnm.2.1 hnm.2.2.1 h595 dL_law_1370 ?_
        refine s_aload_n X 0 dL_law_1371 rfl rfl ?_
        refine s_iload_n X 3 dL_law_1372 rfl rfl ?_
        refine s_iconst X (v := (3 : Int32)) dL_law_1373 rfl ?_
        refine s_iadd X dL_law_1374 ?_
        obtain ⟨h596, hf⟩ := pk_chk hf
        refine s_sld X hnm.1 hnm.2.1 hnm.2.2.1 h596 dL_law_1375 ?_
        obtain ⟨h597, hf⟩ := pk_chk hf
        obtain ⟨r599, M600, hc598, hf⟩ := pk_obd2 hf
        refine s_callV X (ci := 10) (k_X10_searchedBy G hc598) rfl h597 wd2018 wd1987 wd1988 wd1989 wd138 cd_X10_searchedBy ⟨Nat.le_of_ble_eq_true rfl, Nat.le_of_ble_eq_true rfl⟩ (Nat.le_of_ble_eq_true rfl) dL_law_1376 ?_
        refine s_pop X dL_law_1379 rfl ?_
        refine s_goto X (tgt := 1571) dL_law_1380 rfl ?_
        obtain ⟨x601, e602, hf⟩ := pk_bnd hf
        refine s_iinc X (vs' := [(0, .ref b), (1, .ref (gB G + v1)), (2, .ref (gB G + v2)), (3, .int x601)]) 3 dL_law_1571 rfl (v := x601) e602.symm (Nat.le_of_ble_eq_true rfl) [1, 2, 3, 0] rfl ?_
        refine s_goto X (tgt := 18) dL_law_1574 rfl ?_
        exact ih _ _ _ _ hf
      have hf := hs585.2 c586
      have hs603 := pk_ite hf
      clear hf
      by_cases c604 : x4 = (43 : Int32)
      · have hf := hs603.1 c604
        refine s_swC X (v := (43 : Int32)) (tgt := 1383) dL_law_32 c604 (by decide) (by decide) rfl rfl ?_
        refine s_aload_n X 1 dL_law_1383 rfl rfl ?_
        refine s_aload_n X 0 dL_law_1384 rfl rfl ?_
        refine s_iload_n X 3 dL_law_1385 rfl rfl ?_
        refine s_iconst X (v := (1 : Int32)) dL_law_1386 rfl ?_
        refine s_iadd X dL_law_1387 ?_
        obtain ⟨h605, hf⟩ := pk_chk hf
        refine s_sld X hnm.1 hnm.2.1 hnm.2.2.1 h605 dL_law_1388 ?_
        refine s_aload_n X 0 dL_law_1389 rfl rfl ?_
        refine s_iload_n X 3 dL_law_1390 rfl rfl ?_
        refine s_iconst X (v := (2 : Int32)) dL_law_1391 rfl ?_
        refine s_iadd X dL_law_1392 ?_
        obtain ⟨h606, hf⟩ := pk_chk hf
        refine s_sld X hnm.1 hnm.2.1 hnm.2.2.1 h606 dL_law_1393 ?_
        refine s_aload_n X 0 dL_law_1394 rfl rfl ?_
        refine s_iload_n X 3 dL_law_1395 rfl rfl ?_
        refine s_iconst X (v := (3 : Int32)) dL_law_1396 rfl ?_
        refine s_iadd X dL_law_1397 ?_
        obtain ⟨h607, hf⟩ := pk_chk hf
        refine s_sld X hnm.1 hnm.2.1 hnm.2.2.1 h607 dL_law_1398 ?_
        obtain ⟨h608, hf⟩ := pk_chk hf
        obtain ⟨r610, M611, hc609, hf⟩ := pk_obd2 hf
        refine s_callV X (ci := 9) (k_X9_delay G hc609) rfl h608 wd1332 wd1333 wd1334 wd1335 wd126 cd_X9_delay ⟨Nat.le_of_ble_eq_true rfl, Nat.le_of_ble_eq_true rfl⟩ (Nat.le_of_ble_eq_true rfl) dL_law_1399 ?_
        refine s_pop X dL_law_1402 rfl ?_
        refine s_aload_n X 2 dL_law_1403 rfl rfl ?_
        refine s_aload_n X 0 dL_law_1404 rfl rfl ?_
        refine s_iload_n X 3 dL_law_1405 rfl rfl ?_
        refine s_iconst X (v := (1 : Int32)) dL_law_1406 rfl ?_
        refine s_iadd X dL_law_1407 ?_
        obtain ⟨h612, hf⟩ := pk_chk hf
        refine s_sld X hnm.1 hnm.2.1 hnm.2.2.1 h612 dL_law_1408 ?_
        refine s_aload_n X 0 dL_law_1409 rfl rfl ?_
        refine s_iload_n X 3 dL_law_1410 rfl rfl ?_
        refine s_iconst X (v := (2 : Int32)) dL_law_1411 rfl ?_
        refine s_iadd X dL_law_1412 ?_
        obtain ⟨h613, hf⟩ := pk_chk hf
        refine s_sld X hnm.1 hnm.2.1 hnm.2.2.1 h613 dL_law_1413 ?_
        refine s_aload_n X 0 dL_law_1414 rfl rfl ?_
        refine s_iload_n X 3 dL_law_1415 rfl rfl ?_
        refine s_iconst X (v := (3 : Int32)) dL_law_1416 rfl ?_
        refine s_iadd X dL_law_1417 ?_
        obtain ⟨h614, hf⟩ := pk_chk hf
        refine s_sld X hnm.1 hnm.2.1 hnm.2.2.1 h614 dL_law_1418 ?_
        obtain ⟨h615, hf⟩ := pk_chk hf
        obtain ⟨r617, M618, hc616, hf⟩ := pk_obd2 hf
        refine s_callV X (ci := 10) (k_X10_delay G hc616) rfl h615 wd2023 wd2024 wd2025 wd2026 wd138 cd_X10_delay ⟨Nat.le_of_ble_eq_true rfl, Nat.le_of_ble_eq_true rfl⟩ (Nat.le_of_ble_eq_true rfl) dL_law_1419 ?_
        refine s_pop X dL_law_1422 rfl ?_
        refine s_goto X (tgt := 1571) dL_law_1423 rfl ?_
        obtain ⟨x619, e620, hf⟩ := pk_bnd hf
        refine s_iinc X (vs' := [(0, .ref b), (1, .ref (gB G + v1)), (2, .ref (gB G + v2)), (3, .int x619)]) 3 dL_law_1571 rfl (v := x619) e620.symm (Nat.le_of_ble_eq_true rfl) [1, 2, 3, 0] rfl ?_
        refine s_goto X (tgt := 18) dL_law_1574 rfl ?_
        exact ih _ _ _ _ hf
      have hf := hs603.2 c604
      have hs621 := pk_ite hf
      clear hf
      by_cases c622 : x4 = (44 : Int32)
      · have hf := hs621.1 c622
        refine s_swC X (v := (44 : Int32)) (tgt := 1426) dL_law_32 c622 (by decide) (by decide) rfl rfl ?_
        refine s_aload_n X 1 dL_law_1426 rfl rfl ?_
        refine s_aload_n X 0 dL_law_1427 rfl rfl ?_
        refine s_iload_n X 3 dL_law_1428 rfl rfl ?_
        refine s_iconst X (v := (1 : Int32)) dL_law_1429 rfl ?_
        refine s_iadd X dL_law_1430 ?_
        obtain ⟨h623, hf⟩ := pk_chk hf
        refine s_sld X hnm.1 hnm.2.1 hnm.2.2.1 h623 dL_law_1431 ?_
        refine s_aload_n X 0 dL_law_1432 rfl rfl ?_
        refine s_iload_n X 3 dL_law_1433 rfl rfl ?_
        refine s_iconst X (v := (2 : Int32)) dL_law_1434 rfl ?_
        refine s_iadd X dL_law_1435 ?_
        obtain ⟨h624, hf⟩ := pk_chk hf
        refine s_sld X hnm.1 hnm.2.1 hnm.2.2.1 h624 dL_law_1436 ?_
        refine s_aload_n X 0 dL_law_1437 rfl rfl ?_
        refine s_iload_n X 3 dL_law_1438 rfl rfl ?_
        refine s_iconst X (v := (3 : Int32)) dL_law_1439 rfl ?_
        refine s_iadd X dL_law_1440 ?_
        obtain ⟨h625, hf⟩ := pk_chk hf
        refine s_sld X hnm.1 hnm.2.1 hnm.2.2.1 h625 dL_law_1441 ?_
        obtain ⟨h626, hf⟩ := pk_chk hf
        obtain ⟨r628, M629, hc627, hf⟩ := pk_obd2 hf
        refine s_callV X (ci := 9) (k_X9_timed G hc627) rfl h626 wd1336 wd1337 wd1338 wd1339 wd126 cd_X9_timed ⟨Nat.le_of_ble_eq_true rfl, Nat.le_of_ble_eq_true rfl⟩ (Nat.le_of_ble_eq_true rfl) dL_law_1442 ?_
        refine s_pop X dL_law_1445 rfl ?_
        refine s_aload_n X 2 dL_law_1446 rfl rfl ?_
        refine s_aload_n X 0 dL_law_1447 rfl rfl ?_
        refine s_iload_n X 3 dL_law_1448 rfl rfl ?_
        refine s_iconst X (v := (1 : Int32)) dL_law_1449 rfl ?_
        refine s_iadd X dL_law_1450 ?_
        obtain ⟨h630, hf⟩ := pk_chk hf
        refine s_sld X hnm.1 hnm.2.1 hnm.2.2.1 h630 dL_law_1451 ?_
        refine s_aload_n X 0 dL_law_1452 rfl rfl ?_
        refine s_iload_n X 3 dL_law_1453 rfl rfl ?_
        refine s_iconst X (v := (2 : Int32)) dL_law_1454 rfl ?_
        refine s_iadd X dL_law_1455 ?_
        obtain ⟨h631, hf⟩ := pk_chk hf
        refine s_sld X hnm.1 hnm.2.1 hnm.2.2.1 h631 dL_law_1456 ?_
        refine s_aload_n X 0 dL_law_1457 rfl rfl ?_
        refine s_iload_n X 3 dL_law_1458 rfl rfl ?_
        refine s_iconst X (v := (3 : Int32)) dL_law_1459 rfl ?_
        refine s_iadd X dL_law_1460 ?_
        obtain ⟨h632, hf⟩ := pk_chk hf
        refine s_sld X hnm.1 hnm.2.1 hnm.2.2.1 h632 dL_law_1461 ?_
        obtain ⟨h633, hf⟩ := pk_chk hf
        obtain ⟨r635, M636, hc634, hf⟩ := pk_obd2 hf
        refine s_callV X (ci := 10) (k_X10_timed G hc634) rfl h633 wd2027 wd2028 wd2029 wd2030 wd138 cd_X10_timed ⟨Nat.le_of_ble_eq_true rfl, Nat.le_of_ble_eq_true rfl⟩ (Nat.le_of_ble_eq_true rfl) dL_law_1462 ?_
        refine s_pop X dL_law_1465 rfl ?_
        refine s_goto X (tgt := 1571) dL_law_1466 rfl ?_
        obtain ⟨x637, e638, hf⟩ := pk_bnd hf
        refine s_iinc X (vs' := [(0, .ref b), (1, .ref (gB G + v1)), (2, .ref (gB G + v2)), (3, .int x637)]) 3 dL_law_1571 rfl (v := x637) e638.symm (Nat.le_of_ble_eq_true rfl) [1, 2, 3, 0] rfl ?_
        refine s_goto X (tgt := 18) dL_law_1574 rfl ?_
        exact ih _ _ _ _ hf
      have hf := hs621.2 c622
      have hs639 := pk_ite hf
      clear hf
      by_cases c640 : x4 = (45 : Int32)
      · have hf := hs639.1 c640
        refine s_swC X (v := (45 : Int32)) (tgt := 1469) dL_law_32 c640 (by decide) (by decide) rfl rfl ?_
        refine s_aload_n X 1 dL_law_1469 rfl rfl ?_
        refine s_aload_n X 0 dL_law_1470 rfl rfl ?_
        refine s_iload_n X 3 dL_law_1471 rfl rfl ?_
        refine s_iconst X (v := (1 : Int32)) dL_law_1472 rfl ?_
        refine s_iadd X dL_law_1473 ?_
        obtain ⟨h641, hf⟩ := pk_chk hf
        refine s_sld X hnm.1 hnm.2.1 hnm.2.2.1 h641 dL_law_1474 ?_
        refine s_aload_n X 0 dL_law_1475 rfl rfl ?_
        refine s_iload_n X 3 dL_law_1476 rfl rfl ?_
        refine s_iconst X (v := (2 : Int32)) dL_law_1477 rfl ?_
        refine s_iadd X dL_law_1478 ?_
        obtain ⟨h642, hf⟩ := pk_chk hf
        refine s_sld X hnm.1 hnm.2.1 hnm.2.2.1 h642 dL_law_1479 ?_
        obtain ⟨h643, hf⟩ := pk_chk hf
        obtain ⟨r645, M646, hc644, hf⟩ := pk_obd2 hf
        refine s_callV X (ci := 9) (k_X9_soonest G hc644) rfl h643 wd1365 wd1366 wd1367 wd1368 wd126 cd_X9_soonest ⟨Nat.le_of_ble_eq_true rfl, Nat.le_of_ble_eq_true rfl⟩ (Nat.le_of_ble_eq_true rfl) dL_law_1480 ?_
        refine s_pop X dL_law_1483 rfl ?_
        refine s_aload_n X 2 dL_law_1484 rfl rfl ?_
        refine s_aload_n X 0 dL_law_1485 rfl rfl ?_
        refine s_iload_n X 3 dL_law_1486 rfl rfl ?_
        refine s_iconst X (v := (1 : Int32)) dL_law_1487 rfl ?_
        refine s_iadd X dL_law_1488 ?_
        obtain ⟨h647, hf⟩ := pk_chk hf
        refine s_sld X hnm.1 hnm.2.1 hnm.2.2.1 h647 dL_law_1489 ?_
        refine s_aload_n X 0 dL_law_1490 rfl rfl ?_
        refine s_iload_n X 3 dL_law_1491 rfl rfl ?_
        refine s_iconst X (v := (2 : Int32)) dL_law_1492 rfl ?_
        refine s_iadd X dL_law_1493 ?_
        obtain ⟨h648, hf⟩ := pk_chk hf
        refine s_sld X hnm.1 hnm.2.1 hnm.2.2.1 h648 dL_law_1494 ?_
        obtain ⟨h649, hf⟩ := pk_chk hf
        obtain ⟨r651, M652, hc650, hf⟩ := pk_obd2 hf
        refine s_callV X (ci := 10) (k_X10_soonest G hc650) rfl h649 wd2019 wd2020 wd2021 wd2022 wd138 cd_X10_soonest ⟨Nat.le_of_ble_eq_true rfl, Nat.le_of_ble_eq_true rfl⟩ (Nat.le_of_ble_eq_true rfl) dL_law_1495 ?_
        refine s_pop X dL_law_1498 rfl ?_
        refine s_goto X (tgt := 1571) dL_law_1499 rfl ?_
        obtain ⟨x653, e654, hf⟩ := pk_bnd hf
        refine s_iinc X (vs' := [(0, .ref b), (1, .ref (gB G + v1)), (2, .ref (gB G + v2)), (3, .int x653)]) 3 dL_law_1571 rfl (v := x653) e654.symm (Nat.le_of_ble_eq_true rfl) [1, 2, 3, 0] rfl ?_
        refine s_goto X (tgt := 18) dL_law_1574 rfl ?_
        exact ih _ _ _ _ hf
      have hf := hs639.2 c640
      have hs655 := pk_ite hf
      clear hf
      by_cases c656 : x4 = (46 : Int32)
      · have hf := hs655.1 c656
        refine s_swC X (v := (46 : Int32)) (tgt := 1502) dL_law_32 c656 (by decide) (by decide) rfl rfl ?_
        refine s_aload_n X 1 dL_law_1502 rfl rfl ?_
        refine s_aload_n X 0 dL_law_1503 rfl rfl ?_
        refine s_iload_n X 3 dL_law_1504 rfl rfl ?_
        refine s_iconst X (v := (1 : Int32)) dL_law_1505 rfl ?_
        refine s_iadd X dL_law_1506 ?_
        obtain ⟨h657, hf⟩ := pk_chk hf
        refine s_sld X hnm.1 hnm.2.1 hnm.2.2.1 h657 dL_law_1507 ?_
        refine s_aload_n X 0 dL_law_1508 rfl rfl ?_
        refine s_iload_n X 3 dL_law_1509 rfl rfl ?_
        refine s_iconst X (v := (2 : Int32)) dL_law_1510 rfl ?_
        refine s_iadd X dL_law_1511 ?_
        obtain ⟨h658, hf⟩ := pk_chk hf
        refine s_sld X hnm.1 hnm.2.1 hnm.2.2.1 h658 dL_law_1512 ?_
        refine s_aload_n X 0 dL_law_1513 rfl rfl ?_
        refine s_iload_n X 3 dL_law_1514 rfl rfl ?_
        refine s_iconst X (v := (3 : Int32)) dL_law_1515 rfl ?_
        refine s_iadd X dL_law_1516 ?_
        obtain ⟨h659, hf⟩ := pk_chk hf
        refine s_sld X hnm.1 hnm.2.1 hnm.2.2.1 h659 dL_law_1517 ?_
        obtain ⟨h660, hf⟩ := pk_chk hf
        obtain ⟨r662, M663, hc661, hf⟩ := pk_obd2 hf
        refine s_callV X (ci := 9) (k_X9_crowd G hc661) rfl h660 wd1373 wd1374 wd1375 wd1376 wd126 cd_X9_crowd ⟨Nat.le_of_ble_eq_true rfl, Nat.le_of_ble_eq_true rfl⟩ (Nat.le_of_ble_eq_true rfl) dL_law_1518 ?_
        refine s_pop X dL_law_1521 rfl ?_
        refine s_aload_n X 2 dL_law_1522 rfl rfl ?_
        refine s_aload_n X 0 dL_law_1523 rfl rfl ?_
        refine s_iload_n X 3 dL_law_1524 rfl rfl ?_
        refine s_iconst X (v := (1 : Int32)) dL_law_1525 rfl ?_
        refine s_iadd X dL_law_1526 ?_
        obtain ⟨h664, hf⟩ := pk_chk hf
        refine s_sld X hnm.1 hnm.2.1 hnm.2.2.1 h664 dL_law_1527 ?_
        refine s_aload_n X 0 dL_law_1528 rfl rfl ?_
        refine s_iload_n X 3 dL_law_1529 rfl rfl ?_
        refine s_iconst X (v := (2 : Int32)) dL_law_1530 rfl ?_
        refine s_iadd X dL_law_1531 ?_
        obtain ⟨h665, hf⟩ := pk_chk hf
        refine s_sld X hnm.1 hnm.2.1 hnm.2.2.1 h665 dL_law_1532 ?_
        refine s_aload_n X 0 dL_law_1533 rfl rfl ?_
        refine s_iload_n X 3 dL_law_1534 rfl rfl ?_
        refine s_iconst X (v := (3 : Int32)) dL_law_1535 rfl ?_
        refine s_iadd X dL_law_1536 ?_
        obtain ⟨h666, hf⟩ := pk_chk hf
        refine s_sld X hnm.1 hnm.2.1 hnm.2.2.1 h666 dL_law_1537 ?_
        obtain ⟨h667, hf⟩ := pk_chk hf
        obtain ⟨r669, M670, hc668, hf⟩ := pk_obd2 hf
        refine s_callV X (ci := 10) (k_X10_crowd G hc668) rfl h667 wd1970 wd1971 wd1972 wd1973 wd138 cd_X10_crowd ⟨Nat.le_of_ble_eq_true rfl, Nat.le_of_ble_eq_true rfl⟩ (Nat.le_of_ble_eq_true rfl) dL_law_1538 ?_
        refine s_pop X dL_law_1541 rfl ?_
        refine s_goto X (tgt := 1571) dL_law_1542 rfl ?_
        obtain ⟨x671, e672, hf⟩ := pk_bnd hf
        refine s_iinc X (vs' := [(0, .ref b), (1, .ref (gB G + v1)), (2, .ref (gB G + v2)), (3, .int x671)]) 3 dL_law_1571 rfl (v := x671) e672.symm (Nat.le_of_ble_eq_true rfl) [1, 2, 3, 0] rfl ?_
        refine s_goto X (tgt := 18) dL_law_1574 rfl ?_
        exact ih _ _ _ _ hf
      have hf := hs655.2 c656
      have hs673 := pk_ite hf
      clear hf
      by_cases c674 : x4 = (47 : Int32)
      · have hf := hs673.1 c674
        refine s_swC X (v := (47 : Int32)) (tgt := 1545) dL_law_32 c674 (by decide) (by decide) rfl rfl ?_
        refine s_aload_n X 1 dL_law_1545 rfl rfl ?_
        obtain ⟨h675, hf⟩ := pk_chk hf
        obtain ⟨r677, hc676, hf⟩ := pk_obd hf
        refine s_callV X (ci := 9) (k2_X9_mean G hc676) rfl h675 wd1394 wd1395 wd1396 wd1397 wd126 cd2_X9_mean ⟨Nat.le_of_ble_eq_true rfl, Nat.le_of_ble_eq_true rfl⟩ (Nat.le_of_ble_eq_true rfl) dL_law_1546 ?_
        refine s_pop X dL_law_1549 rfl ?_
        refine s_aload_n X 2 dL_law_1550 rfl rfl ?_
        obtain ⟨h678, hf⟩ := pk_chk hf
        obtain ⟨r680, hc679, hf⟩ := pk_obd hf
        refine s_callV X (ci := 10) (k2_X10_mean G hc679) rfl h678 wd2043 wd2044 wd2045 wd2046 wd138 cd2_X10_mean ⟨Nat.le_of_ble_eq_true rfl, Nat.le_of_ble_eq_true rfl⟩ (Nat.le_of_ble_eq_true rfl) dL_law_1551 ?_
        refine s_pop X dL_law_1554 rfl ?_
        refine s_goto X (tgt := 1571) dL_law_1555 rfl ?_
        obtain ⟨x681, e682, hf⟩ := pk_bnd hf
        refine s_iinc X (vs' := [(0, .ref b), (1, .ref (gB G + v1)), (2, .ref (gB G + v2)), (3, .int x681)]) 3 dL_law_1571 rfl (v := x681) e682.symm (Nat.le_of_ble_eq_true rfl) [1, 2, 3, 0] rfl ?_
        refine s_goto X (tgt := 18) dL_law_1574 rfl ?_
        exact ih _ _ _ _ hf
      have hf := hs673.2 c674
      have hs683 := pk_ite hf
      clear hf
      by_cases c684 : x4 = (48 : Int32)
      · have hf := hs683.1 c684
        refine s_swC X (v := (48 : Int32)) (tgt := 1558) dL_law_32 c684 (by decide) (by decide) rfl rfl ?_
        refine s_aload_n X 1 dL_law_1558 rfl rfl ?_
        obtain ⟨h685, hf⟩ := pk_chk hf
        obtain ⟨r687, hc686, hf⟩ := pk_obd hf
        refine s_callV X (ci := 9) (k2_X9_byRoot G hc686) rfl h685 wd1402 wd1403 wd1404 wd1405 wd126 cd2_X9_byRoot ⟨Nat.le_of_ble_eq_true rfl, Nat.le_of_ble_eq_true rfl⟩ (Nat.le_of_ble_eq_true rfl) dL_law_1559 ?_
        refine s_pop2 X dL_law_1562 rfl ?_
        refine s_aload_n X 2 dL_law_1563 rfl rfl ?_
        obtain ⟨h688, hf⟩ := pk_chk hf
        obtain ⟨r690, hc689, hf⟩ := pk_obd hf
        refine s_callV X (ci := 10) (k2_X10_byRoot G hc689) rfl h688 wd2057 wd2058 wd2059 wd2060 wd138 cd2_X10_byRoot ⟨Nat.le_of_ble_eq_true rfl, Nat.le_of_ble_eq_true rfl⟩ (Nat.le_of_ble_eq_true rfl) dL_law_1564 ?_
        refine s_pop2 X dL_law_1567 rfl ?_
        refine s_goto X (tgt := 1571) dL_law_1568 rfl ?_
        obtain ⟨x691, e692, hf⟩ := pk_bnd hf
        refine s_iinc X (vs' := [(0, .ref b), (1, .ref (gB G + v1)), (2, .ref (gB G + v2)), (3, .int x691)]) 3 dL_law_1571 rfl (v := x691) e692.symm (Nat.le_of_ble_eq_true rfl) [1, 2, 3, 0] rfl ?_
        refine s_goto X (tgt := 18) dL_law_1574 rfl ?_
        exact ih _ _ _ _ hf
      have hf := hs683.2 c684
      refine s_swOut X (tgt := 1571) dL_law_32 (by have := sw_ne (v := (0 : Int32)) (z := 0) c7 (by decide); have := sw_ne (v := (1 : Int32)) (z := 1) c21 (by decide); have := sw_ne (v := (2 : Int32)) (z := 2) c35 (by decide); have := sw_ne (v := (3 : Int32)) (z := 3) c49 (by decide); have := sw_ne (v := (4 : Int32)) (z := 4) c63 (by decide); have := sw_ne (v := (5 : Int32)) (z := 5) c77 (by decide); have := sw_ne (v := (6 : Int32)) (z := 6) c91 (by decide); have := sw_ne (v := (7 : Int32)) (z := 7) c109 (by decide); have := sw_ne (v := (8 : Int32)) (z := 8) c125 (by decide); have := sw_ne (v := (9 : Int32)) (z := 9) c140 (by decide); have := sw_ne (v := (10 : Int32)) (z := 10) c154 (by decide); have := sw_ne (v := (11 : Int32)) (z := 11) c164 (by decide); have := sw_ne (v := (12 : Int32)) (z := 12) c176 (by decide); have := sw_ne (v := (13 : Int32)) (z := 13) c190 (by decide); have := sw_ne (v := (14 : Int32)) (z := 14) c204 (by decide); have := sw_ne (v := (15 : Int32)) (z := 15) c214 (by decide); have := sw_ne (v := (16 : Int32)) (z := 16) c228 (by decide); have := sw_ne (v := (17 : Int32)) (z := 17) c244 (by decide); have := sw_ne (v := (18 : Int32)) (z := 18) c256 (by decide); have := sw_ne (v := (19 : Int32)) (z := 19) c269 (by decide); have := sw_ne (v := (20 : Int32)) (z := 20) c279 (by decide); have := sw_ne (v := (21 : Int32)) (z := 21) c290 (by decide); have := sw_ne (v := (22 : Int32)) (z := 22) c304 (by decide); have := sw_ne (v := (23 : Int32)) (z := 23) c318 (by decide); have := sw_ne (v := (24 : Int32)) (z := 24) c334 (by decide); have := sw_ne (v := (25 : Int32)) (z := 25) c348 (by decide); have := sw_ne (v := (26 : Int32)) (z := 26) c362 (by decide); have := sw_ne (v := (27 : Int32)) (z := 27) c376 (by decide); have := sw_ne (v := (28 : Int32)) (z := 28) c390 (by decide); have := sw_ne (v := (29 : Int32)) (z := 29) c404 (by decide); have := sw_ne (v := (30 : Int32)) (z := 30) c420 (by decide); have := sw_ne (v := (31 : Int32)) (z := 31) c436 (by decide); have := sw_ne (v := (32 : Int32)) (z := 32) c450 (by decide); have := sw_ne (v := (33 : Int32)) (z := 33) c462 (by decide); have := sw_ne (v := (34 : Int32)) (z := 34) c474 (by decide); have := sw_ne (v := (35 : Int32)) (z := 35) c488 (by decide); have := sw_ne (v := (36 : Int32)) (z := 36) c500 (by decide); have := sw_ne (v := (37 : Int32)) (z := 37) c512 (by decide); have := sw_ne (v := (38 : Int32)) (z := 38) c524 (by decide); have := sw_ne (v := (39 : Int32)) (z := 39) c538 (by decide); have := sw_ne (v := (40 : Int32)) (z := 40) c554 (by decide); have := sw_ne (v := (41 : Int32)) (z := 41) c570 (by decide); have := sw_ne (v := (42 : Int32)) (z := 42) c586 (by decide); have := sw_ne (v := (43 : Int32)) (z := 43) c604 (by decide); have := sw_ne (v := (44 : Int32)) (z := 44) c622 (by decide); have := sw_ne (v := (45 : Int32)) (z := 45) c640 (by decide); have := sw_ne (v := (46 : Int32)) (z := 46) c656 (by decide); have := sw_ne (v := (47 : Int32)) (z := 47) c674 (by decide); have := sw_ne (v := (48 : Int32)) (z := 48) c684 (by decide); omega) rfl ?_
      obtain ⟨x693, e694, hf⟩ := pk_bnd hf
      refine s_iinc X (vs' := [(0, .ref b), (1, .ref (gB G + v1)), (2, .ref (gB G + v2)), (3, .int x693)]) 3 dL_law_1571 rfl (v := x693) e694.symm (Nat.le_of_ble_eq_true rfl) [1, 2, 3, 0] rfl ?_
      refine s_goto X (tgt := 18) dL_law_1574 rfl ?_
      exact ih _ _ _ _ hf
theorem law_walk2 {n : Nat} {rv : Mem} {M : Mem} (X : Cx p room_1 s m #[Value.ref b] c G M0 cL_law yL_law.cls 4 11 257) (hr : meth.sig.returnType = ret) (hlk : meth.locks = false) (hnm : LawB s0 d0 s b L xs G M0) (hf : f_L2_law L xs n M = some ((1 : Int32), rv)) : Sg p l e room_1 s m #[Value.ref b] below meth c (lw_Z below #[Value.ref b] s0) G M0 4 0 [(0, .ref b)] [] M := by
  rw [f_L2_law] at hf
  obtain ⟨h1, hf⟩ := pk_chk hf
  obtain ⟨o4, e5, hf⟩ := pk_bnd hf
  obtain ⟨M2, e3, hf⟩ := pk_bnd hf
  refine s_new X (ci := 9) rfl wd145 wd146 wd126 h1 e3 dL_law_0 (e5 ▸ ?_)
  have h6 := io_nwn e3 e5
  refine s_dup X dL_law_3 rfl ?_
  obtain ⟨M8, hc7, hf⟩ := pk_obd hf
  refine s_callI X (k_X9_init G hc7) wd147 wd148 wd149 wd126 rfl cd_X9_init ⟨Nat.le_of_ble_eq_true rfl, Nat.le_of_ble_eq_true rfl⟩ (Nat.le_of_ble_eq_true rfl) dL_law_4 ?_
  refine s_astore_n X (vs' := [(0, .ref b), (1, .ref (gB G + o4))]) dL_law_7 rfl (Nat.le_of_ble_eq_true rfl) [1, 0] rfl ?_
  obtain ⟨h9, hf⟩ := pk_chk hf
  obtain ⟨o12, e13, hf⟩ := pk_bnd hf
  obtain ⟨M10, e11, hf⟩ := pk_bnd hf
  refine s_new X (ci := 10) rfl wd1414 wd1415 wd138 h9 e11 dL_law_8 (e13 ▸ ?_)
  have h14 := io_nwn e11 e13
  refine s_dup X dL_law_11 rfl ?_
  obtain ⟨M16, hc15, hf⟩ := pk_obd hf
  refine s_callI X (k_X10_init G hc15) wd1416 wd1417 wd1418 wd138 rfl cd_X10_init ⟨Nat.le_of_ble_eq_true rfl, Nat.le_of_ble_eq_true rfl⟩ (Nat.le_of_ble_eq_true rfl) dL_law_12 ?_
  refine s_astore_n X (vs' := [(0, .ref b), (1, .ref (gB G + o4)), (2, .ref (gB G + o12))]) dL_law_15 rfl (Nat.le_of_ble_eq_true rfl) [1, 2, 0] rfl ?_
  refine s_iconst X (v := (0 : Int32)) dL_law_16 rfl ?_
  refine s_istore_n X (vs' := [(0, .ref b), (1, .ref (gB G + o4)), (2, .ref (gB G + o12)), (3, .int (0 : Int32))]) dL_law_17 rfl (Nat.le_of_ble_eq_true rfl) [1, 2, 3, 0] rfl ?_
  exact l_L2_law_18 X hr hlk hnm _ _ _ _ hf
end
