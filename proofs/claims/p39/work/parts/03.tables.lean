/-! TABLES, by program: fields, methods, calls, classes, constants of each class, with their places in lw_tbl -/
def pe_rn (o : Nat) : String := match o with
  | 0 => RX0
  | 1 => RX1
  | 2 => RX2
  | 3 => RX3
  | 4 => RX4
  | 5 => RX5
  | 6 => RX6
  | 7 => RX7
  | 8 => RX8
  | 9 => RX9
  | 11 => RJ6
  | 12 => RJ9
  | 13 => RJ7
  | 19 => RX10
  | 20 => RX11
  | _ => RL
def pe_f0 : List (Nat × Nat × Nat × Nat) := [(11, 0, 10, 177), (18, 0, 0, 151), (22, 0, 1, 153), (26, 0, 2, 156), (29, 0, 3, 159), (32, 0, 4, 161), (35, 0, 5, 164), (38, 0, 6, 166), (41, 0, 7, 168), (44, 0, 8, 171), (47, 0, 9, 174), (64, 1, 4, 132), (68, 1, 5, 136), (71, 1, 0, 119), (74, 4, 1, 98), (79, 1, 2, 125)]
def pe_f1 : List (Nat × Nat × Nat × Nat) := [(9, 1, 0, 118), (15, 1, 1, 121), (19, 1, 2, 123), (22, 1, 3, 127), (25, 1, 4, 130), (29, 1, 5, 134)]
def pe_f2 : List (Nat × Nat × Nat × Nat) := [(11, 2, 0, 219), (19, 2, 1, 221), (25, 2, 2, 224), (29, 2, 3, 226), (32, 2, 4, 228), (36, 2, 5, 231), (39, 2, 6, 234), (42, 2, 7, 237), (45, 2, 8, 238), (49, 2, 9, 239), (52, 2, 10, 240), (55, 2, 11, 241), (58, 2, 12, 242), (83, 0, 2, 158), (89, 0, 5, 165), (92, 0, 8, 173), (133, 0, 6, 167), (139, 0, 1, 155), (148, 0, 9, 176), (151, 0, 10, 179), (155, 1, 2, 126), (160, 1, 0, 120), (177, 0, 3, 160), (180, 1, 4, 133), (198, 0, 4, 163), (201, 1, 3, 129), (222, 5, 1, 213), (225, 5, 0, 210), (231, 0, 7, 170), (234, 1, 5, 137), (237, 4, 1, 99)]
def pe_f3 : List (Nat × Nat × Nat × Nat) := [(9, 3, 0, 280), (15, 3, 1, 282)]
def pe_f4 : List (Nat × Nat × Nat × Nat) := [(7, 4, 0, 96), (13, 4, 1, 97)]
def pe_f5 : List (Nat × Nat × Nat × Nat) := [(9, 5, 0, 208), (15, 5, 1, 211)]
def pe_f6 : List (Nat × Nat × Nat × Nat) := [(9, 6, 0, 385), (15, 6, 1, 387)]
def pe_f7 : List (Nat × Nat × Nat × Nat) := [(9, 7, 1, 421), (15, 7, 0, 420), (59, 2, 4, 229), (65, 2, 1, 223), (89, 2, 5, 233), (99, 2, 0, 220), (122, 2, 6, 236)]
def pe_f8 : List (Nat × Nat × Nat × Nat) := [(10, 8, 0, 289), (16, 8, 1, 290), (19, 8, 2, 291), (25, 8, 3, 292), (31, 8, 4, 293), (38, 8, 5, 294), (42, 8, 6, 295), (46, 8, 7, 296), (54, 6, 0, 386), (110, 2, 1, 222), (114, 0, 0, 152), (119, 0, 1, 154), (122, 3, 0, 281), (123, 3, 1, 283), (129, 0, 9, 175), (132, 0, 7, 169), (141, 0, 10, 178), (145, 1, 1, 122), (149, 1, 2, 124), (152, 1, 3, 128), (155, 1, 4, 131), (158, 1, 5, 135), (164, 0, 8, 172), (173, 2, 2, 225), (177, 2, 3, 227), (180, 5, 1, 212), (185, 5, 0, 209), (196, 0, 2, 157), (206, 2, 5, 232), (209, 2, 6, 235), (235, 2, 4, 230), (240, 0, 4, 162)]
def pe_f9 : List (Nat × Nat × Nat × Nat) := [(7, 9, 0, 837), (13, 9, 1, 841)]
def pe_f11 : List (Nat × Nat × Nat × Nat) := []
def pe_f12 : List (Nat × Nat × Nat × Nat) := []
def pe_f13 : List (Nat × Nat × Nat × Nat) := []
def pe_f19 : List (Nat × Nat × Nat × Nat) := [(7, 19, 0, 735), (13, 19, 1, 737), (17, 19, 2, 739), (23, 19, 3, 741), (29, 19, 5, 744), (33, 19, 6, 747), (36, 19, 7, 749)]
def pe_f20 : List (Nat × Nat × Nat × Nat) := [(7, 20, 5, 688), (13, 20, 8, 692), (18, 20, 10, 696), (26, 20, 1, 680), (29, 20, 2, 682), (32, 20, 3, 684), (35, 20, 4, 686), (44, 20, 9, 694), (48, 20, 11, 698)]
def pe_f21 : List (Nat × Nat × Nat × Nat) := [(10, 21, 0, 319), (18, 21, 1, 320), (22, 21, 2, 321), (25, 21, 4, 323), (31, 21, 6, 325), (36, 21, 7, 326), (93, 21, 3, 322), (151, 21, 8, 327), (182, 21, 5, 324)]
def pe_fT (o : Nat) : List (Nat × Nat × Nat × Nat) := match o with
  | 0 => pe_f0
  | 1 => pe_f1
  | 2 => pe_f2
  | 3 => pe_f3
  | 4 => pe_f4
  | 5 => pe_f5
  | 6 => pe_f6
  | 7 => pe_f7
  | 8 => pe_f8
  | 9 => pe_f9
  | 11 => pe_f11
  | 12 => pe_f12
  | 13 => pe_f13
  | 19 => pe_f19
  | 20 => pe_f20
  | _ => pe_f21
def pe_g0 : List (Nat × Nat × Nat × Nat) := []
def pe_g1 : List (Nat × Nat × Nat × Nat) := []
def pe_g2 : List (Nat × Nat × Nat × Nat) := []
def pe_g3 : List (Nat × Nat × Nat × Nat) := []
def pe_g4 : List (Nat × Nat × Nat × Nat) := []
def pe_g5 : List (Nat × Nat × Nat × Nat) := []
def pe_g6 : List (Nat × Nat × Nat × Nat) := []
def pe_g7 : List (Nat × Nat × Nat × Nat) := []
def pe_g8 : List (Nat × Nat × Nat × Nat) := []
def pe_g9 : List (Nat × Nat × Nat × Nat) := []
def pe_g11 : List (Nat × Nat × Nat × Nat) := []
def pe_g12 : List (Nat × Nat × Nat × Nat) := []
def pe_g13 : List (Nat × Nat × Nat × Nat) := []
def pe_g19 : List (Nat × Nat × Nat × Nat) := [(40, 9, 0, 838)]
def pe_g20 : List (Nat × Nat × Nat × Nat) := [(62, 9, 1, 842), (67, 19, 7, 750), (70, 9, 0, 839), (76, 19, 5, 745), (80, 19, 6, 748)]
def pe_g21 : List (Nat × Nat × Nat × Nat) := [(67, 20, 3, 685), (70, 20, 8, 693), (77, 20, 4, 687), (82, 20, 9, 695), (115, 19, 3, 742), (118, 19, 1, 738), (123, 19, 2, 740), (125, 19, 5, 746), (133, 20, 1, 681), (136, 20, 2, 683), (139, 20, 5, 689), (142, 20, 6, 690), (154, 19, 4, 743), (157, 20, 11, 699), (160, 20, 10, 697), (189, 20, 7, 691), (226, 20, 0, 679), (285, 19, 0, 736), (292, 9, 0, 840), (295, 9, 1, 843)]
def pe_gT (o : Nat) : List (Nat × Nat × Nat × Nat) := match o with
  | 0 => pe_g0
  | 1 => pe_g1
  | 2 => pe_g2
  | 3 => pe_g3
  | 4 => pe_g4
  | 5 => pe_g5
  | 6 => pe_g6
  | 7 => pe_g7
  | 8 => pe_g8
  | 9 => pe_g9
  | 11 => pe_g11
  | 12 => pe_g12
  | 13 => pe_g13
  | 19 => pe_g19
  | 20 => pe_g20
  | _ => pe_g21
abbrev pe_m0 : MethodName × ByteArray × Nat × Option FieldType × Nat × Nat × Bool × Nat × Nat × Nat × Nat := (yX0_init, cX0_init, 2, none, 0, 1, true, 0, 109, 108, 52)
abbrev pe_m1 : MethodName × ByteArray × Nat × Option FieldType × Nat × Nat × Bool × Nat × Nat × Nat × Nat := (yX0_begin, cX0_begin, 4, none, 0, 0, false, 3, 528, 526, 527)
abbrev pe_m2 : MethodName × ByteArray × Nat × Option FieldType × Nat × Nat × Bool × Nat × Nat × Nat × Nat := (yX0_become, cX0_become, 3, none, 0, 0, false, 1, 471, 469, 470)
abbrev pe_m3 : MethodName × ByteArray × Nat × Option FieldType × Nat × Nat × Bool × Nat × Nat × Nat × Nat := (yX0_isEnded, cX0_isEnded, 1, (some .boolean), 0, 0, false, 0, 625, 623, 624)
abbrev pe_m4 : MethodName × ByteArray × Nat × Option FieldType × Nat × Nat × Bool × Nat × Nat × Nat × Nat := (yX0_canGo, cX0_canGo, 1, (some .boolean), 0, 0, false, 0, 536, 534, 535)
abbrev pe_m5 : MethodName × ByteArray × Nat × Option FieldType × Nat × Nat × Bool × Nat × Nat × Nat × Nat := (yX0_takeIn, cX0_takeIn, 2, none, 0, 0, false, 1, 548, 546, 547)
abbrev pe_m6 : MethodName × ByteArray × Nat × Option FieldType × Nat × Nat × Bool × Nat × Nat × Nat × Nat := (yX0_growOlder, cX0_growOlder, 1, none, 0, 0, false, 0, 659, 657, 658)
abbrev pe_m7 : MethodName × ByteArray × Nat × Option FieldType × Nat × Nat × Bool × Nat × Nat × Nat × Nat := (yX0_waitFor, cX0_waitFor, 3, none, 0, 0, false, 2, 617, 615, 616)
abbrev pe_m8 : MethodName × ByteArray × Nat × Option FieldType × Nat × Nat × Bool × Nat × Nat × Nat × Nat := (yX0_goOn, cX0_goOn, 1, none, 0, 0, false, 0, 609, 607, 608)
abbrev pe_m9 : MethodName × ByteArray × Nat × Option FieldType × Nat × Nat × Bool × Nat × Nat × Nat × Nat := (yX0_figureTold, cX0_figureTold, 2, (some .int), 0, 0, false, 1, 954, 952, 953)
abbrev pe_m10 : MethodName × ByteArray × Nat × Option FieldType × Nat × Nat × Bool × Nat × Nat × Nat × Nat := (yX0_closeTop, cX0_closeTop, 2, none, 0, 0, false, 0, 568, 566, 567)
abbrev pe_m11 : MethodName × ByteArray × Nat × Option FieldType × Nat × Nat × Bool × Nat × Nat × Nat × Nat := (yX1_init, cX1_init, 1, none, 1, 1, true, 0, 116, 115, 53)
abbrev pe_m12 : MethodName × ByteArray × Nat × Option FieldType × Nat × Nat × Bool × Nat × Nat × Nat × Nat := (yX1_begin, cX1_begin, 3, none, 1, 0, false, 2, 532, 530, 531)
abbrev pe_m13 : MethodName × ByteArray × Nat × Option FieldType × Nat × Nat × Bool × Nat × Nat × Nat × Nat := (yX1_become, cX1_become, 2, none, 1, 0, false, 1, 475, 473, 474)
abbrev pe_m14 : MethodName × ByteArray × Nat × Option FieldType × Nat × Nat × Bool × Nat × Nat × Nat × Nat := (yX2_init, cX2_init, 3, none, 2, 1, true, 0, 83, 82, 50)
abbrev pe_m15 : MethodName × ByteArray × Nat × Option FieldType × Nat × Nat × Bool × Nat × Nat × Nat × Nat := (yX2_become, cX2_become, 3, none, 2, 0, false, 1, 467, 465, 466)
abbrev pe_m16 : MethodName × ByteArray × Nat × Option FieldType × Nat × Nat × Bool × Nat × Nat × Nat × Nat := (yX2_allBits, cX2_allBits, 1, (some .int), 2, 0, false, 0, 962, 960, 961)
abbrev pe_m17 : MethodName × ByteArray × Nat × Option FieldType × Nat × Nat × Bool × Nat × Nat × Nat × Nat := (yX2_endedBits, cX2_endedBits, 3, (some .int), 2, 0, false, 0, 924, 922, 923)
abbrev pe_m19 : MethodName × ByteArray × Nat × Option FieldType × Nat × Nat × Bool × Nat × Nat × Nat × Nat := (yX2_ableBits, cX2_ableBits, 3, (some .int), 2, 0, false, 0, 966, 964, 965)
abbrev pe_m20 : MethodName × ByteArray × Nat × Option FieldType × Nat × Nat × Bool × Nat × Nat × Nat × Nat := (yX2_outsOfAll, cX2_outsOfAll, 3, (some .int), 2, 0, false, 0, 970, 968, 969)
abbrev pe_m21 : MethodName × ByteArray × Nat × Option FieldType × Nat × Nat × Bool × Nat × Nat × Nat × Nat := (yX2_codeOf, cX2_codeOf, 2, (some .int), 2, 0, false, 1, 1023, 1021, 1022)
abbrev pe_m22 : MethodName × ByteArray × Nat × Option FieldType × Nat × Nat × Bool × Nat × Nat × Nat × Nat := (yX2_causeOf, cX2_causeOf, 2, (some .int), 2, 0, false, 1, 1035, 1033, 1034)
abbrev pe_m23 : MethodName × ByteArray × Nat × Option FieldType × Nat × Nat × Bool × Nat × Nat × Nat × Nat := (yX2_faultsOf, cX2_faultsOf, 4, (some .int), 2, 0, false, 1, 979, 977, 978)
abbrev pe_m24 : MethodName × ByteArray × Nat × Option FieldType × Nat × Nat × Bool × Nat × Nat × Nat × Nat := (yX2_add, cX2_add, 3, (some .int), 2, 0, false, 2, 524, 522, 523)
abbrev pe_m25 : MethodName × ByteArray × Nat × Option FieldType × Nat × Nat × Bool × Nat × Nat × Nat × Nat := (yX2_sendTo, cX2_sendTo, 5, none, 2, 0, false, 2, 544, 542, 543)
abbrev pe_m26 : MethodName × ByteArray × Nat × Option FieldType × Nat × Nat × Bool × Nat × Nat × Nat × Nat := (yX2_closeDown, cX2_closeDown, 4, none, 2, 0, false, 1, 637, 635, 636)
abbrev pe_m27 : MethodName × ByteArray × Nat × Option FieldType × Nat × Nat × Bool × Nat × Nat × Nat × Nat := (yX2_makeRounds, cX2_makeRounds, 4, none, 2, 0, false, 1, 949, 947, 948)
abbrev pe_m28 : MethodName × ByteArray × Nat × Option FieldType × Nat × Nat × Bool × Nat × Nat × Nat × Nat := (yX2_makeRound, cX2_makeRound, 5, (some .boolean), 2, 0, false, 0, 645, 643, 644)
abbrev pe_m30 : MethodName × ByteArray × Nat × Option FieldType × Nat × Nat × Bool × Nat × Nat × Nat × Nat := (yX2_lineUp, cX2_lineUp, 5, (some .int), 2, 0, false, 0, 649, 648, 24)
abbrev pe_m31 : MethodName × ByteArray × Nat × Option FieldType × Nat × Nat × Bool × Nat × Nat × Nat × Nat := (yX2_makeStep, cX2_makeStep, 7, none, 2, 0, false, 2, 556, 555, 14)
abbrev pe_m32 : MethodName × ByteArray × Nat × Option FieldType × Nat × Nat × Bool × Nat × Nat × Nat × Nat := (yX2_makeLivelyStep, cX2_makeLivelyStep, 6, none, 2, 0, false, 3, 588, 587, 18)
abbrev pe_m33 : MethodName × ByteArray × Nat × Option FieldType × Nat × Nat × Bool × Nat × Nat × Nat × Nat := (yX2_goInto, cX2_goInto, 3, none, 2, 0, false, 2, 596, 595, 19)
abbrev pe_m34 : MethodName × ByteArray × Nat × Option FieldType × Nat × Nat × Bool × Nat × Nat × Nat × Nat := (yX2_sendAt, cX2_sendAt, 5, none, 2, 0, false, 2, 601, 600, 20)
abbrev pe_m35 : MethodName × ByteArray × Nat × Option FieldType × Nat × Nat × Bool × Nat × Nat × Nat × Nat := (yX2_getAt, cX2_getAt, 5, none, 2, 0, false, 2, 621, 620, 21)
abbrev pe_m36 : MethodName × ByteArray × Nat × Option FieldType × Nat × Nat × Bool × Nat × Nat × Nat × Nat := (yX2_haveEnd, cX2_haveEnd, 3, none, 2, 0, false, 2, 629, 628, 22)
abbrev pe_m37 : MethodName × ByteArray × Nat × Option FieldType × Nat × Nat × Bool × Nat × Nat × Nat × Nat := (yX2_tellJoining, cX2_tellJoining, 5, none, 2, 2, false, 3, 632, 631, 50)
abbrev pe_m38 : MethodName × ByteArray × Nat × Option FieldType × Nat × Nat × Bool × Nat × Nat × Nat × Nat := (yX2_endTop, cX2_endTop, 3, none, 2, 0, false, 1, 564, 563, 15)
abbrev pe_m39 : MethodName × ByteArray × Nat × Option FieldType × Nat × Nat × Bool × Nat × Nat × Nat × Nat := (yX2_newFault, cX2_newFault, 3, (some .int), 2, 0, false, 2, 584, 583, 17)
abbrev pe_m40 : MethodName × ByteArray × Nat × Option FieldType × Nat × Nat × Bool × Nat × Nat × Nat × Nat := (yX2_throwFault, cX2_throwFault, 4, none, 2, 0, false, 2, 572, 571, 16)
abbrev pe_m41 : MethodName × ByteArray × Nat × Option FieldType × Nat × Nat × Bool × Nat × Nat × Nat × Nat := (yX3_init, cX3_init, 3, none, 3, 1, true, 2, 278, 277, 55)
abbrev pe_m42 : MethodName × ByteArray × Nat × Option FieldType × Nat × Nat × Bool × Nat × Nat × Nat × Nat := (yX3_weight, cX3_weight, 1, (some .int), 3, 0, false, 0, 654, 652, 653)
abbrev pe_m43 : MethodName × ByteArray × Nat × Option FieldType × Nat × Nat × Bool × Nat × Nat × Nat × Nat := (yX3_yields, cX3_yields, 2, (some .int), 3, 0, false, 1, 592, 590, 591)
abbrev pe_m44 : MethodName × ByteArray × Nat × Option FieldType × Nat × Nat × Bool × Nat × Nat × Nat × Nat := (yX3_takes, cX3_takes, 3, (some .int), 3, 0, false, 2, 552, 550, 551)
abbrev pe_m48 : MethodName × ByteArray × Nat × Option FieldType × Nat × Nat × Bool × Nat × Nat × Nat × Nat := (yX4_init, cX4_init, 3, none, 4, 1, true, 2, 94, 93, 51)
abbrev pe_m49 : MethodName × ByteArray × Nat × Option FieldType × Nat × Nat × Bool × Nat × Nat × Nat × Nat := (yX4_length, cX4_length, 1, (some .int), 4, 0, false, 0, 560, 558, 559)
abbrev pe_m50 : MethodName × ByteArray × Nat × Option FieldType × Nat × Nat × Bool × Nat × Nat × Nat × Nat := (yX4_letter, cX4_letter, 2, (some .int), 4, 0, false, 1, 576, 574, 575)
abbrev pe_m51 : MethodName × ByteArray × Nat × Option FieldType × Nat × Nat × Bool × Nat × Nat × Nat × Nat := (yX4_number, cX4_number, 2, (some .int), 4, 0, false, 1, 580, 578, 579)
abbrev pe_m52 : MethodName × ByteArray × Nat × Option FieldType × Nat × Nat × Bool × Nat × Nat × Nat × Nat := (yX5_init, cX5_init, 1, none, 5, 1, true, 0, 206, 205, 54)
abbrev pe_m53 : MethodName × ByteArray × Nat × Option FieldType × Nat × Nat × Bool × Nat × Nat × Nat × Nat := (yX5_become, cX5_become, 3, none, 5, 0, false, 1, 479, 477, 478)
abbrev pe_m54 : MethodName × ByteArray × Nat × Option FieldType × Nat × Nat × Bool × Nat × Nat × Nat × Nat := (yX5_join, cX5_join, 2, none, 5, 0, false, 1, 613, 611, 612)
abbrev pe_m55 : MethodName × ByteArray × Nat × Option FieldType × Nat × Nat × Bool × Nat × Nat × Nat × Nat := (yX5_leave, cX5_leave, 4, none, 5, 0, false, 1, 605, 603, 604)
abbrev pe_m56 : MethodName × ByteArray × Nat × Option FieldType × Nat × Nat × Bool × Nat × Nat × Nat × Nat := (yX6_init, cX6_init, 3, none, 6, 1, true, 2, 383, 382, 56)
abbrev pe_m57 : MethodName × ByteArray × Nat × Option FieldType × Nat × Nat × Bool × Nat × Nat × Nat × Nat := (yX6_size, cX6_size, 1, (some .int), 6, 0, false, 0, 434, 432, 433)
abbrev pe_m58 : MethodName × ByteArray × Nat × Option FieldType × Nat × Nat × Bool × Nat × Nat × Nat × Nat := (yX6_has, cX6_has, 2, (some .boolean), 6, 0, false, 1, 404, 402, 403)
abbrev pe_m60 : MethodName × ByteArray × Nat × Option FieldType × Nat × Nat × Bool × Nat × Nat × Nat × Nat := (yX6_at, cX6_at, 2, (some .int), 6, 0, false, 1, 442, 440, 441)
abbrev pe_m61 : MethodName × ByteArray × Nat × Option FieldType × Nat × Nat × Bool × Nat × Nat × Nat × Nat := (yX6_become, cX6_become, 3, none, 6, 0, false, 2, 408, 406, 407)
abbrev pe_m63 : MethodName × ByteArray × Nat × Option FieldType × Nat × Nat × Bool × Nat × Nat × Nat × Nat := (yX7_init, cX7_init, 2, none, 7, 1, true, 1, 418, 417, 57)
abbrev pe_m64 : MethodName × ByteArray × Nat × Option FieldType × Nat × Nat × Bool × Nat × Nat × Nat × Nat := (yX7_statements, cX7_statements, 3, (some .int), 7, 0, false, 0, 430, 428, 429)
abbrev pe_m65 : MethodName × ByteArray × Nat × Option FieldType × Nat × Nat × Bool × Nat × Nat × Nat × Nat := (yX7_faultAt, cX7_faultAt, 1, (some .int), 7, 2, false, 1, 452, 451, 57)
abbrev pe_m66 : MethodName × ByteArray × Nat × Option FieldType × Nat × Nat × Bool × Nat × Nat × Nat × Nat := (yX7_endOfStatement, cX7_endOfStatement, 2, (some .int), 7, 0, false, 1, 438, 437, 5)
abbrev pe_m67 : MethodName × ByteArray × Nat × Option FieldType × Nat × Nat × Bool × Nat × Nat × Nat × Nat := (yX7_endOfNumbers, cX7_endOfNumbers, 5, (some .int), 7, 0, false, 2, 459, 458, 7)
abbrev pe_m68 : MethodName × ByteArray × Nat × Option FieldType × Nat × Nat × Bool × Nat × Nat × Nat × Nat := (yX7_endOfProgram, cX7_endOfProgram, 3, (some .int), 7, 0, false, 1, 446, 445, 6)
abbrev pe_m69 : MethodName × ByteArray × Nat × Option FieldType × Nat × Nat × Bool × Nat × Nat × Nat × Nat := (yX7_isDigit, cX7_isDigit, 1, (some .boolean), 7, 2, false, 1, 449, 448, 57)
abbrev pe_m70 : MethodName × ByteArray × Nat × Option FieldType × Nat × Nat × Bool × Nat × Nat × Nat × Nat := (yX7_isNumberedStep, cX7_isNumberedStep, 1, (some .boolean), 7, 2, false, 1, 455, 454, 57)
abbrev pe_m71 : MethodName × ByteArray × Nat × Option FieldType × Nat × Nat × Bool × Nat × Nat × Nat × Nat := (yX7_behindStatement, cX7_behindStatement, 3, (some .int), 7, 0, false, 1, 663, 661, 662)
abbrev pe_m72 : MethodName × ByteArray × Nat × Option FieldType × Nat × Nat × Bool × Nat × Nat × Nat × Nat := (yX7_digit, cX7_digit, 2, (some .int), 7, 0, false, 1, 490, 489, 9)
abbrev pe_m73 : MethodName × ByteArray × Nat × Option FieldType × Nat × Nat × Bool × Nat × Nat × Nat × Nat := (yX7_twoDigits, cX7_twoDigits, 2, (some .int), 7, 0, false, 1, 540, 539, 13)
abbrev pe_m74 : MethodName × ByteArray × Nat × Option FieldType × Nat × Nat × Bool × Nat × Nat × Nat × Nat := (yX7_isDone, cX7_isDone, 4, (some .boolean), 7, 0, false, 2, 486, 484, 485)
abbrev pe_m75 : MethodName × ByteArray × Nat × Option FieldType × Nat × Nat × Bool × Nat × Nat × Nat × Nat := (yX7_isProgramDone, cX7_isProgramDone, 5, (some .boolean), 7, 0, false, 2, 494, 493, 10)
abbrev pe_m76 : MethodName × ByteArray × Nat × Option FieldType × Nat × Nat × Bool × Nat × Nat × Nat × Nat := (yX7_programFrom, cX7_programFrom, 6, (some (.object "StepMachines$Program")), 7, 0, false, 1, 498, 497, 11)
abbrev pe_m77 : MethodName × ByteArray × Nat × Option FieldType × Nat × Nat × Bool × Nat × Nat × Nat × Nat := (yX7_isComingDone, cX7_isComingDone, 5, (some .boolean), 7, 0, false, 2, 518, 517, 12)
abbrev pe_m78 : MethodName × ByteArray × Nat × Option FieldType × Nat × Nat × Bool × Nat × Nat × Nat × Nat := (yX7_areRoundsDone, cX7_areRoundsDone, 4, (some .boolean), 7, 0, false, 2, 641, 640, 23)
abbrev pe_m79 : MethodName × ByteArray × Nat × Option FieldType × Nat × Nat × Bool × Nat × Nat × Nat × Nat := (yX8_init, cX8_init, 2, none, 8, 1, true, 0, 77, 76, 49)
abbrev pe_m80 : MethodName × ByteArray × Nat × Option FieldType × Nat × Nat × Bool × Nat × Nat × Nat × Nat := (yX8_text, cX8_text, 8, (some .int), 8, 0, false, 1, 413, 411, 412)
abbrev pe_m82 : MethodName × ByteArray × Nat × Option FieldType × Nat × Nat × Bool × Nat × Nat × Nat × Nat := (yX8_comes, cX8_comes, 4, (some .int), 8, 0, false, 2, 775, 773, 774)
abbrev pe_m83 : MethodName × ByteArray × Nat × Option FieldType × Nat × Nat × Bool × Nat × Nat × Nat × Nat := (yX8_coroutine, cX8_coroutine, 4, (some .int), 8, 0, false, 2, 974, 972, 973)
abbrev pe_m84 : MethodName × ByteArray × Nat × Option FieldType × Nat × Nat × Bool × Nat × Nat × Nat × Nat := (yX8_frame, cX8_frame, 6, (some .int), 8, 0, false, 3, 1015, 1013, 1014)
abbrev pe_m85 : MethodName × ByteArray × Nat × Option FieldType × Nat × Nat × Bool × Nat × Nat × Nat × Nat := (yX8_cause, cX8_cause, 5, (some .int), 8, 0, false, 2, 1031, 1029, 1030)
abbrev pe_m86 : MethodName × ByteArray × Nat × Option FieldType × Nat × Nat × Bool × Nat × Nat × Nat × Nat := (yX8_channel, cX8_channel, 5, (some .int), 8, 0, false, 3, 983, 981, 982)
abbrev pe_m87 : MethodName × ByteArray × Nat × Option FieldType × Nat × Nat × Bool × Nat × Nat × Nat × Nat := (yX8_send, cX8_send, 3, (some .int), 8, 0, false, 2, 795, 793, 794)
abbrev pe_m88 : MethodName × ByteArray × Nat × Option FieldType × Nat × Nat × Bool × Nat × Nat × Nat × Nat := (yX8_close, cX8_close, 2, (some .int), 8, 0, false, 1, 889, 887, 888)
abbrev pe_m89 : MethodName × ByteArray × Nat × Option FieldType × Nat × Nat × Bool × Nat × Nat × Nat × Nat := (yX8_width, cX8_width, 3, (some .int), 8, 0, false, 1, 900, 898, 899)
abbrev pe_m90 : MethodName × ByteArray × Nat × Option FieldType × Nat × Nat × Bool × Nat × Nat × Nat × Nat := (yX8_rounds, cX8_rounds, 3, (some .int), 8, 0, false, 1, 919, 917, 918)
abbrev pe_m91 : MethodName × ByteArray × Nat × Option FieldType × Nat × Nat × Bool × Nat × Nat × Nat × Nat := (yX8_then, cX8_then, 5, (some .int), 8, 0, false, 3, 945, 943, 944)
abbrev pe_m92 : MethodName × ByteArray × Nat × Option FieldType × Nat × Nat × Bool × Nat × Nat × Nat × Nat := (yX8_ends, cX8_ends, 4, (some .int), 8, 0, false, 1, 995, 993, 994)
abbrev pe_m93 : MethodName × ByteArray × Nat × Option FieldType × Nat × Nat × Bool × Nat × Nat × Nat × Nat := (yX8_stuck, cX8_stuck, 4, (some .int), 8, 0, false, 1, 991, 989, 990)
abbrev pe_m94 : MethodName × ByteArray × Nat × Option FieldType × Nat × Nat × Bool × Nat × Nat × Nat × Nat := (yX8_leastWidth, cX8_leastWidth, 4, (some .int), 8, 0, false, 1, 1003, 1001, 1002)
abbrev pe_m96 : MethodName × ByteArray × Nat × Option FieldType × Nat × Nat × Bool × Nat × Nat × Nat × Nat := (yX8_sendBest, cX8_sendBest, 7, (some .int), 8, 0, false, 2, 999, 997, 998)
abbrev pe_m106 : MethodName × ByteArray × Nat × Option FieldType × Nat × Nat × Bool × Nat × Nat × Nat × Nat := (yX8_image, cX8_image, 1, (some .int), 8, 0, false, 0, 941, 939, 940)
abbrev pe_m107 : MethodName × ByteArray × Nat × Option FieldType × Nat × Nat × Bool × Nat × Nat × Nat × Nat := (yX8_restore, cX8_restore, 1, (some .int), 8, 0, false, 0, 987, 985, 986)
abbrev pe_m108 : MethodName × ByteArray × Nat × Option FieldType × Nat × Nat × Bool × Nat × Nat × Nat × Nat := (yX8_count, cX8_count, 2, (some .int), 8, 0, false, 1, 958, 956, 957)
abbrev pe_m109 : MethodName × ByteArray × Nat × Option FieldType × Nat × Nat × Bool × Nat × Nat × Nat × Nat := (yX8_keep, cX8_keep, 5, (some .int), 8, 0, false, 4, 771, 769, 770)
abbrev pe_m110 : MethodName × ByteArray × Nat × Option FieldType × Nat × Nat × Bool × Nat × Nat × Nat × Nat := (yX8_row, cX8_row, 4, (some .int), 8, 0, false, 3, 376, 374, 375)
abbrev pe_m111 : MethodName × ByteArray × Nat × Option FieldType × Nat × Nat × Bool × Nat × Nat × Nat × Nat := (yX8_put, cX8_put, 5, (some .int), 8, 0, false, 3, 396, 394, 395)
abbrev pe_m115 : MethodName × ByteArray × Nat × Option FieldType × Nat × Nat × Bool × Nat × Nat × Nat × Nat := (yX8_isShelf, cX8_isShelf, 1, (some .boolean), 8, 2, false, 1, 379, 378, 49)
abbrev pe_m116 : MethodName × ByteArray × Nat × Option FieldType × Nat × Nat × Bool × Nat × Nat × Nat × Nat := (yX8_isProgram, cX8_isProgram, 1, (some .boolean), 8, 2, false, 1, 778, 777, 49)
abbrev pe_m117 : MethodName × ByteArray × Nat × Option FieldType × Nat × Nat × Bool × Nat × Nat × Nat × Nat := (yX8_isCoroutine, cX8_isCoroutine, 2, (some .boolean), 8, 0, false, 1, 799, 798, 31)
abbrev pe_m119 : MethodName × ByteArray × Nat × Option FieldType × Nat × Nat × Bool × Nat × Nat × Nat × Nat := (yX8_refusalOfRow, cX8_refusalOfRow, 2, (some .int), 8, 0, false, 1, 400, 399, 4)
abbrev pe_m120 : MethodName × ByteArray × Nat × Option FieldType × Nat × Nat × Bool × Nat × Nat × Nat × Nat := (yX8_refusalOfManner, cX8_refusalOfManner, 2, (some .int), 8, 0, false, 1, 782, 781, 28)
abbrev pe_m121 : MethodName × ByteArray × Nat × Option FieldType × Nat × Nat × Bool × Nat × Nat × Nat × Nat := (yX8_heldTold, cX8_heldTold, 2, (some .int), 8, 0, false, 1, 1019, 1018, 46)
abbrev pe_m122 : MethodName × ByteArray × Nat × Option FieldType × Nat × Nat × Bool × Nat × Nat × Nat × Nat := (yX8_mindOfNow, cX8_mindOfNow, 1, (some (.object "StepMachines$Machine")), 8, 0, false, 0, 463, 462, 8)
abbrev pe_m132 : MethodName × ByteArray × Nat × Option FieldType × Nat × Nat × Bool × Nat × Nat × Nat × Nat := (yX9_init, cX9_init, 3, none, 9, 1, true, 2, 835, 834, 63)
abbrev pe_m133 : MethodName × ByteArray × Nat × Option FieldType × Nat × Nat × Bool × Nat × Nat × Nat × Nat := (yX10_init, cX10_init, 4, none, 19, 1, true, 3, 733, 732, 62)
abbrev pe_m134 : MethodName × ByteArray × Nat × Option FieldType × Nat × Nat × Bool × Nat × Nat × Nat × Nat := (yX10_finishes, cX10_finishes, 2, (some .boolean), 19, 0, false, 0, 830, 828, 829)
abbrev pe_m135 : MethodName × ByteArray × Nat × Option FieldType × Nat × Nat × Bool × Nat × Nat × Nat × Nat := (yX10_told, cX10_told, 1, (some .int), 19, 0, false, 0, 1027, 1025, 1026)
abbrev pe_m136 : MethodName × ByteArray × Nat × Option FieldType × Nat × Nat × Bool × Nat × Nat × Nat × Nat := (yX11_init, cX11_init, 1, none, 20, 1, true, 0, 675, 674, 61)
abbrev pe_m137 : MethodName × ByteArray × Nat × Option FieldType × Nat × Nat × Bool × Nat × Nat × Nat × Nat := (yX11_top, cX11_top, 1, (some (.object "StepMachinesLaw$Frame")), 20, 0, false, 0, 817, 815, 816)
abbrev pe_m138 : MethodName × ByteArray × Nat × Option FieldType × Nat × Nat × Bool × Nat × Nat × Nat × Nat := (yX11_weight, cX11_weight, 2, (some .int), 20, 0, false, 0, 912, 910, 911)
abbrev pe_m139 : MethodName × ByteArray × Nat × Option FieldType × Nat × Nat × Bool × Nat × Nat × Nat × Nat := (yX11_throwing, cX11_throwing, 3, none, 20, 0, false, 1, 826, 824, 825)
abbrev pe_m140 : MethodName × ByteArray × Nat × Option FieldType × Nat × Nat × Bool × Nat × Nat × Nat × Nat := (yX11_closing, cX11_closing, 2, none, 20, 0, false, 0, 852, 850, 851)
abbrev pe_m141 : MethodName × ByteArray × Nat × Option FieldType × Nat × Nat × Bool × Nat × Nat × Nat × Nat := (yX11_ending, cX11_ending, 2, none, 20, 0, false, 0, 821, 819, 820)
abbrev pe_m142 : MethodName × ByteArray × Nat × Option FieldType × Nat × Nat × Bool × Nat × Nat × Nat × Nat := (yX11_sent, cX11_sent, 2, none, 20, 0, false, 1, 809, 807, 808)
abbrev pe_m143 : MethodName × ByteArray × Nat × Option FieldType × Nat × Nat × Bool × Nat × Nat × Nat × Nat := (yX11_chain, cX11_chain, 3, (some .int), 20, 0, false, 0, 1011, 1009, 1010)
abbrev pe_m144 : MethodName × ByteArray × Nat × Option FieldType × Nat × Nat × Bool × Nat × Nat × Nat × Nat := (yL_init, cL_init, 1, none, 21, 1, true, 0, 69, 68, 48)
abbrev pe_m145 : MethodName × ByteArray × Nat × Option FieldType × Nat × Nat × Bool × Nat × Nat × Nat × Nat := (yL_cell, cL_cell, 2, (some .int), 21, 2, false, 2, 364, 363, 48)
abbrev pe_m146 : MethodName × ByteArray × Nat × Option FieldType × Nat × Nat × Bool × Nat × Nat × Nat × Nat := (yL_some, cL_some, 3, (some .int), 21, 2, false, 3, 361, 360, 48)
abbrev pe_m147 : MethodName × ByteArray × Nat × Option FieldType × Nat × Nat × Bool × Nat × Nat × Nat × Nat := (yL_tell, cL_tell, 4, (some .int), 21, 0, false, 2, 372, 371, 3)
abbrev pe_m148 : MethodName × ByteArray × Nat × Option FieldType × Nat × Nat × Bool × Nat × Nat × Nat × Nat := (yL_bit, cL_bit, 2, (some .boolean), 21, 2, false, 2, 915, 914, 48)
abbrev pe_m149 : MethodName × ByteArray × Nat × Option FieldType × Nat × Nat × Bool × Nat × Nat × Nat × Nat := (yL_bits, cL_bits, 3, (some .int), 21, 2, false, 1, 937, 936, 48)
abbrev pe_m150 : MethodName × ByteArray × Nat × Option FieldType × Nat × Nat × Bool × Nat × Nat × Nat × Nat := (yL_frame, cL_frame, 2, (some (.object "StepMachinesLaw$Frame")), 21, 0, false, 1, 728, 727, 27)
abbrev pe_m151 : MethodName × ByteArray × Nat × Option FieldType × Nat × Nat × Bool × Nat × Nat × Nat × Nat := (yL_queue, cL_queue, 4, none, 21, 0, false, 2, 885, 884, 40)
abbrev pe_m152 : MethodName × ByteArray × Nat × Option FieldType × Nat × Nat × Bool × Nat × Nat × Nat × Nat := (yL_unqueue, cL_unqueue, 9, none, 21, 0, false, 1, 880, 879, 39)
abbrev pe_m153 : MethodName × ByteArray × Nat × Option FieldType × Nat × Nat × Bool × Nat × Nat × Nat × Nat := (yL_served, cL_served, 3, (some (.object "StepMachinesLaw$One")), 21, 0, false, 1, 876, 875, 38)
abbrev pe_m154 : MethodName × ByteArray × Nat × Option FieldType × Nat × Nat × Bool × Nat × Nat × Nat × Nat := (yL_joined, cL_joined, 3, none, 21, 0, false, 2, 860, 859, 35)
abbrev pe_m155 : MethodName × ByteArray × Nat × Option FieldType × Nat × Nat × Bool × Nat × Nat × Nat × Nat := (yL_settle, cL_settle, 3, none, 21, 0, false, 1, 856, 855, 34)
abbrev pe_m156 : MethodName × ByteArray × Nat × Option FieldType × Nat × Nat × Bool × Nat × Nat × Nat × Nat := (yL_blocked, cL_blocked, 5, none, 21, 0, false, 3, 872, 871, 37)
abbrev pe_m157 : MethodName × ByteArray × Nat × Option FieldType × Nat × Nat × Bool × Nat × Nat × Nat × Nat := (yL_step, cL_step, 8, none, 21, 0, false, 2, 813, 812, 33)
abbrev pe_m158 : MethodName × ByteArray × Nat × Option FieldType × Nat × Nat × Bool × Nat × Nat × Nat × Nat := (yL_does, cL_does, 7, none, 21, 0, false, 4, 867, 866, 36)
abbrev pe_m159 : MethodName × ByteArray × Nat × Option FieldType × Nat × Nat × Bool × Nat × Nat × Nat × Nat := (yL_could, cL_could, 2, (some .boolean), 21, 0, false, 1, 791, 790, 30)
abbrev pe_m160 : MethodName × ByteArray × Nat × Option FieldType × Nat × Nat × Bool × Nat × Nat × Nat × Nat := (yL_send, cL_send, 4, none, 21, 0, false, 2, 805, 804, 32)
abbrev pe_m161 : MethodName × ByteArray × Nat × Option FieldType × Nat × Nat × Bool × Nat × Nat × Nat × Nat := (yL_close, cL_close, 2, none, 21, 0, false, 1, 895, 894, 41)
abbrev pe_m162 : MethodName × ByteArray × Nat × Option FieldType × Nat × Nat × Bool × Nat × Nat × Nat × Nat := (yL_round, cL_round, 9, none, 21, 0, false, 1, 908, 907, 43)
abbrev pe_m163 : MethodName × ByteArray × Nat × Option FieldType × Nat × Nat × Bool × Nat × Nat × Nat × Nat := (yL_go, cL_go, 3, none, 21, 0, false, 1, 904, 903, 42)
abbrev pe_m164 : MethodName × ByteArray × Nat × Option FieldType × Nat × Nat × Bool × Nat × Nat × Nat × Nat := (yL_ended, cL_ended, 3, (some .int), 21, 0, false, 0, 934, 933, 44)
abbrev pe_m165 : MethodName × ByteArray × Nat × Option FieldType × Nat × Nat × Bool × Nat × Nat × Nat × Nat := (yL_outs, cL_outs, 3, (some .int), 21, 0, false, 0, 1039, 1038, 47)
abbrev pe_m166 : MethodName × ByteArray × Nat × Option FieldType × Nat × Nat × Bool × Nat × Nat × Nat × Nat := (yL_lay, cL_lay, 15, (some .int), 21, 0, false, 5, 358, 357, 2)
abbrev pe_m167 : MethodName × ByteArray × Nat × Option FieldType × Nat × Nat × Bool × Nat × Nat × Nat × Nat := (yL_joins, cL_joins, 5, none, 21, 0, false, 3, 671, 670, 26)
abbrev pe_m168 : MethodName × ByteArray × Nat × Option FieldType × Nat × Nat × Bool × Nat × Nat × Nat × Nat := (yL_come, cL_come, 4, (some .boolean), 21, 0, false, 3, 667, 666, 25)
abbrev pe_m169 : MethodName × ByteArray × Nat × Option FieldType × Nat × Nat × Bool × Nat × Nat × Nat × Nat := (yL_act, cL_act, 5, (some .boolean), 21, 0, false, 1, 787, 786, 29)
abbrev pe_m170 : MethodName × ByteArray × Nat × Option FieldType × Nat × Nat × Bool × Nat × Nat × Nat × Nat := (yL_begin, cL_begin, 8, (some .boolean), 21, 0, false, 3, 354, 353, 1)
abbrev pe_m171 : MethodName × ByteArray × Nat × Option FieldType × Nat × Nat × Bool × Nat × Nat × Nat × Nat := (yL_same, cL_same, 6, (some .boolean), 21, 0, false, 0, 1007, 1006, 45)
abbrev pe_m172 : MethodName × ByteArray × Nat × Option FieldType × Nat × Nat × Bool × Nat × Nat × Nat × Nat := (yL_holds, cL_holds, 11, (some .boolean), 21, 0, false, 1, 350, 349, 0)
abbrev pe_m244 : MethodName × ByteArray × Nat × Option FieldType × Nat × Nat × Bool × Nat × Nat × Nat × Nat := (yL_law, cL_law, 1, some .boolean, 21, 2, false, 1, 0, 0, 0)
abbrev pe_m245 : MethodName × ByteArray × Nat × Option FieldType × Nat × Nat × Bool × Nat × Nat × Nat × Nat := (yJ6_bitCount_0f7a4, cJ6_bitCount_0f7a4, 1, (some .int), 11, 2, false, 1, 927, 926, 64)
abbrev pe_m246 : MethodName × ByteArray × Nat × Option FieldType × Nat × Nat × Bool × Nat × Nat × Nat × Nat := (yJ7_copyOf_59c91, cJ7_copyOf_59c91, 3, (some (.array .int)), 13, 2, false, 2, 502, 501, 59)
/-- a method by its number: name, code, locals, what it answers, its class, 0 virtual 1 <init> 2 static, is it <init>, how many arguments, places: its code, instance or static, selects (virtual) or initialized; a number of nobody is 0's -/
def pe_me (i : Nat) : MethodName × ByteArray × Nat × Option FieldType × Nat × Nat × Bool × Nat × Nat × Nat × Nat := match i with
  | 0 => pe_m0
  | 1 => pe_m1
  | 2 => pe_m2
  | 3 => pe_m3
  | 4 => pe_m4
  | 5 => pe_m5
  | 6 => pe_m6
  | 7 => pe_m7
  | 8 => pe_m8
  | 9 => pe_m9
  | 10 => pe_m10
  | 11 => pe_m11
  | 12 => pe_m12
  | 13 => pe_m13
  | 14 => pe_m14
  | 15 => pe_m15
  | 16 => pe_m16
  | 17 => pe_m17
  | 19 => pe_m19
  | 20 => pe_m20
  | 21 => pe_m21
  | 22 => pe_m22
  | 23 => pe_m23
  | 24 => pe_m24
  | 25 => pe_m25
  | 26 => pe_m26
  | 27 => pe_m27
  | 28 => pe_m28
  | 30 => pe_m30
  | 31 => pe_m31
  | 32 => pe_m32
  | 33 => pe_m33
  | 34 => pe_m34
  | 35 => pe_m35
  | 36 => pe_m36
  | 37 => pe_m37
  | 38 => pe_m38
  | 39 => pe_m39
  | 40 => pe_m40
  | 41 => pe_m41
  | 42 => pe_m42
  | 43 => pe_m43
  | 44 => pe_m44
  | 48 => pe_m48
  | 49 => pe_m49
  | 50 => pe_m50
  | 51 => pe_m51
  | 52 => pe_m52
  | 53 => pe_m53
  | 54 => pe_m54
  | 55 => pe_m55
  | 56 => pe_m56
  | 57 => pe_m57
  | 58 => pe_m58
  | 60 => pe_m60
  | 61 => pe_m61
  | 63 => pe_m63
  | 64 => pe_m64
  | 65 => pe_m65
  | 66 => pe_m66
  | 67 => pe_m67
  | 68 => pe_m68
  | 69 => pe_m69
  | 70 => pe_m70
  | 71 => pe_m71
  | 72 => pe_m72
  | 73 => pe_m73
  | 74 => pe_m74
  | 75 => pe_m75
  | 76 => pe_m76
  | 77 => pe_m77
  | 78 => pe_m78
  | 79 => pe_m79
  | 80 => pe_m80
  | 82 => pe_m82
  | 83 => pe_m83
  | 84 => pe_m84
  | 85 => pe_m85
  | 86 => pe_m86
  | 87 => pe_m87
  | 88 => pe_m88
  | 89 => pe_m89
  | 90 => pe_m90
  | 91 => pe_m91
  | 92 => pe_m92
  | 93 => pe_m93
  | 94 => pe_m94
  | 96 => pe_m96
  | 106 => pe_m106
  | 107 => pe_m107
  | 108 => pe_m108
  | 109 => pe_m109
  | 110 => pe_m110
  | 111 => pe_m111
  | 115 => pe_m115
  | 116 => pe_m116
  | 117 => pe_m117
  | 119 => pe_m119
  | 120 => pe_m120
  | 121 => pe_m121
  | 122 => pe_m122
  | 132 => pe_m132
  | 133 => pe_m133
  | 134 => pe_m134
  | 135 => pe_m135
  | 136 => pe_m136
  | 137 => pe_m137
  | 138 => pe_m138
  | 139 => pe_m139
  | 140 => pe_m140
  | 141 => pe_m141
  | 142 => pe_m142
  | 143 => pe_m143
  | 144 => pe_m144
  | 145 => pe_m145
  | 146 => pe_m146
  | 147 => pe_m147
  | 148 => pe_m148
  | 149 => pe_m149
  | 150 => pe_m150
  | 151 => pe_m151
  | 152 => pe_m152
  | 153 => pe_m153
  | 154 => pe_m154
  | 155 => pe_m155
  | 156 => pe_m156
  | 157 => pe_m157
  | 158 => pe_m158
  | 159 => pe_m159
  | 160 => pe_m160
  | 161 => pe_m161
  | 162 => pe_m162
  | 163 => pe_m163
  | 164 => pe_m164
  | 165 => pe_m165
  | 166 => pe_m166
  | 167 => pe_m167
  | 168 => pe_m168
  | 169 => pe_m169
  | 170 => pe_m170
  | 171 => pe_m171
  | 172 => pe_m172
  | 244 => pe_m244
  | 245 => pe_m245
  | 246 => pe_m246
  | _ => pe_m0
def pe_mn : Nat := 247
def pe_ip : List Nat := [52, 53, 50, 55, 51, 54, 56, 57, 49, 63, 0, 64, 60, 59, 0, 0, 0, 0, 0, 62, 61, 48]
def pe_i0 : List (Nat × Nat × Nat) := [(50, 12, 529), (54, 13, 472), (58, 44, 549)]
def pe_i1 : List (Nat × Nat × Nat) := []
def pe_i2 : List (Nat × Nat × Nat) := [(61, 48, 92), (64, 0, 107), (66, 2, 468), (70, 53, 476), (79, 3, 622), (86, 4, 650), (95, 1, 525), (99, 5, 545), (103, 31, 553), (107, 55, 602), (110, 8, 606), (113, 10, 565), (116, 37, 630), (120, 28, 950), (123, 30, 646), (136, 6, 656), (143, 42, 651), (164, 49, 557), (167, 38, 561), (170, 50, 573), (174, 51, 577), (184, 39, 581), (187, 40, 569), (191, 32, 585), (195, 43, 589), (202, 33, 593), (205, 34, 598), (209, 35, 618), (212, 36, 626), (216, 7, 614), (219, 12, 597), (228, 54, 610)]
def pe_i3 : List (Nat × Nat × Nat) := []
def pe_i4 : List (Nat × Nat × Nat) := []
def pe_i5 : List (Nat × Nat × Nat) := []
def pe_i6 : List (Nat × Nat × Nat) := [(19, 58, 409)]
def pe_i7 : List (Nat × Nat × Nat) := [(19, 57, 431), (25, 66, 435), (29, 65, 450), (32, 60, 439), (35, 68, 443), (38, 67, 456), (42, 69, 447), (46, 70, 453), (49, 72, 487), (52, 75, 491), (56, 77, 515), (69, 4, 533), (75, 73, 537), (78, 25, 541), (82, 3, 633), (85, 26, 634), (92, 78, 638), (95, 76, 495), (105, 246, 500), (111, 48, 514), (116, 41, 520), (118, 24, 521), (125, 28, 642)]
def pe_i8 : List (Nat × Nat × Nat) := [(9, 14, 81), (35, 41, 276), (50, 119, 397), (59, 63, 416), (62, 64, 427), (66, 122, 460), (70, 74, 483), (74, 71, 660), (77, 15, 464), (81, 116, 776), (100, 120, 779), (103, 24, 783), (107, 117, 796), (126, 42, 975), (135, 23, 976), (138, 9, 951), (161, 121, 1016), (167, 22, 1032), (170, 21, 1020), (189, 4, 800), (193, 25, 801), (199, 3, 890), (202, 26, 891), (212, 28, 920), (215, 17, 921), (218, 245, 925), (223, 27, 946), (226, 19, 963), (229, 16, 959), (283, 20, 967), (286, 115, 377), (289, 56, 381), (290, 58, 401), (293, 61, 405)]
def pe_i9 : List (Nat × Nat × Nat) := []
def pe_i11 : List (Nat × Nat × Nat) := []
def pe_i12 : List (Nat × Nat × Nat) := []
def pe_i13 : List (Nat × Nat × Nat) := []
def pe_i19 : List (Nat × Nat × Nat) := []
def pe_i20 : List (Nat × Nat × Nat) := [(55, 137, 822), (58, 134, 827), (73, 132, 833), (83, 139, 823), (87, 140, 849)]
def pe_i21 : List (Nat × Nat × Nat) := [(9, 79, 75), (40, 145, 362), (45, 110, 373), (49, 111, 393), (52, 80, 410), (58, 133, 731), (73, 152, 877), (86, 132, 862), (89, 139, 863), (96, 154, 857), (100, 155, 853), (103, 153, 873), (107, 151, 882), (111, 137, 814), (120, 141, 818), (129, 158, 864), (164, 150, 725), (168, 156, 869), (172, 142, 806), (175, 157, 810), (179, 140, 896), (185, 159, 788), (192, 138, 909), (196, 148, 913), (200, 162, 905), (218, 146, 359), (229, 167, 668), (232, 109, 768), (236, 82, 772), (239, 87, 792), (242, 160, 802), (244, 88, 886), (247, 161, 892), (249, 89, 897), (251, 163, 901), (254, 90, 916), (257, 164, 931), (260, 149, 935), (263, 166, 355), (267, 147, 369), (270, 168, 664), (274, 169, 784), (277, 83, 971), (280, 143, 1008), (283, 84, 1012), (286, 135, 1024), (289, 85, 1028), (297, 86, 980), (300, 108, 955), (302, 165, 1036), (304, 144, 67), (305, 172, 347), (309, 170, 351), (313, 106, 938), (316, 91, 942), (319, 107, 984), (322, 93, 988), (325, 92, 992), (328, 96, 996), (331, 94, 1000), (334, 171, 1004)]
def pe_iT (o : Nat) : List (Nat × Nat × Nat) := match o with
  | 0 => pe_i0
  | 1 => pe_i1
  | 2 => pe_i2
  | 3 => pe_i3
  | 4 => pe_i4
  | 5 => pe_i5
  | 6 => pe_i6
  | 7 => pe_i7
  | 8 => pe_i8
  | 9 => pe_i9
  | 11 => pe_i11
  | 12 => pe_i12
  | 13 => pe_i13
  | 19 => pe_i19
  | 20 => pe_i20
  | _ => pe_i21
def pe_j0 : List (Nat × Nat × Nat) := [(17, 11, 114)]
def pe_j1 : List (Nat × Nat × Nat) := []
def pe_j2 : List (Nat × Nat × Nat) := [(65, 52, 204)]
def pe_j3 : List (Nat × Nat × Nat) := []
def pe_j4 : List (Nat × Nat × Nat) := []
def pe_j5 : List (Nat × Nat × Nat) := []
def pe_j6 : List (Nat × Nat × Nat) := []
def pe_j7 : List (Nat × Nat × Nat) := []
def pe_j8 : List (Nat × Nat × Nat) := []
def pe_j9 : List (Nat × Nat × Nat) := []
def pe_j11 : List (Nat × Nat × Nat) := []
def pe_j12 : List (Nat × Nat × Nat) := []
def pe_j13 : List (Nat × Nat × Nat) := []
def pe_j19 : List (Nat × Nat × Nat) := []
def pe_j20 : List (Nat × Nat × Nat) := []
def pe_j21 : List (Nat × Nat × Nat) := [(225, 136, 673)]
/-- the host of a nest -/
def pe_ho (o : Nat) : String := if o < 9 then "StepMachines" else "StepMachinesLaw"
def pe_jT (o : Nat) : List (Nat × Nat × Nat) := match o with
  | 0 => pe_j0
  | 1 => pe_j1
  | 2 => pe_j2
  | 3 => pe_j3
  | 4 => pe_j4
  | 5 => pe_j5
  | 6 => pe_j6
  | 7 => pe_j7
  | 8 => pe_j8
  | 9 => pe_j9
  | 11 => pe_j11
  | 12 => pe_j12
  | 13 => pe_j13
  | 19 => pe_j19
  | 20 => pe_j20
  | _ => pe_j21
def pe_a0 : List (Nat × Nat) := []
def pe_a1 : List (Nat × Nat) := []
def pe_a2 : List (Nat × Nat) := [(73, 480)]
def pe_a3 : List (Nat × Nat) := []
def pe_a4 : List (Nat × Nat) := []
def pe_a5 : List (Nat × Nat) := []
def pe_a6 : List (Nat × Nat) := []
def pe_a7 : List (Nat × Nat) := []
def pe_a8 : List (Nat × Nat) := []
def pe_a9 : List (Nat × Nat) := []
def pe_a11 : List (Nat × Nat) := []
def pe_a12 : List (Nat × Nat) := []
def pe_a13 : List (Nat × Nat) := [(150, 513)]
def pe_a19 : List (Nat × Nat) := []
def pe_a20 : List (Nat × Nat) := []
def pe_a21 : List (Nat × Nat) := [(61, 881)]
def pe_aT (o : Nat) : List (Nat × Nat) := match o with
  | 0 => pe_a0
  | 1 => pe_a1
  | 2 => pe_a2
  | 3 => pe_a3
  | 4 => pe_a4
  | 5 => pe_a5
  | 6 => pe_a6
  | 7 => pe_a7
  | 8 => pe_a8
  | 9 => pe_a9
  | 11 => pe_a11
  | 12 => pe_a12
  | 13 => pe_a13
  | 19 => pe_a19
  | 20 => pe_a20
  | _ => pe_a21
def pe_b0 : List (Nat × Nat) := []
def pe_b1 : List (Nat × Nat) := []
def pe_b2 : List (Nat × Nat) := [(127, 655)]
def pe_b3 : List (Nat × Nat) := []
def pe_b4 : List (Nat × Nat) := []
def pe_b5 : List (Nat × Nat) := []
def pe_b6 : List (Nat × Nat) := []
def pe_b7 : List (Nat × Nat) := []
def pe_b8 : List (Nat × Nat) := []
def pe_b9 : List (Nat × Nat) := []
def pe_b11 : List (Nat × Nat) := []
def pe_b12 : List (Nat × Nat) := []
def pe_b13 : List (Nat × Nat) := [(304, 510)]
def pe_b19 : List (Nat × Nat) := []
def pe_b20 : List (Nat × Nat) := []
def pe_b21 : List (Nat × Nat) := [(145, 868)]
def pe_bT (o : Nat) : List (Nat × Nat) := match o with
  | 0 => pe_b0
  | 1 => pe_b1
  | 2 => pe_b2
  | 3 => pe_b3
  | 4 => pe_b4
  | 5 => pe_b5
  | 6 => pe_b6
  | 7 => pe_b7
  | 8 => pe_b8
  | 9 => pe_b9
  | 11 => pe_b11
  | 12 => pe_b12
  | 13 => pe_b13
  | 19 => pe_b19
  | 20 => pe_b20
  | _ => pe_b21
def pe_ml : Nat := 244
def pe_o0 : List (Nat × Nat) := [(3, 110)]
def pe_c0 : List (Nat × Nat × Nat) := [(9, 1, 111)]
def pe_k0 : List (Nat × Int × Nat) := []
def pe_l0 : List (Nat × Int × Nat) := []
def pe_o1 : List (Nat × Nat) := [(3, 117)]
def pe_c1 : List (Nat × Nat × Nat) := []
def pe_k1 : List (Nat × Int × Nat) := []
def pe_l1 : List (Nat × Int × Nat) := []
def pe_o2 : List (Nat × Nat) := [(3, 84)]
def pe_c2 : List (Nat × Nat × Nat) := [(9, 4, 85), (17, 0, 87), (23, 5, 89)]
def pe_k2 : List (Nat × Int × Nat) := []
def pe_l2 : List (Nat × Int × Nat) := []
def pe_o3 : List (Nat × Nat) := [(3, 279)]
def pe_c3 : List (Nat × Nat × Nat) := []
def pe_k3 : List (Nat × Int × Nat) := []
def pe_l3 : List (Nat × Int × Nat) := []
def pe_o4 : List (Nat × Nat) := [(1, 95)]
def pe_c4 : List (Nat × Nat × Nat) := []
def pe_k4 : List (Nat × Int × Nat) := []
def pe_l4 : List (Nat × Int × Nat) := []
def pe_o5 : List (Nat × Nat) := [(3, 207)]
def pe_c5 : List (Nat × Nat × Nat) := []
def pe_k5 : List (Nat × Int × Nat) := []
def pe_l5 : List (Nat × Int × Nat) := []
def pe_o6 : List (Nat × Nat) := [(3, 384)]
def pe_c6 : List (Nat × Nat × Nat) := []
def pe_k6 : List (Nat × Int × Nat) := []
def pe_l6 : List (Nat × Int × Nat) := []
def pe_o7 : List (Nat × Nat) := [(3, 419)]
def pe_c7 : List (Nat × Nat × Nat) := [(103, 4, 499), (114, 3, 519)]
def pe_k7 : List (Nat × Int × Nat) := []
def pe_l7 : List (Nat × Int × Nat) := []
def pe_o8 : List (Nat × Nat) := [(1, 78)]
def pe_c8 : List (Nat × Nat × Nat) := [(7, 2, 79), (23, 3, 271), (29, 6, 273), (57, 7, 414)]
def pe_k8 : List (Nat × Int × Nat) := []
def pe_l8 : List (Nat × Int × Nat) := []
def pe_o9 : List (Nat × Nat) := [(1, 836)]
def pe_c9 : List (Nat × Nat × Nat) := []
def pe_k9 : List (Nat × Int × Nat) := []
def pe_l9 : List (Nat × Int × Nat) := []
def pe_o11 : List (Nat × Nat) := []
def pe_c11 : List (Nat × Nat × Nat) := []
def pe_k11 : List (Nat × Int × Nat) := [(265, 1431655765, 928), (266, 858993459, 929), (267, 252645135, 930)]
def pe_l11 : List (Nat × Int × Nat) := []
def pe_o12 : List (Nat × Nat) := []
def pe_c12 : List (Nat × Nat × Nat) := []
def pe_k12 : List (Nat × Int × Nat) := []
def pe_l12 : List (Nat × Int × Nat) := []
def pe_o13 : List (Nat × Nat) := []
def pe_c13 : List (Nat × Nat × Nat) := []
def pe_k13 : List (Nat × Int × Nat) := []
def pe_l13 : List (Nat × Int × Nat) := []
def pe_o19 : List (Nat × Nat) := [(1, 734)]
def pe_c19 : List (Nat × Nat × Nat) := []
def pe_k19 : List (Nat × Int × Nat) := []
def pe_l19 : List (Nat × Int × Nat) := []
def pe_o20 : List (Nat × Nat) := [(1, 676)]
def pe_c20 : List (Nat × Nat × Nat) := [(16, 19, 677), (63, 9, 831)]
def pe_k20 : List (Nat × Int × Nat) := []
def pe_l20 : List (Nat × Int × Nat) := []
def pe_o21 : List (Nat × Nat) := [(1, 70)]
def pe_c21 : List (Nat × Nat × Nat) := [(7, 8, 73), (11, 21, 65), (29, 20, 316), (56, 19, 729), (80, 9, 861)]
def pe_k21 : List (Nat × Int × Nat) := [(39, 790386105, 365), (44, 2147483647, 366)]
def pe_l21 : List (Nat × Int × Nat) := []
def pe_oT (o : Nat) : List (Nat × Nat) := match o with
  | 0 => pe_o0
  | 1 => pe_o1
  | 2 => pe_o2
  | 3 => pe_o3
  | 4 => pe_o4
  | 5 => pe_o5
  | 6 => pe_o6
  | 7 => pe_o7
  | 8 => pe_o8
  | 9 => pe_o9
  | 11 => pe_o11
  | 12 => pe_o12
  | 13 => pe_o13
  | 19 => pe_o19
  | 20 => pe_o20
  | _ => pe_o21
def pe_cT (o : Nat) : List (Nat × Nat × Nat) := match o with
  | 0 => pe_c0
  | 1 => pe_c1
  | 2 => pe_c2
  | 3 => pe_c3
  | 4 => pe_c4
  | 5 => pe_c5
  | 6 => pe_c6
  | 7 => pe_c7
  | 8 => pe_c8
  | 9 => pe_c9
  | 11 => pe_c11
  | 12 => pe_c12
  | 13 => pe_c13
  | 19 => pe_c19
  | 20 => pe_c20
  | _ => pe_c21
def pe_kT (o : Nat) : List (Nat × Int × Nat) := match o with
  | 0 => pe_k0
  | 1 => pe_k1
  | 2 => pe_k2
  | 3 => pe_k3
  | 4 => pe_k4
  | 5 => pe_k5
  | 6 => pe_k6
  | 7 => pe_k7
  | 8 => pe_k8
  | 9 => pe_k9
  | 11 => pe_k11
  | 12 => pe_k12
  | 13 => pe_k13
  | 19 => pe_k19
  | 20 => pe_k20
  | _ => pe_k21
def pe_lT (o : Nat) : List (Nat × Int × Nat) := match o with
  | 0 => pe_l0
  | 1 => pe_l1
  | 2 => pe_l2
  | 3 => pe_l3
  | 4 => pe_l4
  | 5 => pe_l5
  | 6 => pe_l6
  | 7 => pe_l7
  | 8 => pe_l8
  | 9 => pe_l9
  | 11 => pe_l11
  | 12 => pe_l12
  | 13 => pe_l13
  | 19 => pe_l19
  | 20 => pe_l20
  | _ => pe_l21
def pe_xa : Nat × Nat := (16, 314)
def pe_xm : Nat × Nat := (35, 318)
def pe_xs : Nat × Nat := (222, 367)
def pe_go {α : Type} (l : List (Nat × α)) (i : Nat) : Option α := match l with
  | [] => none
  | (a, b) :: l => if Nat.beq a i then some b else pe_go l i
theorem pe_go_mem {α : Type} : ∀ (l : List (Nat × α)) (i : Nat) (x : α), pe_go l i = some x → (i, x) ∈ l
  | [], _, _, h => by simp [pe_go] at h
  | (a, b) :: l, i, x, h => by
    unfold pe_go at h
    split at h
    · rename_i he
      rw [Nat.eq_of_beq_eq_true he]
      cases h
      exact List.mem_cons_self
    · exact List.mem_cons_of_mem _ (pe_go_mem l i x h)
theorem pe_f0_ok : ∀ q ∈ pe_f0, lw_tbl[q.2.2.2]? = some (.fieldLink (pe_rn 0) q.1 ((pe_cl q.2.1).2.1 q.2.2.1).1 ((pe_cl q.2.1).2.1 q.2.2.1).2.1 ((pe_cl q.2.1).2.1 q.2.2.1).2.2.1) ∧ pe_kc q.2.1 = true ∧ q.2.2.1 < (pe_cl q.2.1).2.2 := by decide +kernel
theorem pe_g0_ok : ∀ q ∈ pe_g0, lw_tbl[q.2.2.2]? = some (.fieldLinkNest (pe_rn 0) q.1 ((pe_cl q.2.1).2.1 q.2.2.1).1 ((pe_cl q.2.1).2.1 q.2.2.1).2.1 ((pe_cl q.2.1).2.1 q.2.2.1).2.2.1 (pe_ho 0)) ∧ pe_kc q.2.1 = true ∧ q.2.2.1 < (pe_cl q.2.1).2.2 := by decide +kernel
theorem pe_i0_ok : ∀ q ∈ pe_i0, lw_tbl[q.2.2]? = some (.methodLink (pe_rn 0) q.1 (pe_me q.2.1).1) ∧ q.2.1 < pe_mn := by decide +kernel
theorem pe_j0_ok : ∀ q ∈ pe_j0, lw_tbl[q.2.2]? = some (.methodLinkNest (pe_rn 0) q.1 (pe_me q.2.1).1 (pe_ho 0)) ∧ q.2.1 < pe_mn := by decide +kernel
theorem pe_a0_ok : ∀ q ∈ pe_a0, lw_tbl[q.2]? = some (.methodLink (pe_rn 0) q.1 arraycopyName) := by decide +kernel
theorem pe_b0_ok : ∀ q ∈ pe_b0, lw_tbl[q.2]? = some (.methodLink (pe_rn 0) q.1 Lib.Math.min.name) := by decide +kernel
theorem pe_o0_ok : ∀ q ∈ pe_o0, lw_tbl[q.2]? = some (.methodLink (pe_rn 0) q.1 objectInit) := by decide +kernel
theorem pe_c0_ok : ∀ q ∈ pe_c0, lw_tbl[q.2.2]? = some (.classLink (pe_rn 0) q.1 (pe_cl q.2.1).1) ∧ pe_kc q.2.1 = true := by decide +kernel
theorem pe_k0_ok : ∀ q ∈ pe_k0, lw_tbl[q.2.2]? = some (.constant (pe_rn 0) q.1 (Int32.ofInt q.2.1)) := by decide +kernel
theorem pe_l0_ok : ∀ q ∈ pe_l0, lw_tbl[q.2.2]? = some (.constantLong (pe_rn 0) q.1 (Int64.ofInt q.2.1)) := by decide +kernel
theorem pe_f1_ok : ∀ q ∈ pe_f1, lw_tbl[q.2.2.2]? = some (.fieldLink (pe_rn 1) q.1 ((pe_cl q.2.1).2.1 q.2.2.1).1 ((pe_cl q.2.1).2.1 q.2.2.1).2.1 ((pe_cl q.2.1).2.1 q.2.2.1).2.2.1) ∧ pe_kc q.2.1 = true ∧ q.2.2.1 < (pe_cl q.2.1).2.2 := by decide +kernel
theorem pe_g1_ok : ∀ q ∈ pe_g1, lw_tbl[q.2.2.2]? = some (.fieldLinkNest (pe_rn 1) q.1 ((pe_cl q.2.1).2.1 q.2.2.1).1 ((pe_cl q.2.1).2.1 q.2.2.1).2.1 ((pe_cl q.2.1).2.1 q.2.2.1).2.2.1 (pe_ho 1)) ∧ pe_kc q.2.1 = true ∧ q.2.2.1 < (pe_cl q.2.1).2.2 := by decide +kernel
theorem pe_i1_ok : ∀ q ∈ pe_i1, lw_tbl[q.2.2]? = some (.methodLink (pe_rn 1) q.1 (pe_me q.2.1).1) ∧ q.2.1 < pe_mn := by decide +kernel
theorem pe_j1_ok : ∀ q ∈ pe_j1, lw_tbl[q.2.2]? = some (.methodLinkNest (pe_rn 1) q.1 (pe_me q.2.1).1 (pe_ho 1)) ∧ q.2.1 < pe_mn := by decide +kernel
theorem pe_a1_ok : ∀ q ∈ pe_a1, lw_tbl[q.2]? = some (.methodLink (pe_rn 1) q.1 arraycopyName) := by decide +kernel
theorem pe_b1_ok : ∀ q ∈ pe_b1, lw_tbl[q.2]? = some (.methodLink (pe_rn 1) q.1 Lib.Math.min.name) := by decide +kernel
theorem pe_o1_ok : ∀ q ∈ pe_o1, lw_tbl[q.2]? = some (.methodLink (pe_rn 1) q.1 objectInit) := by decide +kernel
theorem pe_c1_ok : ∀ q ∈ pe_c1, lw_tbl[q.2.2]? = some (.classLink (pe_rn 1) q.1 (pe_cl q.2.1).1) ∧ pe_kc q.2.1 = true := by decide +kernel
theorem pe_k1_ok : ∀ q ∈ pe_k1, lw_tbl[q.2.2]? = some (.constant (pe_rn 1) q.1 (Int32.ofInt q.2.1)) := by decide +kernel
theorem pe_l1_ok : ∀ q ∈ pe_l1, lw_tbl[q.2.2]? = some (.constantLong (pe_rn 1) q.1 (Int64.ofInt q.2.1)) := by decide +kernel
theorem pe_f2_ok : ∀ q ∈ pe_f2, lw_tbl[q.2.2.2]? = some (.fieldLink (pe_rn 2) q.1 ((pe_cl q.2.1).2.1 q.2.2.1).1 ((pe_cl q.2.1).2.1 q.2.2.1).2.1 ((pe_cl q.2.1).2.1 q.2.2.1).2.2.1) ∧ pe_kc q.2.1 = true ∧ q.2.2.1 < (pe_cl q.2.1).2.2 := by decide +kernel
theorem pe_g2_ok : ∀ q ∈ pe_g2, lw_tbl[q.2.2.2]? = some (.fieldLinkNest (pe_rn 2) q.1 ((pe_cl q.2.1).2.1 q.2.2.1).1 ((pe_cl q.2.1).2.1 q.2.2.1).2.1 ((pe_cl q.2.1).2.1 q.2.2.1).2.2.1 (pe_ho 2)) ∧ pe_kc q.2.1 = true ∧ q.2.2.1 < (pe_cl q.2.1).2.2 := by decide +kernel
theorem pe_i2_ok : ∀ q ∈ pe_i2, lw_tbl[q.2.2]? = some (.methodLink (pe_rn 2) q.1 (pe_me q.2.1).1) ∧ q.2.1 < pe_mn := by decide +kernel
theorem pe_j2_ok : ∀ q ∈ pe_j2, lw_tbl[q.2.2]? = some (.methodLinkNest (pe_rn 2) q.1 (pe_me q.2.1).1 (pe_ho 2)) ∧ q.2.1 < pe_mn := by decide +kernel
theorem pe_a2_ok : ∀ q ∈ pe_a2, lw_tbl[q.2]? = some (.methodLink (pe_rn 2) q.1 arraycopyName) := by decide +kernel
theorem pe_b2_ok : ∀ q ∈ pe_b2, lw_tbl[q.2]? = some (.methodLink (pe_rn 2) q.1 Lib.Math.min.name) := by decide +kernel
theorem pe_o2_ok : ∀ q ∈ pe_o2, lw_tbl[q.2]? = some (.methodLink (pe_rn 2) q.1 objectInit) := by decide +kernel
theorem pe_c2_ok : ∀ q ∈ pe_c2, lw_tbl[q.2.2]? = some (.classLink (pe_rn 2) q.1 (pe_cl q.2.1).1) ∧ pe_kc q.2.1 = true := by decide +kernel
theorem pe_k2_ok : ∀ q ∈ pe_k2, lw_tbl[q.2.2]? = some (.constant (pe_rn 2) q.1 (Int32.ofInt q.2.1)) := by decide +kernel
theorem pe_l2_ok : ∀ q ∈ pe_l2, lw_tbl[q.2.2]? = some (.constantLong (pe_rn 2) q.1 (Int64.ofInt q.2.1)) := by decide +kernel
theorem pe_f3_ok : ∀ q ∈ pe_f3, lw_tbl[q.2.2.2]? = some (.fieldLink (pe_rn 3) q.1 ((pe_cl q.2.1).2.1 q.2.2.1).1 ((pe_cl q.2.1).2.1 q.2.2.1).2.1 ((pe_cl q.2.1).2.1 q.2.2.1).2.2.1) ∧ pe_kc q.2.1 = true ∧ q.2.2.1 < (pe_cl q.2.1).2.2 := by decide +kernel
theorem pe_g3_ok : ∀ q ∈ pe_g3, lw_tbl[q.2.2.2]? = some (.fieldLinkNest (pe_rn 3) q.1 ((pe_cl q.2.1).2.1 q.2.2.1).1 ((pe_cl q.2.1).2.1 q.2.2.1).2.1 ((pe_cl q.2.1).2.1 q.2.2.1).2.2.1 (pe_ho 3)) ∧ pe_kc q.2.1 = true ∧ q.2.2.1 < (pe_cl q.2.1).2.2 := by decide +kernel
theorem pe_i3_ok : ∀ q ∈ pe_i3, lw_tbl[q.2.2]? = some (.methodLink (pe_rn 3) q.1 (pe_me q.2.1).1) ∧ q.2.1 < pe_mn := by decide +kernel
theorem pe_j3_ok : ∀ q ∈ pe_j3, lw_tbl[q.2.2]? = some (.methodLinkNest (pe_rn 3) q.1 (pe_me q.2.1).1 (pe_ho 3)) ∧ q.2.1 < pe_mn := by decide +kernel
theorem pe_a3_ok : ∀ q ∈ pe_a3, lw_tbl[q.2]? = some (.methodLink (pe_rn 3) q.1 arraycopyName) := by decide +kernel
theorem pe_b3_ok : ∀ q ∈ pe_b3, lw_tbl[q.2]? = some (.methodLink (pe_rn 3) q.1 Lib.Math.min.name) := by decide +kernel
theorem pe_o3_ok : ∀ q ∈ pe_o3, lw_tbl[q.2]? = some (.methodLink (pe_rn 3) q.1 objectInit) := by decide +kernel
theorem pe_c3_ok : ∀ q ∈ pe_c3, lw_tbl[q.2.2]? = some (.classLink (pe_rn 3) q.1 (pe_cl q.2.1).1) ∧ pe_kc q.2.1 = true := by decide +kernel
theorem pe_k3_ok : ∀ q ∈ pe_k3, lw_tbl[q.2.2]? = some (.constant (pe_rn 3) q.1 (Int32.ofInt q.2.1)) := by decide +kernel
theorem pe_l3_ok : ∀ q ∈ pe_l3, lw_tbl[q.2.2]? = some (.constantLong (pe_rn 3) q.1 (Int64.ofInt q.2.1)) := by decide +kernel
theorem pe_f4_ok : ∀ q ∈ pe_f4, lw_tbl[q.2.2.2]? = some (.fieldLink (pe_rn 4) q.1 ((pe_cl q.2.1).2.1 q.2.2.1).1 ((pe_cl q.2.1).2.1 q.2.2.1).2.1 ((pe_cl q.2.1).2.1 q.2.2.1).2.2.1) ∧ pe_kc q.2.1 = true ∧ q.2.2.1 < (pe_cl q.2.1).2.2 := by decide +kernel
theorem pe_g4_ok : ∀ q ∈ pe_g4, lw_tbl[q.2.2.2]? = some (.fieldLinkNest (pe_rn 4) q.1 ((pe_cl q.2.1).2.1 q.2.2.1).1 ((pe_cl q.2.1).2.1 q.2.2.1).2.1 ((pe_cl q.2.1).2.1 q.2.2.1).2.2.1 (pe_ho 4)) ∧ pe_kc q.2.1 = true ∧ q.2.2.1 < (pe_cl q.2.1).2.2 := by decide +kernel
theorem pe_i4_ok : ∀ q ∈ pe_i4, lw_tbl[q.2.2]? = some (.methodLink (pe_rn 4) q.1 (pe_me q.2.1).1) ∧ q.2.1 < pe_mn := by decide +kernel
theorem pe_j4_ok : ∀ q ∈ pe_j4, lw_tbl[q.2.2]? = some (.methodLinkNest (pe_rn 4) q.1 (pe_me q.2.1).1 (pe_ho 4)) ∧ q.2.1 < pe_mn := by decide +kernel
theorem pe_a4_ok : ∀ q ∈ pe_a4, lw_tbl[q.2]? = some (.methodLink (pe_rn 4) q.1 arraycopyName) := by decide +kernel
theorem pe_b4_ok : ∀ q ∈ pe_b4, lw_tbl[q.2]? = some (.methodLink (pe_rn 4) q.1 Lib.Math.min.name) := by decide +kernel
theorem pe_o4_ok : ∀ q ∈ pe_o4, lw_tbl[q.2]? = some (.methodLink (pe_rn 4) q.1 objectInit) := by decide +kernel
theorem pe_c4_ok : ∀ q ∈ pe_c4, lw_tbl[q.2.2]? = some (.classLink (pe_rn 4) q.1 (pe_cl q.2.1).1) ∧ pe_kc q.2.1 = true := by decide +kernel
theorem pe_k4_ok : ∀ q ∈ pe_k4, lw_tbl[q.2.2]? = some (.constant (pe_rn 4) q.1 (Int32.ofInt q.2.1)) := by decide +kernel
theorem pe_l4_ok : ∀ q ∈ pe_l4, lw_tbl[q.2.2]? = some (.constantLong (pe_rn 4) q.1 (Int64.ofInt q.2.1)) := by decide +kernel
theorem pe_f5_ok : ∀ q ∈ pe_f5, lw_tbl[q.2.2.2]? = some (.fieldLink (pe_rn 5) q.1 ((pe_cl q.2.1).2.1 q.2.2.1).1 ((pe_cl q.2.1).2.1 q.2.2.1).2.1 ((pe_cl q.2.1).2.1 q.2.2.1).2.2.1) ∧ pe_kc q.2.1 = true ∧ q.2.2.1 < (pe_cl q.2.1).2.2 := by decide +kernel
theorem pe_g5_ok : ∀ q ∈ pe_g5, lw_tbl[q.2.2.2]? = some (.fieldLinkNest (pe_rn 5) q.1 ((pe_cl q.2.1).2.1 q.2.2.1).1 ((pe_cl q.2.1).2.1 q.2.2.1).2.1 ((pe_cl q.2.1).2.1 q.2.2.1).2.2.1 (pe_ho 5)) ∧ pe_kc q.2.1 = true ∧ q.2.2.1 < (pe_cl q.2.1).2.2 := by decide +kernel
theorem pe_i5_ok : ∀ q ∈ pe_i5, lw_tbl[q.2.2]? = some (.methodLink (pe_rn 5) q.1 (pe_me q.2.1).1) ∧ q.2.1 < pe_mn := by decide +kernel
theorem pe_j5_ok : ∀ q ∈ pe_j5, lw_tbl[q.2.2]? = some (.methodLinkNest (pe_rn 5) q.1 (pe_me q.2.1).1 (pe_ho 5)) ∧ q.2.1 < pe_mn := by decide +kernel
theorem pe_a5_ok : ∀ q ∈ pe_a5, lw_tbl[q.2]? = some (.methodLink (pe_rn 5) q.1 arraycopyName) := by decide +kernel
theorem pe_b5_ok : ∀ q ∈ pe_b5, lw_tbl[q.2]? = some (.methodLink (pe_rn 5) q.1 Lib.Math.min.name) := by decide +kernel
theorem pe_o5_ok : ∀ q ∈ pe_o5, lw_tbl[q.2]? = some (.methodLink (pe_rn 5) q.1 objectInit) := by decide +kernel
theorem pe_c5_ok : ∀ q ∈ pe_c5, lw_tbl[q.2.2]? = some (.classLink (pe_rn 5) q.1 (pe_cl q.2.1).1) ∧ pe_kc q.2.1 = true := by decide +kernel
theorem pe_k5_ok : ∀ q ∈ pe_k5, lw_tbl[q.2.2]? = some (.constant (pe_rn 5) q.1 (Int32.ofInt q.2.1)) := by decide +kernel
theorem pe_l5_ok : ∀ q ∈ pe_l5, lw_tbl[q.2.2]? = some (.constantLong (pe_rn 5) q.1 (Int64.ofInt q.2.1)) := by decide +kernel
theorem pe_f6_ok : ∀ q ∈ pe_f6, lw_tbl[q.2.2.2]? = some (.fieldLink (pe_rn 6) q.1 ((pe_cl q.2.1).2.1 q.2.2.1).1 ((pe_cl q.2.1).2.1 q.2.2.1).2.1 ((pe_cl q.2.1).2.1 q.2.2.1).2.2.1) ∧ pe_kc q.2.1 = true ∧ q.2.2.1 < (pe_cl q.2.1).2.2 := by decide +kernel
theorem pe_g6_ok : ∀ q ∈ pe_g6, lw_tbl[q.2.2.2]? = some (.fieldLinkNest (pe_rn 6) q.1 ((pe_cl q.2.1).2.1 q.2.2.1).1 ((pe_cl q.2.1).2.1 q.2.2.1).2.1 ((pe_cl q.2.1).2.1 q.2.2.1).2.2.1 (pe_ho 6)) ∧ pe_kc q.2.1 = true ∧ q.2.2.1 < (pe_cl q.2.1).2.2 := by decide +kernel
theorem pe_i6_ok : ∀ q ∈ pe_i6, lw_tbl[q.2.2]? = some (.methodLink (pe_rn 6) q.1 (pe_me q.2.1).1) ∧ q.2.1 < pe_mn := by decide +kernel
theorem pe_j6_ok : ∀ q ∈ pe_j6, lw_tbl[q.2.2]? = some (.methodLinkNest (pe_rn 6) q.1 (pe_me q.2.1).1 (pe_ho 6)) ∧ q.2.1 < pe_mn := by decide +kernel
theorem pe_a6_ok : ∀ q ∈ pe_a6, lw_tbl[q.2]? = some (.methodLink (pe_rn 6) q.1 arraycopyName) := by decide +kernel
theorem pe_b6_ok : ∀ q ∈ pe_b6, lw_tbl[q.2]? = some (.methodLink (pe_rn 6) q.1 Lib.Math.min.name) := by decide +kernel
theorem pe_o6_ok : ∀ q ∈ pe_o6, lw_tbl[q.2]? = some (.methodLink (pe_rn 6) q.1 objectInit) := by decide +kernel
theorem pe_c6_ok : ∀ q ∈ pe_c6, lw_tbl[q.2.2]? = some (.classLink (pe_rn 6) q.1 (pe_cl q.2.1).1) ∧ pe_kc q.2.1 = true := by decide +kernel
theorem pe_k6_ok : ∀ q ∈ pe_k6, lw_tbl[q.2.2]? = some (.constant (pe_rn 6) q.1 (Int32.ofInt q.2.1)) := by decide +kernel
theorem pe_l6_ok : ∀ q ∈ pe_l6, lw_tbl[q.2.2]? = some (.constantLong (pe_rn 6) q.1 (Int64.ofInt q.2.1)) := by decide +kernel
theorem pe_f7_ok : ∀ q ∈ pe_f7, lw_tbl[q.2.2.2]? = some (.fieldLink (pe_rn 7) q.1 ((pe_cl q.2.1).2.1 q.2.2.1).1 ((pe_cl q.2.1).2.1 q.2.2.1).2.1 ((pe_cl q.2.1).2.1 q.2.2.1).2.2.1) ∧ pe_kc q.2.1 = true ∧ q.2.2.1 < (pe_cl q.2.1).2.2 := by decide +kernel
theorem pe_g7_ok : ∀ q ∈ pe_g7, lw_tbl[q.2.2.2]? = some (.fieldLinkNest (pe_rn 7) q.1 ((pe_cl q.2.1).2.1 q.2.2.1).1 ((pe_cl q.2.1).2.1 q.2.2.1).2.1 ((pe_cl q.2.1).2.1 q.2.2.1).2.2.1 (pe_ho 7)) ∧ pe_kc q.2.1 = true ∧ q.2.2.1 < (pe_cl q.2.1).2.2 := by decide +kernel
theorem pe_i7_ok : ∀ q ∈ pe_i7, lw_tbl[q.2.2]? = some (.methodLink (pe_rn 7) q.1 (pe_me q.2.1).1) ∧ q.2.1 < pe_mn := by decide +kernel
theorem pe_j7_ok : ∀ q ∈ pe_j7, lw_tbl[q.2.2]? = some (.methodLinkNest (pe_rn 7) q.1 (pe_me q.2.1).1 (pe_ho 7)) ∧ q.2.1 < pe_mn := by decide +kernel
theorem pe_a7_ok : ∀ q ∈ pe_a7, lw_tbl[q.2]? = some (.methodLink (pe_rn 7) q.1 arraycopyName) := by decide +kernel
theorem pe_b7_ok : ∀ q ∈ pe_b7, lw_tbl[q.2]? = some (.methodLink (pe_rn 7) q.1 Lib.Math.min.name) := by decide +kernel
theorem pe_o7_ok : ∀ q ∈ pe_o7, lw_tbl[q.2]? = some (.methodLink (pe_rn 7) q.1 objectInit) := by decide +kernel
theorem pe_c7_ok : ∀ q ∈ pe_c7, lw_tbl[q.2.2]? = some (.classLink (pe_rn 7) q.1 (pe_cl q.2.1).1) ∧ pe_kc q.2.1 = true := by decide +kernel
theorem pe_k7_ok : ∀ q ∈ pe_k7, lw_tbl[q.2.2]? = some (.constant (pe_rn 7) q.1 (Int32.ofInt q.2.1)) := by decide +kernel
theorem pe_l7_ok : ∀ q ∈ pe_l7, lw_tbl[q.2.2]? = some (.constantLong (pe_rn 7) q.1 (Int64.ofInt q.2.1)) := by decide +kernel
theorem pe_f8_ok : ∀ q ∈ pe_f8, lw_tbl[q.2.2.2]? = some (.fieldLink (pe_rn 8) q.1 ((pe_cl q.2.1).2.1 q.2.2.1).1 ((pe_cl q.2.1).2.1 q.2.2.1).2.1 ((pe_cl q.2.1).2.1 q.2.2.1).2.2.1) ∧ pe_kc q.2.1 = true ∧ q.2.2.1 < (pe_cl q.2.1).2.2 := by decide +kernel
theorem pe_g8_ok : ∀ q ∈ pe_g8, lw_tbl[q.2.2.2]? = some (.fieldLinkNest (pe_rn 8) q.1 ((pe_cl q.2.1).2.1 q.2.2.1).1 ((pe_cl q.2.1).2.1 q.2.2.1).2.1 ((pe_cl q.2.1).2.1 q.2.2.1).2.2.1 (pe_ho 8)) ∧ pe_kc q.2.1 = true ∧ q.2.2.1 < (pe_cl q.2.1).2.2 := by decide +kernel
theorem pe_i8_ok : ∀ q ∈ pe_i8, lw_tbl[q.2.2]? = some (.methodLink (pe_rn 8) q.1 (pe_me q.2.1).1) ∧ q.2.1 < pe_mn := by decide +kernel
theorem pe_j8_ok : ∀ q ∈ pe_j8, lw_tbl[q.2.2]? = some (.methodLinkNest (pe_rn 8) q.1 (pe_me q.2.1).1 (pe_ho 8)) ∧ q.2.1 < pe_mn := by decide +kernel
theorem pe_a8_ok : ∀ q ∈ pe_a8, lw_tbl[q.2]? = some (.methodLink (pe_rn 8) q.1 arraycopyName) := by decide +kernel
theorem pe_b8_ok : ∀ q ∈ pe_b8, lw_tbl[q.2]? = some (.methodLink (pe_rn 8) q.1 Lib.Math.min.name) := by decide +kernel
theorem pe_o8_ok : ∀ q ∈ pe_o8, lw_tbl[q.2]? = some (.methodLink (pe_rn 8) q.1 objectInit) := by decide +kernel
theorem pe_c8_ok : ∀ q ∈ pe_c8, lw_tbl[q.2.2]? = some (.classLink (pe_rn 8) q.1 (pe_cl q.2.1).1) ∧ pe_kc q.2.1 = true := by decide +kernel
theorem pe_k8_ok : ∀ q ∈ pe_k8, lw_tbl[q.2.2]? = some (.constant (pe_rn 8) q.1 (Int32.ofInt q.2.1)) := by decide +kernel
theorem pe_l8_ok : ∀ q ∈ pe_l8, lw_tbl[q.2.2]? = some (.constantLong (pe_rn 8) q.1 (Int64.ofInt q.2.1)) := by decide +kernel
theorem pe_f9_ok : ∀ q ∈ pe_f9, lw_tbl[q.2.2.2]? = some (.fieldLink (pe_rn 9) q.1 ((pe_cl q.2.1).2.1 q.2.2.1).1 ((pe_cl q.2.1).2.1 q.2.2.1).2.1 ((pe_cl q.2.1).2.1 q.2.2.1).2.2.1) ∧ pe_kc q.2.1 = true ∧ q.2.2.1 < (pe_cl q.2.1).2.2 := by decide +kernel
theorem pe_g9_ok : ∀ q ∈ pe_g9, lw_tbl[q.2.2.2]? = some (.fieldLinkNest (pe_rn 9) q.1 ((pe_cl q.2.1).2.1 q.2.2.1).1 ((pe_cl q.2.1).2.1 q.2.2.1).2.1 ((pe_cl q.2.1).2.1 q.2.2.1).2.2.1 (pe_ho 9)) ∧ pe_kc q.2.1 = true ∧ q.2.2.1 < (pe_cl q.2.1).2.2 := by decide +kernel
theorem pe_i9_ok : ∀ q ∈ pe_i9, lw_tbl[q.2.2]? = some (.methodLink (pe_rn 9) q.1 (pe_me q.2.1).1) ∧ q.2.1 < pe_mn := by decide +kernel
theorem pe_j9_ok : ∀ q ∈ pe_j9, lw_tbl[q.2.2]? = some (.methodLinkNest (pe_rn 9) q.1 (pe_me q.2.1).1 (pe_ho 9)) ∧ q.2.1 < pe_mn := by decide +kernel
theorem pe_a9_ok : ∀ q ∈ pe_a9, lw_tbl[q.2]? = some (.methodLink (pe_rn 9) q.1 arraycopyName) := by decide +kernel
theorem pe_b9_ok : ∀ q ∈ pe_b9, lw_tbl[q.2]? = some (.methodLink (pe_rn 9) q.1 Lib.Math.min.name) := by decide +kernel
theorem pe_o9_ok : ∀ q ∈ pe_o9, lw_tbl[q.2]? = some (.methodLink (pe_rn 9) q.1 objectInit) := by decide +kernel
theorem pe_c9_ok : ∀ q ∈ pe_c9, lw_tbl[q.2.2]? = some (.classLink (pe_rn 9) q.1 (pe_cl q.2.1).1) ∧ pe_kc q.2.1 = true := by decide +kernel
theorem pe_k9_ok : ∀ q ∈ pe_k9, lw_tbl[q.2.2]? = some (.constant (pe_rn 9) q.1 (Int32.ofInt q.2.1)) := by decide +kernel
theorem pe_l9_ok : ∀ q ∈ pe_l9, lw_tbl[q.2.2]? = some (.constantLong (pe_rn 9) q.1 (Int64.ofInt q.2.1)) := by decide +kernel
theorem pe_f11_ok : ∀ q ∈ pe_f11, lw_tbl[q.2.2.2]? = some (.fieldLink (pe_rn 11) q.1 ((pe_cl q.2.1).2.1 q.2.2.1).1 ((pe_cl q.2.1).2.1 q.2.2.1).2.1 ((pe_cl q.2.1).2.1 q.2.2.1).2.2.1) ∧ pe_kc q.2.1 = true ∧ q.2.2.1 < (pe_cl q.2.1).2.2 := by decide +kernel
theorem pe_g11_ok : ∀ q ∈ pe_g11, lw_tbl[q.2.2.2]? = some (.fieldLinkNest (pe_rn 11) q.1 ((pe_cl q.2.1).2.1 q.2.2.1).1 ((pe_cl q.2.1).2.1 q.2.2.1).2.1 ((pe_cl q.2.1).2.1 q.2.2.1).2.2.1 (pe_ho 11)) ∧ pe_kc q.2.1 = true ∧ q.2.2.1 < (pe_cl q.2.1).2.2 := by decide +kernel
theorem pe_i11_ok : ∀ q ∈ pe_i11, lw_tbl[q.2.2]? = some (.methodLink (pe_rn 11) q.1 (pe_me q.2.1).1) ∧ q.2.1 < pe_mn := by decide +kernel
theorem pe_j11_ok : ∀ q ∈ pe_j11, lw_tbl[q.2.2]? = some (.methodLinkNest (pe_rn 11) q.1 (pe_me q.2.1).1 (pe_ho 11)) ∧ q.2.1 < pe_mn := by decide +kernel
theorem pe_a11_ok : ∀ q ∈ pe_a11, lw_tbl[q.2]? = some (.methodLink (pe_rn 11) q.1 arraycopyName) := by decide +kernel
theorem pe_b11_ok : ∀ q ∈ pe_b11, lw_tbl[q.2]? = some (.methodLink (pe_rn 11) q.1 Lib.Math.min.name) := by decide +kernel
theorem pe_o11_ok : ∀ q ∈ pe_o11, lw_tbl[q.2]? = some (.methodLink (pe_rn 11) q.1 objectInit) := by decide +kernel
theorem pe_c11_ok : ∀ q ∈ pe_c11, lw_tbl[q.2.2]? = some (.classLink (pe_rn 11) q.1 (pe_cl q.2.1).1) ∧ pe_kc q.2.1 = true := by decide +kernel
theorem pe_k11_ok : ∀ q ∈ pe_k11, lw_tbl[q.2.2]? = some (.constant (pe_rn 11) q.1 (Int32.ofInt q.2.1)) := by decide +kernel
theorem pe_l11_ok : ∀ q ∈ pe_l11, lw_tbl[q.2.2]? = some (.constantLong (pe_rn 11) q.1 (Int64.ofInt q.2.1)) := by decide +kernel
theorem pe_f12_ok : ∀ q ∈ pe_f12, lw_tbl[q.2.2.2]? = some (.fieldLink (pe_rn 12) q.1 ((pe_cl q.2.1).2.1 q.2.2.1).1 ((pe_cl q.2.1).2.1 q.2.2.1).2.1 ((pe_cl q.2.1).2.1 q.2.2.1).2.2.1) ∧ pe_kc q.2.1 = true ∧ q.2.2.1 < (pe_cl q.2.1).2.2 := by decide +kernel
theorem pe_g12_ok : ∀ q ∈ pe_g12, lw_tbl[q.2.2.2]? = some (.fieldLinkNest (pe_rn 12) q.1 ((pe_cl q.2.1).2.1 q.2.2.1).1 ((pe_cl q.2.1).2.1 q.2.2.1).2.1 ((pe_cl q.2.1).2.1 q.2.2.1).2.2.1 (pe_ho 12)) ∧ pe_kc q.2.1 = true ∧ q.2.2.1 < (pe_cl q.2.1).2.2 := by decide +kernel
theorem pe_i12_ok : ∀ q ∈ pe_i12, lw_tbl[q.2.2]? = some (.methodLink (pe_rn 12) q.1 (pe_me q.2.1).1) ∧ q.2.1 < pe_mn := by decide +kernel
theorem pe_j12_ok : ∀ q ∈ pe_j12, lw_tbl[q.2.2]? = some (.methodLinkNest (pe_rn 12) q.1 (pe_me q.2.1).1 (pe_ho 12)) ∧ q.2.1 < pe_mn := by decide +kernel
theorem pe_a12_ok : ∀ q ∈ pe_a12, lw_tbl[q.2]? = some (.methodLink (pe_rn 12) q.1 arraycopyName) := by decide +kernel
theorem pe_b12_ok : ∀ q ∈ pe_b12, lw_tbl[q.2]? = some (.methodLink (pe_rn 12) q.1 Lib.Math.min.name) := by decide +kernel
theorem pe_o12_ok : ∀ q ∈ pe_o12, lw_tbl[q.2]? = some (.methodLink (pe_rn 12) q.1 objectInit) := by decide +kernel
theorem pe_c12_ok : ∀ q ∈ pe_c12, lw_tbl[q.2.2]? = some (.classLink (pe_rn 12) q.1 (pe_cl q.2.1).1) ∧ pe_kc q.2.1 = true := by decide +kernel
theorem pe_k12_ok : ∀ q ∈ pe_k12, lw_tbl[q.2.2]? = some (.constant (pe_rn 12) q.1 (Int32.ofInt q.2.1)) := by decide +kernel
theorem pe_l12_ok : ∀ q ∈ pe_l12, lw_tbl[q.2.2]? = some (.constantLong (pe_rn 12) q.1 (Int64.ofInt q.2.1)) := by decide +kernel
theorem pe_f13_ok : ∀ q ∈ pe_f13, lw_tbl[q.2.2.2]? = some (.fieldLink (pe_rn 13) q.1 ((pe_cl q.2.1).2.1 q.2.2.1).1 ((pe_cl q.2.1).2.1 q.2.2.1).2.1 ((pe_cl q.2.1).2.1 q.2.2.1).2.2.1) ∧ pe_kc q.2.1 = true ∧ q.2.2.1 < (pe_cl q.2.1).2.2 := by decide +kernel
theorem pe_g13_ok : ∀ q ∈ pe_g13, lw_tbl[q.2.2.2]? = some (.fieldLinkNest (pe_rn 13) q.1 ((pe_cl q.2.1).2.1 q.2.2.1).1 ((pe_cl q.2.1).2.1 q.2.2.1).2.1 ((pe_cl q.2.1).2.1 q.2.2.1).2.2.1 (pe_ho 13)) ∧ pe_kc q.2.1 = true ∧ q.2.2.1 < (pe_cl q.2.1).2.2 := by decide +kernel
theorem pe_i13_ok : ∀ q ∈ pe_i13, lw_tbl[q.2.2]? = some (.methodLink (pe_rn 13) q.1 (pe_me q.2.1).1) ∧ q.2.1 < pe_mn := by decide +kernel
theorem pe_j13_ok : ∀ q ∈ pe_j13, lw_tbl[q.2.2]? = some (.methodLinkNest (pe_rn 13) q.1 (pe_me q.2.1).1 (pe_ho 13)) ∧ q.2.1 < pe_mn := by decide +kernel
theorem pe_a13_ok : ∀ q ∈ pe_a13, lw_tbl[q.2]? = some (.methodLink (pe_rn 13) q.1 arraycopyName) := by decide +kernel
theorem pe_b13_ok : ∀ q ∈ pe_b13, lw_tbl[q.2]? = some (.methodLink (pe_rn 13) q.1 Lib.Math.min.name) := by decide +kernel
theorem pe_o13_ok : ∀ q ∈ pe_o13, lw_tbl[q.2]? = some (.methodLink (pe_rn 13) q.1 objectInit) := by decide +kernel
theorem pe_c13_ok : ∀ q ∈ pe_c13, lw_tbl[q.2.2]? = some (.classLink (pe_rn 13) q.1 (pe_cl q.2.1).1) ∧ pe_kc q.2.1 = true := by decide +kernel
theorem pe_k13_ok : ∀ q ∈ pe_k13, lw_tbl[q.2.2]? = some (.constant (pe_rn 13) q.1 (Int32.ofInt q.2.1)) := by decide +kernel
theorem pe_l13_ok : ∀ q ∈ pe_l13, lw_tbl[q.2.2]? = some (.constantLong (pe_rn 13) q.1 (Int64.ofInt q.2.1)) := by decide +kernel
theorem pe_f19_ok : ∀ q ∈ pe_f19, lw_tbl[q.2.2.2]? = some (.fieldLink (pe_rn 19) q.1 ((pe_cl q.2.1).2.1 q.2.2.1).1 ((pe_cl q.2.1).2.1 q.2.2.1).2.1 ((pe_cl q.2.1).2.1 q.2.2.1).2.2.1) ∧ pe_kc q.2.1 = true ∧ q.2.2.1 < (pe_cl q.2.1).2.2 := by decide +kernel
theorem pe_g19_ok : ∀ q ∈ pe_g19, lw_tbl[q.2.2.2]? = some (.fieldLinkNest (pe_rn 19) q.1 ((pe_cl q.2.1).2.1 q.2.2.1).1 ((pe_cl q.2.1).2.1 q.2.2.1).2.1 ((pe_cl q.2.1).2.1 q.2.2.1).2.2.1 (pe_ho 19)) ∧ pe_kc q.2.1 = true ∧ q.2.2.1 < (pe_cl q.2.1).2.2 := by decide +kernel
theorem pe_i19_ok : ∀ q ∈ pe_i19, lw_tbl[q.2.2]? = some (.methodLink (pe_rn 19) q.1 (pe_me q.2.1).1) ∧ q.2.1 < pe_mn := by decide +kernel
theorem pe_j19_ok : ∀ q ∈ pe_j19, lw_tbl[q.2.2]? = some (.methodLinkNest (pe_rn 19) q.1 (pe_me q.2.1).1 (pe_ho 19)) ∧ q.2.1 < pe_mn := by decide +kernel
theorem pe_a19_ok : ∀ q ∈ pe_a19, lw_tbl[q.2]? = some (.methodLink (pe_rn 19) q.1 arraycopyName) := by decide +kernel
theorem pe_b19_ok : ∀ q ∈ pe_b19, lw_tbl[q.2]? = some (.methodLink (pe_rn 19) q.1 Lib.Math.min.name) := by decide +kernel
theorem pe_o19_ok : ∀ q ∈ pe_o19, lw_tbl[q.2]? = some (.methodLink (pe_rn 19) q.1 objectInit) := by decide +kernel
theorem pe_c19_ok : ∀ q ∈ pe_c19, lw_tbl[q.2.2]? = some (.classLink (pe_rn 19) q.1 (pe_cl q.2.1).1) ∧ pe_kc q.2.1 = true := by decide +kernel
theorem pe_k19_ok : ∀ q ∈ pe_k19, lw_tbl[q.2.2]? = some (.constant (pe_rn 19) q.1 (Int32.ofInt q.2.1)) := by decide +kernel
theorem pe_l19_ok : ∀ q ∈ pe_l19, lw_tbl[q.2.2]? = some (.constantLong (pe_rn 19) q.1 (Int64.ofInt q.2.1)) := by decide +kernel
theorem pe_f20_ok : ∀ q ∈ pe_f20, lw_tbl[q.2.2.2]? = some (.fieldLink (pe_rn 20) q.1 ((pe_cl q.2.1).2.1 q.2.2.1).1 ((pe_cl q.2.1).2.1 q.2.2.1).2.1 ((pe_cl q.2.1).2.1 q.2.2.1).2.2.1) ∧ pe_kc q.2.1 = true ∧ q.2.2.1 < (pe_cl q.2.1).2.2 := by decide +kernel
theorem pe_g20_ok : ∀ q ∈ pe_g20, lw_tbl[q.2.2.2]? = some (.fieldLinkNest (pe_rn 20) q.1 ((pe_cl q.2.1).2.1 q.2.2.1).1 ((pe_cl q.2.1).2.1 q.2.2.1).2.1 ((pe_cl q.2.1).2.1 q.2.2.1).2.2.1 (pe_ho 20)) ∧ pe_kc q.2.1 = true ∧ q.2.2.1 < (pe_cl q.2.1).2.2 := by decide +kernel
theorem pe_i20_ok : ∀ q ∈ pe_i20, lw_tbl[q.2.2]? = some (.methodLink (pe_rn 20) q.1 (pe_me q.2.1).1) ∧ q.2.1 < pe_mn := by decide +kernel
theorem pe_j20_ok : ∀ q ∈ pe_j20, lw_tbl[q.2.2]? = some (.methodLinkNest (pe_rn 20) q.1 (pe_me q.2.1).1 (pe_ho 20)) ∧ q.2.1 < pe_mn := by decide +kernel
theorem pe_a20_ok : ∀ q ∈ pe_a20, lw_tbl[q.2]? = some (.methodLink (pe_rn 20) q.1 arraycopyName) := by decide +kernel
theorem pe_b20_ok : ∀ q ∈ pe_b20, lw_tbl[q.2]? = some (.methodLink (pe_rn 20) q.1 Lib.Math.min.name) := by decide +kernel
theorem pe_o20_ok : ∀ q ∈ pe_o20, lw_tbl[q.2]? = some (.methodLink (pe_rn 20) q.1 objectInit) := by decide +kernel
theorem pe_c20_ok : ∀ q ∈ pe_c20, lw_tbl[q.2.2]? = some (.classLink (pe_rn 20) q.1 (pe_cl q.2.1).1) ∧ pe_kc q.2.1 = true := by decide +kernel
theorem pe_k20_ok : ∀ q ∈ pe_k20, lw_tbl[q.2.2]? = some (.constant (pe_rn 20) q.1 (Int32.ofInt q.2.1)) := by decide +kernel
theorem pe_l20_ok : ∀ q ∈ pe_l20, lw_tbl[q.2.2]? = some (.constantLong (pe_rn 20) q.1 (Int64.ofInt q.2.1)) := by decide +kernel
theorem pe_f21_ok : ∀ q ∈ pe_f21, lw_tbl[q.2.2.2]? = some (.fieldLink (pe_rn 21) q.1 ((pe_cl q.2.1).2.1 q.2.2.1).1 ((pe_cl q.2.1).2.1 q.2.2.1).2.1 ((pe_cl q.2.1).2.1 q.2.2.1).2.2.1) ∧ pe_kc q.2.1 = true ∧ q.2.2.1 < (pe_cl q.2.1).2.2 := by decide +kernel
theorem pe_g21_ok : ∀ q ∈ pe_g21, lw_tbl[q.2.2.2]? = some (.fieldLinkNest (pe_rn 21) q.1 ((pe_cl q.2.1).2.1 q.2.2.1).1 ((pe_cl q.2.1).2.1 q.2.2.1).2.1 ((pe_cl q.2.1).2.1 q.2.2.1).2.2.1 (pe_ho 21)) ∧ pe_kc q.2.1 = true ∧ q.2.2.1 < (pe_cl q.2.1).2.2 := by decide +kernel
theorem pe_i21_ok : ∀ q ∈ pe_i21, lw_tbl[q.2.2]? = some (.methodLink (pe_rn 21) q.1 (pe_me q.2.1).1) ∧ q.2.1 < pe_mn := by decide +kernel
theorem pe_j21_ok : ∀ q ∈ pe_j21, lw_tbl[q.2.2]? = some (.methodLinkNest (pe_rn 21) q.1 (pe_me q.2.1).1 (pe_ho 21)) ∧ q.2.1 < pe_mn := by decide +kernel
theorem pe_a21_ok : ∀ q ∈ pe_a21, lw_tbl[q.2]? = some (.methodLink (pe_rn 21) q.1 arraycopyName) := by decide +kernel
theorem pe_b21_ok : ∀ q ∈ pe_b21, lw_tbl[q.2]? = some (.methodLink (pe_rn 21) q.1 Lib.Math.min.name) := by decide +kernel
theorem pe_o21_ok : ∀ q ∈ pe_o21, lw_tbl[q.2]? = some (.methodLink (pe_rn 21) q.1 objectInit) := by decide +kernel
theorem pe_c21_ok : ∀ q ∈ pe_c21, lw_tbl[q.2.2]? = some (.classLink (pe_rn 21) q.1 (pe_cl q.2.1).1) ∧ pe_kc q.2.1 = true := by decide +kernel
theorem pe_k21_ok : ∀ q ∈ pe_k21, lw_tbl[q.2.2]? = some (.constant (pe_rn 21) q.1 (Int32.ofInt q.2.1)) := by decide +kernel
theorem pe_l21_ok : ∀ q ∈ pe_l21, lw_tbl[q.2.2]? = some (.constantLong (pe_rn 21) q.1 (Int64.ofInt q.2.1)) := by decide +kernel
theorem pe_x_ok : lw_tbl[pe_xa.2]? = some (.classLink RL pe_xa.1 "[I") ∧ lw_tbl[pe_xm.2]? = some (.classLink RL pe_xm.1 "[[I") ∧ lw_tbl[pe_xs.2]? = some (.fieldLink RL pe_xs.1 RL "SIGNS" "[I") := by decide +kernel
