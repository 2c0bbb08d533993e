/-! TABLES, by program: fields, methods, calls, classes, constants of each class, with their places in lw_tbl -/
def pe_rn (o : Nat) : String := match o with
  | 0 => RX0
  | 1 => RX1
  | 2 => RX2
  | 3 => RX3
  | 4 => RX4
  | 5 => RX5
  | 6 => RX6
  | 7 => RX7
  | 8 => RX8
  | 9 => RX9
  | 10 => RL
  | 11 => RJ6
  | 12 => RJ9
  | _ => RJ7
def pe_f0 : List (Nat × Nat × Nat × Nat) := [(11, 0, 10, 220), (18, 0, 0, 193), (22, 0, 1, 195), (26, 0, 2, 198), (29, 0, 3, 201), (32, 0, 4, 203), (35, 0, 5, 206), (38, 0, 6, 209), (41, 0, 7, 211), (44, 0, 8, 214), (47, 0, 9, 217), (64, 1, 4, 174), (68, 1, 5, 178), (71, 1, 0, 161), (74, 4, 1, 140), (79, 1, 2, 167)]
def pe_f1 : List (Nat × Nat × Nat × Nat) := [(9, 1, 0, 160), (15, 1, 1, 163), (19, 1, 2, 165), (22, 1, 3, 169), (25, 1, 4, 172), (29, 1, 5, 176)]
def pe_f2 : List (Nat × Nat × Nat × Nat) := [(11, 2, 0, 262), (19, 2, 1, 265), (25, 2, 2, 268), (29, 2, 3, 270), (32, 2, 4, 272), (36, 2, 5, 275), (39, 2, 6, 278), (42, 2, 7, 281), (45, 2, 8, 283), (49, 2, 9, 284), (52, 2, 10, 285), (55, 2, 11, 286), (58, 2, 12, 287), (83, 0, 2, 199), (89, 0, 5, 207), (92, 0, 8, 216), (133, 0, 6, 210), (139, 0, 1, 197), (148, 0, 9, 219), (151, 0, 10, 222), (155, 1, 2, 168), (160, 1, 0, 162), (177, 0, 3, 202), (180, 1, 4, 175), (198, 0, 4, 205), (201, 1, 3, 171), (222, 5, 1, 256), (225, 5, 0, 253), (231, 0, 7, 213), (234, 1, 5, 179), (237, 4, 1, 141)]
def pe_f3 : List (Nat × Nat × Nat × Nat) := [(9, 3, 0, 325), (15, 3, 1, 327)]
def pe_f4 : List (Nat × Nat × Nat × Nat) := [(7, 4, 0, 138), (13, 4, 1, 139)]
def pe_f5 : List (Nat × Nat × Nat × Nat) := [(9, 5, 0, 251), (15, 5, 1, 254)]
def pe_f6 : List (Nat × Nat × Nat × Nat) := [(9, 6, 0, 867), (15, 6, 1, 869)]
def pe_f7 : List (Nat × Nat × Nat × Nat) := [(9, 7, 1, 377), (15, 7, 0, 376), (59, 2, 4, 273), (65, 2, 1, 267), (89, 2, 5, 277), (99, 2, 0, 264), (122, 2, 6, 280)]
def pe_f8 : List (Nat × Nat × Nat × Nat) := [(10, 8, 0, 334), (16, 8, 1, 335), (19, 8, 2, 336), (25, 8, 3, 337), (31, 8, 4, 338), (38, 8, 5, 339), (42, 8, 6, 340), (46, 8, 7, 341), (54, 6, 0, 868), (85, 2, 0, 263), (110, 2, 1, 266), (114, 0, 0, 194), (119, 0, 1, 196), (122, 3, 0, 326), (123, 3, 1, 328), (129, 0, 9, 218), (132, 0, 7, 212), (141, 0, 10, 221), (145, 1, 1, 164), (149, 1, 2, 166), (152, 1, 3, 170), (155, 1, 4, 173), (158, 1, 5, 177), (164, 0, 8, 215), (173, 2, 2, 269), (177, 2, 3, 271), (180, 5, 1, 255), (185, 5, 0, 252), (196, 0, 2, 200), (206, 2, 5, 276), (209, 2, 6, 279), (235, 2, 4, 274), (240, 0, 4, 204), (243, 2, 7, 282), (316, 6, 1, 870), (334, 0, 5, 208)]
def pe_f9 : List (Nat × Nat × Nat × Nat) := [(7, 9, 0, 1021), (13, 9, 1, 1022), (16, 9, 2, 1023), (19, 9, 4, 1025), (22, 9, 5, 1026), (25, 9, 6, 1027), (28, 9, 7, 1028), (31, 9, 8, 1029), (34, 9, 9, 1030), (37, 9, 10, 1031), (40, 9, 11, 1032), (43, 9, 12, 1033), (46, 9, 13, 1034), (49, 9, 14, 1035), (52, 9, 15, 1036), (55, 9, 16, 1037), (58, 9, 17, 1038), (61, 9, 18, 1039), (64, 9, 19, 1040), (67, 9, 20, 1041), (70, 9, 21, 1042), (73, 9, 22, 1043), (76, 9, 24, 1045), (79, 9, 25, 1046), (82, 9, 26, 1047), (85, 9, 27, 1048), (88, 9, 28, 1049), (92, 9, 31, 1052), (95, 9, 32, 1053), (98, 9, 33, 1054), (101, 9, 34, 1055), (104, 9, 35, 1056), (107, 9, 36, 1057), (111, 9, 42, 1063), (114, 9, 43, 1064), (117, 9, 44, 1065), (120, 9, 45, 1066), (123, 9, 46, 1067), (126, 9, 48, 1069), (129, 9, 49, 1070), (132, 9, 54, 1075), (135, 9, 55, 1076), (138, 9, 57, 1078), (141, 9, 37, 1058), (144, 9, 3, 1024), (155, 9, 23, 1044), (202, 9, 30, 1051), (246, 9, 29, 1050), (267, 9, 39, 1060), (270, 9, 38, 1059), (273, 9, 40, 1061), (285, 9, 47, 1068), (297, 9, 41, 1062), (347, 9, 52, 1073), (350, 9, 53, 1074), (353, 9, 51, 1072), (366, 9, 50, 1071), (446, 9, 56, 1077)]
def pe_f10 : List (Nat × Nat × Nat × Nat) := []
def pe_f11 : List (Nat × Nat × Nat × Nat) := []
def pe_f12 : List (Nat × Nat × Nat × Nat) := []
def pe_f13 : List (Nat × Nat × Nat × Nat) := []
def pe_fT (o : Nat) : List (Nat × Nat × Nat × Nat) := match o with
  | 0 => pe_f0
  | 1 => pe_f1
  | 2 => pe_f2
  | 3 => pe_f3
  | 4 => pe_f4
  | 5 => pe_f5
  | 6 => pe_f6
  | 7 => pe_f7
  | 8 => pe_f8
  | 9 => pe_f9
  | 10 => pe_f10
  | 11 => pe_f11
  | 12 => pe_f12
  | _ => pe_f13
abbrev pe_m0 : MethodName × ByteArray × Nat × Option FieldType × Nat × Nat × Bool × Nat × Nat × Nat × Nat := (yX0_init, cX0_init, 2, none, 0, 1, true, 0, 151, 150, 97)
abbrev pe_m1 : MethodName × ByteArray × Nat × Option FieldType × Nat × Nat × Bool × Nat × Nat × Nat × Nat := (yX0_begin, cX0_begin, 4, none, 0, 0, false, 3, 488, 486, 487)
abbrev pe_m2 : MethodName × ByteArray × Nat × Option FieldType × Nat × Nat × Bool × Nat × Nat × Nat × Nat := (yX0_become, cX0_become, 3, none, 0, 0, false, 1, 431, 429, 430)
abbrev pe_m3 : MethodName × ByteArray × Nat × Option FieldType × Nat × Nat × Bool × Nat × Nat × Nat × Nat := (yX0_isEnded, cX0_isEnded, 1, (some .boolean), 0, 0, false, 0, 585, 583, 584)
abbrev pe_m4 : MethodName × ByteArray × Nat × Option FieldType × Nat × Nat × Bool × Nat × Nat × Nat × Nat := (yX0_canGo, cX0_canGo, 1, (some .boolean), 0, 0, false, 0, 496, 494, 495)
abbrev pe_m5 : MethodName × ByteArray × Nat × Option FieldType × Nat × Nat × Bool × Nat × Nat × Nat × Nat := (yX0_takeIn, cX0_takeIn, 2, none, 0, 0, false, 1, 508, 506, 507)
abbrev pe_m6 : MethodName × ByteArray × Nat × Option FieldType × Nat × Nat × Bool × Nat × Nat × Nat × Nat := (yX0_growOlder, cX0_growOlder, 1, none, 0, 0, false, 0, 619, 617, 618)
abbrev pe_m7 : MethodName × ByteArray × Nat × Option FieldType × Nat × Nat × Bool × Nat × Nat × Nat × Nat := (yX0_waitFor, cX0_waitFor, 3, none, 0, 0, false, 2, 577, 575, 576)
abbrev pe_m8 : MethodName × ByteArray × Nat × Option FieldType × Nat × Nat × Bool × Nat × Nat × Nat × Nat := (yX0_goOn, cX0_goOn, 1, none, 0, 0, false, 0, 569, 567, 568)
abbrev pe_m9 : MethodName × ByteArray × Nat × Option FieldType × Nat × Nat × Bool × Nat × Nat × Nat × Nat := (yX0_figureTold, cX0_figureTold, 2, (some .int), 0, 0, false, 1, 659, 657, 658)
abbrev pe_m10 : MethodName × ByteArray × Nat × Option FieldType × Nat × Nat × Bool × Nat × Nat × Nat × Nat := (yX0_closeTop, cX0_closeTop, 2, none, 0, 0, false, 0, 528, 526, 527)
abbrev pe_m11 : MethodName × ByteArray × Nat × Option FieldType × Nat × Nat × Bool × Nat × Nat × Nat × Nat := (yX1_init, cX1_init, 1, none, 1, 1, true, 0, 158, 157, 98)
abbrev pe_m12 : MethodName × ByteArray × Nat × Option FieldType × Nat × Nat × Bool × Nat × Nat × Nat × Nat := (yX1_begin, cX1_begin, 3, none, 1, 0, false, 2, 492, 490, 491)
abbrev pe_m13 : MethodName × ByteArray × Nat × Option FieldType × Nat × Nat × Bool × Nat × Nat × Nat × Nat := (yX1_become, cX1_become, 2, none, 1, 0, false, 1, 435, 433, 434)
abbrev pe_m14 : MethodName × ByteArray × Nat × Option FieldType × Nat × Nat × Bool × Nat × Nat × Nat × Nat := (yX2_init, cX2_init, 3, none, 2, 1, true, 0, 125, 124, 95)
abbrev pe_m15 : MethodName × ByteArray × Nat × Option FieldType × Nat × Nat × Bool × Nat × Nat × Nat × Nat := (yX2_become, cX2_become, 3, none, 2, 0, false, 1, 427, 425, 426)
abbrev pe_m16 : MethodName × ByteArray × Nat × Option FieldType × Nat × Nat × Bool × Nat × Nat × Nat × Nat := (yX2_allBits, cX2_allBits, 1, (some .int), 2, 0, false, 0, 739, 737, 738)
abbrev pe_m17 : MethodName × ByteArray × Nat × Option FieldType × Nat × Nat × Bool × Nat × Nat × Nat × Nat := (yX2_endedBits, cX2_endedBits, 3, (some .int), 2, 0, false, 0, 708, 706, 707)
abbrev pe_m18 : MethodName × ByteArray × Nat × Option FieldType × Nat × Nat × Bool × Nat × Nat × Nat × Nat := (yX2_doneBits, cX2_doneBits, 3, (some .int), 2, 0, false, 0, 751, 749, 750)
abbrev pe_m19 : MethodName × ByteArray × Nat × Option FieldType × Nat × Nat × Bool × Nat × Nat × Nat × Nat := (yX2_ableBits, cX2_ableBits, 3, (some .int), 2, 0, false, 0, 735, 733, 734)
abbrev pe_m20 : MethodName × ByteArray × Nat × Option FieldType × Nat × Nat × Bool × Nat × Nat × Nat × Nat := (yX2_outsOfAll, cX2_outsOfAll, 3, (some .int), 2, 0, false, 0, 841, 839, 840)
abbrev pe_m21 : MethodName × ByteArray × Nat × Option FieldType × Nat × Nat × Bool × Nat × Nat × Nat × Nat := (yX2_codeOf, cX2_codeOf, 2, (some .int), 2, 0, false, 1, 671, 669, 670)
abbrev pe_m22 : MethodName × ByteArray × Nat × Option FieldType × Nat × Nat × Bool × Nat × Nat × Nat × Nat := (yX2_causeOf, cX2_causeOf, 2, (some .int), 2, 0, false, 1, 679, 677, 678)
abbrev pe_m23 : MethodName × ByteArray × Nat × Option FieldType × Nat × Nat × Bool × Nat × Nat × Nat × Nat := (yX2_faultsOf, cX2_faultsOf, 4, (some .int), 2, 0, false, 1, 655, 653, 654)
abbrev pe_m24 : MethodName × ByteArray × Nat × Option FieldType × Nat × Nat × Bool × Nat × Nat × Nat × Nat := (yX2_add, cX2_add, 3, (some .int), 2, 0, false, 2, 484, 482, 483)
abbrev pe_m25 : MethodName × ByteArray × Nat × Option FieldType × Nat × Nat × Bool × Nat × Nat × Nat × Nat := (yX2_sendTo, cX2_sendTo, 5, none, 2, 0, false, 2, 504, 502, 503)
abbrev pe_m26 : MethodName × ByteArray × Nat × Option FieldType × Nat × Nat × Bool × Nat × Nat × Nat × Nat := (yX2_closeDown, cX2_closeDown, 4, none, 2, 0, false, 1, 597, 595, 596)
abbrev pe_m27 : MethodName × ByteArray × Nat × Option FieldType × Nat × Nat × Bool × Nat × Nat × Nat × Nat := (yX2_makeRounds, cX2_makeRounds, 4, none, 2, 0, false, 1, 722, 720, 721)
abbrev pe_m28 : MethodName × ByteArray × Nat × Option FieldType × Nat × Nat × Bool × Nat × Nat × Nat × Nat := (yX2_makeRound, cX2_makeRound, 5, (some .boolean), 2, 0, false, 0, 605, 603, 604)
abbrev pe_m29 : MethodName × ByteArray × Nat × Option FieldType × Nat × Nat × Bool × Nat × Nat × Nat × Nat := (yX2_loseRound, cX2_loseRound, 2, none, 2, 0, false, 0, 807, 805, 806)
abbrev pe_m30 : MethodName × ByteArray × Nat × Option FieldType × Nat × Nat × Bool × Nat × Nat × Nat × Nat := (yX2_lineUp, cX2_lineUp, 5, (some .int), 2, 0, false, 0, 609, 608, 20)
abbrev pe_m31 : MethodName × ByteArray × Nat × Option FieldType × Nat × Nat × Bool × Nat × Nat × Nat × Nat := (yX2_makeStep, cX2_makeStep, 7, none, 2, 0, false, 2, 516, 515, 10)
abbrev pe_m32 : MethodName × ByteArray × Nat × Option FieldType × Nat × Nat × Bool × Nat × Nat × Nat × Nat := (yX2_makeLivelyStep, cX2_makeLivelyStep, 6, none, 2, 0, false, 3, 548, 547, 14)
abbrev pe_m33 : MethodName × ByteArray × Nat × Option FieldType × Nat × Nat × Bool × Nat × Nat × Nat × Nat := (yX2_goInto, cX2_goInto, 3, none, 2, 0, false, 2, 556, 555, 15)
abbrev pe_m34 : MethodName × ByteArray × Nat × Option FieldType × Nat × Nat × Bool × Nat × Nat × Nat × Nat := (yX2_sendAt, cX2_sendAt, 5, none, 2, 0, false, 2, 561, 560, 16)
abbrev pe_m35 : MethodName × ByteArray × Nat × Option FieldType × Nat × Nat × Bool × Nat × Nat × Nat × Nat := (yX2_getAt, cX2_getAt, 5, none, 2, 0, false, 2, 581, 580, 17)
abbrev pe_m36 : MethodName × ByteArray × Nat × Option FieldType × Nat × Nat × Bool × Nat × Nat × Nat × Nat := (yX2_haveEnd, cX2_haveEnd, 3, none, 2, 0, false, 2, 589, 588, 18)
abbrev pe_m37 : MethodName × ByteArray × Nat × Option FieldType × Nat × Nat × Bool × Nat × Nat × Nat × Nat := (yX2_tellJoining, cX2_tellJoining, 5, none, 2, 2, false, 3, 592, 591, 95)
abbrev pe_m38 : MethodName × ByteArray × Nat × Option FieldType × Nat × Nat × Bool × Nat × Nat × Nat × Nat := (yX2_endTop, cX2_endTop, 3, none, 2, 0, false, 1, 524, 523, 11)
abbrev pe_m39 : MethodName × ByteArray × Nat × Option FieldType × Nat × Nat × Bool × Nat × Nat × Nat × Nat := (yX2_newFault, cX2_newFault, 3, (some .int), 2, 0, false, 2, 544, 543, 13)
abbrev pe_m40 : MethodName × ByteArray × Nat × Option FieldType × Nat × Nat × Bool × Nat × Nat × Nat × Nat := (yX2_throwFault, cX2_throwFault, 4, none, 2, 0, false, 2, 532, 531, 12)
abbrev pe_m41 : MethodName × ByteArray × Nat × Option FieldType × Nat × Nat × Bool × Nat × Nat × Nat × Nat := (yX3_init, cX3_init, 3, none, 3, 1, true, 2, 323, 322, 100)
abbrev pe_m42 : MethodName × ByteArray × Nat × Option FieldType × Nat × Nat × Bool × Nat × Nat × Nat × Nat := (yX3_weight, cX3_weight, 1, (some .int), 3, 0, false, 0, 614, 612, 613)
abbrev pe_m43 : MethodName × ByteArray × Nat × Option FieldType × Nat × Nat × Bool × Nat × Nat × Nat × Nat := (yX3_yields, cX3_yields, 2, (some .int), 3, 0, false, 1, 552, 550, 551)
abbrev pe_m44 : MethodName × ByteArray × Nat × Option FieldType × Nat × Nat × Bool × Nat × Nat × Nat × Nat := (yX3_takes, cX3_takes, 3, (some .int), 3, 0, false, 2, 512, 510, 511)
abbrev pe_m45 : MethodName × ByteArray × Nat × Option FieldType × Nat × Nat × Bool × Nat × Nat × Nat × Nat := (yX3_price, cX3_price, 1, (some .int), 3, 0, false, 0, 905, 903, 904)
abbrev pe_m46 : MethodName × ByteArray × Nat × Option FieldType × Nat × Nat × Bool × Nat × Nat × Nat × Nat := (yX3_fail, cX3_fail, 1, none, 3, 0, false, 0, 914, 912, 913)
abbrev pe_m47 : MethodName × ByteArray × Nat × Option FieldType × Nat × Nat × Bool × Nat × Nat × Nat × Nat := (yX3_failure, cX3_failure, 1, (some .int), 3, 0, false, 0, 985, 983, 984)
abbrev pe_m48 : MethodName × ByteArray × Nat × Option FieldType × Nat × Nat × Bool × Nat × Nat × Nat × Nat := (yX4_init, cX4_init, 3, none, 4, 1, true, 2, 136, 135, 96)
abbrev pe_m49 : MethodName × ByteArray × Nat × Option FieldType × Nat × Nat × Bool × Nat × Nat × Nat × Nat := (yX4_length, cX4_length, 1, (some .int), 4, 0, false, 0, 520, 518, 519)
abbrev pe_m50 : MethodName × ByteArray × Nat × Option FieldType × Nat × Nat × Bool × Nat × Nat × Nat × Nat := (yX4_letter, cX4_letter, 2, (some .int), 4, 0, false, 1, 536, 534, 535)
abbrev pe_m51 : MethodName × ByteArray × Nat × Option FieldType × Nat × Nat × Bool × Nat × Nat × Nat × Nat := (yX4_number, cX4_number, 2, (some .int), 4, 0, false, 1, 540, 538, 539)
abbrev pe_m52 : MethodName × ByteArray × Nat × Option FieldType × Nat × Nat × Bool × Nat × Nat × Nat × Nat := (yX5_init, cX5_init, 1, none, 5, 1, true, 0, 249, 248, 99)
abbrev pe_m53 : MethodName × ByteArray × Nat × Option FieldType × Nat × Nat × Bool × Nat × Nat × Nat × Nat := (yX5_become, cX5_become, 3, none, 5, 0, false, 1, 439, 437, 438)
abbrev pe_m54 : MethodName × ByteArray × Nat × Option FieldType × Nat × Nat × Bool × Nat × Nat × Nat × Nat := (yX5_join, cX5_join, 2, none, 5, 0, false, 1, 573, 571, 572)
abbrev pe_m55 : MethodName × ByteArray × Nat × Option FieldType × Nat × Nat × Bool × Nat × Nat × Nat × Nat := (yX5_leave, cX5_leave, 4, none, 5, 0, false, 1, 565, 563, 564)
abbrev pe_m56 : MethodName × ByteArray × Nat × Option FieldType × Nat × Nat × Bool × Nat × Nat × Nat × Nat := (yX6_init, cX6_init, 3, none, 6, 1, true, 2, 865, 864, 107)
abbrev pe_m57 : MethodName × ByteArray × Nat × Option FieldType × Nat × Nat × Bool × Nat × Nat × Nat × Nat := (yX6_size, cX6_size, 1, (some .int), 6, 0, false, 0, 390, 388, 389)
abbrev pe_m58 : MethodName × ByteArray × Nat × Option FieldType × Nat × Nat × Bool × Nat × Nat × Nat × Nat := (yX6_has, cX6_has, 2, (some .boolean), 6, 0, false, 1, 402, 400, 401)
abbrev pe_m59 : MethodName × ByteArray × Nat × Option FieldType × Nat × Nat × Bool × Nat × Nat × Nat × Nat := (yX6_hasPart, cX6_hasPart, 3, (some .boolean), 6, 0, false, 2, 896, 894, 895)
abbrev pe_m60 : MethodName × ByteArray × Nat × Option FieldType × Nat × Nat × Bool × Nat × Nat × Nat × Nat := (yX6_at, cX6_at, 2, (some .int), 6, 0, false, 1, 398, 396, 397)
abbrev pe_m61 : MethodName × ByteArray × Nat × Option FieldType × Nat × Nat × Bool × Nat × Nat × Nat × Nat := (yX6_become, cX6_become, 3, none, 6, 0, false, 2, 884, 882, 883)
abbrev pe_m62 : MethodName × ByteArray × Nat × Option FieldType × Nat × Nat × Bool × Nat × Nat × Nat × Nat := (yX6_leastNumber, cX6_leastNumber, 1, (some .int), 6, 0, false, 0, 775, 773, 774)
abbrev pe_m63 : MethodName × ByteArray × Nat × Option FieldType × Nat × Nat × Bool × Nat × Nat × Nat × Nat := (yX7_init, cX7_init, 2, none, 7, 1, true, 1, 374, 373, 102)
abbrev pe_m64 : MethodName × ByteArray × Nat × Option FieldType × Nat × Nat × Bool × Nat × Nat × Nat × Nat := (yX7_statements, cX7_statements, 3, (some .int), 7, 0, false, 0, 386, 384, 385)
abbrev pe_m65 : MethodName × ByteArray × Nat × Option FieldType × Nat × Nat × Bool × Nat × Nat × Nat × Nat := (yX7_faultAt, cX7_faultAt, 1, (some .int), 7, 2, false, 1, 412, 411, 102)
abbrev pe_m66 : MethodName × ByteArray × Nat × Option FieldType × Nat × Nat × Bool × Nat × Nat × Nat × Nat := (yX7_endOfStatement, cX7_endOfStatement, 2, (some .int), 7, 0, false, 1, 394, 393, 1)
abbrev pe_m67 : MethodName × ByteArray × Nat × Option FieldType × Nat × Nat × Bool × Nat × Nat × Nat × Nat := (yX7_endOfNumbers, cX7_endOfNumbers, 5, (some .int), 7, 0, false, 2, 419, 418, 3)
abbrev pe_m68 : MethodName × ByteArray × Nat × Option FieldType × Nat × Nat × Bool × Nat × Nat × Nat × Nat := (yX7_endOfProgram, cX7_endOfProgram, 3, (some .int), 7, 0, false, 1, 406, 405, 2)
abbrev pe_m69 : MethodName × ByteArray × Nat × Option FieldType × Nat × Nat × Bool × Nat × Nat × Nat × Nat := (yX7_isDigit, cX7_isDigit, 1, (some .boolean), 7, 2, false, 1, 409, 408, 102)
abbrev pe_m70 : MethodName × ByteArray × Nat × Option FieldType × Nat × Nat × Bool × Nat × Nat × Nat × Nat := (yX7_isNumberedStep, cX7_isNumberedStep, 1, (some .boolean), 7, 2, false, 1, 415, 414, 102)
abbrev pe_m71 : MethodName × ByteArray × Nat × Option FieldType × Nat × Nat × Bool × Nat × Nat × Nat × Nat := (yX7_behindStatement, cX7_behindStatement, 3, (some .int), 7, 0, false, 1, 623, 621, 622)
abbrev pe_m72 : MethodName × ByteArray × Nat × Option FieldType × Nat × Nat × Bool × Nat × Nat × Nat × Nat := (yX7_digit, cX7_digit, 2, (some .int), 7, 0, false, 1, 450, 449, 5)
abbrev pe_m73 : MethodName × ByteArray × Nat × Option FieldType × Nat × Nat × Bool × Nat × Nat × Nat × Nat := (yX7_twoDigits, cX7_twoDigits, 2, (some .int), 7, 0, false, 1, 500, 499, 9)
abbrev pe_m74 : MethodName × ByteArray × Nat × Option FieldType × Nat × Nat × Bool × Nat × Nat × Nat × Nat := (yX7_isDone, cX7_isDone, 4, (some .boolean), 7, 0, false, 2, 446, 444, 445)
abbrev pe_m75 : MethodName × ByteArray × Nat × Option FieldType × Nat × Nat × Bool × Nat × Nat × Nat × Nat := (yX7_isProgramDone, cX7_isProgramDone, 5, (some .boolean), 7, 0, false, 2, 454, 453, 6)
abbrev pe_m76 : MethodName × ByteArray × Nat × Option FieldType × Nat × Nat × Bool × Nat × Nat × Nat × Nat := (yX7_programFrom, cX7_programFrom, 6, (some (.object "StepMachines$Program")), 7, 0, false, 1, 458, 457, 7)
abbrev pe_m77 : MethodName × ByteArray × Nat × Option FieldType × Nat × Nat × Bool × Nat × Nat × Nat × Nat := (yX7_isComingDone, cX7_isComingDone, 5, (some .boolean), 7, 0, false, 2, 478, 477, 8)
abbrev pe_m78 : MethodName × ByteArray × Nat × Option FieldType × Nat × Nat × Bool × Nat × Nat × Nat × Nat := (yX7_areRoundsDone, cX7_areRoundsDone, 4, (some .boolean), 7, 0, false, 2, 601, 600, 19)
abbrev pe_m79 : MethodName × ByteArray × Nat × Option FieldType × Nat × Nat × Bool × Nat × Nat × Nat × Nat := (yX8_init, cX8_init, 2, none, 8, 1, true, 0, 117, 116, 94)
abbrev pe_m80 : MethodName × ByteArray × Nat × Option FieldType × Nat × Nat × Bool × Nat × Nat × Nat × Nat := (yX8_text, cX8_text, 8, (some .int), 8, 0, false, 1, 362, 360, 361)
abbrev pe_m81 : MethodName × ByteArray × Nat × Option FieldType × Nat × Nat × Bool × Nat × Nat × Nat × Nat := (yX8_program, cX8_program, 5, (some .int), 8, 0, false, 3, 627, 625, 626)
abbrev pe_m82 : MethodName × ByteArray × Nat × Option FieldType × Nat × Nat × Bool × Nat × Nat × Nat × Nat := (yX8_comes, cX8_comes, 4, (some .int), 8, 0, false, 2, 637, 635, 636)
abbrev pe_m83 : MethodName × ByteArray × Nat × Option FieldType × Nat × Nat × Bool × Nat × Nat × Nat × Nat := (yX8_coroutine, cX8_coroutine, 4, (some .int), 8, 0, false, 2, 646, 644, 645)
abbrev pe_m84 : MethodName × ByteArray × Nat × Option FieldType × Nat × Nat × Bool × Nat × Nat × Nat × Nat := (yX8_frame, cX8_frame, 6, (some .int), 8, 0, false, 3, 663, 661, 662)
abbrev pe_m85 : MethodName × ByteArray × Nat × Option FieldType × Nat × Nat × Bool × Nat × Nat × Nat × Nat := (yX8_cause, cX8_cause, 5, (some .int), 8, 0, false, 2, 675, 673, 674)
abbrev pe_m86 : MethodName × ByteArray × Nat × Option FieldType × Nat × Nat × Bool × Nat × Nat × Nat × Nat := (yX8_channel, cX8_channel, 5, (some .int), 8, 0, false, 3, 683, 681, 682)
abbrev pe_m87 : MethodName × ByteArray × Nat × Option FieldType × Nat × Nat × Bool × Nat × Nat × Nat × Nat := (yX8_send, cX8_send, 3, (some .int), 8, 0, false, 2, 687, 685, 686)
abbrev pe_m88 : MethodName × ByteArray × Nat × Option FieldType × Nat × Nat × Bool × Nat × Nat × Nat × Nat := (yX8_close, cX8_close, 2, (some .int), 8, 0, false, 1, 693, 691, 692)
abbrev pe_m89 : MethodName × ByteArray × Nat × Option FieldType × Nat × Nat × Bool × Nat × Nat × Nat × Nat := (yX8_width, cX8_width, 3, (some .int), 8, 0, false, 1, 699, 697, 698)
abbrev pe_m90 : MethodName × ByteArray × Nat × Option FieldType × Nat × Nat × Bool × Nat × Nat × Nat × Nat := (yX8_rounds, cX8_rounds, 3, (some .int), 8, 0, false, 1, 703, 701, 702)
abbrev pe_m91 : MethodName × ByteArray × Nat × Option FieldType × Nat × Nat × Bool × Nat × Nat × Nat × Nat := (yX8_then, cX8_then, 5, (some .int), 8, 0, false, 3, 718, 716, 717)
abbrev pe_m92 : MethodName × ByteArray × Nat × Option FieldType × Nat × Nat × Bool × Nat × Nat × Nat × Nat := (yX8_ends, cX8_ends, 4, (some .int), 8, 0, false, 1, 727, 725, 726)
abbrev pe_m93 : MethodName × ByteArray × Nat × Option FieldType × Nat × Nat × Bool × Nat × Nat × Nat × Nat := (yX8_stuck, cX8_stuck, 4, (some .int), 8, 0, false, 1, 731, 729, 730)
abbrev pe_m94 : MethodName × ByteArray × Nat × Option FieldType × Nat × Nat × Bool × Nat × Nat × Nat × Nat := (yX8_leastWidth, cX8_leastWidth, 4, (some .int), 8, 0, false, 1, 743, 741, 742)
abbrev pe_m95 : MethodName × ByteArray × Nat × Option FieldType × Nat × Nat × Bool × Nat × Nat × Nat × Nat := (yX8_closeBest, cX8_closeBest, 8, (some .int), 8, 0, false, 1, 747, 745, 746)
abbrev pe_m96 : MethodName × ByteArray × Nat × Option FieldType × Nat × Nat × Bool × Nat × Nat × Nat × Nat := (yX8_sendBest, cX8_sendBest, 7, (some .int), 8, 0, false, 2, 759, 757, 758)
abbrev pe_m97 : MethodName × ByteArray × Nat × Option FieldType × Nat × Nat × Bool × Nat × Nat × Nat × Nat := (yX8_firstOut, cX8_firstOut, 4, (some .int), 8, 0, false, 0, 763, 761, 762)
abbrev pe_m98 : MethodName × ByteArray × Nat × Option FieldType × Nat × Nat × Bool × Nat × Nat × Nat × Nat := (yX8_whatProgram, cX8_whatProgram, 5, (some .int), 8, 0, false, 1, 767, 765, 766)
abbrev pe_m99 : MethodName × ByteArray × Nat × Option FieldType × Nat × Nat × Bool × Nat × Nat × Nat × Nat := (yX8_alike, cX8_alike, 10, (some .int), 8, 0, false, 3, 782, 780, 781)
abbrev pe_m100 : MethodName × ByteArray × Nat × Option FieldType × Nat × Nat × Bool × Nat × Nat × Nat × Nat := (yX8_two, cX8_two, 8, (some .int), 8, 0, false, 3, 786, 784, 785)
abbrev pe_m101 : MethodName × ByteArray × Nat × Option FieldType × Nat × Nat × Bool × Nat × Nat × Nat × Nat := (yX8_lost, cX8_lost, 5, (some .long), 8, 0, false, 4, 796, 794, 795)
abbrev pe_m102 : MethodName × ByteArray × Nat × Option FieldType × Nat × Nat × Bool × Nat × Nat × Nat × Nat := (yX8_share, cX8_share, 3, (some .long), 8, 0, false, 1, 814, 812, 813)
abbrev pe_m103 : MethodName × ByteArray × Nat × Option FieldType × Nat × Nat × Bool × Nat × Nat × Nat × Nat := (yX8_forged, cX8_forged, 5, (some .int), 8, 0, false, 1, 818, 816, 817)
abbrev pe_m104 : MethodName × ByteArray × Nat × Option FieldType × Nat × Nat × Bool × Nat × Nat × Nat × Nat := (yX8_judge, cX8_judge, 8, (some .int), 8, 0, false, 1, 822, 820, 821)
abbrev pe_m105 : MethodName × ByteArray × Nat × Option FieldType × Nat × Nat × Bool × Nat × Nat × Nat × Nat := (yX8_lots, cX8_lots, 7, (some .int), 8, 0, false, 3, 826, 824, 825)
abbrev pe_m106 : MethodName × ByteArray × Nat × Option FieldType × Nat × Nat × Bool × Nat × Nat × Nat × Nat := (yX8_image, cX8_image, 1, (some .int), 8, 0, false, 0, 845, 843, 844)
abbrev pe_m107 : MethodName × ByteArray × Nat × Option FieldType × Nat × Nat × Bool × Nat × Nat × Nat × Nat := (yX8_restore, cX8_restore, 1, (some .int), 8, 0, false, 0, 849, 847, 848)
abbrev pe_m108 : MethodName × ByteArray × Nat × Option FieldType × Nat × Nat × Bool × Nat × Nat × Nat × Nat := (yX8_count, cX8_count, 2, (some .int), 8, 0, false, 1, 853, 851, 852)
abbrev pe_m109 : MethodName × ByteArray × Nat × Option FieldType × Nat × Nat × Bool × Nat × Nat × Nat × Nat := (yX8_keep, cX8_keep, 5, (some .int), 8, 0, false, 4, 857, 855, 856)
abbrev pe_m110 : MethodName × ByteArray × Nat × Option FieldType × Nat × Nat × Bool × Nat × Nat × Nat × Nat := (yX8_row, cX8_row, 4, (some .int), 8, 0, false, 3, 861, 859, 860)
abbrev pe_m111 : MethodName × ByteArray × Nat × Option FieldType × Nat × Nat × Bool × Nat × Nat × Nat × Nat := (yX8_put, cX8_put, 5, (some .int), 8, 0, false, 3, 879, 877, 878)
abbrev pe_m112 : MethodName × ByteArray × Nat × Option FieldType × Nat × Nat × Bool × Nat × Nat × Nat × Nat := (yX8_element, cX8_element, 3, (some .long), 8, 0, false, 2, 995, 993, 994)
abbrev pe_m113 : MethodName × ByteArray × Nat × Option FieldType × Nat × Nat × Bool × Nat × Nat × Nat × Nat := (yX8_copy, cX8_copy, 8, (some .int), 8, 0, false, 5, 888, 886, 887)
abbrev pe_m114 : MethodName × ByteArray × Nat × Option FieldType × Nat × Nat × Bool × Nat × Nat × Nat × Nat := (yX8_cost, cX8_cost, 3, (some .int), 8, 0, false, 1, 901, 899, 900)
abbrev pe_m115 : MethodName × ByteArray × Nat × Option FieldType × Nat × Nat × Bool × Nat × Nat × Nat × Nat := (yX8_isShelf, cX8_isShelf, 1, (some .boolean), 8, 2, false, 1, 369, 368, 94)
abbrev pe_m116 : MethodName × ByteArray × Nat × Option FieldType × Nat × Nat × Bool × Nat × Nat × Nat × Nat := (yX8_isProgram, cX8_isProgram, 1, (some .boolean), 8, 2, false, 1, 630, 629, 94)
abbrev pe_m117 : MethodName × ByteArray × Nat × Option FieldType × Nat × Nat × Bool × Nat × Nat × Nat × Nat := (yX8_isCoroutine, cX8_isCoroutine, 2, (some .boolean), 8, 0, false, 1, 650, 649, 22)
abbrev pe_m118 : MethodName × ByteArray × Nat × Option FieldType × Nat × Nat × Bool × Nat × Nat × Nat × Nat := (yX8_holdsNothing, cX8_holdsNothing, 2, (some .boolean), 8, 0, false, 1, 892, 891, 28)
abbrev pe_m119 : MethodName × ByteArray × Nat × Option FieldType × Nat × Nat × Bool × Nat × Nat × Nat × Nat := (yX8_refusalOfRow, cX8_refusalOfRow, 2, (some .int), 8, 0, false, 1, 366, 365, 0)
abbrev pe_m120 : MethodName × ByteArray × Nat × Option FieldType × Nat × Nat × Bool × Nat × Nat × Nat × Nat := (yX8_refusalOfManner, cX8_refusalOfManner, 2, (some .int), 8, 0, false, 1, 641, 640, 21)
abbrev pe_m121 : MethodName × ByteArray × Nat × Option FieldType × Nat × Nat × Bool × Nat × Nat × Nat × Nat := (yX8_heldTold, cX8_heldTold, 2, (some .int), 8, 0, false, 1, 667, 666, 23)
abbrev pe_m122 : MethodName × ByteArray × Nat × Option FieldType × Nat × Nat × Bool × Nat × Nat × Nat × Nat := (yX8_mindOfNow, cX8_mindOfNow, 1, (some (.object "StepMachines$Machine")), 8, 0, false, 0, 423, 422, 4)
abbrev pe_m123 : MethodName × ByteArray × Nat × Option FieldType × Nat × Nat × Bool × Nat × Nat × Nat × Nat := (yX8_othersDone, cX8_othersDone, 4, (some .int), 8, 0, false, 2, 755, 754, 24)
abbrev pe_m124 : MethodName × ByteArray × Nat × Option FieldType × Nat × Nat × Bool × Nat × Nat × Nat × Nat := (yX8_yieldsAll, cX8_yieldsAll, 8, (some .boolean), 8, 0, false, 2, 771, 770, 25)
abbrev pe_m125 : MethodName × ByteArray × Nat × Option FieldType × Nat × Nat × Bool × Nat × Nat × Nat × Nat := (yX8_closeIf, cX8_closeIf, 3, none, 8, 2, false, 3, 789, 788, 94)
abbrev pe_m126 : MethodName × ByteArray × Nat × Option FieldType × Nat × Nat × Bool × Nat × Nat × Nat × Nat := (yX8_gain, cX8_gain, 3, (some .int), 8, 2, false, 3, 792, 791, 94)
abbrev pe_m127 : MethodName × ByteArray × Nat × Option FieldType × Nat × Nat × Bool × Nat × Nat × Nat × Nat := (yX8_waysEnded, cX8_waysEnded, 9, (some .long), 8, 2, false, 5, 800, 799, 94)
abbrev pe_m128 : MethodName × ByteArray × Nat × Option FieldType × Nat × Nat × Bool × Nat × Nat × Nat × Nat := (yX8_power, cX8_power, 5, (some .long), 8, 2, false, 2, 803, 802, 94)
abbrev pe_m129 : MethodName × ByteArray × Nat × Option FieldType × Nat × Nat × Bool × Nat × Nat × Nat × Nat := (yX8_inLeastTerms, cX8_inLeastTerms, 12, (some .long), 8, 2, false, 3, 810, 809, 94)
abbrev pe_m130 : MethodName × ByteArray × Nat × Option FieldType × Nat × Nat × Bool × Nat × Nat × Nat × Nat := (yX8_runByLot, cX8_runByLot, 5, none, 8, 0, false, 1, 830, 829, 26)
abbrev pe_m131 : MethodName × ByteArray × Nat × Option FieldType × Nat × Nat × Bool × Nat × Nat × Nat × Nat := (yX8_draw, cX8_draw, 2, (some .int), 8, 0, false, 1, 834, 833, 27)
abbrev pe_m132 : MethodName × ByteArray × Nat × Option FieldType × Nat × Nat × Bool × Nat × Nat × Nat × Nat := (yX9_init, cX9_init, 1, none, 9, 1, true, 0, 1019, 1018, 101)
abbrev pe_m133 : MethodName × ByteArray × Nat × Option FieldType × Nat × Nat × Bool × Nat × Nat × Nat × Nat := (yX9_thrown, cX9_thrown, 1, (some .int), 9, 0, false, 0, 1200, 1198, 1199)
abbrev pe_m134 : MethodName × ByteArray × Nat × Option FieldType × Nat × Nat × Bool × Nat × Nat × Nat × Nat := (yX9_in, cX9_in, 6, (some .boolean), 9, 2, false, 3, 1212, 1211, 101)
abbrev pe_m135 : MethodName × ByteArray × Nat × Option FieldType × Nat × Nat × Bool × Nat × Nat × Nat × Nat := (yX9_hasBit, cX9_hasBit, 2, (some .boolean), 9, 2, false, 2, 1406, 1405, 101)
abbrev pe_m136 : MethodName × ByteArray × Nat × Option FieldType × Nat × Nat × Bool × Nat × Nat × Nat × Nat := (yX9_onesOf, cX9_onesOf, 3, (some .int), 9, 2, false, 1, 1494, 1493, 101)
abbrev pe_m137 : MethodName × ByteArray × Nat × Option FieldType × Nat × Nat × Bool × Nat × Nat × Nat × Nat := (yX9_held, cX9_held, 2, (some .int), 9, 2, false, 2, 1341, 1340, 101)
abbrev pe_m138 : MethodName × ByteArray × Nat × Option FieldType × Nat × Nat × Bool × Nat × Nat × Nat × Nat := (yX9_isOne, cX9_isOne, 2, (some .boolean), 9, 0, false, 1, 1282, 1281, 45)
abbrev pe_m139 : MethodName × ByteArray × Nat × Option FieldType × Nat × Nat × Bool × Nat × Nat × Nat × Nat := (yX9_isEnded, cX9_isEnded, 2, (some .boolean), 9, 0, false, 1, 1369, 1368, 66)
abbrev pe_m140 : MethodName × ByteArray × Nat × Option FieldType × Nat × Nat × Bool × Nat × Nat × Nat × Nat := (yX9_isFree, cX9_isFree, 2, (some .boolean), 9, 0, false, 1, 1286, 1285, 46)
abbrev pe_m141 : MethodName × ByteArray × Nat × Option FieldType × Nat × Nat × Bool × Nat × Nat × Nat × Nat := (yX9_endedBits, cX9_endedBits, 3, (some .int), 9, 0, false, 0, 1491, 1490, 82)
abbrev pe_m142 : MethodName × ByteArray × Nat × Option FieldType × Nat × Nat × Bool × Nat × Nat × Nat × Nat := (yX9_weightOf, cX9_weightOf, 2, (some .int), 9, 0, false, 1, 1414, 1413, 76)
abbrev pe_m143 : MethodName × ByteArray × Nat × Option FieldType × Nat × Nat × Bool × Nat × Nat × Nat × Nat := (yX9_yieldOf, cX9_yieldOf, 4, (some .int), 9, 0, false, 2, 1338, 1337, 59)
abbrev pe_m144 : MethodName × ByteArray × Nat × Option FieldType × Nat × Nat × Bool × Nat × Nat × Nat × Nat := (yX9_sentOf, cX9_sentOf, 3, (some .int), 9, 0, false, 2, 1294, 1293, 48)
abbrev pe_m145 : MethodName × ByteArray × Nat × Option FieldType × Nat × Nat × Bool × Nat × Nat × Nat × Nat := (yX9_top, cX9_top, 2, (some .int), 9, 0, false, 1, 1302, 1301, 50)
abbrev pe_m146 : MethodName × ByteArray × Nat × Option FieldType × Nat × Nat × Bool × Nat × Nat × Nat × Nat := (yX9_frameComes, cX9_frameComes, 5, none, 9, 0, false, 2, 1274, 1273, 43)
abbrev pe_m147 : MethodName × ByteArray × Nat × Option FieldType × Nat × Nat × Bool × Nat × Nat × Nat × Nat := (yX9_finishOf, cX9_finishOf, 4, (some .int), 9, 0, false, 1, 1314, 1313, 53)
abbrev pe_m148 : MethodName × ByteArray × Nat × Option FieldType × Nat × Nat × Bool × Nat × Nat × Nat × Nat := (yX9_faultComes, cX9_faultComes, 3, (some .int), 9, 0, false, 2, 1326, 1325, 56)
abbrev pe_m149 : MethodName × ByteArray × Nat × Option FieldType × Nat × Nat × Bool × Nat × Nat × Nat × Nat := (yX9_throwsIt, cX9_throwsIt, 5, none, 9, 0, false, 2, 1310, 1309, 52)
abbrev pe_m150 : MethodName × ByteArray × Nat × Option FieldType × Nat × Nat × Bool × Nat × Nat × Nat × Nat := (yX9_closesIt, cX9_closesIt, 4, none, 9, 0, false, 1, 1318, 1317, 54)
abbrev pe_m151 : MethodName × ByteArray × Nat × Option FieldType × Nat × Nat × Bool × Nat × Nat × Nat × Nat := (yX9_frameEnds, cX9_frameEnds, 3, none, 9, 0, false, 1, 1306, 1305, 51)
abbrev pe_m152 : MethodName × ByteArray × Nat × Option FieldType × Nat × Nat × Bool × Nat × Nat × Nat × Nat := (yX9_lineUp, cX9_lineUp, 4, none, 9, 0, false, 3, 1357, 1356, 63)
abbrev pe_m153 : MethodName × ByteArray × Nat × Option FieldType × Nat × Nat × Bool × Nat × Nat × Nat × Nat := (yX9_firstOf, cX9_firstOf, 3, (some .int), 9, 0, false, 1, 1349, 1348, 61)
abbrev pe_m154 : MethodName × ByteArray × Nat × Option FieldType × Nat × Nat × Bool × Nat × Nat × Nat × Nat := (yX9_leaves, cX9_leaves, 5, none, 9, 0, false, 2, 1353, 1352, 62)
abbrev pe_m155 : MethodName × ByteArray × Nat × Option FieldType × Nat × Nat × Bool × Nat × Nat × Nat × Nat := (yX9_sends, cX9_sends, 3, none, 9, 0, false, 2, 1345, 1344, 60)
abbrev pe_m156 : MethodName × ByteArray × Nat × Option FieldType × Nat × Nat × Bool × Nat × Nat × Nat × Nat := (yX9_gets, cX9_gets, 3, none, 9, 0, false, 2, 1361, 1360, 64)
abbrev pe_m157 : MethodName × ByteArray × Nat × Option FieldType × Nat × Nat × Bool × Nat × Nat × Nat × Nat := (yX9_hasJoined, cX9_hasJoined, 3, none, 9, 0, false, 2, 1373, 1372, 67)
abbrev pe_m158 : MethodName × ByteArray × Nat × Option FieldType × Nat × Nat × Bool × Nat × Nat × Nat × Nat := (yX9_joins, cX9_joins, 3, none, 9, 0, false, 2, 1365, 1364, 65)
abbrev pe_m159 : MethodName × ByteArray × Nat × Option FieldType × Nat × Nat × Bool × Nat × Nat × Nat × Nat := (yX9_settle, cX9_settle, 3, none, 9, 0, false, 0, 1381, 1380, 69)
abbrev pe_m160 : MethodName × ByteArray × Nat × Option FieldType × Nat × Nat × Bool × Nat × Nat × Nat × Nat := (yX9_isIdle, cX9_isIdle, 1, (some .boolean), 9, 2, false, 1, 1240, 1239, 101)
abbrev pe_m161 : MethodName × ByteArray × Nat × Option FieldType × Nat × Nat × Bool × Nat × Nat × Nat × Nat := (yX9_deeper, cX9_deeper, 3, none, 9, 0, false, 2, 1377, 1376, 68)
abbrev pe_m162 : MethodName × ByteArray × Nat × Option FieldType × Nat × Nat × Bool × Nat × Nat × Nat × Nat := (yX9_yields, cX9_yields, 3, none, 9, 0, false, 2, 1334, 1333, 58)
abbrev pe_m163 : MethodName × ByteArray × Nat × Option FieldType × Nat × Nat × Bool × Nat × Nat × Nat × Nat := (yX9_doesPlain, cX9_doesPlain, 5, none, 9, 0, false, 4, 1322, 1321, 55)
abbrev pe_m164 : MethodName × ByteArray × Nat × Option FieldType × Nat × Nat × Bool × Nat × Nat × Nat × Nat := (yX9_doesOther, cX9_doesOther, 5, none, 9, 0, false, 4, 1330, 1329, 57)
abbrev pe_m165 : MethodName × ByteArray × Nat × Option FieldType × Nat × Nat × Bool × Nat × Nat × Nat × Nat := (yX9_stepOf, cX9_stepOf, 6, none, 9, 0, false, 2, 1298, 1297, 49)
abbrev pe_m166 : MethodName × ByteArray × Nat × Option FieldType × Nat × Nat × Bool × Nat × Nat × Nat × Nat := (yX9_sendTo, cX9_sendTo, 4, none, 9, 0, false, 2, 1290, 1289, 47)
abbrev pe_m167 : MethodName × ByteArray × Nat × Option FieldType × Nat × Nat × Bool × Nat × Nat × Nat × Nat := (yX9_closing, cX9_closing, 2, none, 9, 0, false, 1, 1389, 1388, 71)
abbrev pe_m168 : MethodName × ByteArray × Nat × Option FieldType × Nat × Nat × Bool × Nat × Nat × Nat × Nat := (yX9_isAhead, cX9_isAhead, 5, (some .boolean), 9, 0, false, 2, 1410, 1409, 75)
abbrev pe_m169 : MethodName × ByteArray × Nat × Option FieldType × Nat × Nat × Bool × Nat × Nat × Nat × Nat := (yX9_roundOn, cX9_roundOn, 7, none, 9, 0, false, 1, 1403, 1402, 74)
abbrev pe_m170 : MethodName × ByteArray × Nat × Option FieldType × Nat × Nat × Bool × Nat × Nat × Nat × Nat := (yX9_goRounds, cX9_goRounds, 3, none, 9, 0, false, 1, 1399, 1398, 73)
abbrev pe_m171 : MethodName × ByteArray × Nat × Option FieldType × Nat × Nat × Bool × Nat × Nat × Nat × Nat := (yX9_oneComes, cX9_oneComes, 6, (some .boolean), 9, 0, false, 3, 1268, 1267, 42)
abbrev pe_m172 : MethodName × ByteArray × Nat × Option FieldType × Nat × Nat × Bool × Nat × Nat × Nat × Nat := (yX9_here, cX9_here, 1, (some .int), 9, 0, false, 0, 1220, 1219, 32)
abbrev pe_m173 : MethodName × ByteArray × Nat × Option FieldType × Nat × Nat × Bool × Nat × Nat × Nat × Nat := (yX9_readDigits, cX9_readDigits, 4, (some .int), 9, 0, false, 1, 1228, 1227, 34)
abbrev pe_m174 : MethodName × ByteArray × Nat × Option FieldType × Nat × Nat × Bool × Nat × Nat × Nat × Nat := (yX9_isStep, cX9_isStep, 1, (some .boolean), 9, 2, false, 1, 1237, 1236, 101)
abbrev pe_m175 : MethodName × ByteArray × Nat × Option FieldType × Nat × Nat × Bool × Nat × Nat × Nat × Nat := (yX9_readSteps, cX9_readSteps, 3, none, 9, 0, false, 1, 1234, 1233, 35)
abbrev pe_m176 : MethodName × ByteArray × Nat × Option FieldType × Nat × Nat × Bool × Nat × Nat × Nat × Nat := (yX9_readNumbers, cX9_readNumbers, 3, none, 9, 0, false, 2, 1224, 1223, 33)
abbrev pe_m177 : MethodName × ByteArray × Nat × Option FieldType × Nat × Nat × Bool × Nat × Nat × Nat × Nat := (yX9_readStatement, cX9_readStatement, 3, none, 9, 0, false, 0, 1216, 1215, 31)
abbrev pe_m178 : MethodName × ByteArray × Nat × Option FieldType × Nat × Nat × Bool × Nat × Nat × Nat × Nat := (yX9_programTold, cX9_programTold, 7, (some .boolean), 9, 0, false, 3, 1264, 1263, 41)
abbrev pe_m179 : MethodName × ByteArray × Nat × Option FieldType × Nat × Nat × Bool × Nat × Nat × Nat × Nat := (yX9_sendTold, cX9_sendTold, 4, (some .boolean), 9, 0, false, 2, 1278, 1277, 44)
abbrev pe_m180 : MethodName × ByteArray × Nat × Option FieldType × Nat × Nat × Bool × Nat × Nat × Nat × Nat := (yX9_closeTold, cX9_closeTold, 3, (some .boolean), 9, 0, false, 1, 1385, 1384, 70)
abbrev pe_m181 : MethodName × ByteArray × Nat × Option FieldType × Nat × Nat × Bool × Nat × Nat × Nat × Nat := (yX9_roundsTold, cX9_roundsTold, 3, (some .boolean), 9, 0, false, 1, 1394, 1393, 72)
abbrev pe_m182 : MethodName × ByteArray × Nat × Option FieldType × Nat × Nat × Bool × Nat × Nat × Nat × Nat := (yX9_comesTold, cX9_comesTold, 4, (some .boolean), 9, 0, false, 1, 1260, 1259, 40)
abbrev pe_m183 : MethodName × ByteArray × Nat × Option FieldType × Nat × Nat × Bool × Nat × Nat × Nat × Nat := (yX9_text, cX9_text, 4, (some .int), 9, 0, false, 1, 1204, 1202, 1203)
abbrev pe_m184 : MethodName × ByteArray × Nat × Option FieldType × Nat × Nat × Bool × Nat × Nat × Nat × Nat := (yX9_carry, cX9_carry, 2, (some .int), 9, 0, false, 1, 1252, 1251, 38)
abbrev pe_m185 : MethodName × ByteArray × Nat × Option FieldType × Nat × Nat × Bool × Nat × Nat × Nat × Nat := (yX9_carryFrames, cX9_carryFrames, 2, none, 9, 0, false, 0, 1256, 1255, 39)
abbrev pe_m186 : MethodName × ByteArray × Nat × Option FieldType × Nat × Nat × Bool × Nat × Nat × Nat × Nat := (yX9_carryAll, cX9_carryAll, 4, none, 9, 0, false, 2, 1248, 1247, 37)
abbrev pe_m187 : MethodName × ByteArray × Nat × Option FieldType × Nat × Nat × Bool × Nat × Nat × Nat × Nat := (yX9_think, cX9_think, 1, none, 9, 0, false, 0, 1244, 1243, 36)
abbrev pe_m188 : MethodName × ByteArray × Nat × Option FieldType × Nat × Nat × Bool × Nat × Nat × Nat × Nat := (yX9_again, cX9_again, 1, none, 9, 0, false, 0, 1418, 1417, 77)
abbrev pe_m189 : MethodName × ByteArray × Nat × Option FieldType × Nat × Nat × Bool × Nat × Nat × Nat × Nat := (yX9_image, cX9_image, 1, (some .int), 9, 0, false, 0, 1422, 1420, 1421)
abbrev pe_m190 : MethodName × ByteArray × Nat × Option FieldType × Nat × Nat × Bool × Nat × Nat × Nat × Nat := (yX9_restore, cX9_restore, 1, (some .int), 9, 0, false, 0, 1426, 1424, 1425)
abbrev pe_m191 : MethodName × ByteArray × Nat × Option FieldType × Nat × Nat × Bool × Nat × Nat × Nat × Nat := (yX9_program, cX9_program, 4, (some .int), 9, 0, false, 3, 1430, 1428, 1429)
abbrev pe_m192 : MethodName × ByteArray × Nat × Option FieldType × Nat × Nat × Bool × Nat × Nat × Nat × Nat := (yX9_comes, cX9_comes, 3, (some .int), 9, 0, false, 2, 1435, 1433, 1434)
abbrev pe_m193 : MethodName × ByteArray × Nat × Option FieldType × Nat × Nat × Bool × Nat × Nat × Nat × Nat := (yX9_faultMany, cX9_faultMany, 4, (some .int), 9, 0, false, 1, 1453, 1452, 80)
abbrev pe_m194 : MethodName × ByteArray × Nat × Option FieldType × Nat × Nat × Bool × Nat × Nat × Nat × Nat := (yX9_waits, cX9_waits, 2, (some .boolean), 9, 0, false, 1, 1448, 1447, 79)
abbrev pe_m195 : MethodName × ByteArray × Nat × Option FieldType × Nat × Nat × Bool × Nat × Nat × Nat × Nat := (yX9_ofOne, cX9_ofOne, 3, (some .int), 9, 0, false, 2, 1457, 1456, 81)
abbrev pe_m196 : MethodName × ByteArray × Nat × Option FieldType × Nat × Nat × Bool × Nat × Nat × Nat × Nat := (yX9_coroutine, cX9_coroutine, 3, (some .int), 9, 0, false, 2, 1443, 1441, 1442)
abbrev pe_m197 : MethodName × ByteArray × Nat × Option FieldType × Nat × Nat × Bool × Nat × Nat × Nat × Nat := (yX9_frame, cX9_frame, 5, (some .int), 9, 0, false, 3, 1461, 1459, 1460)
abbrev pe_m198 : MethodName × ByteArray × Nat × Option FieldType × Nat × Nat × Bool × Nat × Nat × Nat × Nat := (yX9_cause, cX9_cause, 5, (some .int), 9, 0, false, 2, 1465, 1463, 1464)
abbrev pe_m199 : MethodName × ByteArray × Nat × Option FieldType × Nat × Nat × Bool × Nat × Nat × Nat × Nat := (yX9_channel, cX9_channel, 5, (some .int), 9, 0, false, 3, 1469, 1467, 1468)
abbrev pe_m200 : MethodName × ByteArray × Nat × Option FieldType × Nat × Nat × Bool × Nat × Nat × Nat × Nat := (yX9_send, cX9_send, 3, (some .int), 9, 0, false, 2, 1474, 1472, 1473)
abbrev pe_m201 : MethodName × ByteArray × Nat × Option FieldType × Nat × Nat × Bool × Nat × Nat × Nat × Nat := (yX9_close, cX9_close, 2, (some .int), 9, 0, false, 1, 1479, 1477, 1478)
abbrev pe_m202 : MethodName × ByteArray × Nat × Option FieldType × Nat × Nat × Bool × Nat × Nat × Nat × Nat := (yX9_width, cX9_width, 3, (some .int), 9, 0, false, 1, 1483, 1481, 1482)
abbrev pe_m203 : MethodName × ByteArray × Nat × Option FieldType × Nat × Nat × Bool × Nat × Nat × Nat × Nat := (yX9_rounds, cX9_rounds, 2, (some .int), 9, 0, false, 1, 1487, 1485, 1486)
abbrev pe_m204 : MethodName × ByteArray × Nat × Option FieldType × Nat × Nat × Bool × Nat × Nat × Nat × Nat := (yX9_then, cX9_then, 5, (some .int), 9, 0, false, 3, 1498, 1496, 1497)
abbrev pe_m205 : MethodName × ByteArray × Nat × Option FieldType × Nat × Nat × Bool × Nat × Nat × Nat × Nat := (yX9_ends, cX9_ends, 4, (some .int), 9, 0, false, 1, 1502, 1500, 1501)
abbrev pe_m206 : MethodName × ByteArray × Nat × Option FieldType × Nat × Nat × Bool × Nat × Nat × Nat × Nat := (yX9_anyFree, cX9_anyFree, 3, (some .boolean), 9, 0, false, 0, 1510, 1509, 83)
abbrev pe_m207 : MethodName × ByteArray × Nat × Option FieldType × Nat × Nat × Bool × Nat × Nat × Nat × Nat := (yX9_stuck, cX9_stuck, 5, (some .int), 9, 0, false, 1, 1506, 1504, 1505)
abbrev pe_m208 : MethodName × ByteArray × Nat × Option FieldType × Nat × Nat × Bool × Nat × Nat × Nat × Nat := (yX9_leastWidth, cX9_leastWidth, 4, (some .int), 9, 0, false, 1, 1514, 1512, 1513)
abbrev pe_m209 : MethodName × ByteArray × Nat × Option FieldType × Nat × Nat × Bool × Nat × Nat × Nat × Nat := (yX9_doneBut, cX9_doneBut, 4, (some .int), 9, 0, false, 1, 1523, 1522, 84)
abbrev pe_m210 : MethodName × ByteArray × Nat × Option FieldType × Nat × Nat × Bool × Nat × Nat × Nat × Nat := (yX9_closeBest, cX9_closeBest, 7, (some .int), 9, 0, false, 1, 1518, 1516, 1517)
abbrev pe_m211 : MethodName × ByteArray × Nat × Option FieldType × Nat × Nat × Bool × Nat × Nat × Nat × Nat := (yX9_sendBest, cX9_sendBest, 6, (some .int), 9, 0, false, 2, 1527, 1525, 1526)
abbrev pe_m212 : MethodName × ByteArray × Nat × Option FieldType × Nat × Nat × Bool × Nat × Nat × Nat × Nat := (yX9_firstOut, cX9_firstOut, 4, (some .int), 9, 0, false, 0, 1531, 1529, 1530)
abbrev pe_m213 : MethodName × ByteArray × Nat × Option FieldType × Nat × Nat × Bool × Nat × Nat × Nat × Nat := (yX9_leastOf, cX9_leastOf, 1, (some .long), 9, 2, false, 1, 1546, 1545, 101)
abbrev pe_m214 : MethodName × ByteArray × Nat × Option FieldType × Nat × Nat × Bool × Nat × Nat × Nat × Nat := (yX9_isSkipped, cX9_isSkipped, 3, (some .boolean), 9, 0, false, 2, 1543, 1542, 86)
abbrev pe_m215 : MethodName × ByteArray × Nat × Option FieldType × Nat × Nat × Bool × Nat × Nat × Nat × Nat := (yX9_isYieldRow, cX9_isYieldRow, 6, (some .boolean), 9, 0, false, 2, 1539, 1538, 85)
abbrev pe_m216 : MethodName × ByteArray × Nat × Option FieldType × Nat × Nat × Bool × Nat × Nat × Nat × Nat := (yX9_whatProgram, cX9_whatProgram, 4, (some .int), 9, 0, false, 1, 1535, 1533, 1534)
abbrev pe_m217 : MethodName × ByteArray × Nat × Option FieldType × Nat × Nat × Bool × Nat × Nat × Nat × Nat := (yX9_layOuts, cX9_layOuts, 6, none, 9, 0, false, 3, 1558, 1557, 87)
abbrev pe_m218 : MethodName × ByteArray × Nat × Option FieldType × Nat × Nat × Bool × Nat × Nat × Nat × Nat := (yX9_alike, cX9_alike, 6, (some .int), 9, 0, false, 3, 1553, 1551, 1552)
abbrev pe_m219 : MethodName × ByteArray × Nat × Option FieldType × Nat × Nat × Bool × Nat × Nat × Nat × Nat := (yX9_gainOf, cX9_gainOf, 4, (some .int), 9, 0, false, 3, 1570, 1569, 89)
abbrev pe_m220 : MethodName × ByteArray × Nat × Option FieldType × Nat × Nat × Bool × Nat × Nat × Nat × Nat := (yX9_closesIf, cX9_closesIf, 3, none, 9, 0, false, 2, 1566, 1565, 88)
abbrev pe_m221 : MethodName × ByteArray × Nat × Option FieldType × Nat × Nat × Bool × Nat × Nat × Nat × Nat := (yX9_two, cX9_two, 7, (some .int), 9, 0, false, 3, 1562, 1560, 1561)
abbrev pe_m222 : MethodName × ByteArray × Nat × Option FieldType × Nat × Nat × Bool × Nat × Nat × Nat × Nat := (yX9_divisor, cX9_divisor, 10, (some .long), 9, 2, false, 2, 1581, 1580, 101)
abbrev pe_m223 : MethodName × ByteArray × Nat × Option FieldType × Nat × Nat × Bool × Nat × Nat × Nat × Nat := (yX9_partOf, cX9_partOf, 7, (some .long), 9, 2, false, 3, 1578, 1577, 101)
abbrev pe_m224 : MethodName × ByteArray × Nat × Option FieldType × Nat × Nat × Bool × Nat × Nat × Nat × Nat := (yX9_lost, cX9_lost, 13, (some .long), 9, 0, false, 4, 1574, 1572, 1573)
abbrev pe_m225 : MethodName × ByteArray × Nat × Option FieldType × Nat × Nat × Bool × Nat × Nat × Nat × Nat := (yX9_share, cX9_share, 2, (some .long), 9, 0, false, 1, 1585, 1583, 1584)
abbrev pe_m226 : MethodName × ByteArray × Nat × Option FieldType × Nat × Nat × Bool × Nat × Nat × Nat × Nat := (yX9_forged, cX9_forged, 4, (some .int), 9, 0, false, 1, 1589, 1587, 1588)
abbrev pe_m227 : MethodName × ByteArray × Nat × Option FieldType × Nat × Nat × Bool × Nat × Nat × Nat × Nat := (yX9_judge, cX9_judge, 5, (some .int), 9, 0, false, 1, 1593, 1591, 1592)
abbrev pe_m228 : MethodName × ByteArray × Nat × Option FieldType × Nat × Nat × Bool × Nat × Nat × Nat × Nat := (yX9_allOuts, cX9_allOuts, 3, (some .int), 9, 0, false, 0, 1601, 1600, 90)
abbrev pe_m229 : MethodName × ByteArray × Nat × Option FieldType × Nat × Nat × Bool × Nat × Nat × Nat × Nat := (yX9_drawBelow, cX9_drawBelow, 2, (some .int), 9, 0, false, 1, 1605, 1604, 91)
abbrev pe_m230 : MethodName × ByteArray × Nat × Option FieldType × Nat × Nat × Bool × Nat × Nat × Nat × Nat := (yX9_lots, cX9_lots, 10, (some .int), 9, 0, false, 3, 1597, 1595, 1596)
abbrev pe_m231 : MethodName × ByteArray × Nat × Option FieldType × Nat × Nat × Bool × Nat × Nat × Nat × Nat := (yX9_waitingBits, cX9_waitingBits, 3, (some .int), 9, 0, false, 0, 1616, 1615, 92)
abbrev pe_m232 : MethodName × ByteArray × Nat × Option FieldType × Nat × Nat × Bool × Nat × Nat × Nat × Nat := (yX9_count, cX9_count, 2, (some .int), 9, 0, false, 1, 1612, 1610, 1611)
abbrev pe_m233 : MethodName × ByteArray × Nat × Option FieldType × Nat × Nat × Bool × Nat × Nat × Nat × Nat := (yX9_wrongKept, cX9_wrongKept, 2, (some .int), 9, 0, false, 1, 1439, 1438, 78)
abbrev pe_m234 : MethodName × ByteArray × Nat × Option FieldType × Nat × Nat × Bool × Nat × Nat × Nat × Nat := (yX9_keep, cX9_keep, 5, (some .int), 9, 0, false, 4, 1620, 1618, 1619)
abbrev pe_m235 : MethodName × ByteArray × Nat × Option FieldType × Nat × Nat × Bool × Nat × Nat × Nat × Nat := (yX9_wrongRow, cX9_wrongRow, 2, (some .int), 9, 0, false, 1, 1208, 1207, 30)
abbrev pe_m236 : MethodName × ByteArray × Nat × Option FieldType × Nat × Nat × Bool × Nat × Nat × Nat × Nat := (yX9_narrowed, cX9_narrowed, 2, (some .long), 9, 2, false, 2, 1632, 1631, 101)
abbrev pe_m237 : MethodName × ByteArray × Nat × Option FieldType × Nat × Nat × Bool × Nat × Nat × Nat × Nat := (yX9_row, cX9_row, 5, (some .int), 9, 0, false, 3, 1625, 1623, 1624)
abbrev pe_m238 : MethodName × ByteArray × Nat × Option FieldType × Nat × Nat × Bool × Nat × Nat × Nat × Nat := (yX9_put, cX9_put, 5, (some .int), 9, 0, false, 3, 1629, 1627, 1628)
abbrev pe_m239 : MethodName × ByteArray × Nat × Option FieldType × Nat × Nat × Bool × Nat × Nat × Nat × Nat := (yX9_element, cX9_element, 4, (some .long), 9, 0, false, 2, 1636, 1634, 1635)
abbrev pe_m240 : MethodName × ByteArray × Nat × Option FieldType × Nat × Nat × Bool × Nat × Nat × Nat × Nat := (yX9_copy, cX9_copy, 7, (some .int), 9, 0, false, 5, 1640, 1638, 1639)
abbrev pe_m241 : MethodName × ByteArray × Nat × Option FieldType × Nat × Nat × Bool × Nat × Nat × Nat × Nat := (yX9_costOf, cX9_costOf, 2, (some .int), 9, 2, false, 2, 1647, 1646, 101)
abbrev pe_m242 : MethodName × ByteArray × Nat × Option FieldType × Nat × Nat × Bool × Nat × Nat × Nat × Nat := (yX9_cost, cX9_cost, 2, (some .int), 9, 0, false, 1, 1644, 1642, 1643)
abbrev pe_m243 : MethodName × ByteArray × Nat × Option FieldType × Nat × Nat × Bool × Nat × Nat × Nat × Nat := (yX9_toss, cX9_toss, 4, (some .int), 9, 0, false, 1, 1651, 1649, 1650)
abbrev pe_m244 : MethodName × ByteArray × Nat × Option FieldType × Nat × Nat × Bool × Nat × Nat × Nat × Nat := (yL_law, cL_law, 8, some .boolean, 10, 2, false, 1, 0, 0, 0)
abbrev pe_m245 : MethodName × ByteArray × Nat × Option FieldType × Nat × Nat × Bool × Nat × Nat × Nat × Nat := (yJ6_bitCount_0f7a4, cJ6_bitCount_0f7a4, 1, (some .int), 11, 2, false, 1, 711, 710, 106)
abbrev pe_m246 : MethodName × ByteArray × Nat × Option FieldType × Nat × Nat × Bool × Nat × Nat × Nat × Nat := (yJ7_copyOf_59c91, cJ7_copyOf_59c91, 3, (some (.array .int)), 13, 2, false, 2, 462, 461, 104)
/-- a method by its number: name, code, locals, what it answers, its class, 0 virtual 1 <init> 2 static, is it <init>, how many arguments, places: its code, instance or static, selects (virtual) or initialized -/
def pe_me (i : Nat) : MethodName × ByteArray × Nat × Option FieldType × Nat × Nat × Bool × Nat × Nat × Nat × Nat := match i with
  | 0 => pe_m0
  | 1 => pe_m1
  | 2 => pe_m2
  | 3 => pe_m3
  | 4 => pe_m4
  | 5 => pe_m5
  | 6 => pe_m6
  | 7 => pe_m7
  | 8 => pe_m8
  | 9 => pe_m9
  | 10 => pe_m10
  | 11 => pe_m11
  | 12 => pe_m12
  | 13 => pe_m13
  | 14 => pe_m14
  | 15 => pe_m15
  | 16 => pe_m16
  | 17 => pe_m17
  | 18 => pe_m18
  | 19 => pe_m19
  | 20 => pe_m20
  | 21 => pe_m21
  | 22 => pe_m22
  | 23 => pe_m23
  | 24 => pe_m24
  | 25 => pe_m25
  | 26 => pe_m26
  | 27 => pe_m27
  | 28 => pe_m28
  | 29 => pe_m29
  | 30 => pe_m30
  | 31 => pe_m31
  | 32 => pe_m32
  | 33 => pe_m33
  | 34 => pe_m34
  | 35 => pe_m35
  | 36 => pe_m36
  | 37 => pe_m37
  | 38 => pe_m38
  | 39 => pe_m39
  | 40 => pe_m40
  | 41 => pe_m41
  | 42 => pe_m42
  | 43 => pe_m43
  | 44 => pe_m44
  | 45 => pe_m45
  | 46 => pe_m46
  | 47 => pe_m47
  | 48 => pe_m48
  | 49 => pe_m49
  | 50 => pe_m50
  | 51 => pe_m51
  | 52 => pe_m52
  | 53 => pe_m53
  | 54 => pe_m54
  | 55 => pe_m55
  | 56 => pe_m56
  | 57 => pe_m57
  | 58 => pe_m58
  | 59 => pe_m59
  | 60 => pe_m60
  | 61 => pe_m61
  | 62 => pe_m62
  | 63 => pe_m63
  | 64 => pe_m64
  | 65 => pe_m65
  | 66 => pe_m66
  | 67 => pe_m67
  | 68 => pe_m68
  | 69 => pe_m69
  | 70 => pe_m70
  | 71 => pe_m71
  | 72 => pe_m72
  | 73 => pe_m73
  | 74 => pe_m74
  | 75 => pe_m75
  | 76 => pe_m76
  | 77 => pe_m77
  | 78 => pe_m78
  | 79 => pe_m79
  | 80 => pe_m80
  | 81 => pe_m81
  | 82 => pe_m82
  | 83 => pe_m83
  | 84 => pe_m84
  | 85 => pe_m85
  | 86 => pe_m86
  | 87 => pe_m87
  | 88 => pe_m88
  | 89 => pe_m89
  | 90 => pe_m90
  | 91 => pe_m91
  | 92 => pe_m92
  | 93 => pe_m93
  | 94 => pe_m94
  | 95 => pe_m95
  | 96 => pe_m96
  | 97 => pe_m97
  | 98 => pe_m98
  | 99 => pe_m99
  | 100 => pe_m100
  | 101 => pe_m101
  | 102 => pe_m102
  | 103 => pe_m103
  | 104 => pe_m104
  | 105 => pe_m105
  | 106 => pe_m106
  | 107 => pe_m107
  | 108 => pe_m108
  | 109 => pe_m109
  | 110 => pe_m110
  | 111 => pe_m111
  | 112 => pe_m112
  | 113 => pe_m113
  | 114 => pe_m114
  | 115 => pe_m115
  | 116 => pe_m116
  | 117 => pe_m117
  | 118 => pe_m118
  | 119 => pe_m119
  | 120 => pe_m120
  | 121 => pe_m121
  | 122 => pe_m122
  | 123 => pe_m123
  | 124 => pe_m124
  | 125 => pe_m125
  | 126 => pe_m126
  | 127 => pe_m127
  | 128 => pe_m128
  | 129 => pe_m129
  | 130 => pe_m130
  | 131 => pe_m131
  | 132 => pe_m132
  | 133 => pe_m133
  | 134 => pe_m134
  | 135 => pe_m135
  | 136 => pe_m136
  | 137 => pe_m137
  | 138 => pe_m138
  | 139 => pe_m139
  | 140 => pe_m140
  | 141 => pe_m141
  | 142 => pe_m142
  | 143 => pe_m143
  | 144 => pe_m144
  | 145 => pe_m145
  | 146 => pe_m146
  | 147 => pe_m147
  | 148 => pe_m148
  | 149 => pe_m149
  | 150 => pe_m150
  | 151 => pe_m151
  | 152 => pe_m152
  | 153 => pe_m153
  | 154 => pe_m154
  | 155 => pe_m155
  | 156 => pe_m156
  | 157 => pe_m157
  | 158 => pe_m158
  | 159 => pe_m159
  | 160 => pe_m160
  | 161 => pe_m161
  | 162 => pe_m162
  | 163 => pe_m163
  | 164 => pe_m164
  | 165 => pe_m165
  | 166 => pe_m166
  | 167 => pe_m167
  | 168 => pe_m168
  | 169 => pe_m169
  | 170 => pe_m170
  | 171 => pe_m171
  | 172 => pe_m172
  | 173 => pe_m173
  | 174 => pe_m174
  | 175 => pe_m175
  | 176 => pe_m176
  | 177 => pe_m177
  | 178 => pe_m178
  | 179 => pe_m179
  | 180 => pe_m180
  | 181 => pe_m181
  | 182 => pe_m182
  | 183 => pe_m183
  | 184 => pe_m184
  | 185 => pe_m185
  | 186 => pe_m186
  | 187 => pe_m187
  | 188 => pe_m188
  | 189 => pe_m189
  | 190 => pe_m190
  | 191 => pe_m191
  | 192 => pe_m192
  | 193 => pe_m193
  | 194 => pe_m194
  | 195 => pe_m195
  | 196 => pe_m196
  | 197 => pe_m197
  | 198 => pe_m198
  | 199 => pe_m199
  | 200 => pe_m200
  | 201 => pe_m201
  | 202 => pe_m202
  | 203 => pe_m203
  | 204 => pe_m204
  | 205 => pe_m205
  | 206 => pe_m206
  | 207 => pe_m207
  | 208 => pe_m208
  | 209 => pe_m209
  | 210 => pe_m210
  | 211 => pe_m211
  | 212 => pe_m212
  | 213 => pe_m213
  | 214 => pe_m214
  | 215 => pe_m215
  | 216 => pe_m216
  | 217 => pe_m217
  | 218 => pe_m218
  | 219 => pe_m219
  | 220 => pe_m220
  | 221 => pe_m221
  | 222 => pe_m222
  | 223 => pe_m223
  | 224 => pe_m224
  | 225 => pe_m225
  | 226 => pe_m226
  | 227 => pe_m227
  | 228 => pe_m228
  | 229 => pe_m229
  | 230 => pe_m230
  | 231 => pe_m231
  | 232 => pe_m232
  | 233 => pe_m233
  | 234 => pe_m234
  | 235 => pe_m235
  | 236 => pe_m236
  | 237 => pe_m237
  | 238 => pe_m238
  | 239 => pe_m239
  | 240 => pe_m240
  | 241 => pe_m241
  | 242 => pe_m242
  | 243 => pe_m243
  | 244 => pe_m244
  | 245 => pe_m245
  | _ => pe_m246
def pe_mn : Nat := 247
def pe_ip : List Nat := [97, 98, 95, 100, 96, 99, 107, 102, 94, 101, 93, 106, 105, 104]
def pe_i0 : List (Nat × Nat × Nat) := [(50, 12, 489), (54, 13, 432), (58, 44, 509)]
def pe_i1 : List (Nat × Nat × Nat) := []
def pe_i2 : List (Nat × Nat × Nat) := [(61, 48, 134), (64, 0, 149), (66, 2, 428), (70, 53, 436), (79, 3, 582), (86, 4, 610), (95, 1, 485), (99, 5, 505), (103, 31, 513), (107, 55, 562), (110, 8, 566), (113, 10, 525), (116, 37, 590), (120, 28, 723), (123, 30, 606), (136, 6, 616), (143, 42, 611), (164, 49, 517), (167, 38, 521), (170, 50, 533), (174, 51, 537), (184, 39, 541), (187, 40, 529), (191, 32, 545), (195, 43, 549), (202, 33, 553), (205, 34, 558), (209, 35, 578), (212, 36, 586), (216, 7, 574), (219, 12, 557), (228, 54, 570)]
def pe_i3 : List (Nat × Nat × Nat) := [(25, 45, 986)]
def pe_i4 : List (Nat × Nat × Nat) := []
def pe_i5 : List (Nat × Nat × Nat) := []
def pe_i6 : List (Nat × Nat × Nat) := [(19, 58, 399)]
def pe_i7 : List (Nat × Nat × Nat) := [(19, 57, 387), (25, 66, 391), (29, 65, 410), (32, 60, 395), (35, 68, 403), (38, 67, 416), (42, 69, 407), (46, 70, 413), (49, 72, 447), (52, 75, 451), (56, 77, 475), (69, 4, 493), (75, 73, 497), (78, 25, 501), (82, 3, 593), (85, 26, 594), (92, 78, 598), (95, 76, 455), (105, 246, 460), (111, 48, 474), (116, 41, 480), (118, 24, 481), (125, 28, 602)]
def pe_i8 : List (Nat × Nat × Nat) := [(9, 14, 123), (35, 41, 321), (50, 119, 363), (59, 63, 372), (62, 64, 383), (66, 122, 420), (70, 74, 443), (74, 71, 620), (77, 15, 424), (81, 116, 628), (89, 49, 631), (94, 50, 632), (97, 51, 633), (100, 120, 638), (103, 24, 642), (107, 117, 647), (126, 42, 651), (135, 23, 652), (138, 9, 656), (161, 121, 664), (167, 22, 676), (170, 21, 668), (189, 4, 688), (193, 25, 689), (199, 3, 694), (202, 26, 695), (212, 28, 704), (215, 17, 705), (218, 245, 709), (223, 27, 719), (226, 19, 732), (229, 16, 736), (232, 18, 748), (236, 123, 752), (246, 124, 768), (250, 125, 787), (254, 126, 790), (260, 127, 798), (264, 128, 801), (268, 129, 808), (272, 57, 777), (274, 60, 778), (277, 62, 772), (280, 130, 827), (283, 20, 838), (286, 115, 367), (289, 56, 863), (290, 58, 880), (293, 61, 881), (309, 118, 889), (312, 59, 893), (325, 45, 902), (328, 46, 911), (331, 47, 982), (337, 29, 804), (340, 131, 831)]
def pe_i9 : List (Nat × Nat × Nat) := [(147, 134, 1210), (151, 139, 1366), (158, 145, 1299), (162, 147, 1311), (165, 149, 1307), (169, 150, 1315), (173, 154, 1350), (176, 148, 1323), (180, 153, 1346), (183, 152, 1354), (187, 138, 1279), (190, 157, 1370), (193, 146, 1271), (196, 143, 1335), (199, 137, 1339), (205, 162, 1331), (208, 155, 1342), (211, 156, 1358), (214, 158, 1362), (217, 161, 1374), (220, 151, 1303), (223, 160, 1238), (226, 163, 1319), (230, 164, 1327), (233, 159, 1378), (236, 144, 1291), (239, 165, 1295), (243, 142, 1411), (249, 140, 1283), (252, 135, 1404), (256, 168, 1407), (259, 169, 1400), (277, 172, 1217), (288, 174, 1235), (291, 173, 1225), (294, 175, 1231), (300, 176, 1221), (303, 166, 1287), (306, 167, 1386), (311, 170, 1396), (314, 178, 1261), (318, 171, 1265), (321, 179, 1275), (324, 180, 1382), (329, 181, 1391), (332, 235, 1205), (335, 177, 1213), (338, 187, 1241), (341, 182, 1257), (344, 188, 1415), (356, 184, 1249), (359, 185, 1253), (362, 186, 1245), (371, 233, 1436), (378, 194, 1445), (381, 193, 1450), (384, 195, 1454), (391, 141, 1488), (394, 136, 1492), (397, 206, 1507), (403, 209, 1520), (412, 213, 1544), (416, 214, 1540), (419, 215, 1536), (424, 217, 1555), (427, 220, 1563), (430, 219, 1567), (434, 222, 1579), (442, 223, 1576), (452, 228, 1598), (455, 229, 1602), (458, 231, 1613), (463, 236, 1630), (467, 241, 1645)]
def pe_i10 : List (Nat × Nat × Nat) := [(7, 112, 992), (17, 79, 115), (20, 132, 1017), (21, 80, 359), (25, 183, 1201), (26, 81, 624), (30, 191, 1427), (31, 82, 634), (35, 192, 1432), (36, 83, 643), (39, 196, 1440), (40, 84, 660), (43, 197, 1458), (44, 85, 672), (47, 198, 1462), (48, 86, 680), (51, 199, 1466), (52, 87, 684), (55, 200, 1471), (56, 88, 690), (59, 201, 1476), (60, 89, 696), (63, 202, 1480), (64, 90, 700), (67, 203, 1484), (68, 91, 715), (71, 204, 1495), (72, 92, 724), (75, 205, 1499), (76, 93, 728), (79, 207, 1503), (80, 94, 740), (83, 208, 1511), (84, 95, 744), (87, 210, 1515), (88, 96, 756), (91, 211, 1524), (92, 97, 760), (96, 212, 1528), (97, 98, 764), (100, 216, 1532), (101, 99, 779), (104, 218, 1550), (105, 100, 783), (108, 221, 1559), (109, 101, 793), (113, 224, 1571), (114, 102, 811), (118, 225, 1582), (119, 103, 815), (122, 226, 1586), (123, 104, 819), (126, 227, 1590), (127, 105, 823), (130, 230, 1594), (131, 106, 842), (134, 189, 1419), (135, 107, 846), (138, 190, 1423), (139, 108, 850), (142, 232, 1609), (143, 109, 854), (147, 234, 1617), (148, 110, 858), (151, 237, 1622), (152, 111, 876), (155, 238, 1626), (161, 239, 1633), (162, 133, 1197), (165, 113, 885), (169, 240, 1637), (170, 114, 898), (173, 242, 1641), (177, 243, 1648)]
def pe_i11 : List (Nat × Nat × Nat) := []
def pe_i12 : List (Nat × Nat × Nat) := []
def pe_i13 : List (Nat × Nat × Nat) := []
def pe_iT (o : Nat) : List (Nat × Nat × Nat) := match o with
  | 0 => pe_i0
  | 1 => pe_i1
  | 2 => pe_i2
  | 3 => pe_i3
  | 4 => pe_i4
  | 5 => pe_i5
  | 6 => pe_i6
  | 7 => pe_i7
  | 8 => pe_i8
  | 9 => pe_i9
  | 10 => pe_i10
  | 11 => pe_i11
  | 12 => pe_i12
  | _ => pe_i13
def pe_j0 : List (Nat × Nat × Nat) := [(17, 11, 156)]
def pe_j1 : List (Nat × Nat × Nat) := []
def pe_j2 : List (Nat × Nat × Nat) := [(65, 52, 247)]
def pe_j3 : List (Nat × Nat × Nat) := []
def pe_j4 : List (Nat × Nat × Nat) := []
def pe_j5 : List (Nat × Nat × Nat) := []
def pe_j6 : List (Nat × Nat × Nat) := []
def pe_j7 : List (Nat × Nat × Nat) := []
def pe_j8 : List (Nat × Nat × Nat) := []
def pe_j9 : List (Nat × Nat × Nat) := []
def pe_j10 : List (Nat × Nat × Nat) := []
def pe_j11 : List (Nat × Nat × Nat) := []
def pe_j12 : List (Nat × Nat × Nat) := []
def pe_j13 : List (Nat × Nat × Nat) := []
def pe_jT (o : Nat) : List (Nat × Nat × Nat) := match o with
  | 0 => pe_j0
  | 1 => pe_j1
  | 2 => pe_j2
  | 3 => pe_j3
  | 4 => pe_j4
  | 5 => pe_j5
  | 6 => pe_j6
  | 7 => pe_j7
  | 8 => pe_j8
  | 9 => pe_j9
  | 10 => pe_j10
  | 11 => pe_j11
  | 12 => pe_j12
  | _ => pe_j13
def pe_a0 : List (Nat × Nat) := []
def pe_a1 : List (Nat × Nat) := []
def pe_a2 : List (Nat × Nat) := [(73, 440)]
def pe_a3 : List (Nat × Nat) := []
def pe_a4 : List (Nat × Nat) := []
def pe_a5 : List (Nat × Nat) := []
def pe_a6 : List (Nat × Nat) := []
def pe_a7 : List (Nat × Nat) := []
def pe_a8 : List (Nat × Nat) := [(319, 897)]
def pe_a9 : List (Nat × Nat) := []
def pe_a10 : List (Nat × Nat) := []
def pe_a11 : List (Nat × Nat) := []
def pe_a12 : List (Nat × Nat) := []
def pe_a13 : List (Nat × Nat) := [(150, 473)]
def pe_aT (o : Nat) : List (Nat × Nat) := match o with
  | 0 => pe_a0
  | 1 => pe_a1
  | 2 => pe_a2
  | 3 => pe_a3
  | 4 => pe_a4
  | 5 => pe_a5
  | 6 => pe_a6
  | 7 => pe_a7
  | 8 => pe_a8
  | 9 => pe_a9
  | 10 => pe_a10
  | 11 => pe_a11
  | 12 => pe_a12
  | _ => pe_a13
def pe_b0 : List (Nat × Nat) := []
def pe_b1 : List (Nat × Nat) := []
def pe_b2 : List (Nat × Nat) := [(127, 615)]
def pe_b3 : List (Nat × Nat) := []
def pe_b4 : List (Nat × Nat) := []
def pe_b5 : List (Nat × Nat) := []
def pe_b6 : List (Nat × Nat) := []
def pe_b7 : List (Nat × Nat) := []
def pe_b8 : List (Nat × Nat) := []
def pe_b9 : List (Nat × Nat) := []
def pe_b10 : List (Nat × Nat) := []
def pe_b11 : List (Nat × Nat) := []
def pe_b12 : List (Nat × Nat) := []
def pe_b13 : List (Nat × Nat) := [(304, 470)]
def pe_bT (o : Nat) : List (Nat × Nat) := match o with
  | 0 => pe_b0
  | 1 => pe_b1
  | 2 => pe_b2
  | 3 => pe_b3
  | 4 => pe_b4
  | 5 => pe_b5
  | 6 => pe_b6
  | 7 => pe_b7
  | 8 => pe_b8
  | 9 => pe_b9
  | 10 => pe_b10
  | 11 => pe_b11
  | 12 => pe_b12
  | _ => pe_b13
def pe_ml : Nat := 244
def pe_o0 : List (Nat × Nat) := [(3, 152)]
def pe_c0 : List (Nat × Nat × Nat) := [(9, 1, 153)]
def pe_k0 : List (Nat × Int × Nat) := []
def pe_l0 : List (Nat × Int × Nat) := []
def pe_o1 : List (Nat × Nat) := [(3, 159)]
def pe_c1 : List (Nat × Nat × Nat) := []
def pe_k1 : List (Nat × Int × Nat) := []
def pe_l1 : List (Nat × Int × Nat) := []
def pe_o2 : List (Nat × Nat) := [(3, 126)]
def pe_c2 : List (Nat × Nat × Nat) := [(9, 4, 127), (17, 0, 129), (23, 5, 131)]
def pe_k2 : List (Nat × Int × Nat) := []
def pe_l2 : List (Nat × Int × Nat) := []
def pe_o3 : List (Nat × Nat) := [(3, 324)]
def pe_c3 : List (Nat × Nat × Nat) := []
def pe_k3 : List (Nat × Int × Nat) := []
def pe_l3 : List (Nat × Int × Nat) := []
def pe_o4 : List (Nat × Nat) := [(1, 137)]
def pe_c4 : List (Nat × Nat × Nat) := []
def pe_k4 : List (Nat × Int × Nat) := []
def pe_l4 : List (Nat × Int × Nat) := []
def pe_o5 : List (Nat × Nat) := [(3, 250)]
def pe_c5 : List (Nat × Nat × Nat) := []
def pe_k5 : List (Nat × Int × Nat) := []
def pe_l5 : List (Nat × Int × Nat) := []
def pe_o6 : List (Nat × Nat) := [(3, 866)]
def pe_c6 : List (Nat × Nat × Nat) := []
def pe_k6 : List (Nat × Int × Nat) := [(23, -2147483648, 776)]
def pe_l6 : List (Nat × Int × Nat) := []
def pe_o7 : List (Nat × Nat) := [(3, 375)]
def pe_c7 : List (Nat × Nat × Nat) := [(103, 4, 459), (114, 3, 479)]
def pe_k7 : List (Nat × Int × Nat) := []
def pe_l7 : List (Nat × Int × Nat) := []
def pe_o8 : List (Nat × Nat) := [(1, 118)]
def pe_c8 : List (Nat × Nat × Nat) := [(7, 2, 121), (23, 3, 316), (29, 6, 318), (57, 7, 370)]
def pe_k8 : List (Nat × Int × Nat) := [(343, 1103515245, 835), (344, 2147483647, 836), (345, 65536, 837)]
def pe_l8 : List (Nat × Int × Nat) := [(258, 1000000001, 797)]
def pe_o9 : List (Nat × Nat) := [(1, 1020)]
def pe_c9 : List (Nat × Nat × Nat) := []
def pe_k9 : List (Nat × Int × Nat) := [(449, 1103515245, 1606), (450, 2147483647, 1607), (451, 65536, 1608)]
def pe_l9 : List (Nat × Int × Nat) := [(263, 4, 1269), (265, 5, 1270), (281, 48, 1229), (283, 57, 1230), (309, 60, 1395), (327, 8, 1390), (369, -1, 1431), (374, 3, 1449), (376, 11, 1444), (387, 2, 1470), (389, 999, 1475), (401, 40, 1519), (406, -128, 1547), (408, -32768, 1548), (410, -2147483648, 1549), (422, 20, 1554), (438, 7, 1209), (440, 1000000001, 1575), (461, 9, 1621)]
def pe_o10 : List (Nat × Nat) := []
def pe_c10 : List (Nat × Nat × Nat) := [(8, 8, 113), (18, 9, 1015)]
def pe_k10 : List (Nat × Int × Nat) := []
def pe_l10 : List (Nat × Int × Nat) := []
def pe_o11 : List (Nat × Nat) := []
def pe_c11 : List (Nat × Nat × Nat) := []
def pe_k11 : List (Nat × Int × Nat) := [(265, 1431655765, 712), (266, 858993459, 713), (267, 252645135, 714)]
def pe_l11 : List (Nat × Int × Nat) := []
def pe_o12 : List (Nat × Nat) := []
def pe_c12 : List (Nat × Nat × Nat) := []
def pe_k12 : List (Nat × Int × Nat) := []
def pe_l12 : List (Nat × Int × Nat) := []
def pe_o13 : List (Nat × Nat) := []
def pe_c13 : List (Nat × Nat × Nat) := []
def pe_k13 : List (Nat × Int × Nat) := []
def pe_l13 : List (Nat × Int × Nat) := []
def pe_oT (o : Nat) : List (Nat × Nat) := match o with
  | 0 => pe_o0
  | 1 => pe_o1
  | 2 => pe_o2
  | 3 => pe_o3
  | 4 => pe_o4
  | 5 => pe_o5
  | 6 => pe_o6
  | 7 => pe_o7
  | 8 => pe_o8
  | 9 => pe_o9
  | 10 => pe_o10
  | 11 => pe_o11
  | 12 => pe_o12
  | _ => pe_o13
def pe_cT (o : Nat) : List (Nat × Nat × Nat) := match o with
  | 0 => pe_c0
  | 1 => pe_c1
  | 2 => pe_c2
  | 3 => pe_c3
  | 4 => pe_c4
  | 5 => pe_c5
  | 6 => pe_c6
  | 7 => pe_c7
  | 8 => pe_c8
  | 9 => pe_c9
  | 10 => pe_c10
  | 11 => pe_c11
  | 12 => pe_c12
  | _ => pe_c13
def pe_kT (o : Nat) : List (Nat × Int × Nat) := match o with
  | 0 => pe_k0
  | 1 => pe_k1
  | 2 => pe_k2
  | 3 => pe_k3
  | 4 => pe_k4
  | 5 => pe_k5
  | 6 => pe_k6
  | 7 => pe_k7
  | 8 => pe_k8
  | 9 => pe_k9
  | 10 => pe_k10
  | 11 => pe_k11
  | 12 => pe_k12
  | _ => pe_k13
def pe_lT (o : Nat) : List (Nat × Int × Nat) := match o with
  | 0 => pe_l0
  | 1 => pe_l1
  | 2 => pe_l2
  | 3 => pe_l3
  | 4 => pe_l4
  | 5 => pe_l5
  | 6 => pe_l6
  | 7 => pe_l7
  | 8 => pe_l8
  | 9 => pe_l9
  | 10 => pe_l10
  | 11 => pe_l11
  | 12 => pe_l12
  | _ => pe_l13
def pe_go {α : Type} (l : List (Nat × α)) (i : Nat) : Option α := match l with
  | [] => none
  | (a, b) :: l => if Nat.beq a i then some b else pe_go l i
theorem pe_go_mem {α : Type} : ∀ (l : List (Nat × α)) (i : Nat) (x : α), pe_go l i = some x → (i, x) ∈ l
  | [], _, _, h => by simp [pe_go] at h
  | (a, b) :: l, i, x, h => by
    unfold pe_go at h
    split at h
    · rename_i he
      rw [Nat.eq_of_beq_eq_true he]
      cases h
      exact List.mem_cons_self
    · exact List.mem_cons_of_mem _ (pe_go_mem l i x h)
theorem pe_f0_ok : ∀ q ∈ pe_f0, lw_tbl[q.2.2.2]? = some (.fieldLink (pe_rn 0) q.1 ((pe_cl q.2.1).2.1 q.2.2.1).1 ((pe_cl q.2.1).2.1 q.2.2.1).2.1 ((pe_cl q.2.1).2.1 q.2.2.1).2.2.1) ∧ q.2.1 < 10 ∧ q.2.2.1 < (pe_cl q.2.1).2.2 := by decide +kernel
theorem pe_i0_ok : ∀ q ∈ pe_i0, lw_tbl[q.2.2]? = some (.methodLink (pe_rn 0) q.1 (pe_me q.2.1).1) ∧ q.2.1 < pe_mn := by decide +kernel
theorem pe_j0_ok : ∀ q ∈ pe_j0, lw_tbl[q.2.2]? = some (.methodLinkNest (pe_rn 0) q.1 (pe_me q.2.1).1 "StepMachines") ∧ q.2.1 < pe_mn := by decide +kernel
theorem pe_a0_ok : ∀ q ∈ pe_a0, lw_tbl[q.2]? = some (.methodLink (pe_rn 0) q.1 arraycopyName) := by decide +kernel
theorem pe_b0_ok : ∀ q ∈ pe_b0, lw_tbl[q.2]? = some (.methodLink (pe_rn 0) q.1 Lib.Math.min.name) := by decide +kernel
theorem pe_o0_ok : ∀ q ∈ pe_o0, lw_tbl[q.2]? = some (.methodLink (pe_rn 0) q.1 objectInit) := by decide +kernel
theorem pe_c0_ok : ∀ q ∈ pe_c0, lw_tbl[q.2.2]? = some (.classLink (pe_rn 0) q.1 (pe_cl q.2.1).1) ∧ q.2.1 < 10 := by decide +kernel
theorem pe_k0_ok : ∀ q ∈ pe_k0, lw_tbl[q.2.2]? = some (.constant (pe_rn 0) q.1 (Int32.ofInt q.2.1)) := by decide +kernel
theorem pe_l0_ok : ∀ q ∈ pe_l0, lw_tbl[q.2.2]? = some (.constantLong (pe_rn 0) q.1 (Int64.ofInt q.2.1)) := by decide +kernel
theorem pe_f1_ok : ∀ q ∈ pe_f1, lw_tbl[q.2.2.2]? = some (.fieldLink (pe_rn 1) q.1 ((pe_cl q.2.1).2.1 q.2.2.1).1 ((pe_cl q.2.1).2.1 q.2.2.1).2.1 ((pe_cl q.2.1).2.1 q.2.2.1).2.2.1) ∧ q.2.1 < 10 ∧ q.2.2.1 < (pe_cl q.2.1).2.2 := by decide +kernel
theorem pe_i1_ok : ∀ q ∈ pe_i1, lw_tbl[q.2.2]? = some (.methodLink (pe_rn 1) q.1 (pe_me q.2.1).1) ∧ q.2.1 < pe_mn := by decide +kernel
theorem pe_j1_ok : ∀ q ∈ pe_j1, lw_tbl[q.2.2]? = some (.methodLinkNest (pe_rn 1) q.1 (pe_me q.2.1).1 "StepMachines") ∧ q.2.1 < pe_mn := by decide +kernel
theorem pe_a1_ok : ∀ q ∈ pe_a1, lw_tbl[q.2]? = some (.methodLink (pe_rn 1) q.1 arraycopyName) := by decide +kernel
theorem pe_b1_ok : ∀ q ∈ pe_b1, lw_tbl[q.2]? = some (.methodLink (pe_rn 1) q.1 Lib.Math.min.name) := by decide +kernel
theorem pe_o1_ok : ∀ q ∈ pe_o1, lw_tbl[q.2]? = some (.methodLink (pe_rn 1) q.1 objectInit) := by decide +kernel
theorem pe_c1_ok : ∀ q ∈ pe_c1, lw_tbl[q.2.2]? = some (.classLink (pe_rn 1) q.1 (pe_cl q.2.1).1) ∧ q.2.1 < 10 := by decide +kernel
theorem pe_k1_ok : ∀ q ∈ pe_k1, lw_tbl[q.2.2]? = some (.constant (pe_rn 1) q.1 (Int32.ofInt q.2.1)) := by decide +kernel
theorem pe_l1_ok : ∀ q ∈ pe_l1, lw_tbl[q.2.2]? = some (.constantLong (pe_rn 1) q.1 (Int64.ofInt q.2.1)) := by decide +kernel
theorem pe_f2_ok : ∀ q ∈ pe_f2, lw_tbl[q.2.2.2]? = some (.fieldLink (pe_rn 2) q.1 ((pe_cl q.2.1).2.1 q.2.2.1).1 ((pe_cl q.2.1).2.1 q.2.2.1).2.1 ((pe_cl q.2.1).2.1 q.2.2.1).2.2.1) ∧ q.2.1 < 10 ∧ q.2.2.1 < (pe_cl q.2.1).2.2 := by decide +kernel
theorem pe_i2_ok : ∀ q ∈ pe_i2, lw_tbl[q.2.2]? = some (.methodLink (pe_rn 2) q.1 (pe_me q.2.1).1) ∧ q.2.1 < pe_mn := by decide +kernel
theorem pe_j2_ok : ∀ q ∈ pe_j2, lw_tbl[q.2.2]? = some (.methodLinkNest (pe_rn 2) q.1 (pe_me q.2.1).1 "StepMachines") ∧ q.2.1 < pe_mn := by decide +kernel
theorem pe_a2_ok : ∀ q ∈ pe_a2, lw_tbl[q.2]? = some (.methodLink (pe_rn 2) q.1 arraycopyName) := by decide +kernel
theorem pe_b2_ok : ∀ q ∈ pe_b2, lw_tbl[q.2]? = some (.methodLink (pe_rn 2) q.1 Lib.Math.min.name) := by decide +kernel
theorem pe_o2_ok : ∀ q ∈ pe_o2, lw_tbl[q.2]? = some (.methodLink (pe_rn 2) q.1 objectInit) := by decide +kernel
theorem pe_c2_ok : ∀ q ∈ pe_c2, lw_tbl[q.2.2]? = some (.classLink (pe_rn 2) q.1 (pe_cl q.2.1).1) ∧ q.2.1 < 10 := by decide +kernel
theorem pe_k2_ok : ∀ q ∈ pe_k2, lw_tbl[q.2.2]? = some (.constant (pe_rn 2) q.1 (Int32.ofInt q.2.1)) := by decide +kernel
theorem pe_l2_ok : ∀ q ∈ pe_l2, lw_tbl[q.2.2]? = some (.constantLong (pe_rn 2) q.1 (Int64.ofInt q.2.1)) := by decide +kernel
theorem pe_f3_ok : ∀ q ∈ pe_f3, lw_tbl[q.2.2.2]? = some (.fieldLink (pe_rn 3) q.1 ((pe_cl q.2.1).2.1 q.2.2.1).1 ((pe_cl q.2.1).2.1 q.2.2.1).2.1 ((pe_cl q.2.1).2.1 q.2.2.1).2.2.1) ∧ q.2.1 < 10 ∧ q.2.2.1 < (pe_cl q.2.1).2.2 := by decide +kernel
theorem pe_i3_ok : ∀ q ∈ pe_i3, lw_tbl[q.2.2]? = some (.methodLink (pe_rn 3) q.1 (pe_me q.2.1).1) ∧ q.2.1 < pe_mn := by decide +kernel
theorem pe_j3_ok : ∀ q ∈ pe_j3, lw_tbl[q.2.2]? = some (.methodLinkNest (pe_rn 3) q.1 (pe_me q.2.1).1 "StepMachines") ∧ q.2.1 < pe_mn := by decide +kernel
theorem pe_a3_ok : ∀ q ∈ pe_a3, lw_tbl[q.2]? = some (.methodLink (pe_rn 3) q.1 arraycopyName) := by decide +kernel
theorem pe_b3_ok : ∀ q ∈ pe_b3, lw_tbl[q.2]? = some (.methodLink (pe_rn 3) q.1 Lib.Math.min.name) := by decide +kernel
theorem pe_o3_ok : ∀ q ∈ pe_o3, lw_tbl[q.2]? = some (.methodLink (pe_rn 3) q.1 objectInit) := by decide +kernel
theorem pe_c3_ok : ∀ q ∈ pe_c3, lw_tbl[q.2.2]? = some (.classLink (pe_rn 3) q.1 (pe_cl q.2.1).1) ∧ q.2.1 < 10 := by decide +kernel
theorem pe_k3_ok : ∀ q ∈ pe_k3, lw_tbl[q.2.2]? = some (.constant (pe_rn 3) q.1 (Int32.ofInt q.2.1)) := by decide +kernel
theorem pe_l3_ok : ∀ q ∈ pe_l3, lw_tbl[q.2.2]? = some (.constantLong (pe_rn 3) q.1 (Int64.ofInt q.2.1)) := by decide +kernel
theorem pe_f4_ok : ∀ q ∈ pe_f4, lw_tbl[q.2.2.2]? = some (.fieldLink (pe_rn 4) q.1 ((pe_cl q.2.1).2.1 q.2.2.1).1 ((pe_cl q.2.1).2.1 q.2.2.1).2.1 ((pe_cl q.2.1).2.1 q.2.2.1).2.2.1) ∧ q.2.1 < 10 ∧ q.2.2.1 < (pe_cl q.2.1).2.2 := by decide +kernel
theorem pe_i4_ok : ∀ q ∈ pe_i4, lw_tbl[q.2.2]? = some (.methodLink (pe_rn 4) q.1 (pe_me q.2.1).1) ∧ q.2.1 < pe_mn := by decide +kernel
theorem pe_j4_ok : ∀ q ∈ pe_j4, lw_tbl[q.2.2]? = some (.methodLinkNest (pe_rn 4) q.1 (pe_me q.2.1).1 "StepMachines") ∧ q.2.1 < pe_mn := by decide +kernel
theorem pe_a4_ok : ∀ q ∈ pe_a4, lw_tbl[q.2]? = some (.methodLink (pe_rn 4) q.1 arraycopyName) := by decide +kernel
theorem pe_b4_ok : ∀ q ∈ pe_b4, lw_tbl[q.2]? = some (.methodLink (pe_rn 4) q.1 Lib.Math.min.name) := by decide +kernel
theorem pe_o4_ok : ∀ q ∈ pe_o4, lw_tbl[q.2]? = some (.methodLink (pe_rn 4) q.1 objectInit) := by decide +kernel
theorem pe_c4_ok : ∀ q ∈ pe_c4, lw_tbl[q.2.2]? = some (.classLink (pe_rn 4) q.1 (pe_cl q.2.1).1) ∧ q.2.1 < 10 := by decide +kernel
theorem pe_k4_ok : ∀ q ∈ pe_k4, lw_tbl[q.2.2]? = some (.constant (pe_rn 4) q.1 (Int32.ofInt q.2.1)) := by decide +kernel
theorem pe_l4_ok : ∀ q ∈ pe_l4, lw_tbl[q.2.2]? = some (.constantLong (pe_rn 4) q.1 (Int64.ofInt q.2.1)) := by decide +kernel
theorem pe_f5_ok : ∀ q ∈ pe_f5, lw_tbl[q.2.2.2]? = some (.fieldLink (pe_rn 5) q.1 ((pe_cl q.2.1).2.1 q.2.2.1).1 ((pe_cl q.2.1).2.1 q.2.2.1).2.1 ((pe_cl q.2.1).2.1 q.2.2.1).2.2.1) ∧ q.2.1 < 10 ∧ q.2.2.1 < (pe_cl q.2.1).2.2 := by decide +kernel
theorem pe_i5_ok : ∀ q ∈ pe_i5, lw_tbl[q.2.2]? = some (.methodLink (pe_rn 5) q.1 (pe_me q.2.1).1) ∧ q.2.1 < pe_mn := by decide +kernel
theorem pe_j5_ok : ∀ q ∈ pe_j5, lw_tbl[q.2.2]? = some (.methodLinkNest (pe_rn 5) q.1 (pe_me q.2.1).1 "StepMachines") ∧ q.2.1 < pe_mn := by decide +kernel
theorem pe_a5_ok : ∀ q ∈ pe_a5, lw_tbl[q.2]? = some (.methodLink (pe_rn 5) q.1 arraycopyName) := by decide +kernel
theorem pe_b5_ok : ∀ q ∈ pe_b5, lw_tbl[q.2]? = some (.methodLink (pe_rn 5) q.1 Lib.Math.min.name) := by decide +kernel
theorem pe_o5_ok : ∀ q ∈ pe_o5, lw_tbl[q.2]? = some (.methodLink (pe_rn 5) q.1 objectInit) := by decide +kernel
theorem pe_c5_ok : ∀ q ∈ pe_c5, lw_tbl[q.2.2]? = some (.classLink (pe_rn 5) q.1 (pe_cl q.2.1).1) ∧ q.2.1 < 10 := by decide +kernel
theorem pe_k5_ok : ∀ q ∈ pe_k5, lw_tbl[q.2.2]? = some (.constant (pe_rn 5) q.1 (Int32.ofInt q.2.1)) := by decide +kernel
theorem pe_l5_ok : ∀ q ∈ pe_l5, lw_tbl[q.2.2]? = some (.constantLong (pe_rn 5) q.1 (Int64.ofInt q.2.1)) := by decide +kernel
theorem pe_f6_ok : ∀ q ∈ pe_f6, lw_tbl[q.2.2.2]? = some (.fieldLink (pe_rn 6) q.1 ((pe_cl q.2.1).2.1 q.2.2.1).1 ((pe_cl q.2.1).2.1 q.2.2.1).2.1 ((pe_cl q.2.1).2.1 q.2.2.1).2.2.1) ∧ q.2.1 < 10 ∧ q.2.2.1 < (pe_cl q.2.1).2.2 := by decide +kernel
theorem pe_i6_ok : ∀ q ∈ pe_i6, lw_tbl[q.2.2]? = some (.methodLink (pe_rn 6) q.1 (pe_me q.2.1).1) ∧ q.2.1 < pe_mn := by decide +kernel
theorem pe_j6_ok : ∀ q ∈ pe_j6, lw_tbl[q.2.2]? = some (.methodLinkNest (pe_rn 6) q.1 (pe_me q.2.1).1 "StepMachines") ∧ q.2.1 < pe_mn := by decide +kernel
theorem pe_a6_ok : ∀ q ∈ pe_a6, lw_tbl[q.2]? = some (.methodLink (pe_rn 6) q.1 arraycopyName) := by decide +kernel
theorem pe_b6_ok : ∀ q ∈ pe_b6, lw_tbl[q.2]? = some (.methodLink (pe_rn 6) q.1 Lib.Math.min.name) := by decide +kernel
theorem pe_o6_ok : ∀ q ∈ pe_o6, lw_tbl[q.2]? = some (.methodLink (pe_rn 6) q.1 objectInit) := by decide +kernel
theorem pe_c6_ok : ∀ q ∈ pe_c6, lw_tbl[q.2.2]? = some (.classLink (pe_rn 6) q.1 (pe_cl q.2.1).1) ∧ q.2.1 < 10 := by decide +kernel
theorem pe_k6_ok : ∀ q ∈ pe_k6, lw_tbl[q.2.2]? = some (.constant (pe_rn 6) q.1 (Int32.ofInt q.2.1)) := by decide +kernel
theorem pe_l6_ok : ∀ q ∈ pe_l6, lw_tbl[q.2.2]? = some (.constantLong (pe_rn 6) q.1 (Int64.ofInt q.2.1)) := by decide +kernel
theorem pe_f7_ok : ∀ q ∈ pe_f7, lw_tbl[q.2.2.2]? = some (.fieldLink (pe_rn 7) q.1 ((pe_cl q.2.1).2.1 q.2.2.1).1 ((pe_cl q.2.1).2.1 q.2.2.1).2.1 ((pe_cl q.2.1).2.1 q.2.2.1).2.2.1) ∧ q.2.1 < 10 ∧ q.2.2.1 < (pe_cl q.2.1).2.2 := by decide +kernel
theorem pe_i7_ok : ∀ q ∈ pe_i7, lw_tbl[q.2.2]? = some (.methodLink (pe_rn 7) q.1 (pe_me q.2.1).1) ∧ q.2.1 < pe_mn := by decide +kernel
theorem pe_j7_ok : ∀ q ∈ pe_j7, lw_tbl[q.2.2]? = some (.methodLinkNest (pe_rn 7) q.1 (pe_me q.2.1).1 "StepMachines") ∧ q.2.1 < pe_mn := by decide +kernel
theorem pe_a7_ok : ∀ q ∈ pe_a7, lw_tbl[q.2]? = some (.methodLink (pe_rn 7) q.1 arraycopyName) := by decide +kernel
theorem pe_b7_ok : ∀ q ∈ pe_b7, lw_tbl[q.2]? = some (.methodLink (pe_rn 7) q.1 Lib.Math.min.name) := by decide +kernel
theorem pe_o7_ok : ∀ q ∈ pe_o7, lw_tbl[q.2]? = some (.methodLink (pe_rn 7) q.1 objectInit) := by decide +kernel
theorem pe_c7_ok : ∀ q ∈ pe_c7, lw_tbl[q.2.2]? = some (.classLink (pe_rn 7) q.1 (pe_cl q.2.1).1) ∧ q.2.1 < 10 := by decide +kernel
theorem pe_k7_ok : ∀ q ∈ pe_k7, lw_tbl[q.2.2]? = some (.constant (pe_rn 7) q.1 (Int32.ofInt q.2.1)) := by decide +kernel
theorem pe_l7_ok : ∀ q ∈ pe_l7, lw_tbl[q.2.2]? = some (.constantLong (pe_rn 7) q.1 (Int64.ofInt q.2.1)) := by decide +kernel
theorem pe_f8_ok : ∀ q ∈ pe_f8, lw_tbl[q.2.2.2]? = some (.fieldLink (pe_rn 8) q.1 ((pe_cl q.2.1).2.1 q.2.2.1).1 ((pe_cl q.2.1).2.1 q.2.2.1).2.1 ((pe_cl q.2.1).2.1 q.2.2.1).2.2.1) ∧ q.2.1 < 10 ∧ q.2.2.1 < (pe_cl q.2.1).2.2 := by decide +kernel
theorem pe_i8_ok : ∀ q ∈ pe_i8, lw_tbl[q.2.2]? = some (.methodLink (pe_rn 8) q.1 (pe_me q.2.1).1) ∧ q.2.1 < pe_mn := by decide +kernel
theorem pe_j8_ok : ∀ q ∈ pe_j8, lw_tbl[q.2.2]? = some (.methodLinkNest (pe_rn 8) q.1 (pe_me q.2.1).1 "StepMachines") ∧ q.2.1 < pe_mn := by decide +kernel
theorem pe_a8_ok : ∀ q ∈ pe_a8, lw_tbl[q.2]? = some (.methodLink (pe_rn 8) q.1 arraycopyName) := by decide +kernel
theorem pe_b8_ok : ∀ q ∈ pe_b8, lw_tbl[q.2]? = some (.methodLink (pe_rn 8) q.1 Lib.Math.min.name) := by decide +kernel
theorem pe_o8_ok : ∀ q ∈ pe_o8, lw_tbl[q.2]? = some (.methodLink (pe_rn 8) q.1 objectInit) := by decide +kernel
theorem pe_c8_ok : ∀ q ∈ pe_c8, lw_tbl[q.2.2]? = some (.classLink (pe_rn 8) q.1 (pe_cl q.2.1).1) ∧ q.2.1 < 10 := by decide +kernel
theorem pe_k8_ok : ∀ q ∈ pe_k8, lw_tbl[q.2.2]? = some (.constant (pe_rn 8) q.1 (Int32.ofInt q.2.1)) := by decide +kernel
theorem pe_l8_ok : ∀ q ∈ pe_l8, lw_tbl[q.2.2]? = some (.constantLong (pe_rn 8) q.1 (Int64.ofInt q.2.1)) := by decide +kernel
theorem pe_f9_ok : ∀ q ∈ pe_f9, lw_tbl[q.2.2.2]? = some (.fieldLink (pe_rn 9) q.1 ((pe_cl q.2.1).2.1 q.2.2.1).1 ((pe_cl q.2.1).2.1 q.2.2.1).2.1 ((pe_cl q.2.1).2.1 q.2.2.1).2.2.1) ∧ q.2.1 < 10 ∧ q.2.2.1 < (pe_cl q.2.1).2.2 := by decide +kernel
theorem pe_i9_ok : ∀ q ∈ pe_i9, lw_tbl[q.2.2]? = some (.methodLink (pe_rn 9) q.1 (pe_me q.2.1).1) ∧ q.2.1 < pe_mn := by decide +kernel
theorem pe_j9_ok : ∀ q ∈ pe_j9, lw_tbl[q.2.2]? = some (.methodLinkNest (pe_rn 9) q.1 (pe_me q.2.1).1 "StepMachines") ∧ q.2.1 < pe_mn := by decide +kernel
theorem pe_a9_ok : ∀ q ∈ pe_a9, lw_tbl[q.2]? = some (.methodLink (pe_rn 9) q.1 arraycopyName) := by decide +kernel
theorem pe_b9_ok : ∀ q ∈ pe_b9, lw_tbl[q.2]? = some (.methodLink (pe_rn 9) q.1 Lib.Math.min.name) := by decide +kernel
theorem pe_o9_ok : ∀ q ∈ pe_o9, lw_tbl[q.2]? = some (.methodLink (pe_rn 9) q.1 objectInit) := by decide +kernel
theorem pe_c9_ok : ∀ q ∈ pe_c9, lw_tbl[q.2.2]? = some (.classLink (pe_rn 9) q.1 (pe_cl q.2.1).1) ∧ q.2.1 < 10 := by decide +kernel
theorem pe_k9_ok : ∀ q ∈ pe_k9, lw_tbl[q.2.2]? = some (.constant (pe_rn 9) q.1 (Int32.ofInt q.2.1)) := by decide +kernel
theorem pe_l9_ok : ∀ q ∈ pe_l9, lw_tbl[q.2.2]? = some (.constantLong (pe_rn 9) q.1 (Int64.ofInt q.2.1)) := by decide +kernel
theorem pe_f10_ok : ∀ q ∈ pe_f10, lw_tbl[q.2.2.2]? = some (.fieldLink (pe_rn 10) q.1 ((pe_cl q.2.1).2.1 q.2.2.1).1 ((pe_cl q.2.1).2.1 q.2.2.1).2.1 ((pe_cl q.2.1).2.1 q.2.2.1).2.2.1) ∧ q.2.1 < 10 ∧ q.2.2.1 < (pe_cl q.2.1).2.2 := by decide +kernel
theorem pe_i10_ok : ∀ q ∈ pe_i10, lw_tbl[q.2.2]? = some (.methodLink (pe_rn 10) q.1 (pe_me q.2.1).1) ∧ q.2.1 < pe_mn := by decide +kernel
theorem pe_j10_ok : ∀ q ∈ pe_j10, lw_tbl[q.2.2]? = some (.methodLinkNest (pe_rn 10) q.1 (pe_me q.2.1).1 "StepMachines") ∧ q.2.1 < pe_mn := by decide +kernel
theorem pe_a10_ok : ∀ q ∈ pe_a10, lw_tbl[q.2]? = some (.methodLink (pe_rn 10) q.1 arraycopyName) := by decide +kernel
theorem pe_b10_ok : ∀ q ∈ pe_b10, lw_tbl[q.2]? = some (.methodLink (pe_rn 10) q.1 Lib.Math.min.name) := by decide +kernel
theorem pe_o10_ok : ∀ q ∈ pe_o10, lw_tbl[q.2]? = some (.methodLink (pe_rn 10) q.1 objectInit) := by decide +kernel
theorem pe_c10_ok : ∀ q ∈ pe_c10, lw_tbl[q.2.2]? = some (.classLink (pe_rn 10) q.1 (pe_cl q.2.1).1) ∧ q.2.1 < 10 := by decide +kernel
theorem pe_k10_ok : ∀ q ∈ pe_k10, lw_tbl[q.2.2]? = some (.constant (pe_rn 10) q.1 (Int32.ofInt q.2.1)) := by decide +kernel
theorem pe_l10_ok : ∀ q ∈ pe_l10, lw_tbl[q.2.2]? = some (.constantLong (pe_rn 10) q.1 (Int64.ofInt q.2.1)) := by decide +kernel
theorem pe_f11_ok : ∀ q ∈ pe_f11, lw_tbl[q.2.2.2]? = some (.fieldLink (pe_rn 11) q.1 ((pe_cl q.2.1).2.1 q.2.2.1).1 ((pe_cl q.2.1).2.1 q.2.2.1).2.1 ((pe_cl q.2.1).2.1 q.2.2.1).2.2.1) ∧ q.2.1 < 10 ∧ q.2.2.1 < (pe_cl q.2.1).2.2 := by decide +kernel
theorem pe_i11_ok : ∀ q ∈ pe_i11, lw_tbl[q.2.2]? = some (.methodLink (pe_rn 11) q.1 (pe_me q.2.1).1) ∧ q.2.1 < pe_mn := by decide +kernel
theorem pe_j11_ok : ∀ q ∈ pe_j11, lw_tbl[q.2.2]? = some (.methodLinkNest (pe_rn 11) q.1 (pe_me q.2.1).1 "StepMachines") ∧ q.2.1 < pe_mn := by decide +kernel
theorem pe_a11_ok : ∀ q ∈ pe_a11, lw_tbl[q.2]? = some (.methodLink (pe_rn 11) q.1 arraycopyName) := by decide +kernel
theorem pe_b11_ok : ∀ q ∈ pe_b11, lw_tbl[q.2]? = some (.methodLink (pe_rn 11) q.1 Lib.Math.min.name) := by decide +kernel
theorem pe_o11_ok : ∀ q ∈ pe_o11, lw_tbl[q.2]? = some (.methodLink (pe_rn 11) q.1 objectInit) := by decide +kernel
theorem pe_c11_ok : ∀ q ∈ pe_c11, lw_tbl[q.2.2]? = some (.classLink (pe_rn 11) q.1 (pe_cl q.2.1).1) ∧ q.2.1 < 10 := by decide +kernel
theorem pe_k11_ok : ∀ q ∈ pe_k11, lw_tbl[q.2.2]? = some (.constant (pe_rn 11) q.1 (Int32.ofInt q.2.1)) := by decide +kernel
theorem pe_l11_ok : ∀ q ∈ pe_l11, lw_tbl[q.2.2]? = some (.constantLong (pe_rn 11) q.1 (Int64.ofInt q.2.1)) := by decide +kernel
theorem pe_f12_ok : ∀ q ∈ pe_f12, lw_tbl[q.2.2.2]? = some (.fieldLink (pe_rn 12) q.1 ((pe_cl q.2.1).2.1 q.2.2.1).1 ((pe_cl q.2.1).2.1 q.2.2.1).2.1 ((pe_cl q.2.1).2.1 q.2.2.1).2.2.1) ∧ q.2.1 < 10 ∧ q.2.2.1 < (pe_cl q.2.1).2.2 := by decide +kernel
theorem pe_i12_ok : ∀ q ∈ pe_i12, lw_tbl[q.2.2]? = some (.methodLink (pe_rn 12) q.1 (pe_me q.2.1).1) ∧ q.2.1 < pe_mn := by decide +kernel
theorem pe_j12_ok : ∀ q ∈ pe_j12, lw_tbl[q.2.2]? = some (.methodLinkNest (pe_rn 12) q.1 (pe_me q.2.1).1 "StepMachines") ∧ q.2.1 < pe_mn := by decide +kernel
theorem pe_a12_ok : ∀ q ∈ pe_a12, lw_tbl[q.2]? = some (.methodLink (pe_rn 12) q.1 arraycopyName) := by decide +kernel
theorem pe_b12_ok : ∀ q ∈ pe_b12, lw_tbl[q.2]? = some (.methodLink (pe_rn 12) q.1 Lib.Math.min.name) := by decide +kernel
theorem pe_o12_ok : ∀ q ∈ pe_o12, lw_tbl[q.2]? = some (.methodLink (pe_rn 12) q.1 objectInit) := by decide +kernel
theorem pe_c12_ok : ∀ q ∈ pe_c12, lw_tbl[q.2.2]? = some (.classLink (pe_rn 12) q.1 (pe_cl q.2.1).1) ∧ q.2.1 < 10 := by decide +kernel
theorem pe_k12_ok : ∀ q ∈ pe_k12, lw_tbl[q.2.2]? = some (.constant (pe_rn 12) q.1 (Int32.ofInt q.2.1)) := by decide +kernel
theorem pe_l12_ok : ∀ q ∈ pe_l12, lw_tbl[q.2.2]? = some (.constantLong (pe_rn 12) q.1 (Int64.ofInt q.2.1)) := by decide +kernel
theorem pe_f13_ok : ∀ q ∈ pe_f13, lw_tbl[q.2.2.2]? = some (.fieldLink (pe_rn 13) q.1 ((pe_cl q.2.1).2.1 q.2.2.1).1 ((pe_cl q.2.1).2.1 q.2.2.1).2.1 ((pe_cl q.2.1).2.1 q.2.2.1).2.2.1) ∧ q.2.1 < 10 ∧ q.2.2.1 < (pe_cl q.2.1).2.2 := by decide +kernel
theorem pe_i13_ok : ∀ q ∈ pe_i13, lw_tbl[q.2.2]? = some (.methodLink (pe_rn 13) q.1 (pe_me q.2.1).1) ∧ q.2.1 < pe_mn := by decide +kernel
theorem pe_j13_ok : ∀ q ∈ pe_j13, lw_tbl[q.2.2]? = some (.methodLinkNest (pe_rn 13) q.1 (pe_me q.2.1).1 "StepMachines") ∧ q.2.1 < pe_mn := by decide +kernel
theorem pe_a13_ok : ∀ q ∈ pe_a13, lw_tbl[q.2]? = some (.methodLink (pe_rn 13) q.1 arraycopyName) := by decide +kernel
theorem pe_b13_ok : ∀ q ∈ pe_b13, lw_tbl[q.2]? = some (.methodLink (pe_rn 13) q.1 Lib.Math.min.name) := by decide +kernel
theorem pe_o13_ok : ∀ q ∈ pe_o13, lw_tbl[q.2]? = some (.methodLink (pe_rn 13) q.1 objectInit) := by decide +kernel
theorem pe_c13_ok : ∀ q ∈ pe_c13, lw_tbl[q.2.2]? = some (.classLink (pe_rn 13) q.1 (pe_cl q.2.1).1) ∧ q.2.1 < 10 := by decide +kernel
theorem pe_k13_ok : ∀ q ∈ pe_k13, lw_tbl[q.2.2]? = some (.constant (pe_rn 13) q.1 (Int32.ofInt q.2.1)) := by decide +kernel
theorem pe_l13_ok : ∀ q ∈ pe_l13, lw_tbl[q.2.2]? = some (.constantLong (pe_rn 13) q.1 (Int64.ofInt q.2.1)) := by decide +kernel
