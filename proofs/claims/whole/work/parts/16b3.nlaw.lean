set_option maxRecDepth 20000 in
theorem gL_law_X11_wipe : GoodIn wsL_law (wsV RL 108 RX11 yX11_wipe wsX11_wipe) := goodIn_app (goodIn_of _ (by decide +kernel)) ggL_law_X11_wipe
set_option maxRecDepth 20000 in
theorem ggL_law_X12_wipe : GoodIn wsL_law wsX12_wipe := goodIn_r _ [836, 247, 1025, 1026, 1027, 1028, 1029, 1030, 1031, 1032, 1033, 1034, 1035, 1036, 1037, 1038, 1039, 1040, 1041, 1042, 1043, 1044, 1045, 1046, 1047, 1048, 1049, 1050, 1051, 1052, 1053, 1054, 1055, 1056, 1057, 1058, 1059, 1060, 1061, 1062, 1063, 1064, 1065, 1066, 1067, 1068, 1069, 1070, 1071, 1072, 1073, 1074, 1075] (by decide +kernel) (by decide +kernel)
set_option maxRecDepth 20000 in
theorem gL_law_X12_wipe : GoodIn wsL_law (wsV RL 111 RX12 yX12_wipe wsX12_wipe) := goodIn_app (goodIn_of _ (by decide +kernel)) ggL_law_X12_wipe
set_option maxRecDepth 20000 in
theorem ggL_law_X11_who : GoodIn wsL_law wsX11_who := goodIn_r _ [840, 213, 22, 841, 842, 843, 2, 844, 32, 287, 20, 41, 216, 288, 214, 845, 24, 252, 253, 517, 457, 458, 459, 31, 460, 461, 462, 463, 464, 465, 466, 70, 71, 467, 370, 47, 371, 468, 392, 393, 394, 569, 570, 571, 40, 572, 91, 573, 846, 847, 848, 849, 850, 851, 852, 853, 854, 574, 575, 576, 577, 90, 578, 579, 580, 581, 481, 582, 583, 403, 302, 404, 584, 585, 586, 587, 588, 589, 590, 591, 592, 593, 594, 595, 596, 597, 598, 599, 600, 601, 855, 611, 612, 613, 856, 300, 301, 303, 395, 396, 397, 19, 398, 58, 55, 56, 399, 320, 321, 400, 384, 385, 386, 401, 323, 324, 402, 405, 406, 407, 408, 409, 326, 327, 410, 411, 412, 413, 229, 1010, 1011, 1012, 1013, 1014, 1015, 1016, 1017, 1018, 1019, 1020, 1021, 1022, 1023, 1024, 1102, 1103, 1104, 1081, 1082, 1083, 1084, 1085, 1086, 1087, 1088, 1096, 1097, 1099, 1100] (by decide +kernel) (by decide +kernel)
set_option maxRecDepth 20000 in
theorem gL_law_X11_who : GoodIn wsL_law (wsV RL 112 RX11 yX11_who wsX11_who) := goodIn_app (goodIn_of _ (by decide +kernel)) ggL_law_X11_who
set_option maxRecDepth 20000 in
theorem ggL_law_X12_who : GoodIn wsL_law wsX12_who := goodIn_r _ [860, 861, 862, 863, 5, 864, 246, 865, 866, 867, 868, 126, 108, 127, 247, 242, 107, 103, 106, 110, 422, 423, 424, 425, 105, 104, 244, 418, 419, 420, 421, 340, 341, 342, 376, 377, 378, 343, 344, 345, 346, 347, 348, 349, 350, 351, 1025, 1026, 1027, 1028, 1029, 1030, 1031, 1032, 1033, 1034, 1035, 1036, 1037, 1038, 1039, 1040, 1041, 1042, 1043, 1044, 1045, 1046, 1047, 1048, 1049, 1050, 1051, 1052, 1053, 1054, 1055, 1056, 1057, 1058, 1059, 1060, 1061, 1062, 1063, 1064, 1065, 1066, 1067, 1068, 1069, 1070, 1071, 1072, 1073, 1074, 1075] (by decide +kernel) (by decide +kernel)
set_option maxRecDepth 20000 in
theorem gL_law_X12_who : GoodIn wsL_law (wsV RL 115 RX12 yX12_who wsX12_who) := goodIn_app (goodIn_of _ (by decide +kernel)) ggL_law_X12_who
set_option maxRecDepth 20000 in
theorem ggL_law_X11_walk : GoodIn wsL_law wsX11_walk := goodIn_r _ [872, 22, 288, 20, 287, 254, 315, 316, 317, 2, 318, 213, 276, 277, 278, 319, 320, 302, 321, 873, 874, 875, 19, 876, 226, 400, 384, 385, 386, 55, 56, 877, 878, 879, 880, 881, 882, 883, 884, 885, 886, 391, 392, 47, 393, 394, 370, 371, 395, 396, 397, 398, 58, 399, 401, 323, 324, 402, 403, 404, 405, 406, 407, 408, 301, 303, 409, 326, 327, 410, 411, 412, 413, 229, 322, 1010, 1011, 1012, 1013, 1014, 1015, 1016, 1017, 1018, 1019, 1020, 1021, 1022, 1023, 1024, 1102, 1103, 1104, 1081, 1082, 1083, 1084, 1085, 1086, 1087, 1088] (by decide +kernel) (by decide +kernel)
set_option maxRecDepth 20000 in
theorem gL_law_X11_walk : GoodIn wsL_law (wsV RL 116 RX11 yX11_walk wsX11_walk) := goodIn_app (goodIn_of _ (by decide +kernel)) ggL_law_X11_walk
set_option maxRecDepth 20000 in
theorem ggL_law_X12_walk : GoodIn wsL_law wsX12_walk := goodIn_r _ [890, 332, 333, 334, 5, 335, 246, 206, 207, 208, 891, 892, 893, 894, 895, 108, 107, 896, 897, 898, 899, 242, 418, 419, 420, 421, 103, 104, 340, 341, 342, 900, 901, 902, 903, 904, 905, 906, 907, 422, 423, 424, 425, 105, 106, 244, 376, 377, 378, 343, 344, 345, 346, 347, 348, 349, 350, 351, 1025, 1026, 1027, 1028, 1029, 1030, 1031, 1032, 1033, 1034, 1035, 1036, 1037, 1038, 1039, 1040, 1041, 1042, 1043, 1044, 1045, 1046, 1047, 1048, 1049, 1050, 1051, 1052, 1053, 1054, 1055, 1056, 1057, 1058, 1059, 1060, 1061, 1062, 1063, 1064, 1065, 1066, 1067, 1068, 1069, 1070, 1071, 1072, 1073, 1074, 1075] (by decide +kernel) (by decide +kernel)
set_option maxRecDepth 20000 in
theorem gL_law_X12_walk : GoodIn wsL_law (wsV RL 120 RX12 yX12_walk wsX12_walk) := goodIn_app (goodIn_of _ (by decide +kernel)) ggL_law_X12_walk
set_option maxRecDepth 20000 in
theorem ggL_law_X11_image : GoodIn wsL_law wsX11_image := goodIn_r _ [911, 28, 22, 213, 24, 214, 20, 215, 296, 297, 298, 2, 299, 216, 912, 913, 914, 27, 915, 916, 63, 917, 64, 918, 919, 920, 921, 922, 923, 65, 924, 925, 926, 927, 928, 929, 930, 931, 932, 933, 66, 1010, 1011, 1012, 1013, 1014, 1015, 1016, 1017, 1018, 1019, 1020, 1021, 1022, 1023, 1024, 1081, 1082, 1083, 1084, 1085, 1086, 1087, 1088, 1089, 1090, 1091, 1092, 1093, 1094, 1095, 1102, 1103, 1104] (by decide +kernel) (by decide +kernel)
set_option maxRecDepth 20000 in
theorem gL_law_X11_image : GoodIn wsL_law (wsV RL 121 RX11 yX11_image wsX11_image) := goodIn_app (goodIn_of _ (by decide +kernel)) ggL_law_X11_image
set_option maxRecDepth 20000 in
theorem ggL_law_X12_image : GoodIn wsL_law wsX12_image := goodIn_r _ [937, 245, 938, 939, 246, 940, 247, 941, 128, 108, 129, 109, 130, 105, 131, 110, 1025, 1026, 1027, 1028, 1029, 1030, 1031, 1032, 1033, 1034, 1035, 1036, 1037, 1038, 1039, 1040, 1041, 1042, 1043, 1044, 1045, 1046, 1047, 1048, 1049, 1050, 1051, 1052, 1053, 1054, 1055, 1056, 1057, 1058, 1059, 1060, 1061, 1062, 1063, 1064, 1065, 1066, 1067, 1068, 1069, 1070, 1071, 1072, 1073, 1074, 1075] (by decide +kernel) (by decide +kernel)
set_option maxRecDepth 20000 in
theorem gL_law_X12_image : GoodIn wsL_law (wsV RL 124 RX12 yX12_image wsX12_image) := goodIn_app (goodIn_of _ (by decide +kernel)) ggL_law_X12_image
set_option maxRecDepth 20000 in
theorem ggL_law_X11_restore : GoodIn wsL_law wsX11_restore := goodIn_r _ [945, 28, 215, 22, 213, 24, 214, 20, 946, 947, 948, 27, 949, 932, 950, 951, 952, 953, 916, 63, 917, 64, 918, 954, 955, 956, 957, 65, 923, 924, 925, 926, 927, 958, 959, 960, 961, 66, 933, 1010, 1011, 1012, 1013, 1014, 1015, 1016, 1017, 1018, 1019, 1020, 1021, 1022, 1023, 1024, 1089, 1090, 1091, 1092, 1093, 1094, 1095, 1102, 1103, 1104, 1081, 1082, 1083, 1084, 1085, 1086, 1087, 1088] (by decide +kernel) (by decide +kernel)
set_option maxRecDepth 20000 in
theorem gL_law_X11_restore : GoodIn wsL_law (wsV RL 125 RX11 yX11_restore wsX11_restore) := goodIn_app (goodIn_of _ (by decide +kernel)) ggL_law_X11_restore
set_option maxRecDepth 20000 in
theorem ggL_law_X12_restore : GoodIn wsL_law wsX12_restore := goodIn_r _ [965, 938, 939, 245, 940, 246, 941, 247, 108, 128, 109, 129, 105, 130, 110, 131, 1025, 1026, 1027, 1028, 1029, 1030, 1031, 1032, 1033, 1034, 1035, 1036, 1037, 1038, 1039, 1040, 1041, 1042, 1043, 1044, 1045, 1046, 1047, 1048, 1049, 1050, 1051, 1052, 1053, 1054, 1055, 1056, 1057, 1058, 1059, 1060, 1061, 1062, 1063, 1064, 1065, 1066, 1067, 1068, 1069, 1070, 1071, 1072, 1073, 1074, 1075] (by decide +kernel) (by decide +kernel)
set_option maxRecDepth 20000 in
theorem gL_law_X12_restore : GoodIn wsL_law (wsV RL 128 RX12 yX12_restore wsX12_restore) := goodIn_app (goodIn_of _ (by decide +kernel)) ggL_law_X12_restore
set_option maxRecDepth 20000 in
theorem ggL_law_X11_count : GoodIn wsL_law wsX11_count := goodIn_r _ [969, 20, 216, 821, 213, 214, 970, 16, 136, 215, 626, 1010, 1011, 1012, 1013, 1014, 1015, 1016, 1017, 1018, 1019, 1020, 1021, 1022, 1023, 1024, 1081, 1082, 1083, 1084, 1085, 1086, 1087, 1088, 1076, 1077, 1078, 1079, 1080] (by decide +kernel) (by decide +kernel)
set_option maxRecDepth 20000 in
theorem gL_law_X11_count : GoodIn wsL_law (wsV RL 129 RX11 yX11_count wsX11_count) := goodIn_app (goodIn_of _ (by decide +kernel)) ggL_law_X11_count
set_option maxRecDepth 20000 in
theorem ggL_law_X12_count : GoodIn wsL_law wsX12_count := goodIn_r _ [974, 975, 976, 977, 5, 978, 242, 243, 246, 247, 244, 154, 245, 644, 1025, 1026, 1027, 1028, 1029, 1030, 1031, 1032, 1033, 1034, 1035, 1036, 1037, 1038, 1039, 1040, 1041, 1042, 1043, 1044, 1045, 1046, 1047, 1048, 1049, 1050, 1051, 1052, 1053, 1054, 1055, 1056, 1057, 1058, 1059, 1060, 1061, 1062, 1063, 1064, 1065, 1066, 1067, 1068, 1069, 1070, 1071, 1072, 1073, 1074, 1075] (by decide +kernel) (by decide +kernel)
set_option maxRecDepth 20000 in
theorem gL_law_X12_count : GoodIn wsL_law (wsV RL 132 RX12 yX12_count wsX12_count) := goodIn_app (goodIn_of _ (by decide +kernel)) ggL_law_X12_count
set_option maxRecDepth 100000 in
theorem gdX11_digest_h : GoodIn wsL_law [Cond.code yX11_digest cX11_digest 5 (some .long)] := goodIn_r _ [982] (by decide +kernel) (by decide +kernel)
set_option maxRecDepth 100000 in
theorem gdX11_digest_0 : GoodIn wsL_law wsX11_digest_r1 := goodIn_r _ [983, 20, 216, 984, 213, 214, 24, 16, 136, 985, 986, 249, 250, 2, 251, 252, 253, 254, 255, 256, 257, 258, 259, 987] (by decide +kernel) (by decide +kernel)
set_option maxRecDepth 100000 in
theorem gdX11_digest_1 : GoodIn wsL_law wsX11_digest_r2 := goodIn_r _ [988, 989, 990, 22, 991, 312, 313, 314, 287, 288, 289, 315, 316, 317, 318, 319, 320, 302, 321, 322, 323, 324, 325, 326] (by decide +kernel) (by decide +kernel)
set_option maxRecDepth 100000 in
theorem gdX11_digest_2 : GoodIn wsL_law wsX11_digest_r3 := goodIn_r _ [327, 992, 562, 563, 564, 32, 457, 458, 459, 31, 460, 461, 462, 463, 464, 465, 466, 70, 71, 467, 370, 47, 371, 468] (by decide +kernel) (by decide +kernel)
set_option maxRecDepth 100000 in
theorem gdX11_digest_3 : GoodIn wsL_law wsX11_digest_r4 := goodIn_r _ [392, 393, 394, 565, 566, 567, 568, 41, 569, 570, 571, 40, 572, 91, 573, 574, 575, 576, 577, 90, 578, 579, 580, 581] (by decide +kernel) (by decide +kernel)
set_option maxRecDepth 100000 in
theorem gdX11_digest_4 : GoodIn wsL_law wsX11_digest_r5 := goodIn_r _ [481, 582, 583, 403, 404, 584, 585, 586, 587, 588, 589, 590, 591, 592, 593, 594, 595, 596, 597, 598, 599, 600, 601, 602] (by decide +kernel) (by decide +kernel)
set_option maxRecDepth 100000 in
theorem gdX11_digest_5 : GoodIn wsL_law wsX11_digest_r6 := goodIn_r _ [603, 604, 605, 606, 607, 608, 609, 610, 611, 612, 613, 452, 453, 454, 455, 37, 456, 469, 470, 471, 36, 472, 78, 473] (by decide +kernel) (by decide +kernel)
set_option maxRecDepth 100000 in
theorem gdX11_digest_6 : GoodIn wsL_law wsX11_digest_r7 := goodIn_r _ [474, 475, 77, 476, 83, 477, 85, 478, 479, 480, 482, 483, 484, 485, 486, 84, 487, 488, 489, 490, 491, 492, 493, 494] (by decide +kernel) (by decide +kernel)
set_option maxRecDepth 100000 in
theorem gdX11_digest_7 : GoodIn wsL_law wsX11_digest_r8 := goodIn_r _ [495, 496, 497, 498, 499, 500, 501, 502, 503, 504, 505, 506, 507, 508, 509, 510, 511, 396, 397, 19, 398, 58, 55, 56] (by decide +kernel) (by decide +kernel)
set_option maxRecDepth 100000 in
theorem gdX11_digest_8 : GoodIn wsL_law wsX11_digest_r9 := goodIn_r _ [399, 400, 384, 385, 386, 401, 402, 405, 406, 407, 408, 301, 303, 409, 410, 411, 412, 413, 229, 512, 439, 440, 513, 514] (by decide +kernel) (by decide +kernel)
set_option maxRecDepth 100000 in
theorem gdX11_digest_9 : GoodIn wsL_law wsX11_digest_r10 := goodIn_r _ [515, 516, 517, 518, 395, 546, 547, 548, 549, 550, 551, 552, 296, 297, 298, 299, 714, 715, 716, 717, 664, 665, 666, 667] (by decide +kernel) (by decide +kernel)
set_option maxRecDepth 100000 in
theorem gdX11_digest_10 : GoodIn wsL_law wsX11_digest_r11 := goodIn_r _ [391, 718, 719, 720, 721, 722, 723, 724, 673, 674, 675, 676, 677, 678, 679, 688, 689, 690, 846, 847, 848, 849, 850, 851] (by decide +kernel) (by decide +kernel)
set_option maxRecDepth 100000 in
theorem gdX11_digest_11 : GoodIn wsL_law wsX11_digest_r12 := goodIn_r _ [852, 853, 854, 993, 838, 839, 840, 841, 842, 843, 844, 845, 855, 856, 300, 994, 967, 968, 969, 821, 970, 215, 626] (by decide +kernel) (by decide +kernel)
set_option maxRecDepth 100000 in
theorem gdX11_digest_12 : GoodIn wsL_law wsX110 := goodIn_r _ [1010, 1011, 1012, 1013, 1014, 1015, 1016, 1017, 1018, 1019, 1020, 1021, 1022, 1023, 1024] (by decide +kernel) (by decide +kernel)
set_option maxRecDepth 100000 in
theorem gdX11_digest_13 : GoodIn wsL_law wsX80 := goodIn_r _ [1081, 1082, 1083, 1084, 1085, 1086, 1087, 1088] (by decide +kernel) (by decide +kernel)
set_option maxRecDepth 100000 in
theorem gdX11_digest_14 : GoodIn wsL_law wsX50 := goodIn_r _ [1076, 1077, 1078, 1079, 1080] (by decide +kernel) (by decide +kernel)
set_option maxRecDepth 100000 in
theorem gdX11_digest_15 : GoodIn wsL_law wsX90 := goodIn_r _ [1102, 1103, 1104] (by decide +kernel) (by decide +kernel)
set_option maxRecDepth 100000 in
theorem gdX11_digest_16 : GoodIn wsL_law wsX20 := goodIn_r _ [1096, 1097] (by decide +kernel) (by decide +kernel)
set_option maxRecDepth 100000 in
theorem gdX11_digest_17 : GoodIn wsL_law wsX60 := goodIn_r _ [1099, 1100] (by decide +kernel) (by decide +kernel)
set_option maxRecDepth 100000 in
theorem gdX11_digest_18 : GoodIn wsL_law wsX100 := goodIn_r _ [1098] (by decide +kernel) (by decide +kernel)
set_option maxRecDepth 100000 in
theorem gdX11_digest_19 : GoodIn wsL_law wsX30 := goodIn_r _ [1105, 1106, 1107, 1108] (by decide +kernel) (by decide +kernel)
theorem ggL_law_X11_digest : GoodIn wsL_law wsX11_digest := goodIn_app (a := [Cond.code yX11_digest cX11_digest 5 (some .long)]) gdX11_digest_h (goodIn_app (goodIn_app (goodIn_app (goodIn_app (goodIn_app (goodIn_app (goodIn_app (goodIn_app (goodIn_app gdX11_digest_0 (goodIn_app gdX11_digest_1 (goodIn_app gdX11_digest_2 (goodIn_app gdX11_digest_3 (goodIn_app gdX11_digest_4 (goodIn_app gdX11_digest_5 (goodIn_app gdX11_digest_6 (goodIn_app gdX11_digest_7 (goodIn_app gdX11_digest_8 (goodIn_app gdX11_digest_9 (goodIn_app gdX11_digest_10 gdX11_digest_11))))))))))) gdX11_digest_12) gdX11_digest_13) gdX11_digest_14) gdX11_digest_15) gdX11_digest_16) gdX11_digest_17) gdX11_digest_18) gdX11_digest_19)
set_option maxRecDepth 20000 in
theorem gL_law_X11_digest : GoodIn wsL_law (wsV RL 133 RX11 yX11_digest wsX11_digest) := goodIn_app (goodIn_of _ (by decide +kernel)) ggL_law_X11_digest
set_option maxRecDepth 100000 in
theorem gdX12_digest_h : GoodIn wsL_law [Cond.code yX12_digest cX12_digest 3 (some .long)] := goodIn_r _ [998] (by decide +kernel) (by decide +kernel)
set_option maxRecDepth 100000 in
theorem gdX12_digest_0 : GoodIn wsL_law wsX12_digest_r1 := goodIn_r _ [999, 1000, 242, 246, 245, 247, 110, 154, 112, 268, 269, 270, 5, 271, 103, 104, 105, 106, 1001, 1002, 1003, 1004, 1005, 1006] (by decide +kernel) (by decide +kernel)
set_option maxRecDepth 100000 in
theorem gdX12_digest_1 : GoodIn wsL_law wsX12_digest_r2 := goodIn_r _ [1007, 1008, 1009, 336, 337, 338, 339, 107, 108, 109, 340, 341, 342, 343, 344, 345, 346, 347, 348, 349, 350, 351, 618, 619] (by decide +kernel) (by decide +kernel)
set_option maxRecDepth 100000 in
theorem gdX12_digest_2 : GoodIn wsL_law wsX12_digest_r3 := goodIn_r _ [620, 621, 527, 528, 529, 530, 531, 117, 120, 532, 533, 118, 534, 535, 536, 537, 422, 423, 424, 425, 244, 418, 419, 420] (by decide +kernel) (by decide +kernel)
set_option maxRecDepth 100000 in
theorem gdX12_digest_3 : GoodIn wsL_law wsX12_digest_r4 := goodIn_r _ [421, 376, 377, 378, 445, 446, 447, 538, 539, 540, 541, 523, 524, 525, 526, 557, 558, 559, 560, 729, 730, 731, 732, 733] (by decide +kernel) (by decide +kernel)
set_option maxRecDepth 100000 in
theorem gdX12_digest_4 : GoodIn wsL_law wsX12_digest_r5 := goodIn_r _ [734, 735, 736, 699, 700, 701, 861, 862, 863, 864, 865, 866, 867, 868, 126, 127, 975, 976, 977, 978, 243, 644] (by decide +kernel) (by decide +kernel)
set_option maxRecDepth 100000 in
theorem gdX12_digest_5 : GoodIn wsL_law wsX120 := goodIn_r _ [1025, 1026, 1027, 1028, 1029, 1030, 1031, 1032, 1033, 1034, 1035, 1036, 1037, 1038, 1039, 1040, 1041, 1042, 1043, 1044, 1045, 1046, 1047, 1048, 1049, 1050, 1051, 1052, 1053, 1054, 1055, 1056, 1057, 1058, 1059, 1060, 1061, 1062, 1063, 1064, 1065, 1066, 1067, 1068, 1069, 1070, 1071, 1072, 1073, 1074, 1075] (by decide +kernel) (by decide +kernel)
theorem ggL_law_X12_digest : GoodIn wsL_law wsX12_digest := goodIn_app (a := [Cond.code yX12_digest cX12_digest 3 (some .long)]) gdX12_digest_h (goodIn_app (goodIn_app gdX12_digest_0 (goodIn_app gdX12_digest_1 (goodIn_app gdX12_digest_2 (goodIn_app gdX12_digest_3 gdX12_digest_4)))) gdX12_digest_5)
set_option maxRecDepth 20000 in
theorem gL_law_X12_digest : GoodIn wsL_law (wsV RL 137 RX12 yX12_digest wsX12_digest) := goodIn_app (goodIn_of _ (by decide +kernel)) ggL_law_X12_digest
