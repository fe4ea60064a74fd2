set_option maxRecDepth 20000 in
theorem gL_law_X12_walker : GoodIn wsL_law (wsV RL 46 RX12 yX12_walker wsX12_walker) := goodIn_app (goodIn_of _ (by decide +kernel)) ggL_law_X12_walker
set_option maxRecDepth 20000 in
theorem ggL_law_X11_about : GoodIn wsL_law wsX11_about := goodIn_r _ [314, 22, 287, 288, 289, 315, 316, 317, 2, 318, 213, 319, 320, 302, 321, 322, 323, 324, 325, 326, 327, 1010, 1011, 1012, 1013, 1014, 1015, 1016, 1017, 1018, 1019, 1020, 1021, 1022, 1023, 1024, 1102, 1103, 1104] (by decide +kernel) (by decide +kernel)
set_option maxRecDepth 20000 in
theorem gL_law_X11_about : GoodIn wsL_law (wsV RL 47 RX11 yX11_about wsX11_about) := goodIn_app (goodIn_of _ (by decide +kernel)) ggL_law_X11_about
set_option maxRecDepth 20000 in
theorem ggL_law_X12_about : GoodIn wsL_law wsX12_about := goodIn_r _ [331, 332, 333, 334, 5, 335, 246, 206, 207, 208, 336, 337, 338, 339, 107, 108, 109, 340, 341, 342, 343, 344, 345, 346, 347, 348, 349, 350, 351, 1025, 1026, 1027, 1028, 1029, 1030, 1031, 1032, 1033, 1034, 1035, 1036, 1037, 1038, 1039, 1040, 1041, 1042, 1043, 1044, 1045, 1046, 1047, 1048, 1049, 1050, 1051, 1052, 1053, 1054, 1055, 1056, 1057, 1058, 1059, 1060, 1061, 1062, 1063, 1064, 1065, 1066, 1067, 1068, 1069, 1070, 1071, 1072, 1073, 1074, 1075] (by decide +kernel) (by decide +kernel)
set_option maxRecDepth 20000 in
theorem gL_law_X12_about : GoodIn wsL_law (wsV RL 50 RX12 yX12_about wsX12_about) := goodIn_app (goodIn_of _ (by decide +kernel)) ggL_law_X12_about
set_option maxRecDepth 20000 in
theorem ggL_law_X11_as : GoodIn wsL_law wsX11_as := goodIn_r _ [355, 22, 315, 316, 317, 2, 318, 213, 293, 294, 295, 276, 277, 278, 356, 357, 358, 47, 359, 360, 1010, 1011, 1012, 1013, 1014, 1015, 1016, 1017, 1018, 1019, 1020, 1021, 1022, 1023, 1024, 1102, 1103, 1104] (by decide +kernel) (by decide +kernel)
set_option maxRecDepth 20000 in
theorem gL_law_X11_as : GoodIn wsL_law (wsV RL 51 RX11 yX11_as wsX11_as) := goodIn_app (goodIn_of _ (by decide +kernel)) ggL_law_X11_as
set_option maxRecDepth 20000 in
theorem ggL_law_X12_as : GoodIn wsL_law wsX12_as := goodIn_r _ [364, 107, 332, 333, 334, 5, 335, 246, 206, 207, 208, 1025, 1026, 1027, 1028, 1029, 1030, 1031, 1032, 1033, 1034, 1035, 1036, 1037, 1038, 1039, 1040, 1041, 1042, 1043, 1044, 1045, 1046, 1047, 1048, 1049, 1050, 1051, 1052, 1053, 1054, 1055, 1056, 1057, 1058, 1059, 1060, 1061, 1062, 1063, 1064, 1065, 1066, 1067, 1068, 1069, 1070, 1071, 1072, 1073, 1074, 1075] (by decide +kernel) (by decide +kernel)
set_option maxRecDepth 20000 in
theorem gL_law_X12_as : GoodIn wsL_law (wsV RL 54 RX12 yX12_as wsX12_as) := goodIn_app (goodIn_of _ (by decide +kernel)) ggL_law_X12_as
set_option maxRecDepth 20000 in
theorem ggL_law_X11_steps : GoodIn wsL_law wsX11_steps := goodIn_r _ [368, 22, 287, 20, 254, 315, 316, 317, 2, 318, 213, 256, 257, 258, 259, 216, 369, 370, 47, 371, 1010, 1011, 1012, 1013, 1014, 1015, 1016, 1017, 1018, 1019, 1020, 1021, 1022, 1023, 1024, 1102, 1103, 1104, 1081, 1082, 1083, 1084, 1085, 1086, 1087, 1088] (by decide +kernel) (by decide +kernel)
set_option maxRecDepth 20000 in
theorem gL_law_X11_steps : GoodIn wsL_law (wsV RL 55 RX11 yX11_steps wsX11_steps) := goodIn_app (goodIn_of _ (by decide +kernel)) ggL_law_X11_steps
set_option maxRecDepth 20000 in
theorem ggL_law_X12_steps : GoodIn wsL_law wsX12_steps := goodIn_r _ [375, 107, 105, 332, 333, 334, 5, 335, 246, 206, 207, 208, 264, 265, 266, 267, 242, 376, 377, 378, 1025, 1026, 1027, 1028, 1029, 1030, 1031, 1032, 1033, 1034, 1035, 1036, 1037, 1038, 1039, 1040, 1041, 1042, 1043, 1044, 1045, 1046, 1047, 1048, 1049, 1050, 1051, 1052, 1053, 1054, 1055, 1056, 1057, 1058, 1059, 1060, 1061, 1062, 1063, 1064, 1065, 1066, 1067, 1068, 1069, 1070, 1071, 1072, 1073, 1074, 1075] (by decide +kernel) (by decide +kernel)
set_option maxRecDepth 20000 in
theorem gL_law_X12_steps : GoodIn wsL_law (wsV RL 58 RX12 yX12_steps wsX12_steps) := goodIn_app (goodIn_of _ (by decide +kernel)) ggL_law_X12_steps
set_option maxRecDepth 20000 in
theorem ggL_law_X11_may : GoodIn wsL_law wsX11_may := goodIn_r _ [382, 22, 20, 288, 315, 316, 317, 2, 318, 213, 256, 257, 258, 259, 216, 319, 320, 302, 321, 383, 384, 385, 19, 386, 55, 56, 387, 388, 389, 390, 287, 254, 391, 392, 47, 393, 394, 370, 371, 395, 396, 397, 398, 58, 399, 400, 401, 323, 324, 402, 403, 404, 405, 406, 407, 408, 301, 303, 409, 326, 327, 410, 411, 412, 413, 229, 1010, 1011, 1012, 1013, 1014, 1015, 1016, 1017, 1018, 1019, 1020, 1021, 1022, 1023, 1024, 1102, 1103, 1104, 1081, 1082, 1083, 1084, 1085, 1086, 1087, 1088] (by decide +kernel) (by decide +kernel)
set_option maxRecDepth 20000 in
theorem gL_law_X11_may : GoodIn wsL_law (wsV RL 59 RX11 yX11_may wsX11_may) := goodIn_app (goodIn_of _ (by decide +kernel)) ggL_law_X11_may
set_option maxRecDepth 20000 in
theorem ggL_law_X12_may : GoodIn wsL_law wsX12_may := goodIn_r _ [417, 108, 107, 332, 333, 334, 5, 335, 246, 206, 207, 208, 264, 265, 266, 267, 242, 418, 419, 420, 421, 103, 104, 340, 341, 342, 422, 423, 424, 425, 105, 106, 244, 376, 377, 378, 343, 344, 345, 346, 347, 348, 349, 350, 351, 1025, 1026, 1027, 1028, 1029, 1030, 1031, 1032, 1033, 1034, 1035, 1036, 1037, 1038, 1039, 1040, 1041, 1042, 1043, 1044, 1045, 1046, 1047, 1048, 1049, 1050, 1051, 1052, 1053, 1054, 1055, 1056, 1057, 1058, 1059, 1060, 1061, 1062, 1063, 1064, 1065, 1066, 1067, 1068, 1069, 1070, 1071, 1072, 1073, 1074, 1075] (by decide +kernel) (by decide +kernel)
set_option maxRecDepth 20000 in
theorem gL_law_X12_may : GoodIn wsL_law (wsV RL 62 RX12 yX12_may wsX12_may) := goodIn_app (goodIn_of _ (by decide +kernel)) ggL_law_X12_may
set_option maxRecDepth 20000 in
theorem ggL_law_X11_go : GoodIn wsL_law wsX11_go := goodIn_r _ [429, 22, 288, 315, 316, 317, 2, 318, 213, 256, 257, 258, 259, 20, 216, 387, 388, 389, 390, 287, 254, 391, 392, 47, 393, 394, 370, 371, 395, 396, 397, 19, 398, 58, 55, 56, 399, 320, 302, 321, 400, 384, 385, 386, 401, 323, 324, 402, 403, 404, 405, 406, 407, 408, 301, 303, 409, 326, 327, 410, 411, 412, 413, 229, 319, 1010, 1011, 1012, 1013, 1014, 1015, 1016, 1017, 1018, 1019, 1020, 1021, 1022, 1023, 1024, 1102, 1103, 1104, 1081, 1082, 1083, 1084, 1085, 1086, 1087, 1088] (by decide +kernel) (by decide +kernel)
set_option maxRecDepth 20000 in
theorem gL_law_X11_go : GoodIn wsL_law (wsV RL 63 RX11 yX11_go wsX11_go) := goodIn_app (goodIn_of _ (by decide +kernel)) ggL_law_X11_go
set_option maxRecDepth 20000 in
theorem ggL_law_X12_go : GoodIn wsL_law wsX12_go := goodIn_r _ [433, 107, 108, 332, 333, 334, 5, 335, 246, 206, 207, 208, 264, 265, 266, 267, 242, 422, 423, 424, 425, 103, 105, 106, 104, 244, 418, 419, 420, 421, 340, 341, 342, 376, 377, 378, 343, 344, 345, 346, 347, 348, 349, 350, 351, 1025, 1026, 1027, 1028, 1029, 1030, 1031, 1032, 1033, 1034, 1035, 1036, 1037, 1038, 1039, 1040, 1041, 1042, 1043, 1044, 1045, 1046, 1047, 1048, 1049, 1050, 1051, 1052, 1053, 1054, 1055, 1056, 1057, 1058, 1059, 1060, 1061, 1062, 1063, 1064, 1065, 1066, 1067, 1068, 1069, 1070, 1071, 1072, 1073, 1074, 1075] (by decide +kernel) (by decide +kernel)
set_option maxRecDepth 20000 in
theorem gL_law_X12_go : GoodIn wsL_law (wsV RL 66 RX12 yX12_go wsX12_go) := goodIn_app (goodIn_of _ (by decide +kernel)) ggL_law_X12_go
set_option maxRecDepth 20000 in
theorem ggL_law_X11_skip : GoodIn wsL_law wsX11_skip := goodIn_r _ [437, 22, 287, 288, 289, 315, 316, 317, 2, 318, 213, 438, 439, 302, 440, 322, 323, 324, 1010, 1011, 1012, 1013, 1014, 1015, 1016, 1017, 1018, 1019, 1020, 1021, 1022, 1023, 1024, 1102, 1103, 1104] (by decide +kernel) (by decide +kernel)
set_option maxRecDepth 20000 in
theorem gL_law_X11_skip : GoodIn wsL_law (wsV RL 67 RX11 yX11_skip wsX11_skip) := goodIn_app (goodIn_of _ (by decide +kernel)) ggL_law_X11_skip
set_option maxRecDepth 20000 in
theorem ggL_law_X12_skip : GoodIn wsL_law wsX12_skip := goodIn_r _ [444, 107, 108, 109, 332, 333, 334, 5, 335, 246, 206, 207, 208, 445, 446, 447, 343, 344, 345, 1025, 1026, 1027, 1028, 1029, 1030, 1031, 1032, 1033, 1034, 1035, 1036, 1037, 1038, 1039, 1040, 1041, 1042, 1043, 1044, 1045, 1046, 1047, 1048, 1049, 1050, 1051, 1052, 1053, 1054, 1055, 1056, 1057, 1058, 1059, 1060, 1061, 1062, 1063, 1064, 1065, 1066, 1067, 1068, 1069, 1070, 1071, 1072, 1073, 1074, 1075] (by decide +kernel) (by decide +kernel)
set_option maxRecDepth 20000 in
theorem gL_law_X12_skip : GoodIn wsL_law (wsV RL 71 RX12 yX12_skip wsX12_skip) := goodIn_app (goodIn_of _ (by decide +kernel)) ggL_law_X12_skip
set_option maxRecDepth 20000 in
theorem ggL_law_X11_fewest : GoodIn wsL_law wsX11_fewest := goodIn_r _ [451, 22, 315, 316, 317, 2, 318, 213, 290, 291, 292, 276, 277, 278, 452, 453, 454, 455, 32, 287, 20, 37, 288, 456, 457, 458, 459, 31, 460, 461, 462, 463, 464, 465, 466, 70, 71, 467, 370, 47, 371, 468, 392, 393, 394, 469, 470, 471, 36, 472, 78, 473, 474, 475, 77, 476, 83, 477, 85, 478, 479, 480, 481, 482, 483, 484, 485, 486, 84, 487, 488, 489, 490, 491, 492, 493, 494, 495, 496, 497, 498, 499, 500, 501, 502, 503, 320, 302, 321, 504, 505, 506, 507, 508, 509, 510, 511, 396, 397, 19, 398, 58, 55, 56, 399, 400, 384, 385, 386, 401, 323, 324, 402, 403, 404, 405, 406, 407, 408, 301, 303, 409, 326, 327, 410, 411, 412, 413, 229, 512, 439, 440, 513, 514, 515, 516, 216, 517, 518, 319, 395, 1010, 1011, 1012, 1013, 1014, 1015, 1016, 1017, 1018, 1019, 1020, 1021, 1022, 1023, 1024, 1102, 1103, 1104, 1081, 1082, 1083, 1084, 1085, 1086, 1087, 1088, 1096, 1097, 1098, 1105, 1106, 1107, 1108] (by decide +kernel) (by decide +kernel)
set_option maxRecDepth 20000 in
theorem gL_law_X11_fewest : GoodIn wsL_law (wsV RL 72 RX11 yX11_fewest wsX11_fewest) := goodIn_app (goodIn_of _ (by decide +kernel)) ggL_law_X11_fewest
set_option maxRecDepth 20000 in
theorem ggL_law_X12_fewest : GoodIn wsL_law wsX12_fewest := goodIn_r _ [522, 332, 333, 334, 5, 335, 246, 206, 207, 208, 308, 309, 310, 523, 524, 525, 526, 107, 108, 527, 242, 105, 528, 529, 530, 531, 117, 120, 532, 533, 118, 534, 535, 536, 537, 422, 423, 424, 425, 103, 106, 104, 244, 418, 419, 420, 421, 340, 341, 342, 376, 377, 378, 343, 344, 345, 346, 347, 348, 349, 350, 351, 445, 446, 447, 538, 539, 540, 541, 1025, 1026, 1027, 1028, 1029, 1030, 1031, 1032, 1033, 1034, 1035, 1036, 1037, 1038, 1039, 1040, 1041, 1042, 1043, 1044, 1045, 1046, 1047, 1048, 1049, 1050, 1051, 1052, 1053, 1054, 1055, 1056, 1057, 1058, 1059, 1060, 1061, 1062, 1063, 1064, 1065, 1066, 1067, 1068, 1069, 1070, 1071, 1072, 1073, 1074, 1075] (by decide +kernel) (by decide +kernel)
set_option maxRecDepth 20000 in
theorem gL_law_X12_fewest : GoodIn wsL_law (wsV RL 75 RX12 yX12_fewest wsX12_fewest) := goodIn_app (goodIn_of _ (by decide +kernel)) ggL_law_X12_fewest
set_option maxRecDepth 20000 in
theorem ggL_law_X11_skips : GoodIn wsL_law wsX11_skips := goodIn_r _ [545, 22, 315, 316, 317, 2, 318, 213, 290, 291, 292, 276, 277, 278, 546, 547, 548, 549, 32, 287, 20, 37, 288, 456, 457, 458, 459, 31, 460, 461, 462, 463, 464, 465, 466, 70, 71, 467, 370, 47, 371, 468, 392, 393, 394, 469, 470, 471, 36, 472, 78, 473, 474, 475, 77, 476, 83, 477, 85, 478, 479, 480, 481, 482, 483, 484, 485, 486, 84, 487, 488, 489, 490, 491, 492, 493, 494, 495, 496, 497, 498, 499, 500, 501, 502, 503, 320, 302, 321, 504, 505, 506, 507, 508, 509, 510, 511, 396, 397, 19, 398, 58, 55, 56, 399, 400, 384, 385, 386, 401, 323, 324, 402, 403, 404, 405, 406, 407, 408, 301, 303, 409, 326, 327, 410, 411, 412, 413, 229, 512, 439, 440, 550, 551, 552, 1010, 1011, 1012, 1013, 1014, 1015, 1016, 1017, 1018, 1019, 1020, 1021, 1022, 1023, 1024, 1102, 1103, 1104, 1081, 1082, 1083, 1084, 1085, 1086, 1087, 1088, 1096, 1097, 1098, 1105, 1106, 1107, 1108] (by decide +kernel) (by decide +kernel)
set_option maxRecDepth 20000 in
theorem gL_law_X11_skips : GoodIn wsL_law (wsV RL 76 RX11 yX11_skips wsX11_skips) := goodIn_app (goodIn_of _ (by decide +kernel)) ggL_law_X11_skips
