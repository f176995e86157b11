set_option maxRecDepth 20000 in
theorem ggL_law_X10_textAt : GoodIn wsL_law wsX10_textAt := goodIn_r _ [534, 173, 15, 293, 27, 35, 374, 375, 376, 377, 73, 378, 80, 379, 380, 381, 382, 383, 79, 384, 385, 386, 387, 388, 389, 390, 78, 391, 89, 90, 91, 92, 84, 85, 392, 275, 276, 14, 277, 50, 393, 243, 244, 245, 51, 49, 176, 2, 177, 394, 395, 396, 397, 398, 93, 399, 400, 401, 402, 86, 87, 88, 403, 404, 405, 406, 407, 408, 409, 410, 411, 412, 413, 30, 414, 99, 415, 416, 98, 100, 101, 417, 418, 26, 419, 71, 420, 421, 422, 70, 423, 424, 425, 426, 427, 428, 429, 430, 431, 432, 437, 438, 439, 34, 440, 119, 109, 110, 108, 113, 114, 106, 117, 115, 118, 116, 112, 441, 442, 443, 444, 445, 446, 447, 434, 435, 436, 448, 449, 450, 451, 452, 453, 454, 455, 111, 456, 457, 458, 459, 460, 461, 462, 463, 107, 464, 465, 466, 467, 468, 469, 470, 471, 472, 535, 536, 537, 538, 805, 806, 807, 808, 809, 810, 811, 812, 842, 843, 844, 860, 861, 862, 863, 864, 865, 866, 867, 868, 869, 870, 871, 872, 873, 856, 857, 858, 859, 852, 853, 854, 855, 894, 895, 896, 897, 898, 899, 900, 901, 902, 903] (by decide +kernel) (by decide +kernel)
set_option maxRecDepth 20000 in
theorem gL_law_X10_textAt : GoodIn wsL_law (wsV RL 57 RX10 yX10_textAt wsX10_textAt) := goodIn_app (goodIn_of _ (by decide +kernel)) ggL_law_X10_textAt
set_option maxRecDepth 20000 in
theorem ggL_law_X11_textAt : GoodIn wsL_law wsX11_textAt := goodIn_r _ [542, 210, 153, 481, 164, 298, 482, 483, 484, 5, 485, 159, 486, 487, 488, 489, 158, 490, 491, 492, 493, 494, 495, 496, 497, 160, 161, 498, 499, 500, 501, 502, 163, 503, 504, 505, 506, 507, 508, 509, 510, 511, 512, 513, 514, 515, 516, 517, 518, 519, 520, 521, 522, 813, 814, 815, 816, 817, 818, 819, 820, 821, 822, 823, 824, 825, 826, 827, 828, 829, 830, 831, 832, 833, 834, 835, 836, 837, 838, 839, 840, 841] (by decide +kernel) (by decide +kernel)
set_option maxRecDepth 20000 in
theorem gL_law_X11_textAt : GoodIn wsL_law (wsV RL 60 RX11 yX11_textAt wsX11_textAt) := goodIn_app (goodIn_of _ (by decide +kernel)) ggL_law_X11_textAt
set_option maxRecDepth 20000 in
theorem ggL_law_X10_descriptions : GoodIn wsL_law wsX10_descriptions := goodIn_r _ [546, 15, 547, 31, 303, 304, 305, 14, 306, 51, 548, 549, 550, 377, 73, 378, 80, 379, 380, 381, 382, 383, 79, 384, 385, 386, 387, 388, 389, 390, 78, 391, 89, 90, 91, 92, 84, 85, 392, 275, 276, 277, 50, 393, 243, 244, 245, 49, 176, 2, 177, 394, 395, 396, 397, 398, 93, 399, 400, 401, 402, 86, 87, 88, 403, 404, 405, 406, 407, 408, 409, 410, 411, 412, 413, 30, 414, 99, 415, 416, 98, 100, 101, 417, 418, 26, 419, 71, 420, 421, 422, 70, 423, 424, 425, 426, 427, 428, 429, 430, 431, 432, 274, 551, 552, 553, 554, 805, 806, 807, 808, 809, 810, 811, 812, 842, 843, 844, 856, 857, 858, 859, 852, 853, 854, 855, 894, 895, 896, 897, 898, 899, 900, 901, 902, 903] (by decide +kernel) (by decide +kernel)
set_option maxRecDepth 20000 in
theorem gL_law_X10_descriptions : GoodIn wsL_law (wsV RL 61 RX10 yX10_descriptions wsX10_descriptions) := goodIn_app (goodIn_of _ (by decide +kernel)) ggL_law_X10_descriptions
set_option maxRecDepth 20000 in
theorem ggL_law_X11_descriptions : GoodIn wsL_law wsX11_descriptions := goodIn_r _ [558, 559, 153, 162, 315, 316, 317, 5, 318, 486, 487, 488, 489, 158, 490, 491, 492, 560, 561, 562, 563, 813, 814, 815, 816, 817, 818, 819, 820, 821, 822, 823, 824, 825, 826, 827, 828, 829, 830, 831, 832, 833, 834, 835, 836, 837, 838, 839, 840, 841] (by decide +kernel) (by decide +kernel)
set_option maxRecDepth 20000 in
theorem gL_law_X11_descriptions : GoodIn wsL_law (wsV RL 65 RX11 yX11_descriptions wsX11_descriptions) := goodIn_app (goodIn_of _ (by decide +kernel)) ggL_law_X11_descriptions
set_option maxRecDepth 20000 in
theorem ggL_law_X10_would : GoodIn wsL_law wsX10_would := goodIn_r _ [567, 15, 173, 39, 238, 239, 240, 14, 241, 51, 175, 176, 2, 177, 568, 569, 570, 38, 571, 124, 126, 572, 191, 192, 193, 49, 50, 573, 247, 248, 249, 574, 575, 576, 382, 73, 383, 79, 384, 385, 386, 387, 388, 389, 390, 78, 391, 89, 90, 91, 92, 84, 85, 392, 275, 276, 277, 393, 243, 244, 245, 394, 395, 396, 397, 398, 93, 399, 400, 401, 402, 86, 87, 88, 403, 404, 405, 406, 407, 408, 409, 410, 411, 412, 413, 30, 414, 99, 415, 416, 98, 100, 101, 417, 418, 26, 419, 71, 420, 421, 422, 70, 423, 424, 425, 426, 427, 428, 429, 430, 431, 577, 578, 579, 580, 581, 434, 435, 436, 805, 806, 807, 808, 809, 810, 811, 812, 842, 843, 844, 874, 875, 876, 877, 878, 879, 880, 856, 857, 858, 859, 852, 853, 854, 855, 894, 895, 896, 897, 898, 899, 900, 901, 902, 903] (by decide +kernel) (by decide +kernel)
set_option maxRecDepth 20000 in
theorem gL_law_X10_would : GoodIn wsL_law (wsV RL 66 RX10 yX10_would wsX10_would) := goodIn_app (goodIn_of _ (by decide +kernel)) ggL_law_X10_would
set_option maxRecDepth 20000 in
theorem ggL_law_X11_would : GoodIn wsL_law wsX11_would := goodIn_r _ [585, 153, 210, 212, 213, 5, 214, 586, 587, 588, 589, 590, 591, 592, 593, 159, 482, 483, 484, 485, 486, 487, 488, 489, 158, 490, 491, 492, 493, 494, 495, 496, 497, 160, 161, 813, 814, 815, 816, 817, 818, 819, 820, 821, 822, 823, 824, 825, 826, 827, 828, 829, 830, 831, 832, 833, 834, 835, 836, 837, 838, 839, 840, 841] (by decide +kernel) (by decide +kernel)
set_option maxRecDepth 20000 in
theorem gL_law_X11_would : GoodIn wsL_law (wsV RL 69 RX11 yX11_would wsX11_would) := goodIn_app (goodIn_of _ (by decide +kernel)) ggL_law_X11_would
set_option maxRecDepth 20000 in
theorem ggL_law_X10_bestChange : GoodIn wsL_law wsX10_bestChange := goodIn_r _ [597, 173, 39, 15, 293, 598, 599, 600, 38, 601, 127, 128, 124, 126, 131, 572, 191, 192, 14, 193, 49, 50, 51, 574, 575, 576, 382, 73, 383, 79, 384, 385, 386, 387, 388, 389, 390, 78, 391, 89, 90, 91, 92, 84, 85, 392, 275, 276, 277, 393, 243, 244, 245, 176, 2, 177, 394, 395, 396, 397, 398, 93, 399, 400, 401, 402, 86, 87, 88, 403, 404, 405, 406, 407, 408, 409, 410, 411, 412, 413, 30, 414, 99, 415, 416, 98, 100, 101, 417, 418, 26, 419, 71, 420, 421, 422, 70, 423, 424, 425, 426, 427, 428, 429, 430, 431, 577, 578, 579, 580, 581, 434, 435, 436, 602, 573, 247, 248, 249, 603, 604, 605, 606, 129, 130, 805, 806, 807, 808, 809, 810, 811, 812, 874, 875, 876, 877, 878, 879, 880, 842, 843, 844, 856, 857, 858, 859, 852, 853, 854, 855, 894, 895, 896, 897, 898, 899, 900, 901, 902, 903] (by decide +kernel) (by decide +kernel)
set_option maxRecDepth 20000 in
theorem gL_law_X10_bestChange : GoodIn wsL_law (wsV RL 70 RX10 yX10_bestChange wsX10_bestChange) := goodIn_app (goodIn_of _ (by decide +kernel)) ggL_law_X10_bestChange
set_option maxRecDepth 20000 in
theorem ggL_law_X11_bestChange : GoodIn wsL_law wsX11_bestChange := goodIn_r _ [610, 210, 298, 153, 212, 213, 5, 214, 590, 591, 592, 593, 159, 482, 483, 484, 485, 486, 487, 488, 489, 158, 490, 491, 492, 493, 494, 495, 496, 497, 160, 161, 586, 587, 588, 589, 813, 814, 815, 816, 817, 818, 819, 820, 821, 822, 823, 824, 825, 826, 827, 828, 829, 830, 831, 832, 833, 834, 835, 836, 837, 838, 839, 840, 841] (by decide +kernel) (by decide +kernel)
set_option maxRecDepth 20000 in
theorem gL_law_X11_bestChange : GoodIn wsL_law (wsV RL 73 RX11 yX11_bestChange wsX11_bestChange) := goodIn_app (goodIn_of _ (by decide +kernel)) ggL_law_X11_bestChange
set_option maxRecDepth 20000 in
theorem ggL_law_X10_type : GoodIn wsL_law wsX10_type := goodIn_r _ [614, 173, 43, 174, 615, 616, 617, 42, 618, 138, 136, 148, 805, 806, 807, 808, 809, 810, 811, 812, 881, 882, 883, 884, 885, 886, 887, 888, 889, 890, 891, 892, 893] (by decide +kernel) (by decide +kernel)
set_option maxRecDepth 20000 in
theorem gL_law_X10_type : GoodIn wsL_law (wsV RL 74 RX10 yX10_type wsX10_type) := goodIn_app (goodIn_of _ (by decide +kernel)) ggL_law_X10_type
set_option maxRecDepth 20000 in
theorem ggL_law_X11_type : GoodIn wsL_law wsX11_type := goodIn_r _ [622, 210, 623, 211, 157, 212, 213, 5, 214, 813, 814, 815, 816, 817, 818, 819, 820, 821, 822, 823, 824, 825, 826, 827, 828, 829, 830, 831, 832, 833, 834, 835, 836, 837, 838, 839, 840, 841] (by decide +kernel) (by decide +kernel)
set_option maxRecDepth 20000 in
theorem gL_law_X11_type : GoodIn wsL_law (wsV RL 77 RX11 yX11_type wsX11_type) := goodIn_app (goodIn_of _ (by decide +kernel)) ggL_law_X11_type
set_option maxRecDepth 20000 in
theorem ggL_law_X10_clearText : GoodIn wsL_law wsX10_clearText := goodIn_r _ [627, 43, 628, 629, 630, 42, 631, 138, 148, 805, 806, 807, 808, 809, 810, 811, 812, 881, 882, 883, 884, 885, 886, 887, 888, 889, 890, 891, 892, 893] (by decide +kernel) (by decide +kernel)
set_option maxRecDepth 20000 in
theorem gL_law_X10_clearText : GoodIn wsL_law (wsV RL 78 RX10 yX10_clearText wsX10_clearText) := goodIn_app (goodIn_of _ (by decide +kernel)) ggL_law_X10_clearText
