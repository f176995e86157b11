set_option maxRecDepth 20000 in
theorem ggL_law_X11_set : GoodIn wsL_law wsX11_set := goodIn_r _ [285, 210, 153, 286, 287, 5, 288, 212, 213, 214, 215, 216, 217, 218, 155, 219, 220, 221, 222, 223, 154, 813, 814, 815, 816, 817, 818, 819, 820, 821, 822, 823, 824, 825, 826, 827, 828, 829, 830, 831, 832, 833, 834, 835, 836, 837, 838, 839, 840, 841] (by decide +kernel) (by decide +kernel)
set_option maxRecDepth 20000 in
theorem gL_law_X11_set : GoodIn wsL_law (wsV RL 35 RX11 yX11_set wsX11_set) := goodIn_app (goodIn_of _ (by decide +kernel)) ggL_law_X11_set
set_option maxRecDepth 20000 in
theorem ggL_law_X10_letterAt : GoodIn wsL_law wsX10_letterAt := goodIn_r _ [292, 173, 15, 293, 238, 239, 240, 14, 241, 51, 242, 243, 244, 245, 49, 805, 806, 807, 808, 809, 810, 811, 812, 842, 843, 844] (by decide +kernel) (by decide +kernel)
set_option maxRecDepth 20000 in
theorem gL_law_X10_letterAt : GoodIn wsL_law (wsV RL 36 RX10 yX10_letterAt wsX10_letterAt) := goodIn_app (goodIn_of _ (by decide +kernel)) ggL_law_X10_letterAt
set_option maxRecDepth 20000 in
theorem ggL_law_X11_letterAt : GoodIn wsL_law wsX11_letterAt := goodIn_r _ [297, 210, 153, 298, 813, 814, 815, 816, 817, 818, 819, 820, 821, 822, 823, 824, 825, 826, 827, 828, 829, 830, 831, 832, 833, 834, 835, 836, 837, 838, 839, 840, 841] (by decide +kernel) (by decide +kernel)
set_option maxRecDepth 20000 in
theorem gL_law_X11_letterAt : GoodIn wsL_law (wsV RL 39 RX11 yX11_letterAt wsX11_letterAt) := goodIn_app (goodIn_of _ (by decide +kernel)) ggL_law_X11_letterAt
set_option maxRecDepth 20000 in
theorem ggL_law_X10_unlike : GoodIn wsL_law wsX10_unlike := goodIn_r _ [302, 15, 173, 303, 304, 305, 14, 306, 51, 307, 308, 309, 310, 262, 243, 244, 245, 49, 805, 806, 807, 808, 809, 810, 811, 812, 842, 843, 844] (by decide +kernel) (by decide +kernel)
set_option maxRecDepth 20000 in
theorem gL_law_X10_unlike : GoodIn wsL_law (wsV RL 40 RX10 yX10_unlike wsX10_unlike) := goodIn_app (goodIn_of _ (by decide +kernel)) ggL_law_X10_unlike
set_option maxRecDepth 20000 in
theorem ggL_law_X11_unlike : GoodIn wsL_law wsX11_unlike := goodIn_r _ [314, 210, 315, 316, 317, 5, 318, 153, 212, 213, 214, 319, 320, 321, 322, 813, 814, 815, 816, 817, 818, 819, 820, 821, 822, 823, 824, 825, 826, 827, 828, 829, 830, 831, 832, 833, 834, 835, 836, 837, 838, 839, 840, 841] (by decide +kernel) (by decide +kernel)
set_option maxRecDepth 20000 in
theorem gL_law_X11_unlike : GoodIn wsL_law (wsV RL 44 RX11 yX11_unlike wsX11_unlike) := goodIn_app (goodIn_of _ (by decide +kernel)) ggL_law_X11_unlike
set_option maxRecDepth 20000 in
theorem ggL_law_X10_period : GoodIn wsL_law wsX10_period := goodIn_r _ [326, 15, 173, 303, 304, 305, 14, 306, 51, 327, 328, 329, 330, 331, 308, 309, 310, 262, 243, 244, 245, 49, 805, 806, 807, 808, 809, 810, 811, 812, 842, 843, 844] (by decide +kernel) (by decide +kernel)
set_option maxRecDepth 20000 in
theorem gL_law_X10_period : GoodIn wsL_law (wsV RL 45 RX10 yX10_period wsX10_period) := goodIn_app (goodIn_of _ (by decide +kernel)) ggL_law_X10_period
set_option maxRecDepth 20000 in
theorem ggL_law_X11_period : GoodIn wsL_law wsX11_period := goodIn_r _ [335, 210, 315, 316, 317, 5, 318, 153, 336, 337, 338, 339, 319, 320, 321, 322, 813, 814, 815, 816, 817, 818, 819, 820, 821, 822, 823, 824, 825, 826, 827, 828, 829, 830, 831, 832, 833, 834, 835, 836, 837, 838, 839, 840, 841] (by decide +kernel) (by decide +kernel)
set_option maxRecDepth 20000 in
theorem gL_law_X11_period : GoodIn wsL_law (wsV RL 48 RX11 yX11_period wsX11_period) := goodIn_app (goodIn_of _ (by decide +kernel)) ggL_law_X11_period
set_option maxRecDepth 20000 in
theorem ggL_law_X10_runOf : GoodIn wsL_law wsX10_runOf := goodIn_r _ [343, 173, 23, 15, 293, 344, 345, 346, 22, 347, 67, 66, 348, 349, 350, 351, 63, 64, 65, 352, 328, 329, 14, 330, 331, 308, 309, 310, 262, 243, 244, 245, 51, 49, 353, 354, 355, 356, 357, 358, 359, 360, 361, 805, 806, 807, 808, 809, 810, 811, 812, 847, 848, 849, 850, 851, 842, 843, 844] (by decide +kernel) (by decide +kernel)
set_option maxRecDepth 20000 in
theorem gL_law_X10_runOf : GoodIn wsL_law (wsV RL 49 RX10 yX10_runOf wsX10_runOf) := goodIn_app (goodIn_of _ (by decide +kernel)) ggL_law_X10_runOf
set_option maxRecDepth 20000 in
theorem ggL_law_X11_runOf : GoodIn wsL_law wsX11_runOf := goodIn_r _ [365, 210, 153, 298, 212, 213, 5, 214, 366, 367, 368, 369, 336, 337, 338, 339, 319, 320, 321, 322, 813, 814, 815, 816, 817, 818, 819, 820, 821, 822, 823, 824, 825, 826, 827, 828, 829, 830, 831, 832, 833, 834, 835, 836, 837, 838, 839, 840, 841] (by decide +kernel) (by decide +kernel)
set_option maxRecDepth 20000 in
theorem gL_law_X11_runOf : GoodIn wsL_law (wsV RL 52 RX11 yX11_runOf wsX11_runOf) := goodIn_app (goodIn_of _ (by decide +kernel)) ggL_law_X11_runOf
set_option maxRecDepth 20000 in
theorem ggL_law_X10_cheapest : GoodIn wsL_law wsX10_cheapest := goodIn_r _ [373, 15, 173, 27, 35, 303, 304, 305, 14, 306, 51, 374, 375, 376, 377, 73, 378, 80, 379, 380, 381, 382, 383, 79, 384, 385, 386, 387, 388, 389, 390, 78, 391, 89, 90, 91, 92, 84, 85, 392, 275, 276, 277, 50, 393, 243, 244, 245, 49, 176, 2, 177, 394, 395, 396, 397, 398, 93, 399, 400, 401, 402, 86, 87, 88, 403, 404, 405, 406, 407, 408, 409, 410, 411, 412, 413, 30, 414, 99, 415, 416, 98, 100, 101, 417, 418, 26, 419, 71, 420, 421, 422, 70, 423, 424, 425, 426, 427, 428, 429, 430, 431, 432, 274, 433, 434, 435, 436, 437, 438, 439, 34, 440, 119, 109, 110, 108, 113, 114, 106, 117, 115, 118, 116, 112, 441, 442, 443, 444, 445, 446, 447, 448, 449, 450, 451, 452, 453, 454, 455, 111, 456, 457, 458, 459, 460, 461, 462, 463, 107, 464, 465, 466, 467, 468, 469, 470, 471, 472, 473, 474, 475, 476, 805, 806, 807, 808, 809, 810, 811, 812, 842, 843, 844, 856, 857, 858, 859, 852, 853, 854, 855, 894, 895, 896, 897, 898, 899, 900, 901, 902, 903, 860, 861, 862, 863, 864, 865, 866, 867, 868, 869, 870, 871, 872, 873] (by decide +kernel) (by decide +kernel)
set_option maxRecDepth 20000 in
theorem gL_law_X10_cheapest : GoodIn wsL_law (wsV RL 53 RX10 yX10_cheapest wsX10_cheapest) := goodIn_app (goodIn_of _ (by decide +kernel)) ggL_law_X10_cheapest
set_option maxRecDepth 20000 in
theorem ggL_law_X11_cheapest : GoodIn wsL_law wsX11_cheapest := goodIn_r _ [480, 210, 153, 159, 481, 160, 161, 315, 316, 317, 5, 318, 212, 213, 214, 482, 483, 484, 485, 486, 487, 488, 489, 158, 490, 491, 492, 493, 494, 495, 496, 497, 498, 499, 500, 501, 502, 163, 503, 504, 505, 506, 507, 508, 509, 510, 511, 512, 513, 514, 164, 515, 516, 517, 518, 519, 520, 521, 522, 523, 524, 525, 526, 527, 528, 529, 530, 813, 814, 815, 816, 817, 818, 819, 820, 821, 822, 823, 824, 825, 826, 827, 828, 829, 830, 831, 832, 833, 834, 835, 836, 837, 838, 839, 840, 841] (by decide +kernel) (by decide +kernel)
set_option maxRecDepth 20000 in
theorem gL_law_X11_cheapest : GoodIn wsL_law (wsV RL 56 RX11 yX11_cheapest wsX11_cheapest) := goodIn_app (goodIn_of _ (by decide +kernel)) ggL_law_X11_cheapest
