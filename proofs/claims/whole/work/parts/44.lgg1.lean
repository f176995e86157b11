set_option maxRecDepth 20000 in
theorem ggL_law_X11_set : GoodIn wsL_law wsX11_set := goodIn_r _ [293, 218, 157, 294, 295, 5, 296, 220, 221, 222, 223, 224, 225, 226, 159, 227, 228, 229, 230, 231, 158, 821, 822, 823, 824, 825, 826, 827, 828, 829, 830, 831, 832, 833, 834, 835, 836, 837, 838, 839, 840, 841, 842, 843, 844, 845, 846, 847, 848, 849] (by decide +kernel) (by decide +kernel)
set_option maxRecDepth 20000 in
theorem gL_law_X11_set : GoodIn wsL_law (wsV RL 35 RX11 yX11_set wsX11_set) := goodIn_app (goodIn_of _ (by decide +kernel)) ggL_law_X11_set
set_option maxRecDepth 20000 in
theorem ggL_law_X10_letterAt : GoodIn wsL_law wsX10_letterAt := goodIn_r _ [300, 177, 15, 301, 246, 247, 248, 14, 249, 51, 250, 251, 252, 253, 49, 813, 814, 815, 816, 817, 818, 819, 820, 850, 851, 852] (by decide +kernel) (by decide +kernel)
set_option maxRecDepth 20000 in
theorem gL_law_X10_letterAt : GoodIn wsL_law (wsV RL 36 RX10 yX10_letterAt wsX10_letterAt) := goodIn_app (goodIn_of _ (by decide +kernel)) ggL_law_X10_letterAt
set_option maxRecDepth 20000 in
theorem ggL_law_X11_letterAt : GoodIn wsL_law wsX11_letterAt := goodIn_r _ [305, 218, 157, 306, 821, 822, 823, 824, 825, 826, 827, 828, 829, 830, 831, 832, 833, 834, 835, 836, 837, 838, 839, 840, 841, 842, 843, 844, 845, 846, 847, 848, 849] (by decide +kernel) (by decide +kernel)
set_option maxRecDepth 20000 in
theorem gL_law_X11_letterAt : GoodIn wsL_law (wsV RL 39 RX11 yX11_letterAt wsX11_letterAt) := goodIn_app (goodIn_of _ (by decide +kernel)) ggL_law_X11_letterAt
set_option maxRecDepth 20000 in
theorem ggL_law_X10_unlike : GoodIn wsL_law wsX10_unlike := goodIn_r _ [310, 15, 177, 311, 312, 313, 14, 314, 51, 315, 316, 317, 318, 270, 251, 252, 253, 49, 813, 814, 815, 816, 817, 818, 819, 820, 850, 851, 852] (by decide +kernel) (by decide +kernel)
set_option maxRecDepth 20000 in
theorem gL_law_X10_unlike : GoodIn wsL_law (wsV RL 40 RX10 yX10_unlike wsX10_unlike) := goodIn_app (goodIn_of _ (by decide +kernel)) ggL_law_X10_unlike
set_option maxRecDepth 20000 in
theorem ggL_law_X11_unlike : GoodIn wsL_law wsX11_unlike := goodIn_r _ [322, 218, 323, 324, 325, 5, 326, 157, 220, 221, 222, 327, 328, 329, 330, 821, 822, 823, 824, 825, 826, 827, 828, 829, 830, 831, 832, 833, 834, 835, 836, 837, 838, 839, 840, 841, 842, 843, 844, 845, 846, 847, 848, 849] (by decide +kernel) (by decide +kernel)
set_option maxRecDepth 20000 in
theorem gL_law_X11_unlike : GoodIn wsL_law (wsV RL 44 RX11 yX11_unlike wsX11_unlike) := goodIn_app (goodIn_of _ (by decide +kernel)) ggL_law_X11_unlike
set_option maxRecDepth 20000 in
theorem ggL_law_X10_period : GoodIn wsL_law wsX10_period := goodIn_r _ [334, 15, 177, 311, 312, 313, 14, 314, 51, 335, 336, 337, 338, 339, 316, 317, 318, 270, 251, 252, 253, 49, 813, 814, 815, 816, 817, 818, 819, 820, 850, 851, 852] (by decide +kernel) (by decide +kernel)
set_option maxRecDepth 20000 in
theorem gL_law_X10_period : GoodIn wsL_law (wsV RL 45 RX10 yX10_period wsX10_period) := goodIn_app (goodIn_of _ (by decide +kernel)) ggL_law_X10_period
set_option maxRecDepth 20000 in
theorem ggL_law_X11_period : GoodIn wsL_law wsX11_period := goodIn_r _ [343, 218, 323, 324, 325, 5, 326, 157, 344, 345, 346, 347, 327, 328, 329, 330, 821, 822, 823, 824, 825, 826, 827, 828, 829, 830, 831, 832, 833, 834, 835, 836, 837, 838, 839, 840, 841, 842, 843, 844, 845, 846, 847, 848, 849] (by decide +kernel) (by decide +kernel)
set_option maxRecDepth 20000 in
theorem gL_law_X11_period : GoodIn wsL_law (wsV RL 48 RX11 yX11_period wsX11_period) := goodIn_app (goodIn_of _ (by decide +kernel)) ggL_law_X11_period
set_option maxRecDepth 20000 in
theorem ggL_law_X10_runOf : GoodIn wsL_law wsX10_runOf := goodIn_r _ [351, 177, 23, 15, 301, 352, 353, 354, 22, 355, 67, 66, 356, 357, 358, 359, 63, 64, 65, 360, 336, 337, 14, 338, 339, 316, 317, 318, 270, 251, 252, 253, 51, 49, 361, 362, 363, 364, 365, 366, 367, 368, 369, 813, 814, 815, 816, 817, 818, 819, 820, 855, 856, 857, 858, 859, 850, 851, 852] (by decide +kernel) (by decide +kernel)
set_option maxRecDepth 20000 in
theorem gL_law_X10_runOf : GoodIn wsL_law (wsV RL 49 RX10 yX10_runOf wsX10_runOf) := goodIn_app (goodIn_of _ (by decide +kernel)) ggL_law_X10_runOf
set_option maxRecDepth 20000 in
theorem ggL_law_X11_runOf : GoodIn wsL_law wsX11_runOf := goodIn_r _ [373, 218, 157, 306, 220, 221, 5, 222, 374, 375, 376, 377, 344, 345, 346, 347, 327, 328, 329, 330, 821, 822, 823, 824, 825, 826, 827, 828, 829, 830, 831, 832, 833, 834, 835, 836, 837, 838, 839, 840, 841, 842, 843, 844, 845, 846, 847, 848, 849] (by decide +kernel) (by decide +kernel)
set_option maxRecDepth 20000 in
theorem gL_law_X11_runOf : GoodIn wsL_law (wsV RL 52 RX11 yX11_runOf wsX11_runOf) := goodIn_app (goodIn_of _ (by decide +kernel)) ggL_law_X11_runOf
set_option maxRecDepth 20000 in
theorem ggL_law_X10_cheapest : GoodIn wsL_law wsX10_cheapest := goodIn_r _ [381, 15, 177, 27, 35, 311, 312, 313, 14, 314, 51, 382, 383, 384, 385, 73, 386, 80, 387, 388, 389, 390, 391, 79, 392, 393, 394, 395, 396, 397, 398, 78, 399, 89, 90, 91, 92, 84, 85, 400, 283, 284, 285, 50, 401, 251, 252, 253, 49, 180, 2, 181, 402, 403, 404, 405, 406, 93, 407, 408, 409, 410, 86, 87, 88, 411, 412, 413, 414, 415, 416, 417, 418, 419, 420, 421, 30, 422, 99, 423, 424, 98, 100, 101, 425, 426, 26, 427, 71, 428, 429, 430, 70, 431, 432, 433, 434, 435, 436, 102, 103, 104, 105, 437, 438, 439, 440, 282, 441, 442, 443, 444, 445, 446, 447, 34, 448, 123, 113, 114, 112, 117, 118, 110, 121, 119, 122, 120, 116, 449, 450, 451, 452, 453, 454, 455, 456, 457, 458, 459, 460, 461, 462, 463, 115, 464, 465, 466, 467, 468, 469, 470, 471, 111, 472, 473, 474, 475, 476, 477, 478, 479, 480, 481, 482, 483, 484, 813, 814, 815, 816, 817, 818, 819, 820, 850, 851, 852, 864, 865, 866, 867, 860, 861, 862, 863, 902, 903, 904, 905, 906, 907, 908, 909, 910, 911, 868, 869, 870, 871, 872, 873, 874, 875, 876, 877, 878, 879, 880, 881] (by decide +kernel) (by decide +kernel)
set_option maxRecDepth 20000 in
theorem gL_law_X10_cheapest : GoodIn wsL_law (wsV RL 53 RX10 yX10_cheapest wsX10_cheapest) := goodIn_app (goodIn_of _ (by decide +kernel)) ggL_law_X10_cheapest
set_option maxRecDepth 20000 in
theorem ggL_law_X11_cheapest : GoodIn wsL_law wsX11_cheapest := goodIn_r _ [488, 218, 157, 163, 489, 164, 165, 323, 324, 325, 5, 326, 220, 221, 222, 490, 491, 492, 493, 494, 495, 496, 497, 162, 498, 499, 500, 501, 502, 503, 504, 505, 506, 507, 508, 509, 510, 167, 511, 512, 513, 514, 515, 516, 517, 518, 519, 520, 521, 522, 168, 523, 524, 525, 526, 527, 528, 529, 530, 531, 532, 533, 534, 535, 536, 537, 538, 821, 822, 823, 824, 825, 826, 827, 828, 829, 830, 831, 832, 833, 834, 835, 836, 837, 838, 839, 840, 841, 842, 843, 844, 845, 846, 847, 848, 849] (by decide +kernel) (by decide +kernel)
set_option maxRecDepth 20000 in
theorem gL_law_X11_cheapest : GoodIn wsL_law (wsV RL 56 RX11 yX11_cheapest wsX11_cheapest) := goodIn_app (goodIn_of _ (by decide +kernel)) ggL_law_X11_cheapest
