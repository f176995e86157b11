set_option maxRecDepth 20000 in
theorem ggL_law_X10_init : GoodIn wsL_law wsX10_init := goodIn_r _ [8, 9, 10, 11, 12, 13, 14, 15, 16, 17, 18, 19, 20, 21, 22, 23, 24, 25, 26, 27, 28, 29, 30, 31, 32, 33, 34, 35, 36, 37, 38, 39, 40, 41, 42, 43, 44, 45, 46, 47, 48, 49, 50, 51, 52, 53, 54, 55, 56, 57, 58, 59, 60, 61, 62, 63, 64, 65, 66, 67, 68, 69, 70, 71, 72, 73, 74, 75, 76, 77, 78, 79, 80, 81, 82, 83, 84, 85, 86, 87, 88, 89, 90, 91, 92, 93, 94, 95, 96, 97, 98, 99, 100, 2, 101, 102, 103, 104, 105, 106, 107, 108, 109, 110, 111, 112, 113, 114, 115, 116, 117, 118, 119, 120, 121, 122, 123, 124, 125, 126, 127, 128, 129, 130, 131, 132, 133, 134, 135, 136, 137, 138, 139, 140, 141, 142, 143, 144, 145, 146, 147, 148, 842, 843, 844, 805, 806, 807, 808, 809, 810, 811, 812, 845, 846, 847, 848, 849, 850, 851, 852, 853, 854, 855, 856, 857, 858, 859, 860, 861, 862, 863, 864, 865, 866, 867, 868, 869, 870, 871, 872, 873, 874, 875, 876, 877, 878, 879, 880, 881, 882, 883, 884, 885, 886, 887, 888, 889, 890, 891, 892, 893, 894, 895, 896, 897, 898, 899, 900, 901, 902, 903] (by decide +kernel) (by decide +kernel)
set_option maxRecDepth 20000 in
theorem gL_law_X10_init : GoodIn wsL_law (wsX10_init) := ggL_law_X10_init
set_option maxRecDepth 20000 in
theorem ggL_law_X11_init : GoodIn wsL_law wsX11_init := goodIn_r _ [151, 152, 10, 11, 48, 153, 154, 155, 156, 157, 158, 159, 160, 161, 97, 162, 163, 164, 165, 166, 167, 168, 813, 814, 815, 816, 817, 818, 819, 820, 821, 822, 823, 824, 825, 826, 827, 828, 829, 830, 831, 832, 833, 834, 835, 836, 837, 838, 839, 840, 841] (by decide +kernel) (by decide +kernel)
set_option maxRecDepth 20000 in
theorem gL_law_X11_init : GoodIn wsL_law (wsX11_init) := ggL_law_X11_init
set_option maxRecDepth 20000 in
theorem ggL_law_X10_append : GoodIn wsL_law wsX10_append := goodIn_r _ [172, 173, 15, 174, 175, 176, 2, 177, 178, 179, 180, 181, 19, 182, 183, 184, 18, 185, 58, 57, 186, 187, 188, 189, 190, 191, 192, 14, 193, 49, 50, 51, 194, 195, 196, 197, 23, 27, 198, 199, 31, 200, 201, 35, 39, 202, 203, 204, 205, 805, 806, 807, 808, 809, 810, 811, 812, 842, 843, 844, 845, 846, 847, 848, 849, 850, 851, 856, 857, 858, 859, 852, 853, 854, 855, 860, 861, 862, 863, 864, 865, 866, 867, 868, 869, 870, 871, 872, 873, 874, 875, 876, 877, 878, 879, 880] (by decide +kernel) (by decide +kernel)
set_option maxRecDepth 20000 in
theorem gL_law_X10_append : GoodIn wsL_law (wsV RL 13 RX10 yX10_append wsX10_append) := goodIn_app (goodIn_of _ (by decide +kernel)) ggL_law_X10_append
set_option maxRecDepth 20000 in
theorem ggL_law_X11_append : GoodIn wsL_law wsX11_append := goodIn_r _ [209, 210, 153, 211, 212, 213, 5, 214, 215, 216, 217, 218, 155, 219, 220, 221, 222, 223, 154, 813, 814, 815, 816, 817, 818, 819, 820, 821, 822, 823, 824, 825, 826, 827, 828, 829, 830, 831, 832, 833, 834, 835, 836, 837, 838, 839, 840, 841] (by decide +kernel) (by decide +kernel)
set_option maxRecDepth 20000 in
theorem gL_law_X11_append : GoodIn wsL_law (wsV RL 17 RX11 yX11_append wsX11_append) := goodIn_app (goodIn_of _ (by decide +kernel)) ggL_law_X11_append
set_option maxRecDepth 20000 in
theorem ggL_law_X10_cut : GoodIn wsL_law wsX10_cut := goodIn_r _ [227, 173, 15, 228, 178, 179, 180, 2, 181, 19, 182, 183, 184, 18, 185, 58, 57, 186, 187, 188, 189, 190, 191, 192, 14, 193, 49, 50, 51, 194, 195, 196, 197, 23, 27, 198, 199, 31, 200, 201, 35, 39, 805, 806, 807, 808, 809, 810, 811, 812, 842, 843, 844, 845, 846, 847, 848, 849, 850, 851, 856, 857, 858, 859, 852, 853, 854, 855, 860, 861, 862, 863, 864, 865, 866, 867, 868, 869, 870, 871, 872, 873, 874, 875, 876, 877, 878, 879, 880] (by decide +kernel) (by decide +kernel)
set_option maxRecDepth 20000 in
theorem gL_law_X10_cut : GoodIn wsL_law (wsV RL 18 RX10 yX10_cut wsX10_cut) := goodIn_app (goodIn_of _ (by decide +kernel)) ggL_law_X10_cut
set_option maxRecDepth 20000 in
theorem ggL_law_X11_cut : GoodIn wsL_law wsX11_cut := goodIn_r _ [232, 210, 153, 233, 212, 213, 5, 214, 215, 216, 217, 218, 155, 219, 220, 221, 222, 223, 154, 813, 814, 815, 816, 817, 818, 819, 820, 821, 822, 823, 824, 825, 826, 827, 828, 829, 830, 831, 832, 833, 834, 835, 836, 837, 838, 839, 840, 841] (by decide +kernel) (by decide +kernel)
set_option maxRecDepth 20000 in
theorem gL_law_X11_cut : GoodIn wsL_law (wsV RL 21 RX11 yX11_cut wsX11_cut) := goodIn_app (goodIn_of _ (by decide +kernel)) ggL_law_X11_cut
set_option maxRecDepth 20000 in
theorem ggL_law_X10_change : GoodIn wsL_law wsX10_change := goodIn_r _ [237, 15, 173, 238, 239, 240, 14, 241, 51, 175, 176, 2, 177, 178, 179, 180, 181, 19, 182, 183, 184, 18, 185, 58, 57, 186, 187, 188, 189, 190, 191, 192, 193, 49, 50, 194, 195, 196, 197, 23, 27, 198, 199, 31, 200, 201, 35, 39, 242, 243, 244, 245, 246, 247, 248, 249, 805, 806, 807, 808, 809, 810, 811, 812, 842, 843, 844, 845, 846, 847, 848, 849, 850, 851, 856, 857, 858, 859, 852, 853, 854, 855, 860, 861, 862, 863, 864, 865, 866, 867, 868, 869, 870, 871, 872, 873, 874, 875, 876, 877, 878, 879, 880] (by decide +kernel) (by decide +kernel)
set_option maxRecDepth 20000 in
theorem gL_law_X10_change : GoodIn wsL_law (wsV RL 22 RX10 yX10_change wsX10_change) := goodIn_app (goodIn_of _ (by decide +kernel)) ggL_law_X10_change
set_option maxRecDepth 20000 in
theorem ggL_law_X11_change : GoodIn wsL_law wsX11_change := goodIn_r _ [253, 153, 210, 212, 213, 5, 214, 215, 216, 217, 218, 155, 219, 220, 221, 222, 223, 154, 813, 814, 815, 816, 817, 818, 819, 820, 821, 822, 823, 824, 825, 826, 827, 828, 829, 830, 831, 832, 833, 834, 835, 836, 837, 838, 839, 840, 841] (by decide +kernel) (by decide +kernel)
set_option maxRecDepth 20000 in
theorem gL_law_X11_change : GoodIn wsL_law (wsV RL 26 RX11 yX11_change wsX11_change) := goodIn_app (goodIn_of _ (by decide +kernel)) ggL_law_X11_change
set_option maxRecDepth 20000 in
theorem ggL_law_X10_turn : GoodIn wsL_law wsX10_turn := goodIn_r _ [257, 15, 228, 178, 179, 180, 2, 181, 19, 182, 183, 184, 18, 185, 58, 57, 186, 187, 188, 189, 190, 191, 192, 14, 193, 49, 50, 51, 194, 195, 196, 197, 23, 27, 198, 199, 31, 200, 201, 35, 39, 258, 259, 260, 261, 262, 243, 244, 245, 263, 247, 248, 249, 242, 805, 806, 807, 808, 809, 810, 811, 812, 842, 843, 844, 845, 846, 847, 848, 849, 850, 851, 856, 857, 858, 859, 852, 853, 854, 855, 860, 861, 862, 863, 864, 865, 866, 867, 868, 869, 870, 871, 872, 873, 874, 875, 876, 877, 878, 879, 880] (by decide +kernel) (by decide +kernel)
set_option maxRecDepth 20000 in
theorem gL_law_X10_turn : GoodIn wsL_law (wsV RL 27 RX10 yX10_turn wsX10_turn) := goodIn_app (goodIn_of _ (by decide +kernel)) ggL_law_X10_turn
set_option maxRecDepth 20000 in
theorem ggL_law_X11_turn : GoodIn wsL_law wsX11_turn := goodIn_r _ [267, 153, 233, 155, 215, 216, 217, 5, 218, 219, 220, 221, 222, 210, 223, 154, 813, 814, 815, 816, 817, 818, 819, 820, 821, 822, 823, 824, 825, 826, 827, 828, 829, 830, 831, 832, 833, 834, 835, 836, 837, 838, 839, 840, 841] (by decide +kernel) (by decide +kernel)
set_option maxRecDepth 20000 in
theorem gL_law_X11_turn : GoodIn wsL_law (wsV RL 31 RX11 yX11_turn wsX11_turn) := goodIn_app (goodIn_of _ (by decide +kernel)) ggL_law_X11_turn
set_option maxRecDepth 20000 in
theorem ggL_law_X10_set : GoodIn wsL_law wsX10_set := goodIn_r _ [271, 272, 273, 173, 15, 178, 179, 180, 2, 181, 19, 182, 183, 184, 18, 185, 58, 57, 186, 187, 188, 189, 190, 191, 192, 14, 193, 49, 50, 51, 194, 195, 196, 197, 23, 27, 198, 199, 31, 200, 201, 35, 39, 274, 275, 276, 277, 278, 279, 280, 281, 805, 806, 807, 808, 809, 810, 811, 812, 845, 846, 842, 843, 844, 847, 848, 849, 850, 851, 856, 857, 858, 859, 852, 853, 854, 855, 860, 861, 862, 863, 864, 865, 866, 867, 868, 869, 870, 871, 872, 873, 874, 875, 876, 877, 878, 879, 880] (by decide +kernel) (by decide +kernel)
set_option maxRecDepth 20000 in
theorem gL_law_X10_set : GoodIn wsL_law (wsV RL 32 RX10 yX10_set wsX10_set) := goodIn_app (goodIn_of _ (by decide +kernel)) ggL_law_X10_set
