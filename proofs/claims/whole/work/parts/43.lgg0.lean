set_option maxRecDepth 20000 in
theorem ggL_law_X10_init : GoodIn wsL_law wsX10_init := goodIn_r _ [8, 9, 10, 11, 12, 13, 14, 15, 16, 17, 18, 19, 20, 21, 22, 23, 24, 25, 26, 27, 28, 29, 30, 31, 32, 33, 34, 35, 36, 37, 38, 39, 40, 41, 42, 43, 44, 45, 46, 47, 48, 49, 50, 51, 52, 53, 54, 55, 56, 57, 58, 59, 60, 61, 62, 63, 64, 65, 66, 67, 68, 69, 70, 71, 72, 73, 74, 75, 76, 77, 78, 79, 80, 81, 82, 83, 84, 85, 86, 87, 88, 89, 90, 91, 92, 93, 94, 95, 96, 97, 98, 99, 100, 2, 101, 102, 103, 104, 105, 106, 107, 108, 109, 110, 111, 112, 113, 114, 115, 116, 117, 118, 119, 120, 121, 122, 123, 124, 125, 126, 127, 128, 129, 130, 131, 132, 133, 134, 135, 136, 137, 138, 139, 140, 141, 142, 143, 144, 145, 146, 147, 148, 149, 150, 151, 152, 850, 851, 852, 813, 814, 815, 816, 817, 818, 819, 820, 853, 854, 855, 856, 857, 858, 859, 860, 861, 862, 863, 864, 865, 866, 867, 868, 869, 870, 871, 872, 873, 874, 875, 876, 877, 878, 879, 880, 881, 882, 883, 884, 885, 886, 887, 888, 889, 890, 891, 892, 893, 894, 895, 896, 897, 898, 899, 900, 901, 902, 903, 904, 905, 906, 907, 908, 909, 910, 911] (by decide +kernel) (by decide +kernel)
set_option maxRecDepth 20000 in
theorem gL_law_X10_init : GoodIn wsL_law (wsX10_init) := ggL_law_X10_init
set_option maxRecDepth 20000 in
theorem ggL_law_X11_init : GoodIn wsL_law wsX11_init := goodIn_r _ [155, 156, 10, 11, 48, 157, 158, 159, 160, 161, 162, 163, 164, 165, 97, 166, 167, 168, 169, 170, 171, 172, 821, 822, 823, 824, 825, 826, 827, 828, 829, 830, 831, 832, 833, 834, 835, 836, 837, 838, 839, 840, 841, 842, 843, 844, 845, 846, 847, 848, 849] (by decide +kernel) (by decide +kernel)
set_option maxRecDepth 20000 in
theorem gL_law_X11_init : GoodIn wsL_law (wsX11_init) := ggL_law_X11_init
set_option maxRecDepth 20000 in
theorem ggL_law_X10_append : GoodIn wsL_law wsX10_append := goodIn_r _ [176, 177, 15, 178, 179, 180, 2, 181, 182, 183, 184, 185, 19, 186, 187, 188, 18, 189, 58, 190, 191, 192, 193, 57, 194, 195, 196, 197, 198, 199, 200, 14, 201, 49, 50, 51, 202, 203, 204, 205, 23, 27, 206, 207, 31, 208, 209, 35, 39, 210, 211, 212, 213, 813, 814, 815, 816, 817, 818, 819, 820, 850, 851, 852, 853, 854, 855, 856, 857, 858, 859, 864, 865, 866, 867, 860, 861, 862, 863, 868, 869, 870, 871, 872, 873, 874, 875, 876, 877, 878, 879, 880, 881, 882, 883, 884, 885, 886, 887, 888] (by decide +kernel) (by decide +kernel)
set_option maxRecDepth 20000 in
theorem gL_law_X10_append : GoodIn wsL_law (wsV RL 13 RX10 yX10_append wsX10_append) := goodIn_app (goodIn_of _ (by decide +kernel)) ggL_law_X10_append
set_option maxRecDepth 20000 in
theorem ggL_law_X11_append : GoodIn wsL_law wsX11_append := goodIn_r _ [217, 218, 157, 219, 220, 221, 5, 222, 223, 224, 225, 226, 159, 227, 228, 229, 230, 231, 158, 821, 822, 823, 824, 825, 826, 827, 828, 829, 830, 831, 832, 833, 834, 835, 836, 837, 838, 839, 840, 841, 842, 843, 844, 845, 846, 847, 848, 849] (by decide +kernel) (by decide +kernel)
set_option maxRecDepth 20000 in
theorem gL_law_X11_append : GoodIn wsL_law (wsV RL 17 RX11 yX11_append wsX11_append) := goodIn_app (goodIn_of _ (by decide +kernel)) ggL_law_X11_append
set_option maxRecDepth 20000 in
theorem ggL_law_X10_cut : GoodIn wsL_law wsX10_cut := goodIn_r _ [235, 177, 15, 236, 182, 183, 184, 2, 185, 19, 186, 187, 188, 18, 189, 58, 190, 191, 192, 193, 57, 194, 195, 196, 197, 198, 199, 200, 14, 201, 49, 50, 51, 202, 203, 204, 205, 23, 27, 206, 207, 31, 208, 209, 35, 39, 813, 814, 815, 816, 817, 818, 819, 820, 850, 851, 852, 853, 854, 855, 856, 857, 858, 859, 864, 865, 866, 867, 860, 861, 862, 863, 868, 869, 870, 871, 872, 873, 874, 875, 876, 877, 878, 879, 880, 881, 882, 883, 884, 885, 886, 887, 888] (by decide +kernel) (by decide +kernel)
set_option maxRecDepth 20000 in
theorem gL_law_X10_cut : GoodIn wsL_law (wsV RL 18 RX10 yX10_cut wsX10_cut) := goodIn_app (goodIn_of _ (by decide +kernel)) ggL_law_X10_cut
set_option maxRecDepth 20000 in
theorem ggL_law_X11_cut : GoodIn wsL_law wsX11_cut := goodIn_r _ [240, 218, 157, 241, 220, 221, 5, 222, 223, 224, 225, 226, 159, 227, 228, 229, 230, 231, 158, 821, 822, 823, 824, 825, 826, 827, 828, 829, 830, 831, 832, 833, 834, 835, 836, 837, 838, 839, 840, 841, 842, 843, 844, 845, 846, 847, 848, 849] (by decide +kernel) (by decide +kernel)
set_option maxRecDepth 20000 in
theorem gL_law_X11_cut : GoodIn wsL_law (wsV RL 21 RX11 yX11_cut wsX11_cut) := goodIn_app (goodIn_of _ (by decide +kernel)) ggL_law_X11_cut
set_option maxRecDepth 20000 in
theorem ggL_law_X10_change : GoodIn wsL_law wsX10_change := goodIn_r _ [245, 15, 177, 246, 247, 248, 14, 249, 51, 179, 180, 2, 181, 182, 183, 184, 185, 19, 186, 187, 188, 18, 189, 58, 190, 191, 192, 193, 57, 194, 195, 196, 197, 198, 199, 200, 201, 49, 50, 202, 203, 204, 205, 23, 27, 206, 207, 31, 208, 209, 35, 39, 250, 251, 252, 253, 254, 255, 256, 257, 813, 814, 815, 816, 817, 818, 819, 820, 850, 851, 852, 853, 854, 855, 856, 857, 858, 859, 864, 865, 866, 867, 860, 861, 862, 863, 868, 869, 870, 871, 872, 873, 874, 875, 876, 877, 878, 879, 880, 881, 882, 883, 884, 885, 886, 887, 888] (by decide +kernel) (by decide +kernel)
set_option maxRecDepth 20000 in
theorem gL_law_X10_change : GoodIn wsL_law (wsV RL 22 RX10 yX10_change wsX10_change) := goodIn_app (goodIn_of _ (by decide +kernel)) ggL_law_X10_change
set_option maxRecDepth 20000 in
theorem ggL_law_X11_change : GoodIn wsL_law wsX11_change := goodIn_r _ [261, 157, 218, 220, 221, 5, 222, 223, 224, 225, 226, 159, 227, 228, 229, 230, 231, 158, 821, 822, 823, 824, 825, 826, 827, 828, 829, 830, 831, 832, 833, 834, 835, 836, 837, 838, 839, 840, 841, 842, 843, 844, 845, 846, 847, 848, 849] (by decide +kernel) (by decide +kernel)
set_option maxRecDepth 20000 in
theorem gL_law_X11_change : GoodIn wsL_law (wsV RL 26 RX11 yX11_change wsX11_change) := goodIn_app (goodIn_of _ (by decide +kernel)) ggL_law_X11_change
set_option maxRecDepth 20000 in
theorem ggL_law_X10_turn : GoodIn wsL_law wsX10_turn := goodIn_r _ [265, 15, 236, 182, 183, 184, 2, 185, 19, 186, 187, 188, 18, 189, 58, 190, 191, 192, 193, 57, 194, 195, 196, 197, 198, 199, 200, 14, 201, 49, 50, 51, 202, 203, 204, 205, 23, 27, 206, 207, 31, 208, 209, 35, 39, 266, 267, 268, 269, 270, 251, 252, 253, 271, 255, 256, 257, 250, 813, 814, 815, 816, 817, 818, 819, 820, 850, 851, 852, 853, 854, 855, 856, 857, 858, 859, 864, 865, 866, 867, 860, 861, 862, 863, 868, 869, 870, 871, 872, 873, 874, 875, 876, 877, 878, 879, 880, 881, 882, 883, 884, 885, 886, 887, 888] (by decide +kernel) (by decide +kernel)
set_option maxRecDepth 20000 in
theorem gL_law_X10_turn : GoodIn wsL_law (wsV RL 27 RX10 yX10_turn wsX10_turn) := goodIn_app (goodIn_of _ (by decide +kernel)) ggL_law_X10_turn
set_option maxRecDepth 20000 in
theorem ggL_law_X11_turn : GoodIn wsL_law wsX11_turn := goodIn_r _ [275, 157, 241, 159, 223, 224, 225, 5, 226, 227, 228, 229, 230, 218, 231, 158, 821, 822, 823, 824, 825, 826, 827, 828, 829, 830, 831, 832, 833, 834, 835, 836, 837, 838, 839, 840, 841, 842, 843, 844, 845, 846, 847, 848, 849] (by decide +kernel) (by decide +kernel)
set_option maxRecDepth 20000 in
theorem gL_law_X11_turn : GoodIn wsL_law (wsV RL 31 RX11 yX11_turn wsX11_turn) := goodIn_app (goodIn_of _ (by decide +kernel)) ggL_law_X11_turn
set_option maxRecDepth 20000 in
theorem ggL_law_X10_set : GoodIn wsL_law wsX10_set := goodIn_r _ [279, 280, 281, 177, 15, 182, 183, 184, 2, 185, 19, 186, 187, 188, 18, 189, 58, 190, 191, 192, 193, 57, 194, 195, 196, 197, 198, 199, 200, 14, 201, 49, 50, 51, 202, 203, 204, 205, 23, 27, 206, 207, 31, 208, 209, 35, 39, 282, 283, 284, 285, 286, 287, 288, 289, 813, 814, 815, 816, 817, 818, 819, 820, 853, 854, 850, 851, 852, 855, 856, 857, 858, 859, 864, 865, 866, 867, 860, 861, 862, 863, 868, 869, 870, 871, 872, 873, 874, 875, 876, 877, 878, 879, 880, 881, 882, 883, 884, 885, 886, 887, 888] (by decide +kernel) (by decide +kernel)
set_option maxRecDepth 20000 in
theorem gL_law_X10_set : GoodIn wsL_law (wsV RL 32 RX10 yX10_set wsX10_set) := goodIn_app (goodIn_of _ (by decide +kernel)) ggL_law_X10_set
