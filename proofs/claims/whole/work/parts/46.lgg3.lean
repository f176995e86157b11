set_option maxRecDepth 20000 in
theorem ggL_law_X11_clearText : GoodIn wsL_law wsX11_clearText := goodIn_r _ [635, 623, 813, 814, 815, 816, 817, 818, 819, 820, 821, 822, 823, 824, 825, 826, 827, 828, 829, 830, 831, 832, 833, 834, 835, 836, 837, 838, 839, 840, 841] (by decide +kernel) (by decide +kernel)
set_option maxRecDepth 20000 in
theorem gL_law_X11_clearText : GoodIn wsL_law (wsV RL 81 RX11 yX11_clearText wsX11_clearText) := goodIn_app (goodIn_of _ (by decide +kernel)) ggL_law_X11_clearText
set_option maxRecDepth 20000 in
theorem ggL_law_X10_fault : GoodIn wsL_law wsX10_fault := goodIn_r _ [639, 173, 43, 293, 640, 641, 642, 42, 643, 148, 139, 140, 141, 142, 143, 144, 145, 146, 147, 644, 645, 646, 647, 648, 454, 386, 455, 138, 649, 650, 651, 652, 136, 653, 654, 655, 656, 657, 658, 659, 660, 661, 662, 663, 664, 665, 666, 667, 137, 668, 669, 670, 671, 672, 673, 674, 675, 676, 677, 678, 679, 680, 681, 682, 683, 684, 685, 686, 687, 688, 689, 690, 691, 692, 693, 694, 695, 696, 697, 698, 699, 700, 701, 702, 703, 805, 806, 807, 808, 809, 810, 811, 812, 881, 882, 883, 884, 885, 886, 887, 888, 889, 890, 891, 892, 893] (by decide +kernel) (by decide +kernel)
set_option maxRecDepth 20000 in
theorem gL_law_X10_fault : GoodIn wsL_law (wsV RL 82 RX10 yX10_fault wsX10_fault) := goodIn_app (goodIn_of _ (by decide +kernel)) ggL_law_X10_fault
set_option maxRecDepth 20000 in
theorem ggL_law_X11_fault : GoodIn wsL_law wsX11_fault := goodIn_r _ [707, 210, 298, 708, 709, 212, 213, 5, 214, 710, 711, 712, 713, 714, 715, 716, 717, 718, 719, 720, 721, 166, 623, 722, 723, 724, 725, 157, 726, 727, 728, 729, 165, 730, 731, 732, 733, 734, 735, 736, 737, 167, 168, 738, 739, 740, 741, 742, 743, 744, 745, 746, 747, 748, 749, 813, 814, 815, 816, 817, 818, 819, 820, 821, 822, 823, 824, 825, 826, 827, 828, 829, 830, 831, 832, 833, 834, 835, 836, 837, 838, 839, 840, 841] (by decide +kernel) (by decide +kernel)
set_option maxRecDepth 20000 in
theorem gL_law_X11_fault : GoodIn wsL_law (wsV RL 85 RX11 yX11_fault wsX11_fault) := goodIn_app (goodIn_of _ (by decide +kernel)) ggL_law_X11_fault
set_option maxRecDepth 20000 in
theorem ggL_law_X10_told : GoodIn wsL_law wsX10_told := goodIn_r _ [753, 173, 43, 228, 293, 15, 640, 641, 642, 42, 643, 148, 139, 140, 141, 142, 143, 144, 145, 146, 147, 644, 645, 646, 647, 648, 454, 386, 455, 138, 649, 650, 651, 652, 136, 653, 654, 655, 656, 657, 658, 659, 660, 661, 662, 663, 664, 665, 666, 667, 137, 668, 669, 670, 671, 672, 673, 674, 675, 676, 677, 678, 679, 680, 681, 682, 683, 684, 685, 686, 687, 688, 689, 690, 691, 692, 693, 694, 695, 696, 697, 698, 699, 700, 701, 702, 703, 754, 755, 756, 757, 758, 759, 275, 276, 14, 277, 50, 760, 761, 762, 763, 764, 243, 244, 245, 51, 49, 805, 806, 807, 808, 809, 810, 811, 812, 881, 882, 883, 884, 885, 886, 887, 888, 889, 890, 891, 892, 893, 842, 843, 844] (by decide +kernel) (by decide +kernel)
set_option maxRecDepth 20000 in
theorem gL_law_X10_told : GoodIn wsL_law (wsV RL 86 RX10 yX10_told wsX10_told) := goodIn_app (goodIn_of _ (by decide +kernel)) ggL_law_X10_told
set_option maxRecDepth 20000 in
theorem ggL_law_X11_told : GoodIn wsL_law wsX11_told := goodIn_r _ [768, 210, 233, 718, 153, 719, 720, 715, 717, 721, 165, 298, 212, 213, 5, 214, 710, 711, 712, 713, 714, 716, 166, 623, 722, 723, 724, 725, 157, 726, 727, 728, 729, 730, 731, 732, 733, 708, 709, 734, 735, 736, 737, 167, 168, 738, 739, 740, 741, 742, 743, 744, 745, 746, 747, 748, 749, 769, 770, 771, 772, 813, 814, 815, 816, 817, 818, 819, 820, 821, 822, 823, 824, 825, 826, 827, 828, 829, 830, 831, 832, 833, 834, 835, 836, 837, 838, 839, 840, 841] (by decide +kernel) (by decide +kernel)
set_option maxRecDepth 20000 in
theorem gL_law_X11_told : GoodIn wsL_law (wsV RL 89 RX11 yX11_told wsX11_told) := goodIn_app (goodIn_of _ (by decide +kernel)) ggL_law_X11_told
set_option maxRecDepth 20000 in
theorem ggL_law_X10_adopt : GoodIn wsL_law wsX10_adopt := goodIn_r _ [776, 43, 228, 15, 640, 641, 642, 42, 643, 148, 139, 140, 141, 142, 143, 144, 145, 146, 147, 644, 645, 646, 647, 648, 454, 386, 455, 138, 649, 650, 651, 652, 136, 653, 654, 655, 656, 657, 658, 659, 660, 661, 662, 663, 664, 665, 666, 667, 137, 668, 669, 670, 671, 672, 673, 674, 675, 676, 677, 678, 679, 680, 681, 682, 683, 684, 685, 686, 687, 688, 689, 690, 691, 692, 693, 694, 695, 696, 697, 698, 699, 700, 701, 702, 703, 178, 179, 180, 2, 181, 19, 182, 183, 184, 18, 185, 58, 57, 186, 187, 188, 189, 190, 191, 192, 14, 193, 49, 50, 51, 194, 195, 196, 197, 23, 27, 198, 199, 31, 200, 201, 35, 39, 754, 202, 203, 204, 205, 805, 806, 807, 808, 809, 810, 811, 812, 842, 843, 844, 881, 882, 883, 884, 885, 886, 887, 888, 889, 890, 891, 892, 893, 845, 846, 847, 848, 849, 850, 851, 856, 857, 858, 859, 852, 853, 854, 855, 860, 861, 862, 863, 864, 865, 866, 867, 868, 869, 870, 871, 872, 873, 874, 875, 876, 877, 878, 879, 880] (by decide +kernel) (by decide +kernel)
set_option maxRecDepth 20000 in
theorem gL_law_X10_adopt : GoodIn wsL_law (wsV RL 90 RX10 yX10_adopt wsX10_adopt) := goodIn_app (goodIn_of _ (by decide +kernel)) ggL_law_X10_adopt
set_option maxRecDepth 20000 in
theorem ggL_law_X11_adopt : GoodIn wsL_law wsX11_adopt := goodIn_r _ [780, 233, 715, 153, 165, 710, 711, 712, 5, 713, 714, 716, 717, 718, 719, 720, 721, 166, 623, 722, 723, 724, 725, 157, 212, 213, 214, 726, 727, 728, 729, 730, 731, 732, 733, 708, 709, 734, 735, 736, 737, 167, 168, 738, 739, 740, 741, 742, 743, 744, 745, 746, 747, 748, 749, 215, 216, 217, 218, 155, 219, 220, 221, 222, 210, 223, 154, 813, 814, 815, 816, 817, 818, 819, 820, 821, 822, 823, 824, 825, 826, 827, 828, 829, 830, 831, 832, 833, 834, 835, 836, 837, 838, 839, 840, 841] (by decide +kernel) (by decide +kernel)
set_option maxRecDepth 20000 in
theorem gL_law_X11_adopt : GoodIn wsL_law (wsV RL 93 RX11 yX11_adopt wsX11_adopt) := goodIn_app (goodIn_of _ (by decide +kernel)) ggL_law_X11_adopt
set_option maxRecDepth 20000 in
theorem ggL_law_X10_count : GoodIn wsL_law wsX10_count := goodIn_r _ [784, 15, 23, 19, 43, 173, 274, 275, 276, 14, 277, 50, 344, 345, 346, 22, 347, 67, 66, 348, 349, 350, 351, 63, 64, 65, 352, 328, 329, 330, 331, 308, 309, 310, 262, 243, 244, 245, 51, 49, 353, 354, 355, 356, 805, 806, 807, 808, 809, 810, 811, 812, 842, 843, 844, 847, 848, 849, 850, 851, 845, 846, 881, 882, 883, 884, 885, 886, 887, 888, 889, 890, 891, 892, 893] (by decide +kernel) (by decide +kernel)
set_option maxRecDepth 20000 in
theorem gL_law_X10_count : GoodIn wsL_law (wsV RL 94 RX10 yX10_count wsX10_count) := goodIn_app (goodIn_of _ (by decide +kernel)) ggL_law_X10_count
set_option maxRecDepth 20000 in
theorem ggL_law_X11_count : GoodIn wsL_law wsX11_count := goodIn_r _ [788, 153, 223, 623, 210, 789, 790, 791, 5, 792, 366, 367, 368, 369, 336, 337, 338, 339, 319, 320, 321, 322, 212, 213, 214, 813, 814, 815, 816, 817, 818, 819, 820, 821, 822, 823, 824, 825, 826, 827, 828, 829, 830, 831, 832, 833, 834, 835, 836, 837, 838, 839, 840, 841] (by decide +kernel) (by decide +kernel)
set_option maxRecDepth 20000 in
theorem gL_law_X11_count : GoodIn wsL_law (wsV RL 97 RX11 yX11_count wsX11_count) := goodIn_app (goodIn_of _ (by decide +kernel)) ggL_law_X11_count
set_option maxRecDepth 20000 in
theorem ggL_law_X10_undo : GoodIn wsL_law wsX10_undo := goodIn_r _ [796, 19, 228, 15, 797, 798, 799, 18, 800, 58, 57, 190, 191, 192, 14, 193, 49, 50, 51, 194, 195, 196, 2, 197, 23, 27, 198, 199, 31, 200, 201, 35, 39, 805, 806, 807, 808, 809, 810, 811, 812, 845, 846, 842, 843, 844, 847, 848, 849, 850, 851, 856, 857, 858, 859, 852, 853, 854, 855, 860, 861, 862, 863, 864, 865, 866, 867, 868, 869, 870, 871, 872, 873, 874, 875, 876, 877, 878, 879, 880] (by decide +kernel) (by decide +kernel)
set_option maxRecDepth 20000 in
theorem gL_law_X10_undo : GoodIn wsL_law (wsV RL 98 RX10 yX10_undo wsX10_undo) := goodIn_app (goodIn_of _ (by decide +kernel)) ggL_law_X10_undo
set_option maxRecDepth 20000 in
theorem ggL_law_X11_undo : GoodIn wsL_law wsX11_undo := goodIn_r _ [804, 223, 233, 153, 154, 813, 814, 815, 816, 817, 818, 819, 820, 821, 822, 823, 824, 825, 826, 827, 828, 829, 830, 831, 832, 833, 834, 835, 836, 837, 838, 839, 840, 841] (by decide +kernel) (by decide +kernel)
set_option maxRecDepth 20000 in
theorem gL_law_X11_undo : GoodIn wsL_law (wsV RL 101 RX11 yX11_undo wsX11_undo) := goodIn_app (goodIn_of _ (by decide +kernel)) ggL_law_X11_undo
