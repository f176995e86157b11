set_option maxRecDepth 20000 in
theorem ggL_law_X11_clearText : GoodIn wsL_law wsX11_clearText := goodIn_r _ [643, 631, 821, 822, 823, 824, 825, 826, 827, 828, 829, 830, 831, 832, 833, 834, 835, 836, 837, 838, 839, 840, 841, 842, 843, 844, 845, 846, 847, 848, 849] (by decide +kernel) (by decide +kernel)
set_option maxRecDepth 20000 in
theorem gL_law_X11_clearText : GoodIn wsL_law (wsV RL 81 RX11 yX11_clearText wsX11_clearText) := goodIn_app (goodIn_of _ (by decide +kernel)) ggL_law_X11_clearText
set_option maxRecDepth 20000 in
theorem ggL_law_X10_fault : GoodIn wsL_law wsX10_fault := goodIn_r _ [647, 177, 43, 301, 648, 649, 650, 42, 651, 152, 143, 144, 145, 146, 147, 148, 149, 150, 151, 652, 653, 654, 655, 656, 462, 394, 463, 142, 657, 658, 659, 660, 140, 661, 662, 663, 664, 665, 666, 667, 668, 669, 670, 671, 672, 673, 674, 675, 141, 676, 677, 678, 679, 680, 681, 682, 683, 684, 685, 686, 687, 688, 689, 690, 691, 692, 693, 694, 695, 696, 697, 698, 699, 700, 701, 702, 703, 704, 705, 706, 707, 708, 709, 710, 711, 813, 814, 815, 816, 817, 818, 819, 820, 889, 890, 891, 892, 893, 894, 895, 896, 897, 898, 899, 900, 901] (by decide +kernel) (by decide +kernel)
set_option maxRecDepth 20000 in
theorem gL_law_X10_fault : GoodIn wsL_law (wsV RL 82 RX10 yX10_fault wsX10_fault) := goodIn_app (goodIn_of _ (by decide +kernel)) ggL_law_X10_fault
set_option maxRecDepth 20000 in
theorem ggL_law_X11_fault : GoodIn wsL_law wsX11_fault := goodIn_r _ [715, 218, 306, 716, 717, 220, 221, 5, 222, 718, 719, 720, 721, 722, 723, 724, 725, 726, 727, 728, 729, 170, 631, 730, 731, 732, 733, 161, 734, 735, 736, 737, 169, 738, 739, 740, 741, 742, 743, 744, 745, 171, 172, 746, 747, 748, 749, 750, 751, 752, 753, 754, 755, 756, 757, 821, 822, 823, 824, 825, 826, 827, 828, 829, 830, 831, 832, 833, 834, 835, 836, 837, 838, 839, 840, 841, 842, 843, 844, 845, 846, 847, 848, 849] (by decide +kernel) (by decide +kernel)
set_option maxRecDepth 20000 in
theorem gL_law_X11_fault : GoodIn wsL_law (wsV RL 85 RX11 yX11_fault wsX11_fault) := goodIn_app (goodIn_of _ (by decide +kernel)) ggL_law_X11_fault
set_option maxRecDepth 20000 in
theorem ggL_law_X10_told : GoodIn wsL_law wsX10_told := goodIn_r _ [761, 177, 43, 236, 301, 15, 648, 649, 650, 42, 651, 152, 143, 144, 145, 146, 147, 148, 149, 150, 151, 652, 653, 654, 655, 656, 462, 394, 463, 142, 657, 658, 659, 660, 140, 661, 662, 663, 664, 665, 666, 667, 668, 669, 670, 671, 672, 673, 674, 675, 141, 676, 677, 678, 679, 680, 681, 682, 683, 684, 685, 686, 687, 688, 689, 690, 691, 692, 693, 694, 695, 696, 697, 698, 699, 700, 701, 702, 703, 704, 705, 706, 707, 708, 709, 710, 711, 762, 763, 764, 765, 766, 767, 283, 284, 14, 285, 50, 768, 769, 770, 771, 772, 251, 252, 253, 51, 49, 813, 814, 815, 816, 817, 818, 819, 820, 889, 890, 891, 892, 893, 894, 895, 896, 897, 898, 899, 900, 901, 850, 851, 852] (by decide +kernel) (by decide +kernel)
set_option maxRecDepth 20000 in
theorem gL_law_X10_told : GoodIn wsL_law (wsV RL 86 RX10 yX10_told wsX10_told) := goodIn_app (goodIn_of _ (by decide +kernel)) ggL_law_X10_told
set_option maxRecDepth 20000 in
theorem ggL_law_X11_told : GoodIn wsL_law wsX11_told := goodIn_r _ [776, 218, 241, 726, 157, 727, 728, 723, 725, 729, 169, 306, 220, 221, 5, 222, 718, 719, 720, 721, 722, 724, 170, 631, 730, 731, 732, 733, 161, 734, 735, 736, 737, 738, 739, 740, 741, 716, 717, 742, 743, 744, 745, 171, 172, 746, 747, 748, 749, 750, 751, 752, 753, 754, 755, 756, 757, 777, 778, 779, 780, 821, 822, 823, 824, 825, 826, 827, 828, 829, 830, 831, 832, 833, 834, 835, 836, 837, 838, 839, 840, 841, 842, 843, 844, 845, 846, 847, 848, 849] (by decide +kernel) (by decide +kernel)
set_option maxRecDepth 20000 in
theorem gL_law_X11_told : GoodIn wsL_law (wsV RL 89 RX11 yX11_told wsX11_told) := goodIn_app (goodIn_of _ (by decide +kernel)) ggL_law_X11_told
set_option maxRecDepth 20000 in
theorem ggL_law_X10_adopt : GoodIn wsL_law wsX10_adopt := goodIn_r _ [784, 43, 236, 15, 648, 649, 650, 42, 651, 152, 143, 144, 145, 146, 147, 148, 149, 150, 151, 652, 653, 654, 655, 656, 462, 394, 463, 142, 657, 658, 659, 660, 140, 661, 662, 663, 664, 665, 666, 667, 668, 669, 670, 671, 672, 673, 674, 675, 141, 676, 677, 678, 679, 680, 681, 682, 683, 684, 685, 686, 687, 688, 689, 690, 691, 692, 693, 694, 695, 696, 697, 698, 699, 700, 701, 702, 703, 704, 705, 706, 707, 708, 709, 710, 711, 182, 183, 184, 2, 185, 19, 186, 187, 188, 18, 189, 58, 190, 191, 192, 193, 57, 194, 195, 196, 197, 198, 199, 200, 14, 201, 49, 50, 51, 202, 203, 204, 205, 23, 27, 206, 207, 31, 208, 209, 35, 39, 762, 210, 211, 212, 213, 813, 814, 815, 816, 817, 818, 819, 820, 850, 851, 852, 889, 890, 891, 892, 893, 894, 895, 896, 897, 898, 899, 900, 901, 853, 854, 855, 856, 857, 858, 859, 864, 865, 866, 867, 860, 861, 862, 863, 868, 869, 870, 871, 872, 873, 874, 875, 876, 877, 878, 879, 880, 881, 882, 883, 884, 885, 886, 887, 888] (by decide +kernel) (by decide +kernel)
set_option maxRecDepth 20000 in
theorem gL_law_X10_adopt : GoodIn wsL_law (wsV RL 90 RX10 yX10_adopt wsX10_adopt) := goodIn_app (goodIn_of _ (by decide +kernel)) ggL_law_X10_adopt
set_option maxRecDepth 20000 in
theorem ggL_law_X11_adopt : GoodIn wsL_law wsX11_adopt := goodIn_r _ [788, 241, 723, 157, 169, 718, 719, 720, 5, 721, 722, 724, 725, 726, 727, 728, 729, 170, 631, 730, 731, 732, 733, 161, 220, 221, 222, 734, 735, 736, 737, 738, 739, 740, 741, 716, 717, 742, 743, 744, 745, 171, 172, 746, 747, 748, 749, 750, 751, 752, 753, 754, 755, 756, 757, 223, 224, 225, 226, 159, 227, 228, 229, 230, 218, 231, 158, 821, 822, 823, 824, 825, 826, 827, 828, 829, 830, 831, 832, 833, 834, 835, 836, 837, 838, 839, 840, 841, 842, 843, 844, 845, 846, 847, 848, 849] (by decide +kernel) (by decide +kernel)
set_option maxRecDepth 20000 in
theorem gL_law_X11_adopt : GoodIn wsL_law (wsV RL 93 RX11 yX11_adopt wsX11_adopt) := goodIn_app (goodIn_of _ (by decide +kernel)) ggL_law_X11_adopt
set_option maxRecDepth 20000 in
theorem ggL_law_X10_count : GoodIn wsL_law wsX10_count := goodIn_r _ [792, 15, 23, 19, 43, 177, 282, 283, 284, 14, 285, 50, 352, 353, 354, 22, 355, 67, 66, 356, 357, 358, 359, 63, 64, 65, 360, 336, 337, 338, 339, 316, 317, 318, 270, 251, 252, 253, 51, 49, 361, 362, 363, 364, 813, 814, 815, 816, 817, 818, 819, 820, 850, 851, 852, 855, 856, 857, 858, 859, 853, 854, 889, 890, 891, 892, 893, 894, 895, 896, 897, 898, 899, 900, 901] (by decide +kernel) (by decide +kernel)
set_option maxRecDepth 20000 in
theorem gL_law_X10_count : GoodIn wsL_law (wsV RL 94 RX10 yX10_count wsX10_count) := goodIn_app (goodIn_of _ (by decide +kernel)) ggL_law_X10_count
set_option maxRecDepth 20000 in
theorem ggL_law_X11_count : GoodIn wsL_law wsX11_count := goodIn_r _ [796, 157, 231, 631, 218, 797, 798, 799, 5, 800, 374, 375, 376, 377, 344, 345, 346, 347, 327, 328, 329, 330, 220, 221, 222, 821, 822, 823, 824, 825, 826, 827, 828, 829, 830, 831, 832, 833, 834, 835, 836, 837, 838, 839, 840, 841, 842, 843, 844, 845, 846, 847, 848, 849] (by decide +kernel) (by decide +kernel)
set_option maxRecDepth 20000 in
theorem gL_law_X11_count : GoodIn wsL_law (wsV RL 97 RX11 yX11_count wsX11_count) := goodIn_app (goodIn_of _ (by decide +kernel)) ggL_law_X11_count
set_option maxRecDepth 20000 in
theorem ggL_law_X10_undo : GoodIn wsL_law wsX10_undo := goodIn_r _ [804, 19, 236, 15, 805, 806, 807, 18, 808, 58, 194, 195, 196, 197, 57, 198, 199, 200, 14, 201, 49, 50, 51, 202, 203, 204, 2, 205, 23, 27, 206, 207, 31, 208, 209, 35, 39, 813, 814, 815, 816, 817, 818, 819, 820, 853, 854, 850, 851, 852, 855, 856, 857, 858, 859, 864, 865, 866, 867, 860, 861, 862, 863, 868, 869, 870, 871, 872, 873, 874, 875, 876, 877, 878, 879, 880, 881, 882, 883, 884, 885, 886, 887, 888] (by decide +kernel) (by decide +kernel)
set_option maxRecDepth 20000 in
theorem gL_law_X10_undo : GoodIn wsL_law (wsV RL 98 RX10 yX10_undo wsX10_undo) := goodIn_app (goodIn_of _ (by decide +kernel)) ggL_law_X10_undo
set_option maxRecDepth 20000 in
theorem ggL_law_X11_undo : GoodIn wsL_law wsX11_undo := goodIn_r _ [812, 231, 241, 157, 158, 821, 822, 823, 824, 825, 826, 827, 828, 829, 830, 831, 832, 833, 834, 835, 836, 837, 838, 839, 840, 841, 842, 843, 844, 845, 846, 847, 848, 849] (by decide +kernel) (by decide +kernel)
set_option maxRecDepth 20000 in
theorem gL_law_X11_undo : GoodIn wsL_law (wsV RL 101 RX11 yX11_undo wsX11_undo) := goodIn_app (goodIn_of _ (by decide +kernel)) ggL_law_X11_undo
