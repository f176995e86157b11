set_option maxRecDepth 20000 in
theorem ggL_law_X10_textAt : GoodIn wsL_law wsX10_textAt := goodIn_r _ [542, 177, 15, 301, 27, 35, 382, 383, 384, 385, 73, 386, 80, 387, 388, 389, 390, 391, 79, 392, 393, 394, 395, 396, 397, 398, 78, 399, 89, 90, 91, 92, 84, 85, 400, 283, 284, 14, 285, 50, 401, 251, 252, 253, 51, 49, 180, 2, 181, 402, 403, 404, 405, 406, 93, 407, 408, 409, 410, 86, 87, 88, 411, 412, 413, 414, 415, 416, 417, 418, 419, 420, 421, 30, 422, 99, 423, 424, 98, 100, 101, 425, 426, 26, 427, 71, 428, 429, 430, 70, 431, 432, 433, 434, 435, 436, 102, 103, 104, 105, 437, 438, 439, 440, 445, 446, 447, 34, 448, 123, 113, 114, 112, 117, 118, 110, 121, 119, 122, 120, 116, 449, 450, 451, 452, 453, 454, 455, 442, 443, 444, 456, 457, 458, 459, 460, 461, 462, 463, 115, 464, 465, 466, 467, 468, 469, 470, 471, 111, 472, 473, 474, 475, 476, 477, 478, 479, 480, 543, 544, 545, 546, 813, 814, 815, 816, 817, 818, 819, 820, 850, 851, 852, 868, 869, 870, 871, 872, 873, 874, 875, 876, 877, 878, 879, 880, 881, 864, 865, 866, 867, 860, 861, 862, 863, 902, 903, 904, 905, 906, 907, 908, 909, 910, 911] (by decide +kernel) (by decide +kernel)
set_option maxRecDepth 20000 in
theorem gL_law_X10_textAt : GoodIn wsL_law (wsV RL 57 RX10 yX10_textAt wsX10_textAt) := goodIn_app (goodIn_of _ (by decide +kernel)) ggL_law_X10_textAt
set_option maxRecDepth 20000 in
theorem ggL_law_X11_textAt : GoodIn wsL_law wsX11_textAt := goodIn_r _ [550, 218, 157, 489, 168, 306, 490, 491, 492, 5, 493, 163, 494, 495, 496, 497, 162, 498, 499, 500, 501, 502, 503, 504, 505, 164, 165, 506, 507, 508, 509, 510, 167, 511, 512, 513, 514, 515, 516, 517, 518, 519, 520, 521, 522, 523, 524, 525, 526, 527, 528, 529, 530, 821, 822, 823, 824, 825, 826, 827, 828, 829, 830, 831, 832, 833, 834, 835, 836, 837, 838, 839, 840, 841, 842, 843, 844, 845, 846, 847, 848, 849] (by decide +kernel) (by decide +kernel)
set_option maxRecDepth 20000 in
theorem gL_law_X11_textAt : GoodIn wsL_law (wsV RL 60 RX11 yX11_textAt wsX11_textAt) := goodIn_app (goodIn_of _ (by decide +kernel)) ggL_law_X11_textAt
set_option maxRecDepth 20000 in
theorem ggL_law_X10_descriptions : GoodIn wsL_law wsX10_descriptions := goodIn_r _ [554, 15, 555, 31, 311, 312, 313, 14, 314, 51, 556, 557, 558, 385, 73, 386, 80, 387, 388, 389, 390, 391, 79, 392, 393, 394, 395, 396, 397, 398, 78, 399, 89, 90, 91, 92, 84, 85, 400, 283, 284, 285, 50, 401, 251, 252, 253, 49, 180, 2, 181, 402, 403, 404, 405, 406, 93, 407, 408, 409, 410, 86, 87, 88, 411, 412, 413, 414, 415, 416, 417, 418, 419, 420, 421, 30, 422, 99, 423, 424, 98, 100, 101, 425, 426, 26, 427, 71, 428, 429, 430, 70, 431, 432, 433, 434, 435, 436, 102, 103, 104, 105, 437, 438, 439, 440, 282, 559, 560, 561, 562, 813, 814, 815, 816, 817, 818, 819, 820, 850, 851, 852, 864, 865, 866, 867, 860, 861, 862, 863, 902, 903, 904, 905, 906, 907, 908, 909, 910, 911] (by decide +kernel) (by decide +kernel)
set_option maxRecDepth 20000 in
theorem gL_law_X10_descriptions : GoodIn wsL_law (wsV RL 61 RX10 yX10_descriptions wsX10_descriptions) := goodIn_app (goodIn_of _ (by decide +kernel)) ggL_law_X10_descriptions
set_option maxRecDepth 20000 in
theorem ggL_law_X11_descriptions : GoodIn wsL_law wsX11_descriptions := goodIn_r _ [566, 567, 157, 166, 323, 324, 325, 5, 326, 494, 495, 496, 497, 162, 498, 499, 500, 568, 569, 570, 571, 821, 822, 823, 824, 825, 826, 827, 828, 829, 830, 831, 832, 833, 834, 835, 836, 837, 838, 839, 840, 841, 842, 843, 844, 845, 846, 847, 848, 849] (by decide +kernel) (by decide +kernel)
set_option maxRecDepth 20000 in
theorem gL_law_X11_descriptions : GoodIn wsL_law (wsV RL 65 RX11 yX11_descriptions wsX11_descriptions) := goodIn_app (goodIn_of _ (by decide +kernel)) ggL_law_X11_descriptions
set_option maxRecDepth 20000 in
theorem ggL_law_X10_would : GoodIn wsL_law wsX10_would := goodIn_r _ [575, 15, 177, 39, 246, 247, 248, 14, 249, 51, 179, 180, 2, 181, 576, 577, 578, 38, 579, 128, 130, 580, 199, 200, 201, 49, 50, 581, 255, 256, 257, 582, 583, 584, 390, 73, 391, 79, 392, 393, 394, 395, 396, 397, 398, 78, 399, 89, 90, 91, 92, 84, 85, 400, 283, 284, 285, 401, 251, 252, 253, 402, 403, 404, 405, 406, 93, 407, 408, 409, 410, 86, 87, 88, 411, 412, 413, 414, 415, 416, 417, 418, 419, 420, 421, 30, 422, 99, 423, 424, 98, 100, 101, 425, 426, 26, 427, 71, 428, 429, 430, 70, 431, 432, 433, 434, 435, 436, 102, 103, 104, 105, 437, 438, 439, 585, 586, 587, 588, 589, 442, 443, 444, 813, 814, 815, 816, 817, 818, 819, 820, 850, 851, 852, 882, 883, 884, 885, 886, 887, 888, 864, 865, 866, 867, 860, 861, 862, 863, 902, 903, 904, 905, 906, 907, 908, 909, 910, 911] (by decide +kernel) (by decide +kernel)
set_option maxRecDepth 20000 in
theorem gL_law_X10_would : GoodIn wsL_law (wsV RL 66 RX10 yX10_would wsX10_would) := goodIn_app (goodIn_of _ (by decide +kernel)) ggL_law_X10_would
set_option maxRecDepth 20000 in
theorem ggL_law_X11_would : GoodIn wsL_law wsX11_would := goodIn_r _ [593, 157, 218, 220, 221, 5, 222, 594, 595, 596, 597, 598, 599, 600, 601, 163, 490, 491, 492, 493, 494, 495, 496, 497, 162, 498, 499, 500, 501, 502, 503, 504, 505, 164, 165, 821, 822, 823, 824, 825, 826, 827, 828, 829, 830, 831, 832, 833, 834, 835, 836, 837, 838, 839, 840, 841, 842, 843, 844, 845, 846, 847, 848, 849] (by decide +kernel) (by decide +kernel)
set_option maxRecDepth 20000 in
theorem gL_law_X11_would : GoodIn wsL_law (wsV RL 69 RX11 yX11_would wsX11_would) := goodIn_app (goodIn_of _ (by decide +kernel)) ggL_law_X11_would
set_option maxRecDepth 20000 in
theorem ggL_law_X10_bestChange : GoodIn wsL_law wsX10_bestChange := goodIn_r _ [605, 177, 39, 15, 301, 606, 607, 608, 38, 609, 131, 132, 128, 130, 135, 580, 199, 200, 14, 201, 49, 50, 51, 582, 583, 584, 390, 73, 391, 79, 392, 393, 394, 395, 396, 397, 398, 78, 399, 89, 90, 91, 92, 84, 85, 400, 283, 284, 285, 401, 251, 252, 253, 180, 2, 181, 402, 403, 404, 405, 406, 93, 407, 408, 409, 410, 86, 87, 88, 411, 412, 413, 414, 415, 416, 417, 418, 419, 420, 421, 30, 422, 99, 423, 424, 98, 100, 101, 425, 426, 26, 427, 71, 428, 429, 430, 70, 431, 432, 433, 434, 435, 436, 102, 103, 104, 105, 437, 438, 439, 585, 586, 587, 588, 589, 442, 443, 444, 610, 581, 255, 256, 257, 611, 612, 613, 614, 133, 134, 813, 814, 815, 816, 817, 818, 819, 820, 882, 883, 884, 885, 886, 887, 888, 850, 851, 852, 864, 865, 866, 867, 860, 861, 862, 863, 902, 903, 904, 905, 906, 907, 908, 909, 910, 911] (by decide +kernel) (by decide +kernel)
set_option maxRecDepth 20000 in
theorem gL_law_X10_bestChange : GoodIn wsL_law (wsV RL 70 RX10 yX10_bestChange wsX10_bestChange) := goodIn_app (goodIn_of _ (by decide +kernel)) ggL_law_X10_bestChange
set_option maxRecDepth 20000 in
theorem ggL_law_X11_bestChange : GoodIn wsL_law wsX11_bestChange := goodIn_r _ [618, 218, 306, 157, 220, 221, 5, 222, 598, 599, 600, 601, 163, 490, 491, 492, 493, 494, 495, 496, 497, 162, 498, 499, 500, 501, 502, 503, 504, 505, 164, 165, 594, 595, 596, 597, 821, 822, 823, 824, 825, 826, 827, 828, 829, 830, 831, 832, 833, 834, 835, 836, 837, 838, 839, 840, 841, 842, 843, 844, 845, 846, 847, 848, 849] (by decide +kernel) (by decide +kernel)
set_option maxRecDepth 20000 in
theorem gL_law_X11_bestChange : GoodIn wsL_law (wsV RL 73 RX11 yX11_bestChange wsX11_bestChange) := goodIn_app (goodIn_of _ (by decide +kernel)) ggL_law_X11_bestChange
set_option maxRecDepth 20000 in
theorem ggL_law_X10_type : GoodIn wsL_law wsX10_type := goodIn_r _ [622, 177, 43, 178, 623, 624, 625, 42, 626, 142, 140, 152, 813, 814, 815, 816, 817, 818, 819, 820, 889, 890, 891, 892, 893, 894, 895, 896, 897, 898, 899, 900, 901] (by decide +kernel) (by decide +kernel)
set_option maxRecDepth 20000 in
theorem gL_law_X10_type : GoodIn wsL_law (wsV RL 74 RX10 yX10_type wsX10_type) := goodIn_app (goodIn_of _ (by decide +kernel)) ggL_law_X10_type
set_option maxRecDepth 20000 in
theorem ggL_law_X11_type : GoodIn wsL_law wsX11_type := goodIn_r _ [630, 218, 631, 219, 161, 220, 221, 5, 222, 821, 822, 823, 824, 825, 826, 827, 828, 829, 830, 831, 832, 833, 834, 835, 836, 837, 838, 839, 840, 841, 842, 843, 844, 845, 846, 847, 848, 849] (by decide +kernel) (by decide +kernel)
set_option maxRecDepth 20000 in
theorem gL_law_X11_type : GoodIn wsL_law (wsV RL 77 RX11 yX11_type wsX11_type) := goodIn_app (goodIn_of _ (by decide +kernel)) ggL_law_X11_type
set_option maxRecDepth 20000 in
theorem ggL_law_X10_clearText : GoodIn wsL_law wsX10_clearText := goodIn_r _ [635, 43, 636, 637, 638, 42, 639, 142, 152, 813, 814, 815, 816, 817, 818, 819, 820, 889, 890, 891, 892, 893, 894, 895, 896, 897, 898, 899, 900, 901] (by decide +kernel) (by decide +kernel)
set_option maxRecDepth 20000 in
theorem gL_law_X10_clearText : GoodIn wsL_law (wsV RL 78 RX10 yX10_clearText wsX10_clearText) := goodIn_app (goodIn_of _ (by decide +kernel)) ggL_law_X10_clearText
