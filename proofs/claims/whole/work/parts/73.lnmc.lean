set_option maxRecDepth 20000 in
theorem ggL_law_X9_not : GoodIn wsL_law wsX9_not := goodIn_r _ [528, 17, 199, 200, 2, 201, 450, 451, 452, 453, 454, 455, 456, 19, 457, 55, 529, 530, 531, 532, 52, 533, 534, 535, 536, 54, 777, 778, 779, 780, 781, 782, 783, 806, 807, 808] (by decide +kernel) (by decide +kernel)
set_option maxRecDepth 20000 in
theorem gL_law_X9_not : GoodIn wsL_law (wsV RL 61 RX9 yX9_not wsX9_not) := goodIn_app (goodIn_of _ (by decide +kernel)) ggL_law_X9_not
set_option maxRecDepth 20000 in
theorem ggL_law_X10_not : GoodIn wsL_law wsX10_not := goodIn_r _ [540, 327, 328, 5, 329, 157, 158, 159, 501, 502, 503, 504, 119, 541, 542, 543, 544, 340, 124, 341, 342, 343, 509, 510, 511, 512, 120, 344, 345, 346, 347, 123, 513, 514, 515, 516, 121, 348, 349, 350, 351, 352, 353, 354, 355, 126, 129, 130, 128, 356, 357, 358, 359, 127, 360, 361, 362, 363, 784, 785, 786, 787, 788, 789, 790, 791, 792, 793, 794, 795, 796, 797, 798, 799, 800, 801, 802, 803] (by decide +kernel) (by decide +kernel)
set_option maxRecDepth 20000 in
theorem gL_law_X10_not : GoodIn wsL_law (wsV RL 64 RX10 yX10_not wsX10_not) := goodIn_app (goodIn_of _ (by decide +kernel)) ggL_law_X10_not
set_option maxRecDepth 20000 in
theorem ggL_law_X9_swap : GoodIn wsL_law wsX9_swap := goodIn_r _ [548, 34, 17, 199, 200, 2, 201, 202, 203, 204, 205, 206, 207, 450, 451, 452, 453, 454, 455, 456, 19, 457, 55, 549, 550, 551, 33, 552, 86, 462, 463, 217, 218, 26, 219, 69, 220, 221, 222, 223, 224, 225, 226, 70, 227, 228, 229, 230, 46, 71, 53, 72, 73, 74, 75, 553, 554, 555, 231, 232, 486, 487, 488, 489, 52, 311, 312, 313, 314, 241, 242, 490, 234, 235, 236, 237, 238, 239, 240, 491, 492, 493, 494, 54, 495, 244, 245, 246, 496, 248, 249, 250, 251, 252, 253, 254, 255, 256, 257, 258, 76, 259, 260, 261, 23, 262, 60, 263, 59, 61, 264, 265, 266, 267, 268, 269, 270, 271, 272, 273, 274, 275, 276, 277, 278, 279, 280, 281, 282, 283, 284, 285, 286, 287, 66, 67, 68, 288, 289, 290, 291, 292, 293, 294, 295, 296, 297, 298, 299, 300, 301, 302, 303, 304, 305, 306, 307, 308, 309, 310, 315, 316, 317, 318, 319, 320, 321, 322, 777, 778, 779, 780, 781, 782, 783, 806, 807, 808, 824, 825, 812, 813, 814, 815, 816, 817, 818, 819, 820, 821, 822, 809, 810, 811] (by decide +kernel) (by decide +kernel)
set_option maxRecDepth 20000 in
theorem gL_law_X9_swap : GoodIn wsL_law (wsV RL 65 RX9 yX9_swap wsX9_swap) := goodIn_app (goodIn_of _ (by decide +kernel)) ggL_law_X9_swap
set_option maxRecDepth 20000 in
theorem ggL_law_X10_swap : GoodIn wsL_law wsX10_swap := goodIn_r _ [559, 327, 328, 5, 329, 157, 158, 159, 330, 331, 332, 333, 334, 335, 501, 502, 503, 504, 119, 541, 542, 543, 544, 340, 124, 341, 342, 343, 509, 510, 511, 512, 120, 344, 345, 346, 347, 123, 513, 514, 515, 516, 121, 348, 349, 350, 351, 352, 353, 354, 355, 126, 129, 130, 128, 356, 357, 358, 359, 127, 360, 361, 362, 363, 784, 785, 786, 787, 788, 789, 790, 791, 792, 793, 794, 795, 796, 797, 798, 799, 800, 801, 802, 803] (by decide +kernel) (by decide +kernel)
set_option maxRecDepth 20000 in
theorem gL_law_X10_swap : GoodIn wsL_law (wsV RL 68 RX10 yX10_swap wsX10_swap) := goodIn_app (goodIn_of _ (by decide +kernel)) ggL_law_X10_swap
set_option maxRecDepth 20000 in
theorem ggL_law_X9_some : GoodIn wsL_law wsX9_some := goodIn_r _ [563, 564, 565, 566, 2, 567, 38, 17, 199, 200, 201, 205, 206, 207, 450, 451, 452, 453, 454, 455, 456, 19, 457, 55, 568, 569, 570, 37, 571, 95, 99, 98, 572, 573, 574, 575, 576, 97, 577, 578, 492, 493, 494, 54, 311, 312, 313, 314, 579, 487, 488, 489, 52, 241, 242, 580, 581, 582, 94, 583, 104, 105, 584, 265, 266, 267, 585, 217, 218, 26, 219, 69, 220, 221, 222, 223, 224, 225, 226, 70, 227, 228, 229, 230, 46, 71, 53, 72, 73, 74, 75, 586, 587, 588, 589, 590, 591, 592, 593, 594, 595, 596, 597, 598, 599, 600, 601, 602, 603, 604, 605, 606, 103, 607, 608, 609, 610, 611, 471, 472, 473, 612, 475, 476, 477, 613, 614, 244, 245, 246, 237, 238, 239, 240, 615, 616, 617, 618, 231, 232, 619, 234, 235, 236, 620, 248, 249, 250, 251, 252, 253, 254, 255, 256, 257, 258, 76, 259, 260, 261, 23, 262, 60, 263, 59, 61, 264, 268, 269, 270, 271, 272, 273, 274, 275, 276, 277, 278, 279, 280, 281, 282, 283, 284, 285, 286, 287, 66, 67, 68, 288, 289, 290, 291, 292, 293, 294, 295, 296, 297, 298, 299, 300, 301, 302, 303, 304, 305, 306, 307, 308, 309, 310, 315, 316, 317, 318, 319, 320, 321, 322, 777, 778, 779, 780, 781, 782, 783, 806, 807, 808, 826, 827, 828, 829, 834, 835, 836, 812, 813, 814, 815, 816, 817, 818, 819, 820, 821, 822, 809, 810, 811] (by decide +kernel) (by decide +kernel)
set_option maxRecDepth 20000 in
theorem gL_law_X9_some : GoodIn wsL_law (wsV RL 69 RX9 yX9_some wsX9_some) := goodIn_app (goodIn_of _ (by decide +kernel)) ggL_law_X9_some
set_option maxRecDepth 20000 in
theorem ggL_law_X10_some : GoodIn wsL_law wsX10_some := goodIn_r _ [624, 327, 328, 5, 329, 157, 158, 159, 333, 334, 335, 501, 502, 503, 504, 119, 625, 626, 627, 628, 340, 629, 131, 124, 630, 631, 632, 633, 634, 635, 636, 509, 510, 511, 512, 120, 637, 638, 639, 640, 344, 345, 346, 347, 123, 641, 642, 643, 644, 513, 514, 515, 516, 121, 348, 349, 350, 351, 352, 353, 354, 355, 126, 129, 130, 128, 356, 357, 358, 359, 127, 360, 361, 362, 363, 784, 785, 786, 787, 788, 789, 790, 791, 792, 793, 794, 795, 796, 797, 798, 799, 800, 801, 802, 803] (by decide +kernel) (by decide +kernel)
set_option maxRecDepth 20000 in
theorem gL_law_X10_some : GoodIn wsL_law (wsV RL 72 RX10 yX10_some wsX10_some) := goodIn_app (goodIn_of _ (by decide +kernel)) ggL_law_X10_some
set_option maxRecDepth 20000 in
theorem ggL_law_X9_all : GoodIn wsL_law wsX9_all := goodIn_r _ [648, 564, 565, 566, 2, 567, 38, 17, 199, 200, 201, 205, 206, 207, 450, 451, 452, 453, 454, 455, 456, 19, 457, 55, 568, 569, 570, 37, 571, 95, 99, 98, 572, 573, 574, 575, 576, 97, 577, 578, 492, 493, 494, 54, 311, 312, 313, 314, 579, 487, 488, 489, 52, 241, 242, 580, 581, 582, 94, 583, 104, 105, 584, 265, 266, 267, 585, 217, 218, 26, 219, 69, 220, 221, 222, 223, 224, 225, 226, 70, 227, 228, 229, 230, 46, 71, 53, 72, 73, 74, 75, 586, 587, 588, 589, 590, 591, 592, 593, 594, 595, 596, 597, 598, 599, 600, 601, 602, 603, 604, 605, 606, 103, 607, 608, 609, 610, 611, 471, 472, 473, 612, 475, 476, 477, 613, 614, 244, 245, 246, 237, 238, 239, 240, 615, 616, 617, 618, 231, 232, 619, 234, 235, 236, 620, 248, 249, 250, 251, 252, 253, 254, 255, 256, 257, 258, 76, 259, 260, 261, 23, 262, 60, 263, 59, 61, 264, 268, 269, 270, 271, 272, 273, 274, 275, 276, 277, 278, 279, 280, 281, 282, 283, 284, 285, 286, 287, 66, 67, 68, 288, 289, 290, 291, 292, 293, 294, 295, 296, 297, 298, 299, 300, 301, 302, 303, 304, 305, 306, 307, 308, 309, 310, 315, 316, 317, 318, 319, 320, 321, 322, 777, 778, 779, 780, 781, 782, 783, 806, 807, 808, 826, 827, 828, 829, 834, 835, 836, 812, 813, 814, 815, 816, 817, 818, 819, 820, 821, 822, 809, 810, 811] (by decide +kernel) (by decide +kernel)
set_option maxRecDepth 20000 in
theorem gL_law_X9_all : GoodIn wsL_law (wsV RL 73 RX9 yX9_all wsX9_all) := goodIn_app (goodIn_of _ (by decide +kernel)) ggL_law_X9_all
set_option maxRecDepth 20000 in
theorem ggL_law_X10_all : GoodIn wsL_law wsX10_all := goodIn_r _ [652, 327, 328, 5, 329, 157, 158, 159, 333, 334, 335, 501, 502, 503, 504, 119, 625, 626, 627, 628, 340, 629, 131, 124, 630, 631, 632, 633, 634, 635, 636, 509, 510, 511, 512, 120, 637, 638, 639, 640, 344, 345, 346, 347, 123, 641, 642, 643, 644, 513, 514, 515, 516, 121, 348, 349, 350, 351, 352, 353, 354, 355, 126, 129, 130, 128, 356, 357, 358, 359, 127, 360, 361, 362, 363, 784, 785, 786, 787, 788, 789, 790, 791, 792, 793, 794, 795, 796, 797, 798, 799, 800, 801, 802, 803] (by decide +kernel) (by decide +kernel)
set_option maxRecDepth 20000 in
theorem gL_law_X10_all : GoodIn wsL_law (wsV RL 76 RX10 yX10_all wsX10_all) := goodIn_app (goodIn_of _ (by decide +kernel)) ggL_law_X10_all
set_option maxRecDepth 20000 in
theorem ggL_law_X9_holds : GoodIn wsL_law wsX9_holds := goodIn_r _ [656, 17, 199, 200, 2, 201, 180, 181, 182, 183, 450, 451, 452, 453, 454, 455, 456, 19, 457, 55, 657, 658, 659, 660, 661, 487, 488, 489, 52, 311, 312, 313, 314, 241, 242, 662, 492, 493, 494, 54, 777, 778, 779, 780, 781, 782, 783, 806, 807, 808] (by decide +kernel) (by decide +kernel)
set_option maxRecDepth 20000 in
theorem gL_law_X9_holds : GoodIn wsL_law (wsV RL 77 RX9 yX9_holds wsX9_holds) := goodIn_app (goodIn_of _ (by decide +kernel)) ggL_law_X9_holds
set_option maxRecDepth 20000 in
theorem ggL_law_X10_holds : GoodIn wsL_law wsX10_holds := goodIn_r _ [666, 194, 327, 328, 5, 329, 157, 158, 159, 501, 502, 503, 504, 119, 509, 510, 511, 512, 120, 513, 514, 515, 516, 121, 784, 785, 786, 787, 788, 789, 790, 791, 792, 793, 794, 795, 796, 797, 798, 799, 800, 801, 802, 803] (by decide +kernel) (by decide +kernel)
set_option maxRecDepth 20000 in
theorem gL_law_X10_holds : GoodIn wsL_law (wsV RL 80 RX10 yX10_holds wsX10_holds) := goodIn_app (goodIn_of _ (by decide +kernel)) ggL_law_X10_holds
set_option maxRecDepth 20000 in
theorem ggL_law_X9_depends : GoodIn wsL_law wsX9_depends := goodIn_r _ [670, 17, 199, 200, 2, 201, 450, 451, 452, 453, 454, 455, 456, 19, 457, 55, 671, 672, 673, 674, 661, 487, 488, 489, 52, 311, 312, 313, 314, 241, 242, 777, 778, 779, 780, 781, 782, 783, 806, 807, 808] (by decide +kernel) (by decide +kernel)
set_option maxRecDepth 20000 in
theorem gL_law_X9_depends : GoodIn wsL_law (wsV RL 81 RX9 yX9_depends wsX9_depends) := goodIn_app (goodIn_of _ (by decide +kernel)) ggL_law_X9_depends
set_option maxRecDepth 20000 in
theorem ggL_law_X10_depends : GoodIn wsL_law wsX10_depends := goodIn_r _ [678, 327, 328, 5, 329, 157, 158, 159, 501, 502, 503, 504, 119, 679, 680, 681, 682, 340, 122, 422, 423, 424, 425, 125, 426, 427, 428, 429, 513, 514, 515, 516, 121, 509, 510, 511, 512, 120, 784, 785, 786, 787, 788, 789, 790, 791, 792, 793, 794, 795, 796, 797, 798, 799, 800, 801, 802, 803] (by decide +kernel) (by decide +kernel)
set_option maxRecDepth 20000 in
theorem gL_law_X10_depends : GoodIn wsL_law (wsV RL 84 RX10 yX10_depends wsX10_depends) := goodIn_app (goodIn_of _ (by decide +kernel)) ggL_law_X10_depends
set_option maxRecDepth 20000 in
theorem ggL_law_X9_kinds : GoodIn wsL_law wsX9_kinds := goodIn_r _ [686, 17, 199, 200, 2, 201, 450, 451, 452, 453, 454, 455, 456, 19, 457, 55, 777, 778, 779, 780, 781, 782, 783, 806, 807, 808] (by decide +kernel) (by decide +kernel)
set_option maxRecDepth 20000 in
theorem gL_law_X9_kinds : GoodIn wsL_law (wsV RL 85 RX9 yX9_kinds wsX9_kinds) := goodIn_app (goodIn_of _ (by decide +kernel)) ggL_law_X9_kinds
set_option maxRecDepth 20000 in
theorem ggL_law_X10_kinds : GoodIn wsL_law wsX10_kinds := goodIn_r _ [690, 119, 327, 328, 5, 329, 157, 158, 159, 501, 502, 503, 504, 784, 785, 786, 787, 788, 789, 790, 791, 792, 793, 794, 795, 796, 797, 798, 799, 800, 801, 802, 803] (by decide +kernel) (by decide +kernel)
set_option maxRecDepth 20000 in
theorem gL_law_X10_kinds : GoodIn wsL_law (wsV RL 88 RX10 yX10_kinds wsX10_kinds) := goodIn_app (goodIn_of _ (by decide +kernel)) ggL_law_X10_kinds
set_option maxRecDepth 20000 in
theorem ggL_law_X9_below : GoodIn wsL_law wsX9_below := goodIn_r _ [694, 695, 42, 17, 199, 200, 2, 201, 450, 451, 452, 453, 454, 455, 456, 19, 457, 55, 696, 697, 698, 41, 699, 700, 221, 222, 223, 109, 110, 701, 534, 535, 536, 702, 703, 492, 493, 494, 54, 311, 312, 313, 314, 704, 705, 706, 707, 708, 487, 488, 489, 52, 241, 242, 777, 778, 779, 780, 781, 782, 783, 806, 807, 808, 830, 831, 832, 833] (by decide +kernel) (by decide +kernel)
set_option maxRecDepth 20000 in
theorem gL_law_X9_below : GoodIn wsL_law (wsV RL 89 RX9 yX9_below wsX9_below) := goodIn_app (goodIn_of _ (by decide +kernel)) ggL_law_X9_below
set_option maxRecDepth 20000 in
theorem ggL_law_X10_below : GoodIn wsL_law wsX10_below := goodIn_r _ [712, 713, 132, 133, 119, 327, 328, 5, 329, 157, 158, 159, 501, 502, 503, 504, 509, 510, 511, 512, 120, 513, 514, 515, 516, 121, 784, 785, 786, 787, 788, 789, 790, 791, 792, 793, 794, 795, 796, 797, 798, 799, 800, 801, 802, 803] (by decide +kernel) (by decide +kernel)
set_option maxRecDepth 20000 in
theorem gL_law_X10_below : GoodIn wsL_law (wsV RL 93 RX10 yX10_below wsX10_below) := goodIn_app (goodIn_of _ (by decide +kernel)) ggL_law_X10_below
set_option maxRecDepth 20000 in
theorem ggL_law_X9_least : GoodIn wsL_law wsX9_least := goodIn_r _ [717, 38, 20, 17, 42, 718, 199, 200, 2, 201, 205, 206, 207, 450, 451, 452, 453, 454, 455, 456, 19, 457, 55, 568, 569, 570, 37, 571, 95, 99, 98, 572, 573, 574, 575, 576, 97, 577, 578, 492, 493, 494, 54, 311, 312, 313, 314, 579, 487, 488, 489, 52, 241, 242, 580, 581, 582, 94, 583, 104, 105, 584, 265, 266, 267, 585, 217, 218, 26, 219, 69, 220, 221, 222, 223, 224, 225, 226, 70, 227, 228, 229, 230, 46, 71, 53, 72, 73, 74, 75, 586, 587, 588, 589, 590, 591, 592, 593, 594, 595, 596, 597, 598, 599, 600, 601, 602, 603, 604, 605, 606, 103, 607, 608, 609, 610, 611, 471, 472, 473, 612, 475, 476, 477, 613, 614, 244, 245, 246, 237, 238, 239, 240, 615, 616, 617, 618, 231, 232, 619, 234, 235, 236, 620, 248, 249, 250, 251, 252, 253, 254, 255, 256, 257, 258, 76, 259, 260, 261, 23, 262, 60, 263, 59, 61, 264, 268, 269, 270, 271, 272, 273, 274, 275, 276, 277, 278, 279, 280, 281, 282, 283, 284, 285, 286, 287, 66, 67, 68, 288, 289, 290, 291, 292, 293, 294, 295, 296, 297, 298, 299, 300, 301, 302, 303, 304, 305, 306, 307, 308, 309, 310, 315, 316, 317, 318, 319, 320, 321, 322, 719, 720, 721, 41, 722, 111, 723, 112, 724, 725, 726, 727, 728, 729, 730, 731, 732, 733, 734, 735, 736, 703, 708, 777, 778, 779, 780, 781, 782, 783, 806, 807, 808, 826, 827, 828, 829, 834, 835, 836, 812, 813, 814, 815, 816, 817, 818, 819, 820, 821, 822, 809, 810, 811, 830, 831, 832, 833] (by decide +kernel) (by decide +kernel)
set_option maxRecDepth 20000 in
theorem gL_law_X9_least : GoodIn wsL_law (wsV RL 94 RX9 yX9_least wsX9_least) := goodIn_app (goodIn_of _ (by decide +kernel)) ggL_law_X9_least
set_option maxRecDepth 20000 in
theorem ggL_law_X10_least : GoodIn wsL_law wsX10_least := goodIn_r _ [740, 741, 327, 328, 5, 329, 157, 158, 159, 333, 334, 335, 501, 502, 503, 504, 119, 625, 626, 627, 628, 340, 629, 131, 124, 630, 631, 632, 633, 634, 635, 636, 509, 510, 511, 512, 120, 637, 638, 639, 640, 344, 345, 346, 347, 123, 641, 642, 643, 644, 513, 514, 515, 516, 121, 348, 349, 350, 351, 352, 353, 354, 355, 126, 129, 130, 128, 356, 357, 358, 359, 127, 360, 361, 362, 363, 742, 743, 744, 745, 135, 746, 134, 747, 784, 785, 786, 787, 788, 789, 790, 791, 792, 793, 794, 795, 796, 797, 798, 799, 800, 801, 802, 803] (by decide +kernel) (by decide +kernel)
set_option maxRecDepth 20000 in
theorem gL_law_X10_least : GoodIn wsL_law (wsV RL 97 RX10 yX10_least wsX10_least) := goodIn_app (goodIn_of _ (by decide +kernel)) ggL_law_X10_least
set_option maxRecDepth 20000 in
theorem ggL_law_X9_same : GoodIn wsL_law wsX9_same := goodIn_r _ [751, 17, 199, 200, 2, 201, 450, 451, 452, 453, 454, 455, 456, 19, 457, 55, 752, 753, 754, 755, 54, 52, 777, 778, 779, 780, 781, 782, 783, 806, 807, 808] (by decide +kernel) (by decide +kernel)
set_option maxRecDepth 20000 in
theorem gL_law_X9_same : GoodIn wsL_law (wsV RL 98 RX9 yX9_same wsX9_same) := goodIn_app (goodIn_of _ (by decide +kernel)) ggL_law_X9_same
set_option maxRecDepth 20000 in
theorem ggL_law_X10_same : GoodIn wsL_law wsX10_same := goodIn_r _ [759, 119, 327, 328, 5, 329, 157, 158, 159, 501, 502, 503, 504, 513, 514, 515, 516, 121, 509, 510, 511, 512, 120, 784, 785, 786, 787, 788, 789, 790, 791, 792, 793, 794, 795, 796, 797, 798, 799, 800, 801, 802, 803] (by decide +kernel) (by decide +kernel)
set_option maxRecDepth 20000 in
theorem gL_law_X10_same : GoodIn wsL_law (wsV RL 101 RX10 yX10_same wsX10_same) := goodIn_app (goodIn_of _ (by decide +kernel)) ggL_law_X10_same
set_option maxRecDepth 20000 in
theorem ggL_law_X9_drop : GoodIn wsL_law wsX9_drop := goodIn_r _ [763, 17, 199, 200, 2, 201, 450, 451, 452, 453, 454, 455, 456, 19, 457, 55, 764, 302, 303, 304, 305, 221, 222, 223, 306, 225, 226, 777, 778, 779, 780, 781, 782, 783, 806, 807, 808] (by decide +kernel) (by decide +kernel)
set_option maxRecDepth 20000 in
theorem gL_law_X9_drop : GoodIn wsL_law (wsV RL 102 RX9 yX9_drop wsX9_drop) := goodIn_app (goodIn_of _ (by decide +kernel)) ggL_law_X9_drop
set_option maxRecDepth 20000 in
theorem ggL_law_X10_drop : GoodIn wsL_law wsX10_drop := goodIn_r _ [768, 119, 327, 328, 5, 329, 157, 158, 159, 501, 502, 503, 504, 784, 785, 786, 787, 788, 789, 790, 791, 792, 793, 794, 795, 796, 797, 798, 799, 800, 801, 802, 803] (by decide +kernel) (by decide +kernel)
set_option maxRecDepth 20000 in
theorem gL_law_X10_drop : GoodIn wsL_law (wsV RL 105 RX10 yX10_drop wsX10_drop) := goodIn_app (goodIn_of _ (by decide +kernel)) ggL_law_X10_drop
set_option maxRecDepth 20000 in
theorem ggL_law_X9_many : GoodIn wsL_law wsX9_many := goodIn_r _ [772, 17, 454, 455, 456, 19, 457, 55, 450, 451, 452, 2, 453, 199, 200, 201, 777, 778, 779, 780, 781, 782, 783, 806, 807, 808] (by decide +kernel) (by decide +kernel)
set_option maxRecDepth 20000 in
theorem gL_law_X9_many : GoodIn wsL_law (wsV RL 106 RX9 yX9_many wsX9_many) := goodIn_app (goodIn_of _ (by decide +kernel)) ggL_law_X9_many
set_option maxRecDepth 20000 in
theorem ggL_law_X10_many : GoodIn wsL_law wsX10_many := goodIn_r _ [776, 119, 157, 158, 5, 159, 501, 502, 503, 504, 784, 785, 786, 787, 788, 789, 790, 791, 792, 793, 794, 795, 796, 797, 798, 799, 800, 801, 802, 803] (by decide +kernel) (by decide +kernel)
set_option maxRecDepth 20000 in
theorem gL_law_X10_many : GoodIn wsL_law (wsV RL 109 RX10 yX10_many wsX10_many) := goodIn_app (goodIn_of _ (by decide +kernel)) ggL_law_X10_many
