/-! ===== the law's calls (printed; places by rfl) ===== -/
set_option maxRecDepth 20000 in
theorem ggL_law_X6_tree : GoodIn wsL_law wsX6_tree := goodIn_r _ [176, 32, 18, 19, 20, 21, 22, 23, 24, 51, 177, 178, 179, 31, 180, 69, 73, 181, 72, 182, 183, 61, 62, 63, 184, 185, 186, 187, 68, 70, 71, 188, 189, 190, 191, 192, 193, 194, 195, 196, 197, 198, 199, 200, 201, 202, 203, 204, 205, 206, 207, 208, 209, 210, 211, 212, 213, 214, 556, 557, 558, 559, 560, 561, 562, 563, 584, 585, 586, 587, 588, 589, 581, 582, 583] rfl (by decide +kernel)
set_option maxRecDepth 20000 in
theorem gL_law_X6_tree : GoodIn wsL_law (wsV RL 43 RX6 yX6_tree wsX6_tree) := goodIn_app (goodIn_of _ (by decide +kernel)) ggL_law_X6_tree
set_option maxRecDepth 20000 in
theorem ggL_law_X7_tree : GoodIn wsL_law wsX7_tree := goodIn_r _ [218, 163, 219, 220, 221, 5, 222, 133, 123, 223, 224, 134, 225, 124, 226, 227, 228, 229, 125, 230, 231, 232, 233, 234, 235, 236, 237, 238, 121, 239, 240, 241, 242, 243, 244, 245, 246, 247, 248, 249, 250, 251, 252, 253, 254, 564, 565, 566, 567, 568, 569, 570, 571, 572, 573, 574, 575, 576, 577, 578, 579, 580] rfl (by decide +kernel)
set_option maxRecDepth 20000 in
theorem gL_law_X7_tree : GoodIn wsL_law (wsV RL 46 RX7 yX7_tree wsX7_tree) := goodIn_app (goodIn_of _ (by decide +kernel)) ggL_law_X7_tree
set_option maxRecDepth 20000 in
theorem ggL_law_X6_rounds : GoodIn wsL_law wsX6_rounds := goodIn_r _ [258, 51, 556, 557, 558, 559, 560, 561, 562, 563] rfl (by decide +kernel)
set_option maxRecDepth 20000 in
theorem gL_law_X6_rounds : GoodIn wsL_law (wsV RL 47 RX6 yX6_rounds wsX6_rounds) := goodIn_app (goodIn_of _ (by decide +kernel)) ggL_law_X6_rounds
set_option maxRecDepth 20000 in
theorem ggL_law_X7_rounds : GoodIn wsL_law wsX7_rounds := goodIn_r _ [262, 163, 224, 564, 565, 566, 567, 568, 569, 570, 571, 572, 573, 574, 575, 576, 577, 578, 579, 580] rfl (by decide +kernel)
set_option maxRecDepth 20000 in
theorem gL_law_X7_rounds : GoodIn wsL_law (wsV RL 50 RX7 yX7_rounds wsX7_rounds) := goodIn_app (goodIn_of _ (by decide +kernel)) ggL_law_X7_rounds
set_option maxRecDepth 20000 in
theorem ggL_law_X6_assign : GoodIn wsL_law wsX6_assign := goodIn_r _ [266, 36, 267, 268, 269, 35, 270, 79, 80, 82, 78, 271, 272, 62, 273, 274, 61, 63, 275, 276, 277, 278, 81, 279, 83, 85, 280, 281, 282, 283, 284, 285, 286, 287, 288, 289, 290, 291, 292, 293, 294, 295, 296, 297, 298, 299, 300, 301, 302, 303, 304, 305, 556, 557, 558, 559, 560, 561, 562, 563, 590, 591, 592, 593, 594, 595, 596, 581, 582, 583] rfl (by decide +kernel)
set_option maxRecDepth 20000 in
theorem gL_law_X6_assign : GoodIn wsL_law (wsV RL 51 RX6 yX6_assign wsX6_assign) := goodIn_app (goodIn_of _ (by decide +kernel)) ggL_law_X6_assign
set_option maxRecDepth 20000 in
theorem ggL_law_X7_assign : GoodIn wsL_law wsX7_assign := goodIn_r _ [309, 163, 310, 311, 312, 5, 313, 133, 126, 134, 254, 235, 236, 237, 238, 121, 564, 565, 566, 567, 568, 569, 570, 571, 572, 573, 574, 575, 576, 577, 578, 579, 580] rfl (by decide +kernel)
set_option maxRecDepth 20000 in
theorem gL_law_X7_assign : GoodIn wsL_law (wsV RL 55 RX7 yX7_assign wsX7_assign) := goodIn_app (goodIn_of _ (by decide +kernel)) ggL_law_X7_assign
set_option maxRecDepth 20000 in
theorem ggL_law_X6_cut : GoodIn wsL_law wsX6_cut := goodIn_r _ [317, 28, 318, 40, 146, 147, 148, 27, 149, 56, 319, 320, 321, 39, 322, 90, 92, 323, 23, 20, 24, 324, 325, 326, 327, 328, 94, 93, 329, 61, 62, 63, 330, 331, 332, 333, 334, 335, 19, 21, 556, 557, 558, 559, 560, 561, 562, 563, 581, 582, 583, 597, 598, 599, 600] rfl (by decide +kernel)
set_option maxRecDepth 20000 in
theorem gL_law_X6_cut : GoodIn wsL_law (wsV RL 56 RX6 yX6_cut wsX6_cut) := goodIn_app (goodIn_of _ (by decide +kernel)) ggL_law_X6_cut
set_option maxRecDepth 20000 in
theorem ggL_law_X7_cut : GoodIn wsL_law wsX7_cut := goodIn_r _ [339, 163, 254, 134, 133, 165, 166, 167, 5, 168, 231, 232, 233, 234, 235, 236, 237, 238, 121, 564, 565, 566, 567, 568, 569, 570, 571, 572, 573, 574, 575, 576, 577, 578, 579, 580] rfl (by decide +kernel)
set_option maxRecDepth 20000 in
theorem gL_law_X7_cut : GoodIn wsL_law (wsV RL 60 RX7 yX7_cut wsX7_cut) := goodIn_app (goodIn_of _ (by decide +kernel)) ggL_law_X7_cut
set_option maxRecDepth 20000 in
theorem ggL_law_X6_postman : GoodIn wsL_law wsX6_postman := goodIn_r _ [343, 48, 44, 344, 345, 346, 47, 347, 111, 348, 115, 349, 350, 351, 27, 352, 58, 353, 354, 355, 356, 56, 59, 357, 358, 359, 360, 361, 362, 363, 364, 365, 366, 367, 368, 114, 113, 369, 61, 62, 63, 370, 371, 372, 373, 374, 116, 375, 376, 377, 378, 379, 380, 381, 382, 383, 384, 385, 386, 387, 388, 389, 390, 391, 392, 393, 43, 394, 99, 395, 104, 396, 397, 398, 399, 400, 401, 402, 403, 404, 23, 20, 24, 405, 406, 407, 408, 103, 102, 409, 410, 411, 412, 101, 413, 414, 19, 21, 415, 416, 417, 418, 419, 420, 421, 422, 423, 424, 425, 426, 427, 428, 429, 430, 431, 432, 433, 434, 435, 436, 437, 438, 439, 440, 441, 442, 443, 444, 445, 446, 447, 448, 449, 450, 451, 452, 106, 105, 556, 557, 558, 559, 560, 561, 562, 563, 608, 609, 610, 611, 612, 581, 582, 583, 601, 602, 603, 604, 605, 606, 607] rfl (by decide +kernel)
set_option maxRecDepth 20000 in
theorem gL_law_X6_postman : GoodIn wsL_law (wsV RL 61 RX6 yX6_postman wsX6_postman) := goodIn_app (goodIn_of _ (by decide +kernel)) ggL_law_X6_postman
