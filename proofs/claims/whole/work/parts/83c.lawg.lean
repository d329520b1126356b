/-! ===== the law's calls (printed) ===== -/
set_option maxRecDepth 20000 in
theorem ggL_law_X7_assign : GoodIn wsL_law wsX7_assign := goodIn_r _ [309, 163, 310, 311, 312, 5, 313, 133, 126, 134, 254, 235, 236, 237, 238, 121, 564, 565, 566, 567, 568, 569, 570, 571, 572, 573, 574, 575, 576, 577, 578, 579, 580] (by decide +kernel) (by decide +kernel)
set_option maxRecDepth 20000 in
theorem gL_law_X7_assign : GoodIn wsL_law (wsV RL 55 RX7 yX7_assign wsX7_assign) := goodIn_app (goodIn_of _ (by decide +kernel)) ggL_law_X7_assign
set_option maxRecDepth 20000 in
theorem ggL_law_X6_cut : GoodIn wsL_law wsX6_cut := goodIn_r _ [317, 28, 318, 40, 146, 147, 148, 27, 149, 56, 319, 320, 321, 39, 322, 90, 92, 323, 23, 20, 24, 324, 325, 326, 327, 328, 94, 93, 329, 61, 62, 63, 330, 331, 332, 333, 334, 335, 19, 21, 556, 557, 558, 559, 560, 561, 562, 563, 581, 582, 583, 597, 598, 599, 600] (by decide +kernel) (by decide +kernel)
set_option maxRecDepth 20000 in
theorem gL_law_X6_cut : GoodIn wsL_law (wsV RL 56 RX6 yX6_cut wsX6_cut) := goodIn_app (goodIn_of _ (by decide +kernel)) ggL_law_X6_cut
set_option maxRecDepth 20000 in
theorem ggL_law_X7_cut : GoodIn wsL_law wsX7_cut := goodIn_r _ [339, 163, 254, 134, 133, 165, 166, 167, 5, 168, 231, 232, 233, 234, 235, 236, 237, 238, 121, 564, 565, 566, 567, 568, 569, 570, 571, 572, 573, 574, 575, 576, 577, 578, 579, 580] (by decide +kernel) (by decide +kernel)
set_option maxRecDepth 20000 in
theorem gL_law_X7_cut : GoodIn wsL_law (wsV RL 60 RX7 yX7_cut wsX7_cut) := goodIn_app (goodIn_of _ (by decide +kernel)) ggL_law_X7_cut
set_option maxRecDepth 20000 in
theorem ggL_law_X6_postman : GoodIn wsL_law wsX6_postman := goodIn_r _ [343, 48, 44, 344, 345, 346, 47, 347, 111, 348, 115, 349, 350, 351, 27, 352, 58, 353, 354, 355, 356, 56, 59, 357, 358, 359, 360, 361, 362, 363, 364, 365, 366, 367, 368, 114, 113, 369, 61, 62, 63, 370, 371, 372, 373, 374, 116, 375, 376, 377, 378, 379, 380, 381, 382, 383, 384, 385, 386, 387, 388, 389, 390, 391, 392, 393, 43, 394, 99, 395, 104, 396, 397, 398, 399, 400, 401, 402, 403, 404, 23, 20, 24, 405, 406, 407, 408, 103, 102, 409, 410, 411, 412, 101, 413, 414, 19, 21, 415, 416, 417, 418, 419, 420, 421, 422, 423, 424, 425, 426, 427, 428, 429, 430, 431, 432, 433, 434, 435, 436, 437, 438, 439, 440, 441, 442, 443, 444, 445, 446, 447, 448, 449, 450, 451, 452, 106, 105, 556, 557, 558, 559, 560, 561, 562, 563, 608, 609, 610, 611, 612, 581, 582, 583, 601, 602, 603, 604, 605, 606, 607] (by decide +kernel) (by decide +kernel)
set_option maxRecDepth 20000 in
theorem gL_law_X6_postman : GoodIn wsL_law (wsV RL 61 RX6 yX6_postman wsX6_postman) := goodIn_app (goodIn_of _ (by decide +kernel)) ggL_law_X6_postman
