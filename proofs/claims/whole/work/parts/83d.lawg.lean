/-! ===== the law's calls (printed) ===== -/
set_option maxRecDepth 20000 in
theorem ggL_law_X7_postman : GoodIn wsL_law wsX7_postman := goodIn_r _ [456, 163, 254, 457, 458, 459, 5, 460, 127, 133, 134, 235, 236, 237, 238, 121, 231, 232, 233, 234, 461, 462, 463, 464, 465, 466, 467, 468, 129, 128, 469, 470, 471, 472, 131, 132, 473, 474, 475, 476, 477, 478, 479, 480, 481, 482, 483, 484, 485, 486, 487, 488, 126, 489, 122, 490, 491, 492, 493, 564, 565, 566, 567, 568, 569, 570, 571, 572, 573, 574, 575, 576, 577, 578, 579, 580] rfl (by decide +kernel)
set_option maxRecDepth 20000 in
theorem gL_law_X7_postman : GoodIn wsL_law (wsV RL 65 RX7 yX7_postman wsX7_postman) := goodIn_app (goodIn_of _ (by decide +kernel)) ggL_law_X7_postman
