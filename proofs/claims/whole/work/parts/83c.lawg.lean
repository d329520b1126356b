/-! ===== the law's calls (printed; places by rfl) ===== -/
set_option maxRecDepth 20000 in
theorem ggL_law_X7_postman : GoodIn wsL_law wsX7_postman := goodIn_r _ [456, 163, 254, 457, 458, 459, 5, 460, 127, 133, 134, 235, 236, 237, 238, 121, 231, 232, 233, 234, 461, 462, 463, 464, 465, 466, 467, 468, 129, 128, 469, 470, 471, 472, 131, 132, 473, 474, 475, 476, 477, 478, 479, 480, 481, 482, 483, 484, 485, 486, 487, 488, 126, 489, 122, 490, 491, 492, 493, 564, 565, 566, 567, 568, 569, 570, 571, 572, 573, 574, 575, 576, 577, 578, 579, 580] rfl (by decide +kernel)
set_option maxRecDepth 20000 in
theorem gL_law_X7_postman : GoodIn wsL_law (wsV RL 65 RX7 yX7_postman wsX7_postman) := goodIn_app (goodIn_of _ (by decide +kernel)) ggL_law_X7_postman
set_option maxRecDepth 20000 in
theorem ggL_law_X6_pair : GoodIn wsL_law wsX6_pair := goodIn_r _ [497, 44, 498, 499, 500, 43, 501, 106, 105, 556, 557, 558, 559, 560, 561, 562, 563, 601, 602, 603, 604, 605, 606, 607] rfl (by decide +kernel)
set_option maxRecDepth 20000 in
theorem gL_law_X6_pair : GoodIn wsL_law (wsV RL 66 RX6 yX6_pair wsX6_pair) := goodIn_app (goodIn_of _ (by decide +kernel)) ggL_law_X6_pair
set_option maxRecDepth 20000 in
theorem ggL_law_X7_pair : GoodIn wsL_law wsX7_pair := goodIn_r _ [505, 163, 489, 122, 564, 565, 566, 567, 568, 569, 570, 571, 572, 573, 574, 575, 576, 577, 578, 579, 580] rfl (by decide +kernel)
set_option maxRecDepth 20000 in
theorem gL_law_X7_pair : GoodIn wsL_law (wsV RL 70 RX7 yX7_pair wsX7_pair) := goodIn_app (goodIn_of _ (by decide +kernel)) ggL_law_X7_pair
set_option maxRecDepth 20000 in
theorem ggL_law_X6_greatest : GoodIn wsL_law wsX6_greatest := goodIn_r _ [509, 32, 36, 318, 510, 511, 20, 512, 177, 178, 179, 31, 180, 69, 73, 181, 72, 182, 183, 61, 62, 63, 184, 185, 186, 187, 68, 70, 71, 188, 189, 190, 191, 192, 193, 194, 195, 196, 197, 198, 199, 200, 201, 202, 203, 204, 205, 206, 207, 208, 209, 210, 211, 212, 213, 214, 267, 268, 269, 35, 270, 79, 80, 82, 78, 271, 272, 273, 274, 275, 276, 277, 278, 81, 279, 83, 85, 280, 281, 282, 283, 284, 285, 286, 287, 288, 289, 290, 291, 292, 293, 294, 295, 296, 297, 298, 299, 300, 301, 302, 303, 304, 305, 556, 557, 558, 559, 560, 561, 562, 563, 584, 585, 586, 587, 588, 589, 581, 582, 583, 590, 591, 592, 593, 594, 595, 596] rfl (by decide +kernel)
set_option maxRecDepth 20000 in
theorem gL_law_X6_greatest : GoodIn wsL_law (wsV RL 71 RX6 yX6_greatest wsX6_greatest) := goodIn_app (goodIn_of _ (by decide +kernel)) ggL_law_X6_greatest
set_option maxRecDepth 20000 in
theorem ggL_law_X7_greatest : GoodIn wsL_law wsX7_greatest := goodIn_r _ [516, 163, 517, 518, 519, 5, 520, 224, 254, 219, 220, 221, 222, 133, 123, 223, 134, 225, 124, 226, 227, 228, 229, 125, 230, 231, 232, 233, 234, 235, 236, 237, 238, 121, 239, 240, 241, 242, 243, 244, 245, 246, 247, 248, 249, 250, 251, 252, 253, 310, 311, 312, 313, 126, 564, 565, 566, 567, 568, 569, 570, 571, 572, 573, 574, 575, 576, 577, 578, 579, 580] rfl (by decide +kernel)
set_option maxRecDepth 20000 in
theorem gL_law_X7_greatest : GoodIn wsL_law (wsV RL 74 RX7 yX7_greatest wsX7_greatest) := goodIn_app (goodIn_of _ (by decide +kernel)) ggL_law_X7_greatest
set_option maxRecDepth 20000 in
theorem ggL_law_L_linear : GoodIn wsL_law wsL_linear := goodIn_ca (goodIn_r _ [523, 524, 525, 526, 527, 2, 528, 529, 530, 318, 531, 532, 507, 508, 509, 32, 36, 510, 511, 20, 512, 177, 178, 179, 31, 180, 69, 73, 181, 72, 182, 183, 61, 62, 63, 184, 185, 186, 187, 68, 70, 71, 188, 189, 190, 191, 192, 193, 194, 195, 196, 197, 198, 199, 200, 201, 202, 203, 204, 205, 206, 207, 208, 209, 210, 211, 212, 213, 214, 267, 268, 269, 35, 270, 79, 80, 82, 78, 271, 272, 273, 274, 275, 276, 277, 278, 81, 279, 83, 85, 280, 281, 282, 283, 284, 285, 286, 287, 288, 289, 290, 291, 292, 293, 294, 295, 296, 297, 298, 299, 300, 301, 302, 303, 304, 305, 556, 557, 558, 559, 560, 561, 562, 563, 584, 585, 586, 587, 588, 589, 581, 582, 583, 590, 591, 592, 593, 594, 595, 596] rfl (by decide +kernel)) (goodIn_sub (fun _ h => List.mem_append_right _ h) (by decide +kernel))
set_option maxRecDepth 20000 in
theorem gL_law_L_linear : GoodIn wsL_law (va_wsS RL 75 yL_linear wsL_linear) := goodIn_app (goodIn_of _ (by decide +kernel)) ggL_law_L_linear
set_option maxRecDepth 20000 in
theorem ggL_law_X7_linear : GoodIn wsL_law wsX7_linear := goodIn_r _ [536, 254, 163, 537, 517, 518, 519, 5, 520, 224, 219, 220, 221, 222, 133, 123, 223, 134, 225, 124, 226, 227, 228, 229, 125, 230, 231, 232, 233, 234, 235, 236, 237, 238, 121, 239, 240, 241, 242, 243, 244, 245, 246, 247, 248, 249, 250, 251, 252, 253, 310, 311, 312, 313, 126, 564, 565, 566, 567, 568, 569, 570, 571, 572, 573, 574, 575, 576, 577, 578, 579, 580] rfl (by decide +kernel)
set_option maxRecDepth 20000 in
theorem gL_law_X7_linear : GoodIn wsL_law (wsV RL 78 RX7 yX7_linear wsX7_linear) := goodIn_app (goodIn_of _ (by decide +kernel)) ggL_law_X7_linear
set_option maxRecDepth 20000 in
theorem ggL_law_X6_certificate : GoodIn wsL_law wsX6_certificate := goodIn_r _ [541, 542, 318, 32, 36, 543, 544, 545, 2, 546, 50, 547, 548, 549, 550, 28, 177, 178, 179, 31, 180, 69, 73, 181, 72, 182, 183, 61, 62, 63, 184, 185, 186, 187, 68, 70, 71, 188, 189, 190, 191, 192, 193, 194, 195, 196, 197, 198, 199, 200, 201, 202, 203, 204, 205, 206, 207, 208, 209, 210, 211, 212, 213, 214, 267, 268, 269, 35, 270, 79, 80, 82, 78, 271, 272, 273, 274, 275, 276, 277, 278, 81, 279, 83, 85, 280, 281, 282, 283, 284, 285, 286, 287, 288, 289, 290, 291, 292, 293, 294, 295, 296, 297, 298, 299, 300, 301, 302, 303, 304, 305, 556, 557, 558, 559, 560, 561, 562, 563, 581, 582, 583, 584, 585, 586, 587, 588, 589, 590, 591, 592, 593, 594, 595, 596] rfl (by decide +kernel)
set_option maxRecDepth 20000 in
theorem gL_law_X6_certificate : GoodIn wsL_law (wsV RL 79 RX6 yX6_certificate wsX6_certificate) := goodIn_app (goodIn_of _ (by decide +kernel)) ggL_law_X6_certificate
set_option maxRecDepth 20000 in
theorem ggL_law_X7_certificate : GoodIn wsL_law wsX7_certificate := goodIn_r _ [554, 163, 133, 555, 130, 134, 235, 236, 237, 5, 238, 121, 517, 518, 519, 520, 224, 254, 219, 220, 221, 222, 123, 223, 225, 124, 226, 227, 228, 229, 125, 230, 231, 232, 233, 234, 239, 240, 241, 242, 243, 244, 245, 246, 247, 248, 249, 250, 251, 252, 253, 310, 311, 312, 313, 126, 564, 565, 566, 567, 568, 569, 570, 571, 572, 573, 574, 575, 576, 577, 578, 579, 580] rfl (by decide +kernel)
set_option maxRecDepth 20000 in
theorem gL_law_X7_certificate : GoodIn wsL_law (wsV RL 83 RX7 yX7_certificate wsX7_certificate) := goodIn_app (goodIn_of _ (by decide +kernel)) ggL_law_X7_certificate
