set_option maxRecDepth 100000 in
theorem ggL_law_X5_init : GoodIn wsL_law wsX5_init := goodIn_r _ [9, 10, 11, 12, 13, 14, 15, 16, 17, 18, 19, 20, 21, 22, 23, 24, 25, 26, 27, 28, 29, 512, 513, 514, 515, 516, 533, 534, 535] rfl (by decide +kernel)
set_option maxRecDepth 100000 in
theorem gL_law_X5_init : GoodIn wsL_law (wsX5_init) := ggL_law_X5_init
set_option maxRecDepth 100000 in
theorem ggL_law_X6_init : GoodIn wsL_law wsX6_init := goodIn_r _ [32, 33, 11, 12, 21, 34, 35, 36, 37, 38, 39, 40, 41, 42, 43, 44, 45, 46, 47, 48, 517, 518, 519, 520, 521, 522, 523, 524, 525, 526, 527, 528, 529, 530, 531, 532] rfl (by decide +kernel)
set_option maxRecDepth 100000 in
theorem gL_law_X6_init : GoodIn wsL_law (wsX6_init) := ggL_law_X6_init
set_option maxRecDepth 100000 in
theorem ggL_law_X5_make : GoodIn wsL_law wsX5_make := goodIn_r _ [52, 15, 14, 13, 53, 54, 55, 56, 2, 57, 58, 59, 60, 61, 11, 12, 62, 63, 64, 65, 66, 67, 21, 68, 69, 70, 71, 72, 73, 74, 75, 76, 77, 512, 513, 514, 515, 516, 536, 537, 538, 539, 540, 541, 542, 543, 544] rfl (by decide +kernel)
set_option maxRecDepth 100000 in
theorem gL_law_X5_make : GoodIn wsL_law (wsV RL 13 RX5 yX5_make wsX5_make) := goodIn_app (goodIn_of _ (by decide +kernel)) ggL_law_X5_make
set_option maxRecDepth 100000 in
theorem ggL_law_X6_make : GoodIn wsL_law wsX6_make := goodIn_r _ [81, 82, 34, 35, 36, 37, 517, 518, 519, 520, 521, 522, 523, 524, 525, 526, 527, 528, 529, 530, 531, 532] rfl (by decide +kernel)
set_option maxRecDepth 100000 in
theorem gL_law_X6_make : GoodIn wsL_law (wsV RL 17 RX6 yX6_make wsX6_make) := goodIn_app (goodIn_of _ (by decide +kernel)) ggL_law_X6_make
set_option maxRecDepth 100000 in
theorem ggL_law_X5_clip : GoodIn wsL_law wsX5_clip := goodIn_r _ [86, 87, 88, 65, 66, 89, 90, 91, 92, 2, 93, 15, 14, 55, 56, 57, 94, 71, 72, 73, 11, 12, 74, 75, 76, 77, 95, 96, 97, 98, 99, 100, 101, 102, 103, 104, 105, 106, 107, 108, 109, 110, 111, 536, 537, 538, 539, 540, 541, 542, 543, 544, 512, 513, 514, 515, 516] rfl (by decide +kernel)
set_option maxRecDepth 100000 in
theorem gL_law_X5_clip : GoodIn wsL_law (wsV RL 18 RX5 yX5_clip wsX5_clip) := goodIn_app (goodIn_of _ (by decide +kernel)) ggL_law_X5_clip
set_option maxRecDepth 100000 in
theorem ggL_law_X6_clip : GoodIn wsL_law wsX6_clip := goodIn_r _ [115, 35, 36, 37, 116, 117, 118, 5, 119, 82, 120, 121, 122, 123, 124, 125, 517, 518, 519, 520, 521, 522, 523, 524, 525, 526, 527, 528, 529, 530, 531, 532] rfl (by decide +kernel)
set_option maxRecDepth 100000 in
theorem gL_law_X6_clip : GoodIn wsL_law (wsV RL 22 RX6 yX6_clip wsX6_clip) := goodIn_app (goodIn_of _ (by decide +kernel)) ggL_law_X6_clip
set_option maxRecDepth 100000 in
theorem ggL_law_X5_set : GoodIn wsL_law wsX5_set := goodIn_r _ [129, 87, 130, 90, 91, 92, 2, 93, 15, 14, 131, 132, 133, 66, 134, 74, 76, 75, 77, 135, 136, 137, 54, 138, 63, 139, 140, 141, 142, 67, 143, 536, 537, 538, 539, 540, 512, 513, 514, 515, 516, 541, 542, 543, 544] rfl (by decide +kernel)
set_option maxRecDepth 100000 in
theorem gL_law_X5_set : GoodIn wsL_law (wsV RL 23 RX5 yX5_set wsX5_set) := goodIn_app (goodIn_of _ (by decide +kernel)) ggL_law_X5_set
set_option maxRecDepth 100000 in
theorem ggL_law_X6_set : GoodIn wsL_law wsX6_set := goodIn_r _ [147, 39, 116, 117, 118, 5, 119, 82, 148, 149, 150, 151, 35, 36, 152, 153, 154, 155, 34, 517, 518, 519, 520, 521, 522, 523, 524, 525, 526, 527, 528, 529, 530, 531, 532] rfl (by decide +kernel)
set_option maxRecDepth 100000 in
theorem gL_law_X6_set : GoodIn wsL_law (wsV RL 27 RX6 yX6_set wsX6_set) := goodIn_app (goodIn_of _ (by decide +kernel)) ggL_law_X6_set
set_option maxRecDepth 100000 in
theorem ggL_law_X5_get : GoodIn wsL_law wsX5_get := goodIn_r _ [159, 87, 130, 90, 91, 92, 2, 93, 15, 14, 131, 132, 133, 66, 134, 74, 76, 75, 77, 139, 140, 141, 54, 142, 67, 143, 536, 537, 538, 539, 540, 512, 513, 514, 515, 516, 541, 542, 543, 544] rfl (by decide +kernel)
set_option maxRecDepth 100000 in
theorem gL_law_X5_get : GoodIn wsL_law (wsV RL 28 RX5 yX5_get wsX5_get) := goodIn_app (goodIn_of _ (by decide +kernel)) ggL_law_X5_get
set_option maxRecDepth 100000 in
theorem ggL_law_X6_get : GoodIn wsL_law wsX6_get := goodIn_r _ [163, 116, 117, 118, 5, 119, 82, 148, 149, 150, 151, 35, 36, 164, 165, 166, 167, 39, 517, 518, 519, 520, 521, 522, 523, 524, 525, 526, 527, 528, 529, 530, 531, 532] rfl (by decide +kernel)
set_option maxRecDepth 100000 in
theorem gL_law_X6_get : GoodIn wsL_law (wsV RL 31 RX6 yX6_get wsX6_get) := goodIn_app (goodIn_of _ (by decide +kernel)) ggL_law_X6_get
set_option maxRecDepth 100000 in
theorem ggL_law_X5_told : GoodIn wsL_law wsX5_told := goodIn_r _ [171, 172, 87, 173, 174, 89, 175, 176, 90, 91, 92, 2, 93, 15, 14, 536, 537, 538, 539, 540, 541, 542, 543, 544, 512, 513, 514, 515, 516] rfl (by decide +kernel)
set_option maxRecDepth 100000 in
theorem gL_law_X5_told : GoodIn wsL_law (wsV RL 32 RX5 yX5_told wsX5_told) := goodIn_app (goodIn_of _ (by decide +kernel)) ggL_law_X5_told
set_option maxRecDepth 100000 in
theorem ggL_law_X6_told : GoodIn wsL_law wsX6_told := goodIn_r _ [180, 34, 35, 36, 37, 116, 117, 118, 5, 119, 82, 517, 518, 519, 520, 521, 522, 523, 524, 525, 526, 527, 528, 529, 530, 531, 532] rfl (by decide +kernel)
set_option maxRecDepth 100000 in
theorem gL_law_X6_told : GoodIn wsL_law (wsV RL 36 RX6 yX6_told wsX6_told) := goodIn_app (goodIn_of _ (by decide +kernel)) ggL_law_X6_told
set_option maxRecDepth 100000 in
theorem ggL_law_X5_fill : GoodIn wsL_law wsX5_fill := goodIn_r _ [184, 89, 88, 65, 66, 22, 90, 91, 92, 2, 93, 15, 14, 135, 136, 137, 54, 138, 63, 185, 186, 187, 55, 56, 57, 94, 71, 72, 73, 11, 12, 74, 75, 76, 77, 95, 96, 97, 98, 99, 100, 101, 102, 103, 104, 105, 106, 107, 108, 109, 110, 111, 188, 189, 190, 191, 192, 193, 194, 195, 196, 197, 198, 174, 175, 176, 173, 130, 199, 139, 140, 141, 142, 67, 143, 200, 201, 202, 536, 537, 538, 539, 540, 541, 542, 543, 544, 512, 513, 514, 515, 516] rfl (by decide +kernel)
set_option maxRecDepth 100000 in
theorem gL_law_X5_fill : GoodIn wsL_law (wsV RL 37 RX5 yX5_fill wsX5_fill) := goodIn_app (goodIn_of _ (by decide +kernel)) ggL_law_X5_fill
set_option maxRecDepth 100000 in
theorem ggL_law_X6_fill : GoodIn wsL_law wsX6_fill := goodIn_r _ [206, 39, 116, 117, 118, 5, 119, 82, 120, 121, 122, 152, 153, 154, 155, 34, 207, 208, 209, 210, 37, 211, 212, 213, 214, 215, 216, 217, 517, 518, 519, 520, 521, 522, 523, 524, 525, 526, 527, 528, 529, 530, 531, 532] rfl (by decide +kernel)
set_option maxRecDepth 100000 in
theorem gL_law_X6_fill : GoodIn wsL_law (wsV RL 41 RX6 yX6_fill wsX6_fill) := goodIn_app (goodIn_of _ (by decide +kernel)) ggL_law_X6_fill
set_option maxRecDepth 100000 in
theorem ggL_law_X5_copy : GoodIn wsL_law wsX5_copy := goodIn_r _ [221, 88, 65, 66, 222, 223, 90, 91, 92, 2, 93, 15, 14, 94, 71, 72, 73, 11, 12, 74, 75, 76, 77, 224, 225, 226, 173, 174, 227, 228, 229, 55, 56, 57, 230, 231, 232, 233, 234, 235, 236, 237, 238, 239, 240, 241, 242, 96, 97, 98, 99, 100, 101, 102, 103, 104, 105, 106, 107, 243, 244, 245, 246, 247, 248, 249, 250, 251, 185, 186, 187, 252, 253, 254, 255, 256, 257, 175, 176, 130, 22, 258, 259, 260, 261, 139, 140, 141, 54, 142, 67, 143, 195, 196, 197, 198, 199, 200, 201, 202, 108, 109, 110, 111, 541, 542, 543, 544, 545, 546, 547, 548, 512, 513, 514, 515, 516, 536, 537, 538, 539, 540] rfl (by decide +kernel)
set_option maxRecDepth 100000 in
theorem gL_law_X5_copy : GoodIn wsL_law (wsV RL 42 RX5 yX5_copy wsX5_copy) := goodIn_app (goodIn_of _ (by decide +kernel)) ggL_law_X5_copy
set_option maxRecDepth 100000 in
theorem ggL_law_X6_copy : GoodIn wsL_law wsX6_copy := goodIn_r _ [265, 266, 267, 268, 5, 269, 34, 116, 117, 118, 119, 82, 120, 121, 122, 270, 271, 272, 273, 42, 39, 40, 148, 149, 150, 151, 35, 36, 207, 208, 209, 210, 37, 164, 165, 166, 167, 211, 212, 213, 214, 215, 216, 217, 517, 518, 519, 520, 521, 522, 523, 524, 525, 526, 527, 528, 529, 530, 531, 532] rfl (by decide +kernel)
set_option maxRecDepth 100000 in
theorem gL_law_X6_copy : GoodIn wsL_law (wsV RL 46 RX6 yX6_copy wsX6_copy) := goodIn_app (goodIn_of _ (by decide +kernel)) ggL_law_X6_copy
set_option maxRecDepth 100000 in
theorem ggL_law_X5_keyed : GoodIn wsL_law wsX5_keyed := goodIn_r _ [277, 88, 65, 66, 222, 223, 90, 91, 92, 2, 93, 15, 14, 94, 71, 72, 73, 11, 12, 74, 75, 76, 77, 224, 225, 226, 173, 174, 227, 228, 229, 55, 56, 57, 230, 231, 232, 233, 234, 235, 236, 237, 238, 239, 240, 241, 242, 96, 97, 98, 99, 100, 101, 102, 103, 104, 105, 106, 107, 243, 244, 245, 246, 247, 248, 249, 250, 251, 135, 136, 137, 54, 138, 63, 252, 253, 254, 255, 256, 257, 175, 176, 130, 22, 258, 259, 260, 261, 139, 140, 141, 142, 67, 143, 108, 109, 110, 111, 278, 279, 280, 281, 195, 196, 197, 198, 199, 200, 201, 202, 541, 542, 543, 544, 545, 546, 547, 548, 512, 513, 514, 515, 516, 536, 537, 538, 539, 540] rfl (by decide +kernel)
set_option maxRecDepth 100000 in
theorem gL_law_X5_keyed : GoodIn wsL_law (wsV RL 47 RX5 yX5_keyed wsX5_keyed) := goodIn_app (goodIn_of _ (by decide +kernel)) ggL_law_X5_keyed
set_option maxRecDepth 100000 in
theorem ggL_law_X6_keyed : GoodIn wsL_law wsX6_keyed := goodIn_r _ [285, 266, 267, 268, 5, 269, 34, 116, 117, 118, 119, 82, 120, 121, 122, 152, 153, 154, 155, 270, 271, 272, 273, 42, 39, 40, 148, 149, 150, 151, 35, 36, 207, 208, 209, 210, 37, 164, 165, 166, 167, 211, 212, 213, 214, 215, 216, 217, 517, 518, 519, 520, 521, 522, 523, 524, 525, 526, 527, 528, 529, 530, 531, 532] rfl (by decide +kernel)
set_option maxRecDepth 100000 in
theorem gL_law_X6_keyed : GoodIn wsL_law (wsV RL 50 RX6 yX6_keyed wsX6_keyed) := goodIn_app (goodIn_of _ (by decide +kernel)) ggL_law_X6_keyed
set_option maxRecDepth 100000 in
theorem ggL_law_X5_masked : GoodIn wsL_law wsX5_masked := goodIn_r _ [289, 88, 65, 66, 172, 256, 222, 223, 90, 91, 92, 2, 93, 15, 14, 94, 71, 72, 73, 11, 12, 74, 75, 76, 77, 224, 225, 226, 173, 174, 227, 228, 229, 55, 56, 57, 230, 231, 232, 233, 234, 235, 236, 237, 238, 239, 240, 241, 242, 96, 97, 98, 99, 100, 101, 102, 103, 104, 105, 106, 107, 243, 244, 245, 246, 247, 248, 249, 250, 251, 252, 253, 254, 255, 257, 175, 176, 130, 22, 258, 259, 260, 261, 139, 140, 141, 54, 142, 67, 143, 290, 291, 292, 293, 294, 295, 296, 297, 68, 298, 132, 133, 134, 299, 195, 196, 197, 198, 199, 200, 201, 202, 108, 109, 110, 111, 541, 542, 543, 544, 536, 537, 538, 539, 540, 545, 546, 547, 548, 512, 513, 514, 515, 516] rfl (by decide +kernel)
set_option maxRecDepth 100000 in
theorem gL_law_X5_masked : GoodIn wsL_law (wsV RL 51 RX5 yX5_masked wsX5_masked) := goodIn_app (goodIn_of _ (by decide +kernel)) ggL_law_X5_masked
set_option maxRecDepth 100000 in
theorem ggL_law_X6_masked : GoodIn wsL_law wsX6_masked := goodIn_r _ [303, 34, 266, 267, 268, 5, 269, 116, 117, 118, 119, 82, 120, 121, 122, 270, 271, 272, 273, 42, 39, 40, 148, 149, 150, 151, 35, 36, 207, 208, 209, 210, 37, 164, 165, 166, 167, 211, 212, 213, 214, 215, 216, 217, 517, 518, 519, 520, 521, 522, 523, 524, 525, 526, 527, 528, 529, 530, 531, 532] rfl (by decide +kernel)
set_option maxRecDepth 100000 in
theorem gL_law_X6_masked : GoodIn wsL_law (wsV RL 54 RX6 yX6_masked wsX6_masked) := goodIn_app (goodIn_of _ (by decide +kernel)) ggL_law_X6_masked
set_option maxRecDepth 100000 in
theorem ggL_law_X5_spread : GoodIn wsL_law wsX5_spread := goodIn_r _ [307, 88, 65, 66, 257, 172, 222, 223, 22, 90, 91, 92, 2, 93, 15, 14, 94, 71, 72, 73, 11, 12, 74, 75, 76, 77, 224, 225, 226, 173, 174, 227, 228, 229, 55, 56, 57, 230, 231, 232, 233, 234, 235, 236, 237, 238, 239, 240, 241, 242, 96, 97, 98, 99, 100, 101, 102, 103, 104, 105, 106, 107, 243, 244, 245, 246, 135, 136, 137, 54, 138, 63, 252, 253, 254, 255, 256, 175, 176, 130, 258, 259, 260, 261, 139, 140, 141, 142, 67, 143, 108, 109, 110, 111, 195, 196, 197, 198, 199, 200, 201, 202, 541, 542, 543, 544, 545, 546, 547, 548, 536, 537, 538, 539, 540, 512, 513, 514, 515, 516] rfl (by decide +kernel)
set_option maxRecDepth 100000 in
theorem gL_law_X5_spread : GoodIn wsL_law (wsV RL 55 RX5 yX5_spread wsX5_spread) := goodIn_app (goodIn_of _ (by decide +kernel)) ggL_law_X5_spread
set_option maxRecDepth 100000 in
theorem ggL_law_X6_spread : GoodIn wsL_law wsX6_spread := goodIn_r _ [311, 34, 116, 117, 118, 5, 119, 82, 120, 121, 122, 152, 153, 154, 155, 270, 271, 272, 273, 42, 39, 40, 148, 149, 150, 151, 35, 36, 207, 208, 209, 210, 37, 164, 165, 166, 167, 211, 212, 213, 214, 215, 216, 217, 517, 518, 519, 520, 521, 522, 523, 524, 525, 526, 527, 528, 529, 530, 531, 532] rfl (by decide +kernel)
set_option maxRecDepth 100000 in
theorem gL_law_X6_spread : GoodIn wsL_law (wsV RL 59 RX6 yX6_spread wsX6_spread) := goodIn_app (goodIn_of _ (by decide +kernel)) ggL_law_X6_spread
set_option maxRecDepth 100000 in
theorem ggL_law_X5_turn : GoodIn wsL_law wsX5_turn := goodIn_r _ [315, 90, 91, 92, 2, 93, 15, 14, 316, 317, 318, 54, 319, 67, 320, 143, 299, 140, 141, 142, 321, 322, 323, 324, 68, 325, 326, 327, 328, 512, 513, 514, 515, 516, 536, 537, 538, 539, 540, 541, 542, 543, 544] rfl (by decide +kernel)
set_option maxRecDepth 100000 in
theorem gL_law_X5_turn : GoodIn wsL_law (wsV RL 60 RX5 yX5_turn wsX5_turn) := goodIn_app (goodIn_of _ (by decide +kernel)) ggL_law_X5_turn
set_option maxRecDepth 100000 in
theorem ggL_law_X6_turn : GoodIn wsL_law wsX6_turn := goodIn_r _ [332, 36, 35, 40, 39, 116, 117, 118, 5, 119, 82, 164, 165, 166, 167, 148, 149, 150, 151, 517, 518, 519, 520, 521, 522, 523, 524, 525, 526, 527, 528, 529, 530, 531, 532] rfl (by decide +kernel)
set_option maxRecDepth 100000 in
theorem gL_law_X6_turn : GoodIn wsL_law (wsV RL 63 RX6 yX6_turn wsX6_turn) := goodIn_app (goodIn_of _ (by decide +kernel)) ggL_law_X6_turn
set_option maxRecDepth 100000 in
theorem ggL_law_X5_count : GoodIn wsL_law wsX5_count := goodIn_r _ [336, 130, 90, 91, 92, 2, 93, 15, 14, 536, 537, 538, 539, 540, 512, 513, 514, 515, 516] rfl (by decide +kernel)
set_option maxRecDepth 100000 in
theorem gL_law_X5_count : GoodIn wsL_law (wsV RL 64 RX5 yX5_count wsX5_count) := goodIn_app (goodIn_of _ (by decide +kernel)) ggL_law_X5_count
set_option maxRecDepth 100000 in
theorem ggL_law_X6_count : GoodIn wsL_law wsX6_count := goodIn_r _ [340, 36, 35, 116, 117, 118, 5, 119, 82, 164, 165, 166, 167, 39, 148, 149, 150, 151, 517, 518, 519, 520, 521, 522, 523, 524, 525, 526, 527, 528, 529, 530, 531, 532] rfl (by decide +kernel)
set_option maxRecDepth 100000 in
theorem gL_law_X6_count : GoodIn wsL_law (wsV RL 67 RX6 yX6_count wsX6_count) := goodIn_app (goodIn_of _ (by decide +kernel)) ggL_law_X6_count
set_option maxRecDepth 100000 in
theorem ggL_law_X5_tell : GoodIn wsL_law wsX5_tell := goodIn_r _ [344, 20, 345, 346, 347, 348, 17, 349, 350, 351, 352, 2, 353, 90, 91, 92, 93, 15, 14, 354, 355, 356, 19, 357, 28, 29, 358, 359, 360, 361, 11, 12, 362, 363, 364, 365, 366, 367, 368, 369, 370, 371, 140, 141, 54, 142, 67, 143, 372, 373, 374, 375, 376, 377, 378, 379, 380, 381, 382, 383, 384, 385, 386, 387, 388, 389, 390, 391, 392, 393, 394, 395, 101, 396, 397, 398, 399, 400, 27, 512, 513, 514, 515, 516, 549, 550, 551, 533, 534, 535, 536, 537, 538, 539, 540, 541, 542, 543, 544] rfl (by decide +kernel)
set_option maxRecDepth 100000 in
theorem gL_law_X5_tell : GoodIn wsL_law (wsV RL 68 RX5 yX5_tell wsX5_tell) := goodIn_app (goodIn_of _ (by decide +kernel)) ggL_law_X5_tell
set_option maxRecDepth 100000 in
theorem ggL_law_X6_tell : GoodIn wsL_law wsX6_tell := goodIn_r _ [404, 405, 36, 43, 44, 45, 406, 407, 408, 5, 409, 116, 117, 118, 119, 82, 410, 411, 412, 413, 35, 164, 165, 166, 167, 39, 148, 149, 150, 151, 414, 415, 416, 417, 418, 419, 420, 421, 422, 423, 424, 425, 426, 427, 428, 429, 517, 518, 519, 520, 521, 522, 523, 524, 525, 526, 527, 528, 529, 530, 531, 532] rfl (by decide +kernel)
set_option maxRecDepth 100000 in
theorem gL_law_X6_tell : GoodIn wsL_law (wsV RL 71 RX6 yX6_tell wsX6_tell) := goodIn_app (goodIn_of _ (by decide +kernel)) ggL_law_X6_tell
set_option maxRecDepth 100000 in
theorem ggL_law_X5_load : GoodIn wsL_law wsX5_load := goodIn_r _ [433, 349, 350, 351, 352, 2, 353, 17, 434, 398, 399, 19, 400, 28, 29, 27, 533, 534, 535, 512, 513, 514, 515, 516] rfl (by decide +kernel)
set_option maxRecDepth 100000 in
theorem gL_law_X5_load : GoodIn wsL_law (wsV RL 74 RX5 yX5_load wsX5_load) := goodIn_app (goodIn_of _ (by decide +kernel)) ggL_law_X5_load
set_option maxRecDepth 100000 in
theorem ggL_law_X6_load : GoodIn wsL_law wsX6_load := goodIn_r _ [438, 43, 44, 406, 407, 408, 5, 409, 517, 518, 519, 520, 521, 522, 523, 524, 525, 526, 527, 528, 529, 530, 531, 532] rfl (by decide +kernel)
set_option maxRecDepth 100000 in
theorem gL_law_X6_load : GoodIn wsL_law (wsV RL 78 RX6 yX6_load wsX6_load) := goodIn_app (goodIn_of _ (by decide +kernel)) ggL_law_X6_load
set_option maxRecDepth 100000 in
theorem ggL_law_X5_forget : GoodIn wsL_law wsX5_forget := goodIn_r _ [442, 349, 350, 351, 352, 2, 353, 17, 354, 355, 356, 19, 357, 28, 29, 533, 534, 535, 512, 513, 514, 515, 516] rfl (by decide +kernel)
set_option maxRecDepth 100000 in
theorem gL_law_X5_forget : GoodIn wsL_law (wsV RL 79 RX5 yX5_forget wsX5_forget) := goodIn_app (goodIn_of _ (by decide +kernel)) ggL_law_X5_forget
set_option maxRecDepth 100000 in
theorem ggL_law_X6_forget : GoodIn wsL_law wsX6_forget := goodIn_r _ [446, 43, 406, 407, 408, 5, 409, 517, 518, 519, 520, 521, 522, 523, 524, 525, 526, 527, 528, 529, 530, 531, 532] rfl (by decide +kernel)
set_option maxRecDepth 100000 in
theorem gL_law_X6_forget : GoodIn wsL_law (wsV RL 83 RX6 yX6_forget wsX6_forget) := goodIn_app (goodIn_of _ (by decide +kernel)) ggL_law_X6_forget
set_option maxRecDepth 100000 in
theorem ggL_law_X5_part : GoodIn wsL_law wsX5_part := goodIn_r _ [450, 349, 451, 350, 351, 352, 2, 353, 17, 533, 534, 535, 512, 513, 514, 515, 516] rfl (by decide +kernel)
set_option maxRecDepth 100000 in
theorem gL_law_X5_part : GoodIn wsL_law (wsV RL 84 RX5 yX5_part wsX5_part) := goodIn_app (goodIn_of _ (by decide +kernel)) ggL_law_X5_part
set_option maxRecDepth 100000 in
theorem ggL_law_X6_part : GoodIn wsL_law wsX6_part := goodIn_r _ [455, 43, 44, 406, 407, 408, 5, 409, 517, 518, 519, 520, 521, 522, 523, 524, 525, 526, 527, 528, 529, 530, 531, 532] rfl (by decide +kernel)
set_option maxRecDepth 100000 in
theorem gL_law_X6_part : GoodIn wsL_law (wsV RL 87 RX6 yX6_part wsX6_part) := goodIn_app (goodIn_of _ (by decide +kernel)) ggL_law_X6_part
set_option maxRecDepth 100000 in
theorem ggL_law_X5_draw : GoodIn wsL_law wsX5_draw := goodIn_r _ [459, 199, 350, 351, 352, 2, 353, 17, 90, 91, 92, 93, 15, 14, 460, 461, 462, 19, 463, 28, 27, 464, 465, 466, 467, 468, 469, 470, 471, 472, 473, 474, 475, 476, 477, 478, 479, 480, 481, 482, 54, 483, 69, 68, 298, 132, 133, 66, 134, 74, 76, 75, 77, 299, 140, 141, 142, 67, 143, 536, 537, 538, 539, 540, 512, 513, 514, 515, 516, 533, 534, 535, 541, 542, 543, 544] rfl (by decide +kernel)
set_option maxRecDepth 100000 in
theorem gL_law_X5_draw : GoodIn wsL_law (wsV RL 88 RX5 yX5_draw wsX5_draw) := goodIn_app (goodIn_of _ (by decide +kernel)) ggL_law_X5_draw
set_option maxRecDepth 100000 in
theorem ggL_law_X6_draw : GoodIn wsL_law wsX6_draw := goodIn_r _ [487, 488, 46, 47, 39, 48, 406, 407, 408, 5, 409, 116, 117, 118, 119, 82, 489, 490, 491, 492, 43, 44, 152, 153, 154, 155, 34, 493, 494, 495, 496, 207, 208, 209, 210, 37, 517, 518, 519, 520, 521, 522, 523, 524, 525, 526, 527, 528, 529, 530, 531, 532] rfl (by decide +kernel)
set_option maxRecDepth 100000 in
theorem gL_law_X6_draw : GoodIn wsL_law (wsV RL 91 RX6 yX6_draw wsX6_draw) := goodIn_app (goodIn_of _ (by decide +kernel)) ggL_law_X6_draw
set_option maxRecDepth 100000 in
theorem ggL_law_X5_check : GoodIn wsL_law wsX5_check := goodIn_r _ [500, 15, 14, 501, 502, 503, 54, 504, 68, 69, 505, 506, 143, 67, 320, 507, 136, 137, 138, 63, 512, 513, 514, 515, 516, 536, 537, 538, 539, 540, 541, 542, 543, 544] rfl (by decide +kernel)
set_option maxRecDepth 100000 in
theorem gL_law_X5_check : GoodIn wsL_law (wsV RL 92 RX5 yX5_check wsX5_check) := goodIn_app (goodIn_of _ (by decide +kernel)) ggL_law_X5_check
set_option maxRecDepth 100000 in
theorem ggL_law_X6_check : GoodIn wsL_law wsX6_check := goodIn_r _ [511] rfl (by decide +kernel)
set_option maxRecDepth 100000 in
theorem gL_law_X6_check : GoodIn wsL_law (wsV RL 96 RX6 yX6_check wsX6_check) := goodIn_app (goodIn_of _ (by decide +kernel)) ggL_law_X6_check
