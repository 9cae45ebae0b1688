theorem rIn {big ws : List Cond} (ps : List Nat) (hp : ws = ps.filterMap (fun i => big[i]?)) : ∀ w ∈ ws, w ∈ big := by
  intro w hw
  rw [hp] at hw
  obtain ⟨i, -, hi⟩ := List.mem_filterMap.mp hw
  first | exact List.mem_of_getElem? hi | exact List.getElem?_mem hi
set_option maxRecDepth 20000 in
theorem lin_1 : ∀ w ∈ wsL_law_r1, w ∈ lw_tbl := rIn [31, 32, 25, 369, 370, 28, 33, 34, 35, 36, 37, 38, 39, 40, 26, 115, 84, 85, 27, 116, 41, 42, 43, 44] (by decide +kernel)
set_option maxRecDepth 20000 in
theorem lin_2 : ∀ w ∈ wsL_law_r2, w ∈ lw_tbl := rIn [83, 67, 68, 45, 46, 47, 48, 69, 70, 71, 49, 51, 0, 52, 53, 55, 1, 56, 58, 59, 60, 62, 2, 63] (by decide +kernel)
set_option maxRecDepth 20000 in
theorem lin_3 : ∀ w ∈ wsL_law_r3, w ∈ lw_tbl := rIn [64, 65, 66, 87, 88, 89, 371, 372, 373, 374, 383, 384, 385, 386, 389, 423, 390, 391, 375, 377, 15, 378, 379, 381] (by decide +kernel)
set_option maxRecDepth 20000 in
theorem lin_4 : ∀ w ∈ wsL_law_r4, w ∈ lw_tbl := rIn [16, 382, 122, 123, 124, 125, 126, 127, 128, 129, 130, 131, 132, 133, 424, 425, 426, 427, 428, 432, 429, 430, 431, 134] (by decide +kernel)
set_option maxRecDepth 20000 in
theorem lin_5 : ∀ w ∈ wsL_law_r5, w ∈ lw_tbl := rIn [135, 136, 137, 147, 138, 139, 140, 141, 142, 143, 144, 145, 146, 433, 434, 435, 436, 441, 437, 439, 17, 440, 148, 149] (by decide +kernel)
set_option maxRecDepth 20000 in
theorem lin_6 : ∀ w ∈ wsL_law_r6, w ∈ lw_tbl := rIn [150, 151, 152, 153, 154, 155, 442, 443, 444, 445, 446, 448, 18, 449, 156, 157, 158, 159, 160, 161, 162, 163, 164, 165] (by decide +kernel)
set_option maxRecDepth 20000 in
theorem lin_7 : ∀ w ∈ wsL_law_r7, w ∈ lw_tbl := rIn [166, 167, 168, 169, 450, 451, 452, 453, 454, 455, 456, 170, 171, 172, 173, 457, 458, 459, 460, 174, 175, 176, 177, 178] (by decide +kernel)
set_option maxRecDepth 20000 in
theorem lin_8 : ∀ w ∈ wsL_law_r8, w ∈ lw_tbl := rIn [179, 180, 181, 182, 461, 462, 463, 464, 183, 184, 185, 186, 187, 188, 189, 190, 191, 193, 3, 194, 195, 197, 4, 198] (by decide +kernel)
set_option maxRecDepth 20000 in
theorem lin_9 : ∀ w ∈ wsL_law_r9, w ∈ lw_tbl := rIn [199, 201, 5, 202, 203, 204, 205, 206, 465, 466, 467, 468, 395, 469, 471, 19, 472, 207, 208, 209, 210, 211, 212, 213] (by decide +kernel)
set_option maxRecDepth 20000 in
theorem lin_10 : ∀ w ∈ wsL_law_r10, w ∈ lw_tbl := rIn [214, 215, 216, 217, 218, 473, 474, 475, 476, 219, 220, 221, 222, 223, 224, 29, 225, 227, 228, 30, 229, 230, 231, 232] (by decide +kernel)
set_option maxRecDepth 20000 in
theorem lin_11 : ∀ w ∈ wsL_law_r11, w ∈ lw_tbl := rIn [233, 234, 235, 237, 238, 239, 240, 241, 242, 477, 478, 479, 480, 481, 482, 483, 484, 485, 486, 487, 243, 244, 245, 246] (by decide +kernel)
set_option maxRecDepth 20000 in
theorem lin_12 : ∀ w ∈ wsL_law_r12, w ∈ lw_tbl := rIn [247, 248, 249, 250, 251, 252, 253, 254, 255, 256, 488, 489, 490, 491, 257, 258, 259, 260, 261, 262, 263, 264, 90, 91] (by decide +kernel)
set_option maxRecDepth 20000 in
theorem lin_13 : ∀ w ∈ wsL_law_r13, w ∈ lw_tbl := rIn [92, 93, 94, 95, 96, 97, 492, 493, 494, 495, 496, 497, 387, 388, 392, 393, 394, 265, 266, 267, 268, 269, 270, 271] (by decide +kernel)
set_option maxRecDepth 20000 in
theorem lin_14 : ∀ w ∈ wsL_law_r14, w ∈ lw_tbl := rIn [272, 273, 274, 275, 276, 277, 278, 279, 280, 281, 283, 284, 285, 286, 498, 499, 500, 501, 502, 504, 20, 505, 506, 287] (by decide +kernel)
set_option maxRecDepth 20000 in
theorem lin_15 : ∀ w ∈ wsL_law_r15, w ∈ lw_tbl := rIn [288, 289, 290, 291, 292, 293, 294, 507, 508, 509, 510, 295, 296, 297, 298, 299, 300, 301, 302, 303, 305, 6, 306, 307] (by decide +kernel)
set_option maxRecDepth 20000 in
theorem lin_16 : ∀ w ∈ wsL_law_r16, w ∈ lw_tbl := rIn [308, 309, 311, 7, 312, 313, 315, 8, 316, 317, 318, 319, 321, 9, 322, 323, 325, 10, 326, 511, 512, 513, 514, 515] (by decide +kernel)
set_option maxRecDepth 20000 in
theorem lin_17 : ∀ w ∈ wsL_law_r17, w ∈ lw_tbl := rIn [516, 517, 518, 519, 520, 522, 21, 523, 524, 526, 22, 527, 528, 530, 23, 531, 327, 328, 329, 330, 331, 332, 333, 334] (by decide +kernel)
set_option maxRecDepth 20000 in
theorem lin_18 : ∀ w ∈ wsL_law_r18, w ∈ lw_tbl := rIn [335, 336, 337, 338, 339, 340, 342, 11, 343, 344, 346, 12, 347, 348, 350, 13, 351, 352, 354, 14, 355, 532, 533, 534] (by decide +kernel)
set_option maxRecDepth 20000 in
theorem lin_19 : ∀ w ∈ wsL_law_r19, w ∈ lw_tbl := rIn [535, 536, 356, 357, 358, 359, 537, 538, 539, 540, 360, 361, 362, 363, 364, 365, 366, 367, 368, 541, 542, 543, 544, 545] (by decide +kernel)
set_option maxRecDepth 20000 in
theorem lin_X0 : ∀ w ∈ wsX00, w ∈ lw_tbl := by decide +kernel
set_option maxRecDepth 20000 in
theorem lin_X2 : ∀ w ∈ wsX20, w ∈ lw_tbl := by decide +kernel
set_option maxRecDepth 20000 in
theorem lin_X3 : ∀ w ∈ wsX30, w ∈ lw_tbl := by decide +kernel
set_option maxRecDepth 20000 in
theorem lin_X4 : ∀ w ∈ wsX40, w ∈ lw_tbl := by decide +kernel
theorem wsL_law_in : ∀ w ∈ wsL_law, w ∈ lw_tbl := (List.forall_mem_append.mpr ⟨(List.forall_mem_append.mpr ⟨(List.forall_mem_append.mpr ⟨(List.forall_mem_append.mpr ⟨(List.forall_mem_append.mpr ⟨(List.forall_mem_append.mpr ⟨lin_1, (List.forall_mem_append.mpr ⟨lin_2, (List.forall_mem_append.mpr ⟨lin_3, (List.forall_mem_append.mpr ⟨lin_4, (List.forall_mem_append.mpr ⟨lin_5, (List.forall_mem_append.mpr ⟨lin_6, (List.forall_mem_append.mpr ⟨lin_7, (List.forall_mem_append.mpr ⟨lin_8, (List.forall_mem_append.mpr ⟨lin_9, (List.forall_mem_append.mpr ⟨lin_10, (List.forall_mem_append.mpr ⟨lin_11, (List.forall_mem_append.mpr ⟨lin_12, (List.forall_mem_append.mpr ⟨lin_13, (List.forall_mem_append.mpr ⟨lin_14, (List.forall_mem_append.mpr ⟨lin_15, (List.forall_mem_append.mpr ⟨lin_16, (List.forall_mem_append.mpr ⟨lin_17, (List.forall_mem_append.mpr ⟨lin_18, lin_19⟩)⟩)⟩)⟩)⟩)⟩)⟩)⟩)⟩)⟩)⟩)⟩)⟩)⟩)⟩)⟩)⟩)⟩), lin_X3⟩), lin_X4⟩), lin_X0⟩), lin_X2⟩), fun _ h => absurd h List.not_mem_nil⟩)
