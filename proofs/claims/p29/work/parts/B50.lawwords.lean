/-! the words of the class and of the law's methods stand in the law's table (own work) -/
theorem lx_in {L : List Cond} {is : List Nat} (h : L = is.filterMap (fun i => lw_tbl[i]?)) : ∀ w ∈ L, w ∈ lw_tbl := fun w hw => by
  rw [h] at hw
  obtain ⟨i, _, hi⟩ := List.mem_filterMap.mp hw
  exact List.mem_of_getElem? hi
set_option maxRecDepth 100000 in
theorem lx_0 : ∀ w ∈ w_C_0, w ∈ lw_tbl := lx_in (is := [331, 332, 38, 39, 95, 337, 333, 334, 335, 336, 146, 147, 157, 148, 73, 74, 77, 80, 82, 83, 463, 75, 464, 466, 465, 30, 373, 374, 375, 27, 376, 487, 483, 563, 447, 443, 444, 445, 446, 18, 474, 475, 441, 442, 568, 592, 164, 165, 171, 172, 173, 174, 175, 176, 177, 178, 179, 180, 166, 167]) (by decide +kernel)
set_option maxRecDepth 100000 in
theorem lx_1 : ∀ w ∈ w_C_1, w ∈ lw_tbl := lx_in (is := [451, 48, 46, 558, 369, 559, 168, 169, 170, 554, 449, 450, 16, 555, 556, 557, 560, 561, 562, 564, 565, 566, 567, 553, 576, 580, 572, 573, 575, 5, 22, 577, 579, 6, 588, 584, 585, 587, 8, 550, 552, 3, 569, 571, 4, 581, 583, 7, 549, 683, 532, 533, 29, 534, 535, 536, 537, 680, 682, 15]) (by decide +kernel)
set_option maxRecDepth 100000 in
theorem lx_2 : ∀ w ∈ w_C_2, w ∈ lw_tbl := lx_in (is := [690, 522, 523, 28, 524, 525, 526, 527, 687, 689, 657, 662, 666, 659, 661, 12, 653, 481, 482, 654, 656, 11, 658, 663, 665, 13, 652, 44, 45, 368, 365, 50, 52, 366, 367, 501, 498, 499, 500, 429, 386, 425, 437, 438, 427, 428, 424, 495, 100, 101, 108, 102, 68, 69, 70, 109, 96, 97, 19, 111]) (by decide +kernel)
set_option maxRecDepth 100000 in
theorem lx_3 : ∀ w ∈ w_C_3, w ∈ lw_tbl := lx_in (is := [113, 72, 99, 67, 127, 128, 131, 64, 17, 66, 126, 390, 459, 460, 461, 462, 467, 388, 389, 134, 132, 468, 469, 31, 470, 456, 457, 458, 455, 517, 381, 382, 505, 531, 216, 217, 218, 223, 225, 220, 221, 222, 249, 250, 253, 254, 255, 256, 257, 258, 259, 251, 252, 242, 243, 283, 284, 285, 286, 287]) (by decide +kernel)
set_option maxRecDepth 100000 in
theorem lx_4 : ∀ w ∈ w_C_4, w ∈ lw_tbl := lx_in (is := [288, 289, 290, 291, 292, 293, 279, 280, 281, 245, 246, 25, 282, 247, 248, 241, 391, 392, 377, 397, 393, 399, 362, 363, 364, 370, 371, 372, 378, 379, 380, 383, 384, 385, 387, 361, 37, 40, 41, 63, 122, 123, 20, 142, 143, 21, 394, 158, 395, 160, 161, 396, 212, 213, 23, 237, 238, 24, 398, 327]) (by decide +kernel)
set_option maxRecDepth 100000 in
theorem lx_5 : ∀ w ∈ w_C_5, w ∈ lw_tbl := lx_in (is := [328, 26, 43, 124, 125, 145, 162, 163, 214, 215, 239, 240, 329, 330, 358, 360, 0, 36, 423, 426, 422, 434, 435, 436, 440, 448, 452, 453, 454, 471, 472, 473, 433, 480, 484, 485, 486, 479, 546, 547, 548, 545, 649, 650, 651, 528, 529, 530, 667, 542, 544, 2, 648, 675, 676, 677, 678, 679, 684, 685]) (by decide +kernel)
set_option maxRecDepth 100000 in
theorem lx_6 : ∀ w ∈ w_C_6, w ∈ lw_tbl := lx_in (is := [686, 674, 492, 493, 494, 496, 497, 502, 503, 504, 491, 509, 514, 515, 516, 513, 541, 596, 600, 538, 540, 1, 589, 590, 591, 593, 595, 9, 597, 599, 10, 521, 602, 603, 606, 607, 610, 611, 613, 614, 616, 617, 619, 620, 622, 623, 625, 626, 628, 629, 631, 632, 634, 635, 637, 638, 640, 641, 643, 644]) (by decide +kernel)
set_option maxRecDepth 100000 in
theorem lx_7 : ∀ w ∈ w_C_7, w ∈ lw_tbl := lx_in (is := [669, 670, 14, 419, 420, 421, 430, 431, 432, 476, 477, 478, 488, 489, 490, 506, 507, 508, 510, 511, 512, 518, 519, 520, 601, 605, 609, 612, 615, 618, 621, 624, 627, 630, 633, 636, 639, 642, 645, 646, 647, 668, 671, 672, 673, 604, 608, 32]) (by decide +kernel)
set_option maxRecDepth 100000 in
theorem lx_8 : ∀ w ∈ (u_ws R_Out T_Out 9), w ∈ lw_tbl := lx_in (is := [400, 402, 404, 406, 408, 410, 412, 414, 416]) (by decide +kernel)
set_option maxRecDepth 100000 in
theorem lx_9 : ∀ w ∈ (u_ws R_Grid T_Grid 4), w ∈ lw_tbl := lx_in (is := [54, 56, 58, 60]) (by decide +kernel)
set_option maxRecDepth 100000 in
theorem lx_10 : ∀ w ∈ (u_ws R_Situation T_Situation 3), w ∈ lw_tbl := lx_in (is := [115, 117, 119]) (by decide +kernel)
set_option maxRecDepth 100000 in
theorem lx_11 : ∀ w ∈ (u_ws R_Clues T_Clues 5), w ∈ lw_tbl := lx_in (is := [84, 86, 88, 90, 92]) (by decide +kernel)
set_option maxRecDepth 100000 in
theorem lx_12 : ∀ w ∈ (u_ws R_Layer T_Layer 1), w ∈ lw_tbl := lx_in (is := [105]) (by decide +kernel)
set_option maxRecDepth 100000 in
theorem lx_13 : ∀ w ∈ (u_ws R_History T_History 3), w ∈ lw_tbl := lx_in (is := [135, 137, 139]) (by decide +kernel)
set_option maxRecDepth 100000 in
theorem lx_14 : ∀ w ∈ (u_ws R_ClueText T_ClueText 3), w ∈ lw_tbl := lx_in (is := [150, 152, 154]) (by decide +kernel)
set_option maxRecDepth 100000 in
theorem lx_15 : ∀ w ∈ (u_ws R_Fillings T_Fillings 15), w ∈ lw_tbl := lx_in (is := [181, 183, 185, 187, 189, 191, 193, 195, 197, 199, 201, 203, 205, 207, 209]) (by decide +kernel)
set_option maxRecDepth 100000 in
theorem lx_16 : ∀ w ∈ (u_ws R_Narrower T_Narrower 5), w ∈ lw_tbl := lx_in (is := [226, 228, 230, 232, 234]) (by decide +kernel)
set_option maxRecDepth 100000 in
theorem lx_17 : ∀ w ∈ (u_ws R_Search T_Search 16), w ∈ lw_tbl := lx_in (is := [294, 296, 298, 300, 302, 304, 306, 308, 310, 312, 314, 316, 318, 320, 322, 324]) (by decide +kernel)
set_option maxRecDepth 100000 in
theorem lx_18 : ∀ w ∈ (u_ws R_Stages T_Stages 9), w ∈ lw_tbl := lx_in (is := [260, 262, 264, 266, 268, 270, 272, 274, 276]) (by decide +kernel)
set_option maxRecDepth 100000 in
theorem lx_19 : ∀ w ∈ (u_ws R_Advice T_Advice 9), w ∈ lw_tbl := lx_in (is := [339, 341, 343, 345, 347, 349, 351, 353, 355]) (by decide +kernel)
theorem lt_C : ∀ w ∈ w_C, w ∈ lw_tbl := by
  unfold w_C
  exact List.forall_mem_append.mpr ⟨lx_0, List.forall_mem_append.mpr ⟨lx_1, List.forall_mem_append.mpr ⟨lx_2, List.forall_mem_append.mpr ⟨lx_3, List.forall_mem_append.mpr ⟨lx_4, List.forall_mem_append.mpr ⟨lx_5, List.forall_mem_append.mpr ⟨lx_6, List.forall_mem_append.mpr ⟨lx_7, List.forall_mem_append.mpr ⟨lx_8, List.forall_mem_append.mpr ⟨lx_9, List.forall_mem_append.mpr ⟨lx_10, List.forall_mem_append.mpr ⟨lx_11, List.forall_mem_append.mpr ⟨lx_12, List.forall_mem_append.mpr ⟨lx_13, List.forall_mem_append.mpr ⟨lx_14, List.forall_mem_append.mpr ⟨lx_15, List.forall_mem_append.mpr ⟨lx_16, List.forall_mem_append.mpr ⟨lx_17, List.forall_mem_append.mpr ⟨lx_18, lx_19⟩⟩⟩⟩⟩⟩⟩⟩⟩⟩⟩⟩⟩⟩⟩⟩⟩⟩⟩
