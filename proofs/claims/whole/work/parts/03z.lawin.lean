theorem mem_places {big ws : List Cond} (ps : List Nat) (hp : ws = ps.filterMap (fun i => big[i]?)) : ∀ w ∈ ws, w ∈ big := by
  intro w hw
  rw [hp] at hw
  obtain ⟨i, -, hi⟩ := List.mem_filterMap.mp hw
  exact List.mem_of_getElem? hi
set_option maxRecDepth 20000 in
theorem in_wsL_law_r1 : ∀ w ∈ wsL_law_r1, w ∈ lw_tbl := mem_places [38, 39, 25, 540, 541, 32, 40, 41, 42, 43, 44, 45, 46, 47, 26, 232, 95, 96, 27, 233, 110, 111, 28, 235] (by decide +kernel)
set_option maxRecDepth 20000 in
theorem in_wsL_law_r2 : ∀ w ∈ wsL_law_r2, w ∈ lw_tbl := mem_places [236, 155, 156, 29, 234, 49, 50, 51, 94, 62, 65, 67, 69, 71, 73, 98, 99, 100, 101, 104, 113, 114, 115, 129] (by decide +kernel)
set_option maxRecDepth 20000 in
theorem in_wsL_law_r3 : ∀ w ∈ wsL_law_r3, w ∈ lw_tbl := mem_places [131, 132, 133, 157, 158, 159, 160, 161, 162, 30, 206, 185, 186, 31, 207, 208, 204, 205, 209, 164, 165, 166, 184, 169] (by decide +kernel)
set_option maxRecDepth 20000 in
theorem in_wsL_law_r4 : ∀ w ∈ wsL_law_r4, w ∈ lw_tbl := mem_places [170, 171, 172, 188, 189, 190, 195, 542, 543, 544, 545, 548, 550, 551, 552, 554, 555, 556, 557, 546, 635, 558, 560, 561] (by decide +kernel)
set_option maxRecDepth 20000 in
theorem in_wsL_law_r5 : ∀ w ∈ wsL_law_r5, w ∈ lw_tbl := mem_places [568, 569, 570, 571, 572, 573, 562, 248, 249, 250, 251, 252, 253, 254, 255, 256, 257, 258, 52, 636, 637, 638, 639, 547] (by decide +kernel)
set_option maxRecDepth 20000 in
theorem in_wsL_law_r6 : ∀ w ∈ wsL_law_r6, w ∈ lw_tbl := mem_places [640, 641, 642, 259, 260, 261, 262, 263, 264, 265, 266, 267, 268, 269, 270, 56, 643, 644, 645, 646, 549, 271, 272, 273] (by decide +kernel)
set_option maxRecDepth 20000 in
theorem in_wsL_law_r7 : ∀ w ∈ wsL_law_r7, w ∈ lw_tbl := mem_places [274, 275, 276, 277, 278, 60, 647, 648, 649, 650, 553, 279, 280, 281, 282, 286, 288, 103, 283, 284, 285, 651, 652, 653] (by decide +kernel)
set_option maxRecDepth 20000 in
theorem in_wsL_law_r8 : ∀ w ∈ wsL_law_r8, w ∈ lw_tbl := mem_places [654, 655, 656, 657, 290, 291, 292, 293, 294, 295, 296, 297, 298, 299, 300, 658, 659, 660, 661, 301, 302, 303, 304, 64] (by decide +kernel)
set_option maxRecDepth 20000 in
theorem in_wsL_law_r9 : ∀ w ∈ wsL_law_r9, w ∈ lw_tbl := mem_places [662, 663, 664, 665, 305, 306, 307, 308, 309, 310, 311, 312, 313, 314, 33, 315, 316, 317, 318, 666, 667, 668, 669, 670] (by decide +kernel)
set_option maxRecDepth 20000 in
theorem in_wsL_law_r10 : ∀ w ∈ wsL_law_r10, w ∈ lw_tbl := mem_places [672, 7, 673, 319, 320, 321, 322, 323, 324, 325, 326, 674, 675, 676, 677, 678, 680, 8, 681, 327, 328, 329, 330, 331] (by decide +kernel)
set_option maxRecDepth 20000 in
theorem in_wsL_law_r11 : ∀ w ∈ wsL_law_r11, w ∈ lw_tbl := mem_places [333, 334, 335, 336, 337, 682, 683, 684, 685, 686, 688, 9, 689, 338, 339, 340, 341, 55, 58, 61, 690, 691, 692, 693] (by decide +kernel)
set_option maxRecDepth 20000 in
theorem in_wsL_law_r12 : ∀ w ∈ wsL_law_r12, w ∈ lw_tbl := mem_places [342, 343, 344, 345, 117, 346, 347, 348, 349, 350, 351, 352, 353, 210, 211, 212, 54, 102, 168, 127, 354, 355, 356, 357] (by decide +kernel)
set_option maxRecDepth 20000 in
theorem in_wsL_law_r13 : ∀ w ∈ wsL_law_r13, w ∈ lw_tbl := mem_places [167, 358, 359, 34, 360, 361, 362, 363, 364, 116, 118, 120, 122, 124, 126, 365, 366, 367, 368, 191, 53, 63, 193, 369] (by decide +kernel)
set_option maxRecDepth 20000 in
theorem in_wsL_law_r14 : ∀ w ∈ wsL_law_r14, w ∈ lw_tbl := mem_places [370, 371, 372, 374, 0, 375, 59, 376, 377, 378, 379, 380, 381, 382, 383, 384, 385, 387, 1, 388, 192, 194, 196, 389] (by decide +kernel)
set_option maxRecDepth 20000 in
theorem in_wsL_law_r15 : ∀ w ∈ wsL_law_r15, w ∈ lw_tbl := mem_places [390, 391, 392, 393, 395, 394, 35, 396, 397, 398, 399, 400, 401, 402, 36, 403, 404, 405, 406, 407, 408, 409, 410, 411] (by decide +kernel)
set_option maxRecDepth 20000 in
theorem in_wsL_law_r16 : ∀ w ∈ wsL_law_r16, w ∈ lw_tbl := mem_places [412, 413, 414, 415, 416, 417, 418, 419, 420, 421, 423, 2, 424, 425, 427, 3, 428, 57, 429, 430, 431, 432, 433, 434] (by decide +kernel)
set_option maxRecDepth 20000 in
theorem in_wsL_law_r17 : ∀ w ∈ wsL_law_r17, w ∈ lw_tbl := mem_places [435, 436, 437, 438, 439, 440, 441, 443, 4, 444, 74, 72, 68, 445, 446, 447, 448, 449, 450, 451, 452, 453, 454, 455] (by decide +kernel)
set_option maxRecDepth 20000 in
theorem in_wsL_law_r18 : ∀ w ∈ wsL_law_r18, w ∈ lw_tbl := mem_places [456, 457, 458, 459, 460, 461, 462, 463, 464, 465, 466, 467, 469, 5, 470, 66, 70, 471, 472, 473, 474, 475, 476, 477] (by decide +kernel)
set_option maxRecDepth 20000 in
theorem in_wsL_law_r19 : ∀ w ∈ wsL_law_r19, w ∈ lw_tbl := mem_places [478, 479, 480, 481, 482, 483, 484, 485, 486, 487, 488, 489, 490, 491, 492, 493, 494, 495, 496, 37, 497, 498, 499, 501] (by decide +kernel)
set_option maxRecDepth 20000 in
theorem in_wsL_law_r20 : ∀ w ∈ wsL_law_r20, w ∈ lw_tbl := mem_places [6, 502, 694, 695, 696, 697, 574, 563, 564, 565, 566, 567, 559, 698, 700, 10, 701, 575, 702, 704, 11, 705, 706, 707] (by decide +kernel)
set_option maxRecDepth 20000 in
theorem in_wsL_law_r21 : ∀ w ∈ wsL_law_r21, w ∈ lw_tbl := mem_places [708, 709, 711, 12, 712, 713, 715, 13, 716, 717, 719, 14, 720, 721, 723, 15, 724, 725, 727, 16, 728, 729, 730, 731] (by decide +kernel)
set_option maxRecDepth 20000 in
theorem in_wsL_law_r22 : ∀ w ∈ wsL_law_r22, w ∈ lw_tbl := mem_places [732, 734, 17, 735, 736, 738, 18, 739, 740, 742, 19, 743, 744, 746, 20, 747, 748, 750, 21, 751, 752, 754, 22, 755] (by decide +kernel)
set_option maxRecDepth 20000 in
theorem in_wsL_law_r23 : ∀ w ∈ wsL_law_r23, w ∈ lw_tbl := mem_places [503, 504, 505, 506, 128, 121, 123, 125, 756, 757, 758, 759, 507, 508, 509, 510, 119, 130, 511, 512, 513, 514, 760, 761] (by decide +kernel)
set_option maxRecDepth 20000 in
theorem in_wsL_law_r24 : ∀ w ∈ wsL_law_r24, w ∈ lw_tbl := mem_places [762, 763, 515, 516, 517, 518, 519, 520, 521, 522, 523, 524, 525, 526, 527, 528, 529, 530, 531, 532, 533, 534, 535, 764] (by decide +kernel)
set_option maxRecDepth 20000 in
theorem in_wsL_law_r25 : ∀ w ∈ wsL_law_r25, w ∈ lw_tbl := mem_places [765, 766, 767, 536, 537, 538, 539, 768, 769, 770, 771, 772, 774, 23, 775] (by decide +kernel)
set_option maxRecDepth 20000 in
theorem inX0 : ∀ w ∈ wsX00, w ∈ lw_tbl := mem_places [134, 136, 138, 140, 142, 144, 146, 148, 150, 152] (by decide +kernel)
set_option maxRecDepth 20000 in
theorem inX1 : ∀ w ∈ wsX10, w ∈ lw_tbl := mem_places [75, 77, 79, 81, 83, 85, 87, 89, 91] (by decide +kernel)
set_option maxRecDepth 20000 in
theorem inX2 : ∀ w ∈ wsX20, w ∈ lw_tbl := mem_places [105, 107] (by decide +kernel)
set_option maxRecDepth 20000 in
theorem inX3 : ∀ w ∈ wsX30, w ∈ lw_tbl := mem_places [213, 215, 217, 219, 221, 223, 225, 227, 229] (by decide +kernel)
set_option maxRecDepth 20000 in
theorem inX4 : ∀ w ∈ wsX40, w ∈ lw_tbl := mem_places [197, 199, 201] (by decide +kernel)
set_option maxRecDepth 20000 in
theorem inX5 : ∀ w ∈ wsX50, w ∈ lw_tbl := mem_places [173, 175, 177, 179, 181] (by decide +kernel)
set_option maxRecDepth 20000 in
theorem inX7 : ∀ w ∈ wsX70, w ∈ lw_tbl := mem_places [237, 239, 241, 243, 245] (by decide +kernel)
set_option maxRecDepth 20000 in
theorem inX8 : ∀ w ∈ wsX80, w ∈ lw_tbl := mem_places [576, 578, 580, 582, 584, 586, 588, 590, 592, 594, 596, 598, 600, 602, 604, 606, 608, 610, 612, 614, 616, 618, 620, 622, 624, 626, 628, 630, 632] (by decide +kernel)
theorem wsL_law_in : ∀ w ∈ wsL_law, w ∈ lw_tbl := (List.forall_mem_append.mpr ⟨(List.forall_mem_append.mpr ⟨(List.forall_mem_append.mpr ⟨(List.forall_mem_append.mpr ⟨(List.forall_mem_append.mpr ⟨(List.forall_mem_append.mpr ⟨(List.forall_mem_append.mpr ⟨(List.forall_mem_append.mpr ⟨(List.forall_mem_append.mpr ⟨(List.forall_mem_append.mpr ⟨in_wsL_law_r1, (List.forall_mem_append.mpr ⟨in_wsL_law_r2, (List.forall_mem_append.mpr ⟨in_wsL_law_r3, (List.forall_mem_append.mpr ⟨in_wsL_law_r4, (List.forall_mem_append.mpr ⟨in_wsL_law_r5, (List.forall_mem_append.mpr ⟨in_wsL_law_r6, (List.forall_mem_append.mpr ⟨in_wsL_law_r7, (List.forall_mem_append.mpr ⟨in_wsL_law_r8, (List.forall_mem_append.mpr ⟨in_wsL_law_r9, (List.forall_mem_append.mpr ⟨in_wsL_law_r10, (List.forall_mem_append.mpr ⟨in_wsL_law_r11, (List.forall_mem_append.mpr ⟨in_wsL_law_r12, (List.forall_mem_append.mpr ⟨in_wsL_law_r13, (List.forall_mem_append.mpr ⟨in_wsL_law_r14, (List.forall_mem_append.mpr ⟨in_wsL_law_r15, (List.forall_mem_append.mpr ⟨in_wsL_law_r16, (List.forall_mem_append.mpr ⟨in_wsL_law_r17, (List.forall_mem_append.mpr ⟨in_wsL_law_r18, (List.forall_mem_append.mpr ⟨in_wsL_law_r19, (List.forall_mem_append.mpr ⟨in_wsL_law_r20, (List.forall_mem_append.mpr ⟨in_wsL_law_r21, (List.forall_mem_append.mpr ⟨in_wsL_law_r22, (List.forall_mem_append.mpr ⟨in_wsL_law_r23, (List.forall_mem_append.mpr ⟨in_wsL_law_r24, in_wsL_law_r25⟩)⟩)⟩)⟩)⟩)⟩)⟩)⟩)⟩)⟩)⟩)⟩)⟩)⟩)⟩)⟩)⟩)⟩)⟩)⟩)⟩)⟩)⟩)⟩), inX7⟩), inX8⟩), inX1⟩), inX2⟩), inX0⟩), inX3⟩), inX5⟩), inX4⟩), fun _ h => absurd h List.not_mem_nil⟩)
