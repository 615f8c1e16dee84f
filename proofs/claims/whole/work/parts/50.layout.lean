/-! THE CELLS' LAYOUT (written by a program: wip/whole/gen_50.py): after the start the cells stay, only ints change: memory as a function of the ints. -/
abbrev g_S : Type := Nat → Nat → Int32
abbrev g_L : Type := Nat × (Nat × List Nat)
def g_tab0 : List g_L := [(0, (7, [3, 0, 4, 0, 5, 13, 0, 23, 24, 51, 78, 0, 79, 87])), (1, (500, [])), (6, (4, [86, 94, 102, 110])), (0, (4, [0, 0, 6, 7, 8, 9, 10, 11, 0, 12])), (1, (24, [])), (1, (24, [])), (1, (24, [])), (1, (24, [])), (1, (24, [])), (1, (500, [])), (1, (24, [])), (0, (5, [0, 0, 1, 0, 1, 0, 0, 0, 0, 0])), (1, (0, [])), (0, (4, [0, 0, 16, 17, 18, 19, 20, 21, 0, 22])), (1, (24, [])), (1, (24, [])), (1, (24, [])), (1, (24, [])), (1, (24, [])), (1, (500, [])), (1, (24, [])), (1, (8, [])), (0, (0, [25, 0, 0, 0, 0, 0, 26, 0, 27])), (7, (13, [28, 29, 30, 31, 32, 33, 34, 35, 36, 37, 38, 39, 40])), (8, (8, [41, 42, 43, 44, 45, 46, 47, 48])), (0, (2, [0, 28, 29])), (1, (20, [])), (1, (20, [])), (0, (3, [0, 0, 0, 0, 0, 0, 0, 0])), (0, (3, [0, 0, 0, 0, 0, 0, 0, 0])), (0, (3, [0, 0, 0, 0, 0, 0, 0, 0])), (0, (3, [0, 0, 0, 0, 0, 0, 0, 0])), (0, (3, [0, 0, 0, 0, 0, 0, 0, 0])), (0, (3, [0, 0, 0, 0, 0, 0, 0, 0])), (0, (3, [0, 0, 0, 0, 0, 0, 0, 0])), (0, (3, [0, 0, 0, 0, 0, 0, 0, 0])), (0, (3, [0, 0, 0, 0, 0, 0, 0, 0])), (0, (3, [0, 0, 0, 0, 0, 0, 0, 0])), (0, (3, [0, 0, 0, 0, 0, 0, 0, 0])), (0, (3, [0, 0, 0, 0, 0, 0, 0, 0])), (0, (3, [0, 0, 0, 0, 0, 0, 0, 0])), (0, (6, [0, 0, 0])), (0, (6, [0, 0, 0])), (0, (6, [0, 0, 0])), (0, (6, [0, 0, 0])), (0, (6, [0, 0, 0])), (0, (6, [0, 0, 0])), (0, (6, [0, 0, 0])), (0, (6, [0, 0, 0])), (0, (0, [52, 0, 0, 0, 0, 0, 53, 0, 54])), (7, (13, [55, 56, 57, 58, 59, 60, 61, 62, 63, 64, 65, 66, 67])), (8, (8, [68, 69, 70, 71, 72, 73, 74, 75])), (0, (2, [0, 55, 56])), (1, (20, [])), (1, (20, [])), (0, (3, [0, 0, 0, 0, 0, 0, 0, 0])), (0, (3, [0, 0, 0, 0, 0, 0, 0, 0])), (0, (3, [0, 0, 0, 0, 0, 0, 0, 0])), (0, (3, [0, 0, 0, 0, 0, 0, 0, 0])), (0, (3, [0, 0, 0, 0, 0, 0, 0, 0])), (0, (3, [0, 0, 0, 0, 0, 0, 0, 0])), (0, (3, [0, 0, 0, 0, 0, 0, 0, 0])), (0, (3, [0, 0, 0, 0, 0, 0, 0, 0])), (0, (3, [0, 0, 0, 0, 0, 0, 0, 0])), (0, (3, [0, 0, 0, 0, 0, 0, 0, 0])), (0, (3, [0, 0, 0, 0, 0, 0, 0, 0])), (0, (3, [0, 0, 0, 0, 0, 0, 0, 0])), (0, (3, [0, 0, 0, 0, 0, 0, 0, 0])), (0, (6, [0, 0, 0])), (0, (6, [0, 0, 0])), (0, (6, [0, 0, 0])), (0, (6, [0, 0, 0])), (0, (6, [0, 0, 0])), (0, (6, [0, 0, 0])), (0, (6, [0, 0, 0])), (0, (6, [0, 0, 0])), (9, (3, [118, 145, 172])), (0, (1, [80, 81, 82, 83, 84, 85, 86, 0])), (1, (13, [])), (1, (13, [])), (1, (13, [])), (1, (13, [])), (2, (13, [])), (1, (13, [])), (1, (8, [])), (1, (3328, [])), (0, (4, [0, 0, 89, 90, 91, 92, 93, 94, 0, 95])), (1, (24, [])), (1, (24, [])), (1, (24, [])), (1, (24, [])), (1, (24, [])), (1, (500, [])), (1, (24, [])), (0, (4, [0, 0, 97, 98, 99, 100, 101, 102, 0, 103])), (1, (24, [])), (1, (24, [])), (1, (24, [])), (1, (24, [])), (1, (24, [])), (1, (500, [])), (1, (24, [])), (0, (4, [0, 0, 105, 106, 107, 108, 109, 110, 0, 111])), (1, (24, [])), (1, (24, [])), (1, (24, [])), (1, (24, [])), (1, (24, [])), (1, (500, [])), (1, (24, [])), (0, (4, [0, 0, 113, 114, 115, 116, 117, 118, 0, 119])), (1, (24, [])), (1, (24, []))]
def g_tab1 : List g_L := [(1, (24, [])), (1, (24, [])), (1, (24, [])), (1, (500, [])), (1, (24, [])), (0, (0, [121, 0, 0, 0, 0, 0, 122, 0, 123])), (7, (13, [124, 125, 126, 127, 128, 129, 130, 131, 132, 133, 134, 135, 136])), (8, (8, [137, 138, 139, 140, 141, 142, 143, 144])), (0, (2, [0, 124, 125])), (1, (20, [])), (1, (20, [])), (0, (3, [0, 0, 0, 0, 0, 0, 0, 0])), (0, (3, [0, 0, 0, 0, 0, 0, 0, 0])), (0, (3, [0, 0, 0, 0, 0, 0, 0, 0])), (0, (3, [0, 0, 0, 0, 0, 0, 0, 0])), (0, (3, [0, 0, 0, 0, 0, 0, 0, 0])), (0, (3, [0, 0, 0, 0, 0, 0, 0, 0])), (0, (3, [0, 0, 0, 0, 0, 0, 0, 0])), (0, (3, [0, 0, 0, 0, 0, 0, 0, 0])), (0, (3, [0, 0, 0, 0, 0, 0, 0, 0])), (0, (3, [0, 0, 0, 0, 0, 0, 0, 0])), (0, (3, [0, 0, 0, 0, 0, 0, 0, 0])), (0, (3, [0, 0, 0, 0, 0, 0, 0, 0])), (0, (3, [0, 0, 0, 0, 0, 0, 0, 0])), (0, (6, [0, 0, 0])), (0, (6, [0, 0, 0])), (0, (6, [0, 0, 0])), (0, (6, [0, 0, 0])), (0, (6, [0, 0, 0])), (0, (6, [0, 0, 0])), (0, (6, [0, 0, 0])), (0, (6, [0, 0, 0])), (0, (0, [148, 0, 0, 0, 0, 0, 149, 0, 150])), (7, (13, [151, 152, 153, 154, 155, 156, 157, 158, 159, 160, 161, 162, 163])), (8, (8, [164, 165, 166, 167, 168, 169, 170, 171])), (0, (2, [0, 151, 152])), (1, (20, [])), (1, (20, [])), (0, (3, [0, 0, 0, 0, 0, 0, 0, 0])), (0, (3, [0, 0, 0, 0, 0, 0, 0, 0])), (0, (3, [0, 0, 0, 0, 0, 0, 0, 0])), (0, (3, [0, 0, 0, 0, 0, 0, 0, 0])), (0, (3, [0, 0, 0, 0, 0, 0, 0, 0])), (0, (3, [0, 0, 0, 0, 0, 0, 0, 0])), (0, (3, [0, 0, 0, 0, 0, 0, 0, 0])), (0, (3, [0, 0, 0, 0, 0, 0, 0, 0])), (0, (3, [0, 0, 0, 0, 0, 0, 0, 0])), (0, (3, [0, 0, 0, 0, 0, 0, 0, 0])), (0, (3, [0, 0, 0, 0, 0, 0, 0, 0])), (0, (3, [0, 0, 0, 0, 0, 0, 0, 0])), (0, (3, [0, 0, 0, 0, 0, 0, 0, 0])), (0, (6, [0, 0, 0])), (0, (6, [0, 0, 0])), (0, (6, [0, 0, 0])), (0, (6, [0, 0, 0])), (0, (6, [0, 0, 0])), (0, (6, [0, 0, 0])), (0, (6, [0, 0, 0])), (0, (6, [0, 0, 0])), (0, (0, [175, 0, 0, 0, 0, 0, 176, 0, 177])), (7, (13, [178, 179, 180, 181, 182, 183, 184, 185, 186, 187, 188, 189, 190])), (8, (8, [191, 192, 193, 194, 195, 196, 197, 198])), (0, (2, [0, 178, 179])), (1, (20, [])), (1, (20, [])), (0, (3, [0, 0, 0, 0, 0, 0, 0, 0])), (0, (3, [0, 0, 0, 0, 0, 0, 0, 0])), (0, (3, [0, 0, 0, 0, 0, 0, 0, 0])), (0, (3, [0, 0, 0, 0, 0, 0, 0, 0])), (0, (3, [0, 0, 0, 0, 0, 0, 0, 0])), (0, (3, [0, 0, 0, 0, 0, 0, 0, 0])), (0, (3, [0, 0, 0, 0, 0, 0, 0, 0])), (0, (3, [0, 0, 0, 0, 0, 0, 0, 0])), (0, (3, [0, 0, 0, 0, 0, 0, 0, 0])), (0, (3, [0, 0, 0, 0, 0, 0, 0, 0])), (0, (3, [0, 0, 0, 0, 0, 0, 0, 0])), (0, (3, [0, 0, 0, 0, 0, 0, 0, 0])), (0, (3, [0, 0, 0, 0, 0, 0, 0, 0])), (0, (6, [0, 0, 0])), (0, (6, [0, 0, 0])), (0, (6, [0, 0, 0])), (0, (6, [0, 0, 0])), (0, (6, [0, 0, 0])), (0, (6, [0, 0, 0])), (0, (6, [0, 0, 0])), (0, (6, [0, 0, 0])), (0, (8, [0, 0, 0, 0, 0, 0, 0, 0, 0, 202, 203, 208, 0, 0, 209, 0, 0, 0, 0, 0, 0, 0, 0, 0, 0, 0, 0, 0, 0, 0, 210, 224, 225, 226, 0, 240, 241, 242, 243, 244, 245, 246, 247, 0, 261, 270, 0, 0, 284, 0, 0, 541, 0, 562])), (1, (500, [])), (4, (4, [202, 203, 204, 205])), (1, (500, [])), (1, (500, [])), (1, (500, [])), (1, (500, [])), (1, (4, [])), (1, (8, [])), (4, (13, [209, 210, 211, 212, 213, 214, 215, 216, 217, 218, 219, 220, 221])), (1, (5, [])), (1, (5, [])), (1, (5, [])), (1, (5, [])), (1, (5, [])), (1, (5, [])), (1, (5, [])), (1, (5, [])), (1, (5, [])), (1, (5, [])), (1, (5, [])), (1, (5, [])), (1, (5, [])), (1, (13, [])), (1, (13, [])), (5, (13, [225, 226, 227, 228, 229, 230, 231, 232, 233, 234, 235, 236, 237])), (2, (4, []))]
def g_tab2 : List g_L := [(2, (4, [])), (2, (4, [])), (2, (4, [])), (2, (4, [])), (2, (4, [])), (2, (4, [])), (2, (4, [])), (2, (4, [])), (2, (4, [])), (2, (4, [])), (2, (4, [])), (2, (4, [])), (1, (13, [])), (1, (13, [])), (1, (13, [])), (1, (13, [])), (1, (13, [])), (2, (13, [])), (2, (13, [])), (4, (13, [246, 247, 248, 249, 250, 251, 252, 253, 254, 255, 256, 257, 258])), (1, (8, [])), (1, (8, [])), (1, (8, [])), (1, (8, [])), (1, (8, [])), (1, (8, [])), (1, (8, [])), (1, (8, [])), (1, (8, [])), (1, (8, [])), (1, (8, [])), (1, (8, [])), (1, (8, [])), (4, (8, [260, 261, 262, 263, 264, 265, 266, 267])), (1, (3, [])), (1, (3, [])), (1, (3, [])), (1, (3, [])), (1, (3, [])), (1, (3, [])), (1, (3, [])), (1, (3, [])), (5, (13, [269, 270, 271, 272, 273, 274, 275, 276, 277, 278, 279, 280, 281])), (2, (4, [])), (2, (4, [])), (2, (4, [])), (2, (4, [])), (2, (4, [])), (2, (4, [])), (2, (4, [])), (2, (4, [])), (2, (4, [])), (2, (4, [])), (2, (4, [])), (2, (4, [])), (2, (4, [])), (4, (256, [283, 284, 285, 286, 287, 288, 289, 290, 291, 292, 293, 294, 295, 296, 297, 298, 299, 300, 301, 302, 303, 304, 305, 306, 307, 308, 309, 310, 311, 312, 313, 314, 315, 316, 317, 318, 319, 320, 321, 322, 323, 324, 325, 326, 327, 328, 329, 330, 331, 332, 333, 334, 335, 336, 337, 338, 339, 340, 341, 342, 343, 344, 345, 346, 347, 348, 349, 350, 351, 352, 353, 354, 355, 356, 357, 358, 359, 360, 361, 362, 363, 364, 365, 366, 367, 368, 369, 370, 371, 372, 373, 374, 375, 376, 377, 378, 379, 380, 381, 382, 383, 384, 385, 386, 387, 388, 389, 390, 391, 392, 393, 394, 395, 396, 397, 398, 399, 400, 401, 402, 403, 404, 405, 406, 407, 408, 409, 410, 411, 412, 413, 414, 415, 416, 417, 418, 419, 420, 421, 422, 423, 424, 425, 426, 427, 428, 429, 430, 431, 432, 433, 434, 435, 436, 437, 438, 439, 440, 441, 442, 443, 444, 445, 446, 447, 448, 449, 450, 451, 452, 453, 454, 455, 456, 457, 458, 459, 460, 461, 462, 463, 464, 465, 466, 467, 468, 469, 470, 471, 472, 473, 474, 475, 476, 477, 478, 479, 480, 481, 482, 483, 484, 485, 486, 487, 488, 489, 490, 491, 492, 493, 494, 495, 496, 497, 498, 499, 500, 501, 502, 503, 504, 505, 506, 507, 508, 509, 510, 511, 512, 513, 514, 515, 516, 517, 518, 519, 520, 521, 522, 523, 524, 525, 526, 527, 528, 529, 530, 531, 532, 533, 534, 535, 536, 537, 538])), (1, (13, [])), (1, (13, [])), (1, (13, [])), (1, (13, [])), (1, (13, [])), (1, (13, [])), (1, (13, [])), (1, (13, [])), (1, (13, [])), (1, (13, [])), (1, (13, [])), (1, (13, [])), (1, (13, [])), (1, (13, [])), (1, (13, [])), (1, (13, [])), (1, (13, [])), (1, (13, [])), (1, (13, [])), (1, (13, [])), (1, (13, [])), (1, (13, [])), (1, (13, [])), (1, (13, [])), (1, (13, [])), (1, (13, [])), (1, (13, [])), (1, (13, [])), (1, (13, [])), (1, (13, [])), (1, (13, [])), (1, (13, [])), (1, (13, [])), (1, (13, [])), (1, (13, [])), (1, (13, [])), (1, (13, [])), (1, (13, [])), (1, (13, [])), (1, (13, [])), (1, (13, [])), (1, (13, [])), (1, (13, [])), (1, (13, [])), (1, (13, [])), (1, (13, [])), (1, (13, [])), (1, (13, [])), (1, (13, [])), (1, (13, [])), (1, (13, [])), (1, (13, [])), (1, (13, [])), (1, (13, [])), (1, (13, [])), (1, (13, []))]
def g_tab3 : List g_L := [(1, (13, [])), (1, (13, [])), (1, (13, [])), (1, (13, [])), (1, (13, [])), (1, (13, [])), (1, (13, [])), (1, (13, [])), (1, (13, [])), (1, (13, [])), (1, (13, [])), (1, (13, [])), (1, (13, [])), (1, (13, [])), (1, (13, [])), (1, (13, [])), (1, (13, [])), (1, (13, [])), (1, (13, [])), (1, (13, [])), (1, (13, [])), (1, (13, [])), (1, (13, [])), (1, (13, [])), (1, (13, [])), (1, (13, [])), (1, (13, [])), (1, (13, [])), (1, (13, [])), (1, (13, [])), (1, (13, [])), (1, (13, [])), (1, (13, [])), (1, (13, [])), (1, (13, [])), (1, (13, [])), (1, (13, [])), (1, (13, [])), (1, (13, [])), (1, (13, [])), (1, (13, [])), (1, (13, [])), (1, (13, [])), (1, (13, [])), (1, (13, [])), (1, (13, [])), (1, (13, [])), (1, (13, [])), (1, (13, [])), (1, (13, [])), (1, (13, [])), (1, (13, [])), (1, (13, [])), (1, (13, [])), (1, (13, [])), (1, (13, [])), (1, (13, [])), (1, (13, [])), (1, (13, [])), (1, (13, [])), (1, (13, [])), (1, (13, [])), (1, (13, [])), (1, (13, [])), (1, (13, [])), (1, (13, [])), (1, (13, [])), (1, (13, [])), (1, (13, [])), (1, (13, [])), (1, (13, [])), (1, (13, [])), (1, (13, [])), (1, (13, [])), (1, (13, [])), (1, (13, [])), (1, (13, [])), (1, (13, [])), (1, (13, [])), (1, (13, [])), (1, (13, [])), (1, (13, [])), (1, (13, [])), (1, (13, [])), (1, (13, [])), (1, (13, [])), (1, (13, [])), (1, (13, [])), (1, (13, [])), (1, (13, [])), (1, (13, [])), (1, (13, [])), (1, (13, [])), (1, (13, [])), (1, (13, [])), (1, (13, [])), (1, (13, [])), (1, (13, [])), (1, (13, [])), (1, (13, [])), (1, (13, [])), (1, (13, [])), (1, (13, [])), (1, (13, [])), (1, (13, [])), (1, (13, [])), (1, (13, [])), (1, (13, [])), (1, (13, [])), (1, (13, [])), (1, (13, [])), (1, (13, [])), (1, (13, []))]
def g_tab4 : List g_L := [(1, (13, [])), (1, (13, [])), (1, (13, [])), (1, (13, [])), (1, (13, [])), (1, (13, [])), (1, (13, [])), (1, (13, [])), (1, (13, [])), (1, (13, [])), (1, (13, [])), (1, (13, [])), (1, (13, [])), (1, (13, [])), (1, (13, [])), (1, (13, [])), (1, (13, [])), (1, (13, [])), (1, (13, [])), (1, (13, [])), (1, (13, [])), (1, (13, [])), (1, (13, [])), (1, (13, [])), (1, (13, [])), (1, (13, [])), (1, (13, [])), (1, (13, [])), (1, (13, [])), (1, (13, [])), (1, (13, [])), (1, (13, [])), (1, (13, [])), (1, (13, [])), (1, (13, [])), (1, (13, [])), (1, (13, [])), (1, (13, [])), (1, (13, [])), (1, (13, [])), (1, (13, [])), (1, (13, [])), (1, (13, [])), (1, (13, [])), (1, (13, [])), (1, (13, [])), (1, (13, [])), (1, (13, [])), (1, (13, [])), (1, (13, [])), (1, (13, [])), (1, (13, [])), (1, (13, [])), (1, (13, [])), (1, (13, [])), (1, (13, [])), (1, (13, [])), (1, (13, [])), (1, (13, [])), (1, (13, [])), (1, (13, [])), (1, (13, [])), (1, (13, [])), (1, (13, [])), (1, (13, [])), (1, (13, [])), (1, (13, [])), (1, (13, [])), (1, (13, [])), (1, (13, [])), (1, (13, [])), (1, (13, [])), (1, (13, [])), (1, (13, [])), (1, (13, [])), (1, (13, [])), (1, (13, [])), (1, (13, [])), (1, (13, [])), (1, (13, [])), (1, (13, [])), (1, (13, [])), (1, (13, [])), (1, (13, [])), (1, (13, [])), (1, (13, [])), (1, (13, [])), (4, (20, [540, 541, 542, 543, 544, 545, 546, 547, 548, 549, 550, 551, 552, 553, 554, 555, 556, 557, 558, 559])), (1, (2, [])), (1, (2, [])), (1, (2, [])), (1, (2, [])), (1, (2, [])), (1, (2, [])), (1, (2, [])), (1, (2, [])), (1, (2, [])), (1, (2, [])), (1, (2, [])), (1, (2, [])), (1, (2, [])), (1, (2, [])), (1, (2, [])), (1, (2, [])), (1, (2, [])), (1, (2, [])), (1, (2, [])), (1, (2, [])), (4, (3, [561, 562, 563])), (1, (320, [])), (1, (320, [])), (1, (320, [])), (3, (1, []))]
def g_tab : List g_L := g_tab0 ++ (g_tab1 ++ (g_tab2 ++ (g_tab3 ++ g_tab4)))
/-- what a cell is: 0 an object (its class, its fields: 0 an int, 1 a reference told by an int, k + 2 the cell k); t + 1 an array of kind t (its length, its cells) -/
def g_lay (x : Nat) : g_L := g_tab.getD x (0, (0, []))
def g_fs (f : Nat → Int32) : Nat → List Nat → List Value
  | _, [] => []
  | b, 0 :: cs => .int (f b) :: g_fs f (b + 1) cs
  | b, 1 :: cs => .ref (f b).toNatClampNeg :: g_fs f (b + 1) cs
  | b, (c + 2) :: cs => .ref c :: g_fs f (b + 1) cs
def g_cell (f : Nat → Int32) (L : g_L) : m_C := match L with
  | (0, (c, cs)) => .inr (c, g_fs f 0 cs)
  | (1, (n, _)) => .inl (0, (n, .inl f))
  | (2, (n, _)) => .inl (1, (n, .inl f))
  | (3, (n, _)) => .inl (2, (n, .inr (.inl (fun j => (f j).toInt64))))
  | (t + 4, (n, es)) => .inl (t + 3, (n, .inr (.inr (.inr (.inr (fun j => es[j]?))))))
def g_mem (s : g_S) (k : Nat) : m_C := g_cell (s k) (g_lay k)
/-- the memory: its ints, how many exceptions were made -/
def g_M (s : g_S) (e : Nat) : m_M := (g_mem s, (565, (565 + e, 16542 + 6 * e)))
def g_wa (s : g_S) (x : Nat) (f : Nat → Int32) : g_S := fun y => if y = x then f else s y
def g_w (s : g_S) (x b : Nat) (v : Int32) : g_S := g_wa s x (upd (s x) b v)
set_option maxRecDepth 10000 in
theorem g_tab_len : g_tab.length = 565 := by decide +kernel
theorem g_lt {x : Nat} (h : g_lay x ≠ (0, (0, []))) : x < 565 := by
  refine Nat.lt_of_not_le fun h1 => h ?_
  unfold g_lay
  rw [List.getD_eq_getElem?_getD, List.getElem?_eq_none (by rw [g_tab_len]; exact h1)]
  rfl
theorem g_lto {x c b : Nat} {cs : List Nat} {v : Nat} (h : g_lay x = (0, (c, cs))) (hb : cs[b]? = some v) : x < 565 := g_lt fun e => by
  rw [h] at e
  simp only [Prod.mk.injEq] at e
  rw [e.2.2] at hb
  simp at hb
theorem g_lta {x t n : Nat} {es : List Nat} (h : g_lay x = (t + 1, (n, es))) : x < 565 := g_lt fun e => by
  rw [h] at e
  simp at e
theorem g_fs_int (f : Nat → Int32) : ∀ (cs : List Nat) (a b : Nat), cs[b]? = some 0 → (g_fs f a cs)[b]? = some (.int (f (a + b)))
  | [], a, b, h => by simp at h
  | c :: cs, a, 0, h => by
    simp only [List.getElem?_cons_zero, Option.some.injEq] at h
    subst h
    rfl
  | c :: cs, a, b + 1, h => by
    have ih := g_fs_int f cs (a + 1) b (by simpa using h)
    rw [Nat.add_assoc, Nat.add_comm 1 b] at ih
    match c with
    | 0 => simpa [g_fs] using ih
    | 1 => simpa [g_fs] using ih
    | c + 2 => simpa [g_fs] using ih
theorem g_fs_ref (f : Nat → Int32) : ∀ (cs : List Nat) (a b y : Nat), cs[b]? = some (y + 2) → (g_fs f a cs)[b]? = some (.ref y)
  | [], a, b, y, h => by simp at h
  | c :: cs, a, 0, y, h => by
    simp only [List.getElem?_cons_zero, Option.some.injEq] at h
    subst h
    rfl
  | c :: cs, a, b + 1, y, h => by
    have ih := g_fs_ref f cs (a + 1) b y (by simpa using h)
    match c with
    | 0 => simpa [g_fs] using ih
    | 1 => simpa [g_fs] using ih
    | c + 2 => simpa [g_fs] using ih
theorem g_fs_dyn (f : Nat → Int32) : ∀ (cs : List Nat) (a b : Nat), cs[b]? = some 1 → (g_fs f a cs)[b]? = some (.ref (f (a + b)).toNatClampNeg)
  | [], a, b, h => by simp at h
  | c :: cs, a, 0, h => by
    simp only [List.getElem?_cons_zero, Option.some.injEq] at h
    subst h
    rfl
  | c :: cs, a, b + 1, h => by
    have ih := g_fs_dyn f cs (a + 1) b (by simpa using h)
    rw [Nat.add_assoc, Nat.add_comm 1 b] at ih
    match c with
    | 0 => simpa [g_fs] using ih
    | 1 => simpa [g_fs] using ih
    | c + 2 => simpa [g_fs] using ih
theorem g_fs_off (f : Nat → Int32) (v : Int32) : ∀ (cs : List Nat) (a k : Nat), k < a → g_fs (upd f k v) a cs = g_fs f a cs
  | [], a, k, h => rfl
  | c :: cs, a, k, h => by
    have ih := g_fs_off f v cs (a + 1) k (by omega)
    have h1 : upd f k v a = f a := if_neg (by omega)
    match c with
    | 0 => simp only [g_fs, ih, h1]
    | 1 => simp only [g_fs, ih, h1]
    | c + 2 => simp only [g_fs, ih]
theorem g_fs_set (f : Nat → Int32) (v : Int32) : ∀ (cs : List Nat) (a b : Nat), cs[b]? = some 0 → (g_fs f a cs).set b (.int v) = g_fs (upd f (a + b) v) a cs
  | [], a, b, h => by simp at h
  | c :: cs, a, 0, h => by
    simp only [List.getElem?_cons_zero, Option.some.injEq] at h
    subst h
    have h1 : upd f (a + 0) v a = v := if_pos rfl
    simp only [g_fs, List.set_cons_zero, h1]
    rw [g_fs_off f v cs (a + 1) (a + 0) (by omega)]
  | c :: cs, a, b + 1, h => by
    have ih := g_fs_set f v cs (a + 1) b (by simpa using h)
    have h1 : upd f (a + (b + 1)) v a = f a := if_neg (by omega)
    rw [show a + 1 + b = a + (b + 1) from by omega] at ih
    match c with
    | 0 => simp only [g_fs, List.set_cons_succ, ih, h1]
    | 1 => simp only [g_fs, List.set_cons_succ, ih, h1]
    | c + 2 => simp only [g_fs, List.set_cons_succ, ih]
theorem g_fs_setd (f : Nat → Int32) (y : Nat) (hy : y < 565) : ∀ (cs : List Nat) (a b : Nat), cs[b]? = some 1 → (g_fs f a cs).set b (.ref y) = g_fs (upd f (a + b) (Int32.ofNat y)) a cs
  | [], a, b, h => by simp at h
  | c :: cs, a, 0, h => by
    simp only [List.getElem?_cons_zero, Option.some.injEq] at h
    subst h
    have h1 : upd f (a + 0) (Int32.ofNat y) a = Int32.ofNat y := if_pos rfl
    have h2 : (Int32.ofNat y).toNatClampNeg = y := Int32.toNatClampNeg_ofNat_of_lt (by omega)
    simp only [g_fs, List.set_cons_zero, h1, h2]
    rw [g_fs_off f _ cs (a + 1) (a + 0) (by omega)]
  | c :: cs, a, b + 1, h => by
    have ih := g_fs_setd f y hy cs (a + 1) b (by simpa using h)
    have h1 : upd f (a + (b + 1)) (Int32.ofNat y) a = f a := if_neg (by omega)
    rw [show a + 1 + b = a + (b + 1) from by omega] at ih
    match c with
    | 0 => simp only [g_fs, List.set_cons_succ, ih, h1]
    | 1 => simp only [g_fs, List.set_cons_succ, ih, h1]
    | c + 2 => simp only [g_fs, List.set_cons_succ, ih]
theorem g_fs_len (f : Nat → Int32) : ∀ (cs : List Nat) (a : Nat), (g_fs f a cs).length = cs.length
  | [], a => rfl
  | 0 :: cs, a => congrArg (· + 1) (g_fs_len f cs (a + 1))
  | 1 :: cs, a => congrArg (· + 1) (g_fs_len f cs (a + 1))
  | (c + 2) :: cs, a => congrArg (· + 1) (g_fs_len f cs (a + 1))
theorem g_put {s : g_S} {e x : Nat} {c : m_C} {f : Nat → Int32} (h : c = g_cell f (g_lay x)) : m_put (g_M s e) x c = g_M (g_wa s x f) e := by
  unfold m_put g_M
  simp only [Prod.mk.injEq, and_true]
  funext j
  unfold g_mem g_wa
  by_cases hj : j = x
  · rw [if_pos hj, if_pos hj, h, hj]
  · rw [if_neg hj, if_neg hj]
theorem g_obj {s : g_S} {e x c : Nat} {cs : List Nat} (hl : g_lay x = (0, (c, cs))) : (g_M s e).1 x = .inr (c, g_fs (s x) 0 cs) := by
  show g_cell (s x) (g_lay x) = _
  rw [hl]
  rfl
theorem g_arr {s : g_S} {e x n : Nat} {es : List Nat} (hl : g_lay x = (1, (n, es))) : (g_M s e).1 x = .inl (0, (n, .inl (s x))) := by
  show g_cell (s x) (g_lay x) = _
  rw [hl]
  rfl
theorem g_arb {s : g_S} {e x n : Nat} {es : List Nat} (hl : g_lay x = (2, (n, es))) : (g_M s e).1 x = .inl (1, (n, .inl (s x))) := by
  show g_cell (s x) (g_lay x) = _
  rw [hl]
  rfl
theorem g_arl {s : g_S} {e x n : Nat} {es : List Nat} (hl : g_lay x = (3, (n, es))) : (g_M s e).1 x = .inl (2, (n, .inr (.inl (fun j => (s x j).toInt64)))) := by
  show g_cell (s x) (g_lay x) = _
  rw [hl]
  rfl
theorem g_ara {s : g_S} {e x n t : Nat} {es : List Nat} (hl : g_lay x = (t + 4, (n, es))) : (g_M s e).1 x = .inl (t + 3, (n, .inr (.inr (.inr (.inr (fun j => es[j]?)))))) := by
  show g_cell (s x) (g_lay x) = _
  rw [hl]
  rfl
theorem g_recv {s : g_S} {e x q c b v : Nat} {cs : List Nat} {As : List Value} (hq : q = c + 1) (hl : g_lay x = (0, (c, cs))) (hb : cs[b]? = some v) : m_recv q (.ref x :: As) (g_M s e) = true := by
  subst hq
  have h := g_lto hl hb
  unfold m_recv
  simp only [g_obj hl]
  exact decide_eq_true ⟨h, trivial⟩
section JV
variable {X : m_X} {d m i pc : Nat} {ls : m_L} {st : List Value} {s : g_S} {e : Nat} {r : m_R} {n : Int32} {l : List (Int32 × Nat)} {a b : Nat}
theorem g_getf {x c : Nat} {cs : List Nat} (hq : (m_md m).1[i]? = some (pc, (6, (c, (b, (n, l)))))) (hl : g_lay x = (0, (c, cs))) (hb : cs[b]? = some 0) (k : n_R X d m (i + 1) ls (.int (s x b) :: st) (g_M s e) r) : n_R X d m i ls (.ref x :: st) (g_M s e) r :=
  n_getf hq (g_obj hl) (g_lto hl hb) ((g_fs_int _ _ 0 b hb).trans (by rw [Nat.zero_add])) k
theorem g_getr {x c : Nat} {cs : List Nat} (y : Nat) (hq : (m_md m).1[i]? = some (pc, (6, (c, (b, (n, l)))))) (hl : g_lay x = (0, (c, cs))) (hb : cs[b]? = some (y + 2)) (k : n_R X d m (i + 1) ls (.ref y :: st) (g_M s e) r) : n_R X d m i ls (.ref x :: st) (g_M s e) r :=
  n_getf hq (g_obj hl) (g_lto hl hb) (g_fs_ref _ _ 0 b y hb) k
theorem g_getd {x c : Nat} {cs : List Nat} (hq : (m_md m).1[i]? = some (pc, (6, (c, (b, (n, l)))))) (hl : g_lay x = (0, (c, cs))) (hb : cs[b]? = some 1) (k : n_R X d m (i + 1) ls (.ref (s x b).toNatClampNeg :: st) (g_M s e) r) : n_R X d m i ls (.ref x :: st) (g_M s e) r :=
  n_getf hq (g_obj hl) (g_lto hl hb) ((g_fs_dyn _ _ 0 b hb).trans (by rw [Nat.zero_add])) k
theorem g_putf {x c : Nat} {cs : List Nat} {v : Int32} (hq : (m_md m).1[i]? = some (pc, (7, (c, (b, (n, l)))))) (hl : g_lay x = (0, (c, cs))) (hb : cs[b]? = some 0) (hf : m_fit n.toNatClampNeg (.int v) = true) {s1 : g_S} (hs1 : s1 = g_w s x b v) (k : n_R X d m (i + 1) ls st (g_M s1 e) r) : n_R X d m i ls (.int v :: .ref x :: st) (g_M s e) r := by
  subst hs1
  have h1 : b < cs.length := (List.getElem?_eq_some_iff.mp hb).1
  refine n_putf hq (g_obj hl) (g_lto hl hb) (by rw [g_fs_len]; exact h1) hf ?_
  rw [g_put (f := upd (s x) b v)]
  · exact k
  · rw [hl, g_fs_set _ _ _ _ _ hb, Nat.zero_add]
    rfl
theorem g_putd {x y c : Nat} {cs : List Nat} (hq : (m_md m).1[i]? = some (pc, (7, (c, (b, (n, l)))))) (hl : g_lay x = (0, (c, cs))) (hb : cs[b]? = some 1) (hy : y < 565) (hf : m_fit n.toNatClampNeg (.ref y) = true) {s1 : g_S} (hs1 : s1 = g_w s x b (Int32.ofNat y)) (k : n_R X d m (i + 1) ls st (g_M s1 e) r) : n_R X d m i ls (.ref y :: .ref x :: st) (g_M s e) r := by
  subst hs1
  have h1 : b < cs.length := (List.getElem?_eq_some_iff.mp hb).1
  refine n_putf hq (g_obj hl) (g_lto hl hb) (by rw [g_fs_len]; exact h1) hf ?_
  rw [g_put (f := upd (s x) b (Int32.ofNat y))]
  · exact k
  · rw [hl, g_fs_setd _ _ hy _ _ _ hb, Nat.zero_add]
    rfl
theorem g_iald {x c : Nat} {es : List Nat} {j : Int32} (hq : (m_md m).1[i]? = some (pc, (8, (a, (b, (n, l)))))) (hl : g_lay x = (1, (c, es))) (hj : m_in j c = true) (k : n_R X d m (i + 1) ls (.int (s x j.toNatClampNeg) :: st) (g_M s e) r) : n_R X d m i ls (.int j :: .ref x :: st) (g_M s e) r :=
  n_iald hq (by have := g_lta hl; omega) (g_arr hl) (g_lta hl) hj k
theorem g_bald {x c : Nat} {es : List Nat} {j : Int32} (hq : (m_md m).1[i]? = some (pc, (10, (a, (b, (n, l)))))) (hl : g_lay x = (2, (c, es))) (hj : m_in j c = true) (k : n_R X d m (i + 1) ls (.int (s x j.toNatClampNeg) :: st) (g_M s e) r) : n_R X d m i ls (.int j :: .ref x :: st) (g_M s e) r :=
  n_bald hq (g_arb hl) (g_lta hl) hj k
theorem g_iast {x c : Nat} {es : List Nat} {j v : Int32} (hq : (m_md m).1[i]? = some (pc, (9, (a, (b, (n, l)))))) (hl : g_lay x = (1, (c, es))) (hj : m_in j c = true) {s1 : g_S} (hs1 : s1 = g_w s x j.toNatClampNeg v) (k : n_R X d m (i + 1) ls st (g_M s1 e) r) : n_R X d m i ls (.int v :: .int j :: .ref x :: st) (g_M s e) r := by
  subst hs1
  refine n_iast hq (g_arr hl) (g_lta hl) hj ?_
  rw [g_put (f := upd (s x) j.toNatClampNeg v)]
  · exact k
  · rw [hl]
    rfl
theorem g_bast {x c : Nat} {es : List Nat} {j v : Int32} (hq : (m_md m).1[i]? = some (pc, (11, (a, (b, (n, l)))))) (hl : g_lay x = (2, (c, es))) (hj : m_in j c = true) (hb : m_isb v = true) {s1 : g_S} (hs1 : s1 = g_w s x j.toNatClampNeg v) (k : n_R X d m (i + 1) ls st (g_M s1 e) r) : n_R X d m i ls (.int v :: .int j :: .ref x :: st) (g_M s e) r := by
  subst hs1
  refine n_bast hq (g_arb hl) (g_lta hl) hj hb ?_
  rw [g_put (f := upd (s x) j.toNatClampNeg v)]
  · exact k
  · rw [hl]
    rfl
theorem g_aald {x c t y : Nat} {es : List Nat} {j : Int32} (hq : (m_md m).1[i]? = some (pc, (12, (a, (b, (n, l)))))) (hl : g_lay x = (t + 4, (c, es))) (ht : t < 6) (hj : m_in j c = true) (hy : es[j.toNatClampNeg]? = some y) (k : n_R X d m (i + 1) ls (.ref y :: st) (g_M s e) r) : n_R X d m i ls (.int j :: .ref x :: st) (g_M s e) r :=
  n_aald hq (g_ara hl) (g_lta hl) (by omega) (by omega) hj hy k
theorem g_alen {x c : Nat} {es : List Nat} (hq : (m_md m).1[i]? = some (pc, (16, (a, (b, (n, l)))))) (hl : g_lay x = (1, (c, es))) (k : n_R X d m (i + 1) ls (.int (Int32.ofNat c) :: st) (g_M s e) r) : n_R X d m i ls (.ref x :: st) (g_M s e) r :=
  n_alen hq (by have := g_lta hl; omega) (g_arr hl) (g_lta hl) (by decide) k
theorem g_copy {x y c1 c2 : Nat} {es1 es2 : List Nat} {z dp sp : Int32} (hq : (m_md m).1[i]? = some (pc, (33, (a, (b, (n, l)))))) (hd : 12 ≤ d) (hl : g_lay x = (1, (c1, es1))) (hm : g_lay y = (1, (c2, es2))) (hs : m_cats st ≤ 8) (h1 : ¬ sp < 0) (h2 : ¬ dp < 0) (h3 : ¬ z < 0) (h4 : sp.toNatClampNeg + z.toNatClampNeg ≤ c1) (h5 : dp.toNatClampNeg + z.toNatClampNeg ≤ c2)
    {s1 : g_S} (hs1 : s1 = g_wa s y (va_cpy (s x) (s y) sp.toNatClampNeg dp.toNatClampNeg z.toNatClampNeg)) (k : n_R X d m (i + 1) ls st (g_M s1 e) r) : n_R X d m i ls (.int z :: .int dp :: .ref y :: .int sp :: .ref x :: st) (g_M s e) r := by
  subst hs1
  refine n_copy hq hd (g_arr hl) (g_arr hm) (g_lta hl) (g_lta hm) hs h1 h2 h3 h4 h5 ?_
  rw [g_put (f := va_cpy (s x) (s y) sp.toNatClampNeg dp.toNatClampNeg z.toNatClampNeg)]
  · exact k
  · rw [hm]
    rfl
theorem g_throw (hq : (m_md m).1[i]? = some (pc, (36, (a, (b, (n, l)))))) (hd : 12 ≤ d) (hs : m_cats st ≤ 8) : n_R X d m i ls st (g_M s e) (.inr a, g_M s (e + 1)) := n_throw hq hd hs
end JV
theorem g_fit1 {v : Int32} (h : m_isb v = true) : m_fit 1 (.int v) = true := by
  unfold m_fit
  simp [h]
/-- loops: a body, again and again -/
def g_it {S R : Type} (body : S → Option (S ⊕ R)) : Nat → S → Option R
  | 0, _ => none
  | n + 1, s => match body s with
    | none => none
    | some (.inl s1) => g_it body n s1
    | some (.inr r) => some r
theorem g_it_up {S R : Type} {body : S → Option (S ⊕ R)} : ∀ {n : Nat} {s : S} {r : R}, g_it body n s = some r → ∀ k : Nat, g_it body (n + k) s = some r
  | 0, s, r, h, k => by cases h
  | n + 1, s, r, h, k => by
    rw [Nat.add_right_comm]
    unfold g_it at h ⊢
    split at h
    · cases h
    · exact g_it_up h k
    · exact h
theorem g_it_one {S R : Type} {body : S → Option (S ⊕ R)} {n m : Nat} {s : S} {r q : R} (h : g_it body n s = some r) (g : g_it body m s = some q) : r = q := by
  have h1 := g_it_up h m
  have h2 := g_it_up g n
  rw [Nat.add_comm, h1] at h2
  exact Option.some.inj h2
noncomputable def g_run {S R : Type} (body : S → Option (S ⊕ R)) (s : S) : Option R := @dite (Option R) (∃ n r, g_it body n s = some r) (Classical.propDecidable _) (fun h => some (Classical.choose (Classical.choose_spec h))) (fun _ => none)
theorem g_run_of {S R : Type} {body : S → Option (S ⊕ R)} {n : Nat} {s : S} {r : R} (h : g_it body n s = some r) : g_run body s = some r := by
  have h0 : ∃ n r, g_it body n s = some r := ⟨n, r, h⟩
  unfold g_run
  rw [dif_pos h0]
  exact congrArg some (g_it_one (Classical.choose_spec (Classical.choose_spec h0)) h)
theorem g_run_it {S R : Type} {body : S → Option (S ⊕ R)} {s : S} {r : R} (h : g_run body s = some r) : ∃ n, g_it body n s = some r := by
  unfold g_run at h
  split at h
  · rename_i h0
    refine ⟨Classical.choose h0, ?_⟩
    rw [← h]
    exact Classical.choose_spec (Classical.choose_spec h0)
  · cases h
def g_st {S R : Type} (x : Option (S ⊕ R)) (k : S → Option R) : Option R := match x with
  | none => none
  | some (.inl s1) => k s1
  | some (.inr r) => some r
/-- one turn -/
theorem g_run_eq {S R : Type} (body : S → Option (S ⊕ R)) (s : S) : g_run body s = g_st (body s) (g_run body) := by
  unfold g_st
  cases hb : body s with
  | none =>
    cases hr : g_run body s with
    | none => rfl
    | some r =>
      obtain ⟨n, hn⟩ := g_run_it hr
      cases n with
      | zero => cases hn
      | succ n =>
        unfold g_it at hn
        rw [hb] at hn
        cases hn
  | some w =>
    cases w with
    | inr r => exact g_run_of (n := 1) (by unfold g_it; rw [hb])
    | inl s1 =>
      show g_run body s = g_run body s1
      cases hr : g_run body s1 with
      | some r =>
        obtain ⟨n, hn⟩ := g_run_it hr
        exact g_run_of (n := n + 1) (by unfold g_it; rw [hb]; exact hn)
      | none =>
        cases hq : g_run body s with
        | none => rfl
        | some q =>
          obtain ⟨n, hn⟩ := g_run_it hq
          cases n with
          | zero => cases hn
          | succ n =>
            unfold g_it at hn
            rw [hb] at hn
            rw [g_run_of hn] at hr
            cases hr
theorem g_it_sound {S R : Type} {body : S → Option (S ⊕ R)} {Q : S → Prop} {r : R} (hb : ∀ s w, body s = some w → (∀ s1, w = .inl s1 → Q s1) → (∀ q, w = .inr q → q = r) → Q s) : ∀ (n : Nat) (s : S), g_it body n s = some r → Q s
  | 0, s, h => by cases h
  | n + 1, s, h => by
    unfold g_it at h
    split at h
    · cases h
    · rename_i s1 hs
      refine hb s _ hs (fun s2 e => ?_) (fun q e => by cases e)
      cases e
      exact g_it_sound hb n s1 h
    · rename_i q hs
      refine hb s _ hs (fun s2 e => by cases e) (fun p e => ?_)
      cases e
      cases h
      rfl
theorem g_rs {S R : Type} {body : S → Option (S ⊕ R)} {Q : S → Prop} {r : R} {s : S} (h : g_run body s = some r) (hb : ∀ s w, body s = some w → (∀ s1, w = .inl s1 → Q s1) → (∀ q, w = .inr q → q = r) → Q s) : Q s := by
  obtain ⟨n, hn⟩ := g_run_it h
  exact g_it_sound hb n s hn
theorem g_bind {A B : Type} {x : Option A} {k : A → Option B} {z : B} (h : x.bind k = some z) : ∃ v, x = some v ∧ k v = some z := by
  cases x with
  | none => cases h
  | some v => exact ⟨v, rfl, h⟩
theorem g_mapp {A B : Type} {x : Option A} {k : A → B} {z : B} (h : x.map k = some z) : ∃ v, x = some v ∧ k v = z := by
  cases x with
  | none => cases h
  | some v => exact ⟨v, rfl, Option.some.inj h⟩
theorem g_gd {A : Type} {p : Prop} [Decidable p] {x : Option A} {z : A} (h : (if p then x else none) = some z) : p ∧ x = some z := by
  split at h
  · rename_i hp
    exact ⟨hp, h⟩
  · cases h
theorem g_range {n k : Nat} {f : Nat → Nat} (h : k < n) : ((List.range n).map f)[k]? = some (f k) := by simp [h]
theorem g_inlt {j : Int32} {n : Nat} (h : m_in j n = true) : j.toNatClampNeg < n := by
  unfold m_in at h
  have h := of_decide_eq_true h
  omega
section JW
variable {X : m_X} {d m i pc : Nat} {ls : m_L} {st : List Value} {s : g_S} {e : Nat} {r : m_R} {n : Int32} {l : List (Int32 × Nat)} {a b : Nat}
theorem g_slen {k : Nat} (hq : (m_md m).1[i]? = some (pc, (34, (a, (b, (n, l)))))) (hd : 12 ≤ d) (hk : k < m_text.length) (hs : m_cats st ≤ 8) (kk : n_R X d m (i + 1) ls (.int (nI (m_text.getD k []).length) :: st) (g_M s e) r) : n_R X d m i ls (.ref (m_T0 + k) :: st) (g_M s e) r :=
  n_slen hq hd (by omega) (by omega) hs (by rw [Nat.add_sub_cancel_left]; exact kk)
theorem g_char {k : Nat} {j : Int32} (hq : (m_md m).1[i]? = some (pc, (35, (a, (b, (n, l)))))) (hd : 12 ≤ d) (hk : k < m_text.length) (hs : m_cats st ≤ 8) (hj : m_in j (m_text.getD k []).length = true) (kk : n_R X d m (i + 1) ls (.int (nI ((m_text.getD k []).getD j.toNatClampNeg 0)) :: st) (g_M s e) r) : n_R X d m i ls (.int j :: .ref (m_T0 + k) :: st) (g_M s e) r :=
  n_char hq hd (by omega) (by omega) hs (by rw [Nat.add_sub_cancel_left]; exact hj) (by rw [Nat.add_sub_cancel_left]; exact kk)
end JW
/-- what a call gives: its kind of result -/
def g_rPI (s : g_S) (v : Int32) (e : Nat) : m_R := (.inl (some (.int v)), g_M s e)
def g_rPR (s : g_S) (v : Nat) (e : Nat) : m_R := (.inl (some (.ref v)), g_M s e)
def g_rSV (z : g_S) (e : Nat) : m_R := (.inl none, g_M z e)
def g_rSI (z : Int32 × g_S) (e : Nat) : m_R := (.inl (some (.int z.1)), g_M z.2 e)
def g_rTI (z : (Int32 ⊕ Nat) × g_S) (e : Nat) : m_R := match z.1 with
  | .inl v => (.inl (some (.int v)), g_M z.2 e)
  | .inr x => (.inr x, g_M z.2 (e + 1))
def g_rTV (z : (Unit ⊕ Nat) × g_S) (e : Nat) : m_R := match z.1 with
  | .inl _ => (.inl none, g_M z.2 e)
  | .inr x => (.inr x, g_M z.2 (e + 1))
def g_rW (z : (Int32 × Nat) × g_S) (e : Nat) : m_R := (.inl (some (.int z.1.1)), g_M z.2 (e + z.1.2))
def g_let {B : Type} (x : g_S) (k : g_S → Option B) : Option B := k x
theorem g_letp {B : Type} {x : g_S} {k : g_S → Option B} {z : B} (h : g_let x k = some z) : ∃ s1, s1 = x ∧ k s1 = some z := ⟨x, rfl, h⟩
def g_bd {A B : Type} (x : Option (A × g_S)) (k : A → g_S → Option B) : Option B := x.bind fun w => k w.1 w.2
theorem g_bdp {A B : Type} {x : Option (A × g_S)} {k : A → g_S → Option B} {z : B} (h : g_bd x k = some z) : ∃ v s1, x = some (v, s1) ∧ k v s1 = some z := by
  obtain ⟨w, hw, h⟩ := g_bind h
  exact ⟨w.1, w.2, hw, h⟩
def g_tb {A B : Type} (x : Option ((A ⊕ Nat) × g_S)) (k : A → g_S → Option ((B ⊕ Nat) × g_S)) : Option ((B ⊕ Nat) × g_S) := x.bind fun w => match w.1 with
  | .inl v => k v w.2
  | .inr e => some (.inr e, w.2)
theorem g_tbp {A B : Type} {x : Option ((A ⊕ Nat) × g_S)} {k : A → g_S → Option ((B ⊕ Nat) × g_S)} {z : (B ⊕ Nat) × g_S} (h : g_tb x k = some z) : (∃ v s1, x = some (.inl v, s1) ∧ k v s1 = some z) ∨ (∃ e s1, x = some (.inr e, s1) ∧ (.inr e, s1) = z) := by
  obtain ⟨⟨w, s1⟩, hw, h⟩ := g_bind h
  rcases w with v | e
  · exact Or.inl ⟨v, s1, hw, h⟩
  · exact Or.inr ⟨e, s1, hw, Option.some.inj h⟩
/-- a call whose exceptions are answered -/
def g_wb {A B : Type} (x : Option ((A ⊕ Nat) × g_S)) (k : A → g_S → Option B) (h : Nat → g_S → Option B) : Option B := x.bind fun w => match w.1 with
  | .inl v => k v w.2
  | .inr e => h e w.2
theorem g_wbp {A B : Type} {x : Option ((A ⊕ Nat) × g_S)} {k : A → g_S → Option B} {hh : Nat → g_S → Option B} {z : B} (h : g_wb x k hh = some z) : (∃ v s1, x = some (.inl v, s1) ∧ k v s1 = some z) ∨ (∃ e s1, x = some (.inr e, s1) ∧ hh e s1 = some z) := by
  obtain ⟨⟨w, s1⟩, hw, h⟩ := g_bind h
  rcases w with v | e
  · exact Or.inl ⟨v, s1, hw, h⟩
  · exact Or.inr ⟨e, s1, hw, h⟩
/-- a step that has nothing to do with the memory -/
def g_pl1 (I : m_I) (i : Nat) (ls : m_L) (st : List Value) : Option (Nat × (m_L × List Value)) := match I with
  | (o, (a, (b, (n, _)))) => match o with
    | 0 => some (i + 1, (ls, .int n :: st))
    | 1 => match ls[a]? with
      | some (some (.int x)) => some (i + 1, (ls, .int x :: st))
      | _ => none
    | 2 => match ls[a]? with
      | some (some (.ref x)) => some (i + 1, (ls, .ref x :: st))
      | _ => none
    | 3 => match st with
      | .int x :: r => if a < ls.length then some (i + 1, (ls.set a (some (.int x)), r)) else none
      | _ => none
    | 4 => match st with
      | .ref x :: r => if a < ls.length then some (i + 1, (ls.set a (some (.ref x)), r)) else none
      | _ => none
    | 5 => match ls[a]? with
      | some (some (.int x)) => some (i + 1, (ls.set a (some (.int (x + n))), st))
      | _ => none
    | 17 => match st with
      | .int y :: .int x :: st => match m_bin a x y with
        | some z => some (i + 1, (ls, .int z :: st))
        | none => none
      | _ => none
    | 20 => some (b, (ls, st))
    | 22 => match st with
      | v :: st => if m_cat1 v = true then some (i + 1, (ls, v :: v :: st)) else none
      | _ => none
    | 23 => match st with
      | v :: w :: st => if m_cat1 v = true ∧ m_cat1 w = true then some (i + 1, (ls, v :: w :: v :: w :: st)) else none
      | _ => none
    | 24 => match st with
      | .int x :: st => some (i + 1, (ls, .long x.toInt64 :: st))
      | _ => none
    | 25 => some (i + 1, (ls, .long (Int64.ofNat a) :: st))
    | 41 => some (i + 1, (ls, .ref (m_T0 + a) :: st))
    | _ => none
theorem g_pl1_ok {X : m_X} {tx bn : List (List Nat)} {hs : List (Nat × (Nat × (Nat × Int32)))} {d : Nat} {cb : m_B} {pc i i1 : Nat} {I : m_I} {ls ls1 : m_L} {st st1 : List Value} {M : m_M} (h : g_pl1 I i ls st = some (i1, (ls1, st1))) : m_sem X tx bn hs d cb pc i I ls st M = some (.inl (i1, (ls1, (st1, M)))) := by
  obtain ⟨o, a, b, n, l⟩ := I
  unfold g_pl1 at h
  simp only at h
  split at h
  · cases h
    rfl
  · show s_iload a i ls st M = _
    unfold s_iload
    split at h
    · rename_i hx
      cases h
      rw [hx]
      rfl
    · cases h
  · show s_aload a i ls st M = _
    unfold s_aload
    split at h
    · rename_i hx
      cases h
      rw [hx]
      rfl
    · cases h
  · show s_istore a i ls st M = _
    split at h
    · split at h
      · rename_i hx
        cases h
        unfold s_istore
        simp only
        rw [if_pos hx]
        rfl
      · cases h
    · cases h
  · show s_astore a i ls st M = _
    split at h
    · split at h
      · rename_i hx
        cases h
        unfold s_astore
        simp only
        rw [if_pos hx]
        rfl
      · cases h
    · cases h
  · show s_iinc a n i ls st M = _
    unfold s_iinc
    split at h
    · rename_i hx
      cases h
      rw [hx]
      rfl
    · cases h
  · show s_bin a i ls st M = _
    split at h
    · split at h
      · rename_i hx
        cases h
        unfold s_bin
        simp only
        rw [hx]
        rfl
      · cases h
    · cases h
  · cases h
    rfl
  · show s_dup i ls st M = _
    split at h
    · split at h
      · rename_i hx
        cases h
        unfold s_dup
        simp only
        rw [if_pos hx]
        rfl
      · cases h
    · cases h
  · show s_dup2 i ls st M = _
    split at h
    · split at h
      · rename_i hx
        cases h
        unfold s_dup2
        simp only
        rw [if_pos hx]
        rfl
      · cases h
    · cases h
  · show s_i2l i ls st M = _
    split at h
    · cases h
      rfl
    · cases h
  · cases h
    rfl
  · cases h
    rfl
  · cases h
def g_pl : Nat → List (Nat × m_I) → Nat → m_L → List Value → Option (Nat × (m_L × List Value))
  | 0, _, i, ls, st => some (i, (ls, st))
  | k + 1, C, i, ls, st => match C[i]? with
    | none => none
    | some q => match g_pl1 q.2 i ls st with
      | none => none
      | some (i1, (ls1, st1)) => g_pl k C i1 ls1 st1
theorem g_pl_ok {X : m_X} {d m : Nat} {M : m_M} {r : m_R} : ∀ (k i i1 : Nat) (ls ls1 : m_L) (st st1 : List Value), g_pl k (m_md m).1 i ls st = some (i1, (ls1, st1)) → n_R X d m i1 ls1 st1 M r → n_R X d m i ls st M r
  | 0, i, i1, ls, ls1, st, st1, h, hk => by
    cases h
    exact hk
  | k + 1, i, i1, ls, ls1, st, st1, h, hk => by
    unfold g_pl at h
    split at h
    · cases h
    · rename_i hq
      split at h
      · cases h
      · rename_i hw
        exact n_go hq (fun cb => g_pl1_ok hw) (g_pl_ok k _ _ _ _ _ _ h hk)
/-- k such steps at once -/
theorem g_go {X : m_X} {d m i i1 : Nat} {ls ls1 : m_L} {st st1 : List Value} {M : m_M} {r : m_R} {C : m_Md} (k : Nat) (hm : m_md m = C) (h : g_pl k C.1 i ls st = some (i1, (ls1, st1))) (kk : n_R X d m i1 ls1 st1 M r) : n_R X d m i ls st M r := g_pl_ok k _ _ _ _ _ _ (by rw [hm]; exact h) kk
/-- the lesser, the greater -/
def g_min (x y : Int32) : Int32 := if y < x then y else x
def g_max (x y : Int32) : Int32 := if x < y then y else x
