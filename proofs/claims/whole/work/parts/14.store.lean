/-! ===== the store behind the constructors: kinds and references; two memories side by side ===== -/
set_option maxRecDepth 100000 in
def kdL : List Kd := [(99, 0), (11, 12), (10, 5), (5, 17), (20, 9), (20, 9), (20, 9), (20, 9), (20, 9), (20, 7), (20, 7), (20, 7), (20, 7), (20, 40), (0, 3), (24, 30), (5, 17), (20, 9), (20, 9), (20, 9), (20, 9), (20, 9), (20, 7), (20, 7), (20, 7), (20, 7), (20, 40), (5, 17), (20, 9), (20, 9), (20, 9), (20, 9), (20, 9), (20, 7), (20, 7), (20, 7), (20, 7), (20, 40), (5, 17), (20, 9), (20, 9), (20, 9), (20, 9), (20, 9), (20, 7), (20, 7), (20, 7), (20, 7), (20, 40), (5, 17), (20, 9), (20, 9), (20, 9), (20, 9), (20, 9), (20, 7), (20, 7), (20, 7), (20, 7), (20, 40), (5, 17), (20, 9), (20, 9), (20, 9), (20, 9), (20, 9), (20, 7), (20, 7), (20, 7), (20, 7), (20, 40), (5, 17), (20, 9), (20, 9), (20, 9), (20, 9), (20, 9), (20, 7), (20, 7), (20, 7), (20, 7), (20, 40), (5, 17), (20, 9), (20, 9), (20, 9), (20, 9), (20, 9), (20, 7), (20, 7), (20, 7), (20, 7), (20, 40), (5, 17), (20, 9), (20, 9), (20, 9), (20, 9), (20, 9), (20, 7), (20, 7), (20, 7), (20, 7), (20, 40), (5, 17), (20, 9), (20, 9), (20, 9), (20, 9), (20, 9), (20, 7), (20, 7), (20, 7), (20, 7), (20, 40), (5, 17), (20, 9), (20, 9), (20, 9), (20, 9), (20, 9), (20, 7), (20, 7), (20, 7), (20, 7), (20, 40), (5, 17), (20, 9), (20, 9), (20, 9), (20, 9), (20, 9), (20, 7), (20, 7), (20, 7), (20, 7), (20, 40), (5, 17), (20, 9), (20, 9), (20, 9), (20, 9), (20, 9), (20, 7), (20, 7), (20, 7), (20, 7), (20, 40), (5, 17), (20, 9), (20, 9), (20, 9), (20, 9), (20, 9), (20, 7), (20, 7), (20, 7), (20, 7), (20, 40), (5, 17), (20, 9), (20, 9), (20, 9), (20, 9), (20, 9), (20, 7), (20, 7), (20, 7), (20, 7), (20, 40), (5, 17), (20, 9), (20, 9), (20, 9), (20, 9), (20, 9), (20, 7), (20, 7), (20, 7), (20, 7), (20, 40), (5, 17), (20, 9), (20, 9), (20, 9), (20, 9), (20, 9), (20, 7), (20, 7), (20, 7), (20, 7), (20, 40), (5, 17), (20, 9), (20, 9), (20, 9), (20, 9), (20, 9), (20, 7), (20, 7), (20, 7), (20, 7), (20, 40), (5, 17), (20, 9), (20, 9), (20, 9), (20, 9), (20, 9), (20, 7), (20, 7), (20, 7), (20, 7), (20, 40), (5, 17), (20, 9), (20, 9), (20, 9), (20, 9), (20, 9), (20, 7), (20, 7), (20, 7), (20, 7), (20, 40), (5, 17), (20, 9), (20, 9), (20, 9), (20, 9), (20, 9), (20, 7), (20, 7), (20, 7), (20, 7), (20, 40), (5, 17), (20, 9), (20, 9), (20, 9), (20, 9), (20, 9), (20, 7), (20, 7), (20, 7), (20, 7), (20, 40), (5, 17), (20, 9), (20, 9), (20, 9), (20, 9), (20, 9), (20, 7), (20, 7), (20, 7), (20, 7), (20, 40), (5, 17), (20, 9), (20, 9), (20, 9), (20, 9), (20, 9), (20, 7), (20, 7), (20, 7), (20, 7), (20, 40), (5, 17), (20, 9), (20, 9), (20, 9), (20, 9), (20, 9), (20, 7), (20, 7), (20, 7), (20, 7), (20, 40), (5, 17), (20, 9), (20, 9), (20, 9), (20, 9), (20, 9), (20, 7), (20, 7), (20, 7), (20, 7), (20, 40), (5, 17), (20, 9), (20, 9), (20, 9), (20, 9), (20, 9), (20, 7), (20, 7), (20, 7), (20, 7), (20, 40), (5, 17), (20, 9), (20, 9), (20, 9), (20, 9), (20, 9), (20, 7), (20, 7), (20, 7), (20, 7), (20, 40), (5, 17), (20, 9), (20, 9), (20, 9), (20, 9), (20, 9), (20, 7), (20, 7), (20, 7), (20, 7), (20, 40), (5, 17), (20, 9), (20, 9), (20, 9), (20, 9), (20, 9), (20, 7), (20, 7), (20, 7), (20, 7), (20, 40), (5, 17), (20, 9), (20, 9), (20, 9), (20, 9), (20, 9), (20, 7), (20, 7), (20, 7), (20, 7), (20, 40), (7, 8), (20, 8), (20, 8), (20, 10), (20, 10), (20, 15), (10, 5), (5, 17), (20, 9), (20, 9), (20, 9), (20, 9), (20, 9), (20, 7), (20, 7), (20, 7), (20, 7), (20, 40), (0, 3), (24, 30), (5, 17), (20, 9), (20, 9), (20, 9), (20, 9), (20, 9), (20, 7), (20, 7), (20, 7), (20, 7), (20, 40), (5, 17), (20, 9), (20, 9), (20, 9), (20, 9), (20, 9), (20, 7), (20, 7), (20, 7), (20, 7), (20, 40), (5, 17), (20, 9), (20, 9), (20, 9), (20, 9), (20, 9), (20, 7), (20, 7), (20, 7), (20, 7), (20, 40), (5, 17), (20, 9), (20, 9), (20, 9), (20, 9), (20, 9), (20, 7), (20, 7), (20, 7), (20, 7), (20, 40), (5, 17), (20, 9), (20, 9), (20, 9), (20, 9), (20, 9), (20, 7), (20, 7), (20, 7), (20, 7), (20, 40), (5, 17), (20, 9), (20, 9), (20, 9), (20, 9), (20, 9), (20, 7), (20, 7), (20, 7), (20, 7), (20, 40), (5, 17), (20, 9), (20, 9), (20, 9), (20, 9), (20, 9), (20, 7), (20, 7), (20, 7), (20, 7), (20, 40), (5, 17), (20, 9), (20, 9), (20, 9), (20, 9), (20, 9), (20, 7), (20, 7), (20, 7), (20, 7), (20, 40), (5, 17), (20, 9), (20, 9), (20, 9), (20, 9), (20, 9), (20, 7), (20, 7), (20, 7), (20, 7), (20, 40), (5, 17), (20, 9), (20, 9), (20, 9), (20, 9), (20, 9), (20, 7), (20, 7), (20, 7), (20, 7), (20, 40), (5, 17), (20, 9), (20, 9), (20, 9), (20, 9), (20, 9), (20, 7), (20, 7), (20, 7), (20, 7), (20, 40), (5, 17), (20, 9), (20, 9), (20, 9), (20, 9), (20, 9), (20, 7), (20, 7), (20, 7), (20, 7), (20, 40), (5, 17), (20, 9), (20, 9), (20, 9), (20, 9), (20, 9), (20, 7), (20, 7), (20, 7), (20, 7), (20, 40), (5, 17), (20, 9), (20, 9), (20, 9), (20, 9), (20, 9), (20, 7), (20, 7), (20, 7), (20, 7), (20, 40), (5, 17), (20, 9), (20, 9), (20, 9), (20, 9), (20, 9), (20, 7), (20, 7), (20, 7), (20, 7), (20, 40), (5, 17), (20, 9), (20, 9), (20, 9), (20, 9), (20, 9), (20, 7), (20, 7), (20, 7), (20, 7), (20, 40), (5, 17), (20, 9), (20, 9), (20, 9), (20, 9), (20, 9), (20, 7), (20, 7), (20, 7), (20, 7), (20, 40), (5, 17), (20, 9), (20, 9), (20, 9), (20, 9), (20, 9), (20, 7), (20, 7), (20, 7), (20, 7), (20, 40), (5, 17), (20, 9), (20, 9), (20, 9), (20, 9), (20, 9), (20, 7), (20, 7), (20, 7), (20, 7), (20, 40), (5, 17), (20, 9), (20, 9), (20, 9), (20, 9), (20, 9), (20, 7), (20, 7), (20, 7), (20, 7), (20, 40), (5, 17), (20, 9), (20, 9), (20, 9), (20, 9), (20, 9), (20, 7), (20, 7), (20, 7), (20, 7), (20, 40), (5, 17), (20, 9), (20, 9), (20, 9), (20, 9), (20, 9), (20, 7), (20, 7), (20, 7), (20, 7), (20, 40), (5, 17), (20, 9), (20, 9), (20, 9), (20, 9), (20, 9), (20, 7), (20, 7), (20, 7), (20, 7), (20, 40), (5, 17), (20, 9), (20, 9), (20, 9), (20, 9), (20, 9), (20, 7), (20, 7), (20, 7), (20, 7), (20, 40), (5, 17), (20, 9), (20, 9), (20, 9), (20, 9), (20, 9), (20, 7), (20, 7), (20, 7), (20, 7), (20, 40), (5, 17), (20, 9), (20, 9), (20, 9), (20, 9), (20, 9), (20, 7), (20, 7), (20, 7), (20, 7), (20, 40), (5, 17), (20, 9), (20, 9), (20, 9), (20, 9), (20, 9), (20, 7), (20, 7), (20, 7), (20, 7), (20, 40), (5, 17), (20, 9), (20, 9), (20, 9), (20, 9), (20, 9), (20, 7), (20, 7), (20, 7), (20, 7), (20, 40), (5, 17), (20, 9), (20, 9), (20, 9), (20, 9), (20, 9), (20, 7), (20, 7), (20, 7), (20, 7), (20, 40), (5, 17), (20, 9), (20, 9), (20, 9), (20, 9), (20, 9), (20, 7), (20, 7), (20, 7), (20, 7), (20, 40), (7, 8), (20, 8), (20, 8), (20, 10), (20, 10), (20, 15), (25, 4), (4, 10), (20, 300), (2, 3), (6, 8), (20, 24), (20, 96), (20, 300), (20, 300), (20, 5), (20, 5), (20, 64), (1, 3), (20, 9), (20, 9), (9, 4), (26, 9), (20, 49), (20, 49), (20, 49), (20, 49), (20, 49), (20, 49), (20, 49), (20, 49), (20, 49), (26, 9), (20, 49), (20, 49), (20, 49), (20, 49), (20, 49), (20, 49), (20, 49), (20, 49), (20, 49), (26, 9), (20, 49), (20, 49), (20, 49), (20, 49), (20, 49), (20, 49), (20, 49), (20, 49), (20, 49), (3, 8), (20, 4), (20, 4), (26, 4), (20, 5), (20, 5), (20, 5), (20, 5), (20, 4), (8, 4), (20, 9), (20, 10), (20, 10), (20, 9), (5, 17), (20, 9), (20, 9), (20, 9), (20, 9), (20, 9), (20, 7), (20, 7), (20, 7), (20, 7), (20, 40), (6, 8), (20, 24), (20, 96), (20, 300), (20, 300), (20, 5), (20, 5), (6, 8), (20, 24), (20, 96), (20, 300), (20, 300), (20, 5), (20, 5), (6, 8), (20, 24), (20, 96), (20, 300), (20, 300), (20, 5), (20, 5), (6, 8), (20, 24), (20, 96), (20, 300), (20, 300), (20, 5), (20, 5), (12, 43), (20, 10606), (20, 10606), (20, 2916), (20, 300), (20, 160), (23, 330), (21, 330), (21, 7), (20, 9), (20, 9), (20, 130), (20, 384), (20, 441), (20, 8), (20, 7), (20, 7), (20, 4), (20, 4), (20, 10), (20, 10), (20, 7)]
set_option maxRecDepth 100000 in
def rfL : List (List Int) := [[], [2, 352, 3, 346, 702, 703, 705, 714, 717, 748, 757, 762], [3, 14, 346, 0, 0], [0, 4, 5, 6, 7, 8, 0, 9, 10, 11, 12, 0, 0, 0, 0, 0, 13], [], [], [], [], [], [], [], [], [], [], [15, 0, 0], [16, 27, 38, 49, 60, 71, 82, 93, 104, 115, 126, 137, 148, 159, 170, 181, 192, 203, 214, 225, 236, 247, 258, 269, 280, 291, 302, 313, 324, 335], [0, 17, 18, 19, 20, 21, 0, 22, 23, 24, 25, 0, 0, 0, 0, 0, 26], [], [], [], [], [], [], [], [], [], [], [0, 28, 29, 30, 31, 32, 0, 33, 34, 35, 36, 0, 0, 0, 0, 0, 37], [], [], [], [], [], [], [], [], [], [], [0, 39, 40, 41, 42, 43, 0, 44, 45, 46, 47, 0, 0, 0, 0, 0, 48], [], [], [], [], [], [], [], [], [], [], [0, 50, 51, 52, 53, 54, 0, 55, 56, 57, 58, 0, 0, 0, 0, 0, 59], [], [], [], [], [], [], [], [], [], [], [0, 61, 62, 63, 64, 65, 0, 66, 67, 68, 69, 0, 0, 0, 0, 0, 70], [], [], [], [], [], [], [], [], [], [], [0, 72, 73, 74, 75, 76, 0, 77, 78, 79, 80, 0, 0, 0, 0, 0, 81], [], [], [], [], [], [], [], [], [], [], [0, 83, 84, 85, 86, 87, 0, 88, 89, 90, 91, 0, 0, 0, 0, 0, 92], [], [], [], [], [], [], [], [], [], [], [0, 94, 95, 96, 97, 98, 0, 99, 100, 101, 102, 0, 0, 0, 0, 0, 103], [], [], [], [], [], [], [], [], [], [], [0, 105, 106, 107, 108, 109, 0, 110, 111, 112, 113, 0, 0, 0, 0, 0, 114], [], [], [], [], [], [], [], [], [], [], [0, 116, 117, 118, 119, 120, 0, 121, 122, 123, 124, 0, 0, 0, 0, 0, 125], [], [], [], [], [], [], [], [], [], [], [0, 127, 128, 129, 130, 131, 0, 132, 133, 134, 135, 0, 0, 0, 0, 0, 136], [], [], [], [], [], [], [], [], [], [], [0, 138, 139, 140, 141, 142, 0, 143, 144, 145, 146, 0, 0, 0, 0, 0, 147], [], [], [], [], [], [], [], [], [], [], [0, 149, 150, 151, 152, 153, 0, 154, 155, 156, 157, 0, 0, 0, 0, 0, 158], [], [], [], [], [], [], [], [], [], [], [0, 160, 161, 162, 163, 164, 0, 165, 166, 167, 168, 0, 0, 0, 0, 0, 169], [], [], [], [], [], [], [], [], [], [], [0, 171, 172, 173, 174, 175, 0, 176, 177, 178, 179, 0, 0, 0, 0, 0, 180], [], [], [], [], [], [], [], [], [], [], [0, 182, 183, 184, 185, 186, 0, 187, 188, 189, 190, 0, 0, 0, 0, 0, 191], [], [], [], [], [], [], [], [], [], [], [0, 193, 194, 195, 196, 197, 0, 198, 199, 200, 201, 0, 0, 0, 0, 0, 202], [], [], [], [], [], [], [], [], [], [], [0, 204, 205, 206, 207, 208, 0, 209, 210, 211, 212, 0, 0, 0, 0, 0, 213], [], [], [], [], [], [], [], [], [], [], [0, 215, 216, 217, 218, 219, 0, 220, 221, 222, 223, 0, 0, 0, 0, 0, 224], [], [], [], [], [], [], [], [], [], [], [0, 226, 227, 228, 229, 230, 0, 231, 232, 233, 234, 0, 0, 0, 0, 0, 235], [], [], [], [], [], [], [], [], [], [], [0, 237, 238, 239, 240, 241, 0, 242, 243, 244, 245, 0, 0, 0, 0, 0, 246], [], [], [], [], [], [], [], [], [], [], [0, 248, 249, 250, 251, 252, 0, 253, 254, 255, 256, 0, 0, 0, 0, 0, 257], [], [], [], [], [], [], [], [], [], [], [0, 259, 260, 261, 262, 263, 0, 264, 265, 266, 267, 0, 0, 0, 0, 0, 268], [], [], [], [], [], [], [], [], [], [], [0, 270, 271, 272, 273, 274, 0, 275, 276, 277, 278, 0, 0, 0, 0, 0, 279], [], [], [], [], [], [], [], [], [], [], [0, 281, 282, 283, 284, 285, 0, 286, 287, 288, 289, 0, 0, 0, 0, 0, 290], [], [], [], [], [], [], [], [], [], [], [0, 292, 293, 294, 295, 296, 0, 297, 298, 299, 300, 0, 0, 0, 0, 0, 301], [], [], [], [], [], [], [], [], [], [], [0, 303, 304, 305, 306, 307, 0, 308, 309, 310, 311, 0, 0, 0, 0, 0, 312], [], [], [], [], [], [], [], [], [], [], [0, 314, 315, 316, 317, 318, 0, 319, 320, 321, 322, 0, 0, 0, 0, 0, 323], [], [], [], [], [], [], [], [], [], [], [0, 325, 326, 327, 328, 329, 0, 330, 331, 332, 333, 0, 0, 0, 0, 0, 334], [], [], [], [], [], [], [], [], [], [], [0, 336, 337, 338, 339, 340, 0, 341, 342, 343, 344, 0, 0, 0, 0, 0, 345], [], [], [], [], [], [], [], [], [], [], [0, 347, 348, 0, 349, 350, 0, 351], [], [], [], [], [], [353, 364, 696, 0, 0], [0, 354, 355, 356, 357, 358, 0, 359, 360, 361, 362, 0, 0, 0, 0, 0, 363], [], [], [], [], [], [], [], [], [], [], [365, 0, 0], [366, 377, 388, 399, 410, 421, 432, 443, 454, 465, 476, 487, 498, 509, 520, 531, 542, 553, 564, 575, 586, 597, 608, 619, 630, 641, 652, 663, 674, 685], [0, 367, 368, 369, 370, 371, 0, 372, 373, 374, 375, 0, 0, 0, 0, 0, 376], [], [], [], [], [], [], [], [], [], [], [0, 378, 379, 380, 381, 382, 0, 383, 384, 385, 386, 0, 0, 0, 0, 0, 387], [], [], [], [], [], [], [], [], [], [], [0, 389, 390, 391, 392, 393, 0, 394, 395, 396, 397, 0, 0, 0, 0, 0, 398], [], [], [], [], [], [], [], [], [], [], [0, 400, 401, 402, 403, 404, 0, 405, 406, 407, 408, 0, 0, 0, 0, 0, 409], [], [], [], [], [], [], [], [], [], [], [0, 411, 412, 413, 414, 415, 0, 416, 417, 418, 419, 0, 0, 0, 0, 0, 420], [], [], [], [], [], [], [], [], [], [], [0, 422, 423, 424, 425, 426, 0, 427, 428, 429, 430, 0, 0, 0, 0, 0, 431], [], [], [], [], [], [], [], [], [], [], [0, 433, 434, 435, 436, 437, 0, 438, 439, 440, 441, 0, 0, 0, 0, 0, 442], [], [], [], [], [], [], [], [], [], [], [0, 444, 445, 446, 447, 448, 0, 449, 450, 451, 452, 0, 0, 0, 0, 0, 453], [], [], [], [], [], [], [], [], [], [], [0, 455, 456, 457, 458, 459, 0, 460, 461, 462, 463, 0, 0, 0, 0, 0, 464], [], [], [], [], [], [], [], [], [], [], [0, 466, 467, 468, 469, 470, 0, 471, 472, 473, 474, 0, 0, 0, 0, 0, 475], [], [], [], [], [], [], [], [], [], [], [0, 477, 478, 479, 480, 481, 0, 482, 483, 484, 485, 0, 0, 0, 0, 0, 486], [], [], [], [], [], [], [], [], [], [], [0, 488, 489, 490, 491, 492, 0, 493, 494, 495, 496, 0, 0, 0, 0, 0, 497], [], [], [], [], [], [], [], [], [], [], [0, 499, 500, 501, 502, 503, 0, 504, 505, 506, 507, 0, 0, 0, 0, 0, 508], [], [], [], [], [], [], [], [], [], [], [0, 510, 511, 512, 513, 514, 0, 515, 516, 517, 518, 0, 0, 0, 0, 0, 519], [], [], [], [], [], [], [], [], [], [], [0, 521, 522, 523, 524, 525, 0, 526, 527, 528, 529, 0, 0, 0, 0, 0, 530], [], [], [], [], [], [], [], [], [], [], [0, 532, 533, 534, 535, 536, 0, 537, 538, 539, 540, 0, 0, 0, 0, 0, 541], [], [], [], [], [], [], [], [], [], [], [0, 543, 544, 545, 546, 547, 0, 548, 549, 550, 551, 0, 0, 0, 0, 0, 552], [], [], [], [], [], [], [], [], [], [], [0, 554, 555, 556, 557, 558, 0, 559, 560, 561, 562, 0, 0, 0, 0, 0, 563], [], [], [], [], [], [], [], [], [], [], [0, 565, 566, 567, 568, 569, 0, 570, 571, 572, 573, 0, 0, 0, 0, 0, 574], [], [], [], [], [], [], [], [], [], [], [0, 576, 577, 578, 579, 580, 0, 581, 582, 583, 584, 0, 0, 0, 0, 0, 585], [], [], [], [], [], [], [], [], [], [], [0, 587, 588, 589, 590, 591, 0, 592, 593, 594, 595, 0, 0, 0, 0, 0, 596], [], [], [], [], [], [], [], [], [], [], [0, 598, 599, 600, 601, 602, 0, 603, 604, 605, 606, 0, 0, 0, 0, 0, 607], [], [], [], [], [], [], [], [], [], [], [0, 609, 610, 611, 612, 613, 0, 614, 615, 616, 617, 0, 0, 0, 0, 0, 618], [], [], [], [], [], [], [], [], [], [], [0, 620, 621, 622, 623, 624, 0, 625, 626, 627, 628, 0, 0, 0, 0, 0, 629], [], [], [], [], [], [], [], [], [], [], [0, 631, 632, 633, 634, 635, 0, 636, 637, 638, 639, 0, 0, 0, 0, 0, 640], [], [], [], [], [], [], [], [], [], [], [0, 642, 643, 644, 645, 646, 0, 647, 648, 649, 650, 0, 0, 0, 0, 0, 651], [], [], [], [], [], [], [], [], [], [], [0, 653, 654, 655, 656, 657, 0, 658, 659, 660, 661, 0, 0, 0, 0, 0, 662], [], [], [], [], [], [], [], [], [], [], [0, 664, 665, 666, 667, 668, 0, 669, 670, 671, 672, 0, 0, 0, 0, 0, 673], [], [], [], [], [], [], [], [], [], [], [0, 675, 676, 677, 678, 679, 0, 680, 681, 682, 683, 0, 0, 0, 0, 0, 684], [], [], [], [], [], [], [], [], [], [], [0, 686, 687, 688, 689, 690, 0, 691, 692, 693, 694, 0, 0, 0, 0, 0, 695], [], [], [], [], [], [], [], [], [], [], [0, 697, 698, 0, 699, 700, 0, 701], [], [], [], [], [], [773, 780, 787, 794], [704, 0, 0, 0, 0, 0, 0, 0, 0, 0], [], [706, 706, 713], [0, 707, 708, 0, 709, 710, 711, 712], [], [], [], [], [], [], [], [705, 715, 716], [], [], [705, 718, 728, 738], [719, 720, 721, 722, 723, 724, 725, 726, 727], [], [], [], [], [], [], [], [], [], [729, 730, 731, 732, 733, 734, 735, 736, 737], [], [], [], [], [], [], [], [], [], [739, 740, 741, 742, 743, 744, 745, 746, 747], [], [], [], [], [], [], [], [], [], [705, 749, 750, 0, 0, 751, 0, 756], [], [], [752, 753, 754, 755], [], [], [], [], [], [758, 759, 760, 761], [], [], [], [], [0, 763, 764, 765, 766, 767, 0, 768, 769, 770, 771, 0, 0, 0, 0, 0, 772], [], [], [], [], [], [], [], [], [], [], [0, 774, 775, 0, 776, 777, 778, 779], [], [], [], [], [], [], [0, 781, 782, 0, 783, 784, 785, 786], [], [], [], [], [], [], [0, 788, 789, 0, 790, 791, 792, 793], [], [], [], [], [], [], [0, 795, 796, 0, 797, 798, 799, 800], [], [], [], [], [], [], [802, 803, 804, 805, 0, 0, 0, 0, 0, 0, 0, 0, 0, 0, 0, 806, 0, 0, 0, 0, 0, 0, 0, 0, 0, 807, 808, 809, 0, 0, 810, 811, 812, 813, 814, 815, 816, 817, 818, 819, 820, 821, 822], [], [], [], [], [], [], [], [], [], [], [], [], [], [], [], [], [], [], [], [], []]
def K0 (x : Int) : Kd := kdL.getD x.toNat (99, 0)
def Rf0 : Mem := fun x i => (rfL.getD x.toNat []).getD i.toNat 0
def RfM (M : Mem) : Mem := fun x i => if x = 705 ∧ i = 1 then M 0 0 else if x = 703 ∧ i = 4 then M 0 1 else Rf0 x i
abbrev sg (M : Mem) : Sg := (822, K0, RfM M, M)
/-- the class's memory and the model's -/
def mx (M N : Mem) : Mem := fun x i => if x < 801 then M x i else N x i
theorem mxL {M N : Mem} {x i : Int} (h : x < 801) : mx M N x i = M x i := if_pos h
theorem mxR {M N : Mem} {x i : Int} (h : 801 ≤ x) : mx M N x i = N x i := if_neg (by omega)
theorem mx_upL {M N : Mem} {x i v : Int} (h : x < 801) : upM (mx M N) x i v = mx (upM M x i v) N := by
  funext y j
  unfold upM mx
  dsimp only
  by_cases h1 : y = x ∧ j = i
  · rw [if_pos h1, if_pos (by omega), if_pos h1]
  · rw [if_neg h1, if_neg h1]
theorem mx_upR {M N : Mem} {x i v : Int} (h : 801 ≤ x) : upM (mx M N) x i v = mx M (upM N x i v) := by
  funext y j
  unfold upM mx
  dsimp only
  by_cases h1 : y = x ∧ j = i
  · rw [if_pos h1, if_neg (by omega), if_pos h1]
  · rw [if_neg h1, if_neg h1]
theorem RfM_congr {M N : Mem} (h0 : M 0 0 = N 0 0) (h1 : M 0 1 = N 0 1) : RfM M = RfM N := by
  funext y j
  unfold RfM
  rw [h0, h1]
theorem RfM_up {M : Mem} {x i v : Int} (h : x ≠ 0) : RfM (upM M x i v) = RfM M := by
  apply RfM_congr
  · rw [upM_ne (fun q => h q.symm)]
  · rw [upM_ne (fun q => h q.symm)]
theorem sg_set {M : Mem} {x i v : Int} (h : x ≠ 0) : setM (sg M) x i v = sg (upM M x i v) := by
  unfold setM sg
  rw [RfM_up h]
theorem sg_setc {M N : Mem} {x i v : Int} (h : x ≠ 0) (h8 : x < 801) : setM (sg (mx M N)) x i v = sg (mx (upM M x i v) N) := by
  rw [sg_set h, mx_upL h8]
theorem sg_setr {M N : Mem} {x i v : Int} (h : x ≠ 0) (h8 : 801 ≤ x) : setM (sg (mx N M)) x i v = sg (mx N (upM M x i v)) := by
  rw [sg_set h, mx_upR h8]
theorem sg_cpyc {M N : Mem} {x0 sp x1 dp n : Int} (h : x1 ≠ 0) (h0 : x0 < 801) (h8 : x1 < 801) : cpS (sg (mx M N)) x0 sp x1 dp n = sg (mx (cpM M x0 sp x1 dp n) N) := by
  have e1 : cpM (mx M N) x0 sp x1 dp n = mx (cpM M x0 sp x1 dp n) N := by
    funext y j
    unfold cpM mx
    dsimp only
    by_cases h1 : y = x1 ∧ dp ≤ j ∧ j < dp + n
    · rw [if_pos h1, if_pos h0, if_pos (by omega), if_pos h1]
    · rw [if_neg h1, if_neg h1]
  have e2 : RfM (mx (cpM M x0 sp x1 dp n) N) = RfM (mx M N) := by
    rw [← e1]
    apply RfM_congr
    · unfold cpM
      rw [if_neg (fun q => h q.1.symm)]
    · unfold cpM
      rw [if_neg (fun q => h q.1.symm)]
  unfold cpS sg
  rw [e2, e1]
def lt {α β : Sort _} (x : α) (k : α → β) : β := k x
theorem lt_some {α β : Sort _} {x : α} {k : α → β} {r : β} (h : lt x k = r) : ∃ y, y = x ∧ k y = r := ⟨x, rfl, h⟩
def ck {α : Type _} (c : Prop) [Decidable c] (a : Option α) : Option α := if c then a else none
theorem ck_some {α : Type _} {c : Prop} [Decidable c] {a : Option α} {r : α} (h : ck c a = some r) : c ∧ a = some r := by
  unfold ck at h
  by_cases hc : c
  · rw [if_pos hc] at h
    exact ⟨hc, h⟩
  · rw [if_neg hc] at h
    cases h
theorem bd {α β : Type _} {x : Option α} {k : α → Option β} {r : β} (h : x.bind k = some r) : ∃ q, x = some q ∧ k q = some r := by
  cases x with
  | none => cases h
  | some q => exact ⟨q, rfl, h⟩
theorem WOK.irr {g : Gm} {ws : va_W} {σ : Sg} {rf m : Mem} (h : WOK g ws σ) (h1 : ∀ x : Int, 0 < x → rf x = σ.2.2.1 x) (h2 : ∀ x : Int, 0 < x → m x = σ.2.2.2 x) : WOK g ws (σ.1, σ.2.1, rf, m) := by
  refine ⟨h.1, fun k a e hk => ?_⟩
  show CellOK g ws _ (rf _) (m _) e
  rw [h1 _ (by omega), h2 _ (by omega)]
  exact h.2 k a e hk
theorem K0sg {M : Mem} {x : Int} {q : Kd} (h : K0 x = q) : (sg M).2.1 x = q := h
theorem RfMsg {M : Mem} {x i v : Int} (h : RfM M x i = v) : (sg M).2.2.1 x i = v := h
section EvP
variable {g : Gm} {d : Nat} {T : Mt} {pc : Nat} {il il' : List (Nat × Vv)} {st : List Vv} {M N M0 : Mem} {σ σ' : Sg} {b : Nat × Nat} {r : Vv}
theorem ev_irr {rf m : Mem} (h1 : ∀ x : Int, 0 < x → rf x = σ.2.2.1 x) (h2 : ∀ x : Int, 0 < x → m x = σ.2.2.2 x) (h : Ev g d T pc il st (σ.1, σ.2.1, rf, m) b r σ') : Ev g d T pc il st σ b r σ' := by
  intro p e R s m args below meth c mc ms C H locs cells slots ls vst ws Q hl hs hw' hP hD hS k1 k2 hF
  exact h p e R s m args below meth c mc ms C H locs cells slots ls vst ws Q hl hs (hw'.irr h1 h2) hP hD hS k1 k2 hF
theorem ev_getR {own : String} {idx ci N' k : Nat} {ty : FieldType} {fin : Bool} {x y : Int} (hf : FLk own idx ci N' k ty fin) (ho : T.1.cls = own) (hd : decode T.2.1 pc = .ok (.getfield idx, 3)) (ht : fTag ty = 2) (hk : K0 x = (ci, N')) (hx : x ≠ 0) (hy : RfM M0 x k = y)
    (h : Ev g d T (pc + 3) il (vR y :: st) (sg M0) b r σ') : Ev g d T pc il (vR x :: st) (sg M0) b r σ' :=
  ev_get (σ := sg M0) ho hf (K0sg hk) hx (by rw [ht, ← hy]; rfl) hd h
theorem ev_alenI {n : Nat} {x : Int} (nI : Int) (hnI : (n : Int) = nI) (hd : decode T.2.1 pc = .ok (.arraylength, 1)) (hk : K0 x = (20, n)) (hn : n < 2147483648) (hx : x ≠ 0) (h : Ev g d T (pc + 1) il (vI nI :: st) (sg M0) b r σ') : Ev g d T pc il (vR x :: st) (sg M0) b r σ' :=
  ev_alen (σ := sg M0) (K0sg hk) hn hx hd (by rw [hnI]; exact h)
theorem ev_rld {t n : Nat} {x i v : Int} (hd : decode T.2.1 pc = .ok (.aaload, 1)) (h24 : 24 ≤ t) (hk : K0 x = (t, n)) (hx : x ≠ 0) (h0 : 0 ≤ i) (hi : i < n) (hv : RfM M0 x i = v) (h : Ev g d T (pc + 1) il (vR v :: st) (sg M0) b r σ') : Ev g d T pc il (vI i :: vR x :: st) (sg M0) b r σ' :=
  ev_aald (σ := sg M0) h24 (K0sg hk) hx h0 hi (RfMsg hv) hd h
theorem ev_getIc {own : String} {idx ci N' k : Nat} {ty : FieldType} {fin : Bool} {x : Int} (hf : FLk own idx ci N' k ty fin) (ho : T.1.cls = own) (hd : decode T.2.1 pc = .ok (.getfield idx, 3)) (ht : fTag ty = 0) (hk : K0 x = (ci, N')) (hx : x ≠ 0) (h8 : x < 801) (kI : Int) (hki : (k : Int) = kI)
    (h : Ev g d T (pc + 3) il (vI (M x kI) :: st) (sg (mx M N)) b r σ') : Ev g d T pc il (vR x :: st) (sg (mx M N)) b r σ' :=
  ev_get (σ := sg (mx M N)) ho hf (K0sg hk) hx (by rw [ht, ← hki]; exact congrArg vI (mxL h8)) hd h
theorem ev_getJc {own : String} {idx ci N' k : Nat} {ty : FieldType} {fin : Bool} {x : Int} (hf : FLk own idx ci N' k ty fin) (ho : T.1.cls = own) (hd : decode T.2.1 pc = .ok (.getfield idx, 3)) (ht : fTag ty = 1) (hk : K0 x = (ci, N')) (hx : x ≠ 0) (h8 : x < 801) (kI : Int) (hki : (k : Int) = kI)
    (h : Ev g d T (pc + 3) il (vL (M x kI) :: st) (sg (mx M N)) b r σ') : Ev g d T pc il (vR x :: st) (sg (mx M N)) b r σ' :=
  ev_get (σ := sg (mx M N)) ho hf (K0sg hk) hx (by rw [ht, ← hki]; exact congrArg vL (mxL h8)) hd h
theorem ev_putIc {own : String} {idx ci N' k : Nat} {x v : Int} {M1 : Mem} (hf : FLk own idx ci N' k .int false) (ho : T.1.cls = own) (hd : decode T.2.1 pc = .ok (.putfield idx, 3)) (hk : K0 x = (ci, N')) (hx : x ≠ 0) (h8 : x < 801) (h1 : M1 = upM M x k v)
    (h : Ev g d T (pc + 3) il st (sg (mx M1 N)) b r σ') : Ev g d T pc il (vI v :: vR x :: st) (sg (mx M N)) b r σ' :=
  ev_put (σ := sg (mx M N)) ho hf (K0sg hk) hx (Or.inl ⟨rfl, rfl⟩) hd (by rw [h1]; exact sg_setc hx h8) h
theorem ev_putZc {own : String} {idx ci N' k : Nat} {x v : Int} {M1 : Mem} (hf : FLk own idx ci N' k .boolean false) (ho : T.1.cls = own) (hd : decode T.2.1 pc = .ok (.putfield idx, 3)) (hk : K0 x = (ci, N')) (hx : x ≠ 0) (h8 : x < 801) (hv : v = 0 ∨ v = 1) (h1 : M1 = upM M x k v)
    (h : Ev g d T (pc + 3) il st (sg (mx M1 N)) b r σ') : Ev g d T pc il (vI v :: vR x :: st) (sg (mx M N)) b r σ' :=
  ev_put (σ := sg (mx M N)) ho hf (K0sg hk) hx (Or.inr (Or.inl ⟨rfl, rfl, hv⟩)) hd (by rw [h1]; exact sg_setc hx h8) h
theorem ev_putJc {own : String} {idx ci N' k : Nat} {x v : Int} {M1 : Mem} (hf : FLk own idx ci N' k .long false) (ho : T.1.cls = own) (hd : decode T.2.1 pc = .ok (.putfield idx, 3)) (hk : K0 x = (ci, N')) (hx : x ≠ 0) (h8 : x < 801) (h1 : M1 = upM M x k v)
    (h : Ev g d T (pc + 3) il st (sg (mx M1 N)) b r σ') : Ev g d T pc il (vL v :: vR x :: st) (sg (mx M N)) b r σ' :=
  ev_put (σ := sg (mx M N)) ho hf (K0sg hk) hx (Or.inr (Or.inr (Or.inl ⟨rfl, rfl⟩))) hd (by rw [h1]; exact sg_setc hx h8) h
theorem ev_ildc {n : Nat} {x i : Int} (hd : decode T.2.1 pc = .ok (.iaload, 1)) (hk : K0 x = (20, n)) (hx : x ≠ 0) (h8 : x < 801) (h0 : 0 ≤ i) (hi : i < n) (h : Ev g d T (pc + 1) il (vI (M x i) :: st) (sg (mx M N)) b r σ') : Ev g d T pc il (vI i :: vR x :: st) (sg (mx M N)) b r σ' :=
  ev_iald (σ := sg (mx M N)) (K0sg hk) hx h0 hi (mxL h8) hd h
theorem ev_bldc {n : Nat} {x i : Int} (hd : decode T.2.1 pc = .ok (.baload, 1)) (hk : K0 x = (21, n)) (hx : x ≠ 0) (h8 : x < 801) (h0 : 0 ≤ i) (hi : i < n) (h : Ev g d T (pc + 1) il (vI (M x i) :: st) (sg (mx M N)) b r σ') : Ev g d T pc il (vI i :: vR x :: st) (sg (mx M N)) b r σ' :=
  ev_bald (σ := sg (mx M N)) (K0sg hk) hx h0 hi (mxL h8) hd h
theorem ev_lldc {n : Nat} {x i : Int} (hd : decode T.2.1 pc = .ok (.laload, 1)) (hk : K0 x = (23, n)) (hx : x ≠ 0) (h8 : x < 801) (h0 : 0 ≤ i) (hi : i < n) (h : Ev g d T (pc + 1) il (vL (M x i) :: st) (sg (mx M N)) b r σ') : Ev g d T pc il (vI i :: vR x :: st) (sg (mx M N)) b r σ' :=
  ev_lald (σ := sg (mx M N)) (K0sg hk) hx h0 hi (mxL h8) hd h
theorem ev_istc {n : Nat} {x i v : Int} {M1 : Mem} (hd : decode T.2.1 pc = .ok (.iastore, 1)) (hk : K0 x = (20, n)) (hx : x ≠ 0) (h8 : x < 801) (h0 : 0 ≤ i) (hi : i < n) (h1 : M1 = upM M x i v) (h : Ev g d T (pc + 1) il st (sg (mx M1 N)) b r σ') : Ev g d T pc il (vI v :: vI i :: vR x :: st) (sg (mx M N)) b r σ' :=
  ev_iast (σ := sg (mx M N)) (K0sg hk) hx h0 hi hd (by rw [h1]; exact sg_setc hx h8) h
theorem ev_bstc {n : Nat} {x i v : Int} {M1 : Mem} (hd : decode T.2.1 pc = .ok (.bastore, 1)) (hk : K0 x = (21, n)) (hx : x ≠ 0) (h8 : x < 801) (h0 : 0 ≤ i) (hi : i < n) (hv : v = 0 ∨ v = 1) (h1 : M1 = upM M x i v) (h : Ev g d T (pc + 1) il st (sg (mx M1 N)) b r σ') : Ev g d T pc il (vI v :: vI i :: vR x :: st) (sg (mx M N)) b r σ' :=
  ev_bast (σ := sg (mx M N)) (K0sg hk) hx h0 hi hv hd (by rw [h1]; exact sg_setc hx h8) h
theorem ev_lstc {n : Nat} {x i v : Int} {M1 : Mem} (hd : decode T.2.1 pc = .ok (.lastore, 1)) (hk : K0 x = (23, n)) (hx : x ≠ 0) (h8 : x < 801) (h0 : 0 ≤ i) (hi : i < n) (h1 : M1 = upM M x i v) (h : Ev g d T (pc + 1) il st (sg (mx M1 N)) b r σ') : Ev g d T pc il (vL v :: vI i :: vR x :: st) (sg (mx M N)) b r σ' :=
  ev_last (σ := sg (mx M N)) (K0sg hk) hx h0 hi hd (by rw [h1]; exact sg_setc hx h8) h
theorem ev_getIr {own : String} {idx ci N' k : Nat} {ty : FieldType} {fin : Bool} {x : Int} (hf : FLk own idx ci N' k ty fin) (ho : T.1.cls = own) (hd : decode T.2.1 pc = .ok (.getfield idx, 3)) (ht : fTag ty = 0) (hk : K0 x = (ci, N')) (hx : x ≠ 0) (h8 : 801 ≤ x) (kI : Int) (hki : (k : Int) = kI)
    (h : Ev g d T (pc + 3) il (vI (M x kI) :: st) (sg (mx N M)) b r σ') : Ev g d T pc il (vR x :: st) (sg (mx N M)) b r σ' :=
  ev_get (σ := sg (mx N M)) ho hf (K0sg hk) hx (by rw [ht, ← hki]; exact congrArg vI (mxR h8)) hd h
theorem ev_getJr {own : String} {idx ci N' k : Nat} {ty : FieldType} {fin : Bool} {x : Int} (hf : FLk own idx ci N' k ty fin) (ho : T.1.cls = own) (hd : decode T.2.1 pc = .ok (.getfield idx, 3)) (ht : fTag ty = 1) (hk : K0 x = (ci, N')) (hx : x ≠ 0) (h8 : 801 ≤ x) (kI : Int) (hki : (k : Int) = kI)
    (h : Ev g d T (pc + 3) il (vL (M x kI) :: st) (sg (mx N M)) b r σ') : Ev g d T pc il (vR x :: st) (sg (mx N M)) b r σ' :=
  ev_get (σ := sg (mx N M)) ho hf (K0sg hk) hx (by rw [ht, ← hki]; exact congrArg vL (mxR h8)) hd h
theorem ev_putIr {own : String} {idx ci N' k : Nat} {x v : Int} {M1 : Mem} (hf : FLk own idx ci N' k .int false) (ho : T.1.cls = own) (hd : decode T.2.1 pc = .ok (.putfield idx, 3)) (hk : K0 x = (ci, N')) (hx : x ≠ 0) (h8 : 801 ≤ x) (h1 : M1 = upM M x k v)
    (h : Ev g d T (pc + 3) il st (sg (mx N M1)) b r σ') : Ev g d T pc il (vI v :: vR x :: st) (sg (mx N M)) b r σ' :=
  ev_put (σ := sg (mx N M)) ho hf (K0sg hk) hx (Or.inl ⟨rfl, rfl⟩) hd (by rw [h1]; exact sg_setr hx h8) h
theorem ev_putZr {own : String} {idx ci N' k : Nat} {x v : Int} {M1 : Mem} (hf : FLk own idx ci N' k .boolean false) (ho : T.1.cls = own) (hd : decode T.2.1 pc = .ok (.putfield idx, 3)) (hk : K0 x = (ci, N')) (hx : x ≠ 0) (h8 : 801 ≤ x) (hv : v = 0 ∨ v = 1) (h1 : M1 = upM M x k v)
    (h : Ev g d T (pc + 3) il st (sg (mx N M1)) b r σ') : Ev g d T pc il (vI v :: vR x :: st) (sg (mx N M)) b r σ' :=
  ev_put (σ := sg (mx N M)) ho hf (K0sg hk) hx (Or.inr (Or.inl ⟨rfl, rfl, hv⟩)) hd (by rw [h1]; exact sg_setr hx h8) h
theorem ev_putJr {own : String} {idx ci N' k : Nat} {x v : Int} {M1 : Mem} (hf : FLk own idx ci N' k .long false) (ho : T.1.cls = own) (hd : decode T.2.1 pc = .ok (.putfield idx, 3)) (hk : K0 x = (ci, N')) (hx : x ≠ 0) (h8 : 801 ≤ x) (h1 : M1 = upM M x k v)
    (h : Ev g d T (pc + 3) il st (sg (mx N M1)) b r σ') : Ev g d T pc il (vL v :: vR x :: st) (sg (mx N M)) b r σ' :=
  ev_put (σ := sg (mx N M)) ho hf (K0sg hk) hx (Or.inr (Or.inr (Or.inl ⟨rfl, rfl⟩))) hd (by rw [h1]; exact sg_setr hx h8) h
theorem ev_ildr {n : Nat} {x i : Int} (hd : decode T.2.1 pc = .ok (.iaload, 1)) (hk : K0 x = (20, n)) (hx : x ≠ 0) (h8 : 801 ≤ x) (h0 : 0 ≤ i) (hi : i < n) (h : Ev g d T (pc + 1) il (vI (M x i) :: st) (sg (mx N M)) b r σ') : Ev g d T pc il (vI i :: vR x :: st) (sg (mx N M)) b r σ' :=
  ev_iald (σ := sg (mx N M)) (K0sg hk) hx h0 hi (mxR h8) hd h
theorem ev_bldr {n : Nat} {x i : Int} (hd : decode T.2.1 pc = .ok (.baload, 1)) (hk : K0 x = (21, n)) (hx : x ≠ 0) (h8 : 801 ≤ x) (h0 : 0 ≤ i) (hi : i < n) (h : Ev g d T (pc + 1) il (vI (M x i) :: st) (sg (mx N M)) b r σ') : Ev g d T pc il (vI i :: vR x :: st) (sg (mx N M)) b r σ' :=
  ev_bald (σ := sg (mx N M)) (K0sg hk) hx h0 hi (mxR h8) hd h
theorem ev_lldr {n : Nat} {x i : Int} (hd : decode T.2.1 pc = .ok (.laload, 1)) (hk : K0 x = (23, n)) (hx : x ≠ 0) (h8 : 801 ≤ x) (h0 : 0 ≤ i) (hi : i < n) (h : Ev g d T (pc + 1) il (vL (M x i) :: st) (sg (mx N M)) b r σ') : Ev g d T pc il (vI i :: vR x :: st) (sg (mx N M)) b r σ' :=
  ev_lald (σ := sg (mx N M)) (K0sg hk) hx h0 hi (mxR h8) hd h
theorem ev_istr {n : Nat} {x i v : Int} {M1 : Mem} (hd : decode T.2.1 pc = .ok (.iastore, 1)) (hk : K0 x = (20, n)) (hx : x ≠ 0) (h8 : 801 ≤ x) (h0 : 0 ≤ i) (hi : i < n) (h1 : M1 = upM M x i v) (h : Ev g d T (pc + 1) il st (sg (mx N M1)) b r σ') : Ev g d T pc il (vI v :: vI i :: vR x :: st) (sg (mx N M)) b r σ' :=
  ev_iast (σ := sg (mx N M)) (K0sg hk) hx h0 hi hd (by rw [h1]; exact sg_setr hx h8) h
theorem ev_bstr {n : Nat} {x i v : Int} {M1 : Mem} (hd : decode T.2.1 pc = .ok (.bastore, 1)) (hk : K0 x = (21, n)) (hx : x ≠ 0) (h8 : 801 ≤ x) (h0 : 0 ≤ i) (hi : i < n) (hv : v = 0 ∨ v = 1) (h1 : M1 = upM M x i v) (h : Ev g d T (pc + 1) il st (sg (mx N M1)) b r σ') : Ev g d T pc il (vI v :: vI i :: vR x :: st) (sg (mx N M)) b r σ' :=
  ev_bast (σ := sg (mx N M)) (K0sg hk) hx h0 hi hv hd (by rw [h1]; exact sg_setr hx h8) h
theorem ev_lstr {n : Nat} {x i v : Int} {M1 : Mem} (hd : decode T.2.1 pc = .ok (.lastore, 1)) (hk : K0 x = (23, n)) (hx : x ≠ 0) (h8 : 801 ≤ x) (h0 : 0 ≤ i) (hi : i < n) (h1 : M1 = upM M x i v) (h : Ev g d T (pc + 1) il st (sg (mx N M1)) b r σ') : Ev g d T pc il (vL v :: vI i :: vR x :: st) (sg (mx N M)) b r σ' :=
  ev_last (σ := sg (mx N M)) (K0sg hk) hx h0 hi hd (by rw [h1]; exact sg_setr hx h8) h
/-- the two references that change: who rules, and the text that is read -/
theorem RfM_ru {M : Mem} {v : Int} : upM (RfM M) 705 1 v = RfM (upM M 0 0 v) := by
  funext y j
  have e0 : upM M 0 0 v 0 0 = v := by unfold upM; rw [if_pos ⟨rfl, rfl⟩]
  have e1 : upM M 0 0 v 0 1 = M 0 1 := by unfold upM; rw [if_neg (by omega)]
  show (if y = 705 ∧ j = 1 then v else (if y = 705 ∧ j = 1 then M 0 0 else if y = 703 ∧ j = 4 then M 0 1 else Rf0 y j)) = (if y = 705 ∧ j = 1 then upM M 0 0 v 0 0 else if y = 703 ∧ j = 4 then upM M 0 0 v 0 1 else Rf0 y j)
  rw [e0, e1]
  by_cases h : y = 705 ∧ j = 1
  · rw [if_pos h, if_pos h]
  · rw [if_neg h, if_neg h, if_neg h]
theorem RfM_tx {M : Mem} {v : Int} : upM (RfM M) 703 4 v = RfM (upM M 0 1 v) := by
  funext y j
  have e0 : upM M 0 1 v 0 0 = M 0 0 := by unfold upM; rw [if_neg (by omega)]
  have e1 : upM M 0 1 v 0 1 = v := by unfold upM; rw [if_pos ⟨rfl, rfl⟩]
  show (if y = 703 ∧ j = 4 then v else (if y = 705 ∧ j = 1 then M 0 0 else if y = 703 ∧ j = 4 then M 0 1 else Rf0 y j)) = (if y = 705 ∧ j = 1 then upM M 0 1 v 0 0 else if y = 703 ∧ j = 4 then upM M 0 1 v 0 1 else Rf0 y j)
  rw [e0, e1]
  by_cases h : y = 703 ∧ j = 4
  · rw [if_pos h, if_neg (by omega), if_pos h]
  · rw [if_neg h]
    by_cases h2 : y = 705 ∧ j = 1
    · rw [if_pos h2, if_pos h2]
    · rw [if_neg h2, if_neg h2, if_neg h, if_neg h]
theorem ev_putRu {idx : Nat} {v : Int} {M1 : Mem} {ty : FieldType} {own : String} (hf : FLk own idx 2 3 1 ty false) (ho : T.1.cls = own) (ht : fTag ty = 2) (hd : decode T.2.1 pc = .ok (.putfield idx, 3)) (hk : K0 705 = (2, 3)) (h1 : M1 = upM M 0 0 v)
    (h : Ev g d T (pc + 3) il st (sg (mx M1 N)) b r σ') : Ev g d T pc il (vR v :: vR 705 :: st) (sg (mx M N)) b r σ' := by
  have e2 : upM (mx M N) 0 0 v = mx (upM M 0 0 v) N := mx_upL (by omega)
  refine ev_put (σ := sg (mx M N)) (σ1 := (822, K0, RfM (upM (mx M N) 0 0 v), mx M N)) (x := 705) (ci := 2) (N := 3) (k := 1) (q := vR v) ho hf (K0sg hk) (by omega) (Or.inr (Or.inr (Or.inr ⟨ht, rfl⟩))) hd (by show setR (sg (mx M N)) 705 1 v = _; unfold setR; rw [← RfM_ru]) ?_
  refine ev_irr (rf := RfM (upM (mx M N) 0 0 v)) (m := upM (mx M N) 0 0 v) (fun x _ => rfl) (fun x hx => upM_ne (by omega)) (by rw [e2, ← h1]; exact h)
theorem ev_putTx {idx : Nat} {v : Int} {M1 : Mem} {ty : FieldType} {own : String} (hf : FLk own idx 4 10 4 ty false) (ho : T.1.cls = own) (ht : fTag ty = 2) (hd : decode T.2.1 pc = .ok (.putfield idx, 3)) (hk : K0 703 = (4, 10)) (h1 : M1 = upM M 0 1 v)
    (h : Ev g d T (pc + 3) il st (sg (mx M1 N)) b r σ') : Ev g d T pc il (vR v :: vR 703 :: st) (sg (mx M N)) b r σ' := by
  have e2 : upM (mx M N) 0 1 v = mx (upM M 0 1 v) N := mx_upL (by omega)
  refine ev_put (σ := sg (mx M N)) (σ1 := (822, K0, RfM (upM (mx M N) 0 1 v), mx M N)) (x := 703) (ci := 4) (N := 10) (k := 4) (q := vR v) ho hf (K0sg hk) (by omega) (Or.inr (Or.inr (Or.inr ⟨ht, rfl⟩))) hd (by show setR (sg (mx M N)) 703 4 v = _; unfold setR; rw [← RfM_tx]) ?_
  refine ev_irr (rf := RfM (upM (mx M N) 0 1 v)) (m := upM (mx M N) 0 1 v) (fun x _ => rfl) (fun x hx => upM_ne (by omega)) (by rw [e2, ← h1]; exact h)
theorem ev_cpy {own : String} {idx n0 n1 : Nat} {x0 sp x1 dp n : Int} {M1 : Mem} (hL : cpyOK own idx) (ho : T.1.cls = own) (hd : decode T.2.1 pc = .ok (.invokestatic idx, 3)) (hst : sCat st ≤ 8) (hdd : 1 ≤ d) (hk0 : K0 x0 = (20, n0)) (hx0 : x0 ≠ 0) (h80 : x0 < 801) (hk1 : K0 x1 = (20, n1)) (hx1 : x1 ≠ 0) (h81 : x1 < 801) (hc : (0 ≤ sp ∧ 0 ≤ dp ∧ 0 ≤ n ∧ sp + n ≤ n0 ∧ dp + n ≤ n1)) (h1 : M1 = cpM M x0 sp x1 dp n)
    (h : Ev g d T (pc + 3) il st (sg (mx M1 N)) b r σ') : Ev g d T pc il (vI n :: vI dp :: vR x1 :: vI sp :: vR x0 :: st) (sg (mx M N)) b r σ' :=
  ev_copy ho hL hst hdd (K0sg hk0) (K0sg hk1) hx0 hx1 hc.1 hc.2.1 hc.2.2.1 hc.2.2.2.1 hc.2.2.2.2 hd (by rw [h1]; exact sg_cpyc hx1 h80 h81) h
/-! calls that make nothing -/
theorem ev_cV {own : String} {idx n ci N' d' : Nat} {U : Mt} {x : Int} (as1 : List Vv) (st : List Vv) {q : Vv} {σ1 : Sg} (ho : T.1.cls = own) (hU : MtOK U n) (hL : MLk own idx U) (hin : MIn U ci N') (hd : decode T.2.1 pc = .ok (.invokevirtual idx, 3)) (hk : K0 x = (ci, N')) (hx : x ≠ 0) (hn : as1.length = n) (hst : sCat st ≤ 8) (hdd : d' + 1 ≤ d) (hq : Nat.beq q.1 9 = false)
    (hM : EvM g d' U (vR x :: as1) (sg M0) (0, 0) q σ1) (h : Ev g d T (pc + 3) il (q :: st) σ1 (0, 0) r σ') : Ev g d T pc il (as1.reverse ++ vR x :: st) (sg M0) (0, 0) r σ' :=
  ev_callV ho hU hL hin.1 hin.2.1 hin.2.2 (K0sg hk) hx hn hst hdd (b1 := (0, 0)) (b2 := (0, 0)) rfl hd hM (by
    unfold retSt
    rw [if_neg (fun e => by rw [e] at hq; cases hq)]
    exact h)
theorem ev_cV0 {own : String} {idx n ci N' d' : Nat} {U : Mt} {x : Int} (as1 : List Vv) (st : List Vv) {σ1 : Sg} (ho : T.1.cls = own) (hU : MtOK U n) (hL : MLk own idx U) (hin : MIn U ci N') (hd : decode T.2.1 pc = .ok (.invokevirtual idx, 3)) (hk : K0 x = (ci, N')) (hx : x ≠ 0) (hn : as1.length = n) (hst : sCat st ≤ 8) (hdd : d' + 1 ≤ d)
    (hM : EvM g d' U (vR x :: as1) (sg M0) (0, 0) vN σ1) (h : Ev g d T (pc + 3) il st σ1 (0, 0) r σ') : Ev g d T pc il (as1.reverse ++ vR x :: st) (sg M0) (0, 0) r σ' :=
  ev_callV ho hU hL hin.1 hin.2.1 hin.2.2 (K0sg hk) hx hn hst hdd (b1 := (0, 0)) (b2 := (0, 0)) rfl hd hM h
theorem ev_cS {own : String} {idx n d' : Nat} {U : Mt} (as1 : List Vv) (st : List Vv) {q : Vv} {σ1 : Sg} (ho : T.1.cls = own) (hU : MtOK U n) (hL : MLk own idx U) (hin : Cond.static U.1 ∈ lw_good) (hd : decode T.2.1 pc = .ok (.invokestatic idx, 3)) (hn : as1.length = n) (hst : sCat st ≤ 8) (hdd : d' + 1 ≤ d) (hq : Nat.beq q.1 9 = false)
    (hM : EvM g d' U as1 σ (0, 0) q σ1) (h : Ev g d T (pc + 3) il (q :: st) σ1 (0, 0) r σ') : Ev g d T pc il (as1.reverse ++ st) σ (0, 0) r σ' :=
  ev_callS ho hU hL hin hn hst hdd (b1 := (0, 0)) (b2 := (0, 0)) rfl hd hM (by
    unfold retSt
    rw [if_neg (fun e => by rw [e] at hq; cases hq)]
    exact h)
theorem ev_cS0 {own : String} {idx n d' : Nat} {U : Mt} (as1 : List Vv) (st : List Vv) {σ1 : Sg} (ho : T.1.cls = own) (hU : MtOK U n) (hL : MLk own idx U) (hin : Cond.static U.1 ∈ lw_good) (hd : decode T.2.1 pc = .ok (.invokestatic idx, 3)) (hn : as1.length = n) (hst : sCat st ≤ 8) (hdd : d' + 1 ≤ d)
    (hM : EvM g d' U as1 σ (0, 0) vN σ1) (h : Ev g d T (pc + 3) il st σ1 (0, 0) r σ') : Ev g d T pc il (as1.reverse ++ st) σ (0, 0) r σ' :=
  ev_callS ho hU hL hin hn hst hdd (b1 := (0, 0)) (b2 := (0, 0)) rfl hd hM h
end EvP
