/-! the memory behind the constructors: what kind and how long each cell is, which references lie in it -/
def t0l_0 : List (Nat × Nat) := [(99, 0), (8, 14), (24, 3), (25, 3), (26, 3), (5, 10), (1, 4), (20, 7), (23, 7), (20, 7), (20, 7), (20, 7), (20, 7), (20, 7), (20, 7), (20, 7), (23, 4), (20, 7), (20, 7), (20, 7), (20, 7), (20, 400), (4, 4), (20, 8), (24, 8), (1, 4), (20, 7), (23, 7), (20, 7), (20, 7), (20, 7), (20, 7), (20, 7), (20, 7), (20, 7), (23, 4), (20, 7), (20, 7), (20, 7), (20, 7), (1, 4), (20, 7), (23, 7), (20, 7), (20, 7), (20, 7), (20, 7), (20, 7), (20, 7), (20, 7), (23, 4), (20, 7), (20, 7), (20, 7), (20, 7), (1, 4), (20, 7), (23, 7), (20, 7), (20, 7), (20, 7), (20, 7), (20, 7), (20, 7)]
def t0l_1 : List (Nat × Nat) := [(20, 7), (23, 4), (20, 7), (20, 7), (20, 7), (20, 7), (1, 4), (20, 7), (23, 7), (20, 7), (20, 7), (20, 7), (20, 7), (20, 7), (20, 7), (20, 7), (23, 4), (20, 7), (20, 7), (20, 7), (20, 7), (1, 4), (20, 7), (23, 7), (20, 7), (20, 7), (20, 7), (20, 7), (20, 7), (20, 7), (20, 7), (23, 4), (20, 7), (20, 7), (20, 7), (20, 7), (1, 4), (20, 7), (23, 7), (20, 7), (20, 7), (20, 7), (20, 7), (20, 7), (20, 7), (20, 7), (23, 4), (20, 7), (20, 7), (20, 7), (20, 7), (1, 4), (20, 7), (23, 7), (20, 7), (20, 7), (20, 7), (20, 7), (20, 7), (20, 7), (20, 7), (23, 4), (20, 7), (20, 7)]
def t0l_2 : List (Nat × Nat) := [(20, 7), (20, 7), (1, 4), (20, 7), (23, 7), (20, 7), (20, 7), (20, 7), (20, 7), (20, 7), (20, 7), (20, 7), (23, 4), (20, 7), (20, 7), (20, 7), (20, 7), (24, 6), (22, 2), (0, 7), (20, 7), (21, 7), (21, 7), (20, 7), (0, 7), (20, 7), (21, 7), (21, 7), (20, 7), (3, 8), (20, 7), (20, 7), (1, 4), (20, 7), (23, 7), (20, 7), (20, 7), (20, 7), (20, 7), (20, 7), (20, 7), (20, 7), (23, 4), (20, 7), (20, 7), (20, 7), (20, 7), (1, 4), (20, 7), (23, 7), (20, 7), (20, 7), (20, 7), (20, 7), (20, 7), (20, 7), (20, 7), (23, 4), (20, 7), (20, 7), (20, 7), (20, 7), (20, 7), (1, 4)]
def t0l_3 : List (Nat × Nat) := [(20, 7), (23, 7), (20, 7), (20, 7), (20, 7), (20, 7), (20, 7), (20, 7), (20, 7), (23, 4), (20, 7), (20, 7), (20, 7), (20, 7), (6, 13), (1, 4), (20, 7), (23, 7), (20, 7), (20, 7), (20, 7), (20, 7), (20, 7), (20, 7), (20, 7), (23, 4), (20, 7), (20, 7), (20, 7), (20, 7), (28, 7), (2, 5), (20, 7), (20, 28), (20, 7), (2, 5), (20, 7), (20, 28), (20, 7), (0, 7), (20, 7), (21, 7), (21, 7), (20, 7), (0, 7), (20, 7), (21, 7), (21, 7), (20, 7), (0, 7), (20, 7), (21, 7), (21, 7), (20, 7), (0, 7), (20, 7), (21, 7), (21, 7), (20, 7), (0, 7), (20, 7), (21, 7), (21, 7), (20, 7)]
def t0l_4 : List (Nat × Nat) := [(0, 7), (20, 7), (21, 7), (21, 7), (20, 7), (0, 7), (20, 7), (21, 7), (21, 7), (20, 7), (20, 5040), (2, 5), (20, 7), (20, 28), (20, 7), (27, 7), (1, 4), (20, 7), (23, 7), (20, 7), (20, 7), (20, 7), (20, 7), (20, 7), (20, 7), (20, 7), (23, 4), (20, 7), (20, 7), (20, 7), (20, 7), (7, 11), (1, 4), (20, 7), (23, 7), (20, 7), (20, 7), (20, 7), (20, 7), (20, 7), (20, 7), (20, 7), (23, 4), (20, 7), (20, 7), (20, 7), (20, 7), (28, 7), (2, 5), (20, 7), (20, 28), (20, 7), (2, 5), (20, 7), (20, 28), (20, 7), (0, 7), (20, 7), (21, 7), (21, 7), (20, 7), (0, 7), (20, 7), (21, 7)]
def t0l_5 : List (Nat × Nat) := [(21, 7), (20, 7), (0, 7), (20, 7), (21, 7), (21, 7), (20, 7), (0, 7), (20, 7), (21, 7), (21, 7), (20, 7), (0, 7), (20, 7), (21, 7), (21, 7), (20, 7), (0, 7), (20, 7), (21, 7), (21, 7), (20, 7), (0, 7), (20, 7), (21, 7), (21, 7), (20, 7), (6, 13), (1, 4), (20, 7), (23, 7), (20, 7), (20, 7), (20, 7), (20, 7), (20, 7), (20, 7), (20, 7), (23, 4), (20, 7), (20, 7), (20, 7), (20, 7), (28, 7), (2, 5), (20, 7), (20, 28), (20, 7), (2, 5), (20, 7), (20, 28), (20, 7), (0, 7), (20, 7), (21, 7), (21, 7), (20, 7), (0, 7), (20, 7), (21, 7), (21, 7), (20, 7), (0, 7), (20, 7)]
def t0l_6 : List (Nat × Nat) := [(21, 7), (21, 7), (20, 7), (0, 7), (20, 7), (21, 7), (21, 7), (20, 7), (0, 7), (20, 7), (21, 7), (21, 7), (20, 7), (0, 7), (20, 7), (21, 7), (21, 7), (20, 7), (0, 7), (20, 7), (21, 7), (21, 7), (20, 7), (20, 5040), (2, 5), (20, 7), (20, 28), (20, 7), (1, 4), (20, 7), (23, 7), (20, 7), (20, 7), (20, 7), (20, 7), (20, 7), (20, 7), (20, 7), (23, 4), (20, 7), (20, 7), (20, 7), (20, 7), (7, 11), (1, 4), (20, 7), (23, 7), (20, 7), (20, 7), (20, 7), (20, 7), (20, 7), (20, 7), (20, 7), (23, 4), (20, 7), (20, 7), (20, 7), (20, 7), (28, 7), (2, 5), (20, 7), (20, 28), (20, 7)]
def t0l_7 : List (Nat × Nat) := [(2, 5), (20, 7), (20, 28), (20, 7), (0, 7), (20, 7), (21, 7), (21, 7), (20, 7), (0, 7), (20, 7), (21, 7), (21, 7), (20, 7), (0, 7), (20, 7), (21, 7), (21, 7), (20, 7), (0, 7), (20, 7), (21, 7), (21, 7), (20, 7), (0, 7), (20, 7), (21, 7), (21, 7), (20, 7), (0, 7), (20, 7), (21, 7), (21, 7), (20, 7), (0, 7), (20, 7), (21, 7), (21, 7), (20, 7), (6, 13), (1, 4), (20, 7), (23, 7), (20, 7), (20, 7), (20, 7), (20, 7), (20, 7), (20, 7), (20, 7), (23, 4), (20, 7), (20, 7), (20, 7), (20, 7), (28, 7), (2, 5), (20, 7), (20, 28), (20, 7), (2, 5), (20, 7), (20, 28), (20, 7)]
def t0l_8 : List (Nat × Nat) := [(0, 7), (20, 7), (21, 7), (21, 7), (20, 7), (0, 7), (20, 7), (21, 7), (21, 7), (20, 7), (0, 7), (20, 7), (21, 7), (21, 7), (20, 7), (0, 7), (20, 7), (21, 7), (21, 7), (20, 7), (0, 7), (20, 7), (21, 7), (21, 7), (20, 7), (0, 7), (20, 7), (21, 7), (21, 7), (20, 7), (0, 7), (20, 7), (21, 7), (21, 7), (20, 7), (20, 5040), (2, 5), (20, 7), (20, 28), (20, 7), (1, 4), (20, 7), (23, 7), (20, 7), (20, 7), (20, 7), (20, 7), (20, 7), (20, 7), (20, 7), (23, 4), (20, 7), (20, 7), (20, 7), (20, 7), (7, 11), (1, 4), (20, 7), (23, 7), (20, 7), (20, 7), (20, 7), (20, 7), (20, 7)]
def t0l_9 : List (Nat × Nat) := [(20, 7), (20, 7), (23, 4), (20, 7), (20, 7), (20, 7), (20, 7), (28, 7), (2, 5), (20, 7), (20, 28), (20, 7), (2, 5), (20, 7), (20, 28), (20, 7), (0, 7), (20, 7), (21, 7), (21, 7), (20, 7), (0, 7), (20, 7), (21, 7), (21, 7), (20, 7), (0, 7), (20, 7), (21, 7), (21, 7), (20, 7), (0, 7), (20, 7), (21, 7), (21, 7), (20, 7), (0, 7), (20, 7), (21, 7), (21, 7), (20, 7), (0, 7), (20, 7), (21, 7), (21, 7), (20, 7), (0, 7), (20, 7), (21, 7), (21, 7), (20, 7), (6, 13), (1, 4), (20, 7), (23, 7), (20, 7), (20, 7), (20, 7), (20, 7), (20, 7), (20, 7), (20, 7), (23, 4), (20, 7)]
def t0l_10 : List (Nat × Nat) := [(20, 7), (20, 7), (20, 7), (28, 7), (2, 5), (20, 7), (20, 28), (20, 7), (2, 5), (20, 7), (20, 28), (20, 7), (0, 7), (20, 7), (21, 7), (21, 7), (20, 7), (0, 7), (20, 7), (21, 7), (21, 7), (20, 7), (0, 7), (20, 7), (21, 7), (21, 7), (20, 7), (0, 7), (20, 7), (21, 7), (21, 7), (20, 7), (0, 7), (20, 7), (21, 7), (21, 7), (20, 7), (0, 7), (20, 7), (21, 7), (21, 7), (20, 7), (0, 7), (20, 7), (21, 7), (21, 7), (20, 7), (20, 5040), (2, 5), (20, 7), (20, 28), (20, 7), (1, 4), (20, 7), (23, 7), (20, 7), (20, 7), (20, 7), (20, 7), (20, 7), (20, 7), (20, 7), (23, 4), (20, 7)]
def t0l_11 : List (Nat × Nat) := [(20, 7), (20, 7), (20, 7), (1, 4), (20, 7), (23, 7), (20, 7), (20, 7), (20, 7), (20, 7), (20, 7), (20, 7), (20, 7), (23, 4), (20, 7), (20, 7), (20, 7), (20, 7), (1, 4), (20, 7), (23, 7), (20, 7), (20, 7), (20, 7), (20, 7), (20, 7), (20, 7), (20, 7), (23, 4), (20, 7), (20, 7), (20, 7), (20, 7), (1, 4), (20, 7), (23, 7), (20, 7), (20, 7), (20, 7), (20, 7), (20, 7), (20, 7), (20, 7), (23, 4), (20, 7), (20, 7), (20, 7), (20, 7), (1, 4), (20, 7), (23, 7), (20, 7), (20, 7), (20, 7), (20, 7), (20, 7), (20, 7), (20, 7), (23, 4), (20, 7), (20, 7), (20, 7), (20, 7), (1, 4)]
def t0l_12 : List (Nat × Nat) := [(20, 7), (23, 7), (20, 7), (20, 7), (20, 7), (20, 7), (20, 7), (20, 7), (20, 7), (23, 4), (20, 7), (20, 7), (20, 7), (20, 7), (2, 5), (20, 7), (20, 28), (20, 7), (2, 5), (20, 7), (20, 28), (20, 7), (2, 5), (20, 7), (20, 28), (20, 7), (2, 5), (20, 7), (20, 28), (20, 7), (2, 5), (20, 7), (20, 28), (20, 7), (2, 5), (20, 7), (20, 28), (20, 7), (2, 5), (20, 7), (20, 28), (20, 7), (9, 2)]
def t0l : List (Nat × Nat) := t0l_0 ++ t0l_1 ++ t0l_2 ++ t0l_3 ++ t0l_4 ++ t0l_5 ++ t0l_6 ++ t0l_7 ++ t0l_8 ++ t0l_9 ++ t0l_10 ++ t0l_11 ++ t0l_12
def r0l_0 : List (List (Option Nat)) := [[], [some 2, some 3, some 4, some 5, some 22, some 145, some 146, some 147, some 152, some 157, some 191, some 206, some 271], [some 272, some 412, some 552], [some 287, some 427, some 567], [some 347, some 487, some 627], [none, none, none, some 6, some 21], [none, some 7, some 8, some 16], [], [some 9, some 10, some 11, some 12, some 13, some 14, some 15], [], [], [], [], [], [], [], [some 17, some 18, some 19, some 20], [], [], [], [], [], [none, none, some 23, some 24], [], [some 25, some 40, some 55, some 70, some 85, some 100, some 115, some 130], [none, some 26, some 27, some 35], [], [some 28, some 29, some 30, some 31, some 32, some 33, some 34], [], [], [], [], [], [], [], [some 36, some 37, some 38, some 39], [], [], [], [], [none, some 41, some 42, some 50], [], [some 43, some 44, some 45, some 46, some 47, some 48, some 49], [], [], [], [], [], [], [], [some 51, some 52, some 53, some 54], [], [], [], [], [none, some 56, some 57, some 65], [], [some 58, some 59, some 60, some 61, some 62, some 63, some 64], [], [], [], [], [], []]
def r0l_1 : List (List (Option Nat)) := [[], [some 66, some 67, some 68, some 69], [], [], [], [], [none, some 71, some 72, some 80], [], [some 73, some 74, some 75, some 76, some 77, some 78, some 79], [], [], [], [], [], [], [], [some 81, some 82, some 83, some 84], [], [], [], [], [none, some 86, some 87, some 95], [], [some 88, some 89, some 90, some 91, some 92, some 93, some 94], [], [], [], [], [], [], [], [some 96, some 97, some 98, some 99], [], [], [], [], [none, some 101, some 102, some 110], [], [some 103, some 104, some 105, some 106, some 107, some 108, some 109], [], [], [], [], [], [], [], [some 111, some 112, some 113, some 114], [], [], [], [], [none, some 116, some 117, some 125], [], [some 118, some 119, some 120, some 121, some 122, some 123, some 124], [], [], [], [], [], [], [], [some 126, some 127, some 128, some 129], [], []]
def r0l_2 : List (List (Option Nat)) := [[], [], [none, some 131, some 132, some 140], [], [some 133, some 134, some 135, some 136, some 137, some 138, some 139], [], [], [], [], [], [], [], [some 141, some 142, some 143, some 144], [], [], [], [], [some 692, some 707, some 722, some 737, some 752, some 767], [], [none, none, some 148, some 149, some 150, some 151], [], [], [], [], [none, none, some 153, some 154, some 155, some 156], [], [], [], [], [none, some 158, some 159, some 160, some 175, some 190], [], [], [none, some 161, some 162, some 170], [], [some 163, some 164, some 165, some 166, some 167, some 168, some 169], [], [], [], [], [], [], [], [some 171, some 172, some 173, some 174], [], [], [], [], [none, some 176, some 177, some 185], [], [some 178, some 179, some 180, some 181, some 182, some 183, some 184], [], [], [], [], [], [], [], [some 186, some 187, some 188, some 189], [], [], [], [], [], [none, some 192, some 193, some 201]]
def r0l_3 : List (List (Option Nat)) := [[], [some 194, some 195, some 196, some 197, some 198, some 199, some 200], [], [], [], [], [], [], [], [some 202, some 203, some 204, some 205], [], [], [], [], [some 207, some 222, some 223, some 227, none, none, none, none, none, none, none, some 266, some 267], [none, some 208, some 209, some 217], [], [some 210, some 211, some 212, some 213, some 214, some 215, some 216], [], [], [], [], [], [], [], [some 218, some 219, some 220, some 221], [], [], [], [], [some 231, some 236, some 241, some 246, some 251, some 256, some 261], [none, none, some 224, some 225, some 226], [], [], [], [none, none, some 228, some 229, some 230], [], [], [], [none, none, some 232, some 233, some 234, some 235], [], [], [], [], [none, none, some 237, some 238, some 239, some 240], [], [], [], [], [none, none, some 242, some 243, some 244, some 245], [], [], [], [], [none, none, some 247, some 248, some 249, some 250], [], [], [], [], [none, none, some 252, some 253, some 254, some 255], [], [], [], []]
def r0l_4 : List (List (Option Nat)) := [[none, none, some 257, some 258, some 259, some 260], [], [], [], [], [none, none, some 262, some 263, some 264, some 265], [], [], [], [], [], [none, none, some 268, some 269, some 270], [], [], [], [some 782, some 786, some 790, some 794, some 798, some 802, some 806], [none, some 273, some 274, some 282], [], [some 275, some 276, some 277, some 278, some 279, some 280, some 281], [], [], [], [], [], [], [], [some 283, some 284, some 285, some 286], [], [], [], [], [some 288, some 303, some 304, some 308], [none, some 289, some 290, some 298], [], [some 291, some 292, some 293, some 294, some 295, some 296, some 297], [], [], [], [], [], [], [], [some 299, some 300, some 301, some 302], [], [], [], [], [some 312, some 317, some 322, some 327, some 332, some 337, some 342], [none, none, some 305, some 306, some 307], [], [], [], [none, none, some 309, some 310, some 311], [], [], [], [none, none, some 313, some 314, some 315, some 316], [], [], [], [], [none, none, some 318, some 319, some 320, some 321], [], []]
def r0l_5 : List (List (Option Nat)) := [[], [], [none, none, some 323, some 324, some 325, some 326], [], [], [], [], [none, none, some 328, some 329, some 330, some 331], [], [], [], [], [none, none, some 333, some 334, some 335, some 336], [], [], [], [], [none, none, some 338, some 339, some 340, some 341], [], [], [], [], [none, none, some 343, some 344, some 345, some 346], [], [], [], [], [some 348, some 363, some 364, some 368, none, none, none, none, none, none, none, some 407, some 408], [none, some 349, some 350, some 358], [], [some 351, some 352, some 353, some 354, some 355, some 356, some 357], [], [], [], [], [], [], [], [some 359, some 360, some 361, some 362], [], [], [], [], [some 372, some 377, some 382, some 387, some 392, some 397, some 402], [none, none, some 365, some 366, some 367], [], [], [], [none, none, some 369, some 370, some 371], [], [], [], [none, none, some 373, some 374, some 375, some 376], [], [], [], [], [none, none, some 378, some 379, some 380, some 381], [], [], [], [], [none, none, some 383, some 384, some 385, some 386], []]
def r0l_6 : List (List (Option Nat)) := [[], [], [], [none, none, some 388, some 389, some 390, some 391], [], [], [], [], [none, none, some 393, some 394, some 395, some 396], [], [], [], [], [none, none, some 398, some 399, some 400, some 401], [], [], [], [], [none, none, some 403, some 404, some 405, some 406], [], [], [], [], [], [none, none, some 409, some 410, some 411], [], [], [], [none, some 413, some 414, some 422], [], [some 415, some 416, some 417, some 418, some 419, some 420, some 421], [], [], [], [], [], [], [], [some 423, some 424, some 425, some 426], [], [], [], [], [some 428, some 443, some 444, some 448], [none, some 429, some 430, some 438], [], [some 431, some 432, some 433, some 434, some 435, some 436, some 437], [], [], [], [], [], [], [], [some 439, some 440, some 441, some 442], [], [], [], [], [some 452, some 457, some 462, some 467, some 472, some 477, some 482], [none, none, some 445, some 446, some 447], [], [], []]
def r0l_7 : List (List (Option Nat)) := [[none, none, some 449, some 450, some 451], [], [], [], [none, none, some 453, some 454, some 455, some 456], [], [], [], [], [none, none, some 458, some 459, some 460, some 461], [], [], [], [], [none, none, some 463, some 464, some 465, some 466], [], [], [], [], [none, none, some 468, some 469, some 470, some 471], [], [], [], [], [none, none, some 473, some 474, some 475, some 476], [], [], [], [], [none, none, some 478, some 479, some 480, some 481], [], [], [], [], [none, none, some 483, some 484, some 485, some 486], [], [], [], [], [some 488, some 503, some 504, some 508, none, none, none, none, none, none, none, some 547, some 548], [none, some 489, some 490, some 498], [], [some 491, some 492, some 493, some 494, some 495, some 496, some 497], [], [], [], [], [], [], [], [some 499, some 500, some 501, some 502], [], [], [], [], [some 512, some 517, some 522, some 527, some 532, some 537, some 542], [none, none, some 505, some 506, some 507], [], [], [], [none, none, some 509, some 510, some 511], [], [], []]
def r0l_8 : List (List (Option Nat)) := [[none, none, some 513, some 514, some 515, some 516], [], [], [], [], [none, none, some 518, some 519, some 520, some 521], [], [], [], [], [none, none, some 523, some 524, some 525, some 526], [], [], [], [], [none, none, some 528, some 529, some 530, some 531], [], [], [], [], [none, none, some 533, some 534, some 535, some 536], [], [], [], [], [none, none, some 538, some 539, some 540, some 541], [], [], [], [], [none, none, some 543, some 544, some 545, some 546], [], [], [], [], [], [none, none, some 549, some 550, some 551], [], [], [], [none, some 553, some 554, some 562], [], [some 555, some 556, some 557, some 558, some 559, some 560, some 561], [], [], [], [], [], [], [], [some 563, some 564, some 565, some 566], [], [], [], [], [some 568, some 583, some 584, some 588], [none, some 569, some 570, some 578], [], [some 571, some 572, some 573, some 574, some 575, some 576, some 577], [], [], [], [], []]
def r0l_9 : List (List (Option Nat)) := [[], [], [some 579, some 580, some 581, some 582], [], [], [], [], [some 592, some 597, some 602, some 607, some 612, some 617, some 622], [none, none, some 585, some 586, some 587], [], [], [], [none, none, some 589, some 590, some 591], [], [], [], [none, none, some 593, some 594, some 595, some 596], [], [], [], [], [none, none, some 598, some 599, some 600, some 601], [], [], [], [], [none, none, some 603, some 604, some 605, some 606], [], [], [], [], [none, none, some 608, some 609, some 610, some 611], [], [], [], [], [none, none, some 613, some 614, some 615, some 616], [], [], [], [], [none, none, some 618, some 619, some 620, some 621], [], [], [], [], [none, none, some 623, some 624, some 625, some 626], [], [], [], [], [some 628, some 643, some 644, some 648, none, none, none, none, none, none, none, some 687, some 688], [none, some 629, some 630, some 638], [], [some 631, some 632, some 633, some 634, some 635, some 636, some 637], [], [], [], [], [], [], [], [some 639, some 640, some 641, some 642], []]
def r0l_10 : List (List (Option Nat)) := [[], [], [], [some 652, some 657, some 662, some 667, some 672, some 677, some 682], [none, none, some 645, some 646, some 647], [], [], [], [none, none, some 649, some 650, some 651], [], [], [], [none, none, some 653, some 654, some 655, some 656], [], [], [], [], [none, none, some 658, some 659, some 660, some 661], [], [], [], [], [none, none, some 663, some 664, some 665, some 666], [], [], [], [], [none, none, some 668, some 669, some 670, some 671], [], [], [], [], [none, none, some 673, some 674, some 675, some 676], [], [], [], [], [none, none, some 678, some 679, some 680, some 681], [], [], [], [], [none, none, some 683, some 684, some 685, some 686], [], [], [], [], [], [none, none, some 689, some 690, some 691], [], [], [], [none, some 693, some 694, some 702], [], [some 695, some 696, some 697, some 698, some 699, some 700, some 701], [], [], [], [], [], [], [], [some 703, some 704, some 705, some 706], []]
def r0l_11 : List (List (Option Nat)) := [[], [], [], [none, some 708, some 709, some 717], [], [some 710, some 711, some 712, some 713, some 714, some 715, some 716], [], [], [], [], [], [], [], [some 718, some 719, some 720, some 721], [], [], [], [], [none, some 723, some 724, some 732], [], [some 725, some 726, some 727, some 728, some 729, some 730, some 731], [], [], [], [], [], [], [], [some 733, some 734, some 735, some 736], [], [], [], [], [none, some 738, some 739, some 747], [], [some 740, some 741, some 742, some 743, some 744, some 745, some 746], [], [], [], [], [], [], [], [some 748, some 749, some 750, some 751], [], [], [], [], [none, some 753, some 754, some 762], [], [some 755, some 756, some 757, some 758, some 759, some 760, some 761], [], [], [], [], [], [], [], [some 763, some 764, some 765, some 766], [], [], [], [], [none, some 768, some 769, some 777]]
def r0l_12 : List (List (Option Nat)) := [[], [some 770, some 771, some 772, some 773, some 774, some 775, some 776], [], [], [], [], [], [], [], [some 778, some 779, some 780, some 781], [], [], [], [], [none, none, some 783, some 784, some 785], [], [], [], [none, none, some 787, some 788, some 789], [], [], [], [none, none, some 791, some 792, some 793], [], [], [], [none, none, some 795, some 796, some 797], [], [], [], [none, none, some 799, some 800, some 801], [], [], [], [none, none, some 803, some 804, some 805], [], [], [], [none, none, some 807, some 808, some 809], [], [], [], [some 0]]
def r0l : List (List (Option Nat)) := r0l_0 ++ r0l_1 ++ r0l_2 ++ r0l_3 ++ r0l_4 ++ r0l_5 ++ r0l_6 ++ r0l_7 ++ r0l_8 ++ r0l_9 ++ r0l_10 ++ r0l_11 ++ r0l_12
def T0 (a : Nat) : Nat × Nat := t0l.getD a (99, 0)
def R0 (a k : Nat) : Option Nat := (r0l.getD a []).getD k none
abbrev zm : Type := (Nat → Nat → Int32) × (Nat → Nat → Int64)
abbrev mk (m : zm) : zH := (811, T0, R0, m.2, m.1)
def wI (m : zm) (a k : Nat) (v : Int32) : zm := (z_u m.1 a k v, m.2)
def wL (m : zm) (a k : Nat) (v : Int64) : zm := (m.1, z_u m.2 a k v)
theorem mk_uI (m : zm) (a k : Nat) (v : Int32) : z_uI (mk m) a k v = mk (wI m a k v) := rfl
theorem mk_uL (m : zm) (a k : Nat) (v : Int64) : z_uL (mk m) a k v = mk (wL m a k v) := rfl
theorem wI_1 (m : zm) (a k b j : Nat) (v : Int32) : (wI m a k v).1 b j = if b = a ∧ j = k then v else m.1 b j := rfl
theorem wI_2 (m : zm) (a k : Nat) (v : Int32) : (wI m a k v).2 = m.2 := rfl
theorem wL_1 (m : zm) (a k : Nat) (v : Int64) : (wL m a k v).1 = m.1 := rfl
theorem wL_2 (m : zm) (a k b j : Nat) (v : Int64) : (wL m a k v).2 b j = if b = a ∧ j = k then v else m.2 b j := rfl
abbrev sA (a t n : Nat) : Prop := 0 < a ∧ a < 811 ∧ T0 a = (t, n)

def sX1 (o : Nat) : Prop := sA o 1 4 ∧ R0 o 1 = some (o + 1) ∧ sA (o + 1) 20 7 ∧ R0 o 2 = some (o + 2) ∧ sA (o + 2) 23 7 ∧ (∀ k, k < 7 → R0 (o + 2) k = some (o + 3 + k) ∧ sA (o + 3 + k) 20 7) ∧ R0 o 3 = some (o + 10) ∧ sA (o + 10) 23 4 ∧ (∀ k, k < 4 → R0 (o + 10) k = some (o + 11 + k) ∧ sA (o + 11 + k) 20 7)
theorem sX1_a {o : Nat} (h : sX1 o) : sA o 1 4 := h.1
theorem sX1_r1 {o : Nat} (h : sX1 o) : R0 o 1 = some (o + 1) := h.2.1
theorem sX1_s1 {o : Nat} (h : sX1 o) : sA (o + 1) 20 7 := h.2.2.1
theorem sX1_r2 {o : Nat} (h : sX1 o) : R0 o 2 = some (o + 2) := h.2.2.2.1
theorem sX1_s2 {o : Nat} (h : sX1 o) : sA (o + 2) 23 7 := h.2.2.2.2.1
theorem sX1_e2 {o : Nat} (h : sX1 o) : ∀ k, k < 7 → R0 (o + 2) k = some (o + 3 + k) ∧ sA (o + 3 + k) 20 7 := h.2.2.2.2.2.1
theorem sX1_r3 {o : Nat} (h : sX1 o) : R0 o 3 = some (o + 10) := h.2.2.2.2.2.2.1
theorem sX1_s3 {o : Nat} (h : sX1 o) : sA (o + 10) 23 4 := h.2.2.2.2.2.2.2.1
theorem sX1_e3 {o : Nat} (h : sX1 o) : ∀ k, k < 4 → R0 (o + 10) k = some (o + 11 + k) ∧ sA (o + 11 + k) 20 7 := h.2.2.2.2.2.2.2.2
def sX0 (o : Nat) : Prop := sA o 0 7 ∧ R0 o 2 = some (o + 1) ∧ sA (o + 1) 20 7 ∧ R0 o 3 = some (o + 2) ∧ sA (o + 2) 21 7 ∧ R0 o 4 = some (o + 3) ∧ sA (o + 3) 21 7 ∧ R0 o 5 = some (o + 4) ∧ sA (o + 4) 20 7
theorem sX0_a {o : Nat} (h : sX0 o) : sA o 0 7 := h.1
theorem sX0_r2 {o : Nat} (h : sX0 o) : R0 o 2 = some (o + 1) := h.2.1
theorem sX0_s2 {o : Nat} (h : sX0 o) : sA (o + 1) 20 7 := h.2.2.1
theorem sX0_r3 {o : Nat} (h : sX0 o) : R0 o 3 = some (o + 2) := h.2.2.2.1
theorem sX0_s3 {o : Nat} (h : sX0 o) : sA (o + 2) 21 7 := h.2.2.2.2.1
theorem sX0_r4 {o : Nat} (h : sX0 o) : R0 o 4 = some (o + 3) := h.2.2.2.2.2.1
theorem sX0_s4 {o : Nat} (h : sX0 o) : sA (o + 3) 21 7 := h.2.2.2.2.2.2.1
theorem sX0_r5 {o : Nat} (h : sX0 o) : R0 o 5 = some (o + 4) := h.2.2.2.2.2.2.2.1
theorem sX0_s5 {o : Nat} (h : sX0 o) : sA (o + 4) 20 7 := h.2.2.2.2.2.2.2.2
def sX2 (o : Nat) : Prop := sA o 2 5 ∧ R0 o 2 = some (o + 1) ∧ sA (o + 1) 20 7 ∧ R0 o 3 = some (o + 2) ∧ sA (o + 2) 20 28 ∧ R0 o 4 = some (o + 3) ∧ sA (o + 3) 20 7
theorem sX2_a {o : Nat} (h : sX2 o) : sA o 2 5 := h.1
theorem sX2_r2 {o : Nat} (h : sX2 o) : R0 o 2 = some (o + 1) := h.2.1
theorem sX2_s2 {o : Nat} (h : sX2 o) : sA (o + 1) 20 7 := h.2.2.1
theorem sX2_r3 {o : Nat} (h : sX2 o) : R0 o 3 = some (o + 2) := h.2.2.2.1
theorem sX2_s3 {o : Nat} (h : sX2 o) : sA (o + 2) 20 28 := h.2.2.2.2.1
theorem sX2_r4 {o : Nat} (h : sX2 o) : R0 o 4 = some (o + 3) := h.2.2.2.2.2.1
theorem sX2_s4 {o : Nat} (h : sX2 o) : sA (o + 3) 20 7 := h.2.2.2.2.2.2
def sX6 (o : Nat) : Prop := sA o 6 13 ∧ R0 o 0 = some (o + 1) ∧ sX1 (o + 1) ∧ R0 o 1 = some (o + 16) ∧ sA (o + 16) 28 7 ∧ (∀ k, k < 7 → R0 (o + 16) k = some (o + 25 + 5 * k) ∧ sX0 (o + 25 + 5 * k)) ∧ R0 o 2 = some (o + 17) ∧ sX2 (o + 17) ∧ R0 o 3 = some (o + 21) ∧ sX2 (o + 21) ∧ R0 o 11 = some (o + 60) ∧ sA (o + 60) 20 5040 ∧ R0 o 12 = some (o + 61) ∧ sX2 (o + 61)
theorem sX6_a {o : Nat} (h : sX6 o) : sA o 6 13 := h.1
theorem sX6_r0 {o : Nat} (h : sX6 o) : R0 o 0 = some (o + 1) := h.2.1
theorem sX6_s0 {o : Nat} (h : sX6 o) : sX1 (o + 1) := h.2.2.1
theorem sX6_r1 {o : Nat} (h : sX6 o) : R0 o 1 = some (o + 16) := h.2.2.2.1
theorem sX6_s1 {o : Nat} (h : sX6 o) : sA (o + 16) 28 7 := h.2.2.2.2.1
theorem sX6_e1 {o : Nat} (h : sX6 o) : ∀ k, k < 7 → R0 (o + 16) k = some (o + 25 + 5 * k) ∧ sX0 (o + 25 + 5 * k) := h.2.2.2.2.2.1
theorem sX6_r2 {o : Nat} (h : sX6 o) : R0 o 2 = some (o + 17) := h.2.2.2.2.2.2.1
theorem sX6_s2 {o : Nat} (h : sX6 o) : sX2 (o + 17) := h.2.2.2.2.2.2.2.1
theorem sX6_r3 {o : Nat} (h : sX6 o) : R0 o 3 = some (o + 21) := h.2.2.2.2.2.2.2.2.1
theorem sX6_s3 {o : Nat} (h : sX6 o) : sX2 (o + 21) := h.2.2.2.2.2.2.2.2.2.1
theorem sX6_r11 {o : Nat} (h : sX6 o) : R0 o 11 = some (o + 60) := h.2.2.2.2.2.2.2.2.2.2.1
theorem sX6_s11 {o : Nat} (h : sX6 o) : sA (o + 60) 20 5040 := h.2.2.2.2.2.2.2.2.2.2.2.1
theorem sX6_r12 {o : Nat} (h : sX6 o) : R0 o 12 = some (o + 61) := h.2.2.2.2.2.2.2.2.2.2.2.2.1
theorem sX6_s12 {o : Nat} (h : sX6 o) : sX2 (o + 61) := h.2.2.2.2.2.2.2.2.2.2.2.2.2
def sX7 (o : Nat) : Prop := sA o 7 11 ∧ R0 o 0 = some (o + 1) ∧ sX1 (o + 1) ∧ R0 o 1 = some (o + 16) ∧ sA (o + 16) 28 7 ∧ (∀ k, k < 7 → R0 (o + 16) k = some (o + 25 + 5 * k) ∧ sX0 (o + 25 + 5 * k)) ∧ R0 o 2 = some (o + 17) ∧ sX2 (o + 17) ∧ R0 o 3 = some (o + 21) ∧ sX2 (o + 21)
theorem sX7_a {o : Nat} (h : sX7 o) : sA o 7 11 := h.1
theorem sX7_r0 {o : Nat} (h : sX7 o) : R0 o 0 = some (o + 1) := h.2.1
theorem sX7_s0 {o : Nat} (h : sX7 o) : sX1 (o + 1) := h.2.2.1
theorem sX7_r1 {o : Nat} (h : sX7 o) : R0 o 1 = some (o + 16) := h.2.2.2.1
theorem sX7_s1 {o : Nat} (h : sX7 o) : sA (o + 16) 28 7 := h.2.2.2.2.1
theorem sX7_e1 {o : Nat} (h : sX7 o) : ∀ k, k < 7 → R0 (o + 16) k = some (o + 25 + 5 * k) ∧ sX0 (o + 25 + 5 * k) := h.2.2.2.2.2.1
theorem sX7_r2 {o : Nat} (h : sX7 o) : R0 o 2 = some (o + 17) := h.2.2.2.2.2.2.1
theorem sX7_s2 {o : Nat} (h : sX7 o) : sX2 (o + 17) := h.2.2.2.2.2.2.2.1
theorem sX7_r3 {o : Nat} (h : sX7 o) : R0 o 3 = some (o + 21) := h.2.2.2.2.2.2.2.2.1
theorem sX7_s3 {o : Nat} (h : sX7 o) : sX2 (o + 21) := h.2.2.2.2.2.2.2.2.2
def l_X1 : List Nat := [6, 25, 40, 55, 70, 85, 100, 115, 130, 160, 175, 191, 207, 272, 288, 348, 412, 428, 488, 552, 568, 628, 692, 707, 722, 737, 752, 767]
theorem l_X1_ok : ∀ o ∈ l_X1, sX1 o := by unfold sX1; decide +kernel
def l_X0 : List Nat := [147, 152, 231, 236, 241, 246, 251, 256, 261, 312, 317, 322, 327, 332, 337, 342, 372, 377, 382, 387, 392, 397, 402, 452, 457, 462, 467, 472, 477, 482, 512, 517, 522, 527, 532, 537, 542, 592, 597, 602, 607, 612, 617, 622, 652, 657, 662, 667, 672, 677, 682]
theorem l_X0_ok : ∀ o ∈ l_X0, sX0 o := by unfold sX0; decide +kernel
def l_X2 : List Nat := [223, 227, 267, 304, 308, 364, 368, 408, 444, 448, 504, 508, 548, 584, 588, 644, 648, 688, 782, 786, 790, 794, 798, 802, 806]
theorem l_X2_ok : ∀ o ∈ l_X2, sX2 o := by unfold sX2; decide +kernel
def l_X6 : List Nat := [206, 347, 487, 627]
theorem i_X6_206 : sX6 206 := ⟨by decide +kernel, by decide +kernel, l_X1_ok _ (by decide), by decide +kernel, by decide +kernel, fun k hk => ⟨(by decide +kernel : ∀ k, k < 7 → R0 (222) k = some (231 + 5 * k)) k hk, l_X0_ok _ ((by decide +kernel : ∀ k, k < 7 → (231 + 5 * k) ∈ l_X0) k hk)⟩, by decide +kernel, l_X2_ok _ (by decide), by decide +kernel, l_X2_ok _ (by decide), by decide +kernel, by decide +kernel, by decide +kernel, l_X2_ok _ (by decide)⟩
theorem i_X6_347 : sX6 347 := ⟨by decide +kernel, by decide +kernel, l_X1_ok _ (by decide), by decide +kernel, by decide +kernel, fun k hk => ⟨(by decide +kernel : ∀ k, k < 7 → R0 (363) k = some (372 + 5 * k)) k hk, l_X0_ok _ ((by decide +kernel : ∀ k, k < 7 → (372 + 5 * k) ∈ l_X0) k hk)⟩, by decide +kernel, l_X2_ok _ (by decide), by decide +kernel, l_X2_ok _ (by decide), by decide +kernel, by decide +kernel, by decide +kernel, l_X2_ok _ (by decide)⟩
theorem i_X6_487 : sX6 487 := ⟨by decide +kernel, by decide +kernel, l_X1_ok _ (by decide), by decide +kernel, by decide +kernel, fun k hk => ⟨(by decide +kernel : ∀ k, k < 7 → R0 (503) k = some (512 + 5 * k)) k hk, l_X0_ok _ ((by decide +kernel : ∀ k, k < 7 → (512 + 5 * k) ∈ l_X0) k hk)⟩, by decide +kernel, l_X2_ok _ (by decide), by decide +kernel, l_X2_ok _ (by decide), by decide +kernel, by decide +kernel, by decide +kernel, l_X2_ok _ (by decide)⟩
theorem i_X6_627 : sX6 627 := ⟨by decide +kernel, by decide +kernel, l_X1_ok _ (by decide), by decide +kernel, by decide +kernel, fun k hk => ⟨(by decide +kernel : ∀ k, k < 7 → R0 (643) k = some (652 + 5 * k)) k hk, l_X0_ok _ ((by decide +kernel : ∀ k, k < 7 → (652 + 5 * k) ∈ l_X0) k hk)⟩, by decide +kernel, l_X2_ok _ (by decide), by decide +kernel, l_X2_ok _ (by decide), by decide +kernel, by decide +kernel, by decide +kernel, l_X2_ok _ (by decide)⟩
theorem l_X6_ok : ∀ o ∈ l_X6, sX6 o := by
  intro o ho
  unfold l_X6 at ho
  simp only [List.mem_cons, List.not_mem_nil, or_false] at ho
  rcases ho with rfl | rfl | rfl | rfl
  · exact i_X6_206
  · exact i_X6_347
  · exact i_X6_487
  · exact i_X6_627
def l_X7 : List Nat := [287, 427, 567]
theorem i_X7_287 : sX7 287 := ⟨by decide +kernel, by decide +kernel, l_X1_ok _ (by decide), by decide +kernel, by decide +kernel, fun k hk => ⟨(by decide +kernel : ∀ k, k < 7 → R0 (303) k = some (312 + 5 * k)) k hk, l_X0_ok _ ((by decide +kernel : ∀ k, k < 7 → (312 + 5 * k) ∈ l_X0) k hk)⟩, by decide +kernel, l_X2_ok _ (by decide), by decide +kernel, l_X2_ok _ (by decide)⟩
theorem i_X7_427 : sX7 427 := ⟨by decide +kernel, by decide +kernel, l_X1_ok _ (by decide), by decide +kernel, by decide +kernel, fun k hk => ⟨(by decide +kernel : ∀ k, k < 7 → R0 (443) k = some (452 + 5 * k)) k hk, l_X0_ok _ ((by decide +kernel : ∀ k, k < 7 → (452 + 5 * k) ∈ l_X0) k hk)⟩, by decide +kernel, l_X2_ok _ (by decide), by decide +kernel, l_X2_ok _ (by decide)⟩
theorem i_X7_567 : sX7 567 := ⟨by decide +kernel, by decide +kernel, l_X1_ok _ (by decide), by decide +kernel, by decide +kernel, fun k hk => ⟨(by decide +kernel : ∀ k, k < 7 → R0 (583) k = some (592 + 5 * k)) k hk, l_X0_ok _ ((by decide +kernel : ∀ k, k < 7 → (592 + 5 * k) ∈ l_X0) k hk)⟩, by decide +kernel, l_X2_ok _ (by decide), by decide +kernel, l_X2_ok _ (by decide)⟩
theorem l_X7_ok : ∀ o ∈ l_X7, sX7 o := by
  intro o ho
  unfold l_X7 at ho
  simp only [List.mem_cons, List.not_mem_nil, or_false] at ho
  rcases ho with rfl | rfl | rfl
  · exact i_X7_287
  · exact i_X7_427
  · exact i_X7_567
theorem a_1 : sA 1 8 14 := by decide +kernel
theorem r_1_0 : R0 1 0 = some 2 := by decide +kernel
theorem a_2 : sA 2 24 3 := by decide +kernel
theorem e_2 : ∀ k, k < 3 → R0 2 k = some (272 + 140 * k) ∧ sX1 (272 + 140 * k) := fun k hk => ⟨(by decide +kernel : ∀ k, k < 3 → R0 2 k = some (272 + 140 * k)) k hk, l_X1_ok _ ((by decide +kernel : ∀ k, k < 3 → (272 + 140 * k) ∈ l_X1) k hk)⟩
theorem r_1_1 : R0 1 1 = some 3 := by decide +kernel
theorem a_3 : sA 3 25 3 := by decide +kernel
theorem e_3 : ∀ k, k < 3 → R0 3 k = some (287 + 140 * k) ∧ sX7 (287 + 140 * k) := fun k hk => ⟨(by decide +kernel : ∀ k, k < 3 → R0 3 k = some (287 + 140 * k)) k hk, l_X7_ok _ ((by decide +kernel : ∀ k, k < 3 → (287 + 140 * k) ∈ l_X7) k hk)⟩
theorem r_1_2 : R0 1 2 = some 4 := by decide +kernel
theorem a_4 : sA 4 26 3 := by decide +kernel
theorem e_4 : ∀ k, k < 3 → R0 4 k = some (347 + 140 * k) ∧ sX6 (347 + 140 * k) := fun k hk => ⟨(by decide +kernel : ∀ k, k < 3 → R0 4 k = some (347 + 140 * k)) k hk, l_X6_ok _ ((by decide +kernel : ∀ k, k < 3 → (347 + 140 * k) ∈ l_X6) k hk)⟩
theorem r_1_3 : R0 1 3 = some 5 := by decide +kernel
theorem r_1_4 : R0 1 4 = some 22 := by decide +kernel
theorem r_1_5 : R0 1 5 = some 145 := by decide +kernel
theorem a_145 : sA 145 24 6 := by decide +kernel
theorem e_145 : ∀ k, k < 6 → R0 145 k = some (692 + 15 * k) ∧ sX1 (692 + 15 * k) := fun k hk => ⟨(by decide +kernel : ∀ k, k < 6 → R0 145 k = some (692 + 15 * k)) k hk, l_X1_ok _ ((by decide +kernel : ∀ k, k < 6 → (692 + 15 * k) ∈ l_X1) k hk)⟩
theorem r_1_6 : R0 1 6 = some 146 := by decide +kernel
theorem a_146 : sA 146 22 2 := by decide +kernel
theorem r_1_7 : R0 1 7 = some 147 := by decide +kernel
theorem a_147 : sX0 147 := l_X0_ok _ (by decide)
theorem r_1_8 : R0 1 8 = some 152 := by decide +kernel
theorem a_152 : sX0 152 := l_X0_ok _ (by decide)
theorem r_1_9 : R0 1 9 = some 157 := by decide +kernel
theorem r_1_10 : R0 1 10 = some 191 := by decide +kernel
theorem a_191 : sX1 191 := l_X1_ok _ (by decide)
theorem r_1_11 : R0 1 11 = some 206 := by decide +kernel
theorem a_206 : sX6 206 := l_X6_ok _ (by decide)
theorem r_1_12 : R0 1 12 = some 271 := by decide +kernel
theorem a_271 : sA 271 27 7 := by decide +kernel
theorem e_271 : ∀ k, k < 7 → R0 271 k = some (782 + 4 * k) ∧ sX2 (782 + 4 * k) := fun k hk => ⟨(by decide +kernel : ∀ k, k < 7 → R0 271 k = some (782 + 4 * k)) k hk, l_X2_ok _ ((by decide +kernel : ∀ k, k < 7 → (782 + 4 * k) ∈ l_X2) k hk)⟩
theorem a_810 : sA 810 9 2 := by decide +kernel
theorem r_810_0 : R0 810 0 = some 0 := by decide +kernel
theorem a_5 : sA 5 5 10 := by decide +kernel
theorem r_5_3 : R0 5 3 = some 6 := by decide +kernel
theorem a_6 : sX1 6 := l_X1_ok _ (by decide)
theorem r_5_4 : R0 5 4 = some 21 := by decide +kernel
theorem a_21 : sA 21 20 400 := by decide +kernel
theorem a_22 : sA 22 4 4 := by decide +kernel
theorem r_22_2 : R0 22 2 = some 23 := by decide +kernel
theorem a_23 : sA 23 20 8 := by decide +kernel
theorem r_22_3 : R0 22 3 = some 24 := by decide +kernel
theorem a_24 : sA 24 24 8 := by decide +kernel
theorem e_24 : ∀ k, k < 8 → R0 24 k = some (25 + 15 * k) ∧ sX1 (25 + 15 * k) := fun k hk => ⟨(by decide +kernel : ∀ k, k < 8 → R0 24 k = some (25 + 15 * k)) k hk, l_X1_ok _ ((by decide +kernel : ∀ k, k < 8 → (25 + 15 * k) ∈ l_X1) k hk)⟩
theorem a_157 : sA 157 3 8 := by decide +kernel
theorem r_157_1 : R0 157 1 = some 158 := by decide +kernel
theorem a_158 : sA 158 20 7 := by decide +kernel
theorem r_157_2 : R0 157 2 = some 159 := by decide +kernel
theorem a_159 : sA 159 20 7 := by decide +kernel
theorem r_157_3 : R0 157 3 = some 160 := by decide +kernel
theorem a_160 : sX1 160 := l_X1_ok _ (by decide)
theorem r_157_4 : R0 157 4 = some 175 := by decide +kernel
theorem a_175 : sX1 175 := l_X1_ok _ (by decide)
theorem r_157_5 : R0 157 5 = some 190 := by decide +kernel
theorem a_190 : sA 190 20 7 := by decide +kernel
