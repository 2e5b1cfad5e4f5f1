/-! Sperner for ten constraints: 252 chains hold all 1024 sets -/
def chn : List (List Nat) := [[0, 1, 3, 7, 15, 31, 63, 127, 255, 511, 1023],
  [2, 6, 14, 30, 62, 126, 254, 510, 1022],
  [4, 5, 13, 29, 61, 125, 253, 509, 1021],
  [8, 9, 11, 27, 59, 123, 251, 507, 1019],
  [10, 26, 58, 122, 250, 506, 1018],
  [12, 28, 60, 124, 252, 508, 1020],
  [16, 17, 19, 23, 55, 119, 247, 503, 1015],
  [18, 22, 54, 118, 246, 502, 1014],
  [20, 21, 53, 117, 245, 501, 1013],
  [24, 25, 57, 121, 249, 505, 1017],
  [32, 33, 35, 39, 47, 111, 239, 495, 1007],
  [34, 38, 46, 110, 238, 494, 1006],
  [36, 37, 45, 109, 237, 493, 1005],
  [40, 41, 43, 107, 235, 491, 1003],
  [42, 106, 234, 490, 1002],
  [44, 108, 236, 492, 1004],
  [48, 49, 51, 115, 243, 499, 1011],
  [50, 114, 242, 498, 1010],
  [52, 116, 244, 500, 1012],
  [56, 120, 248, 504, 1016],
  [64, 65, 67, 71, 79, 95, 223, 479, 991],
  [66, 70, 78, 94, 222, 478, 990],
  [68, 69, 77, 93, 221, 477, 989],
  [72, 73, 75, 91, 219, 475, 987],
  [74, 90, 218, 474, 986],
  [76, 92, 220, 476, 988],
  [80, 81, 83, 87, 215, 471, 983],
  [82, 86, 214, 470, 982],
  [84, 85, 213, 469, 981],
  [88, 89, 217, 473, 985],
  [96, 97, 99, 103, 231, 487, 999],
  [98, 102, 230, 486, 998],
  [100, 101, 229, 485, 997],
  [104, 105, 233, 489, 1001],
  [112, 113, 241, 497, 1009],
  [128, 129, 131, 135, 143, 159, 191, 447, 959],
  [130, 134, 142, 158, 190, 446, 958],
  [132, 133, 141, 157, 189, 445, 957],
  [136, 137, 139, 155, 187, 443, 955],
  [138, 154, 186, 442, 954],
  [140, 156, 188, 444, 956],
  [144, 145, 147, 151, 183, 439, 951],
  [146, 150, 182, 438, 950],
  [148, 149, 181, 437, 949],
  [152, 153, 185, 441, 953],
  [160, 161, 163, 167, 175, 431, 943],
  [162, 166, 174, 430, 942],
  [164, 165, 173, 429, 941],
  [168, 169, 171, 427, 939],
  [170, 426, 938],
  [172, 428, 940],
  [176, 177, 179, 435, 947],
  [178, 434, 946],
  [180, 436, 948],
  [184, 440, 952],
  [192, 193, 195, 199, 207, 463, 975],
  [194, 198, 206, 462, 974],
  [196, 197, 205, 461, 973],
  [200, 201, 203, 459, 971],
  [202, 458, 970],
  [204, 460, 972],
  [208, 209, 211, 467, 979],
  [210, 466, 978],
  [212, 468, 980],
  [216, 472, 984],
  [224, 225, 227, 483, 995],
  [226, 482, 994],
  [228, 484, 996],
  [232, 488, 1000],
  [240, 496, 1008],
  [256, 257, 259, 263, 271, 287, 319, 383, 895],
  [258, 262, 270, 286, 318, 382, 894],
  [260, 261, 269, 285, 317, 381, 893],
  [264, 265, 267, 283, 315, 379, 891],
  [266, 282, 314, 378, 890],
  [268, 284, 316, 380, 892],
  [272, 273, 275, 279, 311, 375, 887],
  [274, 278, 310, 374, 886],
  [276, 277, 309, 373, 885],
  [280, 281, 313, 377, 889],
  [288, 289, 291, 295, 303, 367, 879],
  [290, 294, 302, 366, 878],
  [292, 293, 301, 365, 877],
  [296, 297, 299, 363, 875],
  [298, 362, 874],
  [300, 364, 876],
  [304, 305, 307, 371, 883],
  [306, 370, 882],
  [308, 372, 884],
  [312, 376, 888],
  [320, 321, 323, 327, 335, 351, 863],
  [322, 326, 334, 350, 862],
  [324, 325, 333, 349, 861],
  [328, 329, 331, 347, 859],
  [330, 346, 858],
  [332, 348, 860],
  [336, 337, 339, 343, 855],
  [338, 342, 854],
  [340, 341, 853],
  [344, 345, 857],
  [352, 353, 355, 359, 871],
  [354, 358, 870],
  [356, 357, 869],
  [360, 361, 873],
  [368, 369, 881],
  [384, 385, 387, 391, 399, 415, 927],
  [386, 390, 398, 414, 926],
  [388, 389, 397, 413, 925],
  [392, 393, 395, 411, 923],
  [394, 410, 922],
  [396, 412, 924],
  [400, 401, 403, 407, 919],
  [402, 406, 918],
  [404, 405, 917],
  [408, 409, 921],
  [416, 417, 419, 423, 935],
  [418, 422, 934],
  [420, 421, 933],
  [424, 425, 937],
  [432, 433, 945],
  [448, 449, 451, 455, 967],
  [450, 454, 966],
  [452, 453, 965],
  [456, 457, 969],
  [464, 465, 977],
  [480, 481, 993],
  [512, 513, 515, 519, 527, 543, 575, 639, 767],
  [514, 518, 526, 542, 574, 638, 766],
  [516, 517, 525, 541, 573, 637, 765],
  [520, 521, 523, 539, 571, 635, 763],
  [522, 538, 570, 634, 762],
  [524, 540, 572, 636, 764],
  [528, 529, 531, 535, 567, 631, 759],
  [530, 534, 566, 630, 758],
  [532, 533, 565, 629, 757],
  [536, 537, 569, 633, 761],
  [544, 545, 547, 551, 559, 623, 751],
  [546, 550, 558, 622, 750],
  [548, 549, 557, 621, 749],
  [552, 553, 555, 619, 747],
  [554, 618, 746],
  [556, 620, 748],
  [560, 561, 563, 627, 755],
  [562, 626, 754],
  [564, 628, 756],
  [568, 632, 760],
  [576, 577, 579, 583, 591, 607, 735],
  [578, 582, 590, 606, 734],
  [580, 581, 589, 605, 733],
  [584, 585, 587, 603, 731],
  [586, 602, 730],
  [588, 604, 732],
  [592, 593, 595, 599, 727],
  [594, 598, 726],
  [596, 597, 725],
  [600, 601, 729],
  [608, 609, 611, 615, 743],
  [610, 614, 742],
  [612, 613, 741],
  [616, 617, 745],
  [624, 625, 753],
  [640, 641, 643, 647, 655, 671, 703],
  [642, 646, 654, 670, 702],
  [644, 645, 653, 669, 701],
  [648, 649, 651, 667, 699],
  [650, 666, 698],
  [652, 668, 700],
  [656, 657, 659, 663, 695],
  [658, 662, 694],
  [660, 661, 693],
  [664, 665, 697],
  [672, 673, 675, 679, 687],
  [674, 678, 686],
  [676, 677, 685],
  [680, 681, 683],
  [682],
  [684],
  [688, 689, 691],
  [690],
  [692],
  [696],
  [704, 705, 707, 711, 719],
  [706, 710, 718],
  [708, 709, 717],
  [712, 713, 715],
  [714],
  [716],
  [720, 721, 723],
  [722],
  [724],
  [728],
  [736, 737, 739],
  [738],
  [740],
  [744],
  [752],
  [768, 769, 771, 775, 783, 799, 831],
  [770, 774, 782, 798, 830],
  [772, 773, 781, 797, 829],
  [776, 777, 779, 795, 827],
  [778, 794, 826],
  [780, 796, 828],
  [784, 785, 787, 791, 823],
  [786, 790, 822],
  [788, 789, 821],
  [792, 793, 825],
  [800, 801, 803, 807, 815],
  [802, 806, 814],
  [804, 805, 813],
  [808, 809, 811],
  [810],
  [812],
  [816, 817, 819],
  [818],
  [820],
  [824],
  [832, 833, 835, 839, 847],
  [834, 838, 846],
  [836, 837, 845],
  [840, 841, 843],
  [842],
  [844],
  [848, 849, 851],
  [850],
  [852],
  [856],
  [864, 865, 867],
  [866],
  [868],
  [872],
  [880],
  [896, 897, 899, 903, 911],
  [898, 902, 910],
  [900, 901, 909],
  [904, 905, 907],
  [906],
  [908],
  [912, 913, 915],
  [914],
  [916],
  [920],
  [928, 929, 931],
  [930],
  [932],
  [936],
  [944],
  [960, 961, 963],
  [962],
  [964],
  [968],
  [976],
  [992]]
def chOk : List Nat → Bool
  | [] => true
  | x :: l => (match l with | [] => true | y :: _ => x &&& y == x) && chOk l
theorem chn_ok : chn.all chOk = true := by decide +kernel
theorem chn_len : chn.length = 252 := by decide +kernel
theorem fold_bit : ∀ (l : List Nat) (m b : Nat), (l.foldl (fun m a => m ||| 2 ^ a) m).testBit b = true → m.testBit b = true ∨ b ∈ l
  | [], m, b, h => Or.inl h
  | x :: l, m, b, h => by
    rcases fold_bit l (m ||| 2 ^ x) b h with h1 | h1
    · rw [Nat.testBit_or, Bool.or_eq_true] at h1
      rcases h1 with h1 | h1
      · exact Or.inl h1
      · right
        rw [Nat.testBit_two_pow] at h1
        have : x = b := by simpa using h1
        rw [this]
        exact List.mem_cons_self
    · exact Or.inr (List.mem_cons_of_mem _ h1)
set_option maxRecDepth 100000 in
theorem chn_fold : chn.flatten.foldl (fun m a => m ||| 2 ^ a) 0 = 2 ^ 1024 - 1 := by decide +kernel
theorem chn_all (a : Nat) (ha : a < 1024) : ∃ c ∈ chn, a ∈ c := by
  have h : (chn.flatten.foldl (fun m a => m ||| 2 ^ a) 0).testBit a = true := by
    rw [chn_fold, Nat.testBit_two_pow_sub_one]
    exact decide_eq_true ha
  rcases fold_bit _ _ _ h with h1 | h1
  · simp at h1
  · exact List.mem_flatten.mp h1
theorem and_tr {a b c : Nat} (h1 : a &&& b = a) (h2 : b &&& c = b) : a &&& c = a := by
  rw [← h1, Nat.and_assoc, h2]
theorem chOk_head : ∀ (l : List Nat) (x : Nat), chOk (x :: l) = true → ∀ y ∈ l, x &&& y = x
  | [], x, _, y, hy => by cases hy
  | z :: l, x, h, y, hy => by
    have h1 : (x &&& z == x) = true ∧ chOk (z :: l) = true := by
      unfold chOk at h
      simpa using h
    have hx : x &&& z = x := eq_of_beq h1.1
    rcases List.mem_cons.mp hy with e | hy
    · rw [e]; exact hx
    · exact and_tr hx (chOk_head l z h1.2 y hy)
theorem chOk_tail {x : Nat} {l : List Nat} (h : chOk (x :: l) = true) : chOk l = true := by
  unfold chOk at h
  simp only [Bool.and_eq_true] at h
  exact h.2
theorem chOk_two : ∀ (l : List Nat), chOk l = true → ∀ a ∈ l, ∀ b ∈ l, a &&& b = a ∨ b &&& a = b
  | [], _, a, ha, _, _ => by cases ha
  | x :: l, h, a, ha, b, hb => by
    rcases List.mem_cons.mp ha with ea | ha
    · rcases List.mem_cons.mp hb with eb | hb
      · left; rw [ea, eb]; exact Nat.and_self x
      · left; rw [ea]; exact chOk_head l x h b hb
    · rcases List.mem_cons.mp hb with eb | hb
      · right; rw [eb]; exact chOk_head l x h a ha
      · exact chOk_two l (chOk_tail h) a ha b hb
theorem php : ∀ (N n : Nat) (g : Nat → Nat), (∀ i, i < n → g i < N) → (∀ i j, i < n → j < n → g i = g j → i = j) → n ≤ N
  | 0, n, g, h, _ => by
    rcases Nat.eq_zero_or_pos n with e | e
    · omega
    · have := h 0 e; omega
  | N + 1, n, g, h, hi => by
    rcases Nat.eq_zero_or_pos n with e | e
    · omega
    · obtain ⟨m, rfl⟩ : ∃ m, n = m + 1 := ⟨n - 1, by omega⟩
      have := php N m (fun i => if g i = N then g m else g i) (by
        intro i hi1
        have h1 := h i (by omega)
        have h2 := h m (by omega)
        show (if g i = N then g m else g i) < N
        split
        · rename_i h3
          have : g m ≠ N := fun h4 => by have := hi i m (by omega) (by omega) (by omega); omega
          omega
        · omega) (by
        intro i j hi1 hj1 he
        have he : (if g i = N then g m else g i) = (if g j = N then g m else g j) := he
        by_cases h1 : g i = N
        · by_cases h2 : g j = N
          · exact hi i j (by omega) (by omega) (by omega)
          · rw [if_pos h1, if_neg h2] at he
            have := hi m j (by omega) (by omega) he
            omega
        · by_cases h2 : g j = N
          · rw [if_neg h1, if_pos h2] at he
            have := hi i m (by omega) (by omega) he
            omega
          · rw [if_neg h1, if_neg h2] at he
            exact hi i j (by omega) (by omega) he)
      omega
theorem sperner {f : Nat → Nat} {n : Nat} (h1 : ∀ i, i < n → f i < 1024) (h2 : ∀ i j, i < n → j < n → i ≠ j → ¬ (f i &&& f j = f i)) : n ≤ 252 := by
  have hk : ∀ a, a < 1024 → ∃ k, k < 252 ∧ ∃ c, chn[k]? = some c ∧ a ∈ c := by
    intro a ha
    obtain ⟨c, hc, hm⟩ := chn_all a ha
    obtain ⟨k, hk⟩ := List.getElem?_of_mem hc
    refine ⟨k, ?_, c, hk, ?_⟩
    · have := (List.getElem?_eq_some_iff.mp hk).1
      rw [chn_len] at this
      exact this
    · exact hm
  have hg : ∀ a, ∃ k, a < 1024 → k < 252 ∧ ∃ c, chn[k]? = some c ∧ a ∈ c := by
    intro a
    by_cases ha : a < 1024
    · obtain ⟨k, h⟩ := hk a ha
      exact ⟨k, fun _ => h⟩
    · exact ⟨0, fun h => absurd h ha⟩
  obtain ⟨g, hg⟩ := Classical.axiomOfChoice hg
  refine php 252 n (fun i => g (f i)) (fun i hi => (hg (f i) (h1 i hi)).1) ?_
  intro i j hi hj he
  have he : g (f i) = g (f j) := he
  by_cases e : i = j
  · exact e
  · obtain ⟨-, c, hc, hm⟩ := hg (f i) (h1 i hi)
    obtain ⟨-, c2, hc2, hm2⟩ := hg (f j) (h1 j hj)
    rw [he, hc2] at hc
    cases hc
    have hok := List.all_eq_true.mp chn_ok c (List.mem_of_getElem? hc2)
    rcases chOk_two c hok _ hm _ hm2 with h | h
    · exact absurd h (h2 i j hi hj e)
    · exact absurd h (h2 j i hj hi (Ne.symm e))
