/-! THE LAW'S BEGINNING: both constructors -/
def pu_hd (n s : Nat) (h : pm_H) : pm_H := ((n, s, h.1.2.2), h.2)
def pu_nw (h : pm_H) (r : Nat) (q : Nat × Nat × Nat) (w : Nat) : pm_H := ((h.1.1 + 1, h.1.2.1 + w, pm_up h.1.2.2 r q), pm_up h.2.1 r (fun _ => 0), pm_up h.2.2.1 r (fun _ => 0), pm_up h.2.2.2 r (fun _ => none))
def pu_cp (h : pm_H) (n r : Nat) : pm_H := ((h.1.1 + 1, h.1.2.1 + (pm_kd h r).2.2, pm_up h.1.2.2 n (pm_kd h r)), pm_up h.2.1 n (h.2.1 r), pm_up h.2.2.1 n (fun _ => 0), pm_up h.2.2.2 n (fun _ => none))
def pu_s0 (L : Nat) (xs : Nat → Int32) : pm_H := pe_h0 L xs
def pu_s1 (L : Nat) (xs : Nat → Int32) : pm_H := pu_hd 49 20 (pu_nw (pu_s0 L xs) 48 (1, 0, 0) 20)
def pu_s2 (L : Nat) (xs : Nat → Int32) : pm_H := pu_hd 50 25 (pu_nw (pu_s1 L xs) 49 (1, 1, 0) 5)
def pu_s3 (L : Nat) (xs : Nat → Int32) : pm_H := pu_hd 51 325 (pm_setI (pm_setI (pm_setI (pm_setI (pm_setR (pu_nw (pu_s2 L xs) 50 (2, 0, 300) 300) 49 0 (some 50)) 49 1 0) 49 2 0) 49 3 0) 49 4 (-1))
def pu_s4 (L : Nat) (xs : Nat → Int32) : pm_H := pu_hd 52 329 (pu_nw (pm_setR (pu_s3 L xs) 48 0 (some 49)) 51 (1, 2, 0) 4)
def pu_s5 (L : Nat) (xs : Nat → Int32) : pm_H := pu_hd 55 352 (pu_nw (pm_setR (pu_nw (pm_setR (pu_cp (pu_s4 L xs) 52 1) 51 0 (some 52)) 53 (2, 1, 8) 8) 51 1 (some 53)) 54 (1, 3, 0) 6)
def pu_s6 (L : Nat) (xs : Nat → Int32) : pm_H := pu_hd 59 416 (pu_nw (pm_setR (pu_nw (pm_setI (pm_setR (pu_nw (pm_setR (pu_nw (pu_s5 L xs) 55 (2, 0, 16) 16) 54 0 (some 55)) 56 (2, 0, 16) 16) 54 1 (some 56)) 54 2 0) 57 (2, 0, 16) 16) 54 3 (some 57)) 58 (2, 1, 16) 16)
def pu_s7 (L : Nat) (xs : Nat → Int32) : pm_H := pu_hd 59 416 (pm_setI (pm_setR (pu_s6 L xs) 54 4 (some 58)) 54 5 0)
def pu_s8 (L : Nat) (xs : Nat → Int32) : pm_H := pu_hd 60 422 (pu_nw (pm_setR (pu_s7 L xs) 51 2 (some 54)) 59 (1, 3, 0) 6)
def pu_s9 (L : Nat) (xs : Nat → Int32) : pm_H := pu_hd 64 486 (pu_nw (pm_setR (pu_nw (pm_setI (pm_setR (pu_nw (pm_setR (pu_nw (pu_s8 L xs) 60 (2, 0, 16) 16) 59 0 (some 60)) 61 (2, 0, 16) 16) 59 1 (some 61)) 59 2 0) 62 (2, 0, 16) 16) 59 3 (some 62)) 63 (2, 1, 16) 16)
def pu_s10 (L : Nat) (xs : Nat → Int32) : pm_H := pu_hd 64 486 (pm_setI (pm_setR (pu_s9 L xs) 59 4 (some 63)) 59 5 0)
def pu_s11 (L : Nat) (xs : Nat → Int32) : pm_H := pu_hd 64 486 (pm_setR (pu_s10 L xs) 51 3 (some 59))
def pu_s12 (L : Nat) (xs : Nat → Int32) : pm_H := pu_hd 65 490 (pu_nw (pm_setR (pu_s11 L xs) 48 1 (some 51)) 64 (1, 2, 0) 4)
def pu_s13 (L : Nat) (xs : Nat → Int32) : pm_H := pu_hd 68 513 (pu_nw (pm_setR (pu_nw (pm_setR (pu_cp (pu_s12 L xs) 65 1) 64 0 (some 65)) 66 (2, 1, 8) 8) 64 1 (some 66)) 67 (1, 3, 0) 6)
def pu_s14 (L : Nat) (xs : Nat → Int32) : pm_H := pu_hd 72 577 (pu_nw (pm_setR (pu_nw (pm_setI (pm_setR (pu_nw (pm_setR (pu_nw (pu_s13 L xs) 68 (2, 0, 16) 16) 67 0 (some 68)) 69 (2, 0, 16) 16) 67 1 (some 69)) 67 2 0) 70 (2, 0, 16) 16) 67 3 (some 70)) 71 (2, 1, 16) 16)
def pu_s15 (L : Nat) (xs : Nat → Int32) : pm_H := pu_hd 72 577 (pm_setI (pm_setR (pu_s14 L xs) 67 4 (some 71)) 67 5 0)
def pu_s16 (L : Nat) (xs : Nat → Int32) : pm_H := pu_hd 73 583 (pu_nw (pm_setR (pu_s15 L xs) 64 2 (some 67)) 72 (1, 3, 0) 6)
def pu_s17 (L : Nat) (xs : Nat → Int32) : pm_H := pu_hd 77 647 (pu_nw (pm_setR (pu_nw (pm_setI (pm_setR (pu_nw (pm_setR (pu_nw (pu_s16 L xs) 73 (2, 0, 16) 16) 72 0 (some 73)) 74 (2, 0, 16) 16) 72 1 (some 74)) 72 2 0) 75 (2, 0, 16) 16) 72 3 (some 75)) 76 (2, 1, 16) 16)
def pu_s18 (L : Nat) (xs : Nat → Int32) : pm_H := pu_hd 77 647 (pm_setI (pm_setR (pu_s17 L xs) 72 4 (some 76)) 72 5 0)
def pu_s19 (L : Nat) (xs : Nat → Int32) : pm_H := pu_hd 77 647 (pm_setR (pu_s18 L xs) 64 3 (some 72))
def pu_s20 (L : Nat) (xs : Nat → Int32) : pm_H := pu_hd 78 652 (pu_nw (pm_setR (pu_s19 L xs) 48 2 (some 64)) 77 (1, 4, 0) 5)
def pu_s21 (L : Nat) (xs : Nat → Int32) : pm_H := pu_hd 82 700 (pm_setR (pu_nw (pm_setR (pu_nw (pm_setR (pu_nw (pm_setR (pu_nw (pu_s20 L xs) 78 (2, 0, 12) 12) 77 0 (some 78)) 79 (2, 0, 12) 12) 77 1 (some 79)) 80 (2, 0, 12) 12) 77 2 (some 80)) 81 (2, 1, 12) 12) 77 3 (some 81))
def pu_s22 (L : Nat) (xs : Nat → Int32) : pm_H := pu_hd 82 700 (pm_setI (pu_s21 L xs) 77 4 0)
def pu_s23 (L : Nat) (xs : Nat → Int32) : pm_H := pu_hd 83 705 (pu_nw (pm_setR (pu_s22 L xs) 48 3 (some 77)) 82 (1, 4, 0) 5)
def pu_s24 (L : Nat) (xs : Nat → Int32) : pm_H := pu_hd 87 753 (pm_setR (pu_nw (pm_setR (pu_nw (pm_setR (pu_nw (pm_setR (pu_nw (pu_s23 L xs) 83 (2, 0, 12) 12) 82 0 (some 83)) 84 (2, 0, 12) 12) 82 1 (some 84)) 85 (2, 0, 12) 12) 82 2 (some 85)) 86 (2, 1, 12) 12) 82 3 (some 86))
def pu_s25 (L : Nat) (xs : Nat → Int32) : pm_H := pu_hd 87 753 (pm_setI (pu_s24 L xs) 82 4 0)
def pu_s26 (L : Nat) (xs : Nat → Int32) : pm_H := pu_hd 89 771 (pu_nw (pm_setI (pm_setR (pu_nw (pm_setR (pu_s25 L xs) 48 4 (some 82)) 87 (2, 15, 4) 4) 48 5 (some 87)) 48 6 0) 88 (1, 5, 0) 14)
def pu_s27 (L : Nat) (xs : Nat → Int32) : pm_H := pu_hd 91 787 (pm_setL (pm_setL (pm_setL (pm_setL (pm_setR (pu_nw (pm_setR (pu_nw (pu_s26 L xs) 89 (2, 2, 8) 8) 88 0 (some 89)) 90 (2, 2, 8) 8) 88 1 (some 90)) 88 2 0) 88 3 0) 88 4 0) 88 5 0)
def pu_s28 (L : Nat) (xs : Nat → Int32) : pm_H := pu_hd 92 789 (pm_setI (pm_setI (pm_setR (pm_setI (pm_setI (pu_nw (pm_setI (pm_setL (pu_s27 L xs) 88 6 0) 88 7 0) 91 (2, 0, 2) 2) 91 0 8) 91 1 8) 88 8 (some 91)) 88 9 0) 88 10 0)
def pu_s29 (L : Nat) (xs : Nat → Int32) : pm_H := pu_hd 92 789 (pm_setL (pm_setI (pm_setI (pu_s28 L xs) 88 11 0) 88 12 0) 88 13 0)
def pu_s30 (L : Nat) (xs : Nat → Int32) : pm_H := pu_hd 95 802 (pu_nw (pm_setR (pu_nw (pm_setR (pu_nw (pm_setR (pu_s29 L xs) 48 7 (some 88)) 92 (2, 9, 2) 2) 48 8 (some 92)) 93 (2, 1, 2) 2) 48 9 (some 93)) 94 (1, 6, 0) 9)
def pu_s31 (L : Nat) (xs : Nat → Int32) : pm_H := pu_hd 96 816 (pu_nw (pu_s30 L xs) 95 (1, 5, 0) 14)
def pu_s32 (L : Nat) (xs : Nat → Int32) : pm_H := pu_hd 98 832 (pm_setL (pm_setL (pm_setL (pm_setL (pm_setR (pu_nw (pm_setR (pu_nw (pu_s31 L xs) 96 (2, 2, 8) 8) 95 0 (some 96)) 97 (2, 2, 8) 8) 95 1 (some 97)) 95 2 0) 95 3 0) 95 4 0) 95 5 0)
def pu_s33 (L : Nat) (xs : Nat → Int32) : pm_H := pu_hd 99 834 (pm_setI (pm_setI (pm_setR (pm_setI (pm_setI (pu_nw (pm_setI (pm_setL (pu_s32 L xs) 95 6 0) 95 7 0) 98 (2, 0, 2) 2) 98 0 8) 98 1 8) 95 8 (some 98)) 95 9 0) 95 10 0)
def pu_s34 (L : Nat) (xs : Nat → Int32) : pm_H := pu_hd 99 834 (pm_setL (pm_setI (pm_setI (pu_s33 L xs) 95 11 0) 95 12 0) 95 13 0)
def pu_s35 (L : Nat) (xs : Nat → Int32) : pm_H := pu_hd 99 834 (pm_setI (pm_setI (pm_setI (pm_setI (pm_setI (pm_setI (pm_setI (pm_setR (pu_s34 L xs) 94 0 (some 95)) 94 1 (-1)) 94 2 (-1)) 94 3 (-1)) 94 4 (-1)) 94 5 0) 94 6 0) 94 7 0)
def pu_s36 (L : Nat) (xs : Nat → Int32) : pm_H := pu_hd 99 834 (pm_setI (pu_s35 L xs) 94 8 0)
def pu_s37 (L : Nat) (xs : Nat → Int32) : pm_H := pu_hd 101 843 (pu_nw (pm_setR (pu_nw (pm_setR (pu_s36 L xs) 48 10 (some 94)) 99 (2, 0, 4) 4) 48 11 (some 99)) 100 (1, 7, 0) 5)
def pu_s38 (L : Nat) (xs : Nat → Int32) : pm_H := pu_hd 104 939 (pm_setI (pm_setI (pm_setR (pu_nw (pm_setR (pu_nw (pm_setR (pu_nw (pu_s37 L xs) 101 (2, 0, 32) 32) 100 0 (some 101)) 102 (2, 0, 32) 32) 100 1 (some 102)) 103 (2, 0, 32) 32) 100 2 (some 103)) 100 3 0) 100 4 0)
def pu_s39 (L : Nat) (xs : Nat → Int32) : pm_H := pu_hd 105 944 (pu_nw (pm_setR (pu_s38 L xs) 48 12 (some 100)) 104 (1, 7, 0) 5)
def pu_s40 (L : Nat) (xs : Nat → Int32) : pm_H := pu_hd 108 1040 (pm_setI (pm_setI (pm_setR (pu_nw (pm_setR (pu_nw (pm_setR (pu_nw (pu_s39 L xs) 105 (2, 0, 32) 32) 104 0 (some 105)) 106 (2, 0, 32) 32) 104 1 (some 106)) 107 (2, 0, 32) 32) 104 2 (some 107)) 104 3 0) 104 4 0)
def pu_s41 (L : Nat) (xs : Nat → Int32) : pm_H := pu_hd 109 1046 (pu_nw (pm_setR (pu_s40 L xs) 48 13 (some 104)) 108 (1, 8, 0) 6)
def pu_s42 (L : Nat) (xs : Nat → Int32) : pm_H := pu_hd 113 1078 (pm_setR (pu_nw (pm_setR (pu_nw (pm_setR (pu_nw (pm_setR (pu_nw (pu_s41 L xs) 109 (2, 0, 8) 8) 108 0 (some 109)) 110 (2, 0, 8) 8) 108 1 (some 110)) 111 (2, 0, 8) 8) 108 2 (some 111)) 112 (2, 0, 8) 8) 108 3 (some 112))
def pu_s43 (L : Nat) (xs : Nat → Int32) : pm_H := pu_hd 113 1078 (pm_setI (pm_setI (pu_s42 L xs) 108 4 0) 108 5 0)
def pu_s44 (L : Nat) (xs : Nat → Int32) : pm_H := pu_hd 114 1088 (pu_nw (pm_setR (pu_s43 L xs) 48 14 (some 108)) 113 (1, 9, 0) 10)
def pu_s45 (L : Nat) (xs : Nat → Int32) : pm_H := pu_hd 117 1102 (pm_setR (pu_nw (pm_setI (pm_setI (pm_setR (pu_nw (pm_setR (pu_nw (pu_s44 L xs) 114 (2, 0, 3) 3) 113 0 (some 114)) 115 (2, 0, 3) 3) 113 1 (some 115)) 113 2 0) 113 3 0) 116 (2, 0, 8) 8) 113 4 (some 116))
def pu_s46 (L : Nat) (xs : Nat → Int32) : pm_H := pu_hd 121 1382 (pm_setR (pu_nw (pm_setR (pu_nw (pm_setR (pu_nw (pm_setR (pu_nw (pu_s45 L xs) 117 (2, 0, 8) 8) 113 5 (some 117)) 118 (2, 0, 8) 8) 113 6 (some 118)) 119 (2, 0, 256) 256) 113 7 (some 119)) 120 (2, 0, 8) 8) 113 8 (some 120))
def pu_s47 (L : Nat) (xs : Nat → Int32) : pm_H := pu_hd 121 1382 (pm_setI (pu_s46 L xs) 113 9 0)
def pu_s48 (L : Nat) (xs : Nat → Int32) : pm_H := pu_hd 122 1391 (pu_nw (pm_setR (pu_s47 L xs) 48 15 (some 113)) 121 (1, 10, 0) 9)
def pu_s49 (L : Nat) (xs : Nat → Int32) : pm_H := pu_hd 125 1415 (pm_setR (pu_nw (pm_setI (pm_setI (pm_setR (pu_nw (pm_setR (pu_nw (pu_s48 L xs) 122 (2, 0, 8) 8) 121 0 (some 122)) 123 (2, 0, 8) 8) 121 1 (some 123)) 121 2 0) 121 3 0) 124 (2, 0, 8) 8) 121 4 (some 124))
def pu_s50 (L : Nat) (xs : Nat → Int32) : pm_H := pu_hd 127 1679 (pm_setI (pm_setI (pm_setR (pu_nw (pm_setR (pu_nw (pu_s49 L xs) 125 (2, 0, 256) 256) 121 5 (some 125)) 126 (2, 0, 8) 8) 121 6 (some 126)) 121 7 0) 121 8 0)
def pu_s51 (L : Nat) (xs : Nat → Int32) : pm_H := pu_hd 130 1733 (pu_nw (pm_setI (pm_setR (pu_nw (pm_setR (pu_nw (pm_setR (pu_s50 L xs) 48 16 (some 121)) 127 (2, 0, 24) 24) 48 17 (some 127)) 128 (2, 1, 24) 24) 48 18 (some 128)) 48 19 0) 129 (1, 11, 0) 6)
def pu_s52 (L : Nat) (xs : Nat → Int32) : pm_H := pu_hd 130 1733 (pm_setI (pm_setI (pm_setL (pm_setI (pm_setI (pm_setI (pu_s51 L xs) 129 0 1) 129 1 0) 129 2 0) 129 3 1152921504606846976) 129 4 0) 129 5 0)
def pu_s53 (L : Nat) (xs : Nat → Int32) : pm_H := pu_hd 131 1739 (pu_nw (pm_setR (pu_s52 L xs) 87 0 (some 129)) 130 (1, 11, 0) 6)
def pu_s54 (L : Nat) (xs : Nat → Int32) : pm_H := pu_hd 131 1739 (pm_setI (pm_setI (pm_setL (pm_setI (pm_setI (pm_setI (pu_s53 L xs) 130 0 1) 130 1 0) 130 2 0) 130 3 1152921504606846976) 130 4 0) 130 5 0)
def pu_s55 (L : Nat) (xs : Nat → Int32) : pm_H := pu_hd 132 1745 (pu_nw (pm_setR (pu_s54 L xs) 87 1 (some 130)) 131 (1, 11, 0) 6)
def pu_s56 (L : Nat) (xs : Nat → Int32) : pm_H := pu_hd 132 1745 (pm_setI (pm_setI (pm_setL (pm_setI (pm_setI (pm_setI (pu_s55 L xs) 131 0 1) 131 1 0) 131 2 0) 131 3 1152921504606846976) 131 4 0) 131 5 0)
def pu_s57 (L : Nat) (xs : Nat → Int32) : pm_H := pu_hd 133 1751 (pu_nw (pm_setR (pu_s56 L xs) 87 2 (some 131)) 132 (1, 11, 0) 6)
def pu_s58 (L : Nat) (xs : Nat → Int32) : pm_H := pu_hd 133 1751 (pm_setI (pm_setI (pm_setL (pm_setI (pm_setI (pm_setI (pu_s57 L xs) 132 0 1) 132 1 0) 132 2 0) 132 3 1152921504606846976) 132 4 0) 132 5 0)
def pu_s59 (L : Nat) (xs : Nat → Int32) : pm_H := pu_hd 134 1765 (pu_nw (pm_setR (pu_s58 L xs) 87 3 (some 132)) 133 (1, 5, 0) 14)
def pu_s60 (L : Nat) (xs : Nat → Int32) : pm_H := pu_hd 136 1781 (pm_setL (pm_setL (pm_setL (pm_setL (pm_setR (pu_nw (pm_setR (pu_nw (pu_s59 L xs) 134 (2, 2, 8) 8) 133 0 (some 134)) 135 (2, 2, 8) 8) 133 1 (some 135)) 133 2 0) 133 3 0) 133 4 0) 133 5 0)
def pu_s61 (L : Nat) (xs : Nat → Int32) : pm_H := pu_hd 137 1783 (pm_setI (pm_setI (pm_setR (pm_setI (pm_setI (pu_nw (pm_setI (pm_setL (pu_s60 L xs) 133 6 0) 133 7 0) 136 (2, 0, 2) 2) 136 0 8) 136 1 8) 133 8 (some 136)) 133 9 0) 133 10 0)
def pu_s62 (L : Nat) (xs : Nat → Int32) : pm_H := pu_hd 137 1783 (pm_setL (pm_setI (pm_setI (pu_s61 L xs) 133 11 0) 133 12 0) 133 13 0)
def pu_s63 (L : Nat) (xs : Nat → Int32) : pm_H := pu_hd 138 1797 (pu_nw (pm_setR (pu_s62 L xs) 92 0 (some 133)) 137 (1, 5, 0) 14)
def pu_s64 (L : Nat) (xs : Nat → Int32) : pm_H := pu_hd 140 1813 (pm_setL (pm_setL (pm_setL (pm_setL (pm_setR (pu_nw (pm_setR (pu_nw (pu_s63 L xs) 138 (2, 2, 8) 8) 137 0 (some 138)) 139 (2, 2, 8) 8) 137 1 (some 139)) 137 2 0) 137 3 0) 137 4 0) 137 5 0)
def pu_s65 (L : Nat) (xs : Nat → Int32) : pm_H := pu_hd 141 1815 (pm_setI (pm_setI (pm_setR (pm_setI (pm_setI (pu_nw (pm_setI (pm_setL (pu_s64 L xs) 137 6 0) 137 7 0) 140 (2, 0, 2) 2) 140 0 8) 140 1 8) 137 8 (some 140)) 137 9 0) 137 10 0)
def pu_s66 (L : Nat) (xs : Nat → Int32) : pm_H := pu_hd 141 1815 (pm_setL (pm_setI (pm_setI (pu_s65 L xs) 137 11 0) 137 12 0) 137 13 0)
def pu_s67 (L : Nat) (xs : Nat → Int32) : pm_H := pu_hd 141 1815 (pm_setI (pm_setI (pm_setI (pm_setI (pm_setR (pu_s66 L xs) 92 1 (some 137)) 99 0 (-1)) 99 1 (-1)) 99 2 (-1)) 99 3 (-1))
def pu_s68 (L : Nat) (xs : Nat → Int32) : pm_H := pu_hd 142 1869 (pu_nw (pu_s67 L xs) 141 (1, 12, 0) 54)
def pu_s69 (L : Nat) (xs : Nat → Int32) : pm_H := pu_hd 146 2017 (pm_setR (pu_nw (pm_setR (pu_nw (pm_setR (pu_nw (pm_setR (pu_nw (pu_s68 L xs) 142 (2, 2, 128) 128) 141 0 (some 142)) 143 (2, 1, 2) 2) 141 1 (some 143)) 144 (2, 0, 9) 9) 141 2 (some 144)) 145 (2, 0, 9) 9) 141 3 (some 145))
def pu_s70 (L : Nat) (xs : Nat → Int32) : pm_H := pu_hd 150 2449 (pm_setR (pu_nw (pm_setR (pu_nw (pm_setR (pu_nw (pm_setR (pu_nw (pu_s69 L xs) 146 (2, 0, 64) 64) 141 4 (some 146)) 147 (2, 0, 64) 64) 141 5 (some 147)) 148 (2, 0, 4) 4) 141 6 (some 148)) 149 (2, 0, 300) 300) 141 7 (some 149))
def pu_s71 (L : Nat) (xs : Nat → Int32) : pm_H := pu_hd 154 2589 (pu_nw (pm_setR (pu_nw (pm_setR (pu_nw (pm_setR (pu_nw (pm_setI (pu_s70 L xs) 141 13 (-1)) 150 (2, 0, 96) 96) 141 15 (some 150)) 151 (2, 0, 24) 24) 141 17 (some 151)) 152 (2, 2, 16) 16) 141 19 (some 152)) 153 (2, 0, 4) 4)
def pu_s72 (L : Nat) (xs : Nat → Int32) : pm_H := pu_hd 158 2717 (pu_nw (pm_setR (pu_nw (pm_setR (pu_nw (pm_setR (pu_nw (pm_setR (pu_s71 L xs) 141 20 (some 153)) 154 (2, 2, 32) 32) 141 21 (some 154)) 155 (2, 2, 32) 32) 141 22 (some 155)) 156 (2, 1, 32) 32) 141 23 (some 156)) 157 (2, 0, 32) 32)
def pu_s73 (L : Nat) (xs : Nat → Int32) : pm_H := pu_hd 162 2821 (pu_nw (pm_setR (pu_nw (pm_setR (pu_nw (pm_setR (pu_nw (pm_setR (pu_s72 L xs) 141 24 (some 157)) 158 (2, 2, 32) 32) 141 25 (some 158)) 159 (2, 0, 32) 32) 141 28 (some 159)) 160 (2, 2, 32) 32) 141 29 (some 160)) 161 (2, 0, 8) 8)
def pu_s74 (L : Nat) (xs : Nat → Int32) : pm_H := pu_hd 166 2853 (pu_nw (pm_setR (pu_nw (pm_setR (pu_nw (pm_setR (pu_nw (pm_setR (pu_s73 L xs) 141 30 (some 161)) 162 (2, 0, 8) 8) 141 31 (some 162)) 163 (2, 0, 8) 8) 141 32 (some 163)) 164 (2, 0, 8) 8) 141 34 (some 164)) 165 (2, 0, 8) 8)
def pu_s75 (L : Nat) (xs : Nat → Int32) : pm_H := pu_hd 170 3384 (pu_nw (pm_setR (pu_nw (pm_setR (pu_nw (pm_setR (pu_nw (pm_setR (pu_s74 L xs) 141 35 (some 165)) 166 (2, 0, 256) 256) 141 36 (some 166)) 167 (2, 0, 3) 3) 141 39 (some 167)) 168 (2, 0, 16) 16) 141 40 (some 168)) 169 (2, 0, 256) 256)
def pu_s76 (L : Nat) (xs : Nat → Int32) : pm_H := pu_hd 174 3664 (pu_nw (pm_setR (pu_nw (pm_setR (pu_nw (pm_setR (pu_nw (pm_setR (pu_s75 L xs) 141 42 (some 169)) 170 (2, 0, 8) 8) 141 43 (some 170)) 171 (2, 0, 8) 8) 141 45 (some 171)) 172 (2, 0, 8) 8) 141 47 (some 172)) 173 (2, 1, 256) 256)
def pu_s77 (L : Nat) (xs : Nat → Int32) : pm_H := pu_hd 178 3993 (pu_nw (pm_setR (pu_nw (pm_setR (pu_nw (pm_setR (pu_nw (pm_setR (pu_s76 L xs) 141 48 (some 173)) 174 (2, 1, 256) 256) 141 49 (some 174)) 175 (2, 0, 24) 24) 141 50 (some 175)) 176 (2, 1, 24) 24) 141 51 (some 176)) 177 (2, 0, 25) 25)
def pu_s78 (L : Nat) (xs : Nat → Int32) : pm_H := pu_hd 178 3993 (pm_setL (pm_setL (pm_setR (pu_s77 L xs) 141 53 (some 177)) 142 26 8) 142 27 8)
def pu_s79 (L : Nat) (xs : Nat → Int32) : pm_H := pu_hd 178 3993 (pm_setI (pu_s78 L xs) 144 0 2)
def pu_s80 (L : Nat) (xs : Nat → Int32) : pm_H := pu_hd 178 3993 (pm_setI (pu_s79 L xs) 144 1 20)
def pu_s81 (L : Nat) (xs : Nat → Int32) : pm_H := pu_hd 178 3993 (pm_setI (pu_s80 L xs) 144 2 40)
def pu_s82 (L : Nat) (xs : Nat → Int32) : pm_H := pu_hd 178 3993 (pm_setI (pu_s81 L xs) 144 3 30)
def pu_s83 (L : Nat) (xs : Nat → Int32) : pm_H := pu_hd 178 3993 (pm_setI (pu_s82 L xs) 144 4 10)
def pu_s84 (L : Nat) (xs : Nat → Int32) : pm_H := pu_hd 178 3993 (pm_setI (pu_s83 L xs) 144 5 300)
def pu_s85 (L : Nat) (xs : Nat → Int32) : pm_H := pu_hd 178 3993 (pm_setI (pu_s84 L xs) 144 6 60)
def pu_s86 (L : Nat) (xs : Nat → Int32) : pm_H := pu_hd 178 3993 (pm_setI (pu_s85 L xs) 144 7 150)
def pu_s87 (L : Nat) (xs : Nat → Int32) : pm_H := pu_hd 178 3993 (pm_setI (pm_setI (pm_setI (pm_setI (pm_setI (pu_s86 L xs) 144 8 0) 153 0 (-1)) 153 1 (-1)) 153 2 (-1)) 153 3 (-1))
set_option maxRecDepth 100000 in
set_option maxHeartbeats 40000000 in
theorem pu_start0 {d : Nat} {L : Nat} {xs : Nat → Int32} {Q : Option Value → pm_H → Prop} (K : pg (d + 3) 0 10 [.ref 0, .ref 48, .ref 141, .int 0] [] (pu_s87 L xs) Q) : pg (d + 3) 0 0 [.ref 0, .null, .null, .null] [] (pe_h0 L xs) Q := by
  show pg (d + 3) 0 0 [.ref 0, .null, .null, .null] [] (pu_s0 L xs) _
  refine pg_call (n := 3) (fun cl f => rfl) ⟨Nat.le_of_ble_eq_true rfl, ?_⟩
  show pg (d + 2) 1 0 [.ref 48, .null] [] (pu_s1 L xs) _
  refine pg_call (n := 6) (fun cl f => rfl) ⟨Nat.le_of_ble_eq_true rfl, ?_⟩
  show pg (d + 1) 2 0 [.ref 49] [] (pu_s2 L xs) _
  refine pg_ret (n := 19) (fun cl f => rfl) ?_
  show pg (d + 2) 1 6 [.ref 48, .null] [.ref 49, .ref 48] (pu_s3 L xs) _
  refine pg_call (n := 5) (fun cl f => rfl) ⟨Nat.le_of_ble_eq_true rfl, ?_⟩
  show pg (d + 1) 3 0 [.ref 51] [] (pu_s4 L xs) _
  refine pg_call (n := 15) (fun cl f => rfl) ⟨Nat.le_of_ble_eq_true rfl, ?_⟩
  show pg d 4 0 [.ref 54] [] (pu_s5 L xs) _
  refine pg_ret (n := 25) (fun cl f => rfl) ?_
  show pg (d + 1) 3 15 [.ref 51] [.ref 54, .ref 51] (pu_s7 L xs) _
  refine pg_call (n := 5) (fun cl f => rfl) ⟨Nat.le_of_ble_eq_true rfl, ?_⟩
  show pg d 4 0 [.ref 59] [] (pu_s8 L xs) _
  refine pg_ret (n := 25) (fun cl f => rfl) ?_
  show pg (d + 1) 3 20 [.ref 51] [.ref 59, .ref 51] (pu_s10 L xs) _
  refine pg_ret (n := 2) (fun cl f => rfl) ?_
  show pg (d + 2) 1 11 [.ref 48, .null] [.ref 51, .ref 48] (pu_s11 L xs) _
  refine pg_call (n := 5) (fun cl f => rfl) ⟨Nat.le_of_ble_eq_true rfl, ?_⟩
  show pg (d + 1) 3 0 [.ref 64] [] (pu_s12 L xs) _
  refine pg_call (n := 15) (fun cl f => rfl) ⟨Nat.le_of_ble_eq_true rfl, ?_⟩
  show pg d 4 0 [.ref 67] [] (pu_s13 L xs) _
  refine pg_ret (n := 25) (fun cl f => rfl) ?_
  show pg (d + 1) 3 15 [.ref 64] [.ref 67, .ref 64] (pu_s15 L xs) _
  refine pg_call (n := 5) (fun cl f => rfl) ⟨Nat.le_of_ble_eq_true rfl, ?_⟩
  show pg d 4 0 [.ref 72] [] (pu_s16 L xs) _
  refine pg_ret (n := 25) (fun cl f => rfl) ?_
  show pg (d + 1) 3 20 [.ref 64] [.ref 72, .ref 64] (pu_s18 L xs) _
  refine pg_ret (n := 2) (fun cl f => rfl) ?_
  show pg (d + 2) 1 16 [.ref 48, .null] [.ref 64, .ref 48] (pu_s19 L xs) _
  refine pg_call (n := 5) (fun cl f => rfl) ⟨Nat.le_of_ble_eq_true rfl, ?_⟩
  show pg (d + 1) 5 0 [.ref 77] [] (pu_s20 L xs) _
  refine pg_ret (n := 22) (fun cl f => rfl) ?_
  show pg (d + 2) 1 21 [.ref 48, .null] [.ref 77, .ref 48] (pu_s22 L xs) _
  refine pg_call (n := 5) (fun cl f => rfl) ⟨Nat.le_of_ble_eq_true rfl, ?_⟩
  show pg (d + 1) 5 0 [.ref 82] [] (pu_s23 L xs) _
  refine pg_ret (n := 22) (fun cl f => rfl) ?_
  show pg (d + 2) 1 26 [.ref 48, .null] [.ref 82, .ref 48] (pu_s25 L xs) _
  refine pg_call (n := 12) (fun cl f => rfl) ⟨Nat.le_of_ble_eq_true rfl, ?_⟩
  show pg (d + 1) 6 0 [.ref 88] [] (pu_s26 L xs) _
  refine pg_ret (n := 56) (fun cl f => rfl) ?_
  show pg (d + 2) 1 38 [.ref 48, .null] [.ref 88, .ref 48] (pu_s29 L xs) _
  refine pg_call (n := 13) (fun cl f => rfl) ⟨Nat.le_of_ble_eq_true rfl, ?_⟩
  show pg (d + 1) 7 0 [.ref 94] [] (pu_s30 L xs) _
  refine pg_call (n := 6) (fun cl f => rfl) ⟨Nat.le_of_ble_eq_true rfl, ?_⟩
  show pg d 6 0 [.ref 95] [] (pu_s31 L xs) _
  refine pg_ret (n := 56) (fun cl f => rfl) ?_
  show pg (d + 1) 7 6 [.ref 94] [.ref 95, .ref 94] (pu_s34 L xs) _
  refine pg_ret (n := 26) (fun cl f => rfl) ?_
  show pg (d + 2) 1 51 [.ref 48, .null] [.ref 94, .ref 48] (pu_s36 L xs) _
  refine pg_call (n := 9) (fun cl f => rfl) ⟨Nat.le_of_ble_eq_true rfl, ?_⟩
  show pg (d + 1) 8 0 [.ref 100] [] (pu_s37 L xs) _
  refine pg_ret (n := 21) (fun cl f => rfl) ?_
  show pg (d + 2) 1 60 [.ref 48, .null] [.ref 100, .ref 48] (pu_s38 L xs) _
  refine pg_call (n := 5) (fun cl f => rfl) ⟨Nat.le_of_ble_eq_true rfl, ?_⟩
  show pg (d + 1) 8 0 [.ref 104] [] (pu_s39 L xs) _
  refine pg_ret (n := 21) (fun cl f => rfl) ?_
  show pg (d + 2) 1 65 [.ref 48, .null] [.ref 104, .ref 48] (pu_s40 L xs) _
  refine pg_call (n := 5) (fun cl f => rfl) ⟨Nat.le_of_ble_eq_true rfl, ?_⟩
  show pg (d + 1) 9 0 [.ref 108] [] (pu_s41 L xs) _
  refine pg_ret (n := 25) (fun cl f => rfl) ?_
  show pg (d + 2) 1 70 [.ref 48, .null] [.ref 108, .ref 48] (pu_s43 L xs) _
  refine pg_call (n := 5) (fun cl f => rfl) ⟨Nat.le_of_ble_eq_true rfl, ?_⟩
  show pg (d + 1) 10 0 [.ref 113] [] (pu_s44 L xs) _
  refine pg_ret (n := 40) (fun cl f => rfl) ?_
  show pg (d + 2) 1 75 [.ref 48, .null] [.ref 113, .ref 48] (pu_s47 L xs) _
  refine pg_call (n := 5) (fun cl f => rfl) ⟨Nat.le_of_ble_eq_true rfl, ?_⟩
  show pg (d + 1) 11 0 [.ref 121] [] (pu_s48 L xs) _
  refine pg_ret (n := 35) (fun cl f => rfl) ?_
  show pg (d + 2) 1 80 [.ref 48, .null] [.ref 121, .ref 48] (pu_s50 L xs) _
  refine pg_call (n := 23) (fun cl f => rfl) ⟨Nat.le_of_ble_eq_true rfl, ?_⟩
  show pg (d + 1) 12 0 [.ref 129] [] (pu_s51 L xs) _
  refine pg_ret (n := 21) (fun cl f => rfl) ?_
  show pg (d + 2) 1 103 [.ref 48, .int 0] [.ref 129, .int 0, .ref 87] (pu_s52 L xs) _
  refine pg_call (n := 12) (fun cl f => rfl) ⟨Nat.le_of_ble_eq_true rfl, ?_⟩
  show pg (d + 1) 12 0 [.ref 130] [] (pu_s53 L xs) _
  refine pg_ret (n := 21) (fun cl f => rfl) ?_
  show pg (d + 2) 1 103 [.ref 48, .int 1] [.ref 130, .int 1, .ref 87] (pu_s54 L xs) _
  refine pg_call (n := 12) (fun cl f => rfl) ⟨Nat.le_of_ble_eq_true rfl, ?_⟩
  show pg (d + 1) 12 0 [.ref 131] [] (pu_s55 L xs) _
  refine pg_ret (n := 21) (fun cl f => rfl) ?_
  show pg (d + 2) 1 103 [.ref 48, .int 2] [.ref 131, .int 2, .ref 87] (pu_s56 L xs) _
  refine pg_call (n := 12) (fun cl f => rfl) ⟨Nat.le_of_ble_eq_true rfl, ?_⟩
  show pg (d + 1) 12 0 [.ref 132] [] (pu_s57 L xs) _
  refine pg_ret (n := 21) (fun cl f => rfl) ?_
  show pg (d + 2) 1 103 [.ref 48, .int 3] [.ref 132, .int 3, .ref 87] (pu_s58 L xs) _
  refine pg_call (n := 17) (fun cl f => rfl) ⟨Nat.le_of_ble_eq_true rfl, ?_⟩
  show pg (d + 1) 6 0 [.ref 133] [] (pu_s59 L xs) _
  refine pg_ret (n := 56) (fun cl f => rfl) ?_
  show pg (d + 2) 1 117 [.ref 48, .int 0] [.ref 133, .int 0, .ref 92] (pu_s62 L xs) _
  refine pg_call (n := 12) (fun cl f => rfl) ⟨Nat.le_of_ble_eq_true rfl, ?_⟩
  show pg (d + 1) 6 0 [.ref 137] [] (pu_s63 L xs) _
  refine pg_ret (n := 56) (fun cl f => rfl) ?_
  show pg (d + 2) 1 117 [.ref 48, .int 1] [.ref 137, .int 1, .ref 92] (pu_s66 L xs) _
  refine pg_ret (n := 52) (fun cl f => rfl) ?_
  show pg (d + 3) 0 3 [.ref 0, .null, .null, .null] [.ref 48] (pu_s67 L xs) _
  refine pg_call (n := 4) (fun cl f => rfl) ⟨Nat.le_of_ble_eq_true rfl, ?_⟩
  show pg (d + 2) 150 0 [.ref 141, .null] [] (pu_s68 L xs) _
  refine pg_call (n := 169) (fun cl f => rfl) ⟨Nat.le_of_ble_eq_true rfl, ?_⟩
  show pg (d + 1) 151 0 [.int 0] [] (pu_s78 L xs) _
  refine pg_ret (n := 4) (fun cl f => rfl) ?_
  show pg (d + 2) 150 169 [.ref 141, .int 0] [.int 2, .int 0, .ref 144] (pu_s78 L xs) _
  refine pg_call (n := 11) (fun cl f => rfl) ⟨Nat.le_of_ble_eq_true rfl, ?_⟩
  show pg (d + 1) 151 0 [.int 1] [] (pu_s79 L xs) _
  refine pg_ret (n := 4) (fun cl f => rfl) ?_
  show pg (d + 2) 150 169 [.ref 141, .int 1] [.int 20, .int 1, .ref 144] (pu_s79 L xs) _
  refine pg_call (n := 11) (fun cl f => rfl) ⟨Nat.le_of_ble_eq_true rfl, ?_⟩
  show pg (d + 1) 151 0 [.int 2] [] (pu_s80 L xs) _
  refine pg_ret (n := 4) (fun cl f => rfl) ?_
  show pg (d + 2) 150 169 [.ref 141, .int 2] [.int 40, .int 2, .ref 144] (pu_s80 L xs) _
  refine pg_call (n := 11) (fun cl f => rfl) ⟨Nat.le_of_ble_eq_true rfl, ?_⟩
  show pg (d + 1) 151 0 [.int 3] [] (pu_s81 L xs) _
  refine pg_ret (n := 4) (fun cl f => rfl) ?_
  show pg (d + 2) 150 169 [.ref 141, .int 3] [.int 30, .int 3, .ref 144] (pu_s81 L xs) _
  refine pg_call (n := 11) (fun cl f => rfl) ⟨Nat.le_of_ble_eq_true rfl, ?_⟩
  show pg (d + 1) 151 0 [.int 4] [] (pu_s82 L xs) _
  refine pg_ret (n := 4) (fun cl f => rfl) ?_
  show pg (d + 2) 150 169 [.ref 141, .int 4] [.int 10, .int 4, .ref 144] (pu_s82 L xs) _
  refine pg_call (n := 11) (fun cl f => rfl) ⟨Nat.le_of_ble_eq_true rfl, ?_⟩
  show pg (d + 1) 151 0 [.int 5] [] (pu_s83 L xs) _
  refine pg_ret (n := 4) (fun cl f => rfl) ?_
  show pg (d + 2) 150 169 [.ref 141, .int 5] [.int 300, .int 5, .ref 144] (pu_s83 L xs) _
  refine pg_call (n := 11) (fun cl f => rfl) ⟨Nat.le_of_ble_eq_true rfl, ?_⟩
  show pg (d + 1) 151 0 [.int 6] [] (pu_s84 L xs) _
  refine pg_ret (n := 4) (fun cl f => rfl) ?_
  show pg (d + 2) 150 169 [.ref 141, .int 6] [.int 60, .int 6, .ref 144] (pu_s84 L xs) _
  refine pg_call (n := 11) (fun cl f => rfl) ⟨Nat.le_of_ble_eq_true rfl, ?_⟩
  show pg (d + 1) 151 0 [.int 7] [] (pu_s85 L xs) _
  refine pg_ret (n := 4) (fun cl f => rfl) ?_
  show pg (d + 2) 150 169 [.ref 141, .int 7] [.int 150, .int 7, .ref 144] (pu_s85 L xs) _
  refine pg_call (n := 11) (fun cl f => rfl) ⟨Nat.le_of_ble_eq_true rfl, ?_⟩
  show pg (d + 1) 151 0 [.int 8] [] (pu_s86 L xs) _
  refine pg_ret (n := 4) (fun cl f => rfl) ?_
  show pg (d + 2) 150 169 [.ref 141, .int 8] [.int 0, .int 8, .ref 144] (pu_s86 L xs) _
  refine pg_ret (n := 52) (fun cl f => rfl) ?_
  show pg (d + 3) 0 7 [.ref 0, .ref 48, .null, .null] [.ref 141] (pu_s87 L xs) _
  refine pg_st (n := 3) (fun cl f => rfl) ?_
  show pg (d + 3) 0 10 [.ref 0, .ref 48, .ref 141, .int 0] [] (pu_s87 L xs) _
  exact K
