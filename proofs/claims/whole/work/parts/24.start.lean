/-! THE LAW'S BEGINNING: both constructors -/
def pu_hd (n s : Nat) (h : pm_H) : pm_H := ((n, s, h.1.2.2), h.2)
def pu_nw (h : pm_H) (r : Nat) (q : Nat × Nat × Nat) (w : Nat) : pm_H := ((h.1.1 + 1, h.1.2.1 + w, pm_up h.1.2.2 r q), pm_up h.2.1 r (fun _ => 0), pm_up h.2.2.1 r (fun _ => 0), pm_up h.2.2.2 r (fun _ => none))
def pu_cp (h : pm_H) (n r : Nat) : pm_H := ((h.1.1 + 1, h.1.2.1 + (pm_kd h r).2.2, pm_up h.1.2.2 n (pm_kd h r)), pm_up h.2.1 n (h.2.1 r), pm_up h.2.2.1 n (fun _ => 0), pm_up h.2.2.2 n (fun _ => none))
def pu_s0 (L : Nat) (xs : Nat → Int32) : pm_H := pe_h0 L xs
def pu_s1 (L : Nat) (xs : Nat → Int32) : pm_H := pu_hd 49 20 (pu_nw (pu_s0 L xs) 48 (1, 0, 0) 20)
def pu_s2 (L : Nat) (xs : Nat → Int32) : pm_H := pu_hd 50 25 (pu_nw (pu_s1 L xs) 49 (1, 1, 0) 5)
def pu_s3 (L : Nat) (xs : Nat → Int32) : pm_H := pu_hd 51 325 (pm_setI (pm_setI (pm_setI (pm_setI (pm_setR (pu_nw (pu_s2 L xs) 50 (2, 0, 300) 300) 49 0 (some 50)) 49 1 0) 49 2 0) 49 3 0) 49 4 (-1))
def pu_s4 (L : Nat) (xs : Nat → Int32) : pm_H := pu_hd 52 329 (pu_nw (pm_setR (pu_s3 L xs) 48 0 (some 49)) 51 (1, 2, 0) 4)
def pu_s5 (L : Nat) (xs : Nat → Int32) : pm_H := pu_hd 55 353 (pu_nw (pm_setR (pu_nw (pm_setR (pu_cp (pu_s4 L xs) 52 1) 51 0 (some 52)) 53 (2, 1, 8) 8) 51 1 (some 53)) 54 (1, 3, 0) 7)
def pu_s6 (L : Nat) (xs : Nat → Int32) : pm_H := pu_hd 59 417 (pu_nw (pm_setR (pu_nw (pm_setI (pm_setR (pu_nw (pm_setR (pu_nw (pu_s5 L xs) 55 (2, 0, 16) 16) 54 0 (some 55)) 56 (2, 0, 16) 16) 54 1 (some 56)) 54 2 0) 57 (2, 0, 16) 16) 54 3 (some 57)) 58 (2, 0, 16) 16)
def pu_s7 (L : Nat) (xs : Nat → Int32) : pm_H := pu_hd 60 433 (pm_setI (pm_setR (pu_nw (pm_setR (pu_s6 L xs) 54 4 (some 58)) 59 (2, 1, 16) 16) 54 5 (some 59)) 54 6 0)
def pu_s8 (L : Nat) (xs : Nat → Int32) : pm_H := pu_hd 61 440 (pu_nw (pm_setR (pu_s7 L xs) 51 2 (some 54)) 60 (1, 3, 0) 7)
def pu_s9 (L : Nat) (xs : Nat → Int32) : pm_H := pu_hd 65 504 (pu_nw (pm_setR (pu_nw (pm_setI (pm_setR (pu_nw (pm_setR (pu_nw (pu_s8 L xs) 61 (2, 0, 16) 16) 60 0 (some 61)) 62 (2, 0, 16) 16) 60 1 (some 62)) 60 2 0) 63 (2, 0, 16) 16) 60 3 (some 63)) 64 (2, 0, 16) 16)
def pu_s10 (L : Nat) (xs : Nat → Int32) : pm_H := pu_hd 66 520 (pm_setI (pm_setR (pu_nw (pm_setR (pu_s9 L xs) 60 4 (some 64)) 65 (2, 1, 16) 16) 60 5 (some 65)) 60 6 0)
def pu_s11 (L : Nat) (xs : Nat → Int32) : pm_H := pu_hd 66 520 (pm_setR (pu_s10 L xs) 51 3 (some 60))
def pu_s12 (L : Nat) (xs : Nat → Int32) : pm_H := pu_hd 67 524 (pu_nw (pm_setR (pu_s11 L xs) 48 1 (some 51)) 66 (1, 2, 0) 4)
def pu_s13 (L : Nat) (xs : Nat → Int32) : pm_H := pu_hd 70 548 (pu_nw (pm_setR (pu_nw (pm_setR (pu_cp (pu_s12 L xs) 67 1) 66 0 (some 67)) 68 (2, 1, 8) 8) 66 1 (some 68)) 69 (1, 3, 0) 7)
def pu_s14 (L : Nat) (xs : Nat → Int32) : pm_H := pu_hd 74 612 (pu_nw (pm_setR (pu_nw (pm_setI (pm_setR (pu_nw (pm_setR (pu_nw (pu_s13 L xs) 70 (2, 0, 16) 16) 69 0 (some 70)) 71 (2, 0, 16) 16) 69 1 (some 71)) 69 2 0) 72 (2, 0, 16) 16) 69 3 (some 72)) 73 (2, 0, 16) 16)
def pu_s15 (L : Nat) (xs : Nat → Int32) : pm_H := pu_hd 75 628 (pm_setI (pm_setR (pu_nw (pm_setR (pu_s14 L xs) 69 4 (some 73)) 74 (2, 1, 16) 16) 69 5 (some 74)) 69 6 0)
def pu_s16 (L : Nat) (xs : Nat → Int32) : pm_H := pu_hd 76 635 (pu_nw (pm_setR (pu_s15 L xs) 66 2 (some 69)) 75 (1, 3, 0) 7)
def pu_s17 (L : Nat) (xs : Nat → Int32) : pm_H := pu_hd 80 699 (pu_nw (pm_setR (pu_nw (pm_setI (pm_setR (pu_nw (pm_setR (pu_nw (pu_s16 L xs) 76 (2, 0, 16) 16) 75 0 (some 76)) 77 (2, 0, 16) 16) 75 1 (some 77)) 75 2 0) 78 (2, 0, 16) 16) 75 3 (some 78)) 79 (2, 0, 16) 16)
def pu_s18 (L : Nat) (xs : Nat → Int32) : pm_H := pu_hd 81 715 (pm_setI (pm_setR (pu_nw (pm_setR (pu_s17 L xs) 75 4 (some 79)) 80 (2, 1, 16) 16) 75 5 (some 80)) 75 6 0)
def pu_s19 (L : Nat) (xs : Nat → Int32) : pm_H := pu_hd 81 715 (pm_setR (pu_s18 L xs) 66 3 (some 75))
def pu_s20 (L : Nat) (xs : Nat → Int32) : pm_H := pu_hd 82 720 (pu_nw (pm_setR (pu_s19 L xs) 48 2 (some 66)) 81 (1, 4, 0) 5)
def pu_s21 (L : Nat) (xs : Nat → Int32) : pm_H := pu_hd 86 768 (pm_setR (pu_nw (pm_setR (pu_nw (pm_setR (pu_nw (pm_setR (pu_nw (pu_s20 L xs) 82 (2, 0, 12) 12) 81 0 (some 82)) 83 (2, 0, 12) 12) 81 1 (some 83)) 84 (2, 0, 12) 12) 81 2 (some 84)) 85 (2, 1, 12) 12) 81 3 (some 85))
def pu_s22 (L : Nat) (xs : Nat → Int32) : pm_H := pu_hd 86 768 (pm_setI (pu_s21 L xs) 81 4 0)
def pu_s23 (L : Nat) (xs : Nat → Int32) : pm_H := pu_hd 87 773 (pu_nw (pm_setR (pu_s22 L xs) 48 3 (some 81)) 86 (1, 4, 0) 5)
def pu_s24 (L : Nat) (xs : Nat → Int32) : pm_H := pu_hd 91 821 (pm_setR (pu_nw (pm_setR (pu_nw (pm_setR (pu_nw (pm_setR (pu_nw (pu_s23 L xs) 87 (2, 0, 12) 12) 86 0 (some 87)) 88 (2, 0, 12) 12) 86 1 (some 88)) 89 (2, 0, 12) 12) 86 2 (some 89)) 90 (2, 1, 12) 12) 86 3 (some 90))
def pu_s25 (L : Nat) (xs : Nat → Int32) : pm_H := pu_hd 91 821 (pm_setI (pu_s24 L xs) 86 4 0)
def pu_s26 (L : Nat) (xs : Nat → Int32) : pm_H := pu_hd 93 839 (pu_nw (pm_setI (pm_setR (pu_nw (pm_setR (pu_s25 L xs) 48 4 (some 86)) 91 (2, 15, 4) 4) 48 5 (some 91)) 48 6 0) 92 (1, 5, 0) 14)
def pu_s27 (L : Nat) (xs : Nat → Int32) : pm_H := pu_hd 95 855 (pm_setL (pm_setL (pm_setL (pm_setL (pm_setR (pu_nw (pm_setR (pu_nw (pu_s26 L xs) 93 (2, 2, 8) 8) 92 0 (some 93)) 94 (2, 2, 8) 8) 92 1 (some 94)) 92 2 0) 92 3 0) 92 4 0) 92 5 0)
def pu_s28 (L : Nat) (xs : Nat → Int32) : pm_H := pu_hd 96 857 (pm_setI (pm_setI (pm_setR (pm_setI (pm_setI (pu_nw (pm_setI (pm_setL (pu_s27 L xs) 92 6 0) 92 7 0) 95 (2, 0, 2) 2) 95 0 8) 95 1 8) 92 8 (some 95)) 92 9 0) 92 10 0)
def pu_s29 (L : Nat) (xs : Nat → Int32) : pm_H := pu_hd 96 857 (pm_setL (pm_setI (pm_setI (pu_s28 L xs) 92 11 0) 92 12 0) 92 13 0)
def pu_s30 (L : Nat) (xs : Nat → Int32) : pm_H := pu_hd 99 870 (pu_nw (pm_setR (pu_nw (pm_setR (pu_nw (pm_setR (pu_s29 L xs) 48 7 (some 92)) 96 (2, 9, 2) 2) 48 8 (some 96)) 97 (2, 1, 2) 2) 48 9 (some 97)) 98 (1, 6, 0) 9)
def pu_s31 (L : Nat) (xs : Nat → Int32) : pm_H := pu_hd 100 884 (pu_nw (pu_s30 L xs) 99 (1, 5, 0) 14)
def pu_s32 (L : Nat) (xs : Nat → Int32) : pm_H := pu_hd 102 900 (pm_setL (pm_setL (pm_setL (pm_setL (pm_setR (pu_nw (pm_setR (pu_nw (pu_s31 L xs) 100 (2, 2, 8) 8) 99 0 (some 100)) 101 (2, 2, 8) 8) 99 1 (some 101)) 99 2 0) 99 3 0) 99 4 0) 99 5 0)
def pu_s33 (L : Nat) (xs : Nat → Int32) : pm_H := pu_hd 103 902 (pm_setI (pm_setI (pm_setR (pm_setI (pm_setI (pu_nw (pm_setI (pm_setL (pu_s32 L xs) 99 6 0) 99 7 0) 102 (2, 0, 2) 2) 102 0 8) 102 1 8) 99 8 (some 102)) 99 9 0) 99 10 0)
def pu_s34 (L : Nat) (xs : Nat → Int32) : pm_H := pu_hd 103 902 (pm_setL (pm_setI (pm_setI (pu_s33 L xs) 99 11 0) 99 12 0) 99 13 0)
def pu_s35 (L : Nat) (xs : Nat → Int32) : pm_H := pu_hd 103 902 (pm_setI (pm_setI (pm_setI (pm_setI (pm_setI (pm_setI (pm_setI (pm_setR (pu_s34 L xs) 98 0 (some 99)) 98 1 (-1)) 98 2 (-1)) 98 3 (-1)) 98 4 (-1)) 98 5 0) 98 6 0) 98 7 0)
def pu_s36 (L : Nat) (xs : Nat → Int32) : pm_H := pu_hd 103 902 (pm_setI (pu_s35 L xs) 98 8 0)
def pu_s37 (L : Nat) (xs : Nat → Int32) : pm_H := pu_hd 105 911 (pu_nw (pm_setR (pu_nw (pm_setR (pu_s36 L xs) 48 10 (some 98)) 103 (2, 0, 4) 4) 48 11 (some 103)) 104 (1, 7, 0) 5)
def pu_s38 (L : Nat) (xs : Nat → Int32) : pm_H := pu_hd 108 1007 (pm_setI (pm_setI (pm_setR (pu_nw (pm_setR (pu_nw (pm_setR (pu_nw (pu_s37 L xs) 105 (2, 0, 32) 32) 104 0 (some 105)) 106 (2, 0, 32) 32) 104 1 (some 106)) 107 (2, 0, 32) 32) 104 2 (some 107)) 104 3 0) 104 4 0)
def pu_s39 (L : Nat) (xs : Nat → Int32) : pm_H := pu_hd 109 1012 (pu_nw (pm_setR (pu_s38 L xs) 48 12 (some 104)) 108 (1, 7, 0) 5)
def pu_s40 (L : Nat) (xs : Nat → Int32) : pm_H := pu_hd 112 1108 (pm_setI (pm_setI (pm_setR (pu_nw (pm_setR (pu_nw (pm_setR (pu_nw (pu_s39 L xs) 109 (2, 0, 32) 32) 108 0 (some 109)) 110 (2, 0, 32) 32) 108 1 (some 110)) 111 (2, 0, 32) 32) 108 2 (some 111)) 108 3 0) 108 4 0)
def pu_s41 (L : Nat) (xs : Nat → Int32) : pm_H := pu_hd 113 1114 (pu_nw (pm_setR (pu_s40 L xs) 48 13 (some 108)) 112 (1, 8, 0) 6)
def pu_s42 (L : Nat) (xs : Nat → Int32) : pm_H := pu_hd 117 1146 (pm_setR (pu_nw (pm_setR (pu_nw (pm_setR (pu_nw (pm_setR (pu_nw (pu_s41 L xs) 113 (2, 0, 8) 8) 112 0 (some 113)) 114 (2, 0, 8) 8) 112 1 (some 114)) 115 (2, 0, 8) 8) 112 2 (some 115)) 116 (2, 0, 8) 8) 112 3 (some 116))
def pu_s43 (L : Nat) (xs : Nat → Int32) : pm_H := pu_hd 117 1146 (pm_setI (pm_setI (pu_s42 L xs) 112 4 0) 112 5 0)
def pu_s44 (L : Nat) (xs : Nat → Int32) : pm_H := pu_hd 118 1156 (pu_nw (pm_setR (pu_s43 L xs) 48 14 (some 112)) 117 (1, 9, 0) 10)
def pu_s45 (L : Nat) (xs : Nat → Int32) : pm_H := pu_hd 121 1170 (pm_setR (pu_nw (pm_setI (pm_setI (pm_setR (pu_nw (pm_setR (pu_nw (pu_s44 L xs) 118 (2, 0, 3) 3) 117 0 (some 118)) 119 (2, 0, 3) 3) 117 1 (some 119)) 117 2 0) 117 3 0) 120 (2, 0, 8) 8) 117 4 (some 120))
def pu_s46 (L : Nat) (xs : Nat → Int32) : pm_H := pu_hd 125 1450 (pm_setR (pu_nw (pm_setR (pu_nw (pm_setR (pu_nw (pm_setR (pu_nw (pu_s45 L xs) 121 (2, 0, 8) 8) 117 5 (some 121)) 122 (2, 0, 8) 8) 117 6 (some 122)) 123 (2, 0, 256) 256) 117 7 (some 123)) 124 (2, 0, 8) 8) 117 8 (some 124))
def pu_s47 (L : Nat) (xs : Nat → Int32) : pm_H := pu_hd 125 1450 (pm_setI (pu_s46 L xs) 117 9 0)
def pu_s48 (L : Nat) (xs : Nat → Int32) : pm_H := pu_hd 126 1459 (pu_nw (pm_setR (pu_s47 L xs) 48 15 (some 117)) 125 (1, 10, 0) 9)
def pu_s49 (L : Nat) (xs : Nat → Int32) : pm_H := pu_hd 129 1483 (pm_setR (pu_nw (pm_setI (pm_setI (pm_setR (pu_nw (pm_setR (pu_nw (pu_s48 L xs) 126 (2, 0, 8) 8) 125 0 (some 126)) 127 (2, 0, 8) 8) 125 1 (some 127)) 125 2 0) 125 3 0) 128 (2, 0, 8) 8) 125 4 (some 128))
def pu_s50 (L : Nat) (xs : Nat → Int32) : pm_H := pu_hd 131 1747 (pm_setI (pm_setI (pm_setR (pu_nw (pm_setR (pu_nw (pu_s49 L xs) 129 (2, 0, 256) 256) 125 5 (some 129)) 130 (2, 0, 8) 8) 125 6 (some 130)) 125 7 0) 125 8 0)
def pu_s51 (L : Nat) (xs : Nat → Int32) : pm_H := pu_hd 134 1801 (pu_nw (pm_setI (pm_setR (pu_nw (pm_setR (pu_nw (pm_setR (pu_s50 L xs) 48 16 (some 125)) 131 (2, 0, 24) 24) 48 17 (some 131)) 132 (2, 1, 24) 24) 48 18 (some 132)) 48 19 0) 133 (1, 11, 0) 6)
def pu_s52 (L : Nat) (xs : Nat → Int32) : pm_H := pu_hd 134 1801 (pm_setI (pm_setI (pm_setL (pm_setI (pm_setI (pm_setI (pu_s51 L xs) 133 0 1) 133 1 0) 133 2 0) 133 3 1152921504606846976) 133 4 0) 133 5 0)
def pu_s53 (L : Nat) (xs : Nat → Int32) : pm_H := pu_hd 135 1807 (pu_nw (pm_setR (pu_s52 L xs) 91 0 (some 133)) 134 (1, 11, 0) 6)
def pu_s54 (L : Nat) (xs : Nat → Int32) : pm_H := pu_hd 135 1807 (pm_setI (pm_setI (pm_setL (pm_setI (pm_setI (pm_setI (pu_s53 L xs) 134 0 1) 134 1 0) 134 2 0) 134 3 1152921504606846976) 134 4 0) 134 5 0)
def pu_s55 (L : Nat) (xs : Nat → Int32) : pm_H := pu_hd 136 1813 (pu_nw (pm_setR (pu_s54 L xs) 91 1 (some 134)) 135 (1, 11, 0) 6)
def pu_s56 (L : Nat) (xs : Nat → Int32) : pm_H := pu_hd 136 1813 (pm_setI (pm_setI (pm_setL (pm_setI (pm_setI (pm_setI (pu_s55 L xs) 135 0 1) 135 1 0) 135 2 0) 135 3 1152921504606846976) 135 4 0) 135 5 0)
def pu_s57 (L : Nat) (xs : Nat → Int32) : pm_H := pu_hd 137 1819 (pu_nw (pm_setR (pu_s56 L xs) 91 2 (some 135)) 136 (1, 11, 0) 6)
def pu_s58 (L : Nat) (xs : Nat → Int32) : pm_H := pu_hd 137 1819 (pm_setI (pm_setI (pm_setL (pm_setI (pm_setI (pm_setI (pu_s57 L xs) 136 0 1) 136 1 0) 136 2 0) 136 3 1152921504606846976) 136 4 0) 136 5 0)
def pu_s59 (L : Nat) (xs : Nat → Int32) : pm_H := pu_hd 138 1833 (pu_nw (pm_setR (pu_s58 L xs) 91 3 (some 136)) 137 (1, 5, 0) 14)
def pu_s60 (L : Nat) (xs : Nat → Int32) : pm_H := pu_hd 140 1849 (pm_setL (pm_setL (pm_setL (pm_setL (pm_setR (pu_nw (pm_setR (pu_nw (pu_s59 L xs) 138 (2, 2, 8) 8) 137 0 (some 138)) 139 (2, 2, 8) 8) 137 1 (some 139)) 137 2 0) 137 3 0) 137 4 0) 137 5 0)
def pu_s61 (L : Nat) (xs : Nat → Int32) : pm_H := pu_hd 141 1851 (pm_setI (pm_setI (pm_setR (pm_setI (pm_setI (pu_nw (pm_setI (pm_setL (pu_s60 L xs) 137 6 0) 137 7 0) 140 (2, 0, 2) 2) 140 0 8) 140 1 8) 137 8 (some 140)) 137 9 0) 137 10 0)
def pu_s62 (L : Nat) (xs : Nat → Int32) : pm_H := pu_hd 141 1851 (pm_setL (pm_setI (pm_setI (pu_s61 L xs) 137 11 0) 137 12 0) 137 13 0)
def pu_s63 (L : Nat) (xs : Nat → Int32) : pm_H := pu_hd 142 1865 (pu_nw (pm_setR (pu_s62 L xs) 96 0 (some 137)) 141 (1, 5, 0) 14)
def pu_s64 (L : Nat) (xs : Nat → Int32) : pm_H := pu_hd 144 1881 (pm_setL (pm_setL (pm_setL (pm_setL (pm_setR (pu_nw (pm_setR (pu_nw (pu_s63 L xs) 142 (2, 2, 8) 8) 141 0 (some 142)) 143 (2, 2, 8) 8) 141 1 (some 143)) 141 2 0) 141 3 0) 141 4 0) 141 5 0)
def pu_s65 (L : Nat) (xs : Nat → Int32) : pm_H := pu_hd 145 1883 (pm_setI (pm_setI (pm_setR (pm_setI (pm_setI (pu_nw (pm_setI (pm_setL (pu_s64 L xs) 141 6 0) 141 7 0) 144 (2, 0, 2) 2) 144 0 8) 144 1 8) 141 8 (some 144)) 141 9 0) 141 10 0)
def pu_s66 (L : Nat) (xs : Nat → Int32) : pm_H := pu_hd 145 1883 (pm_setL (pm_setI (pm_setI (pu_s65 L xs) 141 11 0) 141 12 0) 141 13 0)
def pu_s67 (L : Nat) (xs : Nat → Int32) : pm_H := pu_hd 145 1883 (pm_setI (pm_setI (pm_setI (pm_setI (pm_setR (pu_s66 L xs) 96 1 (some 141)) 103 0 (-1)) 103 1 (-1)) 103 2 (-1)) 103 3 (-1))
def pu_s68 (L : Nat) (xs : Nat → Int32) : pm_H := pu_hd 146 1937 (pu_nw (pu_s67 L xs) 145 (1, 12, 0) 54)
def pu_s69 (L : Nat) (xs : Nat → Int32) : pm_H := pu_hd 150 2085 (pm_setR (pu_nw (pm_setR (pu_nw (pm_setR (pu_nw (pm_setR (pu_nw (pu_s68 L xs) 146 (2, 2, 128) 128) 145 0 (some 146)) 147 (2, 1, 2) 2) 145 1 (some 147)) 148 (2, 0, 9) 9) 145 2 (some 148)) 149 (2, 0, 9) 9) 145 3 (some 149))
def pu_s70 (L : Nat) (xs : Nat → Int32) : pm_H := pu_hd 154 2517 (pm_setR (pu_nw (pm_setR (pu_nw (pm_setR (pu_nw (pm_setR (pu_nw (pu_s69 L xs) 150 (2, 0, 64) 64) 145 4 (some 150)) 151 (2, 0, 64) 64) 145 5 (some 151)) 152 (2, 0, 4) 4) 145 6 (some 152)) 153 (2, 0, 300) 300) 145 7 (some 153))
def pu_s71 (L : Nat) (xs : Nat → Int32) : pm_H := pu_hd 158 2657 (pu_nw (pm_setR (pu_nw (pm_setR (pu_nw (pm_setR (pu_nw (pm_setI (pu_s70 L xs) 145 13 (-1)) 154 (2, 0, 96) 96) 145 15 (some 154)) 155 (2, 0, 24) 24) 145 17 (some 155)) 156 (2, 2, 16) 16) 145 19 (some 156)) 157 (2, 0, 4) 4)
def pu_s72 (L : Nat) (xs : Nat → Int32) : pm_H := pu_hd 162 2785 (pu_nw (pm_setR (pu_nw (pm_setR (pu_nw (pm_setR (pu_nw (pm_setR (pu_s71 L xs) 145 20 (some 157)) 158 (2, 2, 32) 32) 145 21 (some 158)) 159 (2, 2, 32) 32) 145 22 (some 159)) 160 (2, 1, 32) 32) 145 23 (some 160)) 161 (2, 0, 32) 32)
def pu_s73 (L : Nat) (xs : Nat → Int32) : pm_H := pu_hd 166 2889 (pu_nw (pm_setR (pu_nw (pm_setR (pu_nw (pm_setR (pu_nw (pm_setR (pu_s72 L xs) 145 24 (some 161)) 162 (2, 2, 32) 32) 145 25 (some 162)) 163 (2, 0, 32) 32) 145 28 (some 163)) 164 (2, 2, 32) 32) 145 29 (some 164)) 165 (2, 0, 8) 8)
def pu_s74 (L : Nat) (xs : Nat → Int32) : pm_H := pu_hd 170 2921 (pu_nw (pm_setR (pu_nw (pm_setR (pu_nw (pm_setR (pu_nw (pm_setR (pu_s73 L xs) 145 30 (some 165)) 166 (2, 0, 8) 8) 145 31 (some 166)) 167 (2, 0, 8) 8) 145 32 (some 167)) 168 (2, 0, 8) 8) 145 34 (some 168)) 169 (2, 0, 8) 8)
def pu_s75 (L : Nat) (xs : Nat → Int32) : pm_H := pu_hd 174 3452 (pu_nw (pm_setR (pu_nw (pm_setR (pu_nw (pm_setR (pu_nw (pm_setR (pu_s74 L xs) 145 35 (some 169)) 170 (2, 0, 256) 256) 145 36 (some 170)) 171 (2, 0, 3) 3) 145 39 (some 171)) 172 (2, 0, 16) 16) 145 40 (some 172)) 173 (2, 0, 256) 256)
def pu_s76 (L : Nat) (xs : Nat → Int32) : pm_H := pu_hd 178 3732 (pu_nw (pm_setR (pu_nw (pm_setR (pu_nw (pm_setR (pu_nw (pm_setR (pu_s75 L xs) 145 42 (some 173)) 174 (2, 0, 8) 8) 145 43 (some 174)) 175 (2, 0, 8) 8) 145 45 (some 175)) 176 (2, 0, 8) 8) 145 47 (some 176)) 177 (2, 1, 256) 256)
def pu_s77 (L : Nat) (xs : Nat → Int32) : pm_H := pu_hd 182 4061 (pu_nw (pm_setR (pu_nw (pm_setR (pu_nw (pm_setR (pu_nw (pm_setR (pu_s76 L xs) 145 48 (some 177)) 178 (2, 1, 256) 256) 145 49 (some 178)) 179 (2, 0, 24) 24) 145 50 (some 179)) 180 (2, 1, 24) 24) 145 51 (some 180)) 181 (2, 0, 25) 25)
def pu_s78 (L : Nat) (xs : Nat → Int32) : pm_H := pu_hd 182 4061 (pm_setL (pm_setL (pm_setR (pu_s77 L xs) 145 53 (some 181)) 146 26 8) 146 27 8)
def pu_s79 (L : Nat) (xs : Nat → Int32) : pm_H := pu_hd 182 4061 (pm_setI (pu_s78 L xs) 148 0 2)
def pu_s80 (L : Nat) (xs : Nat → Int32) : pm_H := pu_hd 182 4061 (pm_setI (pu_s79 L xs) 148 1 20)
def pu_s81 (L : Nat) (xs : Nat → Int32) : pm_H := pu_hd 182 4061 (pm_setI (pu_s80 L xs) 148 2 40)
def pu_s82 (L : Nat) (xs : Nat → Int32) : pm_H := pu_hd 182 4061 (pm_setI (pu_s81 L xs) 148 3 30)
def pu_s83 (L : Nat) (xs : Nat → Int32) : pm_H := pu_hd 182 4061 (pm_setI (pu_s82 L xs) 148 4 10)
def pu_s84 (L : Nat) (xs : Nat → Int32) : pm_H := pu_hd 182 4061 (pm_setI (pu_s83 L xs) 148 5 300)
def pu_s85 (L : Nat) (xs : Nat → Int32) : pm_H := pu_hd 182 4061 (pm_setI (pu_s84 L xs) 148 6 60)
def pu_s86 (L : Nat) (xs : Nat → Int32) : pm_H := pu_hd 182 4061 (pm_setI (pu_s85 L xs) 148 7 150)
def pu_s87 (L : Nat) (xs : Nat → Int32) : pm_H := pu_hd 182 4061 (pm_setI (pm_setI (pm_setI (pm_setI (pm_setI (pu_s86 L xs) 148 8 0) 157 0 (-1)) 157 1 (-1)) 157 2 (-1)) 157 3 (-1))
set_option maxRecDepth 100000 in
set_option maxHeartbeats 40000000 in
theorem pu_start0 {d : Nat} {L : Nat} {xs : Nat → Int32} {Q : Option Value → pm_H → Prop} (K : pg (d + 3) 0 10 [.ref 0, .ref 48, .ref 145, .int 0] [] (pu_s87 L xs) Q) : pg (d + 3) 0 0 [.ref 0, .null, .null, .null] [] (pe_h0 L xs) Q := by
  show pg (d + 3) 0 0 [.ref 0, .null, .null, .null] [] (pu_s0 L xs) _
  refine pg_call (n := 3) (fun cl f => rfl) ⟨Nat.le_of_ble_eq_true rfl, ?_⟩
  show pg (d + 2) 1 0 [.ref 48, .null] [] (pu_s1 L xs) _
  refine pg_call (n := 6) (fun cl f => rfl) ⟨Nat.le_of_ble_eq_true rfl, ?_⟩
  show pg (d + 1) 2 0 [.ref 49] [] (pu_s2 L xs) _
  refine pg_ret (n := 19) (fun cl f => rfl) ?_
  show pg (d + 2) 1 6 [.ref 48, .null] [.ref 49, .ref 48] (pu_s3 L xs) _
  refine pg_call (n := 5) (fun cl f => rfl) ⟨Nat.le_of_ble_eq_true rfl, ?_⟩
  show pg (d + 1) 3 0 [.ref 51] [] (pu_s4 L xs) _
  refine pg_call (n := 15) (fun cl f => rfl) ⟨Nat.le_of_ble_eq_true rfl, ?_⟩
  show pg d 4 0 [.ref 54] [] (pu_s5 L xs) _
  refine pg_ret (n := 29) (fun cl f => rfl) ?_
  show pg (d + 1) 3 15 [.ref 51] [.ref 54, .ref 51] (pu_s7 L xs) _
  refine pg_call (n := 5) (fun cl f => rfl) ⟨Nat.le_of_ble_eq_true rfl, ?_⟩
  show pg d 4 0 [.ref 60] [] (pu_s8 L xs) _
  refine pg_ret (n := 29) (fun cl f => rfl) ?_
  show pg (d + 1) 3 20 [.ref 51] [.ref 60, .ref 51] (pu_s10 L xs) _
  refine pg_ret (n := 2) (fun cl f => rfl) ?_
  show pg (d + 2) 1 11 [.ref 48, .null] [.ref 51, .ref 48] (pu_s11 L xs) _
  refine pg_call (n := 5) (fun cl f => rfl) ⟨Nat.le_of_ble_eq_true rfl, ?_⟩
  show pg (d + 1) 3 0 [.ref 66] [] (pu_s12 L xs) _
  refine pg_call (n := 15) (fun cl f => rfl) ⟨Nat.le_of_ble_eq_true rfl, ?_⟩
  show pg d 4 0 [.ref 69] [] (pu_s13 L xs) _
  refine pg_ret (n := 29) (fun cl f => rfl) ?_
  show pg (d + 1) 3 15 [.ref 66] [.ref 69, .ref 66] (pu_s15 L xs) _
  refine pg_call (n := 5) (fun cl f => rfl) ⟨Nat.le_of_ble_eq_true rfl, ?_⟩
  show pg d 4 0 [.ref 75] [] (pu_s16 L xs) _
  refine pg_ret (n := 29) (fun cl f => rfl) ?_
  show pg (d + 1) 3 20 [.ref 66] [.ref 75, .ref 66] (pu_s18 L xs) _
  refine pg_ret (n := 2) (fun cl f => rfl) ?_
  show pg (d + 2) 1 16 [.ref 48, .null] [.ref 66, .ref 48] (pu_s19 L xs) _
  refine pg_call (n := 5) (fun cl f => rfl) ⟨Nat.le_of_ble_eq_true rfl, ?_⟩
  show pg (d + 1) 5 0 [.ref 81] [] (pu_s20 L xs) _
  refine pg_ret (n := 22) (fun cl f => rfl) ?_
  show pg (d + 2) 1 21 [.ref 48, .null] [.ref 81, .ref 48] (pu_s22 L xs) _
  refine pg_call (n := 5) (fun cl f => rfl) ⟨Nat.le_of_ble_eq_true rfl, ?_⟩
  show pg (d + 1) 5 0 [.ref 86] [] (pu_s23 L xs) _
  refine pg_ret (n := 22) (fun cl f => rfl) ?_
  show pg (d + 2) 1 26 [.ref 48, .null] [.ref 86, .ref 48] (pu_s25 L xs) _
  refine pg_call (n := 12) (fun cl f => rfl) ⟨Nat.le_of_ble_eq_true rfl, ?_⟩
  show pg (d + 1) 6 0 [.ref 92] [] (pu_s26 L xs) _
  refine pg_ret (n := 56) (fun cl f => rfl) ?_
  show pg (d + 2) 1 38 [.ref 48, .null] [.ref 92, .ref 48] (pu_s29 L xs) _
  refine pg_call (n := 13) (fun cl f => rfl) ⟨Nat.le_of_ble_eq_true rfl, ?_⟩
  show pg (d + 1) 7 0 [.ref 98] [] (pu_s30 L xs) _
  refine pg_call (n := 6) (fun cl f => rfl) ⟨Nat.le_of_ble_eq_true rfl, ?_⟩
  show pg d 6 0 [.ref 99] [] (pu_s31 L xs) _
  refine pg_ret (n := 56) (fun cl f => rfl) ?_
  show pg (d + 1) 7 6 [.ref 98] [.ref 99, .ref 98] (pu_s34 L xs) _
  refine pg_ret (n := 26) (fun cl f => rfl) ?_
  show pg (d + 2) 1 51 [.ref 48, .null] [.ref 98, .ref 48] (pu_s36 L xs) _
  refine pg_call (n := 9) (fun cl f => rfl) ⟨Nat.le_of_ble_eq_true rfl, ?_⟩
  show pg (d + 1) 8 0 [.ref 104] [] (pu_s37 L xs) _
  refine pg_ret (n := 21) (fun cl f => rfl) ?_
  show pg (d + 2) 1 60 [.ref 48, .null] [.ref 104, .ref 48] (pu_s38 L xs) _
  refine pg_call (n := 5) (fun cl f => rfl) ⟨Nat.le_of_ble_eq_true rfl, ?_⟩
  show pg (d + 1) 8 0 [.ref 108] [] (pu_s39 L xs) _
  refine pg_ret (n := 21) (fun cl f => rfl) ?_
  show pg (d + 2) 1 65 [.ref 48, .null] [.ref 108, .ref 48] (pu_s40 L xs) _
  refine pg_call (n := 5) (fun cl f => rfl) ⟨Nat.le_of_ble_eq_true rfl, ?_⟩
  show pg (d + 1) 9 0 [.ref 112] [] (pu_s41 L xs) _
  refine pg_ret (n := 25) (fun cl f => rfl) ?_
  show pg (d + 2) 1 70 [.ref 48, .null] [.ref 112, .ref 48] (pu_s43 L xs) _
  refine pg_call (n := 5) (fun cl f => rfl) ⟨Nat.le_of_ble_eq_true rfl, ?_⟩
  show pg (d + 1) 10 0 [.ref 117] [] (pu_s44 L xs) _
  refine pg_ret (n := 40) (fun cl f => rfl) ?_
  show pg (d + 2) 1 75 [.ref 48, .null] [.ref 117, .ref 48] (pu_s47 L xs) _
  refine pg_call (n := 5) (fun cl f => rfl) ⟨Nat.le_of_ble_eq_true rfl, ?_⟩
  show pg (d + 1) 11 0 [.ref 125] [] (pu_s48 L xs) _
  refine pg_ret (n := 35) (fun cl f => rfl) ?_
  show pg (d + 2) 1 80 [.ref 48, .null] [.ref 125, .ref 48] (pu_s50 L xs) _
  refine pg_call (n := 23) (fun cl f => rfl) ⟨Nat.le_of_ble_eq_true rfl, ?_⟩
  show pg (d + 1) 12 0 [.ref 133] [] (pu_s51 L xs) _
  refine pg_ret (n := 21) (fun cl f => rfl) ?_
  show pg (d + 2) 1 103 [.ref 48, .int 0] [.ref 133, .int 0, .ref 91] (pu_s52 L xs) _
  refine pg_call (n := 12) (fun cl f => rfl) ⟨Nat.le_of_ble_eq_true rfl, ?_⟩
  show pg (d + 1) 12 0 [.ref 134] [] (pu_s53 L xs) _
  refine pg_ret (n := 21) (fun cl f => rfl) ?_
  show pg (d + 2) 1 103 [.ref 48, .int 1] [.ref 134, .int 1, .ref 91] (pu_s54 L xs) _
  refine pg_call (n := 12) (fun cl f => rfl) ⟨Nat.le_of_ble_eq_true rfl, ?_⟩
  show pg (d + 1) 12 0 [.ref 135] [] (pu_s55 L xs) _
  refine pg_ret (n := 21) (fun cl f => rfl) ?_
  show pg (d + 2) 1 103 [.ref 48, .int 2] [.ref 135, .int 2, .ref 91] (pu_s56 L xs) _
  refine pg_call (n := 12) (fun cl f => rfl) ⟨Nat.le_of_ble_eq_true rfl, ?_⟩
  show pg (d + 1) 12 0 [.ref 136] [] (pu_s57 L xs) _
  refine pg_ret (n := 21) (fun cl f => rfl) ?_
  show pg (d + 2) 1 103 [.ref 48, .int 3] [.ref 136, .int 3, .ref 91] (pu_s58 L xs) _
  refine pg_call (n := 17) (fun cl f => rfl) ⟨Nat.le_of_ble_eq_true rfl, ?_⟩
  show pg (d + 1) 6 0 [.ref 137] [] (pu_s59 L xs) _
  refine pg_ret (n := 56) (fun cl f => rfl) ?_
  show pg (d + 2) 1 117 [.ref 48, .int 0] [.ref 137, .int 0, .ref 96] (pu_s62 L xs) _
  refine pg_call (n := 12) (fun cl f => rfl) ⟨Nat.le_of_ble_eq_true rfl, ?_⟩
  show pg (d + 1) 6 0 [.ref 141] [] (pu_s63 L xs) _
  refine pg_ret (n := 56) (fun cl f => rfl) ?_
  show pg (d + 2) 1 117 [.ref 48, .int 1] [.ref 141, .int 1, .ref 96] (pu_s66 L xs) _
  refine pg_ret (n := 52) (fun cl f => rfl) ?_
  show pg (d + 3) 0 3 [.ref 0, .null, .null, .null] [.ref 48] (pu_s67 L xs) _
  refine pg_call (n := 4) (fun cl f => rfl) ⟨Nat.le_of_ble_eq_true rfl, ?_⟩
  show pg (d + 2) 151 0 [.ref 145, .null] [] (pu_s68 L xs) _
  refine pg_call (n := 169) (fun cl f => rfl) ⟨Nat.le_of_ble_eq_true rfl, ?_⟩
  show pg (d + 1) 152 0 [.int 0] [] (pu_s78 L xs) _
  refine pg_ret (n := 4) (fun cl f => rfl) ?_
  show pg (d + 2) 151 169 [.ref 145, .int 0] [.int 2, .int 0, .ref 148] (pu_s78 L xs) _
  refine pg_call (n := 11) (fun cl f => rfl) ⟨Nat.le_of_ble_eq_true rfl, ?_⟩
  show pg (d + 1) 152 0 [.int 1] [] (pu_s79 L xs) _
  refine pg_ret (n := 4) (fun cl f => rfl) ?_
  show pg (d + 2) 151 169 [.ref 145, .int 1] [.int 20, .int 1, .ref 148] (pu_s79 L xs) _
  refine pg_call (n := 11) (fun cl f => rfl) ⟨Nat.le_of_ble_eq_true rfl, ?_⟩
  show pg (d + 1) 152 0 [.int 2] [] (pu_s80 L xs) _
  refine pg_ret (n := 4) (fun cl f => rfl) ?_
  show pg (d + 2) 151 169 [.ref 145, .int 2] [.int 40, .int 2, .ref 148] (pu_s80 L xs) _
  refine pg_call (n := 11) (fun cl f => rfl) ⟨Nat.le_of_ble_eq_true rfl, ?_⟩
  show pg (d + 1) 152 0 [.int 3] [] (pu_s81 L xs) _
  refine pg_ret (n := 4) (fun cl f => rfl) ?_
  show pg (d + 2) 151 169 [.ref 145, .int 3] [.int 30, .int 3, .ref 148] (pu_s81 L xs) _
  refine pg_call (n := 11) (fun cl f => rfl) ⟨Nat.le_of_ble_eq_true rfl, ?_⟩
  show pg (d + 1) 152 0 [.int 4] [] (pu_s82 L xs) _
  refine pg_ret (n := 4) (fun cl f => rfl) ?_
  show pg (d + 2) 151 169 [.ref 145, .int 4] [.int 10, .int 4, .ref 148] (pu_s82 L xs) _
  refine pg_call (n := 11) (fun cl f => rfl) ⟨Nat.le_of_ble_eq_true rfl, ?_⟩
  show pg (d + 1) 152 0 [.int 5] [] (pu_s83 L xs) _
  refine pg_ret (n := 4) (fun cl f => rfl) ?_
  show pg (d + 2) 151 169 [.ref 145, .int 5] [.int 300, .int 5, .ref 148] (pu_s83 L xs) _
  refine pg_call (n := 11) (fun cl f => rfl) ⟨Nat.le_of_ble_eq_true rfl, ?_⟩
  show pg (d + 1) 152 0 [.int 6] [] (pu_s84 L xs) _
  refine pg_ret (n := 4) (fun cl f => rfl) ?_
  show pg (d + 2) 151 169 [.ref 145, .int 6] [.int 60, .int 6, .ref 148] (pu_s84 L xs) _
  refine pg_call (n := 11) (fun cl f => rfl) ⟨Nat.le_of_ble_eq_true rfl, ?_⟩
  show pg (d + 1) 152 0 [.int 7] [] (pu_s85 L xs) _
  refine pg_ret (n := 4) (fun cl f => rfl) ?_
  show pg (d + 2) 151 169 [.ref 145, .int 7] [.int 150, .int 7, .ref 148] (pu_s85 L xs) _
  refine pg_call (n := 11) (fun cl f => rfl) ⟨Nat.le_of_ble_eq_true rfl, ?_⟩
  show pg (d + 1) 152 0 [.int 8] [] (pu_s86 L xs) _
  refine pg_ret (n := 4) (fun cl f => rfl) ?_
  show pg (d + 2) 151 169 [.ref 145, .int 8] [.int 0, .int 8, .ref 148] (pu_s86 L xs) _
  refine pg_ret (n := 52) (fun cl f => rfl) ?_
  show pg (d + 3) 0 7 [.ref 0, .ref 48, .null, .null] [.ref 145] (pu_s87 L xs) _
  refine pg_st (n := 3) (fun cl f => rfl) ?_
  show pg (d + 3) 0 10 [.ref 0, .ref 48, .ref 145, .int 0] [] (pu_s87 L xs) _
  exact K
