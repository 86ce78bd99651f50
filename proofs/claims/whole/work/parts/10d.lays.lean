theorem l0 : lay[0]? = some (.inl (10, [(2, 1), (2, 13), (0, 0), (2, 25), (2, 29), (2, 37), (2, 52), (2, 56), (2, 62), (2, 63), (2, 64), (2, 66)])) := rfl
theorem l1 : lay[1]? = some (.inl (7, [(2, 2), (2, 4), (2, 5), (0, 0)])) := rfl
theorem l2 : lay[2]? = some (.inl (8, [(0, 0), (2, 3), (1, 0)])) := rfl
theorem l3 : lay[3]? = some (.inr (0, 4, [])) := rfl
theorem l4 : lay[4]? = some (.inr (5, 3, [7, 9, 11])) := rfl
theorem l5 : lay[5]? = some (.inl (3, [(0, 0), (2, 6)])) := rfl
theorem l6 : lay[6]? = some (.inr (0, 36, [])) := rfl
theorem l7 : lay[7]? = some (.inl (3, [(0, 0), (2, 8)])) := rfl
theorem l8 : lay[8]? = some (.inr (0, 36, [])) := rfl
theorem l9 : lay[9]? = some (.inl (3, [(0, 0), (2, 10)])) := rfl
theorem l10 : lay[10]? = some (.inr (0, 36, [])) := rfl
theorem l11 : lay[11]? = some (.inl (3, [(0, 0), (2, 12)])) := rfl
theorem l12 : lay[12]? = some (.inr (0, 36, [])) := rfl
theorem l13 : lay[13]? = some (.inl (7, [(2, 14), (2, 16), (2, 17), (0, 0)])) := rfl
theorem l14 : lay[14]? = some (.inl (8, [(0, 0), (2, 15), (1, 0)])) := rfl
theorem l15 : lay[15]? = some (.inr (0, 4, [])) := rfl
theorem l16 : lay[16]? = some (.inr (5, 3, [19, 21, 23])) := rfl
theorem l17 : lay[17]? = some (.inl (3, [(0, 0), (2, 18)])) := rfl
theorem l18 : lay[18]? = some (.inr (0, 36, [])) := rfl
theorem l19 : lay[19]? = some (.inl (3, [(0, 0), (2, 20)])) := rfl
theorem l20 : lay[20]? = some (.inr (0, 36, [])) := rfl
theorem l21 : lay[21]? = some (.inl (3, [(0, 0), (2, 22)])) := rfl
theorem l22 : lay[22]? = some (.inr (0, 36, [])) := rfl
theorem l23 : lay[23]? = some (.inl (3, [(0, 0), (2, 24)])) := rfl
theorem l24 : lay[24]? = some (.inr (0, 36, [])) := rfl
theorem l25 : lay[25]? = some (.inl (4, [(0, 0), (2, 26), (2, 27), (2, 28), (2, 1), (3, 0), (3, 0)])) := rfl
theorem l26 : lay[26]? = some (.inr (0, 6, [])) := rfl
theorem l27 : lay[27]? = some (.inr (0, 6, [])) := rfl
theorem l28 : lay[28]? = some (.inr (0, 6, [])) := rfl
theorem l29 : lay[29]? = some (.inl (1, [(2, 1), (2, 25), (2, 30), (2, 33), (2, 32)])) := rfl
theorem l30 : lay[30]? = some (.inl (3, [(0, 0), (2, 31)])) := rfl
theorem l31 : lay[31]? = some (.inr (0, 36, [])) := rfl
theorem l32 : lay[32]? = some (.inr (0, 6, [])) := rfl
theorem l33 : lay[33]? = some (.inl (6, [(0, 0), (2, 34), (2, 35), (2, 36), (2, 2), (2, 30)])) := rfl
theorem l34 : lay[34]? = some (.inr (0, 6, [])) := rfl
theorem l35 : lay[35]? = some (.inr (0, 6, [])) := rfl
theorem l36 : lay[36]? = some (.inr (0, 6, [])) := rfl
theorem l37 : lay[37]? = some (.inl (2, [(2, 1), (2, 25), (2, 38), (2, 40), (2, 41)])) := rfl
theorem l38 : lay[38]? = some (.inl (3, [(0, 0), (2, 39)])) := rfl
theorem l39 : lay[39]? = some (.inr (0, 36, [])) := rfl
theorem l40 : lay[40]? = some (.inr (6, 2, [44, 48])) := rfl
theorem l41 : lay[41]? = some (.inr (7, 2, [42, 43])) := rfl
theorem l42 : lay[42]? = some (.inr (0, 36, [])) := rfl
theorem l43 : lay[43]? = some (.inr (0, 36, [])) := rfl
theorem l44 : lay[44]? = some (.inl (6, [(0, 0), (2, 45), (2, 46), (2, 47), (2, 2), (2, 38)])) := rfl
theorem l45 : lay[45]? = some (.inr (0, 6, [])) := rfl
theorem l46 : lay[46]? = some (.inr (0, 6, [])) := rfl
theorem l47 : lay[47]? = some (.inr (0, 6, [])) := rfl
theorem l48 : lay[48]? = some (.inl (6, [(0, 0), (2, 49), (2, 50), (2, 51), (2, 2), (2, 38)])) := rfl
theorem l49 : lay[49]? = some (.inr (0, 6, [])) := rfl
theorem l50 : lay[50]? = some (.inr (0, 6, [])) := rfl
theorem l51 : lay[51]? = some (.inr (0, 6, [])) := rfl
theorem l52 : lay[52]? = some (.inl (0, [(2, 2), (0, 0), (2, 53), (2, 55), (0, 0), (0, 0)])) := rfl
theorem l53 : lay[53]? = some (.inl (3, [(0, 0), (2, 54)])) := rfl
theorem l54 : lay[54]? = some (.inr (0, 36, [])) := rfl
theorem l55 : lay[55]? = some (.inr (0, 153, [])) := rfl
theorem l56 : lay[56]? = some (.inl (5, [(0, 0), (2, 57), (2, 58), (2, 59), (2, 2), (0, 0), (2, 60), (2, 61)])) := rfl
theorem l57 : lay[57]? = some (.inr (0, 6, [])) := rfl
theorem l58 : lay[58]? = some (.inr (0, 6, [])) := rfl
theorem l59 : lay[59]? = some (.inr (0, 6, [])) := rfl
theorem l60 : lay[60]? = some (.inr (0, 13, [])) := rfl
theorem l61 : lay[61]? = some (.inr (0, 4, [])) := rfl
theorem l62 : lay[62]? = some (.inr (0, 3, [])) := rfl
theorem l63 : lay[63]? = some (.inr (1, 36, [])) := rfl
theorem l64 : lay[64]? = some (.inl (9, [(0, 0), (2, 65)])) := rfl
theorem l65 : lay[65]? = some (.inr (2, 100, [])) := rfl
theorem l66 : lay[66]? = some (.inl (9, [(0, 0), (2, 67)])) := rfl
theorem l67 : lay[67]? = some (.inr (2, 100, [])) := rfl
theorem l68 : lay[68]? = some (.inl (11, [(0, 0), (2, 69), (2, 70), (2, 71), (2, 72), (0, 0), (0, 0), (2, 73), (0, 0), (0, 0), (0, 0), (0, 0), (0, 0), (0, 0), (2, 74), (2, 75), (2, 76), (2, 77), (2, 78), (2, 79), (0, 0), (0, 0), (0, 0), (2, 80), (0, 0), (0, 0), (0, 0), (0, 0), (0, 0), (2, 81), (2, 82), (2, 83), (2, 84), (0, 0)])) := rfl
theorem l69 : lay[69]? = some (.inr (0, 4, [])) := rfl
theorem l70 : lay[70]? = some (.inr (3, 64, [])) := rfl
theorem l71 : lay[71]? = some (.inr (0, 6, [])) := rfl
theorem l72 : lay[72]? = some (.inr (0, 216, [])) := rfl
theorem l73 : lay[73]? = some (.inr (0, 256, [])) := rfl
theorem l74 : lay[74]? = some (.inr (0, 13, [])) := rfl
theorem l75 : lay[75]? = some (.inr (0, 3, [])) := rfl
theorem l76 : lay[76]? = some (.inr (1, 36, [])) := rfl
theorem l77 : lay[77]? = some (.inr (4, 18, [])) := rfl
theorem l78 : lay[78]? = some (.inr (0, 4, [])) := rfl
theorem l79 : lay[79]? = some (.inr (0, 100, [])) := rfl
theorem l80 : lay[80]? = some (.inr (0, 3, [])) := rfl
theorem l81 : lay[81]? = some (.inr (0, 4, [])) := rfl
theorem l82 : lay[82]? = some (.inr (3, 64, [])) := rfl
theorem l83 : lay[83]? = some (.inr (0, 6, [])) := rfl
theorem l84 : lay[84]? = some (.inr (0, 216, [])) := rfl
