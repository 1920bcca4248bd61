theorem hscr {L : Nat} {σ : Sg} : mal (mSh, L, σ) 1000000 = some L := rfl
def bk_L_law_18 : List mI := [(.iload_n 3, 1, 0, 0, 0, []), (.aload_n 0, 1, 0, 0, 0, []), (.arraylength, 1, 0, 0, 0, []), (.bipush 6, 2, 0, 0, 0, [(6, 0)]), (.isub, 1, 0, 0, 0, []), (.if_icmp .gt 1537, 3, 1561, 0, 0, []), (.aload_n 0, 1, 0, 0, 0, []), (.iload_n 3, 1, 0, 0, 0, []), (.iaload, 1, 0, 0, 0, []), (.bipush 63, 2, 0, 0, 0, [(63, 0)]), (.iand, 1, 0, 0, 0, []), (.tableswitch 1522 0 40 #[179, 192, 235, 278, 311, 334, 367, 400, 433, 466, 489, 552, 575, 638, 661, 684, 727, 760, 803, 836, 879, 922, 945, 978, 991, 1034, 1047, 1070, 1113, 1166, 1189, 1232, 1255, 1298, 1341, 1404, 1417, 1430, 1453, 1476, 1499], 179, 1555, 0, 0, [(0, 212), (1, 225), (2, 268), (3, 311), (4, 344), (5, 367), (6, 400), (7, 433), (8, 466), (9, 499), (10, 522), (11, 585), (12, 608), (13, 671), (14, 694), (15, 717), (16, 760), (17, 793), (18, 836), (19, 869), (20, 912), (21, 955), (22, 978), (23, 1011), (24, 1024), (25, 1067), (26, 1080), (27, 1103), (28, 1146), (29, 1199), (30, 1222), (31, 1265), (32, 1288), (33, 1331), (34, 1374), (35, 1437), (36, 1450), (37, 1463), (38, 1486), (39, 1509), (40, 1532)])]
theorem ck_L_law_18 : mChk 231 18 bk_L_law_18 = true := by decide +kernel
def bk_L_law_212 : List mI := [(.aload_n 1, 1, 0, 0, 0, []), (.invokevirtual 13, 3, 81, 0, 395, []), (.aload_n 2, 1, 0, 0, 0, []), (.invokevirtual 17, 3, 157, 0, 1077, []), (.if_icmp .eq 1335, 3, 1555, 0, 0, []), (.iconst 0, 1, 0, 0, 0, [(0, 0)]), (.ireturn, 1, 0, 0, 0, [])]
theorem ck_L_law_212 : mChk 231 212 bk_L_law_212 = true := by decide +kernel
def bk_L_law_225 : List mI := [(.aload_n 1, 1, 0, 0, 0, []), (.aload_n 0, 1, 0, 0, 0, []), (.iload_n 3, 1, 0, 0, 0, []), (.iconst 1, 1, 0, 0, 0, [(1, 0)]), (.iadd, 1, 0, 0, 0, []), (.iaload, 1, 0, 0, 0, []), (.aload_n 0, 1, 0, 0, 0, []), (.iload_n 3, 1, 0, 0, 0, []), (.iconst 2, 1, 0, 0, 0, [(2, 0)]), (.iadd, 1, 0, 0, 0, []), (.iaload, 1, 0, 0, 0, []), (.aload_n 0, 1, 0, 0, 0, []), (.iload_n 3, 1, 0, 0, 0, []), (.iconst 3, 1, 0, 0, 0, [(3, 0)]), (.iadd, 1, 0, 0, 0, []), (.iaload, 1, 0, 0, 0, []), (.invokevirtual 18, 3, 82, 0, 419, []), (.aload_n 2, 1, 0, 0, 0, []), (.aload_n 0, 1, 0, 0, 0, []), (.iload_n 3, 1, 0, 0, 0, []), (.iconst 1, 1, 0, 0, 0, [(1, 0)]), (.iadd, 1, 0, 0, 0, []), (.iaload, 1, 0, 0, 0, []), (.aload_n 0, 1, 0, 0, 0, []), (.iload_n 3, 1, 0, 0, 0, []), (.iconst 2, 1, 0, 0, 0, [(2, 0)]), (.iadd, 1, 0, 0, 0, []), (.iaload, 1, 0, 0, 0, []), (.aload_n 0, 1, 0, 0, 0, []), (.iload_n 3, 1, 0, 0, 0, []), (.iconst 3, 1, 0, 0, 0, [(3, 0)]), (.iadd, 1, 0, 0, 0, []), (.iaload, 1, 0, 0, 0, []), (.invokevirtual 22, 3, 160, 0, 1081, []), (.if_icmp .eq 1292, 3, 1555, 0, 0, []), (.iconst 0, 1, 0, 0, 0, [(0, 0)]), (.ireturn, 1, 0, 0, 0, [])]
theorem ck_L_law_225 : mChk 231 225 bk_L_law_225 = true := by decide +kernel
def bk_L_law_268 : List mI := [(.aload_n 1, 1, 0, 0, 0, []), (.aload_n 0, 1, 0, 0, 0, []), (.iload_n 3, 1, 0, 0, 0, []), (.iconst 1, 1, 0, 0, 0, [(1, 0)]), (.iadd, 1, 0, 0, 0, []), (.iaload, 1, 0, 0, 0, []), (.aload_n 0, 1, 0, 0, 0, []), (.iload_n 3, 1, 0, 0, 0, []), (.iconst 2, 1, 0, 0, 0, [(2, 0)]), (.iadd, 1, 0, 0, 0, []), (.iaload, 1, 0, 0, 0, []), (.aload_n 0, 1, 0, 0, 0, []), (.iload_n 3, 1, 0, 0, 0, []), (.iconst 3, 1, 0, 0, 0, [(3, 0)]), (.iadd, 1, 0, 0, 0, []), (.iaload, 1, 0, 0, 0, []), (.invokevirtual 23, 3, 83, 0, 441, []), (.aload_n 2, 1, 0, 0, 0, []), (.aload_n 0, 1, 0, 0, 0, []), (.iload_n 3, 1, 0, 0, 0, []), (.iconst 1, 1, 0, 0, 0, [(1, 0)]), (.iadd, 1, 0, 0, 0, []), (.iaload, 1, 0, 0, 0, []), (.aload_n 0, 1, 0, 0, 0, []), (.iload_n 3, 1, 0, 0, 0, []), (.iconst 2, 1, 0, 0, 0, [(2, 0)]), (.iadd, 1, 0, 0, 0, []), (.iaload, 1, 0, 0, 0, []), (.aload_n 0, 1, 0, 0, 0, []), (.iload_n 3, 1, 0, 0, 0, []), (.iconst 3, 1, 0, 0, 0, [(3, 0)]), (.iadd, 1, 0, 0, 0, []), (.iaload, 1, 0, 0, 0, []), (.invokevirtual 26, 3, 161, 0, 1103, []), (.if_icmp .eq 1249, 3, 1555, 0, 0, []), (.iconst 0, 1, 0, 0, 0, [(0, 0)]), (.ireturn, 1, 0, 0, 0, [])]
theorem ck_L_law_268 : mChk 231 268 bk_L_law_268 = true := by decide +kernel
def bk_L_law_311 : List mI := [(.aload_n 1, 1, 0, 0, 0, []), (.aload_n 0, 1, 0, 0, 0, []), (.iload_n 3, 1, 0, 0, 0, []), (.iconst 1, 1, 0, 0, 0, [(1, 0)]), (.iadd, 1, 0, 0, 0, []), (.iaload, 1, 0, 0, 0, []), (.aload_n 0, 1, 0, 0, 0, []), (.iload_n 3, 1, 0, 0, 0, []), (.iconst 2, 1, 0, 0, 0, [(2, 0)]), (.iadd, 1, 0, 0, 0, []), (.iaload, 1, 0, 0, 0, []), (.invokevirtual 27, 3, 84, 0, 446, []), (.aload_n 2, 1, 0, 0, 0, []), (.aload_n 0, 1, 0, 0, 0, []), (.iload_n 3, 1, 0, 0, 0, []), (.iconst 1, 1, 0, 0, 0, [(1, 0)]), (.iadd, 1, 0, 0, 0, []), (.iaload, 1, 0, 0, 0, []), (.aload_n 0, 1, 0, 0, 0, []), (.iload_n 3, 1, 0, 0, 0, []), (.iconst 2, 1, 0, 0, 0, [(2, 0)]), (.iadd, 1, 0, 0, 0, []), (.iaload, 1, 0, 0, 0, []), (.invokevirtual 31, 3, 163, 0, 1108, []), (.if_icmp .eq 1216, 3, 1555, 0, 0, []), (.iconst 0, 1, 0, 0, 0, [(0, 0)]), (.ireturn, 1, 0, 0, 0, [])]
theorem ck_L_law_311 : mChk 231 311 bk_L_law_311 = true := by decide +kernel
def bk_L_law_344 : List mI := [(.aload_n 1, 1, 0, 0, 0, []), (.aload_n 0, 1, 0, 0, 0, []), (.iload_n 3, 1, 0, 0, 0, []), (.iconst 1, 1, 0, 0, 0, [(1, 0)]), (.iadd, 1, 0, 0, 0, []), (.iaload, 1, 0, 0, 0, []), (.invokevirtual 32, 3, 85, 0, 458, []), (.aload_n 2, 1, 0, 0, 0, []), (.aload_n 0, 1, 0, 0, 0, []), (.iload_n 3, 1, 0, 0, 0, []), (.iconst 1, 1, 0, 0, 0, [(1, 0)]), (.iadd, 1, 0, 0, 0, []), (.iaload, 1, 0, 0, 0, []), (.invokevirtual 36, 3, 164, 0, 1119, []), (.if_icmp .eq 1193, 3, 1555, 0, 0, []), (.iconst 0, 1, 0, 0, 0, [(0, 0)]), (.ireturn, 1, 0, 0, 0, [])]
theorem ck_L_law_344 : mChk 231 344 bk_L_law_344 = true := by decide +kernel
def bk_L_law_367 : List mI := [(.aload_n 1, 1, 0, 0, 0, []), (.aload_n 0, 1, 0, 0, 0, []), (.iload_n 3, 1, 0, 0, 0, []), (.iconst 1, 1, 0, 0, 0, [(1, 0)]), (.iadd, 1, 0, 0, 0, []), (.iaload, 1, 0, 0, 0, []), (.aload_n 0, 1, 0, 0, 0, []), (.iload_n 3, 1, 0, 0, 0, []), (.iconst 2, 1, 0, 0, 0, [(2, 0)]), (.iadd, 1, 0, 0, 0, []), (.iaload, 1, 0, 0, 0, []), (.invokevirtual 37, 3, 86, 0, 466, []), (.aload_n 2, 1, 0, 0, 0, []), (.aload_n 0, 1, 0, 0, 0, []), (.iload_n 3, 1, 0, 0, 0, []), (.iconst 1, 1, 0, 0, 0, [(1, 0)]), (.iadd, 1, 0, 0, 0, []), (.iaload, 1, 0, 0, 0, []), (.aload_n 0, 1, 0, 0, 0, []), (.iload_n 3, 1, 0, 0, 0, []), (.iconst 2, 1, 0, 0, 0, [(2, 0)]), (.iadd, 1, 0, 0, 0, []), (.iaload, 1, 0, 0, 0, []), (.invokevirtual 40, 3, 165, 0, 1127, []), (.if_icmp .eq 1160, 3, 1555, 0, 0, []), (.iconst 0, 1, 0, 0, 0, [(0, 0)]), (.ireturn, 1, 0, 0, 0, [])]
theorem ck_L_law_367 : mChk 231 367 bk_L_law_367 = true := by decide +kernel
def bk_L_law_400 : List mI := [(.aload_n 1, 1, 0, 0, 0, []), (.aload_n 0, 1, 0, 0, 0, []), (.iload_n 3, 1, 0, 0, 0, []), (.iconst 1, 1, 0, 0, 0, [(1, 0)]), (.iadd, 1, 0, 0, 0, []), (.iaload, 1, 0, 0, 0, []), (.aload_n 0, 1, 0, 0, 0, []), (.iload_n 3, 1, 0, 0, 0, []), (.iconst 2, 1, 0, 0, 0, [(2, 0)]), (.iadd, 1, 0, 0, 0, []), (.iaload, 1, 0, 0, 0, []), (.invokevirtual 41, 3, 87, 0, 482, []), (.aload_n 2, 1, 0, 0, 0, []), (.aload_n 0, 1, 0, 0, 0, []), (.iload_n 3, 1, 0, 0, 0, []), (.iconst 1, 1, 0, 0, 0, [(1, 0)]), (.iadd, 1, 0, 0, 0, []), (.iaload, 1, 0, 0, 0, []), (.aload_n 0, 1, 0, 0, 0, []), (.iload_n 3, 1, 0, 0, 0, []), (.iconst 2, 1, 0, 0, 0, [(2, 0)]), (.iadd, 1, 0, 0, 0, []), (.iaload, 1, 0, 0, 0, []), (.invokevirtual 44, 3, 171, 0, 1132, []), (.if_icmp .eq 1127, 3, 1555, 0, 0, []), (.iconst 0, 1, 0, 0, 0, [(0, 0)]), (.ireturn, 1, 0, 0, 0, [])]
theorem ck_L_law_400 : mChk 231 400 bk_L_law_400 = true := by decide +kernel
def bk_L_law_433 : List mI := [(.aload_n 1, 1, 0, 0, 0, []), (.aload_n 0, 1, 0, 0, 0, []), (.iload_n 3, 1, 0, 0, 0, []), (.iconst 1, 1, 0, 0, 0, [(1, 0)]), (.iadd, 1, 0, 0, 0, []), (.iaload, 1, 0, 0, 0, []), (.aload_n 0, 1, 0, 0, 0, []), (.iload_n 3, 1, 0, 0, 0, []), (.iconst 2, 1, 0, 0, 0, [(2, 0)]), (.iadd, 1, 0, 0, 0, []), (.iaload, 1, 0, 0, 0, []), (.invokevirtual 45, 3, 88, 0, 557, []), (.aload_n 2, 1, 0, 0, 0, []), (.aload_n 0, 1, 0, 0, 0, []), (.iload_n 3, 1, 0, 0, 0, []), (.iconst 1, 1, 0, 0, 0, [(1, 0)]), (.iadd, 1, 0, 0, 0, []), (.iaload, 1, 0, 0, 0, []), (.aload_n 0, 1, 0, 0, 0, []), (.iload_n 3, 1, 0, 0, 0, []), (.iconst 2, 1, 0, 0, 0, [(2, 0)]), (.iadd, 1, 0, 0, 0, []), (.iaload, 1, 0, 0, 0, []), (.invokevirtual 48, 3, 173, 0, 1161, []), (.if_icmp .eq 1094, 3, 1555, 0, 0, []), (.iconst 0, 1, 0, 0, 0, [(0, 0)]), (.ireturn, 1, 0, 0, 0, [])]
theorem ck_L_law_433 : mChk 231 433 bk_L_law_433 = true := by decide +kernel
def bk_L_law_466 : List mI := [(.aload_n 1, 1, 0, 0, 0, []), (.aload_n 0, 1, 0, 0, 0, []), (.iload_n 3, 1, 0, 0, 0, []), (.iconst 1, 1, 0, 0, 0, [(1, 0)]), (.iadd, 1, 0, 0, 0, []), (.iaload, 1, 0, 0, 0, []), (.aload_n 0, 1, 0, 0, 0, []), (.iload_n 3, 1, 0, 0, 0, []), (.iconst 2, 1, 0, 0, 0, [(2, 0)]), (.iadd, 1, 0, 0, 0, []), (.iaload, 1, 0, 0, 0, []), (.invokevirtual 49, 3, 89, 0, 566, []), (.aload_n 2, 1, 0, 0, 0, []), (.aload_n 0, 1, 0, 0, 0, []), (.iload_n 3, 1, 0, 0, 0, []), (.iconst 1, 1, 0, 0, 0, [(1, 0)]), (.iadd, 1, 0, 0, 0, []), (.iaload, 1, 0, 0, 0, []), (.aload_n 0, 1, 0, 0, 0, []), (.iload_n 3, 1, 0, 0, 0, []), (.iconst 2, 1, 0, 0, 0, [(2, 0)]), (.iadd, 1, 0, 0, 0, []), (.iaload, 1, 0, 0, 0, []), (.invokevirtual 52, 3, 177, 0, 1172, []), (.if_icmp .eq 1061, 3, 1555, 0, 0, []), (.iconst 0, 1, 0, 0, 0, [(0, 0)]), (.ireturn, 1, 0, 0, 0, [])]
theorem ck_L_law_466 : mChk 231 466 bk_L_law_466 = true := by decide +kernel
def bk_L_law_499 : List mI := [(.aload_n 1, 1, 0, 0, 0, []), (.aload_n 0, 1, 0, 0, 0, []), (.iload_n 3, 1, 0, 0, 0, []), (.iconst 1, 1, 0, 0, 0, [(1, 0)]), (.iadd, 1, 0, 0, 0, []), (.iaload, 1, 0, 0, 0, []), (.invokevirtual 53, 3, 90, 0, 571, []), (.aload_n 2, 1, 0, 0, 0, []), (.aload_n 0, 1, 0, 0, 0, []), (.iload_n 3, 1, 0, 0, 0, []), (.iconst 1, 1, 0, 0, 0, [(1, 0)]), (.iadd, 1, 0, 0, 0, []), (.iaload, 1, 0, 0, 0, []), (.invokevirtual 56, 3, 178, 0, 1183, []), (.if_icmp .eq 1038, 3, 1555, 0, 0, []), (.iconst 0, 1, 0, 0, 0, [(0, 0)]), (.ireturn, 1, 0, 0, 0, [])]
theorem ck_L_law_499 : mChk 231 499 bk_L_law_499 = true := by decide +kernel
def bk_L_law_522 : List mI := [(.aload_n 1, 1, 0, 0, 0, []), (.aload_n 0, 1, 0, 0, 0, []), (.iload_n 3, 1, 0, 0, 0, []), (.iconst 1, 1, 0, 0, 0, [(1, 0)]), (.iadd, 1, 0, 0, 0, []), (.iaload, 1, 0, 0, 0, []), (.i2l, 1, 0, 0, 0, []), (.bipush 32, 2, 0, 0, 0, [(32, 0)]), (.lshl, 1, 0, 0, 0, []), (.aload_n 0, 1, 0, 0, 0, []), (.iload_n 3, 1, 0, 0, 0, []), (.iconst 2, 1, 0, 0, 0, [(2, 0)]), (.iadd, 1, 0, 0, 0, []), (.iaload, 1, 0, 0, 0, []), (.i2l, 1, 0, 0, 0, []), (.ldc2_w 57, 3, 4294967295, 0, 1381, []), (.land, 1, 0, 0, 0, []), (.lor, 1, 0, 0, 0, []), (.aload_n 0, 1, 0, 0, 0, []), (.iload_n 3, 1, 0, 0, 0, []), (.iconst 3, 1, 0, 0, 0, [(3, 0)]), (.iadd, 1, 0, 0, 0, []), (.iaload, 1, 0, 0, 0, []), (.invokevirtual 59, 3, 91, 0, 575, []), (.aload_n 2, 1, 0, 0, 0, []), (.aload_n 0, 1, 0, 0, 0, []), (.iload_n 3, 1, 0, 0, 0, []), (.iconst 1, 1, 0, 0, 0, [(1, 0)]), (.iadd, 1, 0, 0, 0, []), (.iaload, 1, 0, 0, 0, []), (.i2l, 1, 0, 0, 0, []), (.bipush 32, 2, 0, 0, 0, [(32, 0)]), (.lshl, 1, 0, 0, 0, []), (.aload_n 0, 1, 0, 0, 0, []), (.iload_n 3, 1, 0, 0, 0, []), (.iconst 2, 1, 0, 0, 0, [(2, 0)]), (.iadd, 1, 0, 0, 0, []), (.iaload, 1, 0, 0, 0, []), (.i2l, 1, 0, 0, 0, []), (.ldc2_w 57, 3, 4294967295, 0, 1381, []), (.land, 1, 0, 0, 0, []), (.lor, 1, 0, 0, 0, []), (.aload_n 0, 1, 0, 0, 0, []), (.iload_n 3, 1, 0, 0, 0, []), (.iconst 3, 1, 0, 0, 0, [(3, 0)]), (.iadd, 1, 0, 0, 0, []), (.iaload, 1, 0, 0, 0, []), (.invokevirtual 63, 3, 153, 0, 1002, []), (.if_icmp .eq 975, 3, 1555, 0, 0, []), (.iconst 0, 1, 0, 0, 0, [(0, 0)]), (.ireturn, 1, 0, 0, 0, [])]
theorem ck_L_law_522 : mChk 231 522 bk_L_law_522 = true := by decide +kernel
def bk_L_law_585 : List mI := [(.aload_n 1, 1, 0, 0, 0, []), (.aload_n 0, 1, 0, 0, 0, []), (.iload_n 3, 1, 0, 0, 0, []), (.iconst 1, 1, 0, 0, 0, [(1, 0)]), (.iadd, 1, 0, 0, 0, []), (.iaload, 1, 0, 0, 0, []), (.invokevirtual 64, 3, 92, 0, 584, []), (.aload_n 2, 1, 0, 0, 0, []), (.aload_n 0, 1, 0, 0, 0, []), (.iload_n 3, 1, 0, 0, 0, []), (.iconst 1, 1, 0, 0, 0, [(1, 0)]), (.iadd, 1, 0, 0, 0, []), (.iaload, 1, 0, 0, 0, []), (.invokevirtual 67, 3, 154, 0, 1016, []), (.if_icmp .eq 952, 3, 1555, 0, 0, []), (.iconst 0, 1, 0, 0, 0, [(0, 0)]), (.ireturn, 1, 0, 0, 0, [])]
theorem ck_L_law_585 : mChk 231 585 bk_L_law_585 = true := by decide +kernel
def bk_L_law_608 : List mI := [(.aload_n 1, 1, 0, 0, 0, []), (.aload_n 0, 1, 0, 0, 0, []), (.iload_n 3, 1, 0, 0, 0, []), (.iconst 1, 1, 0, 0, 0, [(1, 0)]), (.iadd, 1, 0, 0, 0, []), (.iaload, 1, 0, 0, 0, []), (.aload_n 0, 1, 0, 0, 0, []), (.iload_n 3, 1, 0, 0, 0, []), (.iconst 2, 1, 0, 0, 0, [(2, 0)]), (.iadd, 1, 0, 0, 0, []), (.iaload, 1, 0, 0, 0, []), (.aload_n 0, 1, 0, 0, 0, []), (.iload_n 3, 1, 0, 0, 0, []), (.iconst 3, 1, 0, 0, 0, [(3, 0)]), (.iadd, 1, 0, 0, 0, []), (.iaload, 1, 0, 0, 0, []), (.aload_n 0, 1, 0, 0, 0, []), (.iload_n 3, 1, 0, 0, 0, []), (.iconst 4, 1, 0, 0, 0, [(4, 0)]), (.iadd, 1, 0, 0, 0, []), (.iaload, 1, 0, 0, 0, []), (.aload_n 0, 1, 0, 0, 0, []), (.iload_n 3, 1, 0, 0, 0, []), (.iconst 5, 1, 0, 0, 0, [(5, 0)]), (.iadd, 1, 0, 0, 0, []), (.iaload, 1, 0, 0, 0, []), (.invokevirtual 68, 3, 93, 0, 644, []), (.aload_n 2, 1, 0, 0, 0, []), (.aload_n 0, 1, 0, 0, 0, []), (.iload_n 3, 1, 0, 0, 0, []), (.iconst 1, 1, 0, 0, 0, [(1, 0)]), (.iadd, 1, 0, 0, 0, []), (.iaload, 1, 0, 0, 0, []), (.aload_n 0, 1, 0, 0, 0, []), (.iload_n 3, 1, 0, 0, 0, []), (.iconst 2, 1, 0, 0, 0, [(2, 0)]), (.iadd, 1, 0, 0, 0, []), (.iaload, 1, 0, 0, 0, []), (.aload_n 0, 1, 0, 0, 0, []), (.iload_n 3, 1, 0, 0, 0, []), (.iconst 3, 1, 0, 0, 0, [(3, 0)]), (.iadd, 1, 0, 0, 0, []), (.iaload, 1, 0, 0, 0, []), (.aload_n 0, 1, 0, 0, 0, []), (.iload_n 3, 1, 0, 0, 0, []), (.iconst 4, 1, 0, 0, 0, [(4, 0)]), (.iadd, 1, 0, 0, 0, []), (.iaload, 1, 0, 0, 0, []), (.aload_n 0, 1, 0, 0, 0, []), (.iload_n 3, 1, 0, 0, 0, []), (.iconst 5, 1, 0, 0, 0, [(5, 0)]), (.iadd, 1, 0, 0, 0, []), (.iaload, 1, 0, 0, 0, []), (.invokevirtual 72, 3, 156, 0, 1066, []), (.if_icmp .eq 889, 3, 1555, 0, 0, []), (.iconst 0, 1, 0, 0, 0, [(0, 0)]), (.ireturn, 1, 0, 0, 0, [])]
theorem ck_L_law_608 : mChk 231 608 bk_L_law_608 = true := by decide +kernel
def bk_L_law_671 : List mI := [(.aload_n 1, 1, 0, 0, 0, []), (.aload_n 0, 1, 0, 0, 0, []), (.iload_n 3, 1, 0, 0, 0, []), (.iconst 1, 1, 0, 0, 0, [(1, 0)]), (.iadd, 1, 0, 0, 0, []), (.iaload, 1, 0, 0, 0, []), (.invokevirtual 73, 3, 94, 0, 649, []), (.aload_n 2, 1, 0, 0, 0, []), (.aload_n 0, 1, 0, 0, 0, []), (.iload_n 3, 1, 0, 0, 0, []), (.iconst 1, 1, 0, 0, 0, [(1, 0)]), (.iadd, 1, 0, 0, 0, []), (.iaload, 1, 0, 0, 0, []), (.invokevirtual 76, 3, 182, 0, 1187, []), (.if_icmp .eq 866, 3, 1555, 0, 0, []), (.iconst 0, 1, 0, 0, 0, [(0, 0)]), (.ireturn, 1, 0, 0, 0, [])]
theorem ck_L_law_671 : mChk 231 671 bk_L_law_671 = true := by decide +kernel
def bk_L_law_694 : List mI := [(.aload_n 1, 1, 0, 0, 0, []), (.aload_n 0, 1, 0, 0, 0, []), (.iload_n 3, 1, 0, 0, 0, []), (.iconst 1, 1, 0, 0, 0, [(1, 0)]), (.iadd, 1, 0, 0, 0, []), (.iaload, 1, 0, 0, 0, []), (.invokevirtual 77, 3, 95, 0, 672, []), (.aload_n 2, 1, 0, 0, 0, []), (.aload_n 0, 1, 0, 0, 0, []), (.iload_n 3, 1, 0, 0, 0, []), (.iconst 1, 1, 0, 0, 0, [(1, 0)]), (.iadd, 1, 0, 0, 0, []), (.iaload, 1, 0, 0, 0, []), (.invokevirtual 80, 3, 184, 0, 1205, []), (.if_icmp .eq 843, 3, 1555, 0, 0, []), (.iconst 0, 1, 0, 0, 0, [(0, 0)]), (.ireturn, 1, 0, 0, 0, [])]
theorem ck_L_law_694 : mChk 231 694 bk_L_law_694 = true := by decide +kernel
def bk_L_law_717 : List mI := [(.aload_n 1, 1, 0, 0, 0, []), (.aload_n 0, 1, 0, 0, 0, []), (.iload_n 3, 1, 0, 0, 0, []), (.iconst 1, 1, 0, 0, 0, [(1, 0)]), (.iadd, 1, 0, 0, 0, []), (.iaload, 1, 0, 0, 0, []), (.aload_n 0, 1, 0, 0, 0, []), (.iload_n 3, 1, 0, 0, 0, []), (.iconst 2, 1, 0, 0, 0, [(2, 0)]), (.iadd, 1, 0, 0, 0, []), (.iaload, 1, 0, 0, 0, []), (.aload_n 0, 1, 0, 0, 0, []), (.iload_n 3, 1, 0, 0, 0, []), (.iconst 3, 1, 0, 0, 0, [(3, 0)]), (.iadd, 1, 0, 0, 0, []), (.iaload, 1, 0, 0, 0, []), (.invokevirtual 81, 3, 97, 0, 685, []), (.aload_n 2, 1, 0, 0, 0, []), (.aload_n 0, 1, 0, 0, 0, []), (.iload_n 3, 1, 0, 0, 0, []), (.iconst 1, 1, 0, 0, 0, [(1, 0)]), (.iadd, 1, 0, 0, 0, []), (.iaload, 1, 0, 0, 0, []), (.aload_n 0, 1, 0, 0, 0, []), (.iload_n 3, 1, 0, 0, 0, []), (.iconst 2, 1, 0, 0, 0, [(2, 0)]), (.iadd, 1, 0, 0, 0, []), (.iaload, 1, 0, 0, 0, []), (.aload_n 0, 1, 0, 0, 0, []), (.iload_n 3, 1, 0, 0, 0, []), (.iconst 3, 1, 0, 0, 0, [(3, 0)]), (.iadd, 1, 0, 0, 0, []), (.iaload, 1, 0, 0, 0, []), (.invokevirtual 84, 3, 187, 0, 1214, []), (.if_icmp .eq 800, 3, 1555, 0, 0, []), (.iconst 0, 1, 0, 0, 0, [(0, 0)]), (.ireturn, 1, 0, 0, 0, [])]
theorem ck_L_law_717 : mChk 231 717 bk_L_law_717 = true := by decide +kernel
def bk_L_law_760 : List mI := [(.aload_n 1, 1, 0, 0, 0, []), (.aload_n 0, 1, 0, 0, 0, []), (.iload_n 3, 1, 0, 0, 0, []), (.iconst 1, 1, 0, 0, 0, [(1, 0)]), (.iadd, 1, 0, 0, 0, []), (.iaload, 1, 0, 0, 0, []), (.aload_n 0, 1, 0, 0, 0, []), (.iload_n 3, 1, 0, 0, 0, []), (.iconst 2, 1, 0, 0, 0, [(2, 0)]), (.iadd, 1, 0, 0, 0, []), (.iaload, 1, 0, 0, 0, []), (.invokevirtual 85, 3, 98, 0, 703, []), (.aload_n 2, 1, 0, 0, 0, []), (.aload_n 0, 1, 0, 0, 0, []), (.iload_n 3, 1, 0, 0, 0, []), (.iconst 1, 1, 0, 0, 0, [(1, 0)]), (.iadd, 1, 0, 0, 0, []), (.iaload, 1, 0, 0, 0, []), (.aload_n 0, 1, 0, 0, 0, []), (.iload_n 3, 1, 0, 0, 0, []), (.iconst 2, 1, 0, 0, 0, [(2, 0)]), (.iadd, 1, 0, 0, 0, []), (.iaload, 1, 0, 0, 0, []), (.invokevirtual 88, 3, 188, 0, 1229, []), (.if_icmp .eq 767, 3, 1555, 0, 0, []), (.iconst 0, 1, 0, 0, 0, [(0, 0)]), (.ireturn, 1, 0, 0, 0, [])]
theorem ck_L_law_760 : mChk 231 760 bk_L_law_760 = true := by decide +kernel
def bk_L_law_793 : List mI := [(.aload_n 1, 1, 0, 0, 0, []), (.aload_n 0, 1, 0, 0, 0, []), (.iload_n 3, 1, 0, 0, 0, []), (.iconst 1, 1, 0, 0, 0, [(1, 0)]), (.iadd, 1, 0, 0, 0, []), (.iaload, 1, 0, 0, 0, []), (.aload_n 0, 1, 0, 0, 0, []), (.iload_n 3, 1, 0, 0, 0, []), (.iconst 2, 1, 0, 0, 0, [(2, 0)]), (.iadd, 1, 0, 0, 0, []), (.iaload, 1, 0, 0, 0, []), (.aload_n 0, 1, 0, 0, 0, []), (.iload_n 3, 1, 0, 0, 0, []), (.iconst 3, 1, 0, 0, 0, [(3, 0)]), (.iadd, 1, 0, 0, 0, []), (.iaload, 1, 0, 0, 0, []), (.invokevirtual 89, 3, 99, 0, 707, []), (.aload_n 2, 1, 0, 0, 0, []), (.aload_n 0, 1, 0, 0, 0, []), (.iload_n 3, 1, 0, 0, 0, []), (.iconst 1, 1, 0, 0, 0, [(1, 0)]), (.iadd, 1, 0, 0, 0, []), (.iaload, 1, 0, 0, 0, []), (.aload_n 0, 1, 0, 0, 0, []), (.iload_n 3, 1, 0, 0, 0, []), (.iconst 2, 1, 0, 0, 0, [(2, 0)]), (.iadd, 1, 0, 0, 0, []), (.iaload, 1, 0, 0, 0, []), (.aload_n 0, 1, 0, 0, 0, []), (.iload_n 3, 1, 0, 0, 0, []), (.iconst 3, 1, 0, 0, 0, [(3, 0)]), (.iadd, 1, 0, 0, 0, []), (.iaload, 1, 0, 0, 0, []), (.invokevirtual 92, 3, 190, 0, 1233, []), (.if_icmp .eq 724, 3, 1555, 0, 0, []), (.iconst 0, 1, 0, 0, 0, [(0, 0)]), (.ireturn, 1, 0, 0, 0, [])]
theorem ck_L_law_793 : mChk 231 793 bk_L_law_793 = true := by decide +kernel
def bk_L_law_836 : List mI := [(.aload_n 1, 1, 0, 0, 0, []), (.aload_n 0, 1, 0, 0, 0, []), (.iload_n 3, 1, 0, 0, 0, []), (.iconst 1, 1, 0, 0, 0, [(1, 0)]), (.iadd, 1, 0, 0, 0, []), (.iaload, 1, 0, 0, 0, []), (.aload_n 0, 1, 0, 0, 0, []), (.iload_n 3, 1, 0, 0, 0, []), (.iconst 2, 1, 0, 0, 0, [(2, 0)]), (.iadd, 1, 0, 0, 0, []), (.iaload, 1, 0, 0, 0, []), (.invokevirtual 93, 3, 100, 0, 712, []), (.aload_n 2, 1, 0, 0, 0, []), (.aload_n 0, 1, 0, 0, 0, []), (.iload_n 3, 1, 0, 0, 0, []), (.iconst 1, 1, 0, 0, 0, [(1, 0)]), (.iadd, 1, 0, 0, 0, []), (.iaload, 1, 0, 0, 0, []), (.aload_n 0, 1, 0, 0, 0, []), (.iload_n 3, 1, 0, 0, 0, []), (.iconst 2, 1, 0, 0, 0, [(2, 0)]), (.iadd, 1, 0, 0, 0, []), (.iaload, 1, 0, 0, 0, []), (.invokevirtual 96, 3, 191, 0, 1240, []), (.if_icmp .eq 691, 3, 1555, 0, 0, []), (.iconst 0, 1, 0, 0, 0, [(0, 0)]), (.ireturn, 1, 0, 0, 0, [])]
theorem ck_L_law_836 : mChk 231 836 bk_L_law_836 = true := by decide +kernel
def bk_L_law_869 : List mI := [(.aload_n 1, 1, 0, 0, 0, []), (.aload_n 0, 1, 0, 0, 0, []), (.iload_n 3, 1, 0, 0, 0, []), (.iconst 1, 1, 0, 0, 0, [(1, 0)]), (.iadd, 1, 0, 0, 0, []), (.iaload, 1, 0, 0, 0, []), (.aload_n 0, 1, 0, 0, 0, []), (.iload_n 3, 1, 0, 0, 0, []), (.iconst 2, 1, 0, 0, 0, [(2, 0)]), (.iadd, 1, 0, 0, 0, []), (.iaload, 1, 0, 0, 0, []), (.aload_n 0, 1, 0, 0, 0, []), (.iload_n 3, 1, 0, 0, 0, []), (.iconst 3, 1, 0, 0, 0, [(3, 0)]), (.iadd, 1, 0, 0, 0, []), (.iaload, 1, 0, 0, 0, []), (.invokevirtual 97, 3, 101, 0, 720, []), (.aload_n 2, 1, 0, 0, 0, []), (.aload_n 0, 1, 0, 0, 0, []), (.iload_n 3, 1, 0, 0, 0, []), (.iconst 1, 1, 0, 0, 0, [(1, 0)]), (.iadd, 1, 0, 0, 0, []), (.iaload, 1, 0, 0, 0, []), (.aload_n 0, 1, 0, 0, 0, []), (.iload_n 3, 1, 0, 0, 0, []), (.iconst 2, 1, 0, 0, 0, [(2, 0)]), (.iadd, 1, 0, 0, 0, []), (.iaload, 1, 0, 0, 0, []), (.aload_n 0, 1, 0, 0, 0, []), (.iload_n 3, 1, 0, 0, 0, []), (.iconst 3, 1, 0, 0, 0, [(3, 0)]), (.iadd, 1, 0, 0, 0, []), (.iaload, 1, 0, 0, 0, []), (.invokevirtual 100, 3, 194, 0, 1244, []), (.if_icmp .eq 648, 3, 1555, 0, 0, []), (.iconst 0, 1, 0, 0, 0, [(0, 0)]), (.ireturn, 1, 0, 0, 0, [])]
theorem ck_L_law_869 : mChk 231 869 bk_L_law_869 = true := by decide +kernel
def bk_L_law_912 : List mI := [(.aload_n 1, 1, 0, 0, 0, []), (.aload_n 0, 1, 0, 0, 0, []), (.iload_n 3, 1, 0, 0, 0, []), (.iconst 1, 1, 0, 0, 0, [(1, 0)]), (.iadd, 1, 0, 0, 0, []), (.iaload, 1, 0, 0, 0, []), (.aload_n 0, 1, 0, 0, 0, []), (.iload_n 3, 1, 0, 0, 0, []), (.iconst 2, 1, 0, 0, 0, [(2, 0)]), (.iadd, 1, 0, 0, 0, []), (.iaload, 1, 0, 0, 0, []), (.aload_n 0, 1, 0, 0, 0, []), (.iload_n 3, 1, 0, 0, 0, []), (.iconst 3, 1, 0, 0, 0, [(3, 0)]), (.iadd, 1, 0, 0, 0, []), (.iaload, 1, 0, 0, 0, []), (.invokevirtual 101, 3, 102, 0, 731, []), (.aload_n 2, 1, 0, 0, 0, []), (.aload_n 0, 1, 0, 0, 0, []), (.iload_n 3, 1, 0, 0, 0, []), (.iconst 1, 1, 0, 0, 0, [(1, 0)]), (.iadd, 1, 0, 0, 0, []), (.iaload, 1, 0, 0, 0, []), (.aload_n 0, 1, 0, 0, 0, []), (.iload_n 3, 1, 0, 0, 0, []), (.iconst 2, 1, 0, 0, 0, [(2, 0)]), (.iadd, 1, 0, 0, 0, []), (.iaload, 1, 0, 0, 0, []), (.aload_n 0, 1, 0, 0, 0, []), (.iload_n 3, 1, 0, 0, 0, []), (.iconst 3, 1, 0, 0, 0, [(3, 0)]), (.iadd, 1, 0, 0, 0, []), (.iaload, 1, 0, 0, 0, []), (.invokevirtual 104, 3, 195, 0, 1253, []), (.if_icmp .eq 605, 3, 1555, 0, 0, []), (.iconst 0, 1, 0, 0, 0, [(0, 0)]), (.ireturn, 1, 0, 0, 0, [])]
theorem ck_L_law_912 : mChk 231 912 bk_L_law_912 = true := by decide +kernel
def bk_L_law_955 : List mI := [(.aload_n 1, 1, 0, 0, 0, []), (.aload_n 0, 1, 0, 0, 0, []), (.iload_n 3, 1, 0, 0, 0, []), (.iconst 1, 1, 0, 0, 0, [(1, 0)]), (.iadd, 1, 0, 0, 0, []), (.iaload, 1, 0, 0, 0, []), (.invokevirtual 105, 3, 103, 0, 735, []), (.aload_n 2, 1, 0, 0, 0, []), (.aload_n 0, 1, 0, 0, 0, []), (.iload_n 3, 1, 0, 0, 0, []), (.iconst 1, 1, 0, 0, 0, [(1, 0)]), (.iadd, 1, 0, 0, 0, []), (.iaload, 1, 0, 0, 0, []), (.invokevirtual 108, 3, 197, 0, 1257, []), (.if_icmp .eq 582, 3, 1555, 0, 0, []), (.iconst 0, 1, 0, 0, 0, [(0, 0)]), (.ireturn, 1, 0, 0, 0, [])]
theorem ck_L_law_955 : mChk 231 955 bk_L_law_955 = true := by decide +kernel
def bk_L_law_978 : List mI := [(.aload_n 1, 1, 0, 0, 0, []), (.aload_n 0, 1, 0, 0, 0, []), (.iload_n 3, 1, 0, 0, 0, []), (.iconst 1, 1, 0, 0, 0, [(1, 0)]), (.iadd, 1, 0, 0, 0, []), (.iaload, 1, 0, 0, 0, []), (.aload_n 0, 1, 0, 0, 0, []), (.iload_n 3, 1, 0, 0, 0, []), (.iconst 2, 1, 0, 0, 0, [(2, 0)]), (.iadd, 1, 0, 0, 0, []), (.iaload, 1, 0, 0, 0, []), (.invokevirtual 109, 3, 104, 0, 751, []), (.aload_n 2, 1, 0, 0, 0, []), (.aload_n 0, 1, 0, 0, 0, []), (.iload_n 3, 1, 0, 0, 0, []), (.iconst 1, 1, 0, 0, 0, [(1, 0)]), (.iadd, 1, 0, 0, 0, []), (.iaload, 1, 0, 0, 0, []), (.aload_n 0, 1, 0, 0, 0, []), (.iload_n 3, 1, 0, 0, 0, []), (.iconst 2, 1, 0, 0, 0, [(2, 0)]), (.iadd, 1, 0, 0, 0, []), (.iaload, 1, 0, 0, 0, []), (.invokevirtual 112, 3, 199, 0, 1265, []), (.if_icmp .eq 549, 3, 1555, 0, 0, []), (.iconst 0, 1, 0, 0, 0, [(0, 0)]), (.ireturn, 1, 0, 0, 0, [])]
theorem ck_L_law_978 : mChk 231 978 bk_L_law_978 = true := by decide +kernel
def bk_L_law_1011 : List mI := [(.aload_n 1, 1, 0, 0, 0, []), (.invokevirtual 113, 3, 105, 0, 760, []), (.aload_n 2, 1, 0, 0, 0, []), (.invokevirtual 116, 3, 200, 0, 1273, []), (.if_icmp .eq 536, 3, 1555, 0, 0, []), (.iconst 0, 1, 0, 0, 0, [(0, 0)]), (.ireturn, 1, 0, 0, 0, [])]
theorem ck_L_law_1011 : mChk 231 1011 bk_L_law_1011 = true := by decide +kernel
def bk_L_law_1024 : List mI := [(.aload_n 1, 1, 0, 0, 0, []), (.aload_n 0, 1, 0, 0, 0, []), (.iload_n 3, 1, 0, 0, 0, []), (.iconst 1, 1, 0, 0, 0, [(1, 0)]), (.iadd, 1, 0, 0, 0, []), (.iaload, 1, 0, 0, 0, []), (.aload_n 0, 1, 0, 0, 0, []), (.iload_n 3, 1, 0, 0, 0, []), (.iconst 2, 1, 0, 0, 0, [(2, 0)]), (.iadd, 1, 0, 0, 0, []), (.iaload, 1, 0, 0, 0, []), (.aload_n 0, 1, 0, 0, 0, []), (.iload_n 3, 1, 0, 0, 0, []), (.iconst 3, 1, 0, 0, 0, [(3, 0)]), (.iadd, 1, 0, 0, 0, []), (.iaload, 1, 0, 0, 0, []), (.invokevirtual 117, 3, 106, 0, 768, []), (.aload_n 2, 1, 0, 0, 0, []), (.aload_n 0, 1, 0, 0, 0, []), (.iload_n 3, 1, 0, 0, 0, []), (.iconst 1, 1, 0, 0, 0, [(1, 0)]), (.iadd, 1, 0, 0, 0, []), (.iaload, 1, 0, 0, 0, []), (.aload_n 0, 1, 0, 0, 0, []), (.iload_n 3, 1, 0, 0, 0, []), (.iconst 2, 1, 0, 0, 0, [(2, 0)]), (.iadd, 1, 0, 0, 0, []), (.iaload, 1, 0, 0, 0, []), (.aload_n 0, 1, 0, 0, 0, []), (.iload_n 3, 1, 0, 0, 0, []), (.iconst 3, 1, 0, 0, 0, [(3, 0)]), (.iadd, 1, 0, 0, 0, []), (.iaload, 1, 0, 0, 0, []), (.invokevirtual 120, 3, 201, 0, 1277, []), (.if_icmp .eq 493, 3, 1555, 0, 0, []), (.iconst 0, 1, 0, 0, 0, [(0, 0)]), (.ireturn, 1, 0, 0, 0, [])]
theorem ck_L_law_1024 : mChk 231 1024 bk_L_law_1024 = true := by decide +kernel
def bk_L_law_1067 : List mI := [(.aload_n 1, 1, 0, 0, 0, []), (.invokevirtual 121, 3, 107, 0, 777, []), (.aload_n 2, 1, 0, 0, 0, []), (.invokevirtual 124, 3, 202, 0, 1281, []), (.if_icmp .eq 480, 3, 1555, 0, 0, []), (.iconst 0, 1, 0, 0, 0, [(0, 0)]), (.ireturn, 1, 0, 0, 0, [])]
theorem ck_L_law_1067 : mChk 231 1067 bk_L_law_1067 = true := by decide +kernel
def bk_L_law_1080 : List mI := [(.aload_n 1, 1, 0, 0, 0, []), (.aload_n 0, 1, 0, 0, 0, []), (.iload_n 3, 1, 0, 0, 0, []), (.iconst 1, 1, 0, 0, 0, [(1, 0)]), (.iadd, 1, 0, 0, 0, []), (.iaload, 1, 0, 0, 0, []), (.invokevirtual 125, 3, 108, 0, 781, []), (.aload_n 2, 1, 0, 0, 0, []), (.aload_n 0, 1, 0, 0, 0, []), (.iload_n 3, 1, 0, 0, 0, []), (.iconst 1, 1, 0, 0, 0, [(1, 0)]), (.iadd, 1, 0, 0, 0, []), (.iaload, 1, 0, 0, 0, []), (.invokevirtual 128, 3, 204, 0, 1285, []), (.if_icmp .eq 457, 3, 1555, 0, 0, []), (.iconst 0, 1, 0, 0, 0, [(0, 0)]), (.ireturn, 1, 0, 0, 0, [])]
theorem ck_L_law_1080 : mChk 231 1080 bk_L_law_1080 = true := by decide +kernel
def bk_L_law_1103 : List mI := [(.aload_n 1, 1, 0, 0, 0, []), (.aload_n 0, 1, 0, 0, 0, []), (.iload_n 3, 1, 0, 0, 0, []), (.iconst 1, 1, 0, 0, 0, [(1, 0)]), (.iadd, 1, 0, 0, 0, []), (.iaload, 1, 0, 0, 0, []), (.aload_n 0, 1, 0, 0, 0, []), (.iload_n 3, 1, 0, 0, 0, []), (.iconst 2, 1, 0, 0, 0, [(2, 0)]), (.iadd, 1, 0, 0, 0, []), (.iaload, 1, 0, 0, 0, []), (.aload_n 0, 1, 0, 0, 0, []), (.iload_n 3, 1, 0, 0, 0, []), (.iconst 3, 1, 0, 0, 0, [(3, 0)]), (.iadd, 1, 0, 0, 0, []), (.iaload, 1, 0, 0, 0, []), (.invokevirtual 129, 3, 109, 0, 794, []), (.aload_n 2, 1, 0, 0, 0, []), (.aload_n 0, 1, 0, 0, 0, []), (.iload_n 3, 1, 0, 0, 0, []), (.iconst 1, 1, 0, 0, 0, [(1, 0)]), (.iadd, 1, 0, 0, 0, []), (.iaload, 1, 0, 0, 0, []), (.aload_n 0, 1, 0, 0, 0, []), (.iload_n 3, 1, 0, 0, 0, []), (.iconst 2, 1, 0, 0, 0, [(2, 0)]), (.iadd, 1, 0, 0, 0, []), (.iaload, 1, 0, 0, 0, []), (.aload_n 0, 1, 0, 0, 0, []), (.iload_n 3, 1, 0, 0, 0, []), (.iconst 3, 1, 0, 0, 0, [(3, 0)]), (.iadd, 1, 0, 0, 0, []), (.iaload, 1, 0, 0, 0, []), (.invokevirtual 132, 3, 206, 0, 1293, []), (.if_icmp .eq 414, 3, 1555, 0, 0, []), (.iconst 0, 1, 0, 0, 0, [(0, 0)]), (.ireturn, 1, 0, 0, 0, [])]
theorem ck_L_law_1103 : mChk 231 1103 bk_L_law_1103 = true := by decide +kernel
def bk_L_law_1146 : List mI := [(.aload_n 1, 1, 0, 0, 0, []), (.aload_n 0, 1, 0, 0, 0, []), (.iload_n 3, 1, 0, 0, 0, []), (.iconst 1, 1, 0, 0, 0, [(1, 0)]), (.iadd, 1, 0, 0, 0, []), (.iaload, 1, 0, 0, 0, []), (.aload_n 0, 1, 0, 0, 0, []), (.iload_n 3, 1, 0, 0, 0, []), (.iconst 2, 1, 0, 0, 0, [(2, 0)]), (.iadd, 1, 0, 0, 0, []), (.iaload, 1, 0, 0, 0, []), (.aload_n 0, 1, 0, 0, 0, []), (.iload_n 3, 1, 0, 0, 0, []), (.iconst 3, 1, 0, 0, 0, [(3, 0)]), (.iadd, 1, 0, 0, 0, []), (.iaload, 1, 0, 0, 0, []), (.aload_n 0, 1, 0, 0, 0, []), (.iload_n 3, 1, 0, 0, 0, []), (.iconst 4, 1, 0, 0, 0, [(4, 0)]), (.iadd, 1, 0, 0, 0, []), (.iaload, 1, 0, 0, 0, []), (.invokevirtual 133, 3, 110, 0, 817, []), (.aload_n 2, 1, 0, 0, 0, []), (.aload_n 0, 1, 0, 0, 0, []), (.iload_n 3, 1, 0, 0, 0, []), (.iconst 1, 1, 0, 0, 0, [(1, 0)]), (.iadd, 1, 0, 0, 0, []), (.iaload, 1, 0, 0, 0, []), (.aload_n 0, 1, 0, 0, 0, []), (.iload_n 3, 1, 0, 0, 0, []), (.iconst 2, 1, 0, 0, 0, [(2, 0)]), (.iadd, 1, 0, 0, 0, []), (.iaload, 1, 0, 0, 0, []), (.aload_n 0, 1, 0, 0, 0, []), (.iload_n 3, 1, 0, 0, 0, []), (.iconst 3, 1, 0, 0, 0, [(3, 0)]), (.iadd, 1, 0, 0, 0, []), (.iaload, 1, 0, 0, 0, []), (.aload_n 0, 1, 0, 0, 0, []), (.iload_n 3, 1, 0, 0, 0, []), (.iconst 4, 1, 0, 0, 0, [(4, 0)]), (.iadd, 1, 0, 0, 0, []), (.iaload, 1, 0, 0, 0, []), (.invokevirtual 137, 3, 207, 0, 1302, []), (.if_icmp .eq 361, 3, 1555, 0, 0, []), (.iconst 0, 1, 0, 0, 0, [(0, 0)]), (.ireturn, 1, 0, 0, 0, [])]
theorem ck_L_law_1146 : mChk 231 1146 bk_L_law_1146 = true := by decide +kernel
def bk_L_law_1199 : List mI := [(.aload_n 1, 1, 0, 0, 0, []), (.aload_n 0, 1, 0, 0, 0, []), (.iload_n 3, 1, 0, 0, 0, []), (.iconst 1, 1, 0, 0, 0, [(1, 0)]), (.iadd, 1, 0, 0, 0, []), (.iaload, 1, 0, 0, 0, []), (.invokevirtual 138, 3, 111, 0, 831, []), (.aload_n 2, 1, 0, 0, 0, []), (.aload_n 0, 1, 0, 0, 0, []), (.iload_n 3, 1, 0, 0, 0, []), (.iconst 1, 1, 0, 0, 0, [(1, 0)]), (.iadd, 1, 0, 0, 0, []), (.iaload, 1, 0, 0, 0, []), (.invokevirtual 141, 3, 208, 0, 1306, []), (.if_icmp .eq 338, 3, 1555, 0, 0, []), (.iconst 0, 1, 0, 0, 0, [(0, 0)]), (.ireturn, 1, 0, 0, 0, [])]
theorem ck_L_law_1199 : mChk 231 1199 bk_L_law_1199 = true := by decide +kernel
def bk_L_law_1222 : List mI := [(.aload_n 1, 1, 0, 0, 0, []), (.aload_n 0, 1, 0, 0, 0, []), (.iload_n 3, 1, 0, 0, 0, []), (.iconst 1, 1, 0, 0, 0, [(1, 0)]), (.iadd, 1, 0, 0, 0, []), (.iaload, 1, 0, 0, 0, []), (.aload_n 0, 1, 0, 0, 0, []), (.iload_n 3, 1, 0, 0, 0, []), (.iconst 2, 1, 0, 0, 0, [(2, 0)]), (.iadd, 1, 0, 0, 0, []), (.iaload, 1, 0, 0, 0, []), (.aload_n 0, 1, 0, 0, 0, []), (.iload_n 3, 1, 0, 0, 0, []), (.iconst 3, 1, 0, 0, 0, [(3, 0)]), (.iadd, 1, 0, 0, 0, []), (.iaload, 1, 0, 0, 0, []), (.invokevirtual 142, 3, 112, 0, 835, []), (.aload_n 2, 1, 0, 0, 0, []), (.aload_n 0, 1, 0, 0, 0, []), (.iload_n 3, 1, 0, 0, 0, []), (.iconst 1, 1, 0, 0, 0, [(1, 0)]), (.iadd, 1, 0, 0, 0, []), (.iaload, 1, 0, 0, 0, []), (.aload_n 0, 1, 0, 0, 0, []), (.iload_n 3, 1, 0, 0, 0, []), (.iconst 2, 1, 0, 0, 0, [(2, 0)]), (.iadd, 1, 0, 0, 0, []), (.iaload, 1, 0, 0, 0, []), (.aload_n 0, 1, 0, 0, 0, []), (.iload_n 3, 1, 0, 0, 0, []), (.iconst 3, 1, 0, 0, 0, [(3, 0)]), (.iadd, 1, 0, 0, 0, []), (.iaload, 1, 0, 0, 0, []), (.invokevirtual 145, 3, 215, 0, 1310, []), (.if_icmp .eq 295, 3, 1555, 0, 0, []), (.iconst 0, 1, 0, 0, 0, [(0, 0)]), (.ireturn, 1, 0, 0, 0, [])]
theorem ck_L_law_1222 : mChk 231 1222 bk_L_law_1222 = true := by decide +kernel
def bk_L_law_1265 : List mI := [(.aload_n 1, 1, 0, 0, 0, []), (.aload_n 0, 1, 0, 0, 0, []), (.iload_n 3, 1, 0, 0, 0, []), (.iconst 1, 1, 0, 0, 0, [(1, 0)]), (.iadd, 1, 0, 0, 0, []), (.iaload, 1, 0, 0, 0, []), (.invokevirtual 146, 3, 113, 0, 859, []), (.aload_n 2, 1, 0, 0, 0, []), (.aload_n 0, 1, 0, 0, 0, []), (.iload_n 3, 1, 0, 0, 0, []), (.iconst 1, 1, 0, 0, 0, [(1, 0)]), (.iadd, 1, 0, 0, 0, []), (.iaload, 1, 0, 0, 0, []), (.invokevirtual 149, 3, 216, 0, 1337, []), (.if_icmp .eq 272, 3, 1555, 0, 0, []), (.iconst 0, 1, 0, 0, 0, [(0, 0)]), (.ireturn, 1, 0, 0, 0, [])]
theorem ck_L_law_1265 : mChk 231 1265 bk_L_law_1265 = true := by decide +kernel
def bk_L_law_1288 : List mI := [(.aload_n 1, 1, 0, 0, 0, []), (.aload_n 0, 1, 0, 0, 0, []), (.iload_n 3, 1, 0, 0, 0, []), (.iconst 1, 1, 0, 0, 0, [(1, 0)]), (.iadd, 1, 0, 0, 0, []), (.iaload, 1, 0, 0, 0, []), (.aload_n 0, 1, 0, 0, 0, []), (.iload_n 3, 1, 0, 0, 0, []), (.iconst 2, 1, 0, 0, 0, [(2, 0)]), (.iadd, 1, 0, 0, 0, []), (.iaload, 1, 0, 0, 0, []), (.aload_n 0, 1, 0, 0, 0, []), (.iload_n 3, 1, 0, 0, 0, []), (.iconst 3, 1, 0, 0, 0, [(3, 0)]), (.iadd, 1, 0, 0, 0, []), (.iaload, 1, 0, 0, 0, []), (.invokevirtual 150, 3, 114, 0, 863, []), (.aload_n 2, 1, 0, 0, 0, []), (.aload_n 0, 1, 0, 0, 0, []), (.iload_n 3, 1, 0, 0, 0, []), (.iconst 1, 1, 0, 0, 0, [(1, 0)]), (.iadd, 1, 0, 0, 0, []), (.iaload, 1, 0, 0, 0, []), (.aload_n 0, 1, 0, 0, 0, []), (.iload_n 3, 1, 0, 0, 0, []), (.iconst 2, 1, 0, 0, 0, [(2, 0)]), (.iadd, 1, 0, 0, 0, []), (.iaload, 1, 0, 0, 0, []), (.aload_n 0, 1, 0, 0, 0, []), (.iload_n 3, 1, 0, 0, 0, []), (.iconst 3, 1, 0, 0, 0, [(3, 0)]), (.iadd, 1, 0, 0, 0, []), (.iaload, 1, 0, 0, 0, []), (.invokevirtual 153, 3, 218, 0, 1341, []), (.if_icmp .eq 229, 3, 1555, 0, 0, []), (.iconst 0, 1, 0, 0, 0, [(0, 0)]), (.ireturn, 1, 0, 0, 0, [])]
theorem ck_L_law_1288 : mChk 231 1288 bk_L_law_1288 = true := by decide +kernel
def bk_L_law_1331 : List mI := [(.aload_n 1, 1, 0, 0, 0, []), (.aload_n 0, 1, 0, 0, 0, []), (.iload_n 3, 1, 0, 0, 0, []), (.iconst 1, 1, 0, 0, 0, [(1, 0)]), (.iadd, 1, 0, 0, 0, []), (.iaload, 1, 0, 0, 0, []), (.aload_n 0, 1, 0, 0, 0, []), (.iload_n 3, 1, 0, 0, 0, []), (.iconst 2, 1, 0, 0, 0, [(2, 0)]), (.iadd, 1, 0, 0, 0, []), (.iaload, 1, 0, 0, 0, []), (.aload_n 0, 1, 0, 0, 0, []), (.iload_n 3, 1, 0, 0, 0, []), (.iconst 3, 1, 0, 0, 0, [(3, 0)]), (.iadd, 1, 0, 0, 0, []), (.iaload, 1, 0, 0, 0, []), (.invokevirtual 154, 3, 115, 0, 871, []), (.aload_n 2, 1, 0, 0, 0, []), (.aload_n 0, 1, 0, 0, 0, []), (.iload_n 3, 1, 0, 0, 0, []), (.iconst 1, 1, 0, 0, 0, [(1, 0)]), (.iadd, 1, 0, 0, 0, []), (.iaload, 1, 0, 0, 0, []), (.aload_n 0, 1, 0, 0, 0, []), (.iload_n 3, 1, 0, 0, 0, []), (.iconst 2, 1, 0, 0, 0, [(2, 0)]), (.iadd, 1, 0, 0, 0, []), (.iaload, 1, 0, 0, 0, []), (.aload_n 0, 1, 0, 0, 0, []), (.iload_n 3, 1, 0, 0, 0, []), (.iconst 3, 1, 0, 0, 0, [(3, 0)]), (.iadd, 1, 0, 0, 0, []), (.iaload, 1, 0, 0, 0, []), (.invokevirtual 157, 3, 219, 0, 1345, []), (.if_icmp .eq 186, 3, 1555, 0, 0, []), (.iconst 0, 1, 0, 0, 0, [(0, 0)]), (.ireturn, 1, 0, 0, 0, [])]
theorem ck_L_law_1331 : mChk 231 1331 bk_L_law_1331 = true := by decide +kernel
def bk_L_law_1374 : List mI := [(.aload_n 1, 1, 0, 0, 0, []), (.aload_n 0, 1, 0, 0, 0, []), (.iload_n 3, 1, 0, 0, 0, []), (.iconst 1, 1, 0, 0, 0, [(1, 0)]), (.iadd, 1, 0, 0, 0, []), (.iaload, 1, 0, 0, 0, []), (.aload_n 0, 1, 0, 0, 0, []), (.iload_n 3, 1, 0, 0, 0, []), (.iconst 2, 1, 0, 0, 0, [(2, 0)]), (.iadd, 1, 0, 0, 0, []), (.iaload, 1, 0, 0, 0, []), (.aload_n 0, 1, 0, 0, 0, []), (.iload_n 3, 1, 0, 0, 0, []), (.iconst 3, 1, 0, 0, 0, [(3, 0)]), (.iadd, 1, 0, 0, 0, []), (.iaload, 1, 0, 0, 0, []), (.aload_n 0, 1, 0, 0, 0, []), (.iload_n 3, 1, 0, 0, 0, []), (.iconst 4, 1, 0, 0, 0, [(4, 0)]), (.iadd, 1, 0, 0, 0, []), (.iaload, 1, 0, 0, 0, []), (.aload_n 0, 1, 0, 0, 0, []), (.iload_n 3, 1, 0, 0, 0, []), (.iconst 5, 1, 0, 0, 0, [(5, 0)]), (.iadd, 1, 0, 0, 0, []), (.iaload, 1, 0, 0, 0, []), (.invokevirtual 158, 3, 116, 0, 880, []), (.aload_n 2, 1, 0, 0, 0, []), (.aload_n 0, 1, 0, 0, 0, []), (.iload_n 3, 1, 0, 0, 0, []), (.iconst 1, 1, 0, 0, 0, [(1, 0)]), (.iadd, 1, 0, 0, 0, []), (.iaload, 1, 0, 0, 0, []), (.aload_n 0, 1, 0, 0, 0, []), (.iload_n 3, 1, 0, 0, 0, []), (.iconst 2, 1, 0, 0, 0, [(2, 0)]), (.iadd, 1, 0, 0, 0, []), (.iaload, 1, 0, 0, 0, []), (.aload_n 0, 1, 0, 0, 0, []), (.iload_n 3, 1, 0, 0, 0, []), (.iconst 3, 1, 0, 0, 0, [(3, 0)]), (.iadd, 1, 0, 0, 0, []), (.iaload, 1, 0, 0, 0, []), (.aload_n 0, 1, 0, 0, 0, []), (.iload_n 3, 1, 0, 0, 0, []), (.iconst 4, 1, 0, 0, 0, [(4, 0)]), (.iadd, 1, 0, 0, 0, []), (.iaload, 1, 0, 0, 0, []), (.aload_n 0, 1, 0, 0, 0, []), (.iload_n 3, 1, 0, 0, 0, []), (.iconst 5, 1, 0, 0, 0, [(5, 0)]), (.iadd, 1, 0, 0, 0, []), (.iaload, 1, 0, 0, 0, []), (.invokevirtual 161, 3, 220, 0, 1349, []), (.if_icmp .eq 123, 3, 1555, 0, 0, []), (.iconst 0, 1, 0, 0, 0, [(0, 0)]), (.ireturn, 1, 0, 0, 0, [])]
theorem ck_L_law_1374 : mChk 231 1374 bk_L_law_1374 = true := by decide +kernel
def bk_L_law_1437 : List mI := [(.aload_n 1, 1, 0, 0, 0, []), (.invokevirtual 162, 3, 117, 0, 888, []), (.aload_n 2, 1, 0, 0, 0, []), (.invokevirtual 165, 3, 221, 0, 1353, []), (.if_icmp .eq 110, 3, 1555, 0, 0, []), (.iconst 0, 1, 0, 0, 0, [(0, 0)]), (.ireturn, 1, 0, 0, 0, [])]
theorem ck_L_law_1437 : mChk 231 1437 bk_L_law_1437 = true := by decide +kernel
def bk_L_law_1450 : List mI := [(.aload_n 1, 1, 0, 0, 0, []), (.invokevirtual 166, 3, 118, 0, 907, []), (.aload_n 2, 1, 0, 0, 0, []), (.invokevirtual 169, 3, 222, 0, 1357, []), (.if_icmp .eq 97, 3, 1555, 0, 0, []), (.iconst 0, 1, 0, 0, 0, [(0, 0)]), (.ireturn, 1, 0, 0, 0, [])]
theorem ck_L_law_1450 : mChk 231 1450 bk_L_law_1450 = true := by decide +kernel
def bk_L_law_1463 : List mI := [(.aload_n 1, 1, 0, 0, 0, []), (.aload_n 0, 1, 0, 0, 0, []), (.iload_n 3, 1, 0, 0, 0, []), (.iconst 1, 1, 0, 0, 0, [(1, 0)]), (.iadd, 1, 0, 0, 0, []), (.iaload, 1, 0, 0, 0, []), (.invokevirtual 170, 3, 119, 0, 911, []), (.aload_n 2, 1, 0, 0, 0, []), (.aload_n 0, 1, 0, 0, 0, []), (.iload_n 3, 1, 0, 0, 0, []), (.iconst 1, 1, 0, 0, 0, [(1, 0)]), (.iadd, 1, 0, 0, 0, []), (.iaload, 1, 0, 0, 0, []), (.invokevirtual 173, 3, 223, 0, 1361, []), (.if_icmp .eq 74, 3, 1555, 0, 0, []), (.iconst 0, 1, 0, 0, 0, [(0, 0)]), (.ireturn, 1, 0, 0, 0, [])]
theorem ck_L_law_1463 : mChk 231 1463 bk_L_law_1463 = true := by decide +kernel
def bk_L_law_1486 : List mI := [(.aload_n 1, 1, 0, 0, 0, []), (.aload_n 0, 1, 0, 0, 0, []), (.iload_n 3, 1, 0, 0, 0, []), (.iconst 1, 1, 0, 0, 0, [(1, 0)]), (.iadd, 1, 0, 0, 0, []), (.iaload, 1, 0, 0, 0, []), (.invokevirtual 174, 3, 120, 0, 915, []), (.aload_n 2, 1, 0, 0, 0, []), (.aload_n 0, 1, 0, 0, 0, []), (.iload_n 3, 1, 0, 0, 0, []), (.iconst 1, 1, 0, 0, 0, [(1, 0)]), (.iadd, 1, 0, 0, 0, []), (.iaload, 1, 0, 0, 0, []), (.invokevirtual 177, 3, 224, 0, 1365, []), (.if_icmp .eq 51, 3, 1555, 0, 0, []), (.iconst 0, 1, 0, 0, 0, [(0, 0)]), (.ireturn, 1, 0, 0, 0, [])]
theorem ck_L_law_1486 : mChk 231 1486 bk_L_law_1486 = true := by decide +kernel
def bk_L_law_1509 : List mI := [(.aload_n 1, 1, 0, 0, 0, []), (.aload_n 0, 1, 0, 0, 0, []), (.iload_n 3, 1, 0, 0, 0, []), (.iconst 1, 1, 0, 0, 0, [(1, 0)]), (.iadd, 1, 0, 0, 0, []), (.iaload, 1, 0, 0, 0, []), (.invokevirtual 178, 3, 121, 0, 919, []), (.aload_n 2, 1, 0, 0, 0, []), (.aload_n 0, 1, 0, 0, 0, []), (.iload_n 3, 1, 0, 0, 0, []), (.iconst 1, 1, 0, 0, 0, [(1, 0)]), (.iadd, 1, 0, 0, 0, []), (.iaload, 1, 0, 0, 0, []), (.invokevirtual 181, 3, 226, 0, 1369, []), (.if_icmp .eq 28, 3, 1555, 0, 0, []), (.iconst 0, 1, 0, 0, 0, [(0, 0)]), (.ireturn, 1, 0, 0, 0, [])]
theorem ck_L_law_1509 : mChk 231 1509 bk_L_law_1509 = true := by decide +kernel
def bk_L_law_1532 : List mI := [(.aload_n 1, 1, 0, 0, 0, []), (.aload_n 0, 1, 0, 0, 0, []), (.iload_n 3, 1, 0, 0, 0, []), (.iconst 1, 1, 0, 0, 0, [(1, 0)]), (.iadd, 1, 0, 0, 0, []), (.iaload, 1, 0, 0, 0, []), (.invokevirtual 182, 3, 122, 0, 927, []), (.aload_n 2, 1, 0, 0, 0, []), (.aload_n 0, 1, 0, 0, 0, []), (.iload_n 3, 1, 0, 0, 0, []), (.iconst 1, 1, 0, 0, 0, [(1, 0)]), (.iadd, 1, 0, 0, 0, []), (.iaload, 1, 0, 0, 0, []), (.invokevirtual 185, 3, 227, 0, 1377, []), (.if_icmp .eq 5, 3, 1555, 0, 0, []), (.iconst 0, 1, 0, 0, 0, [(0, 0)]), (.ireturn, 1, 0, 0, 0, [])]
theorem ck_L_law_1532 : mChk 231 1532 bk_L_law_1532 = true := by decide +kernel
def bk_L_law_1555 : List mI := [(.iinc 3 6, 3, 0, 0, 0, [(6, 0)]), (.goto (-1540), 3, 18, 0, 0, [])]
theorem ck_L_law_1555 : mChk 231 1555 bk_L_law_1555 = true := by decide +kernel
def bk_L_law_1561 : List mI := [(.iconst 1, 1, 0, 0, 0, [(1, 0)]), (.ireturn, 1, 0, 0, 0, [])]
theorem ck_L_law_1561 : mChk 231 1561 bk_L_law_1561 = true := by decide +kernel
def c_L_law_1555 (k18 : Int32 → Sg → Option (Int32 × Sg)) (L : Nat) (x3 : Int32) (σ : Sg) : Option (Int32 × Sg) := (k18 (x3 + (6 : Int32)) σ)
set_option maxHeartbeats 4000000 in
theorem okc_L_law_1555 {L : Nat} {k18 : Int32 → Sg → Option (Int32 × Sg)} {R : Int32 × Sg} (Hk18 : ∀ (x3 : Int32) (σ : Sg) (pl : mLoc), k18 x3 σ = some R → mlf [some (.ref 1000000), some (.ref 0), some (.ref 93), some (.int x3)] pl → mAt 197 231 (some (.int R.1), (mSh, L, R.2)) 18 pl [] (mSh, L, σ) 106 2708) {x3 : Int32} {σ : Sg} {pl : mLoc} (h : c_L_law_1555 k18 L x3 σ = some R) (hl : mlf [some (.ref 1000000), some (.ref 0), some (.ref 93), some (.int x3)] pl) : mAt 197 231 (some (.int R.1), (mSh, L, R.2)) 1555 pl [] (mSh, L, σ) 106 2708 := by
  refine mAt.less hl ?_
  unfold c_L_law_1555 at h
  refine mAt.blk bk_L_law_1555 ck_L_law_1555 ?_
  refine q_iinc rfl rfl ?_
  refine q_goto ?_
  exact Hk18 _ _ _  h ⟨rfl, rfl, rfl, rfl, trivial⟩
def c_L_law_18 (L : Nat) : Nat → Int32 → Sg → Option (Int32 × Sg)
  | 0, _, _ => none
  | n + 1, x3, σ => (if ((Int32.ofNat L) - (6 : Int32)) < x3 then (some ((1 : Int32), σ)) else (if x3 < 0 ∨ L ≤ (x3).toNatClampNeg then none else (if ((σ 1000000 (x3).toNatClampNeg) &&& (63 : Int32)) = (0 : Int32) then ((f_X11_well  σ).bind fun q3 => ((f_X12_well  q3.2).bind fun q4 => (if q3.1 = q4.1 then (c_L_law_1555 (c_L_law_18 L n) L x3 q4.2) else (some ((0 : Int32), q4.2))))) else (if ((σ 1000000 (x3).toNatClampNeg) &&& (63 : Int32)) = (1 : Int32) then (if (x3 + (1 : Int32)) < 0 ∨ L ≤ ((x3 + (1 : Int32))).toNatClampNeg then none else (if (x3 + (2 : Int32)) < 0 ∨ L ≤ ((x3 + (2 : Int32))).toNatClampNeg then none else (if (x3 + (3 : Int32)) < 0 ∨ L ≤ ((x3 + (3 : Int32))).toNatClampNeg then none else ((f_X11_going (σ 1000000 ((x3 + (1 : Int32))).toNatClampNeg) (σ 1000000 ((x3 + (2 : Int32))).toNatClampNeg) (σ 1000000 ((x3 + (3 : Int32))).toNatClampNeg) σ).bind fun q9 => (if (x3 + (1 : Int32)) < 0 ∨ L ≤ ((x3 + (1 : Int32))).toNatClampNeg then none else (if (x3 + (2 : Int32)) < 0 ∨ L ≤ ((x3 + (2 : Int32))).toNatClampNeg then none else (if (x3 + (3 : Int32)) < 0 ∨ L ≤ ((x3 + (3 : Int32))).toNatClampNeg then none else ((f_X12_going (q9.2 1000000 ((x3 + (1 : Int32))).toNatClampNeg) (q9.2 1000000 ((x3 + (2 : Int32))).toNatClampNeg) (q9.2 1000000 ((x3 + (3 : Int32))).toNatClampNeg) q9.2).bind fun q13 => (if q9.1 = q13.1 then (c_L_law_1555 (c_L_law_18 L n) L x3 q13.2) else (some ((0 : Int32), q13.2))))))))))) else (if ((σ 1000000 (x3).toNatClampNeg) &&& (63 : Int32)) = (2 : Int32) then (if (x3 + (1 : Int32)) < 0 ∨ L ≤ ((x3 + (1 : Int32))).toNatClampNeg then none else (if (x3 + (2 : Int32)) < 0 ∨ L ≤ ((x3 + (2 : Int32))).toNatClampNeg then none else (if (x3 + (3 : Int32)) < 0 ∨ L ≤ ((x3 + (3 : Int32))).toNatClampNeg then none else ((f_X11_set (σ 1000000 ((x3 + (1 : Int32))).toNatClampNeg) (σ 1000000 ((x3 + (2 : Int32))).toNatClampNeg) (σ 1000000 ((x3 + (3 : Int32))).toNatClampNeg) σ).bind fun q18 => (if (x3 + (1 : Int32)) < 0 ∨ L ≤ ((x3 + (1 : Int32))).toNatClampNeg then none else (if (x3 + (2 : Int32)) < 0 ∨ L ≤ ((x3 + (2 : Int32))).toNatClampNeg then none else (if (x3 + (3 : Int32)) < 0 ∨ L ≤ ((x3 + (3 : Int32))).toNatClampNeg then none else ((f_X12_set (q18.2 1000000 ((x3 + (1 : Int32))).toNatClampNeg) (q18.2 1000000 ((x3 + (2 : Int32))).toNatClampNeg) (q18.2 1000000 ((x3 + (3 : Int32))).toNatClampNeg) q18.2).bind fun q22 => (if q18.1 = q22.1 then (c_L_law_1555 (c_L_law_18 L n) L x3 q22.2) else (some ((0 : Int32), q22.2))))))))))) else (if ((σ 1000000 (x3).toNatClampNeg) &&& (63 : Int32)) = (3 : Int32) then (if (x3 + (1 : Int32)) < 0 ∨ L ≤ ((x3 + (1 : Int32))).toNatClampNeg then none else (if (x3 + (2 : Int32)) < 0 ∨ L ≤ ((x3 + (2 : Int32))).toNatClampNeg then none else ((f_X11_ofWell (σ 1000000 ((x3 + (1 : Int32))).toNatClampNeg) (σ 1000000 ((x3 + (2 : Int32))).toNatClampNeg) σ).bind fun q26 => (if (x3 + (1 : Int32)) < 0 ∨ L ≤ ((x3 + (1 : Int32))).toNatClampNeg then none else (if (x3 + (2 : Int32)) < 0 ∨ L ≤ ((x3 + (2 : Int32))).toNatClampNeg then none else ((f_X12_ofWell (q26.2 1000000 ((x3 + (1 : Int32))).toNatClampNeg) (q26.2 1000000 ((x3 + (2 : Int32))).toNatClampNeg) q26.2).bind fun q29 => (if q26.1 = q29.1 then (c_L_law_1555 (c_L_law_18 L n) L x3 q29.2) else (some ((0 : Int32), q29.2))))))))) else (if ((σ 1000000 (x3).toNatClampNeg) &&& (63 : Int32)) = (4 : Int32) then (if (x3 + (1 : Int32)) < 0 ∨ L ≤ ((x3 + (1 : Int32))).toNatClampNeg then none else ((f_X11_goings (σ 1000000 ((x3 + (1 : Int32))).toNatClampNeg) σ).bind fun q32 => (if (x3 + (1 : Int32)) < 0 ∨ L ≤ ((x3 + (1 : Int32))).toNatClampNeg then none else ((f_X12_goings (q32.2 1000000 ((x3 + (1 : Int32))).toNatClampNeg) q32.2).bind fun q34 => (if q32.1 = q34.1 then (c_L_law_1555 (c_L_law_18 L n) L x3 q34.2) else (some ((0 : Int32), q34.2))))))) else (if ((σ 1000000 (x3).toNatClampNeg) &&& (63 : Int32)) = (5 : Int32) then (if (x3 + (1 : Int32)) < 0 ∨ L ≤ ((x3 + (1 : Int32))).toNatClampNeg then none else (if (x3 + (2 : Int32)) < 0 ∨ L ≤ ((x3 + (2 : Int32))).toNatClampNeg then none else ((f_X11_thing (σ 1000000 ((x3 + (1 : Int32))).toNatClampNeg) (σ 1000000 ((x3 + (2 : Int32))).toNatClampNeg) σ).bind fun q38 => (if (x3 + (1 : Int32)) < 0 ∨ L ≤ ((x3 + (1 : Int32))).toNatClampNeg then none else (if (x3 + (2 : Int32)) < 0 ∨ L ≤ ((x3 + (2 : Int32))).toNatClampNeg then none else ((f_X12_thing (q38.2 1000000 ((x3 + (1 : Int32))).toNatClampNeg) (q38.2 1000000 ((x3 + (2 : Int32))).toNatClampNeg) q38.2).bind fun q41 => (if q38.1 = q41.1 then (c_L_law_1555 (c_L_law_18 L n) L x3 q41.2) else (some ((0 : Int32), q41.2))))))))) else (if ((σ 1000000 (x3).toNatClampNeg) &&& (63 : Int32)) = (6 : Int32) then (if (x3 + (1 : Int32)) < 0 ∨ L ≤ ((x3 + (1 : Int32))).toNatClampNeg then none else (if (x3 + (2 : Int32)) < 0 ∨ L ≤ ((x3 + (2 : Int32))).toNatClampNeg then none else ((f_X11_ofThing (σ 1000000 ((x3 + (1 : Int32))).toNatClampNeg) (σ 1000000 ((x3 + (2 : Int32))).toNatClampNeg) σ).bind fun q45 => (if (x3 + (1 : Int32)) < 0 ∨ L ≤ ((x3 + (1 : Int32))).toNatClampNeg then none else (if (x3 + (2 : Int32)) < 0 ∨ L ≤ ((x3 + (2 : Int32))).toNatClampNeg then none else ((f_X12_ofThing (q45.2 1000000 ((x3 + (1 : Int32))).toNatClampNeg) (q45.2 1000000 ((x3 + (2 : Int32))).toNatClampNeg) q45.2).bind fun q48 => (if q45.1 = q48.1 then (c_L_law_1555 (c_L_law_18 L n) L x3 q48.2) else (some ((0 : Int32), q48.2))))))))) else (if ((σ 1000000 (x3).toNatClampNeg) &&& (63 : Int32)) = (7 : Int32) then (if (x3 + (1 : Int32)) < 0 ∨ L ≤ ((x3 + (1 : Int32))).toNatClampNeg then none else (if (x3 + (2 : Int32)) < 0 ∨ L ≤ ((x3 + (2 : Int32))).toNatClampNeg then none else ((f_X11_as (σ 1000000 ((x3 + (1 : Int32))).toNatClampNeg) (σ 1000000 ((x3 + (2 : Int32))).toNatClampNeg) σ).bind fun q52 => (if (x3 + (1 : Int32)) < 0 ∨ L ≤ ((x3 + (1 : Int32))).toNatClampNeg then none else (if (x3 + (2 : Int32)) < 0 ∨ L ≤ ((x3 + (2 : Int32))).toNatClampNeg then none else ((f_X12_as (q52.2 1000000 ((x3 + (1 : Int32))).toNatClampNeg) (q52.2 1000000 ((x3 + (2 : Int32))).toNatClampNeg) q52.2).bind fun q55 => (if q52.1 = q55.1 then (c_L_law_1555 (c_L_law_18 L n) L x3 q55.2) else (some ((0 : Int32), q55.2))))))))) else (if ((σ 1000000 (x3).toNatClampNeg) &&& (63 : Int32)) = (8 : Int32) then (if (x3 + (1 : Int32)) < 0 ∨ L ≤ ((x3 + (1 : Int32))).toNatClampNeg then none else (if (x3 + (2 : Int32)) < 0 ∨ L ≤ ((x3 + (2 : Int32))).toNatClampNeg then none else ((f_X11_let (σ 1000000 ((x3 + (1 : Int32))).toNatClampNeg) (σ 1000000 ((x3 + (2 : Int32))).toNatClampNeg) σ).bind fun q59 => (if (x3 + (1 : Int32)) < 0 ∨ L ≤ ((x3 + (1 : Int32))).toNatClampNeg then none else (if (x3 + (2 : Int32)) < 0 ∨ L ≤ ((x3 + (2 : Int32))).toNatClampNeg then none else ((f_X12_let (q59.2 1000000 ((x3 + (1 : Int32))).toNatClampNeg) (q59.2 1000000 ((x3 + (2 : Int32))).toNatClampNeg) q59.2).bind fun q62 => (if q59.1 = q62.1 then (c_L_law_1555 (c_L_law_18 L n) L x3 q62.2) else (some ((0 : Int32), q62.2))))))))) else (if ((σ 1000000 (x3).toNatClampNeg) &&& (63 : Int32)) = (9 : Int32) then (if (x3 + (1 : Int32)) < 0 ∨ L ≤ ((x3 + (1 : Int32))).toNatClampNeg then none else ((f_X11_fish (σ 1000000 ((x3 + (1 : Int32))).toNatClampNeg) σ).bind fun q65 => (if (x3 + (1 : Int32)) < 0 ∨ L ≤ ((x3 + (1 : Int32))).toNatClampNeg then none else ((f_X12_fish (q65.2 1000000 ((x3 + (1 : Int32))).toNatClampNeg) q65.2).bind fun q67 => (if q65.1 = q67.1 then (c_L_law_1555 (c_L_law_18 L n) L x3 q67.2) else (some ((0 : Int32), q67.2))))))) else (if ((σ 1000000 (x3).toNatClampNeg) &&& (63 : Int32)) = (10 : Int32) then (if (x3 + (1 : Int32)) < 0 ∨ L ≤ ((x3 + (1 : Int32))).toNatClampNeg then none else (if (x3 + (2 : Int32)) < 0 ∨ L ≤ ((x3 + (2 : Int32))).toNatClampNeg then none else (if (x3 + (3 : Int32)) < 0 ∨ L ≤ ((x3 + (3 : Int32))).toNatClampNeg then none else ((f_X11_feed ((((σ 1000000 ((x3 + (1 : Int32))).toNatClampNeg)).toInt64 <<< (((32 : Int32)).toInt64 &&& 63)) ||| (((σ 1000000 ((x3 + (2 : Int32))).toNatClampNeg)).toInt64 &&& (Int64.ofNat 4294967295))) (σ 1000000 ((x3 + (3 : Int32))).toNatClampNeg) σ).bind fun q72 => (if (x3 + (1 : Int32)) < 0 ∨ L ≤ ((x3 + (1 : Int32))).toNatClampNeg then none else (if (x3 + (2 : Int32)) < 0 ∨ L ≤ ((x3 + (2 : Int32))).toNatClampNeg then none else (if (x3 + (3 : Int32)) < 0 ∨ L ≤ ((x3 + (3 : Int32))).toNatClampNeg then none else ((f_X12_feed ((((q72.2 1000000 ((x3 + (1 : Int32))).toNatClampNeg)).toInt64 <<< (((32 : Int32)).toInt64 &&& 63)) ||| (((q72.2 1000000 ((x3 + (2 : Int32))).toNatClampNeg)).toInt64 &&& (Int64.ofNat 4294967295))) (q72.2 1000000 ((x3 + (3 : Int32))).toNatClampNeg) q72.2).bind fun q76 => (if q72.1 = q76.1 then (c_L_law_1555 (c_L_law_18 L n) L x3 q76.2) else (some ((0 : Int32), q76.2))))))))))) else (if ((σ 1000000 (x3).toNatClampNeg) &&& (63 : Int32)) = (11 : Int32) then (if (x3 + (1 : Int32)) < 0 ∨ L ≤ ((x3 + (1 : Int32))).toNatClampNeg then none else ((f_X11_text (σ 1000000 ((x3 + (1 : Int32))).toNatClampNeg) σ).bind fun q79 => (if (x3 + (1 : Int32)) < 0 ∨ L ≤ ((x3 + (1 : Int32))).toNatClampNeg then none else ((f_X12_text (q79.2 1000000 ((x3 + (1 : Int32))).toNatClampNeg) q79.2).bind fun q81 => (if q79.1 = q81.1 then (c_L_law_1555 (c_L_law_18 L n) L x3 q81.2) else (some ((0 : Int32), q81.2))))))) else (if ((σ 1000000 (x3).toNatClampNeg) &&& (63 : Int32)) = (12 : Int32) then (if (x3 + (1 : Int32)) < 0 ∨ L ≤ ((x3 + (1 : Int32))).toNatClampNeg then none else (if (x3 + (2 : Int32)) < 0 ∨ L ≤ ((x3 + (2 : Int32))).toNatClampNeg then none else (if (x3 + (3 : Int32)) < 0 ∨ L ≤ ((x3 + (3 : Int32))).toNatClampNeg then none else (if (x3 + (4 : Int32)) < 0 ∨ L ≤ ((x3 + (4 : Int32))).toNatClampNeg then none else (if (x3 + (5 : Int32)) < 0 ∨ L ≤ ((x3 + (5 : Int32))).toNatClampNeg then none else ((f_X11_law (σ 1000000 ((x3 + (1 : Int32))).toNatClampNeg) (σ 1000000 ((x3 + (2 : Int32))).toNatClampNeg) (σ 1000000 ((x3 + (3 : Int32))).toNatClampNeg) (σ 1000000 ((x3 + (4 : Int32))).toNatClampNeg) (σ 1000000 ((x3 + (5 : Int32))).toNatClampNeg) σ).bind fun q88 => (if (x3 + (1 : Int32)) < 0 ∨ L ≤ ((x3 + (1 : Int32))).toNatClampNeg then none else (if (x3 + (2 : Int32)) < 0 ∨ L ≤ ((x3 + (2 : Int32))).toNatClampNeg then none else (if (x3 + (3 : Int32)) < 0 ∨ L ≤ ((x3 + (3 : Int32))).toNatClampNeg then none else (if (x3 + (4 : Int32)) < 0 ∨ L ≤ ((x3 + (4 : Int32))).toNatClampNeg then none else (if (x3 + (5 : Int32)) < 0 ∨ L ≤ ((x3 + (5 : Int32))).toNatClampNeg then none else ((f_X12_law (q88.2 1000000 ((x3 + (1 : Int32))).toNatClampNeg) (q88.2 1000000 ((x3 + (2 : Int32))).toNatClampNeg) (q88.2 1000000 ((x3 + (3 : Int32))).toNatClampNeg) (q88.2 1000000 ((x3 + (4 : Int32))).toNatClampNeg) (q88.2 1000000 ((x3 + (5 : Int32))).toNatClampNeg) q88.2).bind fun q94 => (if q88.1 = q94.1 then (c_L_law_1555 (c_L_law_18 L n) L x3 q94.2) else (some ((0 : Int32), q94.2))))))))))))))) else (if ((σ 1000000 (x3).toNatClampNeg) &&& (63 : Int32)) = (13 : Int32) then (if (x3 + (1 : Int32)) < 0 ∨ L ≤ ((x3 + (1 : Int32))).toNatClampNeg then none else ((f_X11_days (σ 1000000 ((x3 + (1 : Int32))).toNatClampNeg) σ).bind fun q97 => (if (x3 + (1 : Int32)) < 0 ∨ L ≤ ((x3 + (1 : Int32))).toNatClampNeg then none else ((f_X12_days (q97.2 1000000 ((x3 + (1 : Int32))).toNatClampNeg) q97.2).bind fun q99 => (if q97.1 = q99.1 then (c_L_law_1555 (c_L_law_18 L n) L x3 q99.2) else (some ((0 : Int32), q99.2))))))) else (if ((σ 1000000 (x3).toNatClampNeg) &&& (63 : Int32)) = (14 : Int32) then (if (x3 + (1 : Int32)) < 0 ∨ L ≤ ((x3 + (1 : Int32))).toNatClampNeg then none else ((f_X11_floods (σ 1000000 ((x3 + (1 : Int32))).toNatClampNeg) σ).bind fun q102 => (if (x3 + (1 : Int32)) < 0 ∨ L ≤ ((x3 + (1 : Int32))).toNatClampNeg then none else ((f_X12_floods (q102.2 1000000 ((x3 + (1 : Int32))).toNatClampNeg) q102.2).bind fun q104 => (if q102.1 = q104.1 then (c_L_law_1555 (c_L_law_18 L n) L x3 q104.2) else (some ((0 : Int32), q104.2))))))) else (if ((σ 1000000 (x3).toNatClampNeg) &&& (63 : Int32)) = (15 : Int32) then (if (x3 + (1 : Int32)) < 0 ∨ L ≤ ((x3 + (1 : Int32))).toNatClampNeg then none else (if (x3 + (2 : Int32)) < 0 ∨ L ≤ ((x3 + (2 : Int32))).toNatClampNeg then none else (if (x3 + (3 : Int32)) < 0 ∨ L ≤ ((x3 + (3 : Int32))).toNatClampNeg then none else ((f_X11_then (σ 1000000 ((x3 + (1 : Int32))).toNatClampNeg) (σ 1000000 ((x3 + (2 : Int32))).toNatClampNeg) (σ 1000000 ((x3 + (3 : Int32))).toNatClampNeg) σ).bind fun q109 => (if (x3 + (1 : Int32)) < 0 ∨ L ≤ ((x3 + (1 : Int32))).toNatClampNeg then none else (if (x3 + (2 : Int32)) < 0 ∨ L ≤ ((x3 + (2 : Int32))).toNatClampNeg then none else (if (x3 + (3 : Int32)) < 0 ∨ L ≤ ((x3 + (3 : Int32))).toNatClampNeg then none else ((f_X12_then (q109.2 1000000 ((x3 + (1 : Int32))).toNatClampNeg) (q109.2 1000000 ((x3 + (2 : Int32))).toNatClampNeg) (q109.2 1000000 ((x3 + (3 : Int32))).toNatClampNeg) q109.2).bind fun q113 => (if q109.1 = q113.1 then (c_L_law_1555 (c_L_law_18 L n) L x3 q113.2) else (some ((0 : Int32), q113.2))))))))))) else (if ((σ 1000000 (x3).toNatClampNeg) &&& (63 : Int32)) = (16 : Int32) then (if (x3 + (1 : Int32)) < 0 ∨ L ≤ ((x3 + (1 : Int32))).toNatClampNeg then none else (if (x3 + (2 : Int32)) < 0 ∨ L ≤ ((x3 + (2 : Int32))).toNatClampNeg then none else ((f_X11_in (σ 1000000 ((x3 + (1 : Int32))).toNatClampNeg) (σ 1000000 ((x3 + (2 : Int32))).toNatClampNeg) σ).bind fun q117 => (if (x3 + (1 : Int32)) < 0 ∨ L ≤ ((x3 + (1 : Int32))).toNatClampNeg then none else (if (x3 + (2 : Int32)) < 0 ∨ L ≤ ((x3 + (2 : Int32))).toNatClampNeg then none else ((f_X12_in (q117.2 1000000 ((x3 + (1 : Int32))).toNatClampNeg) (q117.2 1000000 ((x3 + (2 : Int32))).toNatClampNeg) q117.2).bind fun q120 => (if q117.1 = q120.1 then (c_L_law_1555 (c_L_law_18 L n) L x3 q120.2) else (some ((0 : Int32), q120.2))))))))) else (if ((σ 1000000 (x3).toNatClampNeg) &&& (63 : Int32)) = (17 : Int32) then (if (x3 + (1 : Int32)) < 0 ∨ L ≤ ((x3 + (1 : Int32))).toNatClampNeg then none else (if (x3 + (2 : Int32)) < 0 ∨ L ≤ ((x3 + (2 : Int32))).toNatClampNeg then none else (if (x3 + (3 : Int32)) < 0 ∨ L ≤ ((x3 + (3 : Int32))).toNatClampNeg then none else ((f_X11_seen (σ 1000000 ((x3 + (1 : Int32))).toNatClampNeg) (σ 1000000 ((x3 + (2 : Int32))).toNatClampNeg) (σ 1000000 ((x3 + (3 : Int32))).toNatClampNeg) σ).bind fun q125 => (if (x3 + (1 : Int32)) < 0 ∨ L ≤ ((x3 + (1 : Int32))).toNatClampNeg then none else (if (x3 + (2 : Int32)) < 0 ∨ L ≤ ((x3 + (2 : Int32))).toNatClampNeg then none else (if (x3 + (3 : Int32)) < 0 ∨ L ≤ ((x3 + (3 : Int32))).toNatClampNeg then none else ((f_X12_seen (q125.2 1000000 ((x3 + (1 : Int32))).toNatClampNeg) (q125.2 1000000 ((x3 + (2 : Int32))).toNatClampNeg) (q125.2 1000000 ((x3 + (3 : Int32))).toNatClampNeg) q125.2).bind fun q129 => (if q125.1 = q129.1 then (c_L_law_1555 (c_L_law_18 L n) L x3 q129.2) else (some ((0 : Int32), q129.2))))))))))) else (if ((σ 1000000 (x3).toNatClampNeg) &&& (63 : Int32)) = (18 : Int32) then (if (x3 + (1 : Int32)) < 0 ∨ L ≤ ((x3 + (1 : Int32))).toNatClampNeg then none else (if (x3 + (2 : Int32)) < 0 ∨ L ≤ ((x3 + (2 : Int32))).toNatClampNeg then none else ((f_X11_round (σ 1000000 ((x3 + (1 : Int32))).toNatClampNeg) (σ 1000000 ((x3 + (2 : Int32))).toNatClampNeg) σ).bind fun q133 => (if (x3 + (1 : Int32)) < 0 ∨ L ≤ ((x3 + (1 : Int32))).toNatClampNeg then none else (if (x3 + (2 : Int32)) < 0 ∨ L ≤ ((x3 + (2 : Int32))).toNatClampNeg then none else ((f_X12_round (q133.2 1000000 ((x3 + (1 : Int32))).toNatClampNeg) (q133.2 1000000 ((x3 + (2 : Int32))).toNatClampNeg) q133.2).bind fun q136 => (if q133.1 = q136.1 then (c_L_law_1555 (c_L_law_18 L n) L x3 q136.2) else (some ((0 : Int32), q136.2))))))))) else (if ((σ 1000000 (x3).toNatClampNeg) &&& (63 : Int32)) = (19 : Int32) then (if (x3 + (1 : Int32)) < 0 ∨ L ≤ ((x3 + (1 : Int32))).toNatClampNeg then none else (if (x3 + (2 : Int32)) < 0 ∨ L ≤ ((x3 + (2 : Int32))).toNatClampNeg then none else (if (x3 + (3 : Int32)) < 0 ∨ L ≤ ((x3 + (3 : Int32))).toNatClampNeg then none else ((f_X11_soon (σ 1000000 ((x3 + (1 : Int32))).toNatClampNeg) (σ 1000000 ((x3 + (2 : Int32))).toNatClampNeg) (σ 1000000 ((x3 + (3 : Int32))).toNatClampNeg) σ).bind fun q141 => (if (x3 + (1 : Int32)) < 0 ∨ L ≤ ((x3 + (1 : Int32))).toNatClampNeg then none else (if (x3 + (2 : Int32)) < 0 ∨ L ≤ ((x3 + (2 : Int32))).toNatClampNeg then none else (if (x3 + (3 : Int32)) < 0 ∨ L ≤ ((x3 + (3 : Int32))).toNatClampNeg then none else ((f_X12_soon (q141.2 1000000 ((x3 + (1 : Int32))).toNatClampNeg) (q141.2 1000000 ((x3 + (2 : Int32))).toNatClampNeg) (q141.2 1000000 ((x3 + (3 : Int32))).toNatClampNeg) q141.2).bind fun q145 => (if q141.1 = q145.1 then (c_L_law_1555 (c_L_law_18 L n) L x3 q145.2) else (some ((0 : Int32), q145.2))))))))))) else (if ((σ 1000000 (x3).toNatClampNeg) &&& (63 : Int32)) = (20 : Int32) then (if (x3 + (1 : Int32)) < 0 ∨ L ≤ ((x3 + (1 : Int32))).toNatClampNeg then none else (if (x3 + (2 : Int32)) < 0 ∨ L ≤ ((x3 + (2 : Int32))).toNatClampNeg then none else (if (x3 + (3 : Int32)) < 0 ∨ L ≤ ((x3 + (3 : Int32))).toNatClampNeg then none else ((f_X11_cheap (σ 1000000 ((x3 + (1 : Int32))).toNatClampNeg) (σ 1000000 ((x3 + (2 : Int32))).toNatClampNeg) (σ 1000000 ((x3 + (3 : Int32))).toNatClampNeg) σ).bind fun q150 => (if (x3 + (1 : Int32)) < 0 ∨ L ≤ ((x3 + (1 : Int32))).toNatClampNeg then none else (if (x3 + (2 : Int32)) < 0 ∨ L ≤ ((x3 + (2 : Int32))).toNatClampNeg then none else (if (x3 + (3 : Int32)) < 0 ∨ L ≤ ((x3 + (3 : Int32))).toNatClampNeg then none else ((f_X12_cheap (q150.2 1000000 ((x3 + (1 : Int32))).toNatClampNeg) (q150.2 1000000 ((x3 + (2 : Int32))).toNatClampNeg) (q150.2 1000000 ((x3 + (3 : Int32))).toNatClampNeg) q150.2).bind fun q154 => (if q150.1 = q154.1 then (c_L_law_1555 (c_L_law_18 L n) L x3 q154.2) else (some ((0 : Int32), q154.2))))))))))) else (if ((σ 1000000 (x3).toNatClampNeg) &&& (63 : Int32)) = (21 : Int32) then (if (x3 + (1 : Int32)) < 0 ∨ L ≤ ((x3 + (1 : Int32))).toNatClampNeg then none else ((f_X11_rings (σ 1000000 ((x3 + (1 : Int32))).toNatClampNeg) σ).bind fun q157 => (if (x3 + (1 : Int32)) < 0 ∨ L ≤ ((x3 + (1 : Int32))).toNatClampNeg then none else ((f_X12_rings (q157.2 1000000 ((x3 + (1 : Int32))).toNatClampNeg) q157.2).bind fun q159 => (if q157.1 = q159.1 then (c_L_law_1555 (c_L_law_18 L n) L x3 q159.2) else (some ((0 : Int32), q159.2))))))) else (if ((σ 1000000 (x3).toNatClampNeg) &&& (63 : Int32)) = (22 : Int32) then (if (x3 + (1 : Int32)) < 0 ∨ L ≤ ((x3 + (1 : Int32))).toNatClampNeg then none else (if (x3 + (2 : Int32)) < 0 ∨ L ≤ ((x3 + (2 : Int32))).toNatClampNeg then none else ((f_X11_meet (σ 1000000 ((x3 + (1 : Int32))).toNatClampNeg) (σ 1000000 ((x3 + (2 : Int32))).toNatClampNeg) σ).bind fun q163 => (if (x3 + (1 : Int32)) < 0 ∨ L ≤ ((x3 + (1 : Int32))).toNatClampNeg then none else (if (x3 + (2 : Int32)) < 0 ∨ L ≤ ((x3 + (2 : Int32))).toNatClampNeg then none else ((f_X12_meet (q163.2 1000000 ((x3 + (1 : Int32))).toNatClampNeg) (q163.2 1000000 ((x3 + (2 : Int32))).toNatClampNeg) q163.2).bind fun q166 => (if q163.1 = q166.1 then (c_L_law_1555 (c_L_law_18 L n) L x3 q166.2) else (some ((0 : Int32), q166.2))))))))) else (if ((σ 1000000 (x3).toNatClampNeg) &&& (63 : Int32)) = (23 : Int32) then ((f_X11_tenth  σ).bind fun q168 => ((f_X12_tenth  q168.2).bind fun q169 => (if q168.1 = q169.1 then (c_L_law_1555 (c_L_law_18 L n) L x3 q169.2) else (some ((0 : Int32), q169.2))))) else (if ((σ 1000000 (x3).toNatClampNeg) &&& (63 : Int32)) = (24 : Int32) then (if (x3 + (1 : Int32)) < 0 ∨ L ≤ ((x3 + (1 : Int32))).toNatClampNeg then none else (if (x3 + (2 : Int32)) < 0 ∨ L ≤ ((x3 + (2 : Int32))).toNatClampNeg then none else (if (x3 + (3 : Int32)) < 0 ∨ L ≤ ((x3 + (3 : Int32))).toNatClampNeg then none else ((f_X11_find (σ 1000000 ((x3 + (1 : Int32))).toNatClampNeg) (σ 1000000 ((x3 + (2 : Int32))).toNatClampNeg) (σ 1000000 ((x3 + (3 : Int32))).toNatClampNeg) σ).bind fun q174 => (if (x3 + (1 : Int32)) < 0 ∨ L ≤ ((x3 + (1 : Int32))).toNatClampNeg then none else (if (x3 + (2 : Int32)) < 0 ∨ L ≤ ((x3 + (2 : Int32))).toNatClampNeg then none else (if (x3 + (3 : Int32)) < 0 ∨ L ≤ ((x3 + (3 : Int32))).toNatClampNeg then none else ((f_X12_find (q174.2 1000000 ((x3 + (1 : Int32))).toNatClampNeg) (q174.2 1000000 ((x3 + (2 : Int32))).toNatClampNeg) (q174.2 1000000 ((x3 + (3 : Int32))).toNatClampNeg) q174.2).bind fun q178 => (if q174.1 = q178.1 then (c_L_law_1555 (c_L_law_18 L n) L x3 q178.2) else (some ((0 : Int32), q178.2))))))))))) else (if ((σ 1000000 (x3).toNatClampNeg) &&& (63 : Int32)) = (25 : Int32) then ((f_X11_forget  σ).bind fun q180 => ((f_X12_forget  q180.2).bind fun q181 => (if q180.1 = q181.1 then (c_L_law_1555 (c_L_law_18 L n) L x3 q181.2) else (some ((0 : Int32), q181.2))))) else (if ((σ 1000000 (x3).toNatClampNeg) &&& (63 : Int32)) = (26 : Int32) then (if (x3 + (1 : Int32)) < 0 ∨ L ≤ ((x3 + (1 : Int32))).toNatClampNeg then none else ((f_X11_agrees (σ 1000000 ((x3 + (1 : Int32))).toNatClampNeg) σ).bind fun q184 => (if (x3 + (1 : Int32)) < 0 ∨ L ≤ ((x3 + (1 : Int32))).toNatClampNeg then none else ((f_X12_agrees (q184.2 1000000 ((x3 + (1 : Int32))).toNatClampNeg) q184.2).bind fun q186 => (if q184.1 = q186.1 then (c_L_law_1555 (c_L_law_18 L n) L x3 q186.2) else (some ((0 : Int32), q186.2))))))) else (if ((σ 1000000 (x3).toNatClampNeg) &&& (63 : Int32)) = (27 : Int32) then (if (x3 + (1 : Int32)) < 0 ∨ L ≤ ((x3 + (1 : Int32))).toNatClampNeg then none else (if (x3 + (2 : Int32)) < 0 ∨ L ≤ ((x3 + (2 : Int32))).toNatClampNeg then none else (if (x3 + (3 : Int32)) < 0 ∨ L ≤ ((x3 + (3 : Int32))).toNatClampNeg then none else ((f_X11_belows (σ 1000000 ((x3 + (1 : Int32))).toNatClampNeg) (σ 1000000 ((x3 + (2 : Int32))).toNatClampNeg) (σ 1000000 ((x3 + (3 : Int32))).toNatClampNeg) σ).bind fun q191 => (if (x3 + (1 : Int32)) < 0 ∨ L ≤ ((x3 + (1 : Int32))).toNatClampNeg then none else (if (x3 + (2 : Int32)) < 0 ∨ L ≤ ((x3 + (2 : Int32))).toNatClampNeg then none else (if (x3 + (3 : Int32)) < 0 ∨ L ≤ ((x3 + (3 : Int32))).toNatClampNeg then none else ((f_X12_belows (q191.2 1000000 ((x3 + (1 : Int32))).toNatClampNeg) (q191.2 1000000 ((x3 + (2 : Int32))).toNatClampNeg) (q191.2 1000000 ((x3 + (3 : Int32))).toNatClampNeg) q191.2).bind fun q195 => (if q191.1 = q195.1 then (c_L_law_1555 (c_L_law_18 L n) L x3 q195.2) else (some ((0 : Int32), q195.2))))))))))) else (if ((σ 1000000 (x3).toNatClampNeg) &&& (63 : Int32)) = (28 : Int32) then (if (x3 + (1 : Int32)) < 0 ∨ L ≤ ((x3 + (1 : Int32))).toNatClampNeg then none else (if (x3 + (2 : Int32)) < 0 ∨ L ≤ ((x3 + (2 : Int32))).toNatClampNeg then none else (if (x3 + (3 : Int32)) < 0 ∨ L ≤ ((x3 + (3 : Int32))).toNatClampNeg then none else (if (x3 + (4 : Int32)) < 0 ∨ L ≤ ((x3 + (4 : Int32))).toNatClampNeg then none else ((f_X11_cork (σ 1000000 ((x3 + (1 : Int32))).toNatClampNeg) (σ 1000000 ((x3 + (2 : Int32))).toNatClampNeg) (σ 1000000 ((x3 + (3 : Int32))).toNatClampNeg) (σ 1000000 ((x3 + (4 : Int32))).toNatClampNeg) σ).bind fun q201 => (if (x3 + (1 : Int32)) < 0 ∨ L ≤ ((x3 + (1 : Int32))).toNatClampNeg then none else (if (x3 + (2 : Int32)) < 0 ∨ L ≤ ((x3 + (2 : Int32))).toNatClampNeg then none else (if (x3 + (3 : Int32)) < 0 ∨ L ≤ ((x3 + (3 : Int32))).toNatClampNeg then none else (if (x3 + (4 : Int32)) < 0 ∨ L ≤ ((x3 + (4 : Int32))).toNatClampNeg then none else ((f_X12_cork (q201.2 1000000 ((x3 + (1 : Int32))).toNatClampNeg) (q201.2 1000000 ((x3 + (2 : Int32))).toNatClampNeg) (q201.2 1000000 ((x3 + (3 : Int32))).toNatClampNeg) (q201.2 1000000 ((x3 + (4 : Int32))).toNatClampNeg) q201.2).bind fun q206 => (if q201.1 = q206.1 then (c_L_law_1555 (c_L_law_18 L n) L x3 q206.2) else (some ((0 : Int32), q206.2))))))))))))) else (if ((σ 1000000 (x3).toNatClampNeg) &&& (63 : Int32)) = (29 : Int32) then (if (x3 + (1 : Int32)) < 0 ∨ L ≤ ((x3 + (1 : Int32))).toNatClampNeg then none else ((f_X11_seed (σ 1000000 ((x3 + (1 : Int32))).toNatClampNeg) σ).bind fun q209 => (if (x3 + (1 : Int32)) < 0 ∨ L ≤ ((x3 + (1 : Int32))).toNatClampNeg then none else ((f_X12_seed (q209.2 1000000 ((x3 + (1 : Int32))).toNatClampNeg) q209.2).bind fun q211 => (if q209.1 = q211.1 then (c_L_law_1555 (c_L_law_18 L n) L x3 q211.2) else (some ((0 : Int32), q211.2))))))) else (if ((σ 1000000 (x3).toNatClampNeg) &&& (63 : Int32)) = (30 : Int32) then (if (x3 + (1 : Int32)) < 0 ∨ L ≤ ((x3 + (1 : Int32))).toNatClampNeg then none else (if (x3 + (2 : Int32)) < 0 ∨ L ≤ ((x3 + (2 : Int32))).toNatClampNeg then none else (if (x3 + (3 : Int32)) < 0 ∨ L ≤ ((x3 + (3 : Int32))).toNatClampNeg then none else ((f_X11_voice (σ 1000000 ((x3 + (1 : Int32))).toNatClampNeg) (σ 1000000 ((x3 + (2 : Int32))).toNatClampNeg) (σ 1000000 ((x3 + (3 : Int32))).toNatClampNeg) σ).bind fun q216 => (if (x3 + (1 : Int32)) < 0 ∨ L ≤ ((x3 + (1 : Int32))).toNatClampNeg then none else (if (x3 + (2 : Int32)) < 0 ∨ L ≤ ((x3 + (2 : Int32))).toNatClampNeg then none else (if (x3 + (3 : Int32)) < 0 ∨ L ≤ ((x3 + (3 : Int32))).toNatClampNeg then none else ((f_X12_voice (q216.2 1000000 ((x3 + (1 : Int32))).toNatClampNeg) (q216.2 1000000 ((x3 + (2 : Int32))).toNatClampNeg) (q216.2 1000000 ((x3 + (3 : Int32))).toNatClampNeg) q216.2).bind fun q220 => (if q216.1 = q220.1 then (c_L_law_1555 (c_L_law_18 L n) L x3 q220.2) else (some ((0 : Int32), q220.2))))))))))) else (if ((σ 1000000 (x3).toNatClampNeg) &&& (63 : Int32)) = (31 : Int32) then (if (x3 + (1 : Int32)) < 0 ∨ L ≤ ((x3 + (1 : Int32))).toNatClampNeg then none else ((f_X11_trace (σ 1000000 ((x3 + (1 : Int32))).toNatClampNeg) σ).bind fun q223 => (if (x3 + (1 : Int32)) < 0 ∨ L ≤ ((x3 + (1 : Int32))).toNatClampNeg then none else ((f_X12_trace (q223.2 1000000 ((x3 + (1 : Int32))).toNatClampNeg) q223.2).bind fun q225 => (if q223.1 = q225.1 then (c_L_law_1555 (c_L_law_18 L n) L x3 q225.2) else (some ((0 : Int32), q225.2))))))) else (if ((σ 1000000 (x3).toNatClampNeg) &&& (63 : Int32)) = (32 : Int32) then (if (x3 + (1 : Int32)) < 0 ∨ L ≤ ((x3 + (1 : Int32))).toNatClampNeg then none else (if (x3 + (2 : Int32)) < 0 ∨ L ≤ ((x3 + (2 : Int32))).toNatClampNeg then none else (if (x3 + (3 : Int32)) < 0 ∨ L ≤ ((x3 + (3 : Int32))).toNatClampNeg then none else ((f_X11_sheet (σ 1000000 ((x3 + (1 : Int32))).toNatClampNeg) (σ 1000000 ((x3 + (2 : Int32))).toNatClampNeg) (σ 1000000 ((x3 + (3 : Int32))).toNatClampNeg) σ).bind fun q230 => (if (x3 + (1 : Int32)) < 0 ∨ L ≤ ((x3 + (1 : Int32))).toNatClampNeg then none else (if (x3 + (2 : Int32)) < 0 ∨ L ≤ ((x3 + (2 : Int32))).toNatClampNeg then none else (if (x3 + (3 : Int32)) < 0 ∨ L ≤ ((x3 + (3 : Int32))).toNatClampNeg then none else ((f_X12_sheet (q230.2 1000000 ((x3 + (1 : Int32))).toNatClampNeg) (q230.2 1000000 ((x3 + (2 : Int32))).toNatClampNeg) (q230.2 1000000 ((x3 + (3 : Int32))).toNatClampNeg) q230.2).bind fun q234 => (if q230.1 = q234.1 then (c_L_law_1555 (c_L_law_18 L n) L x3 q234.2) else (some ((0 : Int32), q234.2))))))))))) else (if ((σ 1000000 (x3).toNatClampNeg) &&& (63 : Int32)) = (33 : Int32) then (if (x3 + (1 : Int32)) < 0 ∨ L ≤ ((x3 + (1 : Int32))).toNatClampNeg then none else (if (x3 + (2 : Int32)) < 0 ∨ L ≤ ((x3 + (2 : Int32))).toNatClampNeg then none else (if (x3 + (3 : Int32)) < 0 ∨ L ≤ ((x3 + (3 : Int32))).toNatClampNeg then none else ((f_X11_put (σ 1000000 ((x3 + (1 : Int32))).toNatClampNeg) (σ 1000000 ((x3 + (2 : Int32))).toNatClampNeg) (σ 1000000 ((x3 + (3 : Int32))).toNatClampNeg) σ).bind fun q239 => (if (x3 + (1 : Int32)) < 0 ∨ L ≤ ((x3 + (1 : Int32))).toNatClampNeg then none else (if (x3 + (2 : Int32)) < 0 ∨ L ≤ ((x3 + (2 : Int32))).toNatClampNeg then none else (if (x3 + (3 : Int32)) < 0 ∨ L ≤ ((x3 + (3 : Int32))).toNatClampNeg then none else ((f_X12_put (q239.2 1000000 ((x3 + (1 : Int32))).toNatClampNeg) (q239.2 1000000 ((x3 + (2 : Int32))).toNatClampNeg) (q239.2 1000000 ((x3 + (3 : Int32))).toNatClampNeg) q239.2).bind fun q243 => (if q239.1 = q243.1 then (c_L_law_1555 (c_L_law_18 L n) L x3 q243.2) else (some ((0 : Int32), q243.2))))))))))) else (if ((σ 1000000 (x3).toNatClampNeg) &&& (63 : Int32)) = (34 : Int32) then (if (x3 + (1 : Int32)) < 0 ∨ L ≤ ((x3 + (1 : Int32))).toNatClampNeg then none else (if (x3 + (2 : Int32)) < 0 ∨ L ≤ ((x3 + (2 : Int32))).toNatClampNeg then none else (if (x3 + (3 : Int32)) < 0 ∨ L ≤ ((x3 + (3 : Int32))).toNatClampNeg then none else (if (x3 + (4 : Int32)) < 0 ∨ L ≤ ((x3 + (4 : Int32))).toNatClampNeg then none else (if (x3 + (5 : Int32)) < 0 ∨ L ≤ ((x3 + (5 : Int32))).toNatClampNeg then none else ((f_X11_move (σ 1000000 ((x3 + (1 : Int32))).toNatClampNeg) (σ 1000000 ((x3 + (2 : Int32))).toNatClampNeg) (σ 1000000 ((x3 + (3 : Int32))).toNatClampNeg) (σ 1000000 ((x3 + (4 : Int32))).toNatClampNeg) (σ 1000000 ((x3 + (5 : Int32))).toNatClampNeg) σ).bind fun q250 => (if (x3 + (1 : Int32)) < 0 ∨ L ≤ ((x3 + (1 : Int32))).toNatClampNeg then none else (if (x3 + (2 : Int32)) < 0 ∨ L ≤ ((x3 + (2 : Int32))).toNatClampNeg then none else (if (x3 + (3 : Int32)) < 0 ∨ L ≤ ((x3 + (3 : Int32))).toNatClampNeg then none else (if (x3 + (4 : Int32)) < 0 ∨ L ≤ ((x3 + (4 : Int32))).toNatClampNeg then none else (if (x3 + (5 : Int32)) < 0 ∨ L ≤ ((x3 + (5 : Int32))).toNatClampNeg then none else ((f_X12_move (q250.2 1000000 ((x3 + (1 : Int32))).toNatClampNeg) (q250.2 1000000 ((x3 + (2 : Int32))).toNatClampNeg) (q250.2 1000000 ((x3 + (3 : Int32))).toNatClampNeg) (q250.2 1000000 ((x3 + (4 : Int32))).toNatClampNeg) (q250.2 1000000 ((x3 + (5 : Int32))).toNatClampNeg) q250.2).bind fun q256 => (if q250.1 = q256.1 then (c_L_law_1555 (c_L_law_18 L n) L x3 q256.2) else (some ((0 : Int32), q256.2))))))))))))))) else (if ((σ 1000000 (x3).toNatClampNeg) &&& (63 : Int32)) = (35 : Int32) then ((f_X11_image  σ).bind fun q258 => ((f_X12_image  q258.2).bind fun q259 => (if q258.1 = q259.1 then (c_L_law_1555 (c_L_law_18 L n) L x3 q259.2) else (some ((0 : Int32), q259.2))))) else (if ((σ 1000000 (x3).toNatClampNeg) &&& (63 : Int32)) = (36 : Int32) then ((f_X11_restore  σ).bind fun q261 => ((f_X12_restore  q261.2).bind fun q262 => (if q261.1 = q262.1 then (c_L_law_1555 (c_L_law_18 L n) L x3 q262.2) else (some ((0 : Int32), q262.2))))) else (if ((σ 1000000 (x3).toNatClampNeg) &&& (63 : Int32)) = (37 : Int32) then (if (x3 + (1 : Int32)) < 0 ∨ L ≤ ((x3 + (1 : Int32))).toNatClampNeg then none else ((f_X11_tell (σ 1000000 ((x3 + (1 : Int32))).toNatClampNeg) σ).bind fun q265 => (if (x3 + (1 : Int32)) < 0 ∨ L ≤ ((x3 + (1 : Int32))).toNatClampNeg then none else ((f_X12_tell (q265.2 1000000 ((x3 + (1 : Int32))).toNatClampNeg) q265.2).bind fun q267 => (if q265.1 = q267.1 then (c_L_law_1555 (c_L_law_18 L n) L x3 q267.2) else (some ((0 : Int32), q267.2))))))) else (if ((σ 1000000 (x3).toNatClampNeg) &&& (63 : Int32)) = (38 : Int32) then (if (x3 + (1 : Int32)) < 0 ∨ L ≤ ((x3 + (1 : Int32))).toNatClampNeg then none else ((f_X11_check (σ 1000000 ((x3 + (1 : Int32))).toNatClampNeg) σ).bind fun q270 => (if (x3 + (1 : Int32)) < 0 ∨ L ≤ ((x3 + (1 : Int32))).toNatClampNeg then none else ((f_X12_check (q270.2 1000000 ((x3 + (1 : Int32))).toNatClampNeg) q270.2).bind fun q272 => (if q270.1 = q272.1 then (c_L_law_1555 (c_L_law_18 L n) L x3 q272.2) else (some ((0 : Int32), q272.2))))))) else (if ((σ 1000000 (x3).toNatClampNeg) &&& (63 : Int32)) = (39 : Int32) then (if (x3 + (1 : Int32)) < 0 ∨ L ≤ ((x3 + (1 : Int32))).toNatClampNeg then none else ((f_X11_count (σ 1000000 ((x3 + (1 : Int32))).toNatClampNeg) σ).bind fun q275 => (if (x3 + (1 : Int32)) < 0 ∨ L ≤ ((x3 + (1 : Int32))).toNatClampNeg then none else ((f_X12_count (q275.2 1000000 ((x3 + (1 : Int32))).toNatClampNeg) q275.2).bind fun q277 => (if q275.1 = q277.1 then (c_L_law_1555 (c_L_law_18 L n) L x3 q277.2) else (some ((0 : Int32), q277.2))))))) else (if ((σ 1000000 (x3).toNatClampNeg) &&& (63 : Int32)) = (40 : Int32) then (if (x3 + (1 : Int32)) < 0 ∨ L ≤ ((x3 + (1 : Int32))).toNatClampNeg then none else ((f_X11_told (σ 1000000 ((x3 + (1 : Int32))).toNatClampNeg) σ).bind fun q280 => (if (x3 + (1 : Int32)) < 0 ∨ L ≤ ((x3 + (1 : Int32))).toNatClampNeg then none else ((f_X12_told (q280.2 1000000 ((x3 + (1 : Int32))).toNatClampNeg) q280.2).bind fun q282 => (if q280.1 = q282.1 then (c_L_law_1555 (c_L_law_18 L n) L x3 q282.2) else (some ((0 : Int32), q282.2))))))) else (c_L_law_1555 (c_L_law_18 L n) L x3 σ))))))))))))))))))))))))))))))))))))))))))))
set_option maxHeartbeats 4000000 in
theorem okc_L_law_18 {L : Nat} {R : Int32 × Sg} {n : Nat} {x3 : Int32} {σ : Sg} {pl : mLoc} (h : c_L_law_18 L n x3 σ = some R) (hl : mlf [some (.ref 1000000), some (.ref 0), some (.ref 93), some (.int x3)] pl) : mAt 197 231 (some (.int R.1), (mSh, L, R.2)) 18 pl [] (mSh, L, σ) 106 2708 := by
  induction n generalizing x3 σ pl with
  | zero =>
    rw [c_L_law_18.eq_1] at h
    cases h
  | succ n ih =>
    refine mAt.less hl ?_
    rw [c_L_law_18.eq_2] at h
    refine mAt.blk bk_L_law_18 ck_L_law_18 ?_
    refine q_iload_n rfl ?_
    refine q_aload_n rfl ?_
    refine q_alenD (v := (Int32.ofNat L)) rfl hscr ?_
    refine q_bipush ?_
    refine q_isub ?_
    refine q_ic_gt (fun c1 => ?_) (fun c1 => ?_)
    · rw [if_pos c1] at h
      refine mAt.blk bk_L_law_1561 ck_L_law_1561 ?_
      refine q_iconst ?_
      have h := Option.some.inj h
      subst h
      exact q_iretZ (by decide) rfl (by decide) rfl
    · rw [if_neg c1] at h
      refine q_aload_n rfl ?_
      refine q_iload_n rfl ?_
      obtain ⟨c2, h⟩ := mnone h
      refine q_iald hscr rfl c2 ?_
      refine q_bipush ?_
      refine q_iand ?_
      refine q_tsw ?_
      refine ⟨fun c324 => ?_, fun c324 => ?_⟩
      · rw [if_pos c324] at h
        refine mAt.blk bk_L_law_212 ck_L_law_212 ?_
        refine q_aload_n rfl ?_
        obtain ⟨q3, e3, h⟩ := mbind h
        refine q_vI0 (by decide) rfl rfl ob_0 rfl (by decide) (ok_X11_well  e3) ?_
        refine q_aload_n rfl ?_
        obtain ⟨q4, e4, h⟩ := mbind h
        refine q_vI0 (by decide) rfl rfl ob_93 rfl (by decide) (ok_X12_well  e4) ?_
        refine q_ic_eq (fun c5 => ?_) (fun c5 => ?_)
        · rw [if_pos c5] at h
          exact okc_L_law_1555 (fun _ _ _ e hl => ih  e hl) h ⟨rfl, rfl, rfl, rfl, trivial⟩
        · rw [if_neg c5] at h
          refine q_iconst ?_
          have h := Option.some.inj h
          subst h
          exact q_iretZ (by decide) rfl (by decide) rfl
      · rw [if_neg c324] at h
        refine ⟨fun c323 => ?_, fun c323 => ?_⟩
        · rw [if_pos c323] at h
          refine mAt.blk bk_L_law_225 ck_L_law_225 ?_
          refine q_aload_n rfl ?_
          refine q_aload_n rfl ?_
          refine q_iload_n rfl ?_
          refine q_iconst ?_
          refine q_iadd ?_
          obtain ⟨c6, h⟩ := mnone h
          refine q_iald hscr rfl c6 ?_
          refine q_aload_n rfl ?_
          refine q_iload_n rfl ?_
          refine q_iconst ?_
          refine q_iadd ?_
          obtain ⟨c7, h⟩ := mnone h
          refine q_iald hscr rfl c7 ?_
          refine q_aload_n rfl ?_
          refine q_iload_n rfl ?_
          refine q_iconst ?_
          refine q_iadd ?_
          obtain ⟨c8, h⟩ := mnone h
          refine q_iald hscr rfl c8 ?_
          obtain ⟨q9, e9, h⟩ := mbind h
          refine q_vI3 (by decide) rfl rfl ob_0 rfl (by decide) (ok_X11_going  e9) ?_
          refine q_aload_n rfl ?_
          refine q_aload_n rfl ?_
          refine q_iload_n rfl ?_
          refine q_iconst ?_
          refine q_iadd ?_
          obtain ⟨c10, h⟩ := mnone h
          refine q_iald hscr rfl c10 ?_
          refine q_aload_n rfl ?_
          refine q_iload_n rfl ?_
          refine q_iconst ?_
          refine q_iadd ?_
          obtain ⟨c11, h⟩ := mnone h
          refine q_iald hscr rfl c11 ?_
          refine q_aload_n rfl ?_
          refine q_iload_n rfl ?_
          refine q_iconst ?_
          refine q_iadd ?_
          obtain ⟨c12, h⟩ := mnone h
          refine q_iald hscr rfl c12 ?_
          obtain ⟨q13, e13, h⟩ := mbind h
          refine q_vI3 (by decide) rfl rfl ob_93 rfl (by decide) (ok_X12_going  e13) ?_
          refine q_ic_eq (fun c14 => ?_) (fun c14 => ?_)
          · rw [if_pos c14] at h
            exact okc_L_law_1555 (fun _ _ _ e hl => ih  e hl) h ⟨rfl, rfl, rfl, rfl, trivial⟩
          · rw [if_neg c14] at h
            refine q_iconst ?_
            have h := Option.some.inj h
            subst h
            exact q_iretZ (by decide) rfl (by decide) rfl
        · rw [if_neg c323] at h
          refine ⟨fun c322 => ?_, fun c322 => ?_⟩
          · rw [if_pos c322] at h
            refine mAt.blk bk_L_law_268 ck_L_law_268 ?_
            refine q_aload_n rfl ?_
            refine q_aload_n rfl ?_
            refine q_iload_n rfl ?_
            refine q_iconst ?_
            refine q_iadd ?_
            obtain ⟨c15, h⟩ := mnone h
            refine q_iald hscr rfl c15 ?_
            refine q_aload_n rfl ?_
            refine q_iload_n rfl ?_
            refine q_iconst ?_
            refine q_iadd ?_
            obtain ⟨c16, h⟩ := mnone h
            refine q_iald hscr rfl c16 ?_
            refine q_aload_n rfl ?_
            refine q_iload_n rfl ?_
            refine q_iconst ?_
            refine q_iadd ?_
            obtain ⟨c17, h⟩ := mnone h
            refine q_iald hscr rfl c17 ?_
            obtain ⟨q18, e18, h⟩ := mbind h
            refine q_vI3 (by decide) rfl rfl ob_0 rfl (by decide) (ok_X11_set  e18) ?_
            refine q_aload_n rfl ?_
            refine q_aload_n rfl ?_
            refine q_iload_n rfl ?_
            refine q_iconst ?_
            refine q_iadd ?_
            obtain ⟨c19, h⟩ := mnone h
            refine q_iald hscr rfl c19 ?_
            refine q_aload_n rfl ?_
            refine q_iload_n rfl ?_
            refine q_iconst ?_
            refine q_iadd ?_
            obtain ⟨c20, h⟩ := mnone h
            refine q_iald hscr rfl c20 ?_
            refine q_aload_n rfl ?_
            refine q_iload_n rfl ?_
            refine q_iconst ?_
            refine q_iadd ?_
            obtain ⟨c21, h⟩ := mnone h
            refine q_iald hscr rfl c21 ?_
            obtain ⟨q22, e22, h⟩ := mbind h
            refine q_vI3 (by decide) rfl rfl ob_93 rfl (by decide) (ok_X12_set  e22) ?_
            refine q_ic_eq (fun c23 => ?_) (fun c23 => ?_)
            · rw [if_pos c23] at h
              exact okc_L_law_1555 (fun _ _ _ e hl => ih  e hl) h ⟨rfl, rfl, rfl, rfl, trivial⟩
            · rw [if_neg c23] at h
              refine q_iconst ?_
              have h := Option.some.inj h
              subst h
              exact q_iretZ (by decide) rfl (by decide) rfl
          · rw [if_neg c322] at h
            refine ⟨fun c321 => ?_, fun c321 => ?_⟩
            · rw [if_pos c321] at h
              refine mAt.blk bk_L_law_311 ck_L_law_311 ?_
              refine q_aload_n rfl ?_
              refine q_aload_n rfl ?_
              refine q_iload_n rfl ?_
              refine q_iconst ?_
              refine q_iadd ?_
              obtain ⟨c24, h⟩ := mnone h
              refine q_iald hscr rfl c24 ?_
              refine q_aload_n rfl ?_
              refine q_iload_n rfl ?_
              refine q_iconst ?_
              refine q_iadd ?_
              obtain ⟨c25, h⟩ := mnone h
              refine q_iald hscr rfl c25 ?_
              obtain ⟨q26, e26, h⟩ := mbind h
              refine q_vI2 (by decide) rfl rfl ob_0 rfl (by decide) (ok_X11_ofWell  e26) ?_
              refine q_aload_n rfl ?_
              refine q_aload_n rfl ?_
              refine q_iload_n rfl ?_
              refine q_iconst ?_
              refine q_iadd ?_
              obtain ⟨c27, h⟩ := mnone h
              refine q_iald hscr rfl c27 ?_
              refine q_aload_n rfl ?_
              refine q_iload_n rfl ?_
              refine q_iconst ?_
              refine q_iadd ?_
              obtain ⟨c28, h⟩ := mnone h
              refine q_iald hscr rfl c28 ?_
              obtain ⟨q29, e29, h⟩ := mbind h
              refine q_vI2 (by decide) rfl rfl ob_93 rfl (by decide) (ok_X12_ofWell  e29) ?_
              refine q_ic_eq (fun c30 => ?_) (fun c30 => ?_)
              · rw [if_pos c30] at h
                exact okc_L_law_1555 (fun _ _ _ e hl => ih  e hl) h ⟨rfl, rfl, rfl, rfl, trivial⟩
              · rw [if_neg c30] at h
                refine q_iconst ?_
                have h := Option.some.inj h
                subst h
                exact q_iretZ (by decide) rfl (by decide) rfl
            · rw [if_neg c321] at h
              refine ⟨fun c320 => ?_, fun c320 => ?_⟩
              · rw [if_pos c320] at h
                refine mAt.blk bk_L_law_344 ck_L_law_344 ?_
                refine q_aload_n rfl ?_
                refine q_aload_n rfl ?_
                refine q_iload_n rfl ?_
                refine q_iconst ?_
                refine q_iadd ?_
                obtain ⟨c31, h⟩ := mnone h
                refine q_iald hscr rfl c31 ?_
                obtain ⟨q32, e32, h⟩ := mbind h
                refine q_vI1 (by decide) rfl rfl ob_0 rfl (by decide) (ok_X11_goings  e32) ?_
                refine q_aload_n rfl ?_
                refine q_aload_n rfl ?_
                refine q_iload_n rfl ?_
                refine q_iconst ?_
                refine q_iadd ?_
                obtain ⟨c33, h⟩ := mnone h
                refine q_iald hscr rfl c33 ?_
                obtain ⟨q34, e34, h⟩ := mbind h
                refine q_vI1 (by decide) rfl rfl ob_93 rfl (by decide) (ok_X12_goings  e34) ?_
                refine q_ic_eq (fun c35 => ?_) (fun c35 => ?_)
                · rw [if_pos c35] at h
                  exact okc_L_law_1555 (fun _ _ _ e hl => ih  e hl) h ⟨rfl, rfl, rfl, rfl, trivial⟩
                · rw [if_neg c35] at h
                  refine q_iconst ?_
                  have h := Option.some.inj h
                  subst h
                  exact q_iretZ (by decide) rfl (by decide) rfl
              · rw [if_neg c320] at h
                refine ⟨fun c319 => ?_, fun c319 => ?_⟩
                · rw [if_pos c319] at h
                  refine mAt.blk bk_L_law_367 ck_L_law_367 ?_
                  refine q_aload_n rfl ?_
                  refine q_aload_n rfl ?_
                  refine q_iload_n rfl ?_
                  refine q_iconst ?_
                  refine q_iadd ?_
                  obtain ⟨c36, h⟩ := mnone h
                  refine q_iald hscr rfl c36 ?_
                  refine q_aload_n rfl ?_
                  refine q_iload_n rfl ?_
                  refine q_iconst ?_
                  refine q_iadd ?_
                  obtain ⟨c37, h⟩ := mnone h
                  refine q_iald hscr rfl c37 ?_
                  obtain ⟨q38, e38, h⟩ := mbind h
                  refine q_vI2 (by decide) rfl rfl ob_0 rfl (by decide) (ok_X11_thing  e38) ?_
                  refine q_aload_n rfl ?_
                  refine q_aload_n rfl ?_
                  refine q_iload_n rfl ?_
                  refine q_iconst ?_
                  refine q_iadd ?_
                  obtain ⟨c39, h⟩ := mnone h
                  refine q_iald hscr rfl c39 ?_
                  refine q_aload_n rfl ?_
                  refine q_iload_n rfl ?_
                  refine q_iconst ?_
                  refine q_iadd ?_
                  obtain ⟨c40, h⟩ := mnone h
                  refine q_iald hscr rfl c40 ?_
                  obtain ⟨q41, e41, h⟩ := mbind h
                  refine q_vI2 (by decide) rfl rfl ob_93 rfl (by decide) (ok_X12_thing  e41) ?_
                  refine q_ic_eq (fun c42 => ?_) (fun c42 => ?_)
                  · rw [if_pos c42] at h
                    exact okc_L_law_1555 (fun _ _ _ e hl => ih  e hl) h ⟨rfl, rfl, rfl, rfl, trivial⟩
                  · rw [if_neg c42] at h
                    refine q_iconst ?_
                    have h := Option.some.inj h
                    subst h
                    exact q_iretZ (by decide) rfl (by decide) rfl
                · rw [if_neg c319] at h
                  refine ⟨fun c318 => ?_, fun c318 => ?_⟩
                  · rw [if_pos c318] at h
                    refine mAt.blk bk_L_law_400 ck_L_law_400 ?_
                    refine q_aload_n rfl ?_
                    refine q_aload_n rfl ?_
                    refine q_iload_n rfl ?_
                    refine q_iconst ?_
                    refine q_iadd ?_
                    obtain ⟨c43, h⟩ := mnone h
                    refine q_iald hscr rfl c43 ?_
                    refine q_aload_n rfl ?_
                    refine q_iload_n rfl ?_
                    refine q_iconst ?_
                    refine q_iadd ?_
                    obtain ⟨c44, h⟩ := mnone h
                    refine q_iald hscr rfl c44 ?_
                    obtain ⟨q45, e45, h⟩ := mbind h
                    refine q_vI2 (by decide) rfl rfl ob_0 rfl (by decide) (ok_X11_ofThing  e45) ?_
                    refine q_aload_n rfl ?_
                    refine q_aload_n rfl ?_
                    refine q_iload_n rfl ?_
                    refine q_iconst ?_
                    refine q_iadd ?_
                    obtain ⟨c46, h⟩ := mnone h
                    refine q_iald hscr rfl c46 ?_
                    refine q_aload_n rfl ?_
                    refine q_iload_n rfl ?_
                    refine q_iconst ?_
                    refine q_iadd ?_
                    obtain ⟨c47, h⟩ := mnone h
                    refine q_iald hscr rfl c47 ?_
                    obtain ⟨q48, e48, h⟩ := mbind h
                    refine q_vI2 (by decide) rfl rfl ob_93 rfl (by decide) (ok_X12_ofThing  e48) ?_
                    refine q_ic_eq (fun c49 => ?_) (fun c49 => ?_)
                    · rw [if_pos c49] at h
                      exact okc_L_law_1555 (fun _ _ _ e hl => ih  e hl) h ⟨rfl, rfl, rfl, rfl, trivial⟩
                    · rw [if_neg c49] at h
                      refine q_iconst ?_
                      have h := Option.some.inj h
                      subst h
                      exact q_iretZ (by decide) rfl (by decide) rfl
                  · rw [if_neg c318] at h
                    refine ⟨fun c317 => ?_, fun c317 => ?_⟩
                    · rw [if_pos c317] at h
                      refine mAt.blk bk_L_law_433 ck_L_law_433 ?_
                      refine q_aload_n rfl ?_
                      refine q_aload_n rfl ?_
                      refine q_iload_n rfl ?_
                      refine q_iconst ?_
                      refine q_iadd ?_
                      obtain ⟨c50, h⟩ := mnone h
                      refine q_iald hscr rfl c50 ?_
                      refine q_aload_n rfl ?_
                      refine q_iload_n rfl ?_
                      refine q_iconst ?_
                      refine q_iadd ?_
                      obtain ⟨c51, h⟩ := mnone h
                      refine q_iald hscr rfl c51 ?_
                      obtain ⟨q52, e52, h⟩ := mbind h
                      refine q_vI2 (by decide) rfl rfl ob_0 rfl (by decide) (ok_X11_as  e52) ?_
                      refine q_aload_n rfl ?_
                      refine q_aload_n rfl ?_
                      refine q_iload_n rfl ?_
                      refine q_iconst ?_
                      refine q_iadd ?_
                      obtain ⟨c53, h⟩ := mnone h
                      refine q_iald hscr rfl c53 ?_
                      refine q_aload_n rfl ?_
                      refine q_iload_n rfl ?_
                      refine q_iconst ?_
                      refine q_iadd ?_
                      obtain ⟨c54, h⟩ := mnone h
                      refine q_iald hscr rfl c54 ?_
                      obtain ⟨q55, e55, h⟩ := mbind h
                      refine q_vI2 (by decide) rfl rfl ob_93 rfl (by decide) (ok_X12_as  e55) ?_
                      refine q_ic_eq (fun c56 => ?_) (fun c56 => ?_)
                      · rw [if_pos c56] at h
                        exact okc_L_law_1555 (fun _ _ _ e hl => ih  e hl) h ⟨rfl, rfl, rfl, rfl, trivial⟩
                      · rw [if_neg c56] at h
                        refine q_iconst ?_
                        have h := Option.some.inj h
                        subst h
                        exact q_iretZ (by decide) rfl (by decide) rfl
                    · rw [if_neg c317] at h
                      refine ⟨fun c316 => ?_, fun c316 => ?_⟩
                      · rw [if_pos c316] at h
                        refine mAt.blk bk_L_law_466 ck_L_law_466 ?_
                        refine q_aload_n rfl ?_
                        refine q_aload_n rfl ?_
                        refine q_iload_n rfl ?_
                        refine q_iconst ?_
                        refine q_iadd ?_
                        obtain ⟨c57, h⟩ := mnone h
                        refine q_iald hscr rfl c57 ?_
                        refine q_aload_n rfl ?_
                        refine q_iload_n rfl ?_
                        refine q_iconst ?_
                        refine q_iadd ?_
                        obtain ⟨c58, h⟩ := mnone h
                        refine q_iald hscr rfl c58 ?_
                        obtain ⟨q59, e59, h⟩ := mbind h
                        refine q_vI2 (by decide) rfl rfl ob_0 rfl (by decide) (ok_X11_let  e59) ?_
                        refine q_aload_n rfl ?_
                        refine q_aload_n rfl ?_
                        refine q_iload_n rfl ?_
                        refine q_iconst ?_
                        refine q_iadd ?_
                        obtain ⟨c60, h⟩ := mnone h
                        refine q_iald hscr rfl c60 ?_
                        refine q_aload_n rfl ?_
                        refine q_iload_n rfl ?_
                        refine q_iconst ?_
                        refine q_iadd ?_
                        obtain ⟨c61, h⟩ := mnone h
                        refine q_iald hscr rfl c61 ?_
                        obtain ⟨q62, e62, h⟩ := mbind h
                        refine q_vI2 (by decide) rfl rfl ob_93 rfl (by decide) (ok_X12_let  e62) ?_
                        refine q_ic_eq (fun c63 => ?_) (fun c63 => ?_)
                        · rw [if_pos c63] at h
                          exact okc_L_law_1555 (fun _ _ _ e hl => ih  e hl) h ⟨rfl, rfl, rfl, rfl, trivial⟩
                        · rw [if_neg c63] at h
                          refine q_iconst ?_
                          have h := Option.some.inj h
                          subst h
                          exact q_iretZ (by decide) rfl (by decide) rfl
                      · rw [if_neg c316] at h
                        refine ⟨fun c315 => ?_, fun c315 => ?_⟩
                        · rw [if_pos c315] at h
                          refine mAt.blk bk_L_law_499 ck_L_law_499 ?_
                          refine q_aload_n rfl ?_
                          refine q_aload_n rfl ?_
                          refine q_iload_n rfl ?_
                          refine q_iconst ?_
                          refine q_iadd ?_
                          obtain ⟨c64, h⟩ := mnone h
                          refine q_iald hscr rfl c64 ?_
                          obtain ⟨q65, e65, h⟩ := mbind h
                          refine q_vI1 (by decide) rfl rfl ob_0 rfl (by decide) (ok_X11_fish  e65) ?_
                          refine q_aload_n rfl ?_
                          refine q_aload_n rfl ?_
                          refine q_iload_n rfl ?_
                          refine q_iconst ?_
                          refine q_iadd ?_
                          obtain ⟨c66, h⟩ := mnone h
                          refine q_iald hscr rfl c66 ?_
                          obtain ⟨q67, e67, h⟩ := mbind h
                          refine q_vI1 (by decide) rfl rfl ob_93 rfl (by decide) (ok_X12_fish  e67) ?_
                          refine q_ic_eq (fun c68 => ?_) (fun c68 => ?_)
                          · rw [if_pos c68] at h
                            exact okc_L_law_1555 (fun _ _ _ e hl => ih  e hl) h ⟨rfl, rfl, rfl, rfl, trivial⟩
                          · rw [if_neg c68] at h
                            refine q_iconst ?_
                            have h := Option.some.inj h
                            subst h
                            exact q_iretZ (by decide) rfl (by decide) rfl
                        · rw [if_neg c315] at h
                          refine ⟨fun c314 => ?_, fun c314 => ?_⟩
                          · rw [if_pos c314] at h
                            refine mAt.blk bk_L_law_522 ck_L_law_522 ?_
                            refine q_aload_n rfl ?_
                            refine q_aload_n rfl ?_
                            refine q_iload_n rfl ?_
                            refine q_iconst ?_
                            refine q_iadd ?_
                            obtain ⟨c69, h⟩ := mnone h
                            refine q_iald hscr rfl c69 ?_
                            refine q_i2l ?_
                            refine q_bipush ?_
                            refine q_lshl ?_
                            refine q_aload_n rfl ?_
                            refine q_iload_n rfl ?_
                            refine q_iconst ?_
                            refine q_iadd ?_
                            obtain ⟨c70, h⟩ := mnone h
                            refine q_iald hscr rfl c70 ?_
                            refine q_i2l ?_
                            refine q_ldc2_wB ?_
                            refine q_land ?_
                            refine q_lor ?_
                            refine q_aload_n rfl ?_
                            refine q_iload_n rfl ?_
                            refine q_iconst ?_
                            refine q_iadd ?_
                            obtain ⟨c71, h⟩ := mnone h
                            refine q_iald hscr rfl c71 ?_
                            obtain ⟨q72, e72, h⟩ := mbind h
                            refine q_vI2 (by decide) rfl rfl ob_0 rfl (by decide) (ok_X11_feed  e72) ?_
                            refine q_aload_n rfl ?_
                            refine q_aload_n rfl ?_
                            refine q_iload_n rfl ?_
                            refine q_iconst ?_
                            refine q_iadd ?_
                            obtain ⟨c73, h⟩ := mnone h
                            refine q_iald hscr rfl c73 ?_
                            refine q_i2l ?_
                            refine q_bipush ?_
                            refine q_lshl ?_
                            refine q_aload_n rfl ?_
                            refine q_iload_n rfl ?_
                            refine q_iconst ?_
                            refine q_iadd ?_
                            obtain ⟨c74, h⟩ := mnone h
                            refine q_iald hscr rfl c74 ?_
                            refine q_i2l ?_
                            refine q_ldc2_wB ?_
                            refine q_land ?_
                            refine q_lor ?_
                            refine q_aload_n rfl ?_
                            refine q_iload_n rfl ?_
                            refine q_iconst ?_
                            refine q_iadd ?_
                            obtain ⟨c75, h⟩ := mnone h
                            refine q_iald hscr rfl c75 ?_
                            obtain ⟨q76, e76, h⟩ := mbind h
                            refine q_vI2 (by decide) rfl rfl ob_93 rfl (by decide) (ok_X12_feed  e76) ?_
                            refine q_ic_eq (fun c77 => ?_) (fun c77 => ?_)
                            · rw [if_pos c77] at h
                              exact okc_L_law_1555 (fun _ _ _ e hl => ih  e hl) h ⟨rfl, rfl, rfl, rfl, trivial⟩
                            · rw [if_neg c77] at h
                              refine q_iconst ?_
                              have h := Option.some.inj h
                              subst h
                              exact q_iretZ (by decide) rfl (by decide) rfl
                          · rw [if_neg c314] at h
                            refine ⟨fun c313 => ?_, fun c313 => ?_⟩
                            · rw [if_pos c313] at h
                              refine mAt.blk bk_L_law_585 ck_L_law_585 ?_
                              refine q_aload_n rfl ?_
                              refine q_aload_n rfl ?_
                              refine q_iload_n rfl ?_
                              refine q_iconst ?_
                              refine q_iadd ?_
                              obtain ⟨c78, h⟩ := mnone h
                              refine q_iald hscr rfl c78 ?_
                              obtain ⟨q79, e79, h⟩ := mbind h
                              refine q_vI1 (by decide) rfl rfl ob_0 rfl (by decide) (ok_X11_text  e79) ?_
                              refine q_aload_n rfl ?_
                              refine q_aload_n rfl ?_
                              refine q_iload_n rfl ?_
                              refine q_iconst ?_
                              refine q_iadd ?_
                              obtain ⟨c80, h⟩ := mnone h
                              refine q_iald hscr rfl c80 ?_
                              obtain ⟨q81, e81, h⟩ := mbind h
                              refine q_vI1 (by decide) rfl rfl ob_93 rfl (by decide) (ok_X12_text  e81) ?_
                              refine q_ic_eq (fun c82 => ?_) (fun c82 => ?_)
                              · rw [if_pos c82] at h
                                exact okc_L_law_1555 (fun _ _ _ e hl => ih  e hl) h ⟨rfl, rfl, rfl, rfl, trivial⟩
                              · rw [if_neg c82] at h
                                refine q_iconst ?_
                                have h := Option.some.inj h
                                subst h
                                exact q_iretZ (by decide) rfl (by decide) rfl
                            · rw [if_neg c313] at h
                              refine ⟨fun c312 => ?_, fun c312 => ?_⟩
                              · rw [if_pos c312] at h
                                refine mAt.blk bk_L_law_608 ck_L_law_608 ?_
                                refine q_aload_n rfl ?_
                                refine q_aload_n rfl ?_
                                refine q_iload_n rfl ?_
                                refine q_iconst ?_
                                refine q_iadd ?_
                                obtain ⟨c83, h⟩ := mnone h
                                refine q_iald hscr rfl c83 ?_
                                refine q_aload_n rfl ?_
                                refine q_iload_n rfl ?_
                                refine q_iconst ?_
                                refine q_iadd ?_
                                obtain ⟨c84, h⟩ := mnone h
                                refine q_iald hscr rfl c84 ?_
                                refine q_aload_n rfl ?_
                                refine q_iload_n rfl ?_
                                refine q_iconst ?_
                                refine q_iadd ?_
                                obtain ⟨c85, h⟩ := mnone h
                                refine q_iald hscr rfl c85 ?_
                                refine q_aload_n rfl ?_
                                refine q_iload_n rfl ?_
                                refine q_iconst ?_
                                refine q_iadd ?_
                                obtain ⟨c86, h⟩ := mnone h
                                refine q_iald hscr rfl c86 ?_
                                refine q_aload_n rfl ?_
                                refine q_iload_n rfl ?_
                                refine q_iconst ?_
                                refine q_iadd ?_
                                obtain ⟨c87, h⟩ := mnone h
                                refine q_iald hscr rfl c87 ?_
                                obtain ⟨q88, e88, h⟩ := mbind h
                                refine q_vI5 (by decide) rfl rfl ob_0 rfl (by decide) (ok_X11_law  e88) ?_
                                refine q_aload_n rfl ?_
                                refine q_aload_n rfl ?_
                                refine q_iload_n rfl ?_
                                refine q_iconst ?_
                                refine q_iadd ?_
                                obtain ⟨c89, h⟩ := mnone h
                                refine q_iald hscr rfl c89 ?_
                                refine q_aload_n rfl ?_
                                refine q_iload_n rfl ?_
                                refine q_iconst ?_
                                refine q_iadd ?_
                                obtain ⟨c90, h⟩ := mnone h
                                refine q_iald hscr rfl c90 ?_
                                refine q_aload_n rfl ?_
                                refine q_iload_n rfl ?_
                                refine q_iconst ?_
                                refine q_iadd ?_
                                obtain ⟨c91, h⟩ := mnone h
                                refine q_iald hscr rfl c91 ?_
                                refine q_aload_n rfl ?_
                                refine q_iload_n rfl ?_
                                refine q_iconst ?_
                                refine q_iadd ?_
                                obtain ⟨c92, h⟩ := mnone h
                                refine q_iald hscr rfl c92 ?_
                                refine q_aload_n rfl ?_
                                refine q_iload_n rfl ?_
                                refine q_iconst ?_
                                refine q_iadd ?_
                                obtain ⟨c93, h⟩ := mnone h
                                refine q_iald hscr rfl c93 ?_
                                obtain ⟨q94, e94, h⟩ := mbind h
                                refine q_vI5 (by decide) rfl rfl ob_93 rfl (by decide) (ok_X12_law  e94) ?_
                                refine q_ic_eq (fun c95 => ?_) (fun c95 => ?_)
                                · rw [if_pos c95] at h
                                  exact okc_L_law_1555 (fun _ _ _ e hl => ih  e hl) h ⟨rfl, rfl, rfl, rfl, trivial⟩
                                · rw [if_neg c95] at h
                                  refine q_iconst ?_
                                  have h := Option.some.inj h
                                  subst h
                                  exact q_iretZ (by decide) rfl (by decide) rfl
                              · rw [if_neg c312] at h
                                refine ⟨fun c311 => ?_, fun c311 => ?_⟩
                                · rw [if_pos c311] at h
                                  refine mAt.blk bk_L_law_671 ck_L_law_671 ?_
                                  refine q_aload_n rfl ?_
                                  refine q_aload_n rfl ?_
                                  refine q_iload_n rfl ?_
                                  refine q_iconst ?_
                                  refine q_iadd ?_
                                  obtain ⟨c96, h⟩ := mnone h
                                  refine q_iald hscr rfl c96 ?_
                                  obtain ⟨q97, e97, h⟩ := mbind h
                                  refine q_vI1 (by decide) rfl rfl ob_0 rfl (by decide) (ok_X11_days  e97) ?_
                                  refine q_aload_n rfl ?_
                                  refine q_aload_n rfl ?_
                                  refine q_iload_n rfl ?_
                                  refine q_iconst ?_
                                  refine q_iadd ?_
                                  obtain ⟨c98, h⟩ := mnone h
                                  refine q_iald hscr rfl c98 ?_
                                  obtain ⟨q99, e99, h⟩ := mbind h
                                  refine q_vI1 (by decide) rfl rfl ob_93 rfl (by decide) (ok_X12_days  e99) ?_
                                  refine q_ic_eq (fun c100 => ?_) (fun c100 => ?_)
                                  · rw [if_pos c100] at h
                                    exact okc_L_law_1555 (fun _ _ _ e hl => ih  e hl) h ⟨rfl, rfl, rfl, rfl, trivial⟩
                                  · rw [if_neg c100] at h
                                    refine q_iconst ?_
                                    have h := Option.some.inj h
                                    subst h
                                    exact q_iretZ (by decide) rfl (by decide) rfl
                                · rw [if_neg c311] at h
                                  refine ⟨fun c310 => ?_, fun c310 => ?_⟩
                                  · rw [if_pos c310] at h
                                    refine mAt.blk bk_L_law_694 ck_L_law_694 ?_
                                    refine q_aload_n rfl ?_
                                    refine q_aload_n rfl ?_
                                    refine q_iload_n rfl ?_
                                    refine q_iconst ?_
                                    refine q_iadd ?_
                                    obtain ⟨c101, h⟩ := mnone h
                                    refine q_iald hscr rfl c101 ?_
                                    obtain ⟨q102, e102, h⟩ := mbind h
                                    refine q_vI1 (by decide) rfl rfl ob_0 rfl (by decide) (ok_X11_floods  e102) ?_
                                    refine q_aload_n rfl ?_
                                    refine q_aload_n rfl ?_
                                    refine q_iload_n rfl ?_
                                    refine q_iconst ?_
                                    refine q_iadd ?_
                                    obtain ⟨c103, h⟩ := mnone h
                                    refine q_iald hscr rfl c103 ?_
                                    obtain ⟨q104, e104, h⟩ := mbind h
                                    refine q_vI1 (by decide) rfl rfl ob_93 rfl (by decide) (ok_X12_floods  e104) ?_
                                    refine q_ic_eq (fun c105 => ?_) (fun c105 => ?_)
                                    · rw [if_pos c105] at h
                                      exact okc_L_law_1555 (fun _ _ _ e hl => ih  e hl) h ⟨rfl, rfl, rfl, rfl, trivial⟩
                                    · rw [if_neg c105] at h
                                      refine q_iconst ?_
                                      have h := Option.some.inj h
                                      subst h
                                      exact q_iretZ (by decide) rfl (by decide) rfl
                                  · rw [if_neg c310] at h
                                    refine ⟨fun c309 => ?_, fun c309 => ?_⟩
                                    · rw [if_pos c309] at h
                                      refine mAt.blk bk_L_law_717 ck_L_law_717 ?_
                                      refine q_aload_n rfl ?_
                                      refine q_aload_n rfl ?_
                                      refine q_iload_n rfl ?_
                                      refine q_iconst ?_
                                      refine q_iadd ?_
                                      obtain ⟨c106, h⟩ := mnone h
                                      refine q_iald hscr rfl c106 ?_
                                      refine q_aload_n rfl ?_
                                      refine q_iload_n rfl ?_
                                      refine q_iconst ?_
                                      refine q_iadd ?_
                                      obtain ⟨c107, h⟩ := mnone h
                                      refine q_iald hscr rfl c107 ?_
                                      refine q_aload_n rfl ?_
                                      refine q_iload_n rfl ?_
                                      refine q_iconst ?_
                                      refine q_iadd ?_
                                      obtain ⟨c108, h⟩ := mnone h
                                      refine q_iald hscr rfl c108 ?_
                                      obtain ⟨q109, e109, h⟩ := mbind h
                                      refine q_vI3 (by decide) rfl rfl ob_0 rfl (by decide) (ok_X11_then  e109) ?_
                                      refine q_aload_n rfl ?_
                                      refine q_aload_n rfl ?_
                                      refine q_iload_n rfl ?_
                                      refine q_iconst ?_
                                      refine q_iadd ?_
                                      obtain ⟨c110, h⟩ := mnone h
                                      refine q_iald hscr rfl c110 ?_
                                      refine q_aload_n rfl ?_
                                      refine q_iload_n rfl ?_
                                      refine q_iconst ?_
                                      refine q_iadd ?_
                                      obtain ⟨c111, h⟩ := mnone h
                                      refine q_iald hscr rfl c111 ?_
                                      refine q_aload_n rfl ?_
                                      refine q_iload_n rfl ?_
                                      refine q_iconst ?_
                                      refine q_iadd ?_
                                      obtain ⟨c112, h⟩ := mnone h
                                      refine q_iald hscr rfl c112 ?_
                                      obtain ⟨q113, e113, h⟩ := mbind h
                                      refine q_vI3 (by decide) rfl rfl ob_93 rfl (by decide) (ok_X12_then  e113) ?_
                                      refine q_ic_eq (fun c114 => ?_) (fun c114 => ?_)
                                      · rw [if_pos c114] at h
                                        exact okc_L_law_1555 (fun _ _ _ e hl => ih  e hl) h ⟨rfl, rfl, rfl, rfl, trivial⟩
                                      · rw [if_neg c114] at h
                                        refine q_iconst ?_
                                        have h := Option.some.inj h
                                        subst h
                                        exact q_iretZ (by decide) rfl (by decide) rfl
                                    · rw [if_neg c309] at h
                                      refine ⟨fun c308 => ?_, fun c308 => ?_⟩
                                      · rw [if_pos c308] at h
                                        refine mAt.blk bk_L_law_760 ck_L_law_760 ?_
                                        refine q_aload_n rfl ?_
                                        refine q_aload_n rfl ?_
                                        refine q_iload_n rfl ?_
                                        refine q_iconst ?_
                                        refine q_iadd ?_
                                        obtain ⟨c115, h⟩ := mnone h
                                        refine q_iald hscr rfl c115 ?_
                                        refine q_aload_n rfl ?_
                                        refine q_iload_n rfl ?_
                                        refine q_iconst ?_
                                        refine q_iadd ?_
                                        obtain ⟨c116, h⟩ := mnone h
                                        refine q_iald hscr rfl c116 ?_
                                        obtain ⟨q117, e117, h⟩ := mbind h
                                        refine q_vI2 (by decide) rfl rfl ob_0 rfl (by decide) (ok_X11_in  e117) ?_
                                        refine q_aload_n rfl ?_
                                        refine q_aload_n rfl ?_
                                        refine q_iload_n rfl ?_
                                        refine q_iconst ?_
                                        refine q_iadd ?_
                                        obtain ⟨c118, h⟩ := mnone h
                                        refine q_iald hscr rfl c118 ?_
                                        refine q_aload_n rfl ?_
                                        refine q_iload_n rfl ?_
                                        refine q_iconst ?_
                                        refine q_iadd ?_
                                        obtain ⟨c119, h⟩ := mnone h
                                        refine q_iald hscr rfl c119 ?_
                                        obtain ⟨q120, e120, h⟩ := mbind h
                                        refine q_vI2 (by decide) rfl rfl ob_93 rfl (by decide) (ok_X12_in  e120) ?_
                                        refine q_ic_eq (fun c121 => ?_) (fun c121 => ?_)
                                        · rw [if_pos c121] at h
                                          exact okc_L_law_1555 (fun _ _ _ e hl => ih  e hl) h ⟨rfl, rfl, rfl, rfl, trivial⟩
                                        · rw [if_neg c121] at h
                                          refine q_iconst ?_
                                          have h := Option.some.inj h
                                          subst h
                                          exact q_iretZ (by decide) rfl (by decide) rfl
                                      · rw [if_neg c308] at h
                                        refine ⟨fun c307 => ?_, fun c307 => ?_⟩
                                        · rw [if_pos c307] at h
                                          refine mAt.blk bk_L_law_793 ck_L_law_793 ?_
                                          refine q_aload_n rfl ?_
                                          refine q_aload_n rfl ?_
                                          refine q_iload_n rfl ?_
                                          refine q_iconst ?_
                                          refine q_iadd ?_
                                          obtain ⟨c122, h⟩ := mnone h
                                          refine q_iald hscr rfl c122 ?_
                                          refine q_aload_n rfl ?_
                                          refine q_iload_n rfl ?_
                                          refine q_iconst ?_
                                          refine q_iadd ?_
                                          obtain ⟨c123, h⟩ := mnone h
                                          refine q_iald hscr rfl c123 ?_
                                          refine q_aload_n rfl ?_
                                          refine q_iload_n rfl ?_
                                          refine q_iconst ?_
                                          refine q_iadd ?_
                                          obtain ⟨c124, h⟩ := mnone h
                                          refine q_iald hscr rfl c124 ?_
                                          obtain ⟨q125, e125, h⟩ := mbind h
                                          refine q_vI3 (by decide) rfl rfl ob_0 rfl (by decide) (ok_X11_seen  e125) ?_
                                          refine q_aload_n rfl ?_
                                          refine q_aload_n rfl ?_
                                          refine q_iload_n rfl ?_
                                          refine q_iconst ?_
                                          refine q_iadd ?_
                                          obtain ⟨c126, h⟩ := mnone h
                                          refine q_iald hscr rfl c126 ?_
                                          refine q_aload_n rfl ?_
                                          refine q_iload_n rfl ?_
                                          refine q_iconst ?_
                                          refine q_iadd ?_
                                          obtain ⟨c127, h⟩ := mnone h
                                          refine q_iald hscr rfl c127 ?_
                                          refine q_aload_n rfl ?_
                                          refine q_iload_n rfl ?_
                                          refine q_iconst ?_
                                          refine q_iadd ?_
                                          obtain ⟨c128, h⟩ := mnone h
                                          refine q_iald hscr rfl c128 ?_
                                          obtain ⟨q129, e129, h⟩ := mbind h
                                          refine q_vI3 (by decide) rfl rfl ob_93 rfl (by decide) (ok_X12_seen  e129) ?_
                                          refine q_ic_eq (fun c130 => ?_) (fun c130 => ?_)
                                          · rw [if_pos c130] at h
                                            exact okc_L_law_1555 (fun _ _ _ e hl => ih  e hl) h ⟨rfl, rfl, rfl, rfl, trivial⟩
                                          · rw [if_neg c130] at h
                                            refine q_iconst ?_
                                            have h := Option.some.inj h
                                            subst h
                                            exact q_iretZ (by decide) rfl (by decide) rfl
                                        · rw [if_neg c307] at h
                                          refine ⟨fun c306 => ?_, fun c306 => ?_⟩
                                          · rw [if_pos c306] at h
                                            refine mAt.blk bk_L_law_836 ck_L_law_836 ?_
                                            refine q_aload_n rfl ?_
                                            refine q_aload_n rfl ?_
                                            refine q_iload_n rfl ?_
                                            refine q_iconst ?_
                                            refine q_iadd ?_
                                            obtain ⟨c131, h⟩ := mnone h
                                            refine q_iald hscr rfl c131 ?_
                                            refine q_aload_n rfl ?_
                                            refine q_iload_n rfl ?_
                                            refine q_iconst ?_
                                            refine q_iadd ?_
                                            obtain ⟨c132, h⟩ := mnone h
                                            refine q_iald hscr rfl c132 ?_
                                            obtain ⟨q133, e133, h⟩ := mbind h
                                            refine q_vI2 (by decide) rfl rfl ob_0 rfl (by decide) (ok_X11_round  e133) ?_
                                            refine q_aload_n rfl ?_
                                            refine q_aload_n rfl ?_
                                            refine q_iload_n rfl ?_
                                            refine q_iconst ?_
                                            refine q_iadd ?_
                                            obtain ⟨c134, h⟩ := mnone h
                                            refine q_iald hscr rfl c134 ?_
                                            refine q_aload_n rfl ?_
                                            refine q_iload_n rfl ?_
                                            refine q_iconst ?_
                                            refine q_iadd ?_
                                            obtain ⟨c135, h⟩ := mnone h
                                            refine q_iald hscr rfl c135 ?_
                                            obtain ⟨q136, e136, h⟩ := mbind h
                                            refine q_vI2 (by decide) rfl rfl ob_93 rfl (by decide) (ok_X12_round  e136) ?_
                                            refine q_ic_eq (fun c137 => ?_) (fun c137 => ?_)
                                            · rw [if_pos c137] at h
                                              exact okc_L_law_1555 (fun _ _ _ e hl => ih  e hl) h ⟨rfl, rfl, rfl, rfl, trivial⟩
                                            · rw [if_neg c137] at h
                                              refine q_iconst ?_
                                              have h := Option.some.inj h
                                              subst h
                                              exact q_iretZ (by decide) rfl (by decide) rfl
                                          · rw [if_neg c306] at h
                                            refine ⟨fun c305 => ?_, fun c305 => ?_⟩
                                            · rw [if_pos c305] at h
                                              refine mAt.blk bk_L_law_869 ck_L_law_869 ?_
                                              refine q_aload_n rfl ?_
                                              refine q_aload_n rfl ?_
                                              refine q_iload_n rfl ?_
                                              refine q_iconst ?_
                                              refine q_iadd ?_
                                              obtain ⟨c138, h⟩ := mnone h
                                              refine q_iald hscr rfl c138 ?_
                                              refine q_aload_n rfl ?_
                                              refine q_iload_n rfl ?_
                                              refine q_iconst ?_
                                              refine q_iadd ?_
                                              obtain ⟨c139, h⟩ := mnone h
                                              refine q_iald hscr rfl c139 ?_
                                              refine q_aload_n rfl ?_
                                              refine q_iload_n rfl ?_
                                              refine q_iconst ?_
                                              refine q_iadd ?_
                                              obtain ⟨c140, h⟩ := mnone h
                                              refine q_iald hscr rfl c140 ?_
                                              obtain ⟨q141, e141, h⟩ := mbind h
                                              refine q_vI3 (by decide) rfl rfl ob_0 rfl (by decide) (ok_X11_soon  e141) ?_
                                              refine q_aload_n rfl ?_
                                              refine q_aload_n rfl ?_
                                              refine q_iload_n rfl ?_
                                              refine q_iconst ?_
                                              refine q_iadd ?_
                                              obtain ⟨c142, h⟩ := mnone h
                                              refine q_iald hscr rfl c142 ?_
                                              refine q_aload_n rfl ?_
                                              refine q_iload_n rfl ?_
                                              refine q_iconst ?_
                                              refine q_iadd ?_
                                              obtain ⟨c143, h⟩ := mnone h
                                              refine q_iald hscr rfl c143 ?_
                                              refine q_aload_n rfl ?_
                                              refine q_iload_n rfl ?_
                                              refine q_iconst ?_
                                              refine q_iadd ?_
                                              obtain ⟨c144, h⟩ := mnone h
                                              refine q_iald hscr rfl c144 ?_
                                              obtain ⟨q145, e145, h⟩ := mbind h
                                              refine q_vI3 (by decide) rfl rfl ob_93 rfl (by decide) (ok_X12_soon  e145) ?_
                                              refine q_ic_eq (fun c146 => ?_) (fun c146 => ?_)
                                              · rw [if_pos c146] at h
                                                exact okc_L_law_1555 (fun _ _ _ e hl => ih  e hl) h ⟨rfl, rfl, rfl, rfl, trivial⟩
                                              · rw [if_neg c146] at h
                                                refine q_iconst ?_
                                                have h := Option.some.inj h
                                                subst h
                                                exact q_iretZ (by decide) rfl (by decide) rfl
                                            · rw [if_neg c305] at h
                                              refine ⟨fun c304 => ?_, fun c304 => ?_⟩
                                              · rw [if_pos c304] at h
                                                refine mAt.blk bk_L_law_912 ck_L_law_912 ?_
                                                refine q_aload_n rfl ?_
                                                refine q_aload_n rfl ?_
                                                refine q_iload_n rfl ?_
                                                refine q_iconst ?_
                                                refine q_iadd ?_
                                                obtain ⟨c147, h⟩ := mnone h
                                                refine q_iald hscr rfl c147 ?_
                                                refine q_aload_n rfl ?_
                                                refine q_iload_n rfl ?_
                                                refine q_iconst ?_
                                                refine q_iadd ?_
                                                obtain ⟨c148, h⟩ := mnone h
                                                refine q_iald hscr rfl c148 ?_
                                                refine q_aload_n rfl ?_
                                                refine q_iload_n rfl ?_
                                                refine q_iconst ?_
                                                refine q_iadd ?_
                                                obtain ⟨c149, h⟩ := mnone h
                                                refine q_iald hscr rfl c149 ?_
                                                obtain ⟨q150, e150, h⟩ := mbind h
                                                refine q_vI3 (by decide) rfl rfl ob_0 rfl (by decide) (ok_X11_cheap  e150) ?_
                                                refine q_aload_n rfl ?_
                                                refine q_aload_n rfl ?_
                                                refine q_iload_n rfl ?_
                                                refine q_iconst ?_
                                                refine q_iadd ?_
                                                obtain ⟨c151, h⟩ := mnone h
                                                refine q_iald hscr rfl c151 ?_
                                                refine q_aload_n rfl ?_
                                                refine q_iload_n rfl ?_
                                                refine q_iconst ?_
                                                refine q_iadd ?_
                                                obtain ⟨c152, h⟩ := mnone h
                                                refine q_iald hscr rfl c152 ?_
                                                refine q_aload_n rfl ?_
                                                refine q_iload_n rfl ?_
                                                refine q_iconst ?_
                                                refine q_iadd ?_
                                                obtain ⟨c153, h⟩ := mnone h
                                                refine q_iald hscr rfl c153 ?_
                                                obtain ⟨q154, e154, h⟩ := mbind h
                                                refine q_vI3 (by decide) rfl rfl ob_93 rfl (by decide) (ok_X12_cheap  e154) ?_
                                                refine q_ic_eq (fun c155 => ?_) (fun c155 => ?_)
                                                · rw [if_pos c155] at h
                                                  exact okc_L_law_1555 (fun _ _ _ e hl => ih  e hl) h ⟨rfl, rfl, rfl, rfl, trivial⟩
                                                · rw [if_neg c155] at h
                                                  refine q_iconst ?_
                                                  have h := Option.some.inj h
                                                  subst h
                                                  exact q_iretZ (by decide) rfl (by decide) rfl
                                              · rw [if_neg c304] at h
                                                refine ⟨fun c303 => ?_, fun c303 => ?_⟩
                                                · rw [if_pos c303] at h
                                                  refine mAt.blk bk_L_law_955 ck_L_law_955 ?_
                                                  refine q_aload_n rfl ?_
                                                  refine q_aload_n rfl ?_
                                                  refine q_iload_n rfl ?_
                                                  refine q_iconst ?_
                                                  refine q_iadd ?_
                                                  obtain ⟨c156, h⟩ := mnone h
                                                  refine q_iald hscr rfl c156 ?_
                                                  obtain ⟨q157, e157, h⟩ := mbind h
                                                  refine q_vI1 (by decide) rfl rfl ob_0 rfl (by decide) (ok_X11_rings  e157) ?_
                                                  refine q_aload_n rfl ?_
                                                  refine q_aload_n rfl ?_
                                                  refine q_iload_n rfl ?_
                                                  refine q_iconst ?_
                                                  refine q_iadd ?_
                                                  obtain ⟨c158, h⟩ := mnone h
                                                  refine q_iald hscr rfl c158 ?_
                                                  obtain ⟨q159, e159, h⟩ := mbind h
                                                  refine q_vI1 (by decide) rfl rfl ob_93 rfl (by decide) (ok_X12_rings  e159) ?_
                                                  refine q_ic_eq (fun c160 => ?_) (fun c160 => ?_)
                                                  · rw [if_pos c160] at h
                                                    exact okc_L_law_1555 (fun _ _ _ e hl => ih  e hl) h ⟨rfl, rfl, rfl, rfl, trivial⟩
                                                  · rw [if_neg c160] at h
                                                    refine q_iconst ?_
                                                    have h := Option.some.inj h
                                                    subst h
                                                    exact q_iretZ (by decide) rfl (by decide) rfl
                                                · rw [if_neg c303] at h
                                                  refine ⟨fun c302 => ?_, fun c302 => ?_⟩
                                                  · rw [if_pos c302] at h
                                                    refine mAt.blk bk_L_law_978 ck_L_law_978 ?_
                                                    refine q_aload_n rfl ?_
                                                    refine q_aload_n rfl ?_
                                                    refine q_iload_n rfl ?_
                                                    refine q_iconst ?_
                                                    refine q_iadd ?_
                                                    obtain ⟨c161, h⟩ := mnone h
                                                    refine q_iald hscr rfl c161 ?_
                                                    refine q_aload_n rfl ?_
                                                    refine q_iload_n rfl ?_
                                                    refine q_iconst ?_
                                                    refine q_iadd ?_
                                                    obtain ⟨c162, h⟩ := mnone h
                                                    refine q_iald hscr rfl c162 ?_
                                                    obtain ⟨q163, e163, h⟩ := mbind h
                                                    refine q_vI2 (by decide) rfl rfl ob_0 rfl (by decide) (ok_X11_meet  e163) ?_
                                                    refine q_aload_n rfl ?_
                                                    refine q_aload_n rfl ?_
                                                    refine q_iload_n rfl ?_
                                                    refine q_iconst ?_
                                                    refine q_iadd ?_
                                                    obtain ⟨c164, h⟩ := mnone h
                                                    refine q_iald hscr rfl c164 ?_
                                                    refine q_aload_n rfl ?_
                                                    refine q_iload_n rfl ?_
                                                    refine q_iconst ?_
                                                    refine q_iadd ?_
                                                    obtain ⟨c165, h⟩ := mnone h
                                                    refine q_iald hscr rfl c165 ?_
                                                    obtain ⟨q166, e166, h⟩ := mbind h
                                                    refine q_vI2 (by decide) rfl rfl ob_93 rfl (by decide) (ok_X12_meet  e166) ?_
                                                    refine q_ic_eq (fun c167 => ?_) (fun c167 => ?_)
                                                    · rw [if_pos c167] at h
                                                      exact okc_L_law_1555 (fun _ _ _ e hl => ih  e hl) h ⟨rfl, rfl, rfl, rfl, trivial⟩
                                                    · rw [if_neg c167] at h
                                                      refine q_iconst ?_
                                                      have h := Option.some.inj h
                                                      subst h
                                                      exact q_iretZ (by decide) rfl (by decide) rfl
                                                  · rw [if_neg c302] at h
                                                    refine ⟨fun c301 => ?_, fun c301 => ?_⟩
                                                    · rw [if_pos c301] at h
                                                      refine mAt.blk bk_L_law_1011 ck_L_law_1011 ?_
                                                      refine q_aload_n rfl ?_
                                                      obtain ⟨q168, e168, h⟩ := mbind h
                                                      refine q_vI0 (by decide) rfl rfl ob_0 rfl (by decide) (ok_X11_tenth  e168) ?_
                                                      refine q_aload_n rfl ?_
                                                      obtain ⟨q169, e169, h⟩ := mbind h
                                                      refine q_vI0 (by decide) rfl rfl ob_93 rfl (by decide) (ok_X12_tenth  e169) ?_
                                                      refine q_ic_eq (fun c170 => ?_) (fun c170 => ?_)
                                                      · rw [if_pos c170] at h
                                                        exact okc_L_law_1555 (fun _ _ _ e hl => ih  e hl) h ⟨rfl, rfl, rfl, rfl, trivial⟩
                                                      · rw [if_neg c170] at h
                                                        refine q_iconst ?_
                                                        have h := Option.some.inj h
                                                        subst h
                                                        exact q_iretZ (by decide) rfl (by decide) rfl
                                                    · rw [if_neg c301] at h
                                                      refine ⟨fun c300 => ?_, fun c300 => ?_⟩
                                                      · rw [if_pos c300] at h
                                                        refine mAt.blk bk_L_law_1024 ck_L_law_1024 ?_
                                                        refine q_aload_n rfl ?_
                                                        refine q_aload_n rfl ?_
                                                        refine q_iload_n rfl ?_
                                                        refine q_iconst ?_
                                                        refine q_iadd ?_
                                                        obtain ⟨c171, h⟩ := mnone h
                                                        refine q_iald hscr rfl c171 ?_
                                                        refine q_aload_n rfl ?_
                                                        refine q_iload_n rfl ?_
                                                        refine q_iconst ?_
                                                        refine q_iadd ?_
                                                        obtain ⟨c172, h⟩ := mnone h
                                                        refine q_iald hscr rfl c172 ?_
                                                        refine q_aload_n rfl ?_
                                                        refine q_iload_n rfl ?_
                                                        refine q_iconst ?_
                                                        refine q_iadd ?_
                                                        obtain ⟨c173, h⟩ := mnone h
                                                        refine q_iald hscr rfl c173 ?_
                                                        obtain ⟨q174, e174, h⟩ := mbind h
                                                        refine q_vI3 (by decide) rfl rfl ob_0 rfl (by decide) (ok_X11_find  e174) ?_
                                                        refine q_aload_n rfl ?_
                                                        refine q_aload_n rfl ?_
                                                        refine q_iload_n rfl ?_
                                                        refine q_iconst ?_
                                                        refine q_iadd ?_
                                                        obtain ⟨c175, h⟩ := mnone h
                                                        refine q_iald hscr rfl c175 ?_
                                                        refine q_aload_n rfl ?_
                                                        refine q_iload_n rfl ?_
                                                        refine q_iconst ?_
                                                        refine q_iadd ?_
                                                        obtain ⟨c176, h⟩ := mnone h
                                                        refine q_iald hscr rfl c176 ?_
                                                        refine q_aload_n rfl ?_
                                                        refine q_iload_n rfl ?_
                                                        refine q_iconst ?_
                                                        refine q_iadd ?_
                                                        obtain ⟨c177, h⟩ := mnone h
                                                        refine q_iald hscr rfl c177 ?_
                                                        obtain ⟨q178, e178, h⟩ := mbind h
                                                        refine q_vI3 (by decide) rfl rfl ob_93 rfl (by decide) (ok_X12_find  e178) ?_
                                                        refine q_ic_eq (fun c179 => ?_) (fun c179 => ?_)
                                                        · rw [if_pos c179] at h
                                                          exact okc_L_law_1555 (fun _ _ _ e hl => ih  e hl) h ⟨rfl, rfl, rfl, rfl, trivial⟩
                                                        · rw [if_neg c179] at h
                                                          refine q_iconst ?_
                                                          have h := Option.some.inj h
                                                          subst h
                                                          exact q_iretZ (by decide) rfl (by decide) rfl
                                                      · rw [if_neg c300] at h
                                                        refine ⟨fun c299 => ?_, fun c299 => ?_⟩
                                                        · rw [if_pos c299] at h
                                                          refine mAt.blk bk_L_law_1067 ck_L_law_1067 ?_
                                                          refine q_aload_n rfl ?_
                                                          obtain ⟨q180, e180, h⟩ := mbind h
                                                          refine q_vI0 (by decide) rfl rfl ob_0 rfl (by decide) (ok_X11_forget  e180) ?_
                                                          refine q_aload_n rfl ?_
                                                          obtain ⟨q181, e181, h⟩ := mbind h
                                                          refine q_vI0 (by decide) rfl rfl ob_93 rfl (by decide) (ok_X12_forget  e181) ?_
                                                          refine q_ic_eq (fun c182 => ?_) (fun c182 => ?_)
                                                          · rw [if_pos c182] at h
                                                            exact okc_L_law_1555 (fun _ _ _ e hl => ih  e hl) h ⟨rfl, rfl, rfl, rfl, trivial⟩
                                                          · rw [if_neg c182] at h
                                                            refine q_iconst ?_
                                                            have h := Option.some.inj h
                                                            subst h
                                                            exact q_iretZ (by decide) rfl (by decide) rfl
                                                        · rw [if_neg c299] at h
                                                          refine ⟨fun c298 => ?_, fun c298 => ?_⟩
                                                          · rw [if_pos c298] at h
                                                            refine mAt.blk bk_L_law_1080 ck_L_law_1080 ?_
                                                            refine q_aload_n rfl ?_
                                                            refine q_aload_n rfl ?_
                                                            refine q_iload_n rfl ?_
                                                            refine q_iconst ?_
                                                            refine q_iadd ?_
                                                            obtain ⟨c183, h⟩ := mnone h
                                                            refine q_iald hscr rfl c183 ?_
                                                            obtain ⟨q184, e184, h⟩ := mbind h
                                                            refine q_vI1 (by decide) rfl rfl ob_0 rfl (by decide) (ok_X11_agrees  e184) ?_
                                                            refine q_aload_n rfl ?_
                                                            refine q_aload_n rfl ?_
                                                            refine q_iload_n rfl ?_
                                                            refine q_iconst ?_
                                                            refine q_iadd ?_
                                                            obtain ⟨c185, h⟩ := mnone h
                                                            refine q_iald hscr rfl c185 ?_
                                                            obtain ⟨q186, e186, h⟩ := mbind h
                                                            refine q_vI1 (by decide) rfl rfl ob_93 rfl (by decide) (ok_X12_agrees  e186) ?_
                                                            refine q_ic_eq (fun c187 => ?_) (fun c187 => ?_)
                                                            · rw [if_pos c187] at h
                                                              exact okc_L_law_1555 (fun _ _ _ e hl => ih  e hl) h ⟨rfl, rfl, rfl, rfl, trivial⟩
                                                            · rw [if_neg c187] at h
                                                              refine q_iconst ?_
                                                              have h := Option.some.inj h
                                                              subst h
                                                              exact q_iretZ (by decide) rfl (by decide) rfl
                                                          · rw [if_neg c298] at h
                                                            refine ⟨fun c297 => ?_, fun c297 => ?_⟩
                                                            · rw [if_pos c297] at h
                                                              refine mAt.blk bk_L_law_1103 ck_L_law_1103 ?_
                                                              refine q_aload_n rfl ?_
                                                              refine q_aload_n rfl ?_
                                                              refine q_iload_n rfl ?_
                                                              refine q_iconst ?_
                                                              refine q_iadd ?_
                                                              obtain ⟨c188, h⟩ := mnone h
                                                              refine q_iald hscr rfl c188 ?_
                                                              refine q_aload_n rfl ?_
                                                              refine q_iload_n rfl ?_
                                                              refine q_iconst ?_
                                                              refine q_iadd ?_
                                                              obtain ⟨c189, h⟩ := mnone h
                                                              refine q_iald hscr rfl c189 ?_
                                                              refine q_aload_n rfl ?_
                                                              refine q_iload_n rfl ?_
                                                              refine q_iconst ?_
                                                              refine q_iadd ?_
                                                              obtain ⟨c190, h⟩ := mnone h
                                                              refine q_iald hscr rfl c190 ?_
                                                              obtain ⟨q191, e191, h⟩ := mbind h
                                                              refine q_vI3 (by decide) rfl rfl ob_0 rfl (by decide) (ok_X11_belows  e191) ?_
                                                              refine q_aload_n rfl ?_
                                                              refine q_aload_n rfl ?_
                                                              refine q_iload_n rfl ?_
                                                              refine q_iconst ?_
                                                              refine q_iadd ?_
                                                              obtain ⟨c192, h⟩ := mnone h
                                                              refine q_iald hscr rfl c192 ?_
                                                              refine q_aload_n rfl ?_
                                                              refine q_iload_n rfl ?_
                                                              refine q_iconst ?_
                                                              refine q_iadd ?_
                                                              obtain ⟨c193, h⟩ := mnone h
                                                              refine q_iald hscr rfl c193 ?_
                                                              refine q_aload_n rfl ?_
                                                              refine q_iload_n rfl ?_
                                                              refine q_iconst ?_
                                                              refine q_iadd ?_
                                                              obtain ⟨c194, h⟩ := mnone h
                                                              refine q_iald hscr rfl c194 ?_
                                                              obtain ⟨q195, e195, h⟩ := mbind h
                                                              refine q_vI3 (by decide) rfl rfl ob_93 rfl (by decide) (ok_X12_belows  e195) ?_
                                                              refine q_ic_eq (fun c196 => ?_) (fun c196 => ?_)
                                                              · rw [if_pos c196] at h
                                                                exact okc_L_law_1555 (fun _ _ _ e hl => ih  e hl) h ⟨rfl, rfl, rfl, rfl, trivial⟩
                                                              · rw [if_neg c196] at h
                                                                refine q_iconst ?_
                                                                have h := Option.some.inj h
                                                                subst h
                                                                exact q_iretZ (by decide) rfl (by decide) rfl
                                                            · rw [if_neg c297] at h
                                                              refine ⟨fun c296 => ?_, fun c296 => ?_⟩
                                                              · rw [if_pos c296] at h
                                                                refine mAt.blk bk_L_law_1146 ck_L_law_1146 ?_
                                                                refine q_aload_n rfl ?_
                                                                refine q_aload_n rfl ?_
                                                                refine q_iload_n rfl ?_
                                                                refine q_iconst ?_
                                                                refine q_iadd ?_
                                                                obtain ⟨c197, h⟩ := mnone h
                                                                refine q_iald hscr rfl c197 ?_
                                                                refine q_aload_n rfl ?_
                                                                refine q_iload_n rfl ?_
                                                                refine q_iconst ?_
                                                                refine q_iadd ?_
                                                                obtain ⟨c198, h⟩ := mnone h
                                                                refine q_iald hscr rfl c198 ?_
                                                                refine q_aload_n rfl ?_
                                                                refine q_iload_n rfl ?_
                                                                refine q_iconst ?_
                                                                refine q_iadd ?_
                                                                obtain ⟨c199, h⟩ := mnone h
                                                                refine q_iald hscr rfl c199 ?_
                                                                refine q_aload_n rfl ?_
                                                                refine q_iload_n rfl ?_
                                                                refine q_iconst ?_
                                                                refine q_iadd ?_
                                                                obtain ⟨c200, h⟩ := mnone h
                                                                refine q_iald hscr rfl c200 ?_
                                                                obtain ⟨q201, e201, h⟩ := mbind h
                                                                refine q_vI4 (by decide) rfl rfl ob_0 rfl (by decide) (ok_X11_cork  e201) ?_
                                                                refine q_aload_n rfl ?_
                                                                refine q_aload_n rfl ?_
                                                                refine q_iload_n rfl ?_
                                                                refine q_iconst ?_
                                                                refine q_iadd ?_
                                                                obtain ⟨c202, h⟩ := mnone h
                                                                refine q_iald hscr rfl c202 ?_
                                                                refine q_aload_n rfl ?_
                                                                refine q_iload_n rfl ?_
                                                                refine q_iconst ?_
                                                                refine q_iadd ?_
                                                                obtain ⟨c203, h⟩ := mnone h
                                                                refine q_iald hscr rfl c203 ?_
                                                                refine q_aload_n rfl ?_
                                                                refine q_iload_n rfl ?_
                                                                refine q_iconst ?_
                                                                refine q_iadd ?_
                                                                obtain ⟨c204, h⟩ := mnone h
                                                                refine q_iald hscr rfl c204 ?_
                                                                refine q_aload_n rfl ?_
                                                                refine q_iload_n rfl ?_
                                                                refine q_iconst ?_
                                                                refine q_iadd ?_
                                                                obtain ⟨c205, h⟩ := mnone h
                                                                refine q_iald hscr rfl c205 ?_
                                                                obtain ⟨q206, e206, h⟩ := mbind h
                                                                refine q_vI4 (by decide) rfl rfl ob_93 rfl (by decide) (ok_X12_cork  e206) ?_
                                                                refine q_ic_eq (fun c207 => ?_) (fun c207 => ?_)
                                                                · rw [if_pos c207] at h
                                                                  exact okc_L_law_1555 (fun _ _ _ e hl => ih  e hl) h ⟨rfl, rfl, rfl, rfl, trivial⟩
                                                                · rw [if_neg c207] at h
                                                                  refine q_iconst ?_
                                                                  have h := Option.some.inj h
                                                                  subst h
                                                                  exact q_iretZ (by decide) rfl (by decide) rfl
                                                              · rw [if_neg c296] at h
                                                                refine ⟨fun c295 => ?_, fun c295 => ?_⟩
                                                                · rw [if_pos c295] at h
                                                                  refine mAt.blk bk_L_law_1199 ck_L_law_1199 ?_
                                                                  refine q_aload_n rfl ?_
                                                                  refine q_aload_n rfl ?_
                                                                  refine q_iload_n rfl ?_
                                                                  refine q_iconst ?_
                                                                  refine q_iadd ?_
                                                                  obtain ⟨c208, h⟩ := mnone h
                                                                  refine q_iald hscr rfl c208 ?_
                                                                  obtain ⟨q209, e209, h⟩ := mbind h
                                                                  refine q_vI1 (by decide) rfl rfl ob_0 rfl (by decide) (ok_X11_seed  e209) ?_
                                                                  refine q_aload_n rfl ?_
                                                                  refine q_aload_n rfl ?_
                                                                  refine q_iload_n rfl ?_
                                                                  refine q_iconst ?_
                                                                  refine q_iadd ?_
                                                                  obtain ⟨c210, h⟩ := mnone h
                                                                  refine q_iald hscr rfl c210 ?_
                                                                  obtain ⟨q211, e211, h⟩ := mbind h
                                                                  refine q_vI1 (by decide) rfl rfl ob_93 rfl (by decide) (ok_X12_seed  e211) ?_
                                                                  refine q_ic_eq (fun c212 => ?_) (fun c212 => ?_)
                                                                  · rw [if_pos c212] at h
                                                                    exact okc_L_law_1555 (fun _ _ _ e hl => ih  e hl) h ⟨rfl, rfl, rfl, rfl, trivial⟩
                                                                  · rw [if_neg c212] at h
                                                                    refine q_iconst ?_
                                                                    have h := Option.some.inj h
                                                                    subst h
                                                                    exact q_iretZ (by decide) rfl (by decide) rfl
                                                                · rw [if_neg c295] at h
                                                                  refine ⟨fun c294 => ?_, fun c294 => ?_⟩
                                                                  · rw [if_pos c294] at h
                                                                    refine mAt.blk bk_L_law_1222 ck_L_law_1222 ?_
                                                                    refine q_aload_n rfl ?_
                                                                    refine q_aload_n rfl ?_
                                                                    refine q_iload_n rfl ?_
                                                                    refine q_iconst ?_
                                                                    refine q_iadd ?_
                                                                    obtain ⟨c213, h⟩ := mnone h
                                                                    refine q_iald hscr rfl c213 ?_
                                                                    refine q_aload_n rfl ?_
                                                                    refine q_iload_n rfl ?_
                                                                    refine q_iconst ?_
                                                                    refine q_iadd ?_
                                                                    obtain ⟨c214, h⟩ := mnone h
                                                                    refine q_iald hscr rfl c214 ?_
                                                                    refine q_aload_n rfl ?_
                                                                    refine q_iload_n rfl ?_
                                                                    refine q_iconst ?_
                                                                    refine q_iadd ?_
                                                                    obtain ⟨c215, h⟩ := mnone h
                                                                    refine q_iald hscr rfl c215 ?_
                                                                    obtain ⟨q216, e216, h⟩ := mbind h
                                                                    refine q_vI3 (by decide) rfl rfl ob_0 rfl (by decide) (ok_X11_voice  e216) ?_
                                                                    refine q_aload_n rfl ?_
                                                                    refine q_aload_n rfl ?_
                                                                    refine q_iload_n rfl ?_
                                                                    refine q_iconst ?_
                                                                    refine q_iadd ?_
                                                                    obtain ⟨c217, h⟩ := mnone h
                                                                    refine q_iald hscr rfl c217 ?_
                                                                    refine q_aload_n rfl ?_
                                                                    refine q_iload_n rfl ?_
                                                                    refine q_iconst ?_
                                                                    refine q_iadd ?_
                                                                    obtain ⟨c218, h⟩ := mnone h
                                                                    refine q_iald hscr rfl c218 ?_
                                                                    refine q_aload_n rfl ?_
                                                                    refine q_iload_n rfl ?_
                                                                    refine q_iconst ?_
                                                                    refine q_iadd ?_
                                                                    obtain ⟨c219, h⟩ := mnone h
                                                                    refine q_iald hscr rfl c219 ?_
                                                                    obtain ⟨q220, e220, h⟩ := mbind h
                                                                    refine q_vI3 (by decide) rfl rfl ob_93 rfl (by decide) (ok_X12_voice  e220) ?_
                                                                    refine q_ic_eq (fun c221 => ?_) (fun c221 => ?_)
                                                                    · rw [if_pos c221] at h
                                                                      exact okc_L_law_1555 (fun _ _ _ e hl => ih  e hl) h ⟨rfl, rfl, rfl, rfl, trivial⟩
                                                                    · rw [if_neg c221] at h
                                                                      refine q_iconst ?_
                                                                      have h := Option.some.inj h
                                                                      subst h
                                                                      exact q_iretZ (by decide) rfl (by decide) rfl
                                                                  · rw [if_neg c294] at h
                                                                    refine ⟨fun c293 => ?_, fun c293 => ?_⟩
                                                                    · rw [if_pos c293] at h
                                                                      refine mAt.blk bk_L_law_1265 ck_L_law_1265 ?_
                                                                      refine q_aload_n rfl ?_
                                                                      refine q_aload_n rfl ?_
                                                                      refine q_iload_n rfl ?_
                                                                      refine q_iconst ?_
                                                                      refine q_iadd ?_
                                                                      obtain ⟨c222, h⟩ := mnone h
                                                                      refine q_iald hscr rfl c222 ?_
                                                                      obtain ⟨q223, e223, h⟩ := mbind h
                                                                      refine q_vI1 (by decide) rfl rfl ob_0 rfl (by decide) (ok_X11_trace  e223) ?_
                                                                      refine q_aload_n rfl ?_
                                                                      refine q_aload_n rfl ?_
                                                                      refine q_iload_n rfl ?_
                                                                      refine q_iconst ?_
                                                                      refine q_iadd ?_
                                                                      obtain ⟨c224, h⟩ := mnone h
                                                                      refine q_iald hscr rfl c224 ?_
                                                                      obtain ⟨q225, e225, h⟩ := mbind h
                                                                      refine q_vI1 (by decide) rfl rfl ob_93 rfl (by decide) (ok_X12_trace  e225) ?_
                                                                      refine q_ic_eq (fun c226 => ?_) (fun c226 => ?_)
                                                                      · rw [if_pos c226] at h
                                                                        exact okc_L_law_1555 (fun _ _ _ e hl => ih  e hl) h ⟨rfl, rfl, rfl, rfl, trivial⟩
                                                                      · rw [if_neg c226] at h
                                                                        refine q_iconst ?_
                                                                        have h := Option.some.inj h
                                                                        subst h
                                                                        exact q_iretZ (by decide) rfl (by decide) rfl
                                                                    · rw [if_neg c293] at h
                                                                      refine ⟨fun c292 => ?_, fun c292 => ?_⟩
                                                                      · rw [if_pos c292] at h
                                                                        refine mAt.blk bk_L_law_1288 ck_L_law_1288 ?_
                                                                        refine q_aload_n rfl ?_
                                                                        refine q_aload_n rfl ?_
                                                                        refine q_iload_n rfl ?_
                                                                        refine q_iconst ?_
                                                                        refine q_iadd ?_
                                                                        obtain ⟨c227, h⟩ := mnone h
                                                                        refine q_iald hscr rfl c227 ?_
                                                                        refine q_aload_n rfl ?_
                                                                        refine q_iload_n rfl ?_
                                                                        refine q_iconst ?_
                                                                        refine q_iadd ?_
                                                                        obtain ⟨c228, h⟩ := mnone h
                                                                        refine q_iald hscr rfl c228 ?_
                                                                        refine q_aload_n rfl ?_
                                                                        refine q_iload_n rfl ?_
                                                                        refine q_iconst ?_
                                                                        refine q_iadd ?_
                                                                        obtain ⟨c229, h⟩ := mnone h
                                                                        refine q_iald hscr rfl c229 ?_
                                                                        obtain ⟨q230, e230, h⟩ := mbind h
                                                                        refine q_vI3 (by decide) rfl rfl ob_0 rfl (by decide) (ok_X11_sheet  e230) ?_
                                                                        refine q_aload_n rfl ?_
                                                                        refine q_aload_n rfl ?_
                                                                        refine q_iload_n rfl ?_
                                                                        refine q_iconst ?_
                                                                        refine q_iadd ?_
                                                                        obtain ⟨c231, h⟩ := mnone h
                                                                        refine q_iald hscr rfl c231 ?_
                                                                        refine q_aload_n rfl ?_
                                                                        refine q_iload_n rfl ?_
                                                                        refine q_iconst ?_
                                                                        refine q_iadd ?_
                                                                        obtain ⟨c232, h⟩ := mnone h
                                                                        refine q_iald hscr rfl c232 ?_
                                                                        refine q_aload_n rfl ?_
                                                                        refine q_iload_n rfl ?_
                                                                        refine q_iconst ?_
                                                                        refine q_iadd ?_
                                                                        obtain ⟨c233, h⟩ := mnone h
                                                                        refine q_iald hscr rfl c233 ?_
                                                                        obtain ⟨q234, e234, h⟩ := mbind h
                                                                        refine q_vI3 (by decide) rfl rfl ob_93 rfl (by decide) (ok_X12_sheet  e234) ?_
                                                                        refine q_ic_eq (fun c235 => ?_) (fun c235 => ?_)
                                                                        · rw [if_pos c235] at h
                                                                          exact okc_L_law_1555 (fun _ _ _ e hl => ih  e hl) h ⟨rfl, rfl, rfl, rfl, trivial⟩
                                                                        · rw [if_neg c235] at h
                                                                          refine q_iconst ?_
                                                                          have h := Option.some.inj h
                                                                          subst h
                                                                          exact q_iretZ (by decide) rfl (by decide) rfl
                                                                      · rw [if_neg c292] at h
                                                                        refine ⟨fun c291 => ?_, fun c291 => ?_⟩
                                                                        · rw [if_pos c291] at h
                                                                          refine mAt.blk bk_L_law_1331 ck_L_law_1331 ?_
                                                                          refine q_aload_n rfl ?_
                                                                          refine q_aload_n rfl ?_
                                                                          refine q_iload_n rfl ?_
                                                                          refine q_iconst ?_
                                                                          refine q_iadd ?_
                                                                          obtain ⟨c236, h⟩ := mnone h
                                                                          refine q_iald hscr rfl c236 ?_
                                                                          refine q_aload_n rfl ?_
                                                                          refine q_iload_n rfl ?_
                                                                          refine q_iconst ?_
                                                                          refine q_iadd ?_
                                                                          obtain ⟨c237, h⟩ := mnone h
                                                                          refine q_iald hscr rfl c237 ?_
                                                                          refine q_aload_n rfl ?_
                                                                          refine q_iload_n rfl ?_
                                                                          refine q_iconst ?_
                                                                          refine q_iadd ?_
                                                                          obtain ⟨c238, h⟩ := mnone h
                                                                          refine q_iald hscr rfl c238 ?_
                                                                          obtain ⟨q239, e239, h⟩ := mbind h
                                                                          refine q_vI3 (by decide) rfl rfl ob_0 rfl (by decide) (ok_X11_put  e239) ?_
                                                                          refine q_aload_n rfl ?_
                                                                          refine q_aload_n rfl ?_
                                                                          refine q_iload_n rfl ?_
                                                                          refine q_iconst ?_
                                                                          refine q_iadd ?_
                                                                          obtain ⟨c240, h⟩ := mnone h
                                                                          refine q_iald hscr rfl c240 ?_
                                                                          refine q_aload_n rfl ?_
                                                                          refine q_iload_n rfl ?_
                                                                          refine q_iconst ?_
                                                                          refine q_iadd ?_
                                                                          obtain ⟨c241, h⟩ := mnone h
                                                                          refine q_iald hscr rfl c241 ?_
                                                                          refine q_aload_n rfl ?_
                                                                          refine q_iload_n rfl ?_
                                                                          refine q_iconst ?_
                                                                          refine q_iadd ?_
                                                                          obtain ⟨c242, h⟩ := mnone h
                                                                          refine q_iald hscr rfl c242 ?_
                                                                          obtain ⟨q243, e243, h⟩ := mbind h
                                                                          refine q_vI3 (by decide) rfl rfl ob_93 rfl (by decide) (ok_X12_put  e243) ?_
                                                                          refine q_ic_eq (fun c244 => ?_) (fun c244 => ?_)
                                                                          · rw [if_pos c244] at h
                                                                            exact okc_L_law_1555 (fun _ _ _ e hl => ih  e hl) h ⟨rfl, rfl, rfl, rfl, trivial⟩
                                                                          · rw [if_neg c244] at h
                                                                            refine q_iconst ?_
                                                                            have h := Option.some.inj h
                                                                            subst h
                                                                            exact q_iretZ (by decide) rfl (by decide) rfl
                                                                        · rw [if_neg c291] at h
                                                                          refine ⟨fun c290 => ?_, fun c290 => ?_⟩
                                                                          · rw [if_pos c290] at h
                                                                            refine mAt.blk bk_L_law_1374 ck_L_law_1374 ?_
                                                                            refine q_aload_n rfl ?_
                                                                            refine q_aload_n rfl ?_
                                                                            refine q_iload_n rfl ?_
                                                                            refine q_iconst ?_
                                                                            refine q_iadd ?_
                                                                            obtain ⟨c245, h⟩ := mnone h
                                                                            refine q_iald hscr rfl c245 ?_
                                                                            refine q_aload_n rfl ?_
                                                                            refine q_iload_n rfl ?_
                                                                            refine q_iconst ?_
                                                                            refine q_iadd ?_
                                                                            obtain ⟨c246, h⟩ := mnone h
                                                                            refine q_iald hscr rfl c246 ?_
                                                                            refine q_aload_n rfl ?_
                                                                            refine q_iload_n rfl ?_
                                                                            refine q_iconst ?_
                                                                            refine q_iadd ?_
                                                                            obtain ⟨c247, h⟩ := mnone h
                                                                            refine q_iald hscr rfl c247 ?_
                                                                            refine q_aload_n rfl ?_
                                                                            refine q_iload_n rfl ?_
                                                                            refine q_iconst ?_
                                                                            refine q_iadd ?_
                                                                            obtain ⟨c248, h⟩ := mnone h
                                                                            refine q_iald hscr rfl c248 ?_
                                                                            refine q_aload_n rfl ?_
                                                                            refine q_iload_n rfl ?_
                                                                            refine q_iconst ?_
                                                                            refine q_iadd ?_
                                                                            obtain ⟨c249, h⟩ := mnone h
                                                                            refine q_iald hscr rfl c249 ?_
                                                                            obtain ⟨q250, e250, h⟩ := mbind h
                                                                            refine q_vI5 (by decide) rfl rfl ob_0 rfl (by decide) (ok_X11_move  e250) ?_
                                                                            refine q_aload_n rfl ?_
                                                                            refine q_aload_n rfl ?_
                                                                            refine q_iload_n rfl ?_
                                                                            refine q_iconst ?_
                                                                            refine q_iadd ?_
                                                                            obtain ⟨c251, h⟩ := mnone h
                                                                            refine q_iald hscr rfl c251 ?_
                                                                            refine q_aload_n rfl ?_
                                                                            refine q_iload_n rfl ?_
                                                                            refine q_iconst ?_
                                                                            refine q_iadd ?_
                                                                            obtain ⟨c252, h⟩ := mnone h
                                                                            refine q_iald hscr rfl c252 ?_
                                                                            refine q_aload_n rfl ?_
                                                                            refine q_iload_n rfl ?_
                                                                            refine q_iconst ?_
                                                                            refine q_iadd ?_
                                                                            obtain ⟨c253, h⟩ := mnone h
                                                                            refine q_iald hscr rfl c253 ?_
                                                                            refine q_aload_n rfl ?_
                                                                            refine q_iload_n rfl ?_
                                                                            refine q_iconst ?_
                                                                            refine q_iadd ?_
                                                                            obtain ⟨c254, h⟩ := mnone h
                                                                            refine q_iald hscr rfl c254 ?_
                                                                            refine q_aload_n rfl ?_
                                                                            refine q_iload_n rfl ?_
                                                                            refine q_iconst ?_
                                                                            refine q_iadd ?_
                                                                            obtain ⟨c255, h⟩ := mnone h
                                                                            refine q_iald hscr rfl c255 ?_
                                                                            obtain ⟨q256, e256, h⟩ := mbind h
                                                                            refine q_vI5 (by decide) rfl rfl ob_93 rfl (by decide) (ok_X12_move  e256) ?_
                                                                            refine q_ic_eq (fun c257 => ?_) (fun c257 => ?_)
                                                                            · rw [if_pos c257] at h
                                                                              exact okc_L_law_1555 (fun _ _ _ e hl => ih  e hl) h ⟨rfl, rfl, rfl, rfl, trivial⟩
                                                                            · rw [if_neg c257] at h
                                                                              refine q_iconst ?_
                                                                              have h := Option.some.inj h
                                                                              subst h
                                                                              exact q_iretZ (by decide) rfl (by decide) rfl
                                                                          · rw [if_neg c290] at h
                                                                            refine ⟨fun c289 => ?_, fun c289 => ?_⟩
                                                                            · rw [if_pos c289] at h
                                                                              refine mAt.blk bk_L_law_1437 ck_L_law_1437 ?_
                                                                              refine q_aload_n rfl ?_
                                                                              obtain ⟨q258, e258, h⟩ := mbind h
                                                                              refine q_vI0 (by decide) rfl rfl ob_0 rfl (by decide) (ok_X11_image  e258) ?_
                                                                              refine q_aload_n rfl ?_
                                                                              obtain ⟨q259, e259, h⟩ := mbind h
                                                                              refine q_vI0 (by decide) rfl rfl ob_93 rfl (by decide) (ok_X12_image  e259) ?_
                                                                              refine q_ic_eq (fun c260 => ?_) (fun c260 => ?_)
                                                                              · rw [if_pos c260] at h
                                                                                exact okc_L_law_1555 (fun _ _ _ e hl => ih  e hl) h ⟨rfl, rfl, rfl, rfl, trivial⟩
                                                                              · rw [if_neg c260] at h
                                                                                refine q_iconst ?_
                                                                                have h := Option.some.inj h
                                                                                subst h
                                                                                exact q_iretZ (by decide) rfl (by decide) rfl
                                                                            · rw [if_neg c289] at h
                                                                              refine ⟨fun c288 => ?_, fun c288 => ?_⟩
                                                                              · rw [if_pos c288] at h
                                                                                refine mAt.blk bk_L_law_1450 ck_L_law_1450 ?_
                                                                                refine q_aload_n rfl ?_
                                                                                obtain ⟨q261, e261, h⟩ := mbind h
                                                                                refine q_vI0 (by decide) rfl rfl ob_0 rfl (by decide) (ok_X11_restore  e261) ?_
                                                                                refine q_aload_n rfl ?_
                                                                                obtain ⟨q262, e262, h⟩ := mbind h
                                                                                refine q_vI0 (by decide) rfl rfl ob_93 rfl (by decide) (ok_X12_restore  e262) ?_
                                                                                refine q_ic_eq (fun c263 => ?_) (fun c263 => ?_)
                                                                                · rw [if_pos c263] at h
                                                                                  exact okc_L_law_1555 (fun _ _ _ e hl => ih  e hl) h ⟨rfl, rfl, rfl, rfl, trivial⟩
                                                                                · rw [if_neg c263] at h
                                                                                  refine q_iconst ?_
                                                                                  have h := Option.some.inj h
                                                                                  subst h
                                                                                  exact q_iretZ (by decide) rfl (by decide) rfl
                                                                              · rw [if_neg c288] at h
                                                                                refine ⟨fun c287 => ?_, fun c287 => ?_⟩
                                                                                · rw [if_pos c287] at h
                                                                                  refine mAt.blk bk_L_law_1463 ck_L_law_1463 ?_
                                                                                  refine q_aload_n rfl ?_
                                                                                  refine q_aload_n rfl ?_
                                                                                  refine q_iload_n rfl ?_
                                                                                  refine q_iconst ?_
                                                                                  refine q_iadd ?_
                                                                                  obtain ⟨c264, h⟩ := mnone h
                                                                                  refine q_iald hscr rfl c264 ?_
                                                                                  obtain ⟨q265, e265, h⟩ := mbind h
                                                                                  refine q_vI1 (by decide) rfl rfl ob_0 rfl (by decide) (ok_X11_tell  e265) ?_
                                                                                  refine q_aload_n rfl ?_
                                                                                  refine q_aload_n rfl ?_
                                                                                  refine q_iload_n rfl ?_
                                                                                  refine q_iconst ?_
                                                                                  refine q_iadd ?_
                                                                                  obtain ⟨c266, h⟩ := mnone h
                                                                                  refine q_iald hscr rfl c266 ?_
                                                                                  obtain ⟨q267, e267, h⟩ := mbind h
                                                                                  refine q_vI1 (by decide) rfl rfl ob_93 rfl (by decide) (ok_X12_tell  e267) ?_
                                                                                  refine q_ic_eq (fun c268 => ?_) (fun c268 => ?_)
                                                                                  · rw [if_pos c268] at h
                                                                                    exact okc_L_law_1555 (fun _ _ _ e hl => ih  e hl) h ⟨rfl, rfl, rfl, rfl, trivial⟩
                                                                                  · rw [if_neg c268] at h
                                                                                    refine q_iconst ?_
                                                                                    have h := Option.some.inj h
                                                                                    subst h
                                                                                    exact q_iretZ (by decide) rfl (by decide) rfl
                                                                                · rw [if_neg c287] at h
                                                                                  refine ⟨fun c286 => ?_, fun c286 => ?_⟩
                                                                                  · rw [if_pos c286] at h
                                                                                    refine mAt.blk bk_L_law_1486 ck_L_law_1486 ?_
                                                                                    refine q_aload_n rfl ?_
                                                                                    refine q_aload_n rfl ?_
                                                                                    refine q_iload_n rfl ?_
                                                                                    refine q_iconst ?_
                                                                                    refine q_iadd ?_
                                                                                    obtain ⟨c269, h⟩ := mnone h
                                                                                    refine q_iald hscr rfl c269 ?_
                                                                                    obtain ⟨q270, e270, h⟩ := mbind h
                                                                                    refine q_vI1 (by decide) rfl rfl ob_0 rfl (by decide) (ok_X11_check  e270) ?_
                                                                                    refine q_aload_n rfl ?_
                                                                                    refine q_aload_n rfl ?_
                                                                                    refine q_iload_n rfl ?_
                                                                                    refine q_iconst ?_
                                                                                    refine q_iadd ?_
                                                                                    obtain ⟨c271, h⟩ := mnone h
                                                                                    refine q_iald hscr rfl c271 ?_
                                                                                    obtain ⟨q272, e272, h⟩ := mbind h
                                                                                    refine q_vI1 (by decide) rfl rfl ob_93 rfl (by decide) (ok_X12_check  e272) ?_
                                                                                    refine q_ic_eq (fun c273 => ?_) (fun c273 => ?_)
                                                                                    · rw [if_pos c273] at h
                                                                                      exact okc_L_law_1555 (fun _ _ _ e hl => ih  e hl) h ⟨rfl, rfl, rfl, rfl, trivial⟩
                                                                                    · rw [if_neg c273] at h
                                                                                      refine q_iconst ?_
                                                                                      have h := Option.some.inj h
                                                                                      subst h
                                                                                      exact q_iretZ (by decide) rfl (by decide) rfl
                                                                                  · rw [if_neg c286] at h
                                                                                    refine ⟨fun c285 => ?_, fun c285 => ?_⟩
                                                                                    · rw [if_pos c285] at h
                                                                                      refine mAt.blk bk_L_law_1509 ck_L_law_1509 ?_
                                                                                      refine q_aload_n rfl ?_
                                                                                      refine q_aload_n rfl ?_
                                                                                      refine q_iload_n rfl ?_
                                                                                      refine q_iconst ?_
                                                                                      refine q_iadd ?_
                                                                                      obtain ⟨c274, h⟩ := mnone h
                                                                                      refine q_iald hscr rfl c274 ?_
                                                                                      obtain ⟨q275, e275, h⟩ := mbind h
                                                                                      refine q_vI1 (by decide) rfl rfl ob_0 rfl (by decide) (ok_X11_count  e275) ?_
                                                                                      refine q_aload_n rfl ?_
                                                                                      refine q_aload_n rfl ?_
                                                                                      refine q_iload_n rfl ?_
                                                                                      refine q_iconst ?_
                                                                                      refine q_iadd ?_
                                                                                      obtain ⟨c276, h⟩ := mnone h
                                                                                      refine q_iald hscr rfl c276 ?_
                                                                                      obtain ⟨q277, e277, h⟩ := mbind h
                                                                                      refine q_vI1 (by decide) rfl rfl ob_93 rfl (by decide) (ok_X12_count  e277) ?_
                                                                                      refine q_ic_eq (fun c278 => ?_) (fun c278 => ?_)
                                                                                      · rw [if_pos c278] at h
                                                                                        exact okc_L_law_1555 (fun _ _ _ e hl => ih  e hl) h ⟨rfl, rfl, rfl, rfl, trivial⟩
                                                                                      · rw [if_neg c278] at h
                                                                                        refine q_iconst ?_
                                                                                        have h := Option.some.inj h
                                                                                        subst h
                                                                                        exact q_iretZ (by decide) rfl (by decide) rfl
                                                                                    · rw [if_neg c285] at h
                                                                                      refine ⟨fun c284 => ?_, fun c284 => ?_⟩
                                                                                      · rw [if_pos c284] at h
                                                                                        refine mAt.blk bk_L_law_1532 ck_L_law_1532 ?_
                                                                                        refine q_aload_n rfl ?_
                                                                                        refine q_aload_n rfl ?_
                                                                                        refine q_iload_n rfl ?_
                                                                                        refine q_iconst ?_
                                                                                        refine q_iadd ?_
                                                                                        obtain ⟨c279, h⟩ := mnone h
                                                                                        refine q_iald hscr rfl c279 ?_
                                                                                        obtain ⟨q280, e280, h⟩ := mbind h
                                                                                        refine q_vI1 (by decide) rfl rfl ob_0 rfl (by decide) (ok_X11_told  e280) ?_
                                                                                        refine q_aload_n rfl ?_
                                                                                        refine q_aload_n rfl ?_
                                                                                        refine q_iload_n rfl ?_
                                                                                        refine q_iconst ?_
                                                                                        refine q_iadd ?_
                                                                                        obtain ⟨c281, h⟩ := mnone h
                                                                                        refine q_iald hscr rfl c281 ?_
                                                                                        obtain ⟨q282, e282, h⟩ := mbind h
                                                                                        refine q_vI1 (by decide) rfl rfl ob_93 rfl (by decide) (ok_X12_told  e282) ?_
                                                                                        refine q_ic_eq (fun c283 => ?_) (fun c283 => ?_)
                                                                                        · rw [if_pos c283] at h
                                                                                          exact okc_L_law_1555 (fun _ _ _ e hl => ih  e hl) h ⟨rfl, rfl, rfl, rfl, trivial⟩
                                                                                        · rw [if_neg c283] at h
                                                                                          refine q_iconst ?_
                                                                                          have h := Option.some.inj h
                                                                                          subst h
                                                                                          exact q_iretZ (by decide) rfl (by decide) rfl
                                                                                      · rw [if_neg c284] at h
                                                                                        exact okc_L_law_1555 (fun _ _ _ e hl => ih  e hl) h ⟨rfl, rfl, rfl, rfl, trivial⟩
