/-! code of C, stretch by stretch (written by program) -/
def B_C_init_0 : List IT := [(.aload_n 0, 1, oN 0 0 0, []),
  (.invokespecial 1, 3, oN 0 0 1, [54, 55]),
  (.aload_n 0, 1, oN 0 0 0, []),
  (.lload_n 1, 1, oN 1 0 0, []),
  (.putfield 7, 3, oN 0 0 1, [284]),
  (.aload_n 0, 1, oN 0 0 0, []),
  (.iconst 1, 1, oI 1, []),
  (.iconst 3, 1, oI 3, []),
  (.iload_n 3, 1, oN 3 0 0, []),
  (.invokestatic 13, 3, oN 0 0 2, [57, 58, 41]),
  (.invokestatic 19, 3, oN 0 0 1, [60, 61, 41]),
  (.putfield 22, 3, oN 0 1 0, [285]),
  (.aload_n 0, 1, oN 0 0 0, []),
  (.sipush 1000, 3, oI 1000, []),
  (.ldc 26, 2, oI 100000, [63]),
  (.iload 4, 2, oN 4 0 0, []),
  (.invokestatic 13, 3, oN 0 0 2, [57, 58, 41]),
  (.invokestatic 19, 3, oN 0 0 1, [60, 61, 41]),
  (.putfield 27, 3, oN 0 2 0, [286]),
  (.aload_n 0, 1, oN 0 0 0, []),
  (.new 30, 3, oN 1 6 0, [64, 65, 42]),
  (.dup, 1, oN 0 0 0, []),
  (.aload_n 0, 1, oN 0 0 0, []),
  (.getfield 22, 3, oN 0 1 0, [285]),
  (.aload_n 0, 1, oN 0 0 0, []),
  (.getfield 27, 3, oN 0 2 0, [286]),
  (.invokespecial 32, 3, oM M_Road_init 3 0, [42, 66, 67]),
  (.putfield 35, 3, oN 0 3 2, [287]),
  (.aload_n 0, 1, oN 0 0 0, []),
  (.aload_n 0, 1, oN 0 0 0, []),
  (.getfield 35, 3, oN 0 3 2, [287]),
  (.getfield 39, 3, oN 1 0 2, [262]),
  (.putfield 43, 3, oN 0 4 2, [288]),
  (.aload_n 0, 1, oN 0 0 0, []),
  (.aload_n 0, 1, oN 0 0 0, []),
  (.getfield 35, 3, oN 0 3 2, [287]),
  (.getfield 44, 3, oN 1 1 2, [264]),
  (.putfield 48, 3, oN 0 5 2, [289]),
  (.aload_n 0, 1, oN 0 0 0, []),
  (.iconst 2, 1, oI 2, []),
  (.anewarray 49, 3, oN 1 0 0, [282]),
  (.putfield 51, 3, oN 0 6 2, [290]),
  (.return_, 1, oN 0 0 0, [])]
theorem B_C_init_0_ok : okB M_C_init 0 B_C_init_0 89 = true := by decide +kernel
def B_C_back_0 : List IT := [(.iload_n 1, 1, oN 1 0 0, []),
  (.ifCond .lt 17, 3, oN 18 0 0, []),
  (.iload_n 1, 1, oN 1 0 0, []),
  (.iconst 2, 1, oI 2, []),
  (.if_icmp .ge 12, 3, oN 18 0 0, []),
  (.aload_n 0, 1, oN 0 0 0, []),
  (.getfield 51, 3, oN 0 6 2, [290]),
  (.iload_n 1, 1, oN 1 0 0, []),
  (.aaload, 1, oN 1 0 0, []),
  (.ifnonnull 5, 3, oN 20 0 0, [])]
theorem B_C_back_0_ok : okB M_C_back 0 B_C_back_0 18 = true := by decide +kernel
def B_C_back_18 : List IT := [(.iconst (-1), 1, oI (-1), []),
  (.ireturn, 1, oN 0 0 0, [])]
theorem B_C_back_18_ok : okB M_C_back 18 B_C_back_18 20 = true := by decide +kernel
def B_C_back_20 : List IT := [(.aload_n 0, 1, oN 0 0 0, []),
  (.getfield 48, 3, oN 0 5 2, [289]),
  (.aload_n 0, 1, oN 0 0 0, []),
  (.getfield 51, 3, oN 0 6 2, [290]),
  (.iload_n 1, 1, oN 1 0 0, []),
  (.aaload, 1, oN 1 0 0, []),
  (.invokevirtual 163, 3, oM M_State_copyFrom 2 3, [44, 556, 557, 558]),
  (.aload_n 0, 1, oN 0 0 0, []),
  (.getfield 48, 3, oN 0 5 2, [289]),
  (.getfield 97, 3, oN 3 4 0, [234]),
  (.ireturn, 1, oN 0 0 0, [])]
theorem B_C_back_20_ok : okB M_C_back 20 B_C_back_20 41 = true := by decide +kernel
def B_C_close_0 : List IT := [(.aload_n 0, 1, oN 0 0 0, []),
  (.iload_n 1, 1, oN 1 0 0, []),
  (.invokevirtual 55, 3, oM M_C_isLane 2 0, [40, 310, 312, 0]),
  (.ifCond .eq 11, 3, oN 16 0 0, []),
  (.aload_n 0, 1, oN 0 0 0, []),
  (.iload_n 2, 1, oN 2 0 0, []),
  (.invokevirtual 69, 3, oM M_C_isPlace 2 0, [40, 337, 339, 2]),
  (.ifCond .ne 5, 3, oN 18 0 0, [])]
theorem B_C_close_0_ok : okB M_C_close 0 B_C_close_0 16 = true := by decide +kernel
def B_C_close_16 : List IT := [(.iconst 0, 1, oI 0, []),
  (.ireturn, 1, oN 0 0 0, [])]
theorem B_C_close_16_ok : okB M_C_close 16 B_C_close_16 18 = true := by decide +kernel
def B_C_close_18 : List IT := [(.iload_n 3, 1, oN 3 0 0, []),
  (.ifCond .lt 28, 3, oN 47 0 0, []),
  (.iload_n 3, 1, oN 3 0 0, []),
  (.iload 4, 2, oN 4 0 0, []),
  (.if_icmp .gt 22, 3, oN 47 0 0, []),
  (.aload_n 0, 1, oN 0 0 0, []),
  (.getfield 43, 3, oN 0 4 2, [288]),
  (.iload_n 1, 1, oN 1 0 0, []),
  (.iload_n 2, 1, oN 2 0 0, []),
  (.iload_n 3, 1, oN 3 0 0, []),
  (.iload 4, 2, oN 4 0 0, []),
  (.invokevirtual 78, 3, oM M_Things_addClosed 5 2, [43, 349, 350, 351]),
  (.ifCond .eq 7, 3, oN 47 0 0, []),
  (.iconst 1, 1, oI 1, []),
  (.goto 4, 3, oN 48 0 0, [])]
theorem B_C_close_18_ok : okB M_C_close 18 B_C_close_18 47 = true := by decide +kernel
def B_C_close_47 : List IT := [(.iconst 0, 1, oI 0, [])]
theorem B_C_close_47_ok : okB M_C_close 47 B_C_close_47 48 = true := by decide +kernel
def B_C_close_48 : List IT := [(.ireturn, 1, oN 0 0 0, [])]
theorem B_C_close_48_ok : okB M_C_close 48 B_C_close_48 49 = true := by decide +kernel
def B_C_come_0 : List IT := [(.aload_n 0, 1, oN 0 0 0, []),
  (.iload_n 1, 1, oN 1 0 0, []),
  (.invokevirtual 55, 3, oM M_C_isLane 2 0, [40, 310, 312, 0]),
  (.ifCond .eq 12, 3, oN 17 0 0, []),
  (.iload_n 2, 1, oN 2 0 0, []),
  (.ifCond .eq 10, 3, oN 19 0 0, []),
  (.iload_n 2, 1, oN 2 0 0, []),
  (.iconst 1, 1, oI 1, []),
  (.if_icmp .eq 5, 3, oN 19 0 0, [])]
theorem B_C_come_0_ok : okB M_C_come 0 B_C_come_0 17 = true := by decide +kernel
def B_C_come_17 : List IT := [(.iconst (-1), 1, oI (-1), []),
  (.ireturn, 1, oN 0 0 0, [])]
theorem B_C_come_17_ok : okB M_C_come 17 B_C_come_17 19 = true := by decide +kernel
def B_C_come_19 : List IT := [(.aload_n 0, 1, oN 0 0 0, []),
  (.getfield 48, 3, oN 0 5 2, [289]),
  (.getfield 59, 3, oN 3 0 2, [225]),
  (.aload_n 0, 1, oN 0 0 0, []),
  (.getfield 7, 3, oN 0 0 1, [284]),
  (.iload_n 1, 1, oN 1 0 0, []),
  (.iload_n 2, 1, oN 2 0 0, []),
  (.invokevirtual 63, 3, oM M_Cars_add 4 4, [45, 314, 315, 316]),
  (.ireturn, 1, oN 0 0 0, [])]
theorem B_C_come_19_ok : okB M_C_come 19 B_C_come_19 36 = true := by decide +kernel
def B_C_count_0 : List IT := [(.iload_n 1, 1, oN 1 0 0, []),
  (.tableswitch 140 0 9 #[55, 66, 78, 90, 98, 106, 114, 122, 130, 135], 55, oS 141 [(0, 56), (1, 67), (2, 79), (3, 91), (4, 99), (5, 107), (6, 115), (7, 123), (8, 131), (9, 136)], [])]
theorem B_C_count_0_ok : okB M_C_count 0 B_C_count_0 56 = true := by decide +kernel
def B_C_count_56 : List IT := [(.aload_n 0, 1, oN 0 0 0, []),
  (.getfield 48, 3, oN 0 5 2, [289]),
  (.getfield 59, 3, oN 3 0 2, [225]),
  (.getfield 167, 3, oN 4 12 0, [178]),
  (.ireturn, 1, oN 0 0 0, [])]
theorem B_C_count_56_ok : okB M_C_count 56 B_C_count_56 67 = true := by decide +kernel
def B_C_count_67 : List IT := [(.aload_n 0, 1, oN 0 0 0, []),
  (.getfield 48, 3, oN 0 5 2, [289]),
  (.getfield 59, 3, oN 3 0 2, [225]),
  (.iconst 1, 1, oI 1, []),
  (.invokevirtual 170, 3, oM M_Cars_sizeOf 2 4, [45, 581, 582, 583]),
  (.ireturn, 1, oN 0 0 0, [])]
theorem B_C_count_67_ok : okB M_C_count 67 B_C_count_67 79 = true := by decide +kernel
def B_C_count_79 : List IT := [(.aload_n 0, 1, oN 0 0 0, []),
  (.getfield 48, 3, oN 0 5 2, [289]),
  (.getfield 59, 3, oN 3 0 2, [225]),
  (.iconst 2, 1, oI 2, []),
  (.invokevirtual 170, 3, oM M_Cars_sizeOf 2 4, [45, 581, 582, 583]),
  (.ireturn, 1, oN 0 0 0, [])]
theorem B_C_count_79_ok : okB M_C_count 79 B_C_count_79 91 = true := by decide +kernel
def B_C_count_91 : List IT := [(.aload_n 0, 1, oN 0 0 0, []),
  (.getfield 48, 3, oN 0 5 2, [289]),
  (.getfield 97, 3, oN 3 4 0, [234]),
  (.ireturn, 1, oN 0 0 0, [])]
theorem B_C_count_91_ok : okB M_C_count 91 B_C_count_91 99 = true := by decide +kernel
def B_C_count_99 : List IT := [(.aload_n 0, 1, oN 0 0 0, []),
  (.getfield 43, 3, oN 0 4 2, [288]),
  (.getfield 173, 3, oN 2 10 0, [90]),
  (.ireturn, 1, oN 0 0 0, [])]
theorem B_C_count_99_ok : okB M_C_count 99 B_C_count_99 107 = true := by decide +kernel
def B_C_count_107 : List IT := [(.aload_n 0, 1, oN 0 0 0, []),
  (.getfield 43, 3, oN 0 4 2, [288]),
  (.getfield 176, 3, oN 2 11 0, [92]),
  (.ireturn, 1, oN 0 0 0, [])]
theorem B_C_count_107_ok : okB M_C_count 107 B_C_count_107 115 = true := by decide +kernel
def B_C_count_115 : List IT := [(.aload_n 0, 1, oN 0 0 0, []),
  (.getfield 43, 3, oN 0 4 2, [288]),
  (.getfield 179, 3, oN 2 12 0, [95]),
  (.ireturn, 1, oN 0 0 0, [])]
theorem B_C_count_115_ok : okB M_C_count 115 B_C_count_115 123 = true := by decide +kernel
def B_C_count_123 : List IT := [(.aload_n 0, 1, oN 0 0 0, []),
  (.getfield 43, 3, oN 0 4 2, [288]),
  (.getfield 137, 3, oN 2 13 0, [97]),
  (.ireturn, 1, oN 0 0 0, [])]
theorem B_C_count_123_ok : okB M_C_count 123 B_C_count_123 131 = true := by decide +kernel
def B_C_count_131 : List IT := [(.aload_n 0, 1, oN 0 0 0, []),
  (.getfield 22, 3, oN 0 1 0, [285]),
  (.ireturn, 1, oN 0 0 0, [])]
theorem B_C_count_131_ok : okB M_C_count 131 B_C_count_131 136 = true := by decide +kernel
def B_C_count_136 : List IT := [(.aload_n 0, 1, oN 0 0 0, []),
  (.getfield 27, 3, oN 0 2 0, [286]),
  (.ireturn, 1, oN 0 0 0, [])]
theorem B_C_count_136_ok : okB M_C_count 136 B_C_count_136 141 = true := by decide +kernel
def B_C_count_141 : List IT := [(.iconst (-1), 1, oI (-1), []),
  (.ireturn, 1, oN 0 0 0, [])]
theorem B_C_count_141_ok : okB M_C_count 141 B_C_count_141 143 = true := by decide +kernel
def B_C_counted_0 : List IT := [(.iload_n 1, 1, oN 1 0 0, []),
  (.ifCond .lt 22, 3, oN 23 0 0, []),
  (.iload_n 1, 1, oN 1 0 0, []),
  (.aload_n 0, 1, oN 0 0 0, []),
  (.getfield 43, 3, oN 0 4 2, [288]),
  (.getfield 137, 3, oN 2 13 0, [97]),
  (.if_icmp .ge 11, 3, oN 23 0 0, []),
  (.aload_n 0, 1, oN 0 0 0, []),
  (.iload_n 2, 1, oN 2 0 0, []),
  (.invokevirtual 55, 3, oM M_C_isLane 2 0, [40, 310, 312, 0]),
  (.ifCond .ne 5, 3, oN 25 0 0, [])]
theorem B_C_counted_0_ok : okB M_C_counted 0 B_C_counted_0 23 = true := by decide +kernel
def B_C_counted_23 : List IT := [(.iconst (-1), 1, oI (-1), []),
  (.ireturn, 1, oN 0 0 0, [])]
theorem B_C_counted_23_ok : okB M_C_counted 23 B_C_counted_23 25 = true := by decide +kernel
def B_C_counted_25 : List IT := [(.aload_n 0, 1, oN 0 0 0, []),
  (.getfield 48, 3, oN 0 5 2, [289]),
  (.getfield 140, 3, oN 3 3 2, [230]),
  (.iload_n 1, 1, oN 1 0 0, []),
  (.iconst 3, 1, oI 3, []),
  (.imul, 1, oN 0 0 0, []),
  (.iload_n 2, 1, oN 2 0 0, []),
  (.iadd, 1, oN 0 0 0, []),
  (.iaload, 1, oN 0 0 0, []),
  (.ireturn, 1, oN 0 0 0, [])]
theorem B_C_counted_25_ok : okB M_C_counted 25 B_C_counted_25 39 = true := by decide +kernel
def B_C_drawn_0 : List IT := [(.aload_n 0, 1, oN 0 0 0, []),
  (.iload_n 1, 1, oN 1 0 0, []),
  (.invokevirtual 100, 3, oM M_C_isCar 2 0, [40, 499, 501, 21]),
  (.ifCond .ne 5, 3, oN 10 0 0, []),
  (.iconst (-1), 1, oI (-1), []),
  (.ireturn, 1, oN 0 0 0, [])]
theorem B_C_drawn_0_ok : okB M_C_drawn 0 B_C_drawn_0 10 = true := by decide +kernel
def B_C_drawn_10 : List IT := [(.iload_n 2, 1, oN 2 0 0, []),
  (.tableswitch 64 0 2 #[25, 38, 51], 25, oS 75 [(0, 36), (1, 49), (2, 62)], [])]
theorem B_C_drawn_10_ok : okB M_C_drawn 10 B_C_drawn_10 36 = true := by decide +kernel
def B_C_drawn_36 : List IT := [(.aload_n 0, 1, oN 0 0 0, []),
  (.getfield 48, 3, oN 0 5 2, [289]),
  (.getfield 59, 3, oN 3 0 2, [225]),
  (.getfield 122, 3, oN 4 1 2, [145]),
  (.iload_n 1, 1, oN 1 0 0, []),
  (.iaload, 1, oN 0 0 0, []),
  (.ireturn, 1, oN 0 0 0, [])]
theorem B_C_drawn_36_ok : okB M_C_drawn 36 B_C_drawn_36 49 = true := by decide +kernel
def B_C_drawn_49 : List IT := [(.aload_n 0, 1, oN 0 0 0, []),
  (.getfield 48, 3, oN 0 5 2, [289]),
  (.getfield 59, 3, oN 3 0 2, [225]),
  (.getfield 124, 3, oN 4 2 2, [148]),
  (.iload_n 1, 1, oN 1 0 0, []),
  (.iaload, 1, oN 0 0 0, []),
  (.ireturn, 1, oN 0 0 0, [])]
theorem B_C_drawn_49_ok : okB M_C_drawn 49 B_C_drawn_49 62 = true := by decide +kernel
def B_C_drawn_62 : List IT := [(.aload_n 0, 1, oN 0 0 0, []),
  (.getfield 48, 3, oN 0 5 2, [289]),
  (.getfield 59, 3, oN 3 0 2, [225]),
  (.getfield 127, 3, oN 4 3 2, [150]),
  (.iload_n 1, 1, oN 1 0 0, []),
  (.iaload, 1, oN 0 0 0, []),
  (.ireturn, 1, oN 0 0 0, [])]
theorem B_C_drawn_62_ok : okB M_C_drawn 62 B_C_drawn_62 75 = true := by decide +kernel
def B_C_drawn_75 : List IT := [(.iconst (-1), 1, oI (-1), []),
  (.ireturn, 1, oN 0 0 0, [])]
theorem B_C_drawn_75_ok : okB M_C_drawn 75 B_C_drawn_75 77 = true := by decide +kernel
def B_C_gap_0 : List IT := [(.aload_n 0, 1, oN 0 0 0, []),
  (.iload_n 1, 1, oN 1 0 0, []),
  (.invokevirtual 100, 3, oM M_C_isCar 2 0, [40, 499, 501, 21]),
  (.ifCond .eq 19, 3, oN 24 0 0, []),
  (.aload_n 0, 1, oN 0 0 0, []),
  (.getfield 48, 3, oN 0 5 2, [289]),
  (.getfield 59, 3, oN 3 0 2, [225]),
  (.getfield 103, 3, oN 4 5 2, [157]),
  (.iload_n 1, 1, oN 1 0 0, []),
  (.iaload, 1, oN 0 0 0, []),
  (.iconst 1, 1, oI 1, []),
  (.if_icmp .eq 5, 3, oN 26 0 0, [])]
theorem B_C_gap_0_ok : okB M_C_gap 0 B_C_gap_0 24 = true := by decide +kernel
def B_C_gap_24 : List IT := [(.iconst (-1), 1, oI (-1), []),
  (.ireturn, 1, oN 0 0 0, [])]
theorem B_C_gap_24_ok : okB M_C_gap 24 B_C_gap_24 26 = true := by decide +kernel
def B_C_gap_26 : List IT := [(.aload_n 0, 1, oN 0 0 0, []),
  (.getfield 48, 3, oN 0 5 2, [289]),
  (.getfield 59, 3, oN 3 0 2, [225]),
  (.getfield 107, 3, oN 4 4 2, [153]),
  (.iload_n 1, 1, oN 1 0 0, []),
  (.iaload, 1, oN 0 0 0, []),
  (.istore_n 2, 1, oN 2 0 0, []),
  (.aload_n 0, 1, oN 0 0 0, []),
  (.getfield 35, 3, oN 0 3 2, [287]),
  (.iload_n 2, 1, oN 2 0 0, []),
  (.aload_n 0, 1, oN 0 0 0, []),
  (.getfield 48, 3, oN 0 5 2, [289]),
  (.iload_n 2, 1, oN 2 0 0, []),
  (.aload_n 0, 1, oN 0 0 0, []),
  (.getfield 48, 3, oN 0 5 2, [289]),
  (.getfield 59, 3, oN 3 0 2, [225]),
  (.getfield 110, 3, oN 4 6 2, [161]),
  (.iload_n 1, 1, oN 1 0 0, []),
  (.iaload, 1, oN 0 0 0, []),
  (.invokevirtual 130, 3, oM M_State_rankFor 3 3, [44, 511, 444, 445]),
  (.iload_n 1, 1, oN 1 0 0, []),
  (.invokevirtual 133, 3, oM M_Road_gapIn 4 1, [42, 512, 410, 411]),
  (.ireturn, 1, oN 0 0 0, [])]
theorem B_C_gap_26_ok : okB M_C_gap 26 B_C_gap_26 69 = true := by decide +kernel
def B_C_isCar_0 : List IT := [(.iload_n 1, 1, oN 1 0 0, []),
  (.ifCond .lt 21, 3, oN 22 0 0, []),
  (.iload_n 1, 1, oN 1 0 0, []),
  (.aload_n 0, 1, oN 0 0 0, []),
  (.getfield 48, 3, oN 0 5 2, [289]),
  (.getfield 59, 3, oN 3 0 2, [225]),
  (.getfield 167, 3, oN 4 12 0, [178]),
  (.if_icmp .ge 7, 3, oN 22 0 0, []),
  (.iconst 1, 1, oI 1, []),
  (.goto 4, 3, oN 23 0 0, [])]
theorem B_C_isCar_0_ok : okB M_C_isCar 0 B_C_isCar_0 22 = true := by decide +kernel
def B_C_isCar_22 : List IT := [(.iconst 0, 1, oI 0, [])]
theorem B_C_isCar_22_ok : okB M_C_isCar 22 B_C_isCar_22 23 = true := by decide +kernel
def B_C_isCar_23 : List IT := [(.ireturn, 1, oN 0 0 0, [])]
theorem B_C_isCar_23_ok : okB M_C_isCar 23 B_C_isCar_23 24 = true := by decide +kernel
def B_C_isLane_0 : List IT := [(.iload_n 1, 1, oN 1 0 0, []),
  (.ifCond .lt 15, 3, oN 16 0 0, []),
  (.iload_n 1, 1, oN 1 0 0, []),
  (.aload_n 0, 1, oN 0 0 0, []),
  (.getfield 22, 3, oN 0 1 0, [285]),
  (.if_icmp .ge 7, 3, oN 16 0 0, []),
  (.iconst 1, 1, oI 1, []),
  (.goto 4, 3, oN 17 0 0, [])]
theorem B_C_isLane_0_ok : okB M_C_isLane 0 B_C_isLane_0 16 = true := by decide +kernel
def B_C_isLane_16 : List IT := [(.iconst 0, 1, oI 0, [])]
theorem B_C_isLane_16_ok : okB M_C_isLane 16 B_C_isLane_16 17 = true := by decide +kernel
def B_C_isLane_17 : List IT := [(.ireturn, 1, oN 0 0 0, [])]
theorem B_C_isLane_17_ok : okB M_C_isLane 17 B_C_isLane_17 18 = true := by decide +kernel
def B_C_isPlace_0 : List IT := [(.iload_n 1, 1, oN 1 0 0, []),
  (.ifCond .lt 15, 3, oN 16 0 0, []),
  (.iload_n 1, 1, oN 1 0 0, []),
  (.aload_n 0, 1, oN 0 0 0, []),
  (.getfield 27, 3, oN 0 2 0, [286]),
  (.if_icmp .gt 7, 3, oN 16 0 0, []),
  (.iconst 1, 1, oI 1, []),
  (.goto 4, 3, oN 17 0 0, [])]
theorem B_C_isPlace_0_ok : okB M_C_isPlace 0 B_C_isPlace_0 16 = true := by decide +kernel
def B_C_isPlace_16 : List IT := [(.iconst 0, 1, oI 0, [])]
theorem B_C_isPlace_16_ok : okB M_C_isPlace 16 B_C_isPlace_16 17 = true := by decide +kernel
def B_C_isPlace_17 : List IT := [(.ireturn, 1, oN 0 0 0, [])]
theorem B_C_isPlace_17_ok : okB M_C_isPlace 17 B_C_isPlace_17 18 = true := by decide +kernel
def B_C_light_0 : List IT := [(.aload_n 0, 1, oN 0 0 0, []),
  (.iload_n 1, 1, oN 1 0 0, []),
  (.invokevirtual 69, 3, oM M_C_isPlace 2 0, [40, 337, 339, 2]),
  (.ifCond .eq 15, 3, oN 20 0 0, []),
  (.iload_n 3, 1, oN 3 0 0, []),
  (.iconst 1, 1, oI 1, []),
  (.if_icmp .lt 10, 3, oN 20 0 0, []),
  (.iload_n 3, 1, oN 3 0 0, []),
  (.sipush 2000, 3, oI 2000, []),
  (.if_icmp .le 5, 3, oN 22 0 0, [])]
theorem B_C_light_0_ok : okB M_C_light 0 B_C_light_0 20 = true := by decide +kernel
def B_C_light_20 : List IT := [(.iconst 0, 1, oI 0, []),
  (.ireturn, 1, oN 0 0 0, [])]
theorem B_C_light_20_ok : okB M_C_light 20 B_C_light_20 22 = true := by decide +kernel
def B_C_light_22 : List IT := [(.iload_n 2, 1, oN 2 0 0, []),
  (.ifCond .lt 25, 3, oN 48 0 0, []),
  (.iload_n 2, 1, oN 2 0 0, []),
  (.iload_n 3, 1, oN 3 0 0, []),
  (.if_icmp .gt 20, 3, oN 48 0 0, []),
  (.aload_n 0, 1, oN 0 0 0, []),
  (.getfield 43, 3, oN 0 4 2, [288]),
  (.iload_n 1, 1, oN 1 0 0, []),
  (.iload_n 2, 1, oN 2 0 0, []),
  (.iload_n 3, 1, oN 3 0 0, []),
  (.invokevirtual 72, 3, oM M_Things_addLight 4 2, [43, 341, 342, 343]),
  (.ifCond .eq 7, 3, oN 48 0 0, []),
  (.iconst 1, 1, oI 1, []),
  (.goto 4, 3, oN 49 0 0, [])]
theorem B_C_light_22_ok : okB M_C_light 22 B_C_light_22 48 = true := by decide +kernel
def B_C_light_48 : List IT := [(.iconst 0, 1, oI 0, [])]
theorem B_C_light_48_ok : okB M_C_light 48 B_C_light_48 49 = true := by decide +kernel
def B_C_light_49 : List IT := [(.ireturn, 1, oN 0 0 0, [])]
theorem B_C_light_49_ok : okB M_C_light 49 B_C_light_49 50 = true := by decide +kernel
def B_C_line_0 : List IT := [(.aload_n 0, 1, oN 0 0 0, []),
  (.iload_n 1, 1, oN 1 0 0, []),
  (.invokevirtual 69, 3, oM M_C_isPlace 2 0, [40, 337, 339, 2]),
  (.ifCond .eq 14, 3, oN 19 0 0, []),
  (.aload_n 0, 1, oN 0 0 0, []),
  (.getfield 43, 3, oN 0 4 2, [288]),
  (.iload_n 1, 1, oN 1 0 0, []),
  (.invokevirtual 86, 3, oM M_Things_addLine 2 2, [43, 365, 366, 367]),
  (.goto 4, 3, oN 20 0 0, [])]
theorem B_C_line_0_ok : okB M_C_line 0 B_C_line_0 19 = true := by decide +kernel
def B_C_line_19 : List IT := [(.iconst (-1), 1, oI (-1), [])]
theorem B_C_line_19_ok : okB M_C_line 19 B_C_line_19 20 = true := by decide +kernel
def B_C_line_20 : List IT := [(.ireturn, 1, oN 0 0 0, [])]
theorem B_C_line_20_ok : okB M_C_line 20 B_C_line_20 21 = true := by decide +kernel
def B_C_many_0 : List IT := [(.iload_n 1, 1, oN 1 0 0, []),
  (.tableswitch 51 0 2 #[27, 35, 43], 27, oS 52 [(0, 28), (1, 36), (2, 44)], [])]
theorem B_C_many_0_ok : okB M_C_many 0 B_C_many_0 28 = true := by decide +kernel
def B_C_many_28 : List IT := [(.aload_n 0, 1, oN 0 0 0, []),
  (.getfield 48, 3, oN 0 5 2, [289]),
  (.getfield 147, 3, oN 3 5 0, [236]),
  (.ireturn, 1, oN 0 0 0, [])]
theorem B_C_many_28_ok : okB M_C_many 28 B_C_many_28 36 = true := by decide +kernel
def B_C_many_36 : List IT := [(.aload_n 0, 1, oN 0 0 0, []),
  (.getfield 48, 3, oN 0 5 2, [289]),
  (.getfield 150, 3, oN 3 6 0, [239]),
  (.ireturn, 1, oN 0 0 0, [])]
theorem B_C_many_36_ok : okB M_C_many 36 B_C_many_36 44 = true := by decide +kernel
def B_C_many_44 : List IT := [(.aload_n 0, 1, oN 0 0 0, []),
  (.getfield 48, 3, oN 0 5 2, [289]),
  (.getfield 153, 3, oN 3 7 0, [242]),
  (.ireturn, 1, oN 0 0 0, [])]
theorem B_C_many_44_ok : okB M_C_many 44 B_C_many_44 52 = true := by decide +kernel
def B_C_many_52 : List IT := [(.iconst (-1), 1, oI (-1), []),
  (.ireturn, 1, oN 0 0 0, [])]
theorem B_C_many_52_ok : okB M_C_many 52 B_C_many_52 54 = true := by decide +kernel
def B_C_ordered_0 : List IT := [(.aload_n 0, 1, oN 0 0 0, []),
  (.getfield 48, 3, oN 0 5 2, [289]),
  (.getfield 59, 3, oN 3 0 2, [225]),
  (.invokevirtual 159, 3, oM M_Cars_haveNoPlaceInCommon 1 4, [45, 542, 543, 544]),
  (.ireturn, 1, oN 0 0 0, [])]
theorem B_C_ordered_0_ok : okB M_C_ordered 0 B_C_ordered_0 11 = true := by decide +kernel
def B_C_run_0 : List IT := [(.iload_n 1, 1, oN 1 0 0, []),
  (.iconst 1, 1, oI 1, []),
  (.if_icmp .lt 10, 3, oN 12 0 0, []),
  (.iload_n 1, 1, oN 1 0 0, []),
  (.sipush 1000, 3, oI 1000, []),
  (.if_icmp .le 5, 3, oN 14 0 0, [])]
theorem B_C_run_0_ok : okB M_C_run 0 B_C_run_0 12 = true := by decide +kernel
def B_C_run_12 : List IT := [(.iconst (-1), 1, oI (-1), []),
  (.ireturn, 1, oN 0 0 0, [])]
theorem B_C_run_12_ok : okB M_C_run 12 B_C_run_12 14 = true := by decide +kernel
def B_C_run_14 : List IT := [(.iconst 0, 1, oI 0, []),
  (.istore_n 2, 1, oN 2 0 0, [])]
theorem B_C_run_14_ok : okB M_C_run 14 B_C_run_14 16 = true := by decide +kernel
def B_C_run_16 : List IT := [(.iload_n 2, 1, oN 2 0 0, []),
  (.iload_n 1, 1, oN 1 0 0, []),
  (.if_icmp .ge 26, 3, oN 44 0 0, []),
  (.aload_n 0, 1, oN 0 0 0, []),
  (.getfield 35, 3, oN 0 3 2, [287]),
  (.invokevirtual 90, 3, oM M_Road_isIdle 1 1, [42, 373, 374, 375]),
  (.ifCond .ne 16, 3, oN 44 0 0, []),
  (.aload_n 0, 1, oN 0 0 0, []),
  (.getfield 35, 3, oN 0 3 2, [287]),
  (.invokevirtual 94, 3, oM M_Road_doStep 1 1, [42, 385, 386, 387]),
  (.iinc 2 1, 3, oJ 2 1, []),
  (.goto (-25), 3, oN 16 0 0, [])]
theorem B_C_run_16_ok : okB M_C_run 16 B_C_run_16 44 = true := by decide +kernel
def B_C_run_44 : List IT := [(.aload_n 0, 1, oN 0 0 0, []),
  (.getfield 48, 3, oN 0 5 2, [289]),
  (.dup, 1, oN 0 0 0, []),
  (.getfield 97, 3, oN 3 4 0, [234]),
  (.iload_n 1, 1, oN 1 0 0, []),
  (.iload_n 2, 1, oN 2 0 0, []),
  (.isub, 1, oN 0 0 0, []),
  (.iadd, 1, oN 0 0 0, []),
  (.putfield 97, 3, oN 3 4 0, [234]),
  (.aload_n 0, 1, oN 0 0 0, []),
  (.getfield 48, 3, oN 0 5 2, [289]),
  (.getfield 97, 3, oN 3 4 0, [234]),
  (.ireturn, 1, oN 0 0 0, [])]
theorem B_C_run_44_ok : okB M_C_run 44 B_C_run_44 67 = true := by decide +kernel
def B_C_save_0 : List IT := [(.iload_n 1, 1, oN 1 0 0, []),
  (.ifCond .lt 8, 3, oN 9 0 0, []),
  (.iload_n 1, 1, oN 1 0 0, []),
  (.iconst 2, 1, oI 2, []),
  (.if_icmp .lt 5, 3, oN 11 0 0, [])]
theorem B_C_save_0_ok : okB M_C_save 0 B_C_save_0 9 = true := by decide +kernel
def B_C_save_9 : List IT := [(.iconst (-1), 1, oI (-1), []),
  (.ireturn, 1, oN 0 0 0, [])]
theorem B_C_save_9_ok : okB M_C_save 9 B_C_save_9 11 = true := by decide +kernel
def B_C_save_11 : List IT := [(.aload_n 0, 1, oN 0 0 0, []),
  (.getfield 51, 3, oN 0 6 2, [290]),
  (.iload_n 1, 1, oN 1 0 0, []),
  (.aaload, 1, oN 1 0 0, []),
  (.ifnonnull 16, 3, oN 33 0 0, []),
  (.aload_n 0, 1, oN 0 0 0, []),
  (.getfield 51, 3, oN 0 6 2, [290]),
  (.iload_n 1, 1, oN 1 0 0, []),
  (.new 49, 3, oN 3 8 0, [282, 130, 44]),
  (.dup, 1, oN 0 0 0, []),
  (.invokespecial 162, 3, oM M_State_init 1 0, [44, 9999, 132]),
  (.aastore, 1, oN 1 3 0, [])]
theorem B_C_save_11_ok : okB M_C_save 11 B_C_save_11 33 = true := by decide +kernel
def B_C_save_33 : List IT := [(.aload_n 0, 1, oN 0 0 0, []),
  (.getfield 51, 3, oN 0 6 2, [290]),
  (.iload_n 1, 1, oN 1 0 0, []),
  (.aaload, 1, oN 1 0 0, []),
  (.aload_n 0, 1, oN 0 0 0, []),
  (.getfield 48, 3, oN 0 5 2, [289]),
  (.invokevirtual 163, 3, oM M_State_copyFrom 2 3, [44, 556, 557, 558]),
  (.aload_n 0, 1, oN 0 0 0, []),
  (.getfield 48, 3, oN 0 5 2, [289]),
  (.getfield 97, 3, oN 3 4 0, [234]),
  (.ireturn, 1, oN 0 0 0, [])]
theorem B_C_save_33_ok : okB M_C_save 33 B_C_save_33 54 = true := by decide +kernel
def B_C_stop_0 : List IT := [(.aload_n 0, 1, oN 0 0 0, []),
  (.iload_n 1, 1, oN 1 0 0, []),
  (.invokevirtual 69, 3, oM M_C_isPlace 2 0, [40, 337, 339, 2]),
  (.ifCond .eq 15, 3, oN 20 0 0, []),
  (.iload_n 2, 1, oN 2 0 0, []),
  (.iconst 1, 1, oI 1, []),
  (.if_icmp .lt 10, 3, oN 20 0 0, []),
  (.iload_n 2, 1, oN 2 0 0, []),
  (.sipush 500, 3, oI 500, []),
  (.if_icmp .le 5, 3, oN 22 0 0, [])]
theorem B_C_stop_0_ok : okB M_C_stop 0 B_C_stop_0 20 = true := by decide +kernel
def B_C_stop_20 : List IT := [(.iconst 0, 1, oI 0, []),
  (.ireturn, 1, oN 0 0 0, [])]
theorem B_C_stop_20_ok : okB M_C_stop 20 B_C_stop_20 22 = true := by decide +kernel
def B_C_stop_22 : List IT := [(.aload_n 0, 1, oN 0 0 0, []),
  (.getfield 43, 3, oN 0 4 2, [288]),
  (.iload_n 1, 1, oN 1 0 0, []),
  (.iload_n 2, 1, oN 2 0 0, []),
  (.invokevirtual 82, 3, oM M_Things_addStop 3 2, [43, 357, 358, 359]),
  (.ireturn, 1, oN 0 0 0, [])]
theorem B_C_stop_22_ok : okB M_C_stop 22 B_C_stop_22 32 = true := by decide +kernel
def B_C_times_0 : List IT := [(.aload_n 0, 1, oN 0 0 0, []),
  (.getfield 48, 3, oN 0 5 2, [289]),
  (.getfield 59, 3, oN 3 0 2, [225]),
  (.invokevirtual 143, 3, oM M_Cars_stepsOfGone 1 4, [45, 521, 522, 523]),
  (.ireturn, 1, oN 0 0 0, [])]
theorem B_C_times_0_ok : okB M_C_times 0 B_C_times_0 11 = true := by decide +kernel
def B_C_told_0 : List IT := [(.aload_n 0, 1, oN 0 0 0, []),
  (.iload_n 1, 1, oN 1 0 0, []),
  (.invokevirtual 100, 3, oM M_C_isCar 2 0, [40, 499, 501, 21]),
  (.ifCond .ne 5, 3, oN 10 0 0, []),
  (.iconst (-1), 1, oI (-1), []),
  (.ireturn, 1, oN 0 0 0, [])]
theorem B_C_told_0_ok : okB M_C_told 0 B_C_told_0 10 = true := by decide +kernel
def B_C_told_10 : List IT := [(.iload_n 2, 1, oN 2 0 0, []),
  (.tableswitch 115 0 5 #[37, 50, 63, 76, 89, 102], 37, oS 126 [(0, 48), (1, 61), (2, 74), (3, 87), (4, 100), (5, 113)], [])]
theorem B_C_told_10_ok : okB M_C_told 10 B_C_told_10 48 = true := by decide +kernel
def B_C_told_48 : List IT := [(.aload_n 0, 1, oN 0 0 0, []),
  (.getfield 48, 3, oN 0 5 2, [289]),
  (.getfield 59, 3, oN 3 0 2, [225]),
  (.getfield 103, 3, oN 4 5 2, [157]),
  (.iload_n 1, 1, oN 1 0 0, []),
  (.iaload, 1, oN 0 0 0, []),
  (.ireturn, 1, oN 0 0 0, [])]
theorem B_C_told_48_ok : okB M_C_told 48 B_C_told_48 61 = true := by decide +kernel
def B_C_told_61 : List IT := [(.aload_n 0, 1, oN 0 0 0, []),
  (.getfield 48, 3, oN 0 5 2, [289]),
  (.getfield 59, 3, oN 3 0 2, [225]),
  (.getfield 107, 3, oN 4 4 2, [153]),
  (.iload_n 1, 1, oN 1 0 0, []),
  (.iaload, 1, oN 0 0 0, []),
  (.ireturn, 1, oN 0 0 0, [])]
theorem B_C_told_61_ok : okB M_C_told 61 B_C_told_61 74 = true := by decide +kernel
def B_C_told_74 : List IT := [(.aload_n 0, 1, oN 0 0 0, []),
  (.getfield 48, 3, oN 0 5 2, [289]),
  (.getfield 59, 3, oN 3 0 2, [225]),
  (.getfield 110, 3, oN 4 6 2, [161]),
  (.iload_n 1, 1, oN 1 0 0, []),
  (.iaload, 1, oN 0 0 0, []),
  (.ireturn, 1, oN 0 0 0, [])]
theorem B_C_told_74_ok : okB M_C_told 74 B_C_told_74 87 = true := by decide +kernel
def B_C_told_87 : List IT := [(.aload_n 0, 1, oN 0 0 0, []),
  (.getfield 48, 3, oN 0 5 2, [289]),
  (.getfield 59, 3, oN 3 0 2, [225]),
  (.getfield 113, 3, oN 4 7 2, [163]),
  (.iload_n 1, 1, oN 1 0 0, []),
  (.iaload, 1, oN 0 0 0, []),
  (.ireturn, 1, oN 0 0 0, [])]
theorem B_C_told_87_ok : okB M_C_told 87 B_C_told_87 100 = true := by decide +kernel
def B_C_told_100 : List IT := [(.aload_n 0, 1, oN 0 0 0, []),
  (.getfield 48, 3, oN 0 5 2, [289]),
  (.getfield 59, 3, oN 3 0 2, [225]),
  (.getfield 116, 3, oN 4 8 2, [167]),
  (.iload_n 1, 1, oN 1 0 0, []),
  (.iaload, 1, oN 0 0 0, []),
  (.ireturn, 1, oN 0 0 0, [])]
theorem B_C_told_100_ok : okB M_C_told 100 B_C_told_100 113 = true := by decide +kernel
def B_C_told_113 : List IT := [(.aload_n 0, 1, oN 0 0 0, []),
  (.getfield 48, 3, oN 0 5 2, [289]),
  (.getfield 59, 3, oN 3 0 2, [225]),
  (.getfield 119, 3, oN 4 9 2, [169]),
  (.iload_n 1, 1, oN 1 0 0, []),
  (.iaload, 1, oN 0 0 0, []),
  (.ireturn, 1, oN 0 0 0, [])]
theorem B_C_told_113_ok : okB M_C_told 113 B_C_told_113 126 = true := by decide +kernel
def B_C_told_126 : List IT := [(.iconst (-1), 1, oI (-1), []),
  (.ireturn, 1, oN 0 0 0, [])]
theorem B_C_told_126_ok : okB M_C_told 126 B_C_told_126 128 = true := by decide +kernel
def B_C_waiting_0 : List IT := [(.aload_n 0, 1, oN 0 0 0, []),
  (.iload_n 1, 1, oN 1 0 0, []),
  (.invokevirtual 55, 3, oM M_C_isLane 2 0, [40, 310, 312, 0]),
  (.ifCond .eq 17, 3, oN 22 0 0, []),
  (.aload_n 0, 1, oN 0 0 0, []),
  (.getfield 48, 3, oN 0 5 2, [289]),
  (.getfield 59, 3, oN 3 0 2, [225]),
  (.iload_n 1, 1, oN 1 0 0, []),
  (.invokevirtual 156, 3, oM M_Cars_waitersFor 2 4, [45, 533, 534, 535]),
  (.goto 4, 3, oN 23 0 0, [])]
theorem B_C_waiting_0_ok : okB M_C_waiting 0 B_C_waiting_0 22 = true := by decide +kernel
def B_C_waiting_22 : List IT := [(.iconst (-1), 1, oI (-1), [])]
theorem B_C_waiting_22_ok : okB M_C_waiting 22 B_C_waiting_22 23 = true := by decide +kernel
def B_C_waiting_23 : List IT := [(.ireturn, 1, oN 0 0 0, [])]
theorem B_C_waiting_23_ok : okB M_C_waiting 23 B_C_waiting_23 24 = true := by decide +kernel
