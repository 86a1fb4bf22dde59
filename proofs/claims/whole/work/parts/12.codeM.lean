/-! code of M, stretch by stretch (written by program) -/
def B_M_init_0 : List IT := [(.aload_n 0, 1, oN 0 0 0, []),
  (.invokespecial 1, 3, oN 0 0 1, [593, 55]),
  (.aload_n 0, 1, oN 0 0 0, []),
  (.sipush 3900, 3, oI 3900, []),
  (.newarray .int, 2, oN 0 0 0, [128]),
  (.putfield 7, 3, oN 6 3 2, [598]),
  (.aload_n 0, 1, oN 0 0 0, []),
  (.iconst 2, 1, oI 2, []),
  (.newarray .boolean, 2, oN 2 0 0, [656]),
  (.putfield 13, 3, oN 6 4 2, [599]),
  (.aload_n 0, 1, oN 0 0 0, []),
  (.iconst 4, 1, oI 4, []),
  (.newarray .int, 2, oN 0 0 0, [128]),
  (.putfield 17, 3, oN 6 6 2, [601]),
  (.aload_n 0, 1, oN 0 0 0, []),
  (.iconst 4, 1, oI 4, []),
  (.newarray .int, 2, oN 0 0 0, [128]),
  (.putfield 20, 3, oN 6 7 2, [602]),
  (.aload_n 0, 1, oN 0 0 0, []),
  (.iconst 4, 1, oI 4, []),
  (.newarray .int, 2, oN 0 0 0, [128]),
  (.putfield 23, 3, oN 6 8 2, [603]),
  (.aload_n 0, 1, oN 0 0 0, []),
  (.bipush 6, 2, oI 6, []),
  (.newarray .int, 2, oN 0 0 0, [128]),
  (.putfield 26, 3, oN 6 10 2, [605]),
  (.aload_n 0, 1, oN 0 0 0, []),
  (.bipush 6, 2, oI 6, []),
  (.newarray .int, 2, oN 0 0 0, [128]),
  (.putfield 29, 3, oN 6 11 2, [606]),
  (.aload_n 0, 1, oN 0 0 0, []),
  (.bipush 6, 2, oI 6, []),
  (.newarray .int, 2, oN 0 0 0, [128]),
  (.putfield 32, 3, oN 6 12 2, [607]),
  (.aload_n 0, 1, oN 0 0 0, []),
  (.bipush 6, 2, oI 6, []),
  (.newarray .int, 2, oN 0 0 0, [128]),
  (.putfield 35, 3, oN 6 13 2, [608]),
  (.aload_n 0, 1, oN 0 0 0, []),
  (.iconst 4, 1, oI 4, []),
  (.newarray .int, 2, oN 0 0 0, [128]),
  (.putfield 38, 3, oN 6 15 2, [610]),
  (.aload_n 0, 1, oN 0 0 0, []),
  (.iconst 4, 1, oI 4, []),
  (.newarray .int, 2, oN 0 0 0, [128]),
  (.putfield 41, 3, oN 6 16 2, [611]),
  (.aload_n 0, 1, oN 0 0 0, []),
  (.iconst 4, 1, oI 4, []),
  (.newarray .int, 2, oN 0 0 0, [128]),
  (.putfield 44, 3, oN 6 18 2, [613]),
  (.aload_n 0, 1, oN 0 0 0, []),
  (.bipush 60, 2, oI 60, []),
  (.newarray .int, 2, oN 0 0 0, [128]),
  (.putfield 47, 3, oN 6 19 2, [614]),
  (.aload_n 0, 1, oN 0 0 0, []),
  (.lload_n 1, 1, oN 1 0 0, []),
  (.putfield 50, 3, oN 6 0 1, [595]),
  (.aload_n 0, 1, oN 0 0 0, []),
  (.iload_n 3, 1, oN 3 0 0, []),
  (.iconst 1, 1, oI 1, []),
  (.if_icmp .ge 7, 3, oN 117 0 0, []),
  (.iconst 1, 1, oI 1, []),
  (.goto 13, 3, oN 127 0 0, [])]
theorem B_M_init_0_ok : okB M_M_init 0 B_M_init_0 117 = true := by decide +kernel
def B_M_init_117 : List IT := [(.iload_n 3, 1, oN 3 0 0, []),
  (.iconst 3, 1, oI 3, []),
  (.if_icmp .le 7, 3, oN 126 0 0, []),
  (.iconst 3, 1, oI 3, []),
  (.goto 4, 3, oN 127 0 0, [])]
theorem B_M_init_117_ok : okB M_M_init 117 B_M_init_117 126 = true := by decide +kernel
def B_M_init_126 : List IT := [(.iload_n 3, 1, oN 3 0 0, [])]
theorem B_M_init_126_ok : okB M_M_init 126 B_M_init_126 127 = true := by decide +kernel
def B_M_init_127 : List IT := [(.putfield 54, 3, oN 6 1 0, [596]),
  (.aload_n 0, 1, oN 0 0 0, []),
  (.iload 4, 2, oN 4 0 0, []),
  (.sipush 1000, 3, oI 1000, []),
  (.if_icmp .ge 9, 3, oN 145 0 0, []),
  (.sipush 1000, 3, oI 1000, []),
  (.goto 17, 3, oN 159 0 0, [])]
theorem B_M_init_127_ok : okB M_M_init 127 B_M_init_127 145 = true := by decide +kernel
def B_M_init_145 : List IT := [(.iload 4, 2, oN 4 0 0, []),
  (.ldc 58, 2, oI 100000, [594]),
  (.if_icmp .le 8, 3, oN 157 0 0, []),
  (.ldc 58, 2, oI 100000, [594]),
  (.goto 5, 3, oN 159 0 0, [])]
theorem B_M_init_145_ok : okB M_M_init 145 B_M_init_145 157 = true := by decide +kernel
def B_M_init_157 : List IT := [(.iload 4, 2, oN 4 0 0, [])]
theorem B_M_init_157_ok : okB M_M_init 157 B_M_init_157 159 = true := by decide +kernel
def B_M_init_159 : List IT := [(.putfield 59, 3, oN 6 2 0, [597]),
  (.return_, 1, oN 0 0 0, [])]
theorem B_M_init_159_ok : okB M_M_init 159 B_M_init_159 163 = true := by decide +kernel
def B_M_allowed_0 : List IT := [(.iload_n 0, 1, oN 0 0 0, []),
  (.sipush 200, 3, oI 200, []),
  (.if_icmp .ge 7, 3, oN 11 0 0, []),
  (.iconst 0, 1, oI 0, []),
  (.goto 11, 3, oN 19 0 0, [])]
theorem B_M_allowed_0_ok : okB M_M_allowed 0 B_M_allowed_0 11 = true := by decide +kernel
def B_M_allowed_11 : List IT := [(.iload_n 0, 1, oN 0 0 0, []),
  (.sipush 200, 3, oI 200, []),
  (.isub, 1, oN 0 0 0, []),
  (.bipush 10, 2, oI 10, []),
  (.idiv, 1, oN 0 0 0, [])]
theorem B_M_allowed_11_ok : okB M_M_allowed 11 B_M_allowed_11 19 = true := by decide +kernel
def B_M_allowed_19 : List IT := [(.ireturn, 1, oN 0 0 0, [])]
theorem B_M_allowed_19_ok : okB M_M_allowed 19 B_M_allowed_19 20 = true := by decide +kernel
def B_M_back_0 : List IT := [(.iload_n 1, 1, oN 1 0 0, []),
  (.iconst 0, 1, oI 0, []),
  (.iconst 1, 1, oI 1, []),
  (.invokestatic 66, 3, oM M_M_within 3 0, [47, 661, 662]),
  (.ifCond .eq 12, 3, oN 18 0 0, []),
  (.aload_n 0, 1, oN 0 0 0, []),
  (.getfield 13, 3, oN 6 4 2, [599]),
  (.iload_n 1, 1, oN 1 0 0, []),
  (.baload, 1, oN 0 0 0, []),
  (.ifCond .ne 5, 3, oN 20 0 0, [])]
theorem B_M_back_0_ok : okB M_M_back 0 B_M_back_0 18 = true := by decide +kernel
def B_M_back_18 : List IT := [(.iconst (-1), 1, oI (-1), []),
  (.ireturn, 1, oN 0 0 0, [])]
theorem B_M_back_18_ok : okB M_M_back 18 B_M_back_18 20 = true := by decide +kernel
def B_M_back_20 : List IT := [(.iconst 0, 1, oI 0, []),
  (.istore_n 2, 1, oN 2 0 0, [])]
theorem B_M_back_20_ok : okB M_M_back 20 B_M_back_20 22 = true := by decide +kernel
def B_M_back_22 : List IT := [(.iload_n 2, 1, oN 2 0 0, []),
  (.sipush 1300, 3, oI 1300, []),
  (.if_icmp .ge 29, 3, oN 55 0 0, []),
  (.aload_n 0, 1, oN 0 0 0, []),
  (.getfield 7, 3, oN 6 3 2, [598]),
  (.iload_n 2, 1, oN 2 0 0, []),
  (.aload_n 0, 1, oN 0 0 0, []),
  (.getfield 7, 3, oN 6 3 2, [598]),
  (.sipush 1300, 3, oI 1300, []),
  (.iload_n 1, 1, oN 1 0 0, []),
  (.iconst 1, 1, oI 1, []),
  (.iadd, 1, oN 0 0 0, []),
  (.imul, 1, oN 0 0 0, []),
  (.iload_n 2, 1, oN 2 0 0, []),
  (.iadd, 1, oN 0 0 0, []),
  (.iaload, 1, oN 0 0 0, []),
  (.iastore, 1, oN 0 0 0, []),
  (.iinc 2 1, 3, oJ 2 1, []),
  (.goto (-30), 3, oN 22 0 0, [])]
theorem B_M_back_22_ok : okB M_M_back 22 B_M_back_22 55 = true := by decide +kernel
def B_M_back_55 : List IT := [(.aload_n 0, 1, oN 0 0 0, []),
  (.invokevirtual 119, 3, oM M_M_now 1 6, [47, 721, 723, 31]),
  (.ireturn, 1, oN 0 0 0, [])]
theorem B_M_back_55_ok : okB M_M_back 55 B_M_back_55 60 = true := by decide +kernel
def B_M_before_0 : List IT := [(.iconst (-1), 1, oI (-1), []),
  (.istore_n 3, 1, oN 3 0 0, []),
  (.iconst 0, 1, oI 0, []),
  (.istore 4, 2, oN 4 0 0, [])]
theorem B_M_before_0_ok : okB M_M_before 0 B_M_before_0 5 = true := by decide +kernel
def B_M_before_5 : List IT := [(.iload 4, 2, oN 4 0 0, []),
  (.aload_n 0, 1, oN 0 0 0, []),
  (.invokevirtual 70, 3, oM M_M_cars 1 6, [47, 664, 666, 23]),
  (.if_icmp .ge 78, 3, oN 89 0 0, []),
  (.iload 4, 2, oN 4 0 0, []),
  (.iload_n 1, 1, oN 1 0 0, []),
  (.if_icmp .eq 33, 3, oN 50 0 0, []),
  (.aload_n 0, 1, oN 0 0 0, []),
  (.iload 4, 2, oN 4 0 0, []),
  (.iload_n 2, 1, oN 2 0 0, []),
  (.invokevirtual 104, 3, oM M_M_isOn 3 6, [47, 713, 715, 29]),
  (.ifCond .eq 23, 3, oN 50 0 0, []),
  (.aload_n 0, 1, oN 0 0 0, []),
  (.iload 4, 2, oN 4 0 0, []),
  (.iconst 3, 1, oI 3, []),
  (.invokevirtual 62, 3, oM M_M_of 3 6, [47, 709, 711, 28]),
  (.aload_n 0, 1, oN 0 0 0, []),
  (.iload_n 1, 1, oN 1 0 0, []),
  (.iconst 3, 1, oI 3, []),
  (.invokevirtual 62, 3, oM M_M_of 3 6, [47, 709, 711, 28]),
  (.if_icmp .le 7, 3, oN 50 0 0, []),
  (.iconst 1, 1, oI 1, []),
  (.goto 4, 3, oN 51 0 0, [])]
theorem B_M_before_5_ok : okB M_M_before 5 B_M_before_5 50 = true := by decide +kernel
def B_M_before_50 : List IT := [(.iconst 0, 1, oI 0, [])]
theorem B_M_before_50_ok : okB M_M_before 50 B_M_before_50 51 = true := by decide +kernel
def B_M_before_51 : List IT := [(.istore 5, 2, oN 5 0 0, []),
  (.iload 5, 2, oN 5 0 0, []),
  (.ifCond .eq 26, 3, oN 81 0 0, []),
  (.iload_n 3, 1, oN 3 0 0, []),
  (.ifCond .lt 17, 3, oN 76 0 0, []),
  (.aload_n 0, 1, oN 0 0 0, []),
  (.iload 4, 2, oN 4 0 0, []),
  (.invokevirtual 108, 3, oM M_M_rear 2 6, [47, 717, 719, 30]),
  (.aload_n 0, 1, oN 0 0 0, []),
  (.iload_n 3, 1, oN 3 0 0, []),
  (.invokevirtual 108, 3, oM M_M_rear 2 6, [47, 717, 719, 30]),
  (.if_icmp .ge 8, 3, oN 81 0 0, [])]
theorem B_M_before_51_ok : okB M_M_before 51 B_M_before_51 76 = true := by decide +kernel
def B_M_before_76 : List IT := [(.iload 4, 2, oN 4 0 0, []),
  (.goto 4, 3, oN 82 0 0, [])]
theorem B_M_before_76_ok : okB M_M_before 76 B_M_before_76 81 = true := by decide +kernel
def B_M_before_81 : List IT := [(.iload_n 3, 1, oN 3 0 0, [])]
theorem B_M_before_81_ok : okB M_M_before 81 B_M_before_81 82 = true := by decide +kernel
def B_M_before_82 : List IT := [(.istore_n 3, 1, oN 3 0 0, []),
  (.iinc 4 1, 3, oJ 4 1, []),
  (.goto (-81), 3, oN 5 0 0, [])]
theorem B_M_before_82_ok : okB M_M_before 82 B_M_before_82 89 = true := by decide +kernel
def B_M_before_89 : List IT := [(.iload_n 3, 1, oN 3 0 0, []),
  (.ireturn, 1, oN 0 0 0, [])]
theorem B_M_before_89_ok : okB M_M_before 89 B_M_before_89 91 = true := by decide +kernel
def B_M_cars_0 : List IT := [(.aload_n 0, 1, oN 0 0 0, []),
  (.getfield 7, 3, oN 6 3 2, [598]),
  (.iconst 0, 1, oI 0, []),
  (.iaload, 1, oN 0 0 0, []),
  (.ireturn, 1, oN 0 0 0, [])]
theorem B_M_cars_0_ok : okB M_M_cars 0 B_M_cars_0 7 = true := by decide +kernel
def B_M_change_0 : List IT := [(.aload_n 0, 1, oN 0 0 0, []),
  (.iload_n 1, 1, oN 1 0 0, []),
  (.iconst 2, 1, oI 2, []),
  (.invokevirtual 62, 3, oM M_M_of 3 6, [47, 709, 711, 28]),
  (.iconst 1, 1, oI 1, []),
  (.if_icmp .ne 20, 3, oN 27 0 0, []),
  (.aload_n 0, 1, oN 0 0 0, []),
  (.invokevirtual 119, 3, oM M_M_now 1 6, [47, 721, 723, 31]),
  (.aload_n 0, 1, oN 0 0 0, []),
  (.iload_n 1, 1, oN 1 0 0, []),
  (.bipush 7, 2, oI 7, []),
  (.invokevirtual 62, 3, oM M_M_of 3 6, [47, 709, 711, 28]),
  (.isub, 1, oN 0 0 0, []),
  (.bipush 30, 2, oI 30, []),
  (.if_icmp .gt 4, 3, oN 28 0 0, [])]
theorem B_M_change_0_ok : okB M_M_change 0 B_M_change_0 27 = true := by decide +kernel
def B_M_change_27 : List IT := [(.return_, 1, oN 0 0 0, [])]
theorem B_M_change_27_ok : okB M_M_change 27 B_M_change_27 28 = true := by decide +kernel
def B_M_change_28 : List IT := [(.aload_n 0, 1, oN 0 0 0, []),
  (.iload_n 1, 1, oN 1 0 0, []),
  (.iconst 1, 1, oI 1, []),
  (.invokevirtual 62, 3, oM M_M_of 3 6, [47, 709, 711, 28]),
  (.istore_n 2, 1, oN 2 0 0, []),
  (.aload_n 0, 1, oN 0 0 0, []),
  (.iload_n 1, 1, oN 1 0 0, []),
  (.iload_n 2, 1, oN 2 0 0, []),
  (.invokevirtual 126, 3, oM M_M_gapIn 3 6, [47, 725, 727, 32]),
  (.istore_n 3, 1, oN 3 0 0, []),
  (.iload_n 3, 1, oN 3 0 0, []),
  (.invokestatic 129, 3, oM M_M_allowed 1 0, [47, 740, 741]),
  (.aload_n 0, 1, oN 0 0 0, []),
  (.iload_n 1, 1, oN 1 0 0, []),
  (.bipush 9, 2, oI 9, []),
  (.invokevirtual 62, 3, oM M_M_of 3 6, [47, 709, 711, 28]),
  (.if_icmp .lt 4, 3, oN 57 0 0, []),
  (.return_, 1, oN 0 0 0, [])]
theorem B_M_change_28_ok : okB M_M_change 28 B_M_change_28 57 = true := by decide +kernel
def B_M_change_57 : List IT := [(.aload_n 0, 1, oN 0 0 0, []),
  (.iload_n 1, 1, oN 1 0 0, []),
  (.iload_n 2, 1, oN 2 0 0, []),
  (.iconst 1, 1, oI 1, []),
  (.isub, 1, oN 0 0 0, []),
  (.iload_n 3, 1, oN 3 0 0, []),
  (.invokevirtual 132, 3, oM M_M_mayGo 4 6, [47, 747, 749, 35]),
  (.ifCond .eq 9, 3, oN 75 0 0, []),
  (.iload_n 2, 1, oN 2 0 0, []),
  (.iconst 1, 1, oI 1, []),
  (.isub, 1, oN 0 0 0, []),
  (.goto 22, 3, oN 94 0 0, [])]
theorem B_M_change_57_ok : okB M_M_change 57 B_M_change_57 75 = true := by decide +kernel
def B_M_change_75 : List IT := [(.aload_n 0, 1, oN 0 0 0, []),
  (.iload_n 1, 1, oN 1 0 0, []),
  (.iload_n 2, 1, oN 2 0 0, []),
  (.iconst 1, 1, oI 1, []),
  (.iadd, 1, oN 0 0 0, []),
  (.iload_n 3, 1, oN 3 0 0, []),
  (.invokevirtual 132, 3, oM M_M_mayGo 4 6, [47, 747, 749, 35]),
  (.ifCond .eq 9, 3, oN 93 0 0, []),
  (.iload_n 2, 1, oN 2 0 0, []),
  (.iconst 1, 1, oI 1, []),
  (.iadd, 1, oN 0 0 0, []),
  (.goto 4, 3, oN 94 0 0, [])]
theorem B_M_change_75_ok : okB M_M_change 75 B_M_change_75 93 = true := by decide +kernel
def B_M_change_93 : List IT := [(.iload_n 2, 1, oN 2 0 0, [])]
theorem B_M_change_93_ok : okB M_M_change 93 B_M_change_93 94 = true := by decide +kernel
def B_M_change_94 : List IT := [(.istore 4, 2, oN 4 0 0, []),
  (.iload 4, 2, oN 4 0 0, []),
  (.iload_n 2, 1, oN 2 0 0, []),
  (.if_icmp .eq 32, 3, oN 131 0 0, []),
  (.aload_n 0, 1, oN 0 0 0, []),
  (.iload_n 1, 1, oN 1 0 0, []),
  (.iconst 1, 1, oI 1, []),
  (.iload 4, 2, oN 4 0 0, []),
  (.invokevirtual 74, 3, oM M_M_put 4 6, [47, 668, 670, 24]),
  (.aload_n 0, 1, oN 0 0 0, []),
  (.iload_n 1, 1, oN 1 0 0, []),
  (.bipush 7, 2, oI 7, []),
  (.aload_n 0, 1, oN 0 0 0, []),
  (.invokevirtual 119, 3, oM M_M_now 1 6, [47, 721, 723, 31]),
  (.invokevirtual 74, 3, oM M_M_put 4 6, [47, 668, 670, 24]),
  (.aload_n 0, 1, oN 0 0 0, []),
  (.getfield 7, 3, oN 6 3 2, [598]),
  (.iconst 5, 1, oI 5, []),
  (.dup2, 1, oN 0 0 0, []),
  (.iaload, 1, oN 0 0 0, []),
  (.iconst 1, 1, oI 1, []),
  (.iadd, 1, oN 0 0 0, []),
  (.iastore, 1, oN 0 0 0, [])]
theorem B_M_change_94_ok : okB M_M_change 94 B_M_change_94 131 = true := by decide +kernel
def B_M_change_131 : List IT := [(.return_, 1, oN 0 0 0, [])]
theorem B_M_change_131_ok : okB M_M_change 131 B_M_change_131 132 = true := by decide +kernel
def B_M_close_0 : List IT := [(.iload_n 1, 1, oN 1 0 0, []),
  (.iconst 0, 1, oI 0, []),
  (.aload_n 0, 1, oN 0 0 0, []),
  (.getfield 54, 3, oN 6 1 0, [596]),
  (.iconst 1, 1, oI 1, []),
  (.isub, 1, oN 0 0 0, []),
  (.invokestatic 66, 3, oM M_M_within 3 0, [47, 661, 662]),
  (.ifCond .eq 30, 3, oN 41 0 0, []),
  (.aload_n 0, 1, oN 0 0 0, []),
  (.iload_n 2, 1, oN 2 0 0, []),
  (.invokevirtual 88, 3, oM M_M_isPlace 2 6, [47, 681, 683, 25]),
  (.ifCond .eq 22, 3, oN 41 0 0, []),
  (.iload_n 3, 1, oN 3 0 0, []),
  (.ifCond .lt 18, 3, oN 41 0 0, []),
  (.iload 4, 2, oN 4 0 0, []),
  (.iload_n 3, 1, oN 3 0 0, []),
  (.if_icmp .lt 12, 3, oN 41 0 0, []),
  (.aload_n 0, 1, oN 0 0 0, []),
  (.getfield 95, 3, oN 6 9 0, [604]),
  (.bipush 6, 2, oI 6, []),
  (.if_icmp .ne 5, 3, oN 43 0 0, [])]
theorem B_M_close_0_ok : okB M_M_close 0 B_M_close_0 41 = true := by decide +kernel
def B_M_close_41 : List IT := [(.iconst 0, 1, oI 0, []),
  (.ireturn, 1, oN 0 0 0, [])]
theorem B_M_close_41_ok : okB M_M_close 41 B_M_close_41 43 = true := by decide +kernel
def B_M_close_43 : List IT := [(.aload_n 0, 1, oN 0 0 0, []),
  (.getfield 26, 3, oN 6 10 2, [605]),
  (.aload_n 0, 1, oN 0 0 0, []),
  (.getfield 95, 3, oN 6 9 0, [604]),
  (.iload_n 1, 1, oN 1 0 0, []),
  (.iastore, 1, oN 0 0 0, []),
  (.aload_n 0, 1, oN 0 0 0, []),
  (.getfield 29, 3, oN 6 11 2, [606]),
  (.aload_n 0, 1, oN 0 0 0, []),
  (.getfield 95, 3, oN 6 9 0, [604]),
  (.iload_n 2, 1, oN 2 0 0, []),
  (.iastore, 1, oN 0 0 0, []),
  (.aload_n 0, 1, oN 0 0 0, []),
  (.getfield 32, 3, oN 6 12 2, [607]),
  (.aload_n 0, 1, oN 0 0 0, []),
  (.getfield 95, 3, oN 6 9 0, [604]),
  (.iload_n 3, 1, oN 3 0 0, []),
  (.iastore, 1, oN 0 0 0, []),
  (.aload_n 0, 1, oN 0 0 0, []),
  (.getfield 35, 3, oN 6 13 2, [608]),
  (.aload_n 0, 1, oN 0 0 0, []),
  (.getfield 95, 3, oN 6 9 0, [604]),
  (.iload 4, 2, oN 4 0 0, []),
  (.iastore, 1, oN 0 0 0, []),
  (.aload_n 0, 1, oN 0 0 0, []),
  (.dup, 1, oN 0 0 0, []),
  (.getfield 95, 3, oN 6 9 0, [604]),
  (.iconst 1, 1, oI 1, []),
  (.iadd, 1, oN 0 0 0, []),
  (.putfield 95, 3, oN 6 9 0, [604]),
  (.iconst 1, 1, oI 1, []),
  (.ireturn, 1, oN 0 0 0, [])]
theorem B_M_close_43_ok : okB M_M_close 43 B_M_close_43 96 = true := by decide +kernel
def B_M_come_0 : List IT := [(.iload_n 1, 1, oN 1 0 0, []),
  (.iconst 0, 1, oI 0, []),
  (.aload_n 0, 1, oN 0 0 0, []),
  (.getfield 54, 3, oN 6 1 0, [596]),
  (.iconst 1, 1, oI 1, []),
  (.isub, 1, oN 0 0 0, []),
  (.invokestatic 66, 3, oM M_M_within 3 0, [47, 661, 662]),
  (.ifCond .eq 21, 3, oN 32 0 0, []),
  (.iload_n 2, 1, oN 2 0 0, []),
  (.iconst 0, 1, oI 0, []),
  (.iconst 1, 1, oI 1, []),
  (.invokestatic 66, 3, oM M_M_within 3 0, [47, 661, 662]),
  (.ifCond .eq 12, 3, oN 32 0 0, []),
  (.aload_n 0, 1, oN 0 0 0, []),
  (.invokevirtual 70, 3, oM M_M_cars 1 6, [47, 664, 666, 23]),
  (.bipush 60, 2, oI 60, []),
  (.if_icmp .ne 5, 3, oN 34 0 0, [])]
theorem B_M_come_0_ok : okB M_M_come 0 B_M_come_0 32 = true := by decide +kernel
def B_M_come_32 : List IT := [(.iconst (-1), 1, oI (-1), []),
  (.ireturn, 1, oN 0 0 0, [])]
theorem B_M_come_32_ok : okB M_M_come 32 B_M_come_32 34 = true := by decide +kernel
def B_M_come_34 : List IT := [(.aload_n 0, 1, oN 0 0 0, []),
  (.invokevirtual 70, 3, oM M_M_cars 1 6, [47, 664, 666, 23]),
  (.istore_n 3, 1, oN 3 0 0, []),
  (.iconst 0, 1, oI 0, []),
  (.istore 4, 2, oN 4 0 0, [])]
theorem B_M_come_34_ok : okB M_M_come 34 B_M_come_34 42 = true := by decide +kernel
def B_M_come_42 : List IT := [(.iload 4, 2, oN 4 0 0, []),
  (.bipush 20, 2, oI 20, []),
  (.if_icmp .ge 17, 3, oN 63 0 0, []),
  (.aload_n 0, 1, oN 0 0 0, []),
  (.iload_n 3, 1, oN 3 0 0, []),
  (.iload 4, 2, oN 4 0 0, []),
  (.iconst 0, 1, oI 0, []),
  (.invokevirtual 74, 3, oM M_M_put 4 6, [47, 668, 670, 24]),
  (.iinc 4 1, 3, oJ 4 1, []),
  (.goto (-18), 3, oN 42 0 0, [])]
theorem B_M_come_42_ok : okB M_M_come 42 B_M_come_42 63 = true := by decide +kernel
def B_M_come_63 : List IT := [(.aload_n 0, 1, oN 0 0 0, []),
  (.getfield 50, 3, oN 6 0 1, [595]),
  (.ldc2_w 78, 3, oL 7919, [672]),
  (.iload_n 3, 1, oN 3 0 0, []),
  (.i2l, 1, oN 0 0 0, []),
  (.lmul, 1, oN 0 0 0, []),
  (.ladd, 1, oN 0 0 0, []),
  (.ldc2_w 80, 3, oL 2147483647, [673]),
  (.land, 1, oN 0 0 0, []),
  (.lstore 4, 2, oN 4 0 0, []),
  (.iconst 0, 1, oI 0, []),
  (.istore 6, 2, oN 6 0 0, [])]
theorem B_M_come_63_ok : okB M_M_come 63 B_M_come_63 83 = true := by decide +kernel
def B_M_come_83 : List IT := [(.iload 6, 2, oN 6 0 0, []),
  (.iconst 3, 1, oI 3, []),
  (.if_icmp .ge 119, 3, oN 205 0 0, []),
  (.lload 4, 2, oN 4 0 0, []),
  (.ldc2_w 82, 3, oL 1103515245, [674]),
  (.lmul, 1, oN 0 0 0, []),
  (.ldc2_w 84, 3, oL 12345, [675]),
  (.ladd, 1, oN 0 0 0, []),
  (.ldc2_w 80, 3, oL 2147483647, [673]),
  (.land, 1, oN 0 0 0, []),
  (.lstore 4, 2, oN 4 0 0, []),
  (.lload 4, 2, oN 4 0 0, []),
  (.ldc2_w 86, 3, oL 65536, [676]),
  (.ldiv, 1, oN 0 0 0, []),
  (.l2i, 1, oN 0 0 0, []),
  (.istore 7, 2, oN 7 0 0, []),
  (.iload 6, 2, oN 6 0 0, []),
  (.ifCond .ne 33, 3, oN 149 0 0, []),
  (.aload_n 0, 1, oN 0 0 0, []),
  (.iload_n 3, 1, oN 3 0 0, []),
  (.bipush 8, 2, oI 8, []),
  (.iload_n 2, 1, oN 2 0 0, []),
  (.iconst 1, 1, oI 1, []),
  (.if_icmp .ne 9, 3, oN 134 0 0, []),
  (.sipush 1200, 3, oI 1200, []),
  (.goto 12, 3, oN 143 0 0, [])]
theorem B_M_come_83_ok : okB M_M_come 83 B_M_come_83 134 = true := by decide +kernel
def B_M_come_134 : List IT := [(.sipush 400, 3, oI 400, []),
  (.iload 7, 2, oN 7 0 0, []),
  (.bipush 121, 2, oI 121, []),
  (.irem, 1, oN 0 0 0, []),
  (.iadd, 1, oN 0 0 0, [])]
theorem B_M_come_134_ok : okB M_M_come 134 B_M_come_134 143 = true := by decide +kernel
def B_M_come_143 : List IT := [(.invokevirtual 74, 3, oM M_M_put 4 6, [47, 668, 670, 24]),
  (.goto 53, 3, oN 199 0 0, [])]
theorem B_M_come_143_ok : okB M_M_come 143 B_M_come_143 149 = true := by decide +kernel
def B_M_come_149 : List IT := [(.iload 6, 2, oN 6 0 0, []),
  (.iconst 1, 1, oI 1, []),
  (.if_icmp .ne 33, 3, oN 185 0 0, []),
  (.aload_n 0, 1, oN 0 0 0, []),
  (.iload_n 3, 1, oN 3 0 0, []),
  (.bipush 9, 2, oI 9, []),
  (.bipush 80, 2, oI 80, []),
  (.iload 7, 2, oN 7 0 0, []),
  (.bipush 120, 2, oI 120, []),
  (.irem, 1, oN 0 0 0, []),
  (.iadd, 1, oN 0 0 0, []),
  (.iload_n 2, 1, oN 2 0 0, []),
  (.iconst 1, 1, oI 1, []),
  (.if_icmp .ne 8, 3, oN 177 0 0, []),
  (.bipush 40, 2, oI 40, []),
  (.goto 4, 3, oN 178 0 0, [])]
theorem B_M_come_149_ok : okB M_M_come 149 B_M_come_149 177 = true := by decide +kernel
def B_M_come_177 : List IT := [(.iconst 0, 1, oI 0, [])]
theorem B_M_come_177_ok : okB M_M_come 177 B_M_come_177 178 = true := by decide +kernel
def B_M_come_178 : List IT := [(.isub, 1, oN 0 0 0, []),
  (.invokevirtual 74, 3, oM M_M_put 4 6, [47, 668, 670, 24]),
  (.goto 17, 3, oN 199 0 0, [])]
theorem B_M_come_178_ok : okB M_M_come 178 B_M_come_178 185 = true := by decide +kernel
def B_M_come_185 : List IT := [(.aload_n 0, 1, oN 0 0 0, []),
  (.iload_n 3, 1, oN 3 0 0, []),
  (.bipush 10, 2, oI 10, []),
  (.iconst 1, 1, oI 1, []),
  (.iload 7, 2, oN 7 0 0, []),
  (.bipush 9, 2, oI 9, []),
  (.irem, 1, oN 0 0 0, []),
  (.iadd, 1, oN 0 0 0, []),
  (.invokevirtual 74, 3, oM M_M_put 4 6, [47, 668, 670, 24])]
theorem B_M_come_185_ok : okB M_M_come 185 B_M_come_185 199 = true := by decide +kernel
def B_M_come_199 : List IT := [(.iinc 6 1, 3, oJ 6 1, []),
  (.goto (-119), 3, oN 83 0 0, [])]
theorem B_M_come_199_ok : okB M_M_come 199 B_M_come_199 205 = true := by decide +kernel
def B_M_come_205 : List IT := [(.aload_n 0, 1, oN 0 0 0, []),
  (.iload_n 3, 1, oN 3 0 0, []),
  (.iconst 0, 1, oI 0, []),
  (.iload_n 2, 1, oN 2 0 0, []),
  (.invokevirtual 74, 3, oM M_M_put 4 6, [47, 668, 670, 24]),
  (.aload_n 0, 1, oN 0 0 0, []),
  (.iload_n 3, 1, oN 3 0 0, []),
  (.iconst 1, 1, oI 1, []),
  (.iload_n 1, 1, oN 1 0 0, []),
  (.invokevirtual 74, 3, oM M_M_put 4 6, [47, 668, 670, 24]),
  (.aload_n 0, 1, oN 0 0 0, []),
  (.iload_n 3, 1, oN 3 0 0, []),
  (.iconst 5, 1, oI 5, []),
  (.iconst (-1), 1, oI (-1), []),
  (.invokevirtual 74, 3, oM M_M_put 4 6, [47, 668, 670, 24]),
  (.aload_n 0, 1, oN 0 0 0, []),
  (.iload_n 3, 1, oN 3 0 0, []),
  (.bipush 6, 2, oI 6, []),
  (.iconst (-1), 1, oI (-1), []),
  (.invokevirtual 74, 3, oM M_M_put 4 6, [47, 668, 670, 24]),
  (.aload_n 0, 1, oN 0 0 0, []),
  (.getfield 7, 3, oN 6 3 2, [598]),
  (.iconst 0, 1, oI 0, []),
  (.dup2, 1, oN 0 0 0, []),
  (.iaload, 1, oN 0 0 0, []),
  (.iconst 1, 1, oI 1, []),
  (.iadd, 1, oN 0 0 0, []),
  (.iastore, 1, oN 0 0 0, []),
  (.iload_n 3, 1, oN 3 0 0, []),
  (.ireturn, 1, oN 0 0 0, [])]
theorem B_M_come_205_ok : okB M_M_come 205 B_M_come_205 246 = true := by decide +kernel
def B_M_count_0 : List IT := [(.iconst 0, 1, oI 0, []),
  (.istore_n 2, 1, oN 2 0 0, []),
  (.iload_n 1, 1, oN 1 0 0, []),
  (.tableswitch 129 0 9 #[53, 58, 58, 94, 99, 104, 109, 114, 119, 124], 53, oS 132 [(0, 56), (1, 61), (2, 61), (3, 97), (4, 102), (5, 107), (6, 112), (7, 117), (8, 122), (9, 127)], [])]
theorem B_M_count_0_ok : okB M_M_count 0 B_M_count_0 56 = true := by decide +kernel
def B_M_count_56 : List IT := [(.aload_n 0, 1, oN 0 0 0, []),
  (.invokevirtual 70, 3, oM M_M_cars 1 6, [47, 664, 666, 23]),
  (.ireturn, 1, oN 0 0 0, [])]
theorem B_M_count_56_ok : okB M_M_count 56 B_M_count_56 61 = true := by decide +kernel
def B_M_count_61 : List IT := [(.iconst 0, 1, oI 0, []),
  (.istore_n 3, 1, oN 3 0 0, [])]
theorem B_M_count_61_ok : okB M_M_count 61 B_M_count_61 63 = true := by decide +kernel
def B_M_count_63 : List IT := [(.iload_n 3, 1, oN 3 0 0, []),
  (.aload_n 0, 1, oN 0 0 0, []),
  (.invokevirtual 70, 3, oM M_M_cars 1 6, [47, 664, 666, 23]),
  (.if_icmp .ge 27, 3, oN 95 0 0, []),
  (.iload_n 2, 1, oN 2 0 0, []),
  (.aload_n 0, 1, oN 0 0 0, []),
  (.iload_n 3, 1, oN 3 0 0, []),
  (.iconst 2, 1, oI 2, []),
  (.invokevirtual 62, 3, oM M_M_of 3 6, [47, 709, 711, 28]),
  (.iload_n 1, 1, oN 1 0 0, []),
  (.if_icmp .ne 7, 3, oN 86 0 0, []),
  (.iconst 1, 1, oI 1, []),
  (.goto 4, 3, oN 87 0 0, [])]
theorem B_M_count_63_ok : okB M_M_count 63 B_M_count_63 86 = true := by decide +kernel
def B_M_count_86 : List IT := [(.iconst 0, 1, oI 0, [])]
theorem B_M_count_86_ok : okB M_M_count 86 B_M_count_86 87 = true := by decide +kernel
def B_M_count_87 : List IT := [(.iadd, 1, oN 0 0 0, []),
  (.istore_n 2, 1, oN 2 0 0, []),
  (.iinc 3 1, 3, oJ 3 1, []),
  (.goto (-29), 3, oN 63 0 0, [])]
theorem B_M_count_87_ok : okB M_M_count 87 B_M_count_87 95 = true := by decide +kernel
def B_M_count_95 : List IT := [(.iload_n 2, 1, oN 2 0 0, []),
  (.ireturn, 1, oN 0 0 0, [])]
theorem B_M_count_95_ok : okB M_M_count 95 B_M_count_95 97 = true := by decide +kernel
def B_M_count_97 : List IT := [(.aload_n 0, 1, oN 0 0 0, []),
  (.invokevirtual 119, 3, oM M_M_now 1 6, [47, 721, 723, 31]),
  (.ireturn, 1, oN 0 0 0, [])]
theorem B_M_count_97_ok : okB M_M_count 97 B_M_count_97 102 = true := by decide +kernel
def B_M_count_102 : List IT := [(.aload_n 0, 1, oN 0 0 0, []),
  (.getfield 92, 3, oN 6 5 0, [600]),
  (.ireturn, 1, oN 0 0 0, [])]
theorem B_M_count_102_ok : okB M_M_count 102 B_M_count_102 107 = true := by decide +kernel
def B_M_count_107 : List IT := [(.aload_n 0, 1, oN 0 0 0, []),
  (.getfield 95, 3, oN 6 9 0, [604]),
  (.ireturn, 1, oN 0 0 0, [])]
theorem B_M_count_107_ok : okB M_M_count 107 B_M_count_107 112 = true := by decide +kernel
def B_M_count_112 : List IT := [(.aload_n 0, 1, oN 0 0 0, []),
  (.getfield 98, 3, oN 6 14 0, [609]),
  (.ireturn, 1, oN 0 0 0, [])]
theorem B_M_count_112_ok : okB M_M_count 112 B_M_count_112 117 = true := by decide +kernel
def B_M_count_117 : List IT := [(.aload_n 0, 1, oN 0 0 0, []),
  (.getfield 101, 3, oN 6 17 0, [612]),
  (.ireturn, 1, oN 0 0 0, [])]
theorem B_M_count_117_ok : okB M_M_count 117 B_M_count_117 122 = true := by decide +kernel
def B_M_count_122 : List IT := [(.aload_n 0, 1, oN 0 0 0, []),
  (.getfield 54, 3, oN 6 1 0, [596]),
  (.ireturn, 1, oN 0 0 0, [])]
theorem B_M_count_122_ok : okB M_M_count 122 B_M_count_122 127 = true := by decide +kernel
def B_M_count_127 : List IT := [(.aload_n 0, 1, oN 0 0 0, []),
  (.getfield 59, 3, oN 6 2 0, [597]),
  (.ireturn, 1, oN 0 0 0, [])]
theorem B_M_count_127_ok : okB M_M_count 127 B_M_count_127 132 = true := by decide +kernel
def B_M_count_132 : List IT := [(.iconst (-1), 1, oI (-1), []),
  (.ireturn, 1, oN 0 0 0, [])]
theorem B_M_count_132_ok : okB M_M_count 132 B_M_count_132 134 = true := by decide +kernel
def B_M_counted_0 : List IT := [(.iload_n 1, 1, oN 1 0 0, []),
  (.iconst 0, 1, oI 0, []),
  (.aload_n 0, 1, oN 0 0 0, []),
  (.getfield 101, 3, oN 6 17 0, [612]),
  (.iconst 1, 1, oI 1, []),
  (.isub, 1, oN 0 0 0, []),
  (.invokestatic 66, 3, oM M_M_within 3 0, [47, 661, 662]),
  (.ifCond .eq 33, 3, oN 44 0 0, []),
  (.iload_n 2, 1, oN 2 0 0, []),
  (.iconst 0, 1, oI 0, []),
  (.aload_n 0, 1, oN 0 0 0, []),
  (.getfield 54, 3, oN 6 1 0, [596]),
  (.iconst 1, 1, oI 1, []),
  (.isub, 1, oN 0 0 0, []),
  (.invokestatic 66, 3, oM M_M_within 3 0, [47, 661, 662]),
  (.ifCond .eq 19, 3, oN 44 0 0, []),
  (.aload_n 0, 1, oN 0 0 0, []),
  (.getfield 7, 3, oN 6 3 2, [598]),
  (.bipush 6, 2, oI 6, []),
  (.iconst 3, 1, oI 3, []),
  (.iload_n 1, 1, oN 1 0 0, []),
  (.imul, 1, oN 0 0 0, []),
  (.iadd, 1, oN 0 0 0, []),
  (.iload_n 2, 1, oN 2 0 0, []),
  (.iadd, 1, oN 0 0 0, []),
  (.iaload, 1, oN 0 0 0, []),
  (.goto 4, 3, oN 45 0 0, [])]
theorem B_M_counted_0_ok : okB M_M_counted 0 B_M_counted_0 44 = true := by decide +kernel
def B_M_counted_44 : List IT := [(.iconst (-1), 1, oI (-1), [])]
theorem B_M_counted_44_ok : okB M_M_counted 44 B_M_counted_44 45 = true := by decide +kernel
def B_M_counted_45 : List IT := [(.ireturn, 1, oN 0 0 0, [])]
theorem B_M_counted_45_ok : okB M_M_counted 45 B_M_counted_45 46 = true := by decide +kernel
def B_M_drawn_0 : List IT := [(.aload_n 0, 1, oN 0 0 0, []),
  (.iload_n 1, 1, oN 1 0 0, []),
  (.invokevirtual 151, 3, oM M_M_isCar 2 6, [47, 763, 765, 38]),
  (.ifCond .eq 24, 3, oN 29 0 0, []),
  (.iload_n 2, 1, oN 2 0 0, []),
  (.iconst 0, 1, oI 0, []),
  (.iconst 2, 1, oI 2, []),
  (.invokestatic 66, 3, oM M_M_within 3 0, [47, 661, 662]),
  (.ifCond .eq 15, 3, oN 29 0 0, []),
  (.aload_n 0, 1, oN 0 0 0, []),
  (.iload_n 1, 1, oN 1 0 0, []),
  (.bipush 8, 2, oI 8, []),
  (.iload_n 2, 1, oN 2 0 0, []),
  (.iadd, 1, oN 0 0 0, []),
  (.invokevirtual 62, 3, oM M_M_of 3 6, [47, 709, 711, 28]),
  (.goto 4, 3, oN 30 0 0, [])]
theorem B_M_drawn_0_ok : okB M_M_drawn 0 B_M_drawn_0 29 = true := by decide +kernel
def B_M_drawn_29 : List IT := [(.iconst (-1), 1, oI (-1), [])]
theorem B_M_drawn_29_ok : okB M_M_drawn 29 B_M_drawn_29 30 = true := by decide +kernel
def B_M_drawn_30 : List IT := [(.ireturn, 1, oN 0 0 0, [])]
theorem B_M_drawn_30_ok : okB M_M_drawn 30 B_M_drawn_30 31 = true := by decide +kernel
def B_M_enter_0 : List IT := [(.iconst 0, 1, oI 0, []),
  (.istore_n 2, 1, oN 2 0 0, [])]
theorem B_M_enter_0_ok : okB M_M_enter 0 B_M_enter_0 2 = true := by decide +kernel
def B_M_enter_2 : List IT := [(.iload_n 2, 1, oN 2 0 0, []),
  (.aload_n 0, 1, oN 0 0 0, []),
  (.invokevirtual 70, 3, oM M_M_cars 1 6, [47, 664, 666, 23]),
  (.if_icmp .ge 28, 3, oN 35 0 0, []),
  (.aload_n 0, 1, oN 0 0 0, []),
  (.iload_n 2, 1, oN 2 0 0, []),
  (.iconst 2, 1, oI 2, []),
  (.invokevirtual 62, 3, oM M_M_of 3 6, [47, 709, 711, 28]),
  (.ifCond .ne 13, 3, oN 29 0 0, []),
  (.aload_n 0, 1, oN 0 0 0, []),
  (.iload_n 2, 1, oN 2 0 0, []),
  (.iconst 1, 1, oI 1, []),
  (.invokevirtual 62, 3, oM M_M_of 3 6, [47, 709, 711, 28]),
  (.iload_n 1, 1, oN 1 0 0, []),
  (.if_icmp .eq 9, 3, oN 35 0 0, [])]
theorem B_M_enter_2_ok : okB M_M_enter 2 B_M_enter_2 29 = true := by decide +kernel
def B_M_enter_29 : List IT := [(.iinc 2 1, 3, oJ 2 1, []),
  (.goto (-30), 3, oN 2 0 0, [])]
theorem B_M_enter_29_ok : okB M_M_enter 29 B_M_enter_29 35 = true := by decide +kernel
def B_M_enter_35 : List IT := [(.iload_n 2, 1, oN 2 0 0, []),
  (.aload_n 0, 1, oN 0 0 0, []),
  (.invokevirtual 70, 3, oM M_M_cars 1 6, [47, 664, 666, 23]),
  (.if_icmp .ne 4, 3, oN 44 0 0, []),
  (.return_, 1, oN 0 0 0, [])]
theorem B_M_enter_35_ok : okB M_M_enter 35 B_M_enter_35 44 = true := by decide +kernel
def B_M_enter_44 : List IT := [(.iconst 0, 1, oI 0, []),
  (.istore_n 3, 1, oN 3 0 0, [])]
theorem B_M_enter_44_ok : okB M_M_enter 44 B_M_enter_44 46 = true := by decide +kernel
def B_M_enter_46 : List IT := [(.iload_n 3, 1, oN 3 0 0, []),
  (.aload_n 0, 1, oN 0 0 0, []),
  (.invokevirtual 70, 3, oM M_M_cars 1 6, [47, 664, 666, 23]),
  (.if_icmp .ge 38, 3, oN 89 0 0, []),
  (.aload_n 0, 1, oN 0 0 0, []),
  (.iload_n 3, 1, oN 3 0 0, []),
  (.iload_n 1, 1, oN 1 0 0, []),
  (.invokevirtual 104, 3, oM M_M_isOn 3 6, [47, 713, 715, 29]),
  (.ifCond .eq 23, 3, oN 83 0 0, []),
  (.aload_n 0, 1, oN 0 0 0, []),
  (.iload_n 3, 1, oN 3 0 0, []),
  (.invokevirtual 108, 3, oM M_M_rear 2 6, [47, 717, 719, 30]),
  (.aload_n 0, 1, oN 0 0 0, []),
  (.iload_n 2, 1, oN 2 0 0, []),
  (.bipush 8, 2, oI 8, []),
  (.invokevirtual 62, 3, oM M_M_of 3 6, [47, 709, 711, 28]),
  (.sipush 200, 3, oI 200, []),
  (.iadd, 1, oN 0 0 0, []),
  (.if_icmp .ge 4, 3, oN 83 0 0, []),
  (.return_, 1, oN 0 0 0, [])]
theorem B_M_enter_46_ok : okB M_M_enter 46 B_M_enter_46 83 = true := by decide +kernel
def B_M_enter_83 : List IT := [(.iinc 3 1, 3, oJ 3 1, []),
  (.goto (-40), 3, oN 46 0 0, [])]
theorem B_M_enter_83_ok : okB M_M_enter 83 B_M_enter_83 89 = true := by decide +kernel
def B_M_enter_89 : List IT := [(.aload_n 0, 1, oN 0 0 0, []),
  (.iload_n 2, 1, oN 2 0 0, []),
  (.iconst 2, 1, oI 2, []),
  (.iconst 1, 1, oI 1, []),
  (.invokevirtual 74, 3, oM M_M_put 4 6, [47, 668, 670, 24]),
  (.aload_n 0, 1, oN 0 0 0, []),
  (.iload_n 2, 1, oN 2 0 0, []),
  (.iconst 3, 1, oI 3, []),
  (.aload_n 0, 1, oN 0 0 0, []),
  (.iload_n 2, 1, oN 2 0 0, []),
  (.bipush 8, 2, oI 8, []),
  (.invokevirtual 62, 3, oM M_M_of 3 6, [47, 709, 711, 28]),
  (.invokevirtual 74, 3, oM M_M_put 4 6, [47, 668, 670, 24]),
  (.aload_n 0, 1, oN 0 0 0, []),
  (.iload_n 2, 1, oN 2 0 0, []),
  (.iconst 5, 1, oI 5, []),
  (.aload_n 0, 1, oN 0 0 0, []),
  (.invokevirtual 119, 3, oM M_M_now 1 6, [47, 721, 723, 31]),
  (.invokevirtual 74, 3, oM M_M_put 4 6, [47, 668, 670, 24]),
  (.aload_n 0, 1, oN 0 0 0, []),
  (.iload_n 2, 1, oN 2 0 0, []),
  (.bipush 7, 2, oI 7, []),
  (.aload_n 0, 1, oN 0 0 0, []),
  (.invokevirtual 119, 3, oM M_M_now 1 6, [47, 721, 723, 31]),
  (.invokevirtual 74, 3, oM M_M_put 4 6, [47, 668, 670, 24]),
  (.aload_n 0, 1, oN 0 0 0, []),
  (.iload_n 2, 1, oN 2 0 0, []),
  (.iconst 4, 1, oI 4, []),
  (.aload_n 0, 1, oN 0 0 0, []),
  (.iload_n 2, 1, oN 2 0 0, []),
  (.bipush 9, 2, oI 9, []),
  (.invokevirtual 62, 3, oM M_M_of 3 6, [47, 709, 711, 28]),
  (.aload_n 0, 1, oN 0 0 0, []),
  (.iload_n 2, 1, oN 2 0 0, []),
  (.iload_n 1, 1, oN 1 0 0, []),
  (.invokevirtual 126, 3, oM M_M_gapIn 3 6, [47, 725, 727, 32]),
  (.invokestatic 129, 3, oM M_M_allowed 1 0, [47, 740, 741]),
  (.invokestatic 112, 3, oM M_M_lesser 2 0, [47, 737, 738]),
  (.invokevirtual 74, 3, oM M_M_put 4 6, [47, 668, 670, 24]),
  (.return_, 1, oN 0 0 0, [])]
theorem B_M_enter_89_ok : okB M_M_enter 89 B_M_enter_89 156 = true := by decide +kernel
def B_M_gap_0 : List IT := [(.aload_n 0, 1, oN 0 0 0, []),
  (.iload_n 1, 1, oN 1 0 0, []),
  (.invokevirtual 151, 3, oM M_M_isCar 2 6, [47, 763, 765, 38]),
  (.ifCond .eq 27, 3, oN 32 0 0, []),
  (.aload_n 0, 1, oN 0 0 0, []),
  (.iload_n 1, 1, oN 1 0 0, []),
  (.iconst 2, 1, oI 2, []),
  (.invokevirtual 62, 3, oM M_M_of 3 6, [47, 709, 711, 28]),
  (.iconst 1, 1, oI 1, []),
  (.if_icmp .ne 17, 3, oN 32 0 0, []),
  (.aload_n 0, 1, oN 0 0 0, []),
  (.iload_n 1, 1, oN 1 0 0, []),
  (.aload_n 0, 1, oN 0 0 0, []),
  (.iload_n 1, 1, oN 1 0 0, []),
  (.iconst 1, 1, oI 1, []),
  (.invokevirtual 62, 3, oM M_M_of 3 6, [47, 709, 711, 28]),
  (.invokevirtual 126, 3, oM M_M_gapIn 3 6, [47, 725, 727, 32]),
  (.goto 4, 3, oN 33 0 0, [])]
theorem B_M_gap_0_ok : okB M_M_gap 0 B_M_gap_0 32 = true := by decide +kernel
def B_M_gap_32 : List IT := [(.iconst (-1), 1, oI (-1), [])]
theorem B_M_gap_32_ok : okB M_M_gap 32 B_M_gap_32 33 = true := by decide +kernel
def B_M_gap_33 : List IT := [(.ireturn, 1, oN 0 0 0, [])]
theorem B_M_gap_33_ok : okB M_M_gap 33 B_M_gap_33 34 = true := by decide +kernel
def B_M_gapIn_0 : List IT := [(.aload_n 0, 1, oN 0 0 0, []),
  (.iload_n 1, 1, oN 1 0 0, []),
  (.iconst 3, 1, oI 3, []),
  (.invokevirtual 62, 3, oM M_M_of 3 6, [47, 709, 711, 28]),
  (.istore_n 3, 1, oN 3 0 0, []),
  (.aload_n 0, 1, oN 0 0 0, []),
  (.iload_n 1, 1, oN 1 0 0, []),
  (.iload_n 2, 1, oN 2 0 0, []),
  (.invokevirtual 115, 3, oM M_M_before 3 6, [47, 729, 731, 33]),
  (.istore 4, 2, oN 4 0 0, []),
  (.iload 4, 2, oN 4 0 0, []),
  (.ifCond .ge 8, 3, oN 25 0 0, []),
  (.ldc 118, 2, oI 1000000, [733]),
  (.goto 11, 3, oN 33 0 0, [])]
theorem B_M_gapIn_0_ok : okB M_M_gapIn 0 B_M_gapIn_0 25 = true := by decide +kernel
def B_M_gapIn_25 : List IT := [(.aload_n 0, 1, oN 0 0 0, []),
  (.iload 4, 2, oN 4 0 0, []),
  (.invokevirtual 108, 3, oM M_M_rear 2 6, [47, 717, 719, 30]),
  (.iload_n 3, 1, oN 3 0 0, []),
  (.isub, 1, oN 0 0 0, [])]
theorem B_M_gapIn_25_ok : okB M_M_gapIn 25 B_M_gapIn_25 33 = true := by decide +kernel
def B_M_gapIn_33 : List IT := [(.istore 5, 2, oN 5 0 0, []),
  (.iconst 0, 1, oI 0, []),
  (.istore 6, 2, oN 6 0 0, [])]
theorem B_M_gapIn_33_ok : okB M_M_gapIn 33 B_M_gapIn_33 38 = true := by decide +kernel
def B_M_gapIn_38 : List IT := [(.iload 6, 2, oN 6 0 0, []),
  (.aload_n 0, 1, oN 0 0 0, []),
  (.getfield 92, 3, oN 6 5 0, [600]),
  (.if_icmp .ge 51, 3, oN 95 0 0, []),
  (.iload 5, 2, oN 5 0 0, []),
  (.iload_n 3, 1, oN 3 0 0, []),
  (.aload_n 0, 1, oN 0 0 0, []),
  (.getfield 17, 3, oN 6 6 2, [601]),
  (.iload 6, 2, oN 6 0 0, []),
  (.iaload, 1, oN 0 0 0, []),
  (.aload_n 0, 1, oN 0 0 0, []),
  (.invokevirtual 119, 3, oM M_M_now 1 6, [47, 721, 723, 31]),
  (.aload_n 0, 1, oN 0 0 0, []),
  (.getfield 23, 3, oN 6 8 2, [603]),
  (.iload 6, 2, oN 6 0 0, []),
  (.iaload, 1, oN 0 0 0, []),
  (.irem, 1, oN 0 0 0, []),
  (.aload_n 0, 1, oN 0 0 0, []),
  (.getfield 20, 3, oN 6 7 2, [602]),
  (.iload 6, 2, oN 6 0 0, []),
  (.iaload, 1, oN 0 0 0, []),
  (.if_icmp .ge 7, 3, oN 83 0 0, []),
  (.iconst 1, 1, oI 1, []),
  (.goto 4, 3, oN 84 0 0, [])]
theorem B_M_gapIn_38_ok : okB M_M_gapIn 38 B_M_gapIn_38 83 = true := by decide +kernel
def B_M_gapIn_83 : List IT := [(.iconst 0, 1, oI 0, [])]
theorem B_M_gapIn_83_ok : okB M_M_gapIn 83 B_M_gapIn_83 84 = true := by decide +kernel
def B_M_gapIn_84 : List IT := [(.invokestatic 122, 3, oM M_M_nearer 4 0, [47, 734, 735]),
  (.istore 5, 2, oN 5 0 0, []),
  (.iinc 6 1, 3, oJ 6 1, []),
  (.goto (-54), 3, oN 38 0 0, [])]
theorem B_M_gapIn_84_ok : okB M_M_gapIn 84 B_M_gapIn_84 95 = true := by decide +kernel
def B_M_gapIn_95 : List IT := [(.iconst 0, 1, oI 0, []),
  (.istore 6, 2, oN 6 0 0, [])]
theorem B_M_gapIn_95_ok : okB M_M_gapIn 95 B_M_gapIn_95 98 = true := by decide +kernel
def B_M_gapIn_98 : List IT := [(.iload 6, 2, oN 6 0 0, []),
  (.aload_n 0, 1, oN 0 0 0, []),
  (.getfield 95, 3, oN 6 9 0, [604]),
  (.if_icmp .ge 68, 3, oN 172 0 0, []),
  (.iload 5, 2, oN 5 0 0, []),
  (.iload_n 3, 1, oN 3 0 0, []),
  (.aload_n 0, 1, oN 0 0 0, []),
  (.getfield 29, 3, oN 6 11 2, [606]),
  (.iload 6, 2, oN 6 0 0, []),
  (.iaload, 1, oN 0 0 0, []),
  (.aload_n 0, 1, oN 0 0 0, []),
  (.getfield 26, 3, oN 6 10 2, [605]),
  (.iload 6, 2, oN 6 0 0, []),
  (.iaload, 1, oN 0 0 0, []),
  (.iload_n 2, 1, oN 2 0 0, []),
  (.if_icmp .ne 35, 3, oN 160 0 0, []),
  (.aload_n 0, 1, oN 0 0 0, []),
  (.invokevirtual 119, 3, oM M_M_now 1 6, [47, 721, 723, 31]),
  (.aload_n 0, 1, oN 0 0 0, []),
  (.getfield 32, 3, oN 6 12 2, [607]),
  (.iload 6, 2, oN 6 0 0, []),
  (.iaload, 1, oN 0 0 0, []),
  (.if_icmp .lt 21, 3, oN 160 0 0, []),
  (.aload_n 0, 1, oN 0 0 0, []),
  (.invokevirtual 119, 3, oM M_M_now 1 6, [47, 721, 723, 31]),
  (.aload_n 0, 1, oN 0 0 0, []),
  (.getfield 35, 3, oN 6 13 2, [608]),
  (.iload 6, 2, oN 6 0 0, []),
  (.iaload, 1, oN 0 0 0, []),
  (.if_icmp .ge 7, 3, oN 160 0 0, []),
  (.iconst 1, 1, oI 1, []),
  (.goto 4, 3, oN 161 0 0, [])]
theorem B_M_gapIn_98_ok : okB M_M_gapIn 98 B_M_gapIn_98 160 = true := by decide +kernel
def B_M_gapIn_160 : List IT := [(.iconst 0, 1, oI 0, [])]
theorem B_M_gapIn_160_ok : okB M_M_gapIn 160 B_M_gapIn_160 161 = true := by decide +kernel
def B_M_gapIn_161 : List IT := [(.invokestatic 122, 3, oM M_M_nearer 4 0, [47, 734, 735]),
  (.istore 5, 2, oN 5 0 0, []),
  (.iinc 6 1, 3, oJ 6 1, []),
  (.goto (-71), 3, oN 98 0 0, [])]
theorem B_M_gapIn_161_ok : okB M_M_gapIn 161 B_M_gapIn_161 172 = true := by decide +kernel
def B_M_gapIn_172 : List IT := [(.iconst 0, 1, oI 0, []),
  (.istore 6, 2, oN 6 0 0, [])]
theorem B_M_gapIn_172_ok : okB M_M_gapIn 172 B_M_gapIn_172 175 = true := by decide +kernel
def B_M_gapIn_175 : List IT := [(.iload 6, 2, oN 6 0 0, []),
  (.aload_n 0, 1, oN 0 0 0, []),
  (.getfield 98, 3, oN 6 14 0, [609]),
  (.if_icmp .ge 59, 3, oN 240 0 0, []),
  (.iload 5, 2, oN 5 0 0, []),
  (.iload_n 3, 1, oN 3 0 0, []),
  (.aload_n 0, 1, oN 0 0 0, []),
  (.getfield 38, 3, oN 6 15 2, [610]),
  (.iload 6, 2, oN 6 0 0, []),
  (.iaload, 1, oN 0 0 0, []),
  (.aload_n 0, 1, oN 0 0 0, []),
  (.iload_n 1, 1, oN 1 0 0, []),
  (.iconst 0, 1, oI 0, []),
  (.invokevirtual 62, 3, oM M_M_of 3 6, [47, 709, 711, 28]),
  (.iconst 1, 1, oI 1, []),
  (.if_icmp .ne 27, 3, oN 228 0 0, []),
  (.aload_n 0, 1, oN 0 0 0, []),
  (.iload_n 1, 1, oN 1 0 0, []),
  (.bipush 11, 2, oI 11, []),
  (.iload 6, 2, oN 6 0 0, []),
  (.iadd, 1, oN 0 0 0, []),
  (.invokevirtual 62, 3, oM M_M_of 3 6, [47, 709, 711, 28]),
  (.aload_n 0, 1, oN 0 0 0, []),
  (.getfield 41, 3, oN 6 16 2, [611]),
  (.iload 6, 2, oN 6 0 0, []),
  (.iaload, 1, oN 0 0 0, []),
  (.if_icmp .ge 7, 3, oN 228 0 0, []),
  (.iconst 1, 1, oI 1, []),
  (.goto 4, 3, oN 229 0 0, [])]
theorem B_M_gapIn_175_ok : okB M_M_gapIn 175 B_M_gapIn_175 228 = true := by decide +kernel
def B_M_gapIn_228 : List IT := [(.iconst 0, 1, oI 0, [])]
theorem B_M_gapIn_228_ok : okB M_M_gapIn 228 B_M_gapIn_228 229 = true := by decide +kernel
def B_M_gapIn_229 : List IT := [(.invokestatic 122, 3, oM M_M_nearer 4 0, [47, 734, 735]),
  (.istore 5, 2, oN 5 0 0, []),
  (.iinc 6 1, 3, oJ 6 1, []),
  (.goto (-62), 3, oN 175 0 0, [])]
theorem B_M_gapIn_229_ok : okB M_M_gapIn 229 B_M_gapIn_229 240 = true := by decide +kernel
def B_M_gapIn_240 : List IT := [(.iload 5, 2, oN 5 0 0, []),
  (.ireturn, 1, oN 0 0 0, [])]
theorem B_M_gapIn_240_ok : okB M_M_gapIn 240 B_M_gapIn_240 243 = true := by decide +kernel
def B_M_isCar_0 : List IT := [(.iload_n 1, 1, oN 1 0 0, []),
  (.ifCond .lt 15, 3, oN 16 0 0, []),
  (.iload_n 1, 1, oN 1 0 0, []),
  (.aload_n 0, 1, oN 0 0 0, []),
  (.invokevirtual 70, 3, oM M_M_cars 1 6, [47, 664, 666, 23]),
  (.if_icmp .ge 7, 3, oN 16 0 0, []),
  (.iconst 1, 1, oI 1, []),
  (.goto 4, 3, oN 17 0 0, [])]
theorem B_M_isCar_0_ok : okB M_M_isCar 0 B_M_isCar_0 16 = true := by decide +kernel
def B_M_isCar_16 : List IT := [(.iconst 0, 1, oI 0, [])]
theorem B_M_isCar_16_ok : okB M_M_isCar 16 B_M_isCar_16 17 = true := by decide +kernel
def B_M_isCar_17 : List IT := [(.ireturn, 1, oN 0 0 0, [])]
theorem B_M_isCar_17_ok : okB M_M_isCar 17 B_M_isCar_17 18 = true := by decide +kernel
def B_M_isOn_0 : List IT := [(.aload_n 0, 1, oN 0 0 0, []),
  (.iload_n 1, 1, oN 1 0 0, []),
  (.iconst 2, 1, oI 2, []),
  (.invokevirtual 62, 3, oM M_M_of 3 6, [47, 709, 711, 28]),
  (.iconst 1, 1, oI 1, []),
  (.if_icmp .ne 17, 3, oN 24 0 0, []),
  (.aload_n 0, 1, oN 0 0 0, []),
  (.iload_n 1, 1, oN 1 0 0, []),
  (.iconst 1, 1, oI 1, []),
  (.invokevirtual 62, 3, oM M_M_of 3 6, [47, 709, 711, 28]),
  (.iload_n 2, 1, oN 2 0 0, []),
  (.if_icmp .ne 7, 3, oN 24 0 0, []),
  (.iconst 1, 1, oI 1, []),
  (.goto 4, 3, oN 25 0 0, [])]
theorem B_M_isOn_0_ok : okB M_M_isOn 0 B_M_isOn_0 24 = true := by decide +kernel
def B_M_isOn_24 : List IT := [(.iconst 0, 1, oI 0, [])]
theorem B_M_isOn_24_ok : okB M_M_isOn 24 B_M_isOn_24 25 = true := by decide +kernel
def B_M_isOn_25 : List IT := [(.ireturn, 1, oN 0 0 0, [])]
theorem B_M_isOn_25_ok : okB M_M_isOn 25 B_M_isOn_25 26 = true := by decide +kernel
def B_M_isPlace_0 : List IT := [(.iload_n 1, 1, oN 1 0 0, []),
  (.iconst 0, 1, oI 0, []),
  (.aload_n 0, 1, oN 0 0 0, []),
  (.getfield 59, 3, oN 6 2 0, [597]),
  (.invokestatic 66, 3, oM M_M_within 3 0, [47, 661, 662]),
  (.ireturn, 1, oN 0 0 0, [])]
theorem B_M_isPlace_0_ok : okB M_M_isPlace 0 B_M_isPlace_0 10 = true := by decide +kernel
def B_M_lesser_0 : List IT := [(.iload_n 0, 1, oN 0 0 0, []),
  (.iload_n 1, 1, oN 1 0 0, []),
  (.if_icmp .ge 7, 3, oN 9 0 0, []),
  (.iload_n 0, 1, oN 0 0 0, []),
  (.goto 4, 3, oN 10 0 0, [])]
theorem B_M_lesser_0_ok : okB M_M_lesser 0 B_M_lesser_0 9 = true := by decide +kernel
def B_M_lesser_9 : List IT := [(.iload_n 1, 1, oN 1 0 0, [])]
theorem B_M_lesser_9_ok : okB M_M_lesser 9 B_M_lesser_9 10 = true := by decide +kernel
def B_M_lesser_10 : List IT := [(.ireturn, 1, oN 0 0 0, [])]
theorem B_M_lesser_10_ok : okB M_M_lesser 10 B_M_lesser_10 11 = true := by decide +kernel
def B_M_light_0 : List IT := [(.aload_n 0, 1, oN 0 0 0, []),
  (.iload_n 1, 1, oN 1 0 0, []),
  (.invokevirtual 88, 3, oM M_M_isPlace 2 6, [47, 681, 683, 25]),
  (.ifCond .eq 31, 3, oN 36 0 0, []),
  (.iload_n 3, 1, oN 3 0 0, []),
  (.iconst 1, 1, oI 1, []),
  (.sipush 2000, 3, oI 2000, []),
  (.invokestatic 66, 3, oM M_M_within 3 0, [47, 661, 662]),
  (.ifCond .eq 20, 3, oN 36 0 0, []),
  (.iload_n 2, 1, oN 2 0 0, []),
  (.iconst 0, 1, oI 0, []),
  (.iload_n 3, 1, oN 3 0 0, []),
  (.invokestatic 66, 3, oM M_M_within 3 0, [47, 661, 662]),
  (.ifCond .eq 11, 3, oN 36 0 0, []),
  (.aload_n 0, 1, oN 0 0 0, []),
  (.getfield 92, 3, oN 6 5 0, [600]),
  (.iconst 4, 1, oI 4, []),
  (.if_icmp .ne 5, 3, oN 38 0 0, [])]
theorem B_M_light_0_ok : okB M_M_light 0 B_M_light_0 36 = true := by decide +kernel
def B_M_light_36 : List IT := [(.iconst 0, 1, oI 0, []),
  (.ireturn, 1, oN 0 0 0, [])]
theorem B_M_light_36_ok : okB M_M_light 36 B_M_light_36 38 = true := by decide +kernel
def B_M_light_38 : List IT := [(.aload_n 0, 1, oN 0 0 0, []),
  (.getfield 17, 3, oN 6 6 2, [601]),
  (.aload_n 0, 1, oN 0 0 0, []),
  (.getfield 92, 3, oN 6 5 0, [600]),
  (.iload_n 1, 1, oN 1 0 0, []),
  (.iastore, 1, oN 0 0 0, []),
  (.aload_n 0, 1, oN 0 0 0, []),
  (.getfield 20, 3, oN 6 7 2, [602]),
  (.aload_n 0, 1, oN 0 0 0, []),
  (.getfield 92, 3, oN 6 5 0, [600]),
  (.iload_n 2, 1, oN 2 0 0, []),
  (.iastore, 1, oN 0 0 0, []),
  (.aload_n 0, 1, oN 0 0 0, []),
  (.getfield 23, 3, oN 6 8 2, [603]),
  (.aload_n 0, 1, oN 0 0 0, []),
  (.getfield 92, 3, oN 6 5 0, [600]),
  (.iload_n 3, 1, oN 3 0 0, []),
  (.iastore, 1, oN 0 0 0, []),
  (.aload_n 0, 1, oN 0 0 0, []),
  (.dup, 1, oN 0 0 0, []),
  (.getfield 92, 3, oN 6 5 0, [600]),
  (.iconst 1, 1, oI 1, []),
  (.iadd, 1, oN 0 0 0, []),
  (.putfield 92, 3, oN 6 5 0, [600]),
  (.iconst 1, 1, oI 1, []),
  (.ireturn, 1, oN 0 0 0, [])]
theorem B_M_light_38_ok : okB M_M_light 38 B_M_light_38 80 = true := by decide +kernel
def B_M_line_0 : List IT := [(.aload_n 0, 1, oN 0 0 0, []),
  (.iload_n 1, 1, oN 1 0 0, []),
  (.invokevirtual 88, 3, oM M_M_isPlace 2 6, [47, 681, 683, 25]),
  (.ifCond .eq 11, 3, oN 16 0 0, []),
  (.aload_n 0, 1, oN 0 0 0, []),
  (.getfield 101, 3, oN 6 17 0, [612]),
  (.iconst 4, 1, oI 4, []),
  (.if_icmp .ne 5, 3, oN 18 0 0, [])]
theorem B_M_line_0_ok : okB M_M_line 0 B_M_line_0 16 = true := by decide +kernel
def B_M_line_16 : List IT := [(.iconst (-1), 1, oI (-1), []),
  (.ireturn, 1, oN 0 0 0, [])]
theorem B_M_line_16_ok : okB M_M_line 16 B_M_line_16 18 = true := by decide +kernel
def B_M_line_18 : List IT := [(.aload_n 0, 1, oN 0 0 0, []),
  (.getfield 44, 3, oN 6 18 2, [613]),
  (.aload_n 0, 1, oN 0 0 0, []),
  (.getfield 101, 3, oN 6 17 0, [612]),
  (.iload_n 1, 1, oN 1 0 0, []),
  (.iastore, 1, oN 0 0 0, []),
  (.iconst 0, 1, oI 0, []),
  (.istore_n 2, 1, oN 2 0 0, [])]
theorem B_M_line_18_ok : okB M_M_line 18 B_M_line_18 30 = true := by decide +kernel
def B_M_line_30 : List IT := [(.iload_n 2, 1, oN 2 0 0, []),
  (.iconst 3, 1, oI 3, []),
  (.if_icmp .ge 26, 3, oN 58 0 0, []),
  (.aload_n 0, 1, oN 0 0 0, []),
  (.getfield 7, 3, oN 6 3 2, [598]),
  (.bipush 6, 2, oI 6, []),
  (.iconst 3, 1, oI 3, []),
  (.aload_n 0, 1, oN 0 0 0, []),
  (.getfield 101, 3, oN 6 17 0, [612]),
  (.imul, 1, oN 0 0 0, []),
  (.iadd, 1, oN 0 0 0, []),
  (.iload_n 2, 1, oN 2 0 0, []),
  (.iadd, 1, oN 0 0 0, []),
  (.iconst 0, 1, oI 0, []),
  (.iastore, 1, oN 0 0 0, []),
  (.iinc 2 1, 3, oJ 2 1, []),
  (.goto (-25), 3, oN 30 0 0, [])]
theorem B_M_line_30_ok : okB M_M_line 30 B_M_line_30 58 = true := by decide +kernel
def B_M_line_58 : List IT := [(.aload_n 0, 1, oN 0 0 0, []),
  (.dup, 1, oN 0 0 0, []),
  (.getfield 101, 3, oN 6 17 0, [612]),
  (.iconst 1, 1, oI 1, []),
  (.iadd, 1, oN 0 0 0, []),
  (.putfield 101, 3, oN 6 17 0, [612]),
  (.aload_n 0, 1, oN 0 0 0, []),
  (.getfield 101, 3, oN 6 17 0, [612]),
  (.iconst 1, 1, oI 1, []),
  (.isub, 1, oN 0 0 0, []),
  (.ireturn, 1, oN 0 0 0, [])]
theorem B_M_line_58_ok : okB M_M_line 58 B_M_line_58 75 = true := by decide +kernel
def B_M_many_0 : List IT := [(.iload_n 1, 1, oN 1 0 0, []),
  (.iconst 0, 1, oI 0, []),
  (.iconst 2, 1, oI 2, []),
  (.invokestatic 66, 3, oM M_M_within 3 0, [47, 661, 662]),
  (.ifCond .eq 14, 3, oN 20 0 0, []),
  (.aload_n 0, 1, oN 0 0 0, []),
  (.getfield 7, 3, oN 6 3 2, [598]),
  (.iconst 3, 1, oI 3, []),
  (.iload_n 1, 1, oN 1 0 0, []),
  (.iadd, 1, oN 0 0 0, []),
  (.iaload, 1, oN 0 0 0, []),
  (.goto 4, 3, oN 21 0 0, [])]
theorem B_M_many_0_ok : okB M_M_many 0 B_M_many_0 20 = true := by decide +kernel
def B_M_many_20 : List IT := [(.iconst (-1), 1, oI (-1), [])]
theorem B_M_many_20_ok : okB M_M_many 20 B_M_many_20 21 = true := by decide +kernel
def B_M_many_21 : List IT := [(.ireturn, 1, oN 0 0 0, [])]
theorem B_M_many_21_ok : okB M_M_many 21 B_M_many_21 22 = true := by decide +kernel
def B_M_mayGo_0 : List IT := [(.iload_n 2, 1, oN 2 0 0, []),
  (.iconst 0, 1, oI 0, []),
  (.aload_n 0, 1, oN 0 0 0, []),
  (.getfield 54, 3, oN 6 1 0, [596]),
  (.iconst 1, 1, oI 1, []),
  (.isub, 1, oN 0 0 0, []),
  (.invokestatic 66, 3, oM M_M_within 3 0, [47, 661, 662]),
  (.ifCond .eq 17, 3, oN 28 0 0, []),
  (.aload_n 0, 1, oN 0 0 0, []),
  (.iload_n 1, 1, oN 1 0 0, []),
  (.iload_n 2, 1, oN 2 0 0, []),
  (.invokevirtual 126, 3, oM M_M_gapIn 3 6, [47, 725, 727, 32]),
  (.iload_n 3, 1, oN 3 0 0, []),
  (.sipush 500, 3, oI 500, []),
  (.iadd, 1, oN 0 0 0, []),
  (.if_icmp .ge 5, 3, oN 30 0 0, [])]
theorem B_M_mayGo_0_ok : okB M_M_mayGo 0 B_M_mayGo_0 28 = true := by decide +kernel
def B_M_mayGo_28 : List IT := [(.iconst 0, 1, oI 0, []),
  (.ireturn, 1, oN 0 0 0, [])]
theorem B_M_mayGo_28_ok : okB M_M_mayGo 28 B_M_mayGo_28 30 = true := by decide +kernel
def B_M_mayGo_30 : List IT := [(.iconst 0, 1, oI 0, []),
  (.istore 4, 2, oN 4 0 0, [])]
theorem B_M_mayGo_30_ok : okB M_M_mayGo 30 B_M_mayGo_30 33 = true := by decide +kernel
def B_M_mayGo_33 : List IT := [(.iload 4, 2, oN 4 0 0, []),
  (.aload_n 0, 1, oN 0 0 0, []),
  (.invokevirtual 70, 3, oM M_M_cars 1 6, [47, 664, 666, 23]),
  (.if_icmp .ge 123, 3, oN 162 0 0, []),
  (.aload_n 0, 1, oN 0 0 0, []),
  (.iload 4, 2, oN 4 0 0, []),
  (.iload_n 2, 1, oN 2 0 0, []),
  (.invokevirtual 104, 3, oM M_M_isOn 3 6, [47, 713, 715, 29]),
  (.ifCond .eq 107, 3, oN 156 0 0, []),
  (.aload_n 0, 1, oN 0 0 0, []),
  (.iload 4, 2, oN 4 0 0, []),
  (.iconst 3, 1, oI 3, []),
  (.invokevirtual 62, 3, oM M_M_of 3 6, [47, 709, 711, 28]),
  (.aload_n 0, 1, oN 0 0 0, []),
  (.iload_n 1, 1, oN 1 0 0, []),
  (.iconst 3, 1, oI 3, []),
  (.invokevirtual 62, 3, oM M_M_of 3 6, [47, 709, 711, 28]),
  (.if_icmp .le 7, 3, oN 72 0 0, []),
  (.iconst 1, 1, oI 1, []),
  (.goto 4, 3, oN 73 0 0, [])]
theorem B_M_mayGo_33_ok : okB M_M_mayGo 33 B_M_mayGo_33 72 = true := by decide +kernel
def B_M_mayGo_72 : List IT := [(.iconst 0, 1, oI 0, [])]
theorem B_M_mayGo_72_ok : okB M_M_mayGo 72 B_M_mayGo_72 73 = true := by decide +kernel
def B_M_mayGo_73 : List IT := [(.istore 5, 2, oN 5 0 0, []),
  (.iload 5, 2, oN 5 0 0, []),
  (.ifCond .eq 22, 3, oN 99 0 0, []),
  (.aload_n 0, 1, oN 0 0 0, []),
  (.iload 4, 2, oN 4 0 0, []),
  (.invokevirtual 108, 3, oM M_M_rear 2 6, [47, 717, 719, 30]),
  (.aload_n 0, 1, oN 0 0 0, []),
  (.iload_n 1, 1, oN 1 0 0, []),
  (.iconst 3, 1, oI 3, []),
  (.invokevirtual 62, 3, oM M_M_of 3 6, [47, 709, 711, 28]),
  (.if_icmp .ge 7, 3, oN 99 0 0, []),
  (.iconst 1, 1, oI 1, []),
  (.goto 4, 3, oN 100 0 0, [])]
theorem B_M_mayGo_73_ok : okB M_M_mayGo 73 B_M_mayGo_73 99 = true := by decide +kernel
def B_M_mayGo_99 : List IT := [(.iconst 0, 1, oI 0, [])]
theorem B_M_mayGo_99_ok : okB M_M_mayGo 99 B_M_mayGo_99 100 = true := by decide +kernel
def B_M_mayGo_100 : List IT := [(.istore 6, 2, oN 6 0 0, []),
  (.iload 5, 2, oN 5 0 0, []),
  (.ifCond .ne 37, 3, oN 141 0 0, []),
  (.aload_n 0, 1, oN 0 0 0, []),
  (.iload_n 1, 1, oN 1 0 0, []),
  (.invokevirtual 108, 3, oM M_M_rear 2 6, [47, 717, 719, 30]),
  (.aload_n 0, 1, oN 0 0 0, []),
  (.iload 4, 2, oN 4 0 0, []),
  (.iconst 3, 1, oI 3, []),
  (.invokevirtual 62, 3, oM M_M_of 3 6, [47, 709, 711, 28]),
  (.isub, 1, oN 0 0 0, []),
  (.sipush 200, 3, oI 200, []),
  (.bipush 10, 2, oI 10, []),
  (.aload_n 0, 1, oN 0 0 0, []),
  (.iload 4, 2, oN 4 0 0, []),
  (.iconst 4, 1, oI 4, []),
  (.invokevirtual 62, 3, oM M_M_of 3 6, [47, 709, 711, 28]),
  (.imul, 1, oN 0 0 0, []),
  (.iadd, 1, oN 0 0 0, []),
  (.if_icmp .ge 7, 3, oN 141 0 0, []),
  (.iconst 1, 1, oI 1, []),
  (.goto 4, 3, oN 142 0 0, [])]
theorem B_M_mayGo_100_ok : okB M_M_mayGo 100 B_M_mayGo_100 141 = true := by decide +kernel
def B_M_mayGo_141 : List IT := [(.iconst 0, 1, oI 0, [])]
theorem B_M_mayGo_141_ok : okB M_M_mayGo 141 B_M_mayGo_141 142 = true := by decide +kernel
def B_M_mayGo_142 : List IT := [(.istore 7, 2, oN 7 0 0, []),
  (.iload 6, 2, oN 6 0 0, []),
  (.ifCond .ne 8, 3, oN 154 0 0, []),
  (.iload 7, 2, oN 7 0 0, []),
  (.ifCond .eq 5, 3, oN 156 0 0, [])]
theorem B_M_mayGo_142_ok : okB M_M_mayGo 142 B_M_mayGo_142 154 = true := by decide +kernel
def B_M_mayGo_154 : List IT := [(.iconst 0, 1, oI 0, []),
  (.ireturn, 1, oN 0 0 0, [])]
theorem B_M_mayGo_154_ok : okB M_M_mayGo 154 B_M_mayGo_154 156 = true := by decide +kernel
def B_M_mayGo_156 : List IT := [(.iinc 4 1, 3, oJ 4 1, []),
  (.goto (-126), 3, oN 33 0 0, [])]
theorem B_M_mayGo_156_ok : okB M_M_mayGo 156 B_M_mayGo_156 162 = true := by decide +kernel
def B_M_mayGo_162 : List IT := [(.iconst 1, 1, oI 1, []),
  (.ireturn, 1, oN 0 0 0, [])]
theorem B_M_mayGo_162_ok : okB M_M_mayGo 162 B_M_mayGo_162 164 = true := by decide +kernel
def B_M_move_0 : List IT := [(.aload_n 0, 1, oN 0 0 0, []),
  (.iload_n 1, 1, oN 1 0 0, []),
  (.iconst 3, 1, oI 3, []),
  (.invokevirtual 62, 3, oM M_M_of 3 6, [47, 709, 711, 28]),
  (.istore_n 2, 1, oN 2 0 0, []),
  (.iload_n 2, 1, oN 2 0 0, []),
  (.aload_n 0, 1, oN 0 0 0, []),
  (.iload_n 1, 1, oN 1 0 0, []),
  (.iconst 4, 1, oI 4, []),
  (.invokevirtual 62, 3, oM M_M_of 3 6, [47, 709, 711, 28]),
  (.iadd, 1, oN 0 0 0, []),
  (.istore_n 3, 1, oN 3 0 0, []),
  (.aload_n 0, 1, oN 0 0 0, []),
  (.iload_n 1, 1, oN 1 0 0, []),
  (.iconst 3, 1, oI 3, []),
  (.iload_n 3, 1, oN 3 0 0, []),
  (.invokevirtual 74, 3, oM M_M_put 4 6, [47, 668, 670, 24]),
  (.iconst 0, 1, oI 0, []),
  (.istore 4, 2, oN 4 0 0, [])]
theorem B_M_move_0_ok : okB M_M_move 0 B_M_move_0 26 = true := by decide +kernel
def B_M_move_26 : List IT := [(.iload 4, 2, oN 4 0 0, []),
  (.aload_n 0, 1, oN 0 0 0, []),
  (.getfield 98, 3, oN 6 14 0, [609]),
  (.if_icmp .ge 117, 3, oN 149 0 0, []),
  (.aload_n 0, 1, oN 0 0 0, []),
  (.iload_n 1, 1, oN 1 0 0, []),
  (.iconst 0, 1, oI 0, []),
  (.invokevirtual 62, 3, oM M_M_of 3 6, [47, 709, 711, 28]),
  (.iconst 1, 1, oI 1, []),
  (.if_icmp .ne 35, 3, oN 77 0 0, []),
  (.aload_n 0, 1, oN 0 0 0, []),
  (.iload_n 1, 1, oN 1 0 0, []),
  (.iconst 4, 1, oI 4, []),
  (.invokevirtual 62, 3, oM M_M_of 3 6, [47, 709, 711, 28]),
  (.ifCond .ne 26, 3, oN 77 0 0, []),
  (.aload_n 0, 1, oN 0 0 0, []),
  (.getfield 38, 3, oN 6 15 2, [610]),
  (.iload 4, 2, oN 4 0 0, []),
  (.iaload, 1, oN 0 0 0, []),
  (.iload_n 3, 1, oN 3 0 0, []),
  (.isub, 1, oN 0 0 0, []),
  (.iconst 0, 1, oI 0, []),
  (.sipush 400, 3, oI 400, []),
  (.invokestatic 66, 3, oM M_M_within 3 0, [47, 661, 662]),
  (.ifCond .eq 7, 3, oN 77 0 0, []),
  (.iconst 1, 1, oI 1, []),
  (.goto 4, 3, oN 78 0 0, [])]
theorem B_M_move_26_ok : okB M_M_move 26 B_M_move_26 77 = true := by decide +kernel
def B_M_move_77 : List IT := [(.iconst 0, 1, oI 0, [])]
theorem B_M_move_77_ok : okB M_M_move 77 B_M_move_77 78 = true := by decide +kernel
def B_M_move_78 : List IT := [(.istore 5, 2, oN 5 0 0, []),
  (.iload 5, 2, oN 5 0 0, []),
  (.ifCond .eq 27, 3, oN 109 0 0, []),
  (.aload_n 0, 1, oN 0 0 0, []),
  (.iload_n 1, 1, oN 1 0 0, []),
  (.bipush 11, 2, oI 11, []),
  (.iload 4, 2, oN 4 0 0, []),
  (.iadd, 1, oN 0 0 0, []),
  (.invokevirtual 62, 3, oM M_M_of 3 6, [47, 709, 711, 28]),
  (.aload_n 0, 1, oN 0 0 0, []),
  (.getfield 41, 3, oN 6 16 2, [611]),
  (.iload 4, 2, oN 4 0 0, []),
  (.iaload, 1, oN 0 0 0, []),
  (.if_icmp .ge 7, 3, oN 109 0 0, []),
  (.iconst 1, 1, oI 1, []),
  (.goto 4, 3, oN 110 0 0, [])]
theorem B_M_move_78_ok : okB M_M_move 78 B_M_move_78 109 = true := by decide +kernel
def B_M_move_109 : List IT := [(.iconst 0, 1, oI 0, [])]
theorem B_M_move_109_ok : okB M_M_move 109 B_M_move_109 110 = true := by decide +kernel
def B_M_move_110 : List IT := [(.istore 6, 2, oN 6 0 0, []),
  (.aload_n 0, 1, oN 0 0 0, []),
  (.iload_n 1, 1, oN 1 0 0, []),
  (.bipush 11, 2, oI 11, []),
  (.iload 4, 2, oN 4 0 0, []),
  (.iadd, 1, oN 0 0 0, []),
  (.aload_n 0, 1, oN 0 0 0, []),
  (.iload_n 1, 1, oN 1 0 0, []),
  (.bipush 11, 2, oI 11, []),
  (.iload 4, 2, oN 4 0 0, []),
  (.iadd, 1, oN 0 0 0, []),
  (.invokevirtual 62, 3, oM M_M_of 3 6, [47, 709, 711, 28]),
  (.iload 6, 2, oN 6 0 0, []),
  (.ifCond .eq 7, 3, oN 138 0 0, []),
  (.iconst 1, 1, oI 1, []),
  (.goto 4, 3, oN 139 0 0, [])]
theorem B_M_move_110_ok : okB M_M_move 110 B_M_move_110 138 = true := by decide +kernel
def B_M_move_138 : List IT := [(.iconst 0, 1, oI 0, [])]
theorem B_M_move_138_ok : okB M_M_move 138 B_M_move_138 139 = true := by decide +kernel
def B_M_move_139 : List IT := [(.iadd, 1, oN 0 0 0, []),
  (.invokevirtual 74, 3, oM M_M_put 4 6, [47, 668, 670, 24]),
  (.iinc 4 1, 3, oJ 4 1, []),
  (.goto (-120), 3, oN 26 0 0, [])]
theorem B_M_move_139_ok : okB M_M_move 139 B_M_move_139 149 = true := by decide +kernel
def B_M_move_149 : List IT := [(.iconst 0, 1, oI 0, []),
  (.istore 4, 2, oN 4 0 0, [])]
theorem B_M_move_149_ok : okB M_M_move 149 B_M_move_149 152 = true := by decide +kernel
def B_M_move_152 : List IT := [(.iload 4, 2, oN 4 0 0, []),
  (.aload_n 0, 1, oN 0 0 0, []),
  (.getfield 101, 3, oN 6 17 0, [612]),
  (.if_icmp .ge 58, 3, oN 216 0 0, []),
  (.aload_n 0, 1, oN 0 0 0, []),
  (.getfield 7, 3, oN 6 3 2, [598]),
  (.bipush 6, 2, oI 6, []),
  (.iconst 3, 1, oI 3, []),
  (.iload 4, 2, oN 4 0 0, []),
  (.imul, 1, oN 0 0 0, []),
  (.iadd, 1, oN 0 0 0, []),
  (.aload_n 0, 1, oN 0 0 0, []),
  (.iload_n 1, 1, oN 1 0 0, []),
  (.iconst 1, 1, oI 1, []),
  (.invokevirtual 62, 3, oM M_M_of 3 6, [47, 709, 711, 28]),
  (.iadd, 1, oN 0 0 0, []),
  (.dup2, 1, oN 0 0 0, []),
  (.iaload, 1, oN 0 0 0, []),
  (.iload_n 2, 1, oN 2 0 0, []),
  (.aload_n 0, 1, oN 0 0 0, []),
  (.getfield 44, 3, oN 6 18 2, [613]),
  (.iload 4, 2, oN 4 0 0, []),
  (.iaload, 1, oN 0 0 0, []),
  (.if_icmp .gt 18, 3, oN 207 0 0, []),
  (.iload_n 3, 1, oN 3 0 0, []),
  (.aload_n 0, 1, oN 0 0 0, []),
  (.getfield 44, 3, oN 6 18 2, [613]),
  (.iload 4, 2, oN 4 0 0, []),
  (.iaload, 1, oN 0 0 0, []),
  (.if_icmp .le 7, 3, oN 207 0 0, []),
  (.iconst 1, 1, oI 1, []),
  (.goto 4, 3, oN 208 0 0, [])]
theorem B_M_move_152_ok : okB M_M_move 152 B_M_move_152 207 = true := by decide +kernel
def B_M_move_207 : List IT := [(.iconst 0, 1, oI 0, [])]
theorem B_M_move_207_ok : okB M_M_move 207 B_M_move_207 208 = true := by decide +kernel
def B_M_move_208 : List IT := [(.iadd, 1, oN 0 0 0, []),
  (.iastore, 1, oN 0 0 0, []),
  (.iinc 4 1, 3, oJ 4 1, []),
  (.goto (-61), 3, oN 152 0 0, [])]
theorem B_M_move_208_ok : okB M_M_move 208 B_M_move_208 216 = true := by decide +kernel
def B_M_move_216 : List IT := [(.iload_n 3, 1, oN 3 0 0, []),
  (.aload_n 0, 1, oN 0 0 0, []),
  (.iload_n 1, 1, oN 1 0 0, []),
  (.bipush 8, 2, oI 8, []),
  (.invokevirtual 62, 3, oM M_M_of 3 6, [47, 709, 711, 28]),
  (.isub, 1, oN 0 0 0, []),
  (.aload_n 0, 1, oN 0 0 0, []),
  (.getfield 59, 3, oN 6 2 0, [597]),
  (.if_icmp .le 41, 3, oN 270 0 0, []),
  (.aload_n 0, 1, oN 0 0 0, []),
  (.iload_n 1, 1, oN 1 0 0, []),
  (.iconst 2, 1, oI 2, []),
  (.iconst 2, 1, oI 2, []),
  (.invokevirtual 74, 3, oM M_M_put 4 6, [47, 668, 670, 24]),
  (.aload_n 0, 1, oN 0 0 0, []),
  (.iload_n 1, 1, oN 1 0 0, []),
  (.bipush 6, 2, oI 6, []),
  (.aload_n 0, 1, oN 0 0 0, []),
  (.invokevirtual 119, 3, oM M_M_now 1 6, [47, 721, 723, 31]),
  (.invokevirtual 74, 3, oM M_M_put 4 6, [47, 668, 670, 24]),
  (.aload_n 0, 1, oN 0 0 0, []),
  (.getfield 7, 3, oN 6 3 2, [598]),
  (.iconst 2, 1, oI 2, []),
  (.dup2, 1, oN 0 0 0, []),
  (.iaload, 1, oN 0 0 0, []),
  (.aload_n 0, 1, oN 0 0 0, []),
  (.invokevirtual 119, 3, oM M_M_now 1 6, [47, 721, 723, 31]),
  (.aload_n 0, 1, oN 0 0 0, []),
  (.iload_n 1, 1, oN 1 0 0, []),
  (.iconst 5, 1, oI 5, []),
  (.invokevirtual 62, 3, oM M_M_of 3 6, [47, 709, 711, 28]),
  (.isub, 1, oN 0 0 0, []),
  (.iadd, 1, oN 0 0 0, []),
  (.iastore, 1, oN 0 0 0, [])]
theorem B_M_move_216_ok : okB M_M_move 216 B_M_move_216 270 = true := by decide +kernel
def B_M_move_270 : List IT := [(.return_, 1, oN 0 0 0, [])]
theorem B_M_move_270_ok : okB M_M_move 270 B_M_move_270 271 = true := by decide +kernel
def B_M_nearer_0 : List IT := [(.iload_n 3, 1, oN 3 0 0, []),
  (.ifCond .eq 18, 3, oN 19 0 0, []),
  (.iload_n 1, 1, oN 1 0 0, []),
  (.iload_n 2, 1, oN 2 0 0, []),
  (.if_icmp .gt 13, 3, oN 19 0 0, []),
  (.iload_n 0, 1, oN 0 0 0, []),
  (.iload_n 2, 1, oN 2 0 0, []),
  (.iload_n 1, 1, oN 1 0 0, []),
  (.isub, 1, oN 0 0 0, []),
  (.invokestatic 112, 3, oM M_M_lesser 2 0, [47, 737, 738]),
  (.goto 4, 3, oN 20 0 0, [])]
theorem B_M_nearer_0_ok : okB M_M_nearer 0 B_M_nearer_0 19 = true := by decide +kernel
def B_M_nearer_19 : List IT := [(.iload_n 0, 1, oN 0 0 0, [])]
theorem B_M_nearer_19_ok : okB M_M_nearer 19 B_M_nearer_19 20 = true := by decide +kernel
def B_M_nearer_20 : List IT := [(.ireturn, 1, oN 0 0 0, [])]
theorem B_M_nearer_20_ok : okB M_M_nearer 20 B_M_nearer_20 21 = true := by decide +kernel
def B_M_now_0 : List IT := [(.aload_n 0, 1, oN 0 0 0, []),
  (.getfield 7, 3, oN 6 3 2, [598]),
  (.iconst 1, 1, oI 1, []),
  (.iaload, 1, oN 0 0 0, []),
  (.ireturn, 1, oN 0 0 0, [])]
theorem B_M_now_0_ok : okB M_M_now 0 B_M_now_0 7 = true := by decide +kernel
def B_M_of_0 : List IT := [(.aload_n 0, 1, oN 0 0 0, []),
  (.getfield 7, 3, oN 6 3 2, [598]),
  (.bipush 20, 2, oI 20, []),
  (.bipush 20, 2, oI 20, []),
  (.iload_n 1, 1, oN 1 0 0, []),
  (.imul, 1, oN 0 0 0, []),
  (.iadd, 1, oN 0 0 0, []),
  (.iload_n 2, 1, oN 2 0 0, []),
  (.iadd, 1, oN 0 0 0, []),
  (.iaload, 1, oN 0 0 0, []),
  (.ireturn, 1, oN 0 0 0, [])]
theorem B_M_of_0_ok : okB M_M_of 0 B_M_of_0 15 = true := by decide +kernel
def B_M_ordered_0 : List IT := [(.iconst 0, 1, oI 0, []),
  (.istore_n 1, 1, oN 1 0 0, [])]
theorem B_M_ordered_0_ok : okB M_M_ordered 0 B_M_ordered_0 2 = true := by decide +kernel
def B_M_ordered_2 : List IT := [(.iload_n 1, 1, oN 1 0 0, []),
  (.aload_n 0, 1, oN 0 0 0, []),
  (.invokevirtual 70, 3, oM M_M_cars 1 6, [47, 664, 666, 23]),
  (.if_icmp .ge 95, 3, oN 102 0 0, []),
  (.iconst 0, 1, oI 0, []),
  (.istore_n 2, 1, oN 2 0 0, [])]
theorem B_M_ordered_2_ok : okB M_M_ordered 2 B_M_ordered_2 12 = true := by decide +kernel
def B_M_ordered_12 : List IT := [(.iload_n 2, 1, oN 2 0 0, []),
  (.aload_n 0, 1, oN 0 0 0, []),
  (.invokevirtual 70, 3, oM M_M_cars 1 6, [47, 664, 666, 23]),
  (.if_icmp .ge 79, 3, oN 96 0 0, []),
  (.iload_n 1, 1, oN 1 0 0, []),
  (.iload_n 2, 1, oN 2 0 0, []),
  (.if_icmp .eq 31, 3, oN 53 0 0, []),
  (.aload_n 0, 1, oN 0 0 0, []),
  (.iload_n 1, 1, oN 1 0 0, []),
  (.iconst 2, 1, oI 2, []),
  (.invokevirtual 62, 3, oM M_M_of 3 6, [47, 709, 711, 28]),
  (.iconst 1, 1, oI 1, []),
  (.if_icmp .ne 21, 3, oN 53 0 0, []),
  (.aload_n 0, 1, oN 0 0 0, []),
  (.iload_n 2, 1, oN 2 0 0, []),
  (.aload_n 0, 1, oN 0 0 0, []),
  (.iload_n 1, 1, oN 1 0 0, []),
  (.iconst 1, 1, oI 1, []),
  (.invokevirtual 62, 3, oM M_M_of 3 6, [47, 709, 711, 28]),
  (.invokevirtual 104, 3, oM M_M_isOn 3 6, [47, 713, 715, 29]),
  (.ifCond .eq 7, 3, oN 53 0 0, []),
  (.iconst 1, 1, oI 1, []),
  (.goto 4, 3, oN 54 0 0, [])]
theorem B_M_ordered_12_ok : okB M_M_ordered 12 B_M_ordered_12 53 = true := by decide +kernel
def B_M_ordered_53 : List IT := [(.iconst 0, 1, oI 0, [])]
theorem B_M_ordered_53_ok : okB M_M_ordered 53 B_M_ordered_53 54 = true := by decide +kernel
def B_M_ordered_54 : List IT := [(.istore_n 3, 1, oN 3 0 0, []),
  (.iload_n 3, 1, oN 3 0 0, []),
  (.ifCond .eq 34, 3, oN 90 0 0, []),
  (.aload_n 0, 1, oN 0 0 0, []),
  (.iload_n 2, 1, oN 2 0 0, []),
  (.iconst 3, 1, oI 3, []),
  (.invokevirtual 62, 3, oM M_M_of 3 6, [47, 709, 711, 28]),
  (.aload_n 0, 1, oN 0 0 0, []),
  (.iload_n 1, 1, oN 1 0 0, []),
  (.iconst 3, 1, oI 3, []),
  (.invokevirtual 62, 3, oM M_M_of 3 6, [47, 709, 711, 28]),
  (.if_icmp .lt 19, 3, oN 90 0 0, []),
  (.aload_n 0, 1, oN 0 0 0, []),
  (.iload_n 2, 1, oN 2 0 0, []),
  (.invokevirtual 108, 3, oM M_M_rear 2 6, [47, 717, 719, 30]),
  (.aload_n 0, 1, oN 0 0 0, []),
  (.iload_n 1, 1, oN 1 0 0, []),
  (.iconst 3, 1, oI 3, []),
  (.invokevirtual 62, 3, oM M_M_of 3 6, [47, 709, 711, 28]),
  (.if_icmp .ge 5, 3, oN 90 0 0, []),
  (.iconst 0, 1, oI 0, []),
  (.ireturn, 1, oN 0 0 0, [])]
theorem B_M_ordered_54_ok : okB M_M_ordered 54 B_M_ordered_54 90 = true := by decide +kernel
def B_M_ordered_90 : List IT := [(.iinc 2 1, 3, oJ 2 1, []),
  (.goto (-81), 3, oN 12 0 0, [])]
theorem B_M_ordered_90_ok : okB M_M_ordered 90 B_M_ordered_90 96 = true := by decide +kernel
def B_M_ordered_96 : List IT := [(.iinc 1 1, 3, oJ 1 1, []),
  (.goto (-97), 3, oN 2 0 0, [])]
theorem B_M_ordered_96_ok : okB M_M_ordered 96 B_M_ordered_96 102 = true := by decide +kernel
def B_M_ordered_102 : List IT := [(.iconst 1, 1, oI 1, []),
  (.ireturn, 1, oN 0 0 0, [])]
theorem B_M_ordered_102_ok : okB M_M_ordered 102 B_M_ordered_102 104 = true := by decide +kernel
def B_M_put_0 : List IT := [(.aload_n 0, 1, oN 0 0 0, []),
  (.getfield 7, 3, oN 6 3 2, [598]),
  (.bipush 20, 2, oI 20, []),
  (.bipush 20, 2, oI 20, []),
  (.iload_n 1, 1, oN 1 0 0, []),
  (.imul, 1, oN 0 0 0, []),
  (.iadd, 1, oN 0 0 0, []),
  (.iload_n 2, 1, oN 2 0 0, []),
  (.iadd, 1, oN 0 0 0, []),
  (.iload_n 3, 1, oN 3 0 0, []),
  (.iastore, 1, oN 0 0 0, []),
  (.return_, 1, oN 0 0 0, [])]
theorem B_M_put_0_ok : okB M_M_put 0 B_M_put_0 16 = true := by decide +kernel
def B_M_rear_0 : List IT := [(.aload_n 0, 1, oN 0 0 0, []),
  (.iload_n 1, 1, oN 1 0 0, []),
  (.iconst 3, 1, oI 3, []),
  (.invokevirtual 62, 3, oM M_M_of 3 6, [47, 709, 711, 28]),
  (.aload_n 0, 1, oN 0 0 0, []),
  (.iload_n 1, 1, oN 1 0 0, []),
  (.bipush 8, 2, oI 8, []),
  (.invokevirtual 62, 3, oM M_M_of 3 6, [47, 709, 711, 28]),
  (.isub, 1, oN 0 0 0, []),
  (.ireturn, 1, oN 0 0 0, [])]
theorem B_M_rear_0_ok : okB M_M_rear 0 B_M_rear_0 15 = true := by decide +kernel
def B_M_run_0 : List IT := [(.iload_n 1, 1, oN 1 0 0, []),
  (.iconst 1, 1, oI 1, []),
  (.sipush 1000, 3, oI 1000, []),
  (.invokestatic 66, 3, oM M_M_within 3 0, [47, 661, 662]),
  (.ifCond .ne 5, 3, oN 13 0 0, []),
  (.iconst (-1), 1, oI (-1), []),
  (.ireturn, 1, oN 0 0 0, [])]
theorem B_M_run_0_ok : okB M_M_run 0 B_M_run_0 13 = true := by decide +kernel
def B_M_run_13 : List IT := [(.iconst 0, 1, oI 0, []),
  (.istore_n 2, 1, oN 2 0 0, [])]
theorem B_M_run_13_ok : okB M_M_run 13 B_M_run_13 15 = true := by decide +kernel
def B_M_run_15 : List IT := [(.iload_n 2, 1, oN 2 0 0, []),
  (.iload_n 1, 1, oN 1 0 0, []),
  (.if_icmp .ge 13, 3, oN 30 0 0, []),
  (.aload_n 0, 1, oN 0 0 0, []),
  (.invokevirtual 148, 3, oM M_M_step 1 6, [47, 701, 703, 26]),
  (.iinc 2 1, 3, oJ 2 1, []),
  (.goto (-12), 3, oN 15 0 0, [])]
theorem B_M_run_15_ok : okB M_M_run 15 B_M_run_15 30 = true := by decide +kernel
def B_M_run_30 : List IT := [(.aload_n 0, 1, oN 0 0 0, []),
  (.invokevirtual 119, 3, oM M_M_now 1 6, [47, 721, 723, 31]),
  (.ireturn, 1, oN 0 0 0, [])]
theorem B_M_run_30_ok : okB M_M_run 30 B_M_run_30 35 = true := by decide +kernel
def B_M_save_0 : List IT := [(.iload_n 1, 1, oN 1 0 0, []),
  (.iconst 0, 1, oI 0, []),
  (.iconst 1, 1, oI 1, []),
  (.invokestatic 66, 3, oM M_M_within 3 0, [47, 661, 662]),
  (.ifCond .ne 5, 3, oN 11 0 0, []),
  (.iconst (-1), 1, oI (-1), []),
  (.ireturn, 1, oN 0 0 0, [])]
theorem B_M_save_0_ok : okB M_M_save 0 B_M_save_0 11 = true := by decide +kernel
def B_M_save_11 : List IT := [(.iconst 0, 1, oI 0, []),
  (.istore_n 2, 1, oN 2 0 0, [])]
theorem B_M_save_11_ok : okB M_M_save 11 B_M_save_11 13 = true := by decide +kernel
def B_M_save_13 : List IT := [(.iload_n 2, 1, oN 2 0 0, []),
  (.sipush 1300, 3, oI 1300, []),
  (.if_icmp .ge 29, 3, oN 46 0 0, []),
  (.aload_n 0, 1, oN 0 0 0, []),
  (.getfield 7, 3, oN 6 3 2, [598]),
  (.sipush 1300, 3, oI 1300, []),
  (.iload_n 1, 1, oN 1 0 0, []),
  (.iconst 1, 1, oI 1, []),
  (.iadd, 1, oN 0 0 0, []),
  (.imul, 1, oN 0 0 0, []),
  (.iload_n 2, 1, oN 2 0 0, []),
  (.iadd, 1, oN 0 0 0, []),
  (.aload_n 0, 1, oN 0 0 0, []),
  (.getfield 7, 3, oN 6 3 2, [598]),
  (.iload_n 2, 1, oN 2 0 0, []),
  (.iaload, 1, oN 0 0 0, []),
  (.iastore, 1, oN 0 0 0, []),
  (.iinc 2 1, 3, oJ 2 1, []),
  (.goto (-30), 3, oN 13 0 0, [])]
theorem B_M_save_13_ok : okB M_M_save 13 B_M_save_13 46 = true := by decide +kernel
def B_M_save_46 : List IT := [(.iconst 3, 1, oI 3, []),
  (.aload_n 0, 1, oN 0 0 0, []),
  (.getfield 101, 3, oN 6 17 0, [612]),
  (.imul, 1, oN 0 0 0, []),
  (.istore_n 2, 1, oN 2 0 0, [])]
theorem B_M_save_46_ok : okB M_M_save 46 B_M_save_46 53 = true := by decide +kernel
def B_M_save_53 : List IT := [(.iload_n 2, 1, oN 2 0 0, []),
  (.bipush 12, 2, oI 12, []),
  (.if_icmp .ge 27, 3, oN 83 0 0, []),
  (.aload_n 0, 1, oN 0 0 0, []),
  (.getfield 7, 3, oN 6 3 2, [598]),
  (.sipush 1300, 3, oI 1300, []),
  (.iload_n 1, 1, oN 1 0 0, []),
  (.iconst 1, 1, oI 1, []),
  (.iadd, 1, oN 0 0 0, []),
  (.imul, 1, oN 0 0 0, []),
  (.bipush 6, 2, oI 6, []),
  (.iadd, 1, oN 0 0 0, []),
  (.iload_n 2, 1, oN 2 0 0, []),
  (.iadd, 1, oN 0 0 0, []),
  (.iconst 0, 1, oI 0, []),
  (.iastore, 1, oN 0 0 0, []),
  (.iinc 2 1, 3, oJ 2 1, []),
  (.goto (-27), 3, oN 53 0 0, [])]
theorem B_M_save_53_ok : okB M_M_save 53 B_M_save_53 83 = true := by decide +kernel
def B_M_save_83 : List IT := [(.aload_n 0, 1, oN 0 0 0, []),
  (.getfield 13, 3, oN 6 4 2, [599]),
  (.iload_n 1, 1, oN 1 0 0, []),
  (.iconst 1, 1, oI 1, []),
  (.bastore, 1, oN 0 0 0, []),
  (.aload_n 0, 1, oN 0 0 0, []),
  (.invokevirtual 119, 3, oM M_M_now 1 6, [47, 721, 723, 31]),
  (.ireturn, 1, oN 0 0 0, [])]
theorem B_M_save_83_ok : okB M_M_save 83 B_M_save_83 95 = true := by decide +kernel
def B_M_speeds_0 : List IT := [(.iconst 0, 1, oI 0, []),
  (.istore_n 1, 1, oN 1 0 0, [])]
theorem B_M_speeds_0_ok : okB M_M_speeds 0 B_M_speeds_0 2 = true := by decide +kernel
def B_M_speeds_2 : List IT := [(.iload_n 1, 1, oN 1 0 0, []),
  (.aload_n 0, 1, oN 0 0 0, []),
  (.invokevirtual 70, 3, oM M_M_cars 1 6, [47, 664, 666, 23]),
  (.if_icmp .ge 84, 3, oN 91 0 0, []),
  (.aload_n 0, 1, oN 0 0 0, []),
  (.iload_n 1, 1, oN 1 0 0, []),
  (.iconst 2, 1, oI 2, []),
  (.invokevirtual 62, 3, oM M_M_of 3 6, [47, 709, 711, 28]),
  (.iconst 1, 1, oI 1, []),
  (.if_icmp .ne 68, 3, oN 85 0 0, []),
  (.aload_n 0, 1, oN 0 0 0, []),
  (.invokevirtual 119, 3, oM M_M_now 1 6, [47, 721, 723, 31]),
  (.aload_n 0, 1, oN 0 0 0, []),
  (.iload_n 1, 1, oN 1 0 0, []),
  (.bipush 10, 2, oI 10, []),
  (.invokevirtual 62, 3, oM M_M_of 3 6, [47, 709, 711, 28]),
  (.irem, 1, oN 0 0 0, []),
  (.ifCond .ne 8, 3, oN 40 0 0, []),
  (.bipush 6, 2, oI 6, []),
  (.goto 4, 3, oN 41 0 0, [])]
theorem B_M_speeds_2_ok : okB M_M_speeds 2 B_M_speeds_2 40 = true := by decide +kernel
def B_M_speeds_40 : List IT := [(.iconst 0, 1, oI 0, [])]
theorem B_M_speeds_40_ok : okB M_M_speeds 40 B_M_speeds_40 41 = true := by decide +kernel
def B_M_speeds_41 : List IT := [(.istore_n 2, 1, oN 2 0 0, []),
  (.aload_n 0, 1, oN 0 0 0, []),
  (.iload_n 1, 1, oN 1 0 0, []),
  (.bipush 9, 2, oI 9, []),
  (.invokevirtual 62, 3, oM M_M_of 3 6, [47, 709, 711, 28]),
  (.aload_n 0, 1, oN 0 0 0, []),
  (.iload_n 1, 1, oN 1 0 0, []),
  (.iconst 4, 1, oI 4, []),
  (.invokevirtual 62, 3, oM M_M_of 3 6, [47, 709, 711, 28]),
  (.iload_n 2, 1, oN 2 0 0, []),
  (.iadd, 1, oN 0 0 0, []),
  (.invokestatic 112, 3, oM M_M_lesser 2 0, [47, 737, 738]),
  (.istore_n 3, 1, oN 3 0 0, []),
  (.aload_n 0, 1, oN 0 0 0, []),
  (.getfield 47, 3, oN 6 19 2, [614]),
  (.iload_n 1, 1, oN 1 0 0, []),
  (.iload_n 3, 1, oN 3 0 0, []),
  (.aload_n 0, 1, oN 0 0 0, []),
  (.iload_n 1, 1, oN 1 0 0, []),
  (.aload_n 0, 1, oN 0 0 0, []),
  (.iload_n 1, 1, oN 1 0 0, []),
  (.iconst 1, 1, oI 1, []),
  (.invokevirtual 62, 3, oM M_M_of 3 6, [47, 709, 711, 28]),
  (.invokevirtual 126, 3, oM M_M_gapIn 3 6, [47, 725, 727, 32]),
  (.invokestatic 129, 3, oM M_M_allowed 1 0, [47, 740, 741]),
  (.invokestatic 112, 3, oM M_M_lesser 2 0, [47, 737, 738]),
  (.iastore, 1, oN 0 0 0, [])]
theorem B_M_speeds_41_ok : okB M_M_speeds 41 B_M_speeds_41 85 = true := by decide +kernel
def B_M_speeds_85 : List IT := [(.iinc 1 1, 3, oJ 1 1, []),
  (.goto (-86), 3, oN 2 0 0, [])]
theorem B_M_speeds_85_ok : okB M_M_speeds 85 B_M_speeds_85 91 = true := by decide +kernel
def B_M_speeds_91 : List IT := [(.iconst 0, 1, oI 0, []),
  (.istore_n 1, 1, oN 1 0 0, [])]
theorem B_M_speeds_91_ok : okB M_M_speeds 91 B_M_speeds_91 93 = true := by decide +kernel
def B_M_speeds_93 : List IT := [(.iload_n 1, 1, oN 1 0 0, []),
  (.aload_n 0, 1, oN 0 0 0, []),
  (.invokevirtual 70, 3, oM M_M_cars 1 6, [47, 664, 666, 23]),
  (.if_icmp .ge 63, 3, oN 161 0 0, []),
  (.aload_n 0, 1, oN 0 0 0, []),
  (.iload_n 1, 1, oN 1 0 0, []),
  (.iconst 2, 1, oI 2, []),
  (.invokevirtual 62, 3, oM M_M_of 3 6, [47, 709, 711, 28]),
  (.iconst 1, 1, oI 1, []),
  (.if_icmp .ne 47, 3, oN 155 0 0, []),
  (.aload_n 0, 1, oN 0 0 0, []),
  (.getfield 7, 3, oN 6 3 2, [598]),
  (.iconst 4, 1, oI 4, []),
  (.dup2, 1, oN 0 0 0, []),
  (.iaload, 1, oN 0 0 0, []),
  (.aload_n 0, 1, oN 0 0 0, []),
  (.iload_n 1, 1, oN 1 0 0, []),
  (.iconst 4, 1, oI 4, []),
  (.invokevirtual 62, 3, oM M_M_of 3 6, [47, 709, 711, 28]),
  (.aload_n 0, 1, oN 0 0 0, []),
  (.getfield 47, 3, oN 6 19 2, [614]),
  (.iload_n 1, 1, oN 1 0 0, []),
  (.iaload, 1, oN 0 0 0, []),
  (.isub, 1, oN 0 0 0, []),
  (.bipush 20, 2, oI 20, []),
  (.if_icmp .lt 7, 3, oN 140 0 0, []),
  (.iconst 1, 1, oI 1, []),
  (.goto 4, 3, oN 141 0 0, [])]
theorem B_M_speeds_93_ok : okB M_M_speeds 93 B_M_speeds_93 140 = true := by decide +kernel
def B_M_speeds_140 : List IT := [(.iconst 0, 1, oI 0, [])]
theorem B_M_speeds_140_ok : okB M_M_speeds 140 B_M_speeds_140 141 = true := by decide +kernel
def B_M_speeds_141 : List IT := [(.iadd, 1, oN 0 0 0, []),
  (.iastore, 1, oN 0 0 0, []),
  (.aload_n 0, 1, oN 0 0 0, []),
  (.iload_n 1, 1, oN 1 0 0, []),
  (.iconst 4, 1, oI 4, []),
  (.aload_n 0, 1, oN 0 0 0, []),
  (.getfield 47, 3, oN 6 19 2, [614]),
  (.iload_n 1, 1, oN 1 0 0, []),
  (.iaload, 1, oN 0 0 0, []),
  (.invokevirtual 74, 3, oM M_M_put 4 6, [47, 668, 670, 24])]
theorem B_M_speeds_141_ok : okB M_M_speeds 141 B_M_speeds_141 155 = true := by decide +kernel
def B_M_speeds_155 : List IT := [(.iinc 1 1, 3, oJ 1 1, []),
  (.goto (-65), 3, oN 93 0 0, [])]
theorem B_M_speeds_155_ok : okB M_M_speeds 155 B_M_speeds_155 161 = true := by decide +kernel
def B_M_speeds_161 : List IT := [(.return_, 1, oN 0 0 0, [])]
theorem B_M_speeds_161_ok : okB M_M_speeds 161 B_M_speeds_161 162 = true := by decide +kernel
def B_M_step_0 : List IT := [(.iconst 0, 1, oI 0, []),
  (.istore_n 1, 1, oN 1 0 0, [])]
theorem B_M_step_0_ok : okB M_M_step 0 B_M_step_0 2 = true := by decide +kernel
def B_M_step_2 : List IT := [(.iload_n 1, 1, oN 1 0 0, []),
  (.aload_n 0, 1, oN 0 0 0, []),
  (.getfield 54, 3, oN 6 1 0, [596]),
  (.if_icmp .ge 14, 3, oN 21 0 0, []),
  (.aload_n 0, 1, oN 0 0 0, []),
  (.iload_n 1, 1, oN 1 0 0, []),
  (.invokevirtual 135, 3, oM M_M_enter 2 6, [47, 705, 707, 27]),
  (.iinc 1 1, 3, oJ 1 1, []),
  (.goto (-16), 3, oN 2 0 0, [])]
theorem B_M_step_2_ok : okB M_M_step 2 B_M_step_2 21 = true := by decide +kernel
def B_M_step_21 : List IT := [(.iconst 0, 1, oI 0, []),
  (.istore_n 1, 1, oN 1 0 0, [])]
theorem B_M_step_21_ok : okB M_M_step 21 B_M_step_21 23 = true := by decide +kernel
def B_M_step_23 : List IT := [(.iload_n 1, 1, oN 1 0 0, []),
  (.aload_n 0, 1, oN 0 0 0, []),
  (.invokevirtual 70, 3, oM M_M_cars 1 6, [47, 664, 666, 23]),
  (.if_icmp .ge 14, 3, oN 42 0 0, []),
  (.aload_n 0, 1, oN 0 0 0, []),
  (.iload_n 1, 1, oN 1 0 0, []),
  (.invokevirtual 139, 3, oM M_M_change 2 6, [47, 743, 745, 34]),
  (.iinc 1 1, 3, oJ 1 1, []),
  (.goto (-16), 3, oN 23 0 0, [])]
theorem B_M_step_23_ok : okB M_M_step 23 B_M_step_23 42 = true := by decide +kernel
def B_M_step_42 : List IT := [(.aload_n 0, 1, oN 0 0 0, []),
  (.invokevirtual 142, 3, oM M_M_speeds 1 6, [47, 751, 753, 36]),
  (.iconst 0, 1, oI 0, []),
  (.istore_n 1, 1, oN 1 0 0, [])]
theorem B_M_step_42_ok : okB M_M_step 42 B_M_step_42 48 = true := by decide +kernel
def B_M_step_48 : List IT := [(.iload_n 1, 1, oN 1 0 0, []),
  (.aload_n 0, 1, oN 0 0 0, []),
  (.invokevirtual 70, 3, oM M_M_cars 1 6, [47, 664, 666, 23]),
  (.if_icmp .ge 24, 3, oN 77 0 0, []),
  (.aload_n 0, 1, oN 0 0 0, []),
  (.iload_n 1, 1, oN 1 0 0, []),
  (.iconst 2, 1, oI 2, []),
  (.invokevirtual 62, 3, oM M_M_of 3 6, [47, 709, 711, 28]),
  (.iconst 1, 1, oI 1, []),
  (.if_icmp .ne 8, 3, oN 71 0 0, []),
  (.aload_n 0, 1, oN 0 0 0, []),
  (.iload_n 1, 1, oN 1 0 0, []),
  (.invokevirtual 145, 3, oM M_M_move 2 6, [47, 755, 757, 37])]
theorem B_M_step_48_ok : okB M_M_step 48 B_M_step_48 71 = true := by decide +kernel
def B_M_step_71 : List IT := [(.iinc 1 1, 3, oJ 1 1, []),
  (.goto (-26), 3, oN 48 0 0, [])]
theorem B_M_step_71_ok : okB M_M_step 71 B_M_step_71 77 = true := by decide +kernel
def B_M_step_77 : List IT := [(.aload_n 0, 1, oN 0 0 0, []),
  (.getfield 7, 3, oN 6 3 2, [598]),
  (.iconst 1, 1, oI 1, []),
  (.dup2, 1, oN 0 0 0, []),
  (.iaload, 1, oN 0 0 0, []),
  (.iconst 1, 1, oI 1, []),
  (.iadd, 1, oN 0 0 0, []),
  (.iastore, 1, oN 0 0 0, []),
  (.iconst 0, 1, oI 0, []),
  (.istore_n 1, 1, oN 1 0 0, [])]
theorem B_M_step_77_ok : okB M_M_step 77 B_M_step_77 89 = true := by decide +kernel
def B_M_step_89 : List IT := [(.iload_n 1, 1, oN 1 0 0, []),
  (.aload_n 0, 1, oN 0 0 0, []),
  (.invokevirtual 70, 3, oM M_M_cars 1 6, [47, 664, 666, 23]),
  (.if_icmp .ge 101, 3, oN 195 0 0, []),
  (.aload_n 0, 1, oN 0 0 0, []),
  (.iload_n 1, 1, oN 1 0 0, []),
  (.iconst 2, 1, oI 2, []),
  (.invokevirtual 62, 3, oM M_M_of 3 6, [47, 709, 711, 28]),
  (.iconst 1, 1, oI 1, []),
  (.if_icmp .ne 17, 3, oN 121 0 0, []),
  (.aload_n 0, 1, oN 0 0 0, []),
  (.iload_n 1, 1, oN 1 0 0, []),
  (.aload_n 0, 1, oN 0 0 0, []),
  (.iload_n 1, 1, oN 1 0 0, []),
  (.iconst 1, 1, oI 1, []),
  (.invokevirtual 62, 3, oM M_M_of 3 6, [47, 709, 711, 28]),
  (.invokevirtual 115, 3, oM M_M_before 3 6, [47, 729, 731, 33]),
  (.goto 4, 3, oN 122 0 0, [])]
theorem B_M_step_89_ok : okB M_M_step 89 B_M_step_89 121 = true := by decide +kernel
def B_M_step_121 : List IT := [(.iconst (-1), 1, oI (-1), [])]
theorem B_M_step_121_ok : okB M_M_step 121 B_M_step_121 122 = true := by decide +kernel
def B_M_step_122 : List IT := [(.istore_n 2, 1, oN 2 0 0, []),
  (.iload_n 2, 1, oN 2 0 0, []),
  (.ifCond .lt 45, 3, oN 169 0 0, []),
  (.aload_n 0, 1, oN 0 0 0, []),
  (.iload_n 1, 1, oN 1 0 0, []),
  (.iconst 4, 1, oI 4, []),
  (.invokevirtual 62, 3, oM M_M_of 3 6, [47, 709, 711, 28]),
  (.aload_n 0, 1, oN 0 0 0, []),
  (.iload_n 2, 1, oN 2 0 0, []),
  (.iconst 4, 1, oI 4, []),
  (.invokevirtual 62, 3, oM M_M_of 3 6, [47, 709, 711, 28]),
  (.if_icmp .le 30, 3, oN 169 0 0, []),
  (.aload_n 0, 1, oN 0 0 0, []),
  (.iload_n 2, 1, oN 2 0 0, []),
  (.invokevirtual 108, 3, oM M_M_rear 2 6, [47, 717, 719, 30]),
  (.aload_n 0, 1, oN 0 0 0, []),
  (.iload_n 1, 1, oN 1 0 0, []),
  (.iconst 3, 1, oI 3, []),
  (.invokevirtual 62, 3, oM M_M_of 3 6, [47, 709, 711, 28]),
  (.isub, 1, oN 0 0 0, []),
  (.iconst 5, 1, oI 5, []),
  (.aload_n 0, 1, oN 0 0 0, []),
  (.iload_n 1, 1, oN 1 0 0, []),
  (.iconst 4, 1, oI 4, []),
  (.invokevirtual 62, 3, oM M_M_of 3 6, [47, 709, 711, 28]),
  (.imul, 1, oN 0 0 0, []),
  (.if_icmp .ge 7, 3, oN 169 0 0, []),
  (.iconst 1, 1, oI 1, []),
  (.goto 4, 3, oN 170 0 0, [])]
theorem B_M_step_122_ok : okB M_M_step 122 B_M_step_122 169 = true := by decide +kernel
def B_M_step_169 : List IT := [(.iconst 0, 1, oI 0, [])]
theorem B_M_step_169_ok : okB M_M_step 169 B_M_step_169 170 = true := by decide +kernel
def B_M_step_170 : List IT := [(.istore_n 3, 1, oN 3 0 0, []),
  (.aload_n 0, 1, oN 0 0 0, []),
  (.getfield 7, 3, oN 6 3 2, [598]),
  (.iconst 3, 1, oI 3, []),
  (.dup2, 1, oN 0 0 0, []),
  (.iaload, 1, oN 0 0 0, []),
  (.iload_n 3, 1, oN 3 0 0, []),
  (.ifCond .eq 7, 3, oN 186 0 0, []),
  (.iconst 1, 1, oI 1, []),
  (.goto 4, 3, oN 187 0 0, [])]
theorem B_M_step_170_ok : okB M_M_step 170 B_M_step_170 186 = true := by decide +kernel
def B_M_step_186 : List IT := [(.iconst 0, 1, oI 0, [])]
theorem B_M_step_186_ok : okB M_M_step 186 B_M_step_186 187 = true := by decide +kernel
def B_M_step_187 : List IT := [(.iadd, 1, oN 0 0 0, []),
  (.iastore, 1, oN 0 0 0, []),
  (.iinc 1 1, 3, oJ 1 1, []),
  (.goto (-103), 3, oN 89 0 0, [])]
theorem B_M_step_187_ok : okB M_M_step 187 B_M_step_187 195 = true := by decide +kernel
def B_M_step_195 : List IT := [(.return_, 1, oN 0 0 0, [])]
theorem B_M_step_195_ok : okB M_M_step 195 B_M_step_195 196 = true := by decide +kernel
def B_M_stop_0 : List IT := [(.aload_n 0, 1, oN 0 0 0, []),
  (.iload_n 1, 1, oN 1 0 0, []),
  (.invokevirtual 88, 3, oM M_M_isPlace 2 6, [47, 681, 683, 25]),
  (.ifCond .eq 22, 3, oN 27 0 0, []),
  (.iload_n 2, 1, oN 2 0 0, []),
  (.iconst 1, 1, oI 1, []),
  (.sipush 500, 3, oI 500, []),
  (.invokestatic 66, 3, oM M_M_within 3 0, [47, 661, 662]),
  (.ifCond .eq 11, 3, oN 27 0 0, []),
  (.aload_n 0, 1, oN 0 0 0, []),
  (.getfield 98, 3, oN 6 14 0, [609]),
  (.iconst 4, 1, oI 4, []),
  (.if_icmp .ne 5, 3, oN 29 0 0, [])]
theorem B_M_stop_0_ok : okB M_M_stop 0 B_M_stop_0 27 = true := by decide +kernel
def B_M_stop_27 : List IT := [(.iconst 0, 1, oI 0, []),
  (.ireturn, 1, oN 0 0 0, [])]
theorem B_M_stop_27_ok : okB M_M_stop 27 B_M_stop_27 29 = true := by decide +kernel
def B_M_stop_29 : List IT := [(.aload_n 0, 1, oN 0 0 0, []),
  (.getfield 38, 3, oN 6 15 2, [610]),
  (.aload_n 0, 1, oN 0 0 0, []),
  (.getfield 98, 3, oN 6 14 0, [609]),
  (.iload_n 1, 1, oN 1 0 0, []),
  (.iastore, 1, oN 0 0 0, []),
  (.aload_n 0, 1, oN 0 0 0, []),
  (.getfield 41, 3, oN 6 16 2, [611]),
  (.aload_n 0, 1, oN 0 0 0, []),
  (.getfield 98, 3, oN 6 14 0, [609]),
  (.iload_n 2, 1, oN 2 0 0, []),
  (.iastore, 1, oN 0 0 0, []),
  (.aload_n 0, 1, oN 0 0 0, []),
  (.dup, 1, oN 0 0 0, []),
  (.getfield 98, 3, oN 6 14 0, [609]),
  (.iconst 1, 1, oI 1, []),
  (.iadd, 1, oN 0 0 0, []),
  (.putfield 98, 3, oN 6 14 0, [609]),
  (.iconst 1, 1, oI 1, []),
  (.ireturn, 1, oN 0 0 0, [])]
theorem B_M_stop_29_ok : okB M_M_stop 29 B_M_stop_29 61 = true := by decide +kernel
def B_M_times_0 : List IT := [(.aload_n 0, 1, oN 0 0 0, []),
  (.getfield 7, 3, oN 6 3 2, [598]),
  (.iconst 2, 1, oI 2, []),
  (.iaload, 1, oN 0 0 0, []),
  (.ireturn, 1, oN 0 0 0, [])]
theorem B_M_times_0_ok : okB M_M_times 0 B_M_times_0 7 = true := by decide +kernel
def B_M_told_0 : List IT := [(.aload_n 0, 1, oN 0 0 0, []),
  (.iload_n 1, 1, oN 1 0 0, []),
  (.invokevirtual 151, 3, oM M_M_isCar 2 6, [47, 763, 765, 38]),
  (.ifCond .ne 5, 3, oN 10 0 0, []),
  (.iconst (-1), 1, oI (-1), []),
  (.ireturn, 1, oN 0 0 0, [])]
theorem B_M_told_0_ok : okB M_M_told 0 B_M_told_0 10 = true := by decide +kernel
def B_M_told_10 : List IT := [(.iload_n 2, 1, oN 2 0 0, []),
  (.tableswitch 80 0 5 #[37, 44, 51, 58, 65, 72], 37, oS 91 [(0, 48), (1, 55), (2, 62), (3, 69), (4, 76), (5, 83)], [])]
theorem B_M_told_10_ok : okB M_M_told 10 B_M_told_10 48 = true := by decide +kernel
def B_M_told_48 : List IT := [(.aload_n 0, 1, oN 0 0 0, []),
  (.iload_n 1, 1, oN 1 0 0, []),
  (.iconst 2, 1, oI 2, []),
  (.invokevirtual 62, 3, oM M_M_of 3 6, [47, 709, 711, 28]),
  (.ireturn, 1, oN 0 0 0, [])]
theorem B_M_told_48_ok : okB M_M_told 48 B_M_told_48 55 = true := by decide +kernel
def B_M_told_55 : List IT := [(.aload_n 0, 1, oN 0 0 0, []),
  (.iload_n 1, 1, oN 1 0 0, []),
  (.iconst 1, 1, oI 1, []),
  (.invokevirtual 62, 3, oM M_M_of 3 6, [47, 709, 711, 28]),
  (.ireturn, 1, oN 0 0 0, [])]
theorem B_M_told_55_ok : okB M_M_told 55 B_M_told_55 62 = true := by decide +kernel
def B_M_told_62 : List IT := [(.aload_n 0, 1, oN 0 0 0, []),
  (.iload_n 1, 1, oN 1 0 0, []),
  (.iconst 3, 1, oI 3, []),
  (.invokevirtual 62, 3, oM M_M_of 3 6, [47, 709, 711, 28]),
  (.ireturn, 1, oN 0 0 0, [])]
theorem B_M_told_62_ok : okB M_M_told 62 B_M_told_62 69 = true := by decide +kernel
def B_M_told_69 : List IT := [(.aload_n 0, 1, oN 0 0 0, []),
  (.iload_n 1, 1, oN 1 0 0, []),
  (.iconst 4, 1, oI 4, []),
  (.invokevirtual 62, 3, oM M_M_of 3 6, [47, 709, 711, 28]),
  (.ireturn, 1, oN 0 0 0, [])]
theorem B_M_told_69_ok : okB M_M_told 69 B_M_told_69 76 = true := by decide +kernel
def B_M_told_76 : List IT := [(.aload_n 0, 1, oN 0 0 0, []),
  (.iload_n 1, 1, oN 1 0 0, []),
  (.iconst 5, 1, oI 5, []),
  (.invokevirtual 62, 3, oM M_M_of 3 6, [47, 709, 711, 28]),
  (.ireturn, 1, oN 0 0 0, [])]
theorem B_M_told_76_ok : okB M_M_told 76 B_M_told_76 83 = true := by decide +kernel
def B_M_told_83 : List IT := [(.aload_n 0, 1, oN 0 0 0, []),
  (.iload_n 1, 1, oN 1 0 0, []),
  (.bipush 6, 2, oI 6, []),
  (.invokevirtual 62, 3, oM M_M_of 3 6, [47, 709, 711, 28]),
  (.ireturn, 1, oN 0 0 0, [])]
theorem B_M_told_83_ok : okB M_M_told 83 B_M_told_83 91 = true := by decide +kernel
def B_M_told_91 : List IT := [(.iconst (-1), 1, oI (-1), []),
  (.ireturn, 1, oN 0 0 0, [])]
theorem B_M_told_91_ok : okB M_M_told 91 B_M_told_91 93 = true := by decide +kernel
def B_M_waiting_0 : List IT := [(.iload_n 1, 1, oN 1 0 0, []),
  (.iconst 0, 1, oI 0, []),
  (.aload_n 0, 1, oN 0 0 0, []),
  (.getfield 54, 3, oN 6 1 0, [596]),
  (.iconst 1, 1, oI 1, []),
  (.isub, 1, oN 0 0 0, []),
  (.invokestatic 66, 3, oM M_M_within 3 0, [47, 661, 662]),
  (.ifCond .ne 5, 3, oN 16 0 0, []),
  (.iconst (-1), 1, oI (-1), []),
  (.ireturn, 1, oN 0 0 0, [])]
theorem B_M_waiting_0_ok : okB M_M_waiting 0 B_M_waiting_0 16 = true := by decide +kernel
def B_M_waiting_16 : List IT := [(.iconst 0, 1, oI 0, []),
  (.istore_n 2, 1, oN 2 0 0, []),
  (.iconst 0, 1, oI 0, []),
  (.istore_n 3, 1, oN 3 0 0, [])]
theorem B_M_waiting_16_ok : okB M_M_waiting 16 B_M_waiting_16 20 = true := by decide +kernel
def B_M_waiting_20 : List IT := [(.iload_n 3, 1, oN 3 0 0, []),
  (.aload_n 0, 1, oN 0 0 0, []),
  (.invokevirtual 70, 3, oM M_M_cars 1 6, [47, 664, 666, 23]),
  (.if_icmp .ge 36, 3, oN 61 0 0, []),
  (.iload_n 2, 1, oN 2 0 0, []),
  (.aload_n 0, 1, oN 0 0 0, []),
  (.iload_n 3, 1, oN 3 0 0, []),
  (.iconst 2, 1, oI 2, []),
  (.invokevirtual 62, 3, oM M_M_of 3 6, [47, 709, 711, 28]),
  (.ifCond .ne 17, 3, oN 52 0 0, []),
  (.aload_n 0, 1, oN 0 0 0, []),
  (.iload_n 3, 1, oN 3 0 0, []),
  (.iconst 1, 1, oI 1, []),
  (.invokevirtual 62, 3, oM M_M_of 3 6, [47, 709, 711, 28]),
  (.iload_n 1, 1, oN 1 0 0, []),
  (.if_icmp .ne 7, 3, oN 52 0 0, []),
  (.iconst 1, 1, oI 1, []),
  (.goto 4, 3, oN 53 0 0, [])]
theorem B_M_waiting_20_ok : okB M_M_waiting 20 B_M_waiting_20 52 = true := by decide +kernel
def B_M_waiting_52 : List IT := [(.iconst 0, 1, oI 0, [])]
theorem B_M_waiting_52_ok : okB M_M_waiting 52 B_M_waiting_52 53 = true := by decide +kernel
def B_M_waiting_53 : List IT := [(.iadd, 1, oN 0 0 0, []),
  (.istore_n 2, 1, oN 2 0 0, []),
  (.iinc 3 1, 3, oJ 3 1, []),
  (.goto (-38), 3, oN 20 0 0, [])]
theorem B_M_waiting_53_ok : okB M_M_waiting 53 B_M_waiting_53 61 = true := by decide +kernel
def B_M_waiting_61 : List IT := [(.iload_n 2, 1, oN 2 0 0, []),
  (.ireturn, 1, oN 0 0 0, [])]
theorem B_M_waiting_61_ok : okB M_M_waiting 61 B_M_waiting_61 63 = true := by decide +kernel
def B_M_within_0 : List IT := [(.iload_n 0, 1, oN 0 0 0, []),
  (.iload_n 1, 1, oN 1 0 0, []),
  (.if_icmp .lt 12, 3, oN 14 0 0, []),
  (.iload_n 0, 1, oN 0 0 0, []),
  (.iload_n 2, 1, oN 2 0 0, []),
  (.if_icmp .gt 7, 3, oN 14 0 0, []),
  (.iconst 1, 1, oI 1, []),
  (.goto 4, 3, oN 15 0 0, [])]
theorem B_M_within_0_ok : okB M_M_within 0 B_M_within_0 14 = true := by decide +kernel
def B_M_within_14 : List IT := [(.iconst 0, 1, oI 0, [])]
theorem B_M_within_14_ok : okB M_M_within 14 B_M_within_14 15 = true := by decide +kernel
def B_M_within_15 : List IT := [(.ireturn, 1, oN 0 0 0, [])]
theorem B_M_within_15_ok : okB M_M_within 15 B_M_within_15 16 = true := by decide +kernel
