set_option linter.all false
def t_L_law : List IT := [(.new 7, 3, 0), (.dup, 1, 0), (.invokespecial 9, 3, 0), (.astore_n 1, 1, 0), (.new 10, 3, 0), (.dup, 1, 0), (.invokespecial 12, 3, 0), (.astore_n 2, 1, 0), (.iconst 0, 1, 0), (.istore_n 3, 1, 0), (.iload_n 3, 1, 0), (.aload_n 0, 1, 0), (.arraylength, 1, 0), (.bipush 6, 2, 0), (.isub, 1, 0), (.if_icmp .gt 1649, 3, 1237), (.aload_n 0, 1, 0), (.iload_n 3, 1, 0), (.iaload, 1, 0), (.bipush 63, 2, 0), (.iand, 1, 0), (.tableswitch 1634 0 39 #[175, 208, 241, 264, 287, 350, 383, 446, 479, 502, 525, 548, 611, 644, 677, 720, 753, 787, 830, 874, 917, 971, 1004, 1047, 1070, 1103, 1136, 1160, 1193, 1267, 1311, 1354, 1388, 1421, 1455, 1498, 1531, 1555, 1578, 1611], 175, 0), (.aload_n 1, 1, 0), (.aload_n 0, 1, 0), (.iload_n 3, 1, 0), (.iconst 1, 1, 0), (.iadd, 1, 0), (.iaload, 1, 0), (.aload_n 0, 1, 0), (.iload_n 3, 1, 0), (.iconst 2, 1, 0), (.iadd, 1, 0), (.iaload, 1, 0), (.invokevirtual 13, 3, 0), (.aload_n 2, 1, 0), (.aload_n 0, 1, 0), (.iload_n 3, 1, 0), (.iconst 1, 1, 0), (.iadd, 1, 0), (.iaload, 1, 0), (.aload_n 0, 1, 0), (.iload_n 3, 1, 0), (.iconst 2, 1, 0), (.iadd, 1, 0), (.iaload, 1, 0), (.invokevirtual 17, 3, 0), (.if_icmp .eq 1431, 3, 1235), (.iconst 0, 1, 0), (.ireturn, 1, 0), (.aload_n 1, 1, 0), (.aload_n 0, 1, 0), (.iload_n 3, 1, 0), (.iconst 1, 1, 0), (.iadd, 1, 0), (.iaload, 1, 0), (.aload_n 0, 1, 0), (.iload_n 3, 1, 0), (.iconst 2, 1, 0), (.iadd, 1, 0), (.iaload, 1, 0), (.invokevirtual 18, 3, 0), (.aload_n 2, 1, 0), (.aload_n 0, 1, 0), (.iload_n 3, 1, 0), (.iconst 1, 1, 0), (.iadd, 1, 0), (.iaload, 1, 0), (.aload_n 0, 1, 0), (.iload_n 3, 1, 0), (.iconst 2, 1, 0), (.iadd, 1, 0), (.iaload, 1, 0), (.invokevirtual 21, 3, 0), (.if_icmp .eq 1398, 3, 1235), (.iconst 0, 1, 0), (.ireturn, 1, 0), (.aload_n 1, 1, 0), (.aload_n 0, 1, 0), (.iload_n 3, 1, 0), (.iconst 1, 1, 0), (.iadd, 1, 0), (.iaload, 1, 0), (.invokevirtual 22, 3, 0), (.aload_n 2, 1, 0), (.aload_n 0, 1, 0), (.iload_n 3, 1, 0), (.iconst 1, 1, 0), (.iadd, 1, 0), (.iaload, 1, 0), (.invokevirtual 26, 3, 0), (.if_icmp .eq 1375, 3, 1235), (.iconst 0, 1, 0), (.ireturn, 1, 0), (.aload_n 1, 1, 0), (.aload_n 0, 1, 0), (.iload_n 3, 1, 0), (.iconst 1, 1, 0), (.iadd, 1, 0), (.iaload, 1, 0), (.invokevirtual 27, 3, 0), (.aload_n 2, 1, 0), (.aload_n 0, 1, 0), (.iload_n 3, 1, 0), (.iconst 1, 1, 0), (.iadd, 1, 0), (.iaload, 1, 0), (.invokevirtual 31, 3, 0), (.if_icmp .eq 1352, 3, 1235), (.iconst 0, 1, 0), (.ireturn, 1, 0), (.aload_n 1, 1, 0), (.aload_n 0, 1, 0), (.iload_n 3, 1, 0), (.iconst 1, 1, 0), (.iadd, 1, 0), (.iaload, 1, 0), (.aload_n 0, 1, 0), (.iload_n 3, 1, 0), (.iconst 2, 1, 0), (.iadd, 1, 0), (.iaload, 1, 0), (.aload_n 0, 1, 0), (.iload_n 3, 1, 0), (.iconst 3, 1, 0), (.iadd, 1, 0), (.iaload, 1, 0), (.aload_n 0, 1, 0), (.iload_n 3, 1, 0), (.iconst 4, 1, 0), (.iadd, 1, 0), (.iaload, 1, 0), (.aload_n 0, 1, 0), (.iload_n 3, 1, 0), (.iconst 5, 1, 0), (.iadd, 1, 0), (.iaload, 1, 0), (.invokevirtual 32, 3, 0), (.aload_n 2, 1, 0), (.aload_n 0, 1, 0), (.iload_n 3, 1, 0), (.iconst 1, 1, 0), (.iadd, 1, 0), (.iaload, 1, 0), (.aload_n 0, 1, 0), (.iload_n 3, 1, 0), (.iconst 2, 1, 0), (.iadd, 1, 0), (.iaload, 1, 0), (.aload_n 0, 1, 0), (.iload_n 3, 1, 0), (.iconst 3, 1, 0), (.iadd, 1, 0), (.iaload, 1, 0), (.aload_n 0, 1, 0), (.iload_n 3, 1, 0), (.iconst 4, 1, 0), (.iadd, 1, 0), (.iaload, 1, 0), (.aload_n 0, 1, 0), (.iload_n 3, 1, 0), (.iconst 5, 1, 0), (.iadd, 1, 0), (.iaload, 1, 0), (.invokevirtual 36, 3, 0), (.if_icmp .eq 1289, 3, 1235), (.iconst 0, 1, 0), (.ireturn, 1, 0), (.aload_n 1, 1, 0), (.aload_n 0, 1, 0), (.iload_n 3, 1, 0), (.iconst 1, 1, 0), (.iadd, 1, 0), (.iaload, 1, 0), (.aload_n 0, 1, 0), (.iload_n 3, 1, 0), (.iconst 2, 1, 0), (.iadd, 1, 0), (.iaload, 1, 0), (.invokevirtual 37, 3, 0), (.aload_n 2, 1, 0), (.aload_n 0, 1, 0), (.iload_n 3, 1, 0), (.iconst 1, 1, 0), (.iadd, 1, 0), (.iaload, 1, 0), (.aload_n 0, 1, 0), (.iload_n 3, 1, 0), (.iconst 2, 1, 0), (.iadd, 1, 0), (.iaload, 1, 0), (.invokevirtual 41, 3, 0), (.if_icmp .eq 1256, 3, 1235), (.iconst 0, 1, 0), (.ireturn, 1, 0), (.aload_n 1, 1, 0), (.aload_n 0, 1, 0), (.iload_n 3, 1, 0), (.iconst 1, 1, 0), (.iadd, 1, 0), (.iaload, 1, 0), (.aload_n 0, 1, 0), (.iload_n 3, 1, 0), (.iconst 2, 1, 0), (.iadd, 1, 0), (.iaload, 1, 0), (.aload_n 0, 1, 0), (.iload_n 3, 1, 0), (.iconst 3, 1, 0), (.iadd, 1, 0), (.iaload, 1, 0), (.aload_n 0, 1, 0), (.iload_n 3, 1, 0), (.iconst 4, 1, 0), (.iadd, 1, 0), (.iaload, 1, 0), (.aload_n 0, 1, 0), (.iload_n 3, 1, 0), (.iconst 5, 1, 0), (.iadd, 1, 0), (.iaload, 1, 0), (.invokevirtual 42, 3, 0), (.aload_n 2, 1, 0), (.aload_n 0, 1, 0), (.iload_n 3, 1, 0), (.iconst 1, 1, 0), (.iadd, 1, 0), (.iaload, 1, 0), (.aload_n 0, 1, 0), (.iload_n 3, 1, 0), (.iconst 2, 1, 0), (.iadd, 1, 0), (.iaload, 1, 0), (.aload_n 0, 1, 0), (.iload_n 3, 1, 0), (.iconst 3, 1, 0), (.iadd, 1, 0), (.iaload, 1, 0), (.aload_n 0, 1, 0), (.iload_n 3, 1, 0), (.iconst 4, 1, 0), (.iadd, 1, 0), (.iaload, 1, 0), (.aload_n 0, 1, 0), (.iload_n 3, 1, 0), (.iconst 5, 1, 0), (.iadd, 1, 0), (.iaload, 1, 0), (.invokevirtual 45, 3, 0), (.if_icmp .eq 1193, 3, 1235), (.iconst 0, 1, 0), (.ireturn, 1, 0), (.aload_n 1, 1, 0), (.aload_n 0, 1, 0), (.iload_n 3, 1, 0), (.iconst 1, 1, 0), (.iadd, 1, 0), (.iaload, 1, 0), (.aload_n 0, 1, 0), (.iload_n 3, 1, 0), (.iconst 2, 1, 0), (.iadd, 1, 0), (.iaload, 1, 0), (.invokevirtual 46, 3, 0), (.aload_n 2, 1, 0), (.aload_n 0, 1, 0), (.iload_n 3, 1, 0), (.iconst 1, 1, 0), (.iadd, 1, 0), (.iaload, 1, 0), (.aload_n 0, 1, 0), (.iload_n 3, 1, 0), (.iconst 2, 1, 0), (.iadd, 1, 0), (.iaload, 1, 0), (.invokevirtual 49, 3, 0), (.if_icmp .eq 1160, 3, 1235), (.iconst 0, 1, 0), (.ireturn, 1, 0), (.aload_n 1, 1, 0), (.aload_n 0, 1, 0), (.iload_n 3, 1, 0), (.iconst 1, 1, 0), (.iadd, 1, 0), (.iaload, 1, 0), (.invokevirtual 50, 3, 0), (.aload_n 2, 1, 0), (.aload_n 0, 1, 0), (.iload_n 3, 1, 0), (.iconst 1, 1, 0), (.iadd, 1, 0), (.iaload, 1, 0), (.invokevirtual 53, 3, 0), (.if_icmp .eq 1137, 3, 1235), (.iconst 0, 1, 0), (.ireturn, 1, 0), (.aload_n 1, 1, 0), (.aload_n 0, 1, 0), (.iload_n 3, 1, 0), (.iconst 1, 1, 0), (.iadd, 1, 0), (.iaload, 1, 0), (.invokevirtual 54, 3, 0), (.aload_n 2, 1, 0), (.aload_n 0, 1, 0), (.iload_n 3, 1, 0), (.iconst 1, 1, 0), (.iadd, 1, 0), (.iaload, 1, 0), (.invokevirtual 57, 3, 0), (.if_icmp .eq 1114, 3, 1235), (.iconst 0, 1, 0), (.ireturn, 1, 0), (.aload_n 1, 1, 0), (.aload_n 0, 1, 0), (.iload_n 3, 1, 0), (.iconst 1, 1, 0), (.iadd, 1, 0), (.iaload, 1, 0), (.invokevirtual 58, 3, 0), (.aload_n 2, 1, 0), (.aload_n 0, 1, 0), (.iload_n 3, 1, 0), (.iconst 1, 1, 0), (.iadd, 1, 0), (.iaload, 1, 0), (.invokevirtual 61, 3, 0), (.if_icmp .eq 1091, 3, 1235), (.iconst 0, 1, 0), (.ireturn, 1, 0), (.aload_n 1, 1, 0), (.aload_n 0, 1, 0), (.iload_n 3, 1, 0), (.iconst 1, 1, 0), (.iadd, 1, 0), (.iaload, 1, 0), (.aload_n 0, 1, 0), (.iload_n 3, 1, 0), (.iconst 2, 1, 0), (.iadd, 1, 0), (.iaload, 1, 0), (.aload_n 0, 1, 0), (.iload_n 3, 1, 0), (.iconst 3, 1, 0), (.iadd, 1, 0), (.iaload, 1, 0), (.aload_n 0, 1, 0), (.iload_n 3, 1, 0), (.iconst 4, 1, 0), (.iadd, 1, 0), (.iaload, 1, 0), (.aload_n 0, 1, 0), (.iload_n 3, 1, 0), (.iconst 5, 1, 0), (.iadd, 1, 0), (.iaload, 1, 0), (.invokevirtual 62, 3, 0), (.aload_n 2, 1, 0), (.aload_n 0, 1, 0), (.iload_n 3, 1, 0), (.iconst 1, 1, 0), (.iadd, 1, 0), (.iaload, 1, 0), (.aload_n 0, 1, 0), (.iload_n 3, 1, 0), (.iconst 2, 1, 0), (.iadd, 1, 0), (.iaload, 1, 0), (.aload_n 0, 1, 0), (.iload_n 3, 1, 0), (.iconst 3, 1, 0), (.iadd, 1, 0), (.iaload, 1, 0), (.aload_n 0, 1, 0), (.iload_n 3, 1, 0), (.iconst 4, 1, 0), (.iadd, 1, 0), (.iaload, 1, 0), (.aload_n 0, 1, 0), (.iload_n 3, 1, 0), (.iconst 5, 1, 0), (.iadd, 1, 0), (.iaload, 1, 0), (.invokevirtual 65, 3, 0), (.if_icmp .eq 1028, 3, 1235), (.iconst 0, 1, 0), (.ireturn, 1, 0), (.aload_n 1, 1, 0), (.aload_n 0, 1, 0), (.iload_n 3, 1, 0), (.iconst 1, 1, 0), (.iadd, 1, 0), (.iaload, 1, 0), (.aload_n 0, 1, 0), (.iload_n 3, 1, 0), (.iconst 2, 1, 0), (.iadd, 1, 0), (.iaload, 1, 0), (.invokevirtual 66, 3, 0), (.aload_n 2, 1, 0), (.aload_n 0, 1, 0), (.iload_n 3, 1, 0), (.iconst 1, 1, 0), (.iadd, 1, 0), (.iaload, 1, 0), (.aload_n 0, 1, 0), (.iload_n 3, 1, 0), (.iconst 2, 1, 0), (.iadd, 1, 0), (.iaload, 1, 0), (.invokevirtual 69, 3, 0), (.if_icmp .eq 995, 3, 1235), (.iconst 0, 1, 0), (.ireturn, 1, 0), (.aload_n 1, 1, 0), (.aload_n 0, 1, 0), (.iload_n 3, 1, 0), (.iconst 1, 1, 0), (.iadd, 1, 0), (.iaload, 1, 0), (.aload_n 0, 1, 0), (.iload_n 3, 1, 0), (.iconst 2, 1, 0), (.iadd, 1, 0), (.iaload, 1, 0), (.invokevirtual 70, 3, 0), (.aload_n 2, 1, 0), (.aload_n 0, 1, 0), (.iload_n 3, 1, 0), (.iconst 1, 1, 0), (.iadd, 1, 0), (.iaload, 1, 0), (.aload_n 0, 1, 0), (.iload_n 3, 1, 0), (.iconst 2, 1, 0), (.iadd, 1, 0), (.iaload, 1, 0), (.invokevirtual 73, 3, 0), (.if_icmp .eq 962, 3, 1235), (.iconst 0, 1, 0), (.ireturn, 1, 0), (.aload_n 1, 1, 0), (.aload_n 0, 1, 0), (.iload_n 3, 1, 0), (.iconst 1, 1, 0), (.iadd, 1, 0), (.iaload, 1, 0), (.aload_n 0, 1, 0), (.iload_n 3, 1, 0), (.iconst 2, 1, 0), (.iadd, 1, 0), (.iaload, 1, 0), (.aload_n 0, 1, 0), (.iload_n 3, 1, 0), (.iconst 3, 1, 0), (.iadd, 1, 0), (.iaload, 1, 0), (.invokevirtual 74, 3, 0), (.aload_n 2, 1, 0), (.aload_n 0, 1, 0), (.iload_n 3, 1, 0), (.iconst 1, 1, 0), (.iadd, 1, 0), (.iaload, 1, 0), (.aload_n 0, 1, 0), (.iload_n 3, 1, 0), (.iconst 2, 1, 0), (.iadd, 1, 0), (.iaload, 1, 0), (.aload_n 0, 1, 0), (.iload_n 3, 1, 0), (.iconst 3, 1, 0), (.iadd, 1, 0), (.iaload, 1, 0), (.invokevirtual 78, 3, 0), (.if_icmp .eq 919, 3, 1235), (.iconst 0, 1, 0), (.ireturn, 1, 0), (.aload_n 1, 1, 0), (.aload_n 0, 1, 0), (.iload_n 3, 1, 0), (.iconst 1, 1, 0), (.iadd, 1, 0), (.iaload, 1, 0), (.aload_n 0, 1, 0), (.iload_n 3, 1, 0), (.iconst 2, 1, 0), (.iadd, 1, 0), (.iaload, 1, 0), (.invokevirtual 79, 3, 0), (.aload_n 2, 1, 0), (.aload_n 0, 1, 0), (.iload_n 3, 1, 0), (.iconst 1, 1, 0), (.iadd, 1, 0), (.iaload, 1, 0), (.aload_n 0, 1, 0), (.iload_n 3, 1, 0), (.iconst 2, 1, 0), (.iadd, 1, 0), (.iaload, 1, 0), (.invokevirtual 82, 3, 0), (.if_icmp .eq 886, 3, 1235), (.iconst 0, 1, 0), (.ireturn, 1, 0), (.aload_n 1, 1, 0), (.aload_n 0, 1, 0), (.iload_n 3, 1, 0), (.iconst 1, 1, 0), (.iadd, 1, 0), (.iaload, 1, 0), (.aload_n 0, 1, 0), (.iload_n 3, 1, 0), (.iconst 2, 1, 0), (.iadd, 1, 0), (.iaload, 1, 0), (.invokevirtual 83, 3, 0), (.aload_n 2, 1, 0), (.aload_n 0, 1, 0), (.iload_n 3, 1, 0), (.iconst 1, 1, 0), (.iadd, 1, 0), (.iaload, 1, 0), (.aload_n 0, 1, 0), (.iload_n 3, 1, 0), (.iconst 2, 1, 0), (.iadd, 1, 0), (.iaload, 1, 0), (.invokevirtual 87, 3, 0), (.lcmp, 1, 0), (.ifCond .eq 852, 3, 1235), (.iconst 0, 1, 0), (.ireturn, 1, 0), (.aload_n 1, 1, 0), (.aload_n 0, 1, 0), (.iload_n 3, 1, 0), (.iconst 1, 1, 0), (.iadd, 1, 0), (.iaload, 1, 0), (.aload_n 0, 1, 0), (.iload_n 3, 1, 0), (.iconst 2, 1, 0), (.iadd, 1, 0), (.iaload, 1, 0), (.aload_n 0, 1, 0), (.iload_n 3, 1, 0), (.iconst 3, 1, 0), (.iadd, 1, 0), (.iaload, 1, 0), (.invokevirtual 88, 3, 0), (.aload_n 2, 1, 0), (.aload_n 0, 1, 0), (.iload_n 3, 1, 0), (.iconst 1, 1, 0), (.iadd, 1, 0), (.iaload, 1, 0), (.aload_n 0, 1, 0), (.iload_n 3, 1, 0), (.iconst 2, 1, 0), (.iadd, 1, 0), (.iaload, 1, 0), (.aload_n 0, 1, 0), (.iload_n 3, 1, 0), (.iconst 3, 1, 0), (.iadd, 1, 0), (.iaload, 1, 0), (.invokevirtual 91, 3, 0), (.if_icmp .eq 809, 3, 1235), (.iconst 0, 1, 0), (.ireturn, 1, 0), (.aload_n 1, 1, 0), (.aload_n 0, 1, 0), (.iload_n 3, 1, 0), (.iconst 1, 1, 0), (.iadd, 1, 0), (.iaload, 1, 0), (.aload_n 0, 1, 0), (.iload_n 3, 1, 0), (.iconst 2, 1, 0), (.iadd, 1, 0), (.iaload, 1, 0), (.aload_n 0, 1, 0), (.iload_n 3, 1, 0), (.iconst 3, 1, 0), (.iadd, 1, 0), (.iaload, 1, 0), (.invokevirtual 92, 3, 0), (.aload_n 2, 1, 0), (.aload_n 0, 1, 0), (.iload_n 3, 1, 0), (.iconst 1, 1, 0), (.iadd, 1, 0), (.iaload, 1, 0), (.aload_n 0, 1, 0), (.iload_n 3, 1, 0), (.iconst 2, 1, 0), (.iadd, 1, 0), (.iaload, 1, 0), (.aload_n 0, 1, 0), (.iload_n 3, 1, 0), (.iconst 3, 1, 0), (.iadd, 1, 0), (.iaload, 1, 0), (.invokevirtual 96, 3, 0), (.lcmp, 1, 0), (.ifCond .eq 765, 3, 1235), (.iconst 0, 1, 0), (.ireturn, 1, 0), (.aload_n 1, 1, 0), (.aload_n 0, 1, 0), (.iload_n 3, 1, 0), (.iconst 1, 1, 0), (.iadd, 1, 0), (.iaload, 1, 0), (.aload_n 0, 1, 0), (.iload_n 3, 1, 0), (.iconst 2, 1, 0), (.iadd, 1, 0), (.iaload, 1, 0), (.aload_n 0, 1, 0), (.iload_n 3, 1, 0), (.iconst 3, 1, 0), (.iadd, 1, 0), (.iaload, 1, 0), (.invokevirtual 97, 3, 0), (.aload_n 2, 1, 0), (.aload_n 0, 1, 0), (.iload_n 3, 1, 0), (.iconst 1, 1, 0), (.iadd, 1, 0), (.iaload, 1, 0), (.aload_n 0, 1, 0), (.iload_n 3, 1, 0), (.iconst 2, 1, 0), (.iadd, 1, 0), (.iaload, 1, 0), (.aload_n 0, 1, 0), (.iload_n 3, 1, 0), (.iconst 3, 1, 0), (.iadd, 1, 0), (.iaload, 1, 0), (.invokevirtual 100, 3, 0), (.if_icmp .eq 722, 3, 1235), (.iconst 0, 1, 0), (.ireturn, 1, 0), (.aload_n 1, 1, 0), (.aload_n 0, 1, 0), (.iload_n 3, 1, 0), (.iconst 1, 1, 0), (.iadd, 1, 0), (.iaload, 1, 0), (.aload_n 0, 1, 0), (.iload_n 3, 1, 0), (.iconst 2, 1, 0), (.iadd, 1, 0), (.iaload, 1, 0), (.aload_n 0, 1, 0), (.iload_n 3, 1, 0), (.iconst 3, 1, 0), (.iadd, 1, 0), (.iaload, 1, 0), (.aload_n 0, 1, 0), (.iload_n 3, 1, 0), (.iconst 4, 1, 0), (.iadd, 1, 0), (.iaload, 1, 0), (.invokevirtual 101, 3, 0), (.aload_n 2, 1, 0), (.aload_n 0, 1, 0), (.iload_n 3, 1, 0), (.iconst 1, 1, 0), (.iadd, 1, 0), (.iaload, 1, 0), (.aload_n 0, 1, 0), (.iload_n 3, 1, 0), (.iconst 2, 1, 0), (.iadd, 1, 0), (.iaload, 1, 0), (.aload_n 0, 1, 0), (.iload_n 3, 1, 0), (.iconst 3, 1, 0), (.iadd, 1, 0), (.iaload, 1, 0), (.aload_n 0, 1, 0), (.iload_n 3, 1, 0), (.iconst 4, 1, 0), (.iadd, 1, 0), (.iaload, 1, 0), (.invokevirtual 105, 3, 0), (.lcmp, 1, 0), (.ifCond .eq 668, 3, 1235), (.iconst 0, 1, 0), (.ireturn, 1, 0), (.aload_n 1, 1, 0), (.aload_n 0, 1, 0), (.iload_n 3, 1, 0), (.iconst 1, 1, 0), (.iadd, 1, 0), (.iaload, 1, 0), (.aload_n 0, 1, 0), (.iload_n 3, 1, 0), (.iconst 2, 1, 0), (.iadd, 1, 0), (.iaload, 1, 0), (.invokevirtual 106, 3, 0), (.aload_n 2, 1, 0), (.aload_n 0, 1, 0), (.iload_n 3, 1, 0), (.iconst 1, 1, 0), (.iadd, 1, 0), (.iaload, 1, 0), (.aload_n 0, 1, 0), (.iload_n 3, 1, 0), (.iconst 2, 1, 0), (.iadd, 1, 0), (.iaload, 1, 0), (.invokevirtual 109, 3, 0), (.if_icmp .eq 635, 3, 1235), (.iconst 0, 1, 0), (.ireturn, 1, 0), (.aload_n 1, 1, 0), (.aload_n 0, 1, 0), (.iload_n 3, 1, 0), (.iconst 1, 1, 0), (.iadd, 1, 0), (.iaload, 1, 0), (.aload_n 0, 1, 0), (.iload_n 3, 1, 0), (.iconst 2, 1, 0), (.iadd, 1, 0), (.iaload, 1, 0), (.aload_n 0, 1, 0), (.iload_n 3, 1, 0), (.iconst 3, 1, 0), (.iadd, 1, 0), (.iaload, 1, 0), (.invokevirtual 110, 3, 0), (.aload_n 2, 1, 0), (.aload_n 0, 1, 0), (.iload_n 3, 1, 0), (.iconst 1, 1, 0), (.iadd, 1, 0), (.iaload, 1, 0), (.aload_n 0, 1, 0), (.iload_n 3, 1, 0), (.iconst 2, 1, 0), (.iadd, 1, 0), (.iaload, 1, 0), (.aload_n 0, 1, 0), (.iload_n 3, 1, 0), (.iconst 3, 1, 0), (.iadd, 1, 0), (.iaload, 1, 0), (.invokevirtual 113, 3, 0), (.if_icmp .eq 592, 3, 1235), (.iconst 0, 1, 0), (.ireturn, 1, 0), (.aload_n 1, 1, 0), (.aload_n 0, 1, 0), (.iload_n 3, 1, 0), (.iconst 1, 1, 0), (.iadd, 1, 0), (.iaload, 1, 0), (.invokevirtual 114, 3, 0), (.aload_n 2, 1, 0), (.aload_n 0, 1, 0), (.iload_n 3, 1, 0), (.iconst 1, 1, 0), (.iadd, 1, 0), (.iaload, 1, 0), (.invokevirtual 117, 3, 0), (.if_icmp .eq 569, 3, 1235), (.iconst 0, 1, 0), (.ireturn, 1, 0), (.aload_n 1, 1, 0), (.aload_n 0, 1, 0), (.iload_n 3, 1, 0), (.iconst 1, 1, 0), (.iadd, 1, 0), (.iaload, 1, 0), (.aload_n 0, 1, 0), (.iload_n 3, 1, 0), (.iconst 2, 1, 0), (.iadd, 1, 0), (.iaload, 1, 0), (.invokevirtual 118, 3, 0), (.aload_n 2, 1, 0), (.aload_n 0, 1, 0), (.iload_n 3, 1, 0), (.iconst 1, 1, 0), (.iadd, 1, 0), (.iaload, 1, 0), (.aload_n 0, 1, 0), (.iload_n 3, 1, 0), (.iconst 2, 1, 0), (.iadd, 1, 0), (.iaload, 1, 0), (.invokevirtual 121, 3, 0), (.if_icmp .eq 536, 3, 1235), (.iconst 0, 1, 0), (.ireturn, 1, 0), (.aload_n 1, 1, 0), (.aload_n 0, 1, 0), (.iload_n 3, 1, 0), (.iconst 1, 1, 0), (.iadd, 1, 0), (.iaload, 1, 0), (.aload_n 0, 1, 0), (.iload_n 3, 1, 0), (.iconst 2, 1, 0), (.iadd, 1, 0), (.iaload, 1, 0), (.invokevirtual 122, 3, 0), (.aload_n 2, 1, 0), (.aload_n 0, 1, 0), (.iload_n 3, 1, 0), (.iconst 1, 1, 0), (.iadd, 1, 0), (.iaload, 1, 0), (.aload_n 0, 1, 0), (.iload_n 3, 1, 0), (.iconst 2, 1, 0), (.iadd, 1, 0), (.iaload, 1, 0), (.invokevirtual 125, 3, 0), (.if_icmp .eq 503, 3, 1235), (.iconst 0, 1, 0), (.ireturn, 1, 0), (.aload_n 1, 1, 0), (.aload_n 0, 1, 0), (.iload_n 3, 1, 0), (.iconst 1, 1, 0), (.iadd, 1, 0), (.iaload, 1, 0), (.invokevirtual 126, 3, 0), (.aload_n 2, 1, 0), (.aload_n 0, 1, 0), (.iload_n 3, 1, 0), (.iconst 1, 1, 0), (.iadd, 1, 0), (.iaload, 1, 0), (.invokevirtual 130, 3, 0), (.lcmp, 1, 0), (.ifCond .eq 479, 3, 1235), (.iconst 0, 1, 0), (.ireturn, 1, 0), (.aload_n 1, 1, 0), (.aload_n 0, 1, 0), (.iload_n 3, 1, 0), (.iconst 1, 1, 0), (.iadd, 1, 0), (.iaload, 1, 0), (.aload_n 0, 1, 0), (.iload_n 3, 1, 0), (.iconst 2, 1, 0), (.iadd, 1, 0), (.iaload, 1, 0), (.invokevirtual 131, 3, 0), (.aload_n 2, 1, 0), (.aload_n 0, 1, 0), (.iload_n 3, 1, 0), (.iconst 1, 1, 0), (.iadd, 1, 0), (.iaload, 1, 0), (.aload_n 0, 1, 0), (.iload_n 3, 1, 0), (.iconst 2, 1, 0), (.iadd, 1, 0), (.iaload, 1, 0), (.invokevirtual 134, 3, 0), (.if_icmp .eq 446, 3, 1235), (.iconst 0, 1, 0), (.ireturn, 1, 0), (.aload_n 1, 1, 0), (.aload_n 0, 1, 0), (.iload_n 3, 1, 0), (.iconst 1, 1, 0), (.iadd, 1, 0), (.iaload, 1, 0), (.i2l, 1, 0), (.bipush 32, 2, 0), (.lshl, 1, 0), (.aload_n 0, 1, 0), (.iload_n 3, 1, 0), (.iconst 2, 1, 0), (.iadd, 1, 0), (.iaload, 1, 0), (.i2l, 1, 0), (.ldc2_w 135, 3, 0), (.land, 1, 0), (.lor, 1, 0), (.aload_n 0, 1, 0), (.iload_n 3, 1, 0), (.iconst 3, 1, 0), (.iadd, 1, 0), (.iaload, 1, 0), (.aload_n 0, 1, 0), (.iload_n 3, 1, 0), (.iconst 4, 1, 0), (.iadd, 1, 0), (.iaload, 1, 0), (.invokevirtual 137, 3, 0), (.aload_n 2, 1, 0), (.aload_n 0, 1, 0), (.iload_n 3, 1, 0), (.iconst 1, 1, 0), (.iadd, 1, 0), (.iaload, 1, 0), (.i2l, 1, 0), (.bipush 32, 2, 0), (.lshl, 1, 0), (.aload_n 0, 1, 0), (.iload_n 3, 1, 0), (.iconst 2, 1, 0), (.iadd, 1, 0), (.iaload, 1, 0), (.i2l, 1, 0), (.ldc2_w 135, 3, 0), (.land, 1, 0), (.lor, 1, 0), (.aload_n 0, 1, 0), (.iload_n 3, 1, 0), (.iconst 3, 1, 0), (.iadd, 1, 0), (.iaload, 1, 0), (.aload_n 0, 1, 0), (.iload_n 3, 1, 0), (.iconst 4, 1, 0), (.iadd, 1, 0), (.iaload, 1, 0), (.invokevirtual 141, 3, 0), (.lcmp, 1, 0), (.ifCond .eq 372, 3, 1235), (.iconst 0, 1, 0), (.ireturn, 1, 0), (.aload_n 1, 1, 0), (.aload_n 0, 1, 0), (.iload_n 3, 1, 0), (.iconst 1, 1, 0), (.iadd, 1, 0), (.iaload, 1, 0), (.aload_n 0, 1, 0), (.iload_n 3, 1, 0), (.iconst 2, 1, 0), (.iadd, 1, 0), (.iaload, 1, 0), (.aload_n 0, 1, 0), (.iload_n 3, 1, 0), (.iconst 3, 1, 0), (.iadd, 1, 0), (.iaload, 1, 0), (.invokevirtual 142, 3, 0), (.aload_n 2, 1, 0), (.aload_n 0, 1, 0), (.iload_n 3, 1, 0), (.iconst 1, 1, 0), (.iadd, 1, 0), (.iaload, 1, 0), (.aload_n 0, 1, 0), (.iload_n 3, 1, 0), (.iconst 2, 1, 0), (.iadd, 1, 0), (.iaload, 1, 0), (.aload_n 0, 1, 0), (.iload_n 3, 1, 0), (.iconst 3, 1, 0), (.iadd, 1, 0), (.iaload, 1, 0), (.invokevirtual 145, 3, 0), (.lcmp, 1, 0), (.ifCond .eq 328, 3, 1235), (.iconst 0, 1, 0), (.ireturn, 1, 0), (.aload_n 1, 1, 0), (.aload_n 0, 1, 0), (.iload_n 3, 1, 0), (.iconst 1, 1, 0), (.iadd, 1, 0), (.iaload, 1, 0), (.aload_n 0, 1, 0), (.iload_n 3, 1, 0), (.iconst 2, 1, 0), (.iadd, 1, 0), (.iaload, 1, 0), (.aload_n 0, 1, 0), (.iload_n 3, 1, 0), (.iconst 3, 1, 0), (.iadd, 1, 0), (.iaload, 1, 0), (.invokevirtual 146, 3, 0), (.aload_n 2, 1, 0), (.aload_n 0, 1, 0), (.iload_n 3, 1, 0), (.iconst 1, 1, 0), (.iadd, 1, 0), (.iaload, 1, 0), (.aload_n 0, 1, 0), (.iload_n 3, 1, 0), (.iconst 2, 1, 0), (.iadd, 1, 0), (.iaload, 1, 0), (.aload_n 0, 1, 0), (.iload_n 3, 1, 0), (.iconst 3, 1, 0), (.iadd, 1, 0), (.iaload, 1, 0), (.invokevirtual 149, 3, 0), (.if_icmp .eq 285, 3, 1235), (.iconst 0, 1, 0), (.ireturn, 1, 0), (.aload_n 1, 1, 0), (.aload_n 0, 1, 0), (.iload_n 3, 1, 0), (.iconst 1, 1, 0), (.iadd, 1, 0), (.iaload, 1, 0), (.aload_n 0, 1, 0), (.iload_n 3, 1, 0), (.iconst 2, 1, 0), (.iadd, 1, 0), (.iaload, 1, 0), (.invokevirtual 150, 3, 0), (.aload_n 2, 1, 0), (.aload_n 0, 1, 0), (.iload_n 3, 1, 0), (.iconst 1, 1, 0), (.iadd, 1, 0), (.iaload, 1, 0), (.aload_n 0, 1, 0), (.iload_n 3, 1, 0), (.iconst 2, 1, 0), (.iadd, 1, 0), (.iaload, 1, 0), (.invokevirtual 153, 3, 0), (.lcmp, 1, 0), (.ifCond .eq 251, 3, 1235), (.iconst 0, 1, 0), (.ireturn, 1, 0), (.aload_n 1, 1, 0), (.aload_n 0, 1, 0), (.iload_n 3, 1, 0), (.iconst 1, 1, 0), (.iadd, 1, 0), (.iaload, 1, 0), (.aload_n 0, 1, 0), (.iload_n 3, 1, 0), (.iconst 2, 1, 0), (.iadd, 1, 0), (.iaload, 1, 0), (.invokevirtual 154, 3, 0), (.aload_n 2, 1, 0), (.aload_n 0, 1, 0), (.iload_n 3, 1, 0), (.iconst 1, 1, 0), (.iadd, 1, 0), (.iaload, 1, 0), (.aload_n 0, 1, 0), (.iload_n 3, 1, 0), (.iconst 2, 1, 0), (.iadd, 1, 0), (.iaload, 1, 0), (.invokevirtual 157, 3, 0), (.if_icmp .eq 218, 3, 1235), (.iconst 0, 1, 0), (.ireturn, 1, 0), (.aload_n 1, 1, 0), (.aload_n 0, 1, 0), (.iload_n 3, 1, 0), (.iconst 1, 1, 0), (.iadd, 1, 0), (.iaload, 1, 0), (.aload_n 0, 1, 0), (.iload_n 3, 1, 0), (.iconst 2, 1, 0), (.iadd, 1, 0), (.iaload, 1, 0), (.invokevirtual 158, 3, 0), (.aload_n 2, 1, 0), (.aload_n 0, 1, 0), (.iload_n 3, 1, 0), (.iconst 1, 1, 0), (.iadd, 1, 0), (.iaload, 1, 0), (.aload_n 0, 1, 0), (.iload_n 3, 1, 0), (.iconst 2, 1, 0), (.iadd, 1, 0), (.iaload, 1, 0), (.invokevirtual 161, 3, 0), (.lcmp, 1, 0), (.ifCond .eq 184, 3, 1235), (.iconst 0, 1, 0), (.ireturn, 1, 0), (.aload_n 1, 1, 0), (.aload_n 0, 1, 0), (.iload_n 3, 1, 0), (.iconst 1, 1, 0), (.iadd, 1, 0), (.iaload, 1, 0), (.aload_n 0, 1, 0), (.iload_n 3, 1, 0), (.iconst 2, 1, 0), (.iadd, 1, 0), (.iaload, 1, 0), (.aload_n 0, 1, 0), (.iload_n 3, 1, 0), (.iconst 3, 1, 0), (.iadd, 1, 0), (.iaload, 1, 0), (.invokevirtual 162, 3, 0), (.aload_n 2, 1, 0), (.aload_n 0, 1, 0), (.iload_n 3, 1, 0), (.iconst 1, 1, 0), (.iadd, 1, 0), (.iaload, 1, 0), (.aload_n 0, 1, 0), (.iload_n 3, 1, 0), (.iconst 2, 1, 0), (.iadd, 1, 0), (.iaload, 1, 0), (.aload_n 0, 1, 0), (.iload_n 3, 1, 0), (.iconst 3, 1, 0), (.iadd, 1, 0), (.iaload, 1, 0), (.invokevirtual 166, 3, 0), (.if_icmp .eq 141, 3, 1235), (.iconst 0, 1, 0), (.ireturn, 1, 0), (.aload_n 1, 1, 0), (.aload_n 0, 1, 0), (.iload_n 3, 1, 0), (.iconst 1, 1, 0), (.iadd, 1, 0), (.iaload, 1, 0), (.aload_n 0, 1, 0), (.iload_n 3, 1, 0), (.iconst 2, 1, 0), (.iadd, 1, 0), (.iaload, 1, 0), (.invokevirtual 167, 3, 0), (.aload_n 2, 1, 0), (.aload_n 0, 1, 0), (.iload_n 3, 1, 0), (.iconst 1, 1, 0), (.iadd, 1, 0), (.iaload, 1, 0), (.aload_n 0, 1, 0), (.iload_n 3, 1, 0), (.iconst 2, 1, 0), (.iadd, 1, 0), (.iaload, 1, 0), (.invokevirtual 170, 3, 0), (.if_icmp .eq 108, 3, 1235), (.iconst 0, 1, 0), (.ireturn, 1, 0), (.aload_n 1, 1, 0), (.aload_n 0, 1, 0), (.iload_n 3, 1, 0), (.iconst 1, 1, 0), (.iadd, 1, 0), (.iaload, 1, 0), (.invokevirtual 171, 3, 0), (.aload_n 2, 1, 0), (.aload_n 0, 1, 0), (.iload_n 3, 1, 0), (.iconst 1, 1, 0), (.iadd, 1, 0), (.iaload, 1, 0), (.invokevirtual 174, 3, 0), (.lcmp, 1, 0), (.ifCond .eq 84, 3, 1235), (.iconst 0, 1, 0), (.ireturn, 1, 0), (.aload_n 1, 1, 0), (.aload_n 0, 1, 0), (.iload_n 3, 1, 0), (.iconst 1, 1, 0), (.iadd, 1, 0), (.iaload, 1, 0), (.invokevirtual 175, 3, 0), (.aload_n 2, 1, 0), (.aload_n 0, 1, 0), (.iload_n 3, 1, 0), (.iconst 1, 1, 0), (.iadd, 1, 0), (.iaload, 1, 0), (.invokevirtual 178, 3, 0), (.if_icmp .eq 61, 3, 1235), (.iconst 0, 1, 0), (.ireturn, 1, 0), (.aload_n 1, 1, 0), (.aload_n 0, 1, 0), (.iload_n 3, 1, 0), (.iconst 1, 1, 0), (.iadd, 1, 0), (.iaload, 1, 0), (.aload_n 0, 1, 0), (.iload_n 3, 1, 0), (.iconst 2, 1, 0), (.iadd, 1, 0), (.iaload, 1, 0), (.invokevirtual 179, 3, 0), (.aload_n 2, 1, 0), (.aload_n 0, 1, 0), (.iload_n 3, 1, 0), (.iconst 1, 1, 0), (.iadd, 1, 0), (.iaload, 1, 0), (.aload_n 0, 1, 0), (.iload_n 3, 1, 0), (.iconst 2, 1, 0), (.iadd, 1, 0), (.iaload, 1, 0), (.invokevirtual 182, 3, 0), (.if_icmp .eq 28, 3, 1235), (.iconst 0, 1, 0), (.ireturn, 1, 0), (.aload_n 1, 1, 0), (.aload_n 0, 1, 0), (.iload_n 3, 1, 0), (.iconst 1, 1, 0), (.iadd, 1, 0), (.iaload, 1, 0), (.invokevirtual 183, 3, 0), (.aload_n 2, 1, 0), (.aload_n 0, 1, 0), (.iload_n 3, 1, 0), (.iconst 1, 1, 0), (.iadd, 1, 0), (.iaload, 1, 0), (.invokevirtual 186, 3, 0), (.if_icmp .eq 5, 3, 1235), (.iconst 0, 1, 0), (.ireturn, 1, 0), (.iinc 3 6, 3, 0), (.goto (-1652), 3, 10), (.iconst 1, 1, 0), (.ireturn, 1, 0)]
abbrev M_L_law : Mx := (22, t_L_law, code, 4, some .boolean)
theorem k_L_law : tabOK M_L_law = true := by decide +kernel
/-- what the law's walk knows besides: the script, its own end, its room -/
def LK (K : Kx) (L : Nat) (xs : Nat → Int) : Prop := match K with
  | ((l, D, cy, b0, aS, aV), p, e, R, s, m, args, below, meth, c, Q) => va_X (aS 2000) L (fun j => Int32.ofInt (xs j)) s s.heap ∧ aS 2000 < s.heap.size ∧ ¬ b0 ≤ aS 2000 ∧ b0 = s.heap.size ∧ R = room_1 ∧ ∀ (pc : Nat) (H : Heap) (ls : Array Slot), decode c.code pc = .ok (.ireturn, 1) → W p l e R s m args below meth c H [] 600000 7302250 Q (F0 m pc ls [.int 1])
theorem LK_room {K : Kx} {L : Nat} {xs : Nat → Int} (h : LK K L xs) : 199 + 0 ≤ K.2.2.2.1.cells ∧ 58963 + 0 ≤ K.2.2.2.1.slots := by
  obtain ⟨⟨l, D, cy, b0, aS, aV⟩, p, ee, R, s, m, args, below, meth, c, Q⟩ := K
  obtain ⟨-, -, -, -, rfl, -⟩ := h
  exact ⟨Nat.le_of_ble_eq_true rfl, Nat.le_of_ble_eq_true rfl⟩
section LAWR
variable {K : Kx} {F : Fx} {cs sl k : Nat} {M : Mx} {lv : List (Option AV)} {st : List AV} {h : Hp} {L : Nat} {xs : Nat → Int}
theorem adq {b0 : Nat} {aS : Nat → Nat} : ad b0 aS 3000 = aS 2000 := rfl
theorem A_alenq {len kt : Nat} (hM : MK K M) (hQ : LK K L xs) (he : M.2.1[k]? = some (.arraylength, len, kt)) (hlen : len = 1) (kk : ATk K F cs sl M (k + 1) lv (aI (L : Nat) :: st) h) : ATk K F cs sl M k lv (aR 3000 :: st) h := by
  subst hlen
  have hdec := (hM.dec he).1
  unfold ATk at kk ⊢
  rw [pcAt_succ he] at kk
  obtain ⟨⟨l, D, cy, b0, aS, aV⟩, p, ee, R, s, m, args, below, meth, c, Q⟩ := K
  obtain ⟨hx, hb, hrt, hml, hown, hts, hlk, hWk⟩ := hM.1
  obtain ⟨q1, q2, q3, -⟩ := hQ
  intro H locs ls hW hS hL hmx
  exact va_slen hx hb q1 q2 q3 hS hdec (kk H locs ls hW hS hL hmx)
theorem A_aldq {len kt : Nat} {i : Int} (hM : MK K M) (hQ : LK K L xs) (he : M.2.1[k]? = some (.iaload, len, kt)) (hlen : len = 1) (hi : inb i L) (kk : ATk K F cs sl M (k + 1) lv (aI (xs (w32 i).toNat) :: st) h) : ATk K F cs sl M k lv (aI i :: aR 3000 :: st) h := by
  subst hlen
  have hdec := (hM.dec he).1
  unfold ATk at kk ⊢
  rw [pcAt_succ he] at kk
  obtain ⟨⟨l, D, cy, b0, aS, aV⟩, p, ee, R, s, m, args, below, meth, c, Q⟩ := K
  obtain ⟨hx, hb, hrt, hml, hown, hts, hlk, hWk⟩ := hM.1
  obtain ⟨q1, q2, q3, -⟩ := hQ
  intro H locs ls hW hS hL hmx
  exact va_sld hx hb q1 q2 q3 hS (inb_vp hi) hdec (kk H locs ls hW hS hL hmx)
theorem A_lawret {len kt : Nat} (hM : MK K M) (hQ : LK K L xs) (he : M.2.1[k]? = some (.ireturn, len, kt)) (hlen : len = 1) (hcs : (Nat.ble cs 600000 && Nat.ble sl 7302250) = true) : ATk K F cs sl M k lv [aI 1] h := by
  subst hlen
  have hdec := (hM.dec he).1
  unfold ATk
  obtain ⟨⟨l, D, cy, b0, aS, aV⟩, p, ee, R, s, m, args, below, meth, c, Q⟩ := K
  obtain ⟨hx, hb, hrt, hml, hown, hts, hlk, hWk⟩ := hM.1
  obtain ⟨-, -, -, q4, -, q5⟩ := hQ
  intro H locs ls hW hS hL hmx
  simp only [Bool.and_eq_true] at hcs
  refine va_forget (fun q hq => by have := hS.2.2 q hq; rw [← q4]; exact this) ?_
  refine W.widen (Nat.le_of_ble_eq_true hcs.1) (Nat.le_of_ble_eq_true hcs.2) ?_
  exact q5 _ _ _ (by rw [hb]; exact hdec)
end LAWR
noncomputable section
def L_law_j1235 (L : Nat) (xs : Nat → Int) (v3 : Int) (h : Hp) : Option ((Int × Hp) ⊕ (Hp)) := some (.inl (v3 + 6, h))
def L_law_l10 (L : Nat) (xs : Nat → Int) (x : Int × Hp) : Option ((Int × Hp) ⊕ (Hp)) := if w32 ((L : Nat) - 6) < w32 x.1 then some (.inr x.2) else if inb x.1 L then if w32 (and32 (xs (w32 x.1).toNat) 63) = 0 then if inb (x.1 + 1) L then if inb (x.1 + 2) L then (X11_author (xs (w32 (x.1 + 1)).toNat) (xs (w32 (x.1 + 2)).toNat) x.2).bind fun r4 => if inb (x.1 + 1) L then if inb (x.1 + 2) L then (X12_author (xs (w32 (x.1 + 1)).toNat) (xs (w32 (x.1 + 2)).toNat) r4.2).bind fun r7 => if w32 r4.1 = w32 r7.1 then L_law_j1235 L xs x.1 r7.2 else none else none else none else none else none else if w32 (and32 (xs (w32 x.1).toNat) 63) = 1 then if inb (x.1 + 1) L then if inb (x.1 + 2) L then (X11_work (xs (w32 (x.1 + 1)).toNat) (xs (w32 (x.1 + 2)).toNat) x.2).bind fun r10 => if inb (x.1 + 1) L then if inb (x.1 + 2) L then (X12_work (xs (w32 (x.1 + 1)).toNat) (xs (w32 (x.1 + 2)).toNat) r10.2).bind fun r13 => if w32 r10.1 = w32 r13.1 then L_law_j1235 L xs x.1 r13.2 else none else none else none else none else none else if w32 (and32 (xs (w32 x.1).toNat) 63) = 2 then if inb (x.1 + 1) L then (X11_writer (xs (w32 (x.1 + 1)).toNat) x.2).bind fun r15 => if inb (x.1 + 1) L then (X12_writer (xs (w32 (x.1 + 1)).toNat) r15.2).bind fun r17 => if w32 r15.1 = w32 r17.1 then L_law_j1235 L xs x.1 r17.2 else none else none else none else if w32 (and32 (xs (w32 x.1).toNat) 63) = 3 then if inb (x.1 + 1) L then (X11_seed (xs (w32 (x.1 + 1)).toNat) x.2).bind fun r19 => if inb (x.1 + 1) L then (X12_seed (xs (w32 (x.1 + 1)).toNat) r19.2).bind fun r21 => if w32 r19.1 = w32 r21.1 then L_law_j1235 L xs x.1 r21.2 else none else none else none else if w32 (and32 (xs (w32 x.1).toNat) 63) = 4 then if inb (x.1 + 1) L then if inb (x.1 + 2) L then if inb (x.1 + 3) L then if inb (x.1 + 4) L then if inb (x.1 + 5) L then (X11_feed (xs (w32 (x.1 + 1)).toNat) (xs (w32 (x.1 + 2)).toNat) (xs (w32 (x.1 + 3)).toNat) (xs (w32 (x.1 + 4)).toNat) (xs (w32 (x.1 + 5)).toNat) x.2).bind fun r27 => if inb (x.1 + 1) L then if inb (x.1 + 2) L then if inb (x.1 + 3) L then if inb (x.1 + 4) L then if inb (x.1 + 5) L then (X12_feed (xs (w32 (x.1 + 1)).toNat) (xs (w32 (x.1 + 2)).toNat) (xs (w32 (x.1 + 3)).toNat) (xs (w32 (x.1 + 4)).toNat) (xs (w32 (x.1 + 5)).toNat) r27.2).bind fun r33 => if w32 r27.1 = w32 r33.1 then L_law_j1235 L xs x.1 r33.2 else none else none else none else none else none else none else none else none else none else none else none else if w32 (and32 (xs (w32 x.1).toNat) 63) = 5 then if inb (x.1 + 1) L then if inb (x.1 + 2) L then (X11_left (xs (w32 (x.1 + 1)).toNat) (xs (w32 (x.1 + 2)).toNat) x.2).bind fun r36 => if inb (x.1 + 1) L then if inb (x.1 + 2) L then (X12_left (xs (w32 (x.1 + 1)).toNat) (xs (w32 (x.1 + 2)).toNat) r36.2).bind fun r39 => if w32 r36.1 = w32 r39.1 then L_law_j1235 L xs x.1 r39.2 else none else none else none else none else none else if w32 (and32 (xs (w32 x.1).toNat) 63) = 6 then if inb (x.1 + 1) L then if inb (x.1 + 2) L then if inb (x.1 + 3) L then if inb (x.1 + 4) L then if inb (x.1 + 5) L then (X11_bit (xs (w32 (x.1 + 1)).toNat) (xs (w32 (x.1 + 2)).toNat) (xs (w32 (x.1 + 3)).toNat) (xs (w32 (x.1 + 4)).toNat) (xs (w32 (x.1 + 5)).toNat) x.2).bind fun r45 => if inb (x.1 + 1) L then if inb (x.1 + 2) L then if inb (x.1 + 3) L then if inb (x.1 + 4) L then if inb (x.1 + 5) L then (X12_bit (xs (w32 (x.1 + 1)).toNat) (xs (w32 (x.1 + 2)).toNat) (xs (w32 (x.1 + 3)).toNat) (xs (w32 (x.1 + 4)).toNat) (xs (w32 (x.1 + 5)).toNat) r45.2).bind fun r51 => if w32 r45.1 = w32 r51.1 then L_law_j1235 L xs x.1 r51.2 else none else none else none else none else none else none else none else none else none else none else none else if w32 (and32 (xs (w32 x.1).toNat) 63) = 7 then if inb (x.1 + 1) L then if inb (x.1 + 2) L then (X11_way (xs (w32 (x.1 + 1)).toNat) (xs (w32 (x.1 + 2)).toNat) x.2).bind fun r54 => if inb (x.1 + 1) L then if inb (x.1 + 2) L then (X12_way (xs (w32 (x.1 + 1)).toNat) (xs (w32 (x.1 + 2)).toNat) r54.2).bind fun r57 => if w32 r54.1 = w32 r57.1 then L_law_j1235 L xs x.1 r57.2 else none else none else none else none else none else if w32 (and32 (xs (w32 x.1).toNat) 63) = 8 then if inb (x.1 + 1) L then (X11_plan (xs (w32 (x.1 + 1)).toNat) x.2).bind fun r59 => if inb (x.1 + 1) L then (X12_plan (xs (w32 (x.1 + 1)).toNat) r59.2).bind fun r61 => if w32 r59.1 = w32 r61.1 then L_law_j1235 L xs x.1 r61.2 else none else none else none else if w32 (and32 (xs (w32 x.1).toNat) 63) = 9 then if inb (x.1 + 1) L then (X11_habit (xs (w32 (x.1 + 1)).toNat) x.2).bind fun r63 => if inb (x.1 + 1) L then (X12_habit (xs (w32 (x.1 + 1)).toNat) r63.2).bind fun r65 => if w32 r63.1 = w32 r65.1 then L_law_j1235 L xs x.1 r65.2 else none else none else none else if w32 (and32 (xs (w32 x.1).toNat) 63) = 10 then if inb (x.1 + 1) L then (X11_table (xs (w32 (x.1 + 1)).toNat) x.2).bind fun r67 => if inb (x.1 + 1) L then (X12_table (xs (w32 (x.1 + 1)).toNat) r67.2).bind fun r69 => if w32 r67.1 = w32 r69.1 then L_law_j1235 L xs x.1 r69.2 else none else none else none else if w32 (and32 (xs (w32 x.1).toNat) 63) = 11 then if inb (x.1 + 1) L then if inb (x.1 + 2) L then if inb (x.1 + 3) L then if inb (x.1 + 4) L then if inb (x.1 + 5) L then (X11_quote (xs (w32 (x.1 + 1)).toNat) (xs (w32 (x.1 + 2)).toNat) (xs (w32 (x.1 + 3)).toNat) (xs (w32 (x.1 + 4)).toNat) (xs (w32 (x.1 + 5)).toNat) x.2).bind fun r75 => if inb (x.1 + 1) L then if inb (x.1 + 2) L then if inb (x.1 + 3) L then if inb (x.1 + 4) L then if inb (x.1 + 5) L then (X12_quote (xs (w32 (x.1 + 1)).toNat) (xs (w32 (x.1 + 2)).toNat) (xs (w32 (x.1 + 3)).toNat) (xs (w32 (x.1 + 4)).toNat) (xs (w32 (x.1 + 5)).toNat) r75.2).bind fun r81 => if w32 r75.1 = w32 r81.1 then L_law_j1235 L xs x.1 r81.2 else none else none else none else none else none else none else none else none else none else none else none else if w32 (and32 (xs (w32 x.1).toNat) 63) = 12 then if inb (x.1 + 1) L then if inb (x.1 + 2) L then (X11_bitIs (xs (w32 (x.1 + 1)).toNat) (xs (w32 (x.1 + 2)).toNat) x.2).bind fun r84 => if inb (x.1 + 1) L then if inb (x.1 + 2) L then (X12_bitIs (xs (w32 (x.1 + 1)).toNat) (xs (w32 (x.1 + 2)).toNat) x.2).bind fun r87 => if w32 r84 = w32 r87 then L_law_j1235 L xs x.1 x.2 else none else none else none else none else none else if w32 (and32 (xs (w32 x.1).toNat) 63) = 13 then if inb (x.1 + 1) L then if inb (x.1 + 2) L then (X11_apart (xs (w32 (x.1 + 1)).toNat) (xs (w32 (x.1 + 2)).toNat) x.2).bind fun r90 => if inb (x.1 + 1) L then if inb (x.1 + 2) L then (X12_apart (xs (w32 (x.1 + 1)).toNat) (xs (w32 (x.1 + 2)).toNat) r90.2).bind fun r93 => if w32 r90.1 = w32 r93.1 then L_law_j1235 L xs x.1 r93.2 else none else none else none else none else none else if w32 (and32 (xs (w32 x.1).toNat) 63) = 14 then if inb (x.1 + 1) L then if inb (x.1 + 2) L then if inb (x.1 + 3) L then (X11_near (xs (w32 (x.1 + 1)).toNat) (xs (w32 (x.1 + 2)).toNat) (xs (w32 (x.1 + 3)).toNat) x.2).bind fun r97 => if inb (x.1 + 1) L then if inb (x.1 + 2) L then if inb (x.1 + 3) L then (X12_near (xs (w32 (x.1 + 1)).toNat) (xs (w32 (x.1 + 2)).toNat) (xs (w32 (x.1 + 3)).toNat) r97.2).bind fun r101 => if w32 r97.1 = w32 r101.1 then L_law_j1235 L xs x.1 r101.2 else none else none else none else none else none else none else none else if w32 (and32 (xs (w32 x.1).toNat) 63) = 15 then if inb (x.1 + 1) L then if inb (x.1 + 2) L then (X11_nearness (xs (w32 (x.1 + 1)).toNat) (xs (w32 (x.1 + 2)).toNat) x.2).bind fun r104 => if inb (x.1 + 1) L then if inb (x.1 + 2) L then (X12_nearness (xs (w32 (x.1 + 1)).toNat) (xs (w32 (x.1 + 2)).toNat) r104.2).bind fun r107 => if w32 r104.1 = w32 r107.1 then L_law_j1235 L xs x.1 r107.2 else none else none else none else none else none else if w32 (and32 (xs (w32 x.1).toNat) 63) = 16 then if inb (x.1 + 1) L then if inb (x.1 + 2) L then (X11_same (xs (w32 (x.1 + 1)).toNat) (xs (w32 (x.1 + 2)).toNat) x.2).bind fun r110 => if inb (x.1 + 1) L then if inb (x.1 + 2) L then (X12_same (xs (w32 (x.1 + 1)).toNat) (xs (w32 (x.1 + 2)).toNat) r110.2).bind fun r113 => if w32 (cmp64 r110.1 r113.1) = 0 then L_law_j1235 L xs x.1 r113.2 else none else none else none else none else none else if w32 (and32 (xs (w32 x.1).toNat) 63) = 17 then if inb (x.1 + 1) L then if inb (x.1 + 2) L then if inb (x.1 + 3) L then (X11_stood (xs (w32 (x.1 + 1)).toNat) (xs (w32 (x.1 + 2)).toNat) (xs (w32 (x.1 + 3)).toNat) x.2).bind fun r117 => if inb (x.1 + 1) L then if inb (x.1 + 2) L then if inb (x.1 + 3) L then (X12_stood (xs (w32 (x.1 + 1)).toNat) (xs (w32 (x.1 + 2)).toNat) (xs (w32 (x.1 + 3)).toNat) r117.2).bind fun r121 => if w32 r117.1 = w32 r121.1 then L_law_j1235 L xs x.1 r121.2 else none else none else none else none else none else none else none else if w32 (and32 (xs (w32 x.1).toNat) 63) = 18 then if inb (x.1 + 1) L then if inb (x.1 + 2) L then if inb (x.1 + 3) L then (X11_slips (xs (w32 (x.1 + 1)).toNat) (xs (w32 (x.1 + 2)).toNat) (xs (w32 (x.1 + 3)).toNat) x.2).bind fun r125 => if inb (x.1 + 1) L then if inb (x.1 + 2) L then if inb (x.1 + 3) L then (X12_slips (xs (w32 (x.1 + 1)).toNat) (xs (w32 (x.1 + 2)).toNat) (xs (w32 (x.1 + 3)).toNat) r125.2).bind fun r129 => if w32 (cmp64 r125.1 r129.1) = 0 then L_law_j1235 L xs x.1 r129.2 else none else none else none else none else none else none else none else if w32 (and32 (xs (w32 x.1).toNat) 63) = 19 then if inb (x.1 + 1) L then if inb (x.1 + 2) L then if inb (x.1 + 3) L then (X11_slip (xs (w32 (x.1 + 1)).toNat) (xs (w32 (x.1 + 2)).toNat) (xs (w32 (x.1 + 3)).toNat) x.2).bind fun r133 => if inb (x.1 + 1) L then if inb (x.1 + 2) L then if inb (x.1 + 3) L then (X12_slip (xs (w32 (x.1 + 1)).toNat) (xs (w32 (x.1 + 2)).toNat) (xs (w32 (x.1 + 3)).toNat) r133.2).bind fun r137 => if w32 r133.1 = w32 r137.1 then L_law_j1235 L xs x.1 r137.2 else none else none else none else none else none else none else none else if w32 (and32 (xs (w32 x.1).toNat) 63) = 20 then if inb (x.1 + 1) L then if inb (x.1 + 2) L then if inb (x.1 + 3) L then if inb (x.1 + 4) L then (X11_shared (xs (w32 (x.1 + 1)).toNat) (xs (w32 (x.1 + 2)).toNat) (xs (w32 (x.1 + 3)).toNat) (xs (w32 (x.1 + 4)).toNat) x.2).bind fun r142 => if inb (x.1 + 1) L then if inb (x.1 + 2) L then if inb (x.1 + 3) L then if inb (x.1 + 4) L then (X12_shared (xs (w32 (x.1 + 1)).toNat) (xs (w32 (x.1 + 2)).toNat) (xs (w32 (x.1 + 3)).toNat) (xs (w32 (x.1 + 4)).toNat) r142.2).bind fun r147 => if w32 (cmp64 r142.1 r147.1) = 0 then L_law_j1235 L xs x.1 r147.2 else none else none else none else none else none else none else none else none else none else if w32 (and32 (xs (w32 x.1).toNat) 63) = 21 then if inb (x.1 + 1) L then if inb (x.1 + 2) L then (X11_groups (xs (w32 (x.1 + 1)).toNat) (xs (w32 (x.1 + 2)).toNat) x.2).bind fun r150 => if inb (x.1 + 1) L then if inb (x.1 + 2) L then (X12_groups (xs (w32 (x.1 + 1)).toNat) (xs (w32 (x.1 + 2)).toNat) r150.2).bind fun r153 => if w32 r150.1 = w32 r153.1 then L_law_j1235 L xs x.1 r153.2 else none else none else none else none else none else if w32 (and32 (xs (w32 x.1).toNat) 63) = 22 then if inb (x.1 + 1) L then if inb (x.1 + 2) L then if inb (x.1 + 3) L then (X11_from (xs (w32 (x.1 + 1)).toNat) (xs (w32 (x.1 + 2)).toNat) (xs (w32 (x.1 + 3)).toNat) x.2).bind fun r157 => if inb (x.1 + 1) L then if inb (x.1 + 2) L then if inb (x.1 + 3) L then (X12_from (xs (w32 (x.1 + 1)).toNat) (xs (w32 (x.1 + 2)).toNat) (xs (w32 (x.1 + 3)).toNat) r157.2).bind fun r161 => if w32 r157.1 = w32 r161.1 then L_law_j1235 L xs x.1 r161.2 else none else none else none else none else none else none else none else if w32 (and32 (xs (w32 x.1).toNat) 63) = 23 then if inb (x.1 + 1) L then (X11_there (xs (w32 (x.1 + 1)).toNat) x.2).bind fun r163 => if inb (x.1 + 1) L then (X12_there (xs (w32 (x.1 + 1)).toNat) r163.2).bind fun r165 => if w32 r163.1 = w32 r165.1 then L_law_j1235 L xs x.1 r165.2 else none else none else none else if w32 (and32 (xs (w32 x.1).toNat) 63) = 24 then if inb (x.1 + 1) L then if inb (x.1 + 2) L then (X11_ahead (xs (w32 (x.1 + 1)).toNat) (xs (w32 (x.1 + 2)).toNat) x.2).bind fun r168 => if inb (x.1 + 1) L then if inb (x.1 + 2) L then (X12_ahead (xs (w32 (x.1 + 1)).toNat) (xs (w32 (x.1 + 2)).toNat) r168.2).bind fun r171 => if w32 r168.1 = w32 r171.1 then L_law_j1235 L xs x.1 r171.2 else none else none else none else none else none else if w32 (and32 (xs (w32 x.1).toNat) 63) = 25 then if inb (x.1 + 1) L then if inb (x.1 + 2) L then (X11_order (xs (w32 (x.1 + 1)).toNat) (xs (w32 (x.1 + 2)).toNat) x.2).bind fun r174 => if inb (x.1 + 1) L then if inb (x.1 + 2) L then (X12_order (xs (w32 (x.1 + 1)).toNat) (xs (w32 (x.1 + 2)).toNat) r174.2).bind fun r177 => if w32 r174.1 = w32 r177.1 then L_law_j1235 L xs x.1 r177.2 else none else none else none else none else none else if w32 (and32 (xs (w32 x.1).toNat) 63) = 26 then if inb (x.1 + 1) L then (X11_orders (xs (w32 (x.1 + 1)).toNat) x.2).bind fun r179 => if inb (x.1 + 1) L then (X12_orders (xs (w32 (x.1 + 1)).toNat) r179.2).bind fun r181 => if w32 (cmp64 r179.1 r181.1) = 0 then L_law_j1235 L xs x.1 r181.2 else none else none else none else if w32 (and32 (xs (w32 x.1).toNat) 63) = 27 then if inb (x.1 + 1) L then if inb (x.1 + 2) L then (X11_sure (xs (w32 (x.1 + 1)).toNat) (xs (w32 (x.1 + 2)).toNat) x.2).bind fun r184 => if inb (x.1 + 1) L then if inb (x.1 + 2) L then (X12_sure (xs (w32 (x.1 + 1)).toNat) (xs (w32 (x.1 + 2)).toNat) r184.2).bind fun r187 => if w32 r184.1 = w32 r187.1 then L_law_j1235 L xs x.1 r187.2 else none else none else none else none else none else if w32 (and32 (xs (w32 x.1).toNat) 63) = 28 then if inb (x.1 + 1) L then if inb (x.1 + 2) L then if inb (x.1 + 3) L then if inb (x.1 + 4) L then (X11_truth (or64 (shl64 (w32 (xs (w32 (x.1 + 1)).toNat)) 32) (and64 (w32 (xs (w32 (x.1 + 2)).toNat)) 4294967295)) (xs (w32 (x.1 + 3)).toNat) (xs (w32 (x.1 + 4)).toNat) x.2).bind fun r192 => if inb (x.1 + 1) L then if inb (x.1 + 2) L then if inb (x.1 + 3) L then if inb (x.1 + 4) L then (X12_truth (or64 (shl64 (w32 (xs (w32 (x.1 + 1)).toNat)) 32) (and64 (w32 (xs (w32 (x.1 + 2)).toNat)) 4294967295)) (xs (w32 (x.1 + 3)).toNat) (xs (w32 (x.1 + 4)).toNat) r192.2).bind fun r197 => if w32 (cmp64 r192.1 r197.1) = 0 then L_law_j1235 L xs x.1 r197.2 else none else none else none else none else none else none else none else none else none else if w32 (and32 (xs (w32 x.1).toNat) 63) = 29 then if inb (x.1 + 1) L then if inb (x.1 + 2) L then if inb (x.1 + 3) L then (X11_length (xs (w32 (x.1 + 1)).toNat) (xs (w32 (x.1 + 2)).toNat) (xs (w32 (x.1 + 3)).toNat) x.2).bind fun r201 => if inb (x.1 + 1) L then if inb (x.1 + 2) L then if inb (x.1 + 3) L then (X12_length (xs (w32 (x.1 + 1)).toNat) (xs (w32 (x.1 + 2)).toNat) (xs (w32 (x.1 + 3)).toNat) r201.2).bind fun r205 => if w32 (cmp64 r201.1 r205) = 0 then L_law_j1235 L xs x.1 r201.2 else none else none else none else none else none else none else none else if w32 (and32 (xs (w32 x.1).toNat) 63) = 30 then if inb (x.1 + 1) L then if inb (x.1 + 2) L then if inb (x.1 + 3) L then (X11_span (xs (w32 (x.1 + 1)).toNat) (xs (w32 (x.1 + 2)).toNat) (xs (w32 (x.1 + 3)).toNat) x.2).bind fun r209 => if inb (x.1 + 1) L then if inb (x.1 + 2) L then if inb (x.1 + 3) L then (X12_span (xs (w32 (x.1 + 1)).toNat) (xs (w32 (x.1 + 2)).toNat) (xs (w32 (x.1 + 3)).toNat) r209.2).bind fun r213 => if w32 r209.1 = w32 r213 then L_law_j1235 L xs x.1 r209.2 else none else none else none else none else none else none else none else if w32 (and32 (xs (w32 x.1).toNat) 63) = 31 then if inb (x.1 + 1) L then if inb (x.1 + 2) L then (X11_nobody (xs (w32 (x.1 + 1)).toNat) (xs (w32 (x.1 + 2)).toNat) x.2).bind fun r216 => if inb (x.1 + 1) L then if inb (x.1 + 2) L then (X12_nobody (xs (w32 (x.1 + 1)).toNat) (xs (w32 (x.1 + 2)).toNat) x.2).bind fun r219 => if w32 (cmp64 r216 r219) = 0 then L_law_j1235 L xs x.1 x.2 else none else none else none else none else none else if w32 (and32 (xs (w32 x.1).toNat) 63) = 32 then if inb (x.1 + 1) L then if inb (x.1 + 2) L then (X11_whose (xs (w32 (x.1 + 1)).toNat) (xs (w32 (x.1 + 2)).toNat) x.2).bind fun r222 => if inb (x.1 + 1) L then if inb (x.1 + 2) L then (X12_whose (xs (w32 (x.1 + 1)).toNat) (xs (w32 (x.1 + 2)).toNat) r222.2).bind fun r225 => if w32 r222.1 = w32 r225.1 then L_law_j1235 L xs x.1 r225.2 else none else none else none else none else none else if w32 (and32 (xs (w32 x.1).toNat) 63) = 33 then if inb (x.1 + 1) L then if inb (x.1 + 2) L then (X11_men (xs (w32 (x.1 + 1)).toNat) (xs (w32 (x.1 + 2)).toNat) x.2).bind fun r228 => if inb (x.1 + 1) L then if inb (x.1 + 2) L then (X12_men (xs (w32 (x.1 + 1)).toNat) (xs (w32 (x.1 + 2)).toNat) r228.2).bind fun r231 => if w32 (cmp64 r228.1 r231.1) = 0 then L_law_j1235 L xs x.1 r231.2 else none else none else none else none else none else if w32 (and32 (xs (w32 x.1).toNat) 63) = 34 then if inb (x.1 + 1) L then if inb (x.1 + 2) L then if inb (x.1 + 3) L then (X11_gives (xs (w32 (x.1 + 1)).toNat) (xs (w32 (x.1 + 2)).toNat) (xs (w32 (x.1 + 3)).toNat) x.2).bind fun r235 => if inb (x.1 + 1) L then if inb (x.1 + 2) L then if inb (x.1 + 3) L then (X12_gives (xs (w32 (x.1 + 1)).toNat) (xs (w32 (x.1 + 2)).toNat) (xs (w32 (x.1 + 3)).toNat) r235.2).bind fun r239 => if w32 r235.1 = w32 r239.1 then L_law_j1235 L xs x.1 r239.2 else none else none else none else none else none else none else none else if w32 (and32 (xs (w32 x.1).toNat) 63) = 35 then if inb (x.1 + 1) L then if inb (x.1 + 2) L then (X11_given (xs (w32 (x.1 + 1)).toNat) (xs (w32 (x.1 + 2)).toNat) x.2).bind fun r242 => if inb (x.1 + 1) L then if inb (x.1 + 2) L then (X12_given (xs (w32 (x.1 + 1)).toNat) (xs (w32 (x.1 + 2)).toNat) x.2).bind fun r245 => if w32 r242 = w32 r245 then L_law_j1235 L xs x.1 x.2 else none else none else none else none else none else if w32 (and32 (xs (w32 x.1).toNat) 63) = 36 then if inb (x.1 + 1) L then (X11_wrong (xs (w32 (x.1 + 1)).toNat) x.2).bind fun r247 => if inb (x.1 + 1) L then (X12_wrong (xs (w32 (x.1 + 1)).toNat) x.2).bind fun r249 => if w32 (cmp64 r247 r249) = 0 then L_law_j1235 L xs x.1 x.2 else none else none else none else if w32 (and32 (xs (w32 x.1).toNat) 63) = 37 then if inb (x.1 + 1) L then (X11_moves (xs (w32 (x.1 + 1)).toNat) x.2).bind fun r251 => if inb (x.1 + 1) L then (X12_moves (xs (w32 (x.1 + 1)).toNat) r251.2).bind fun r253 => if w32 r251.1 = w32 r253.1 then L_law_j1235 L xs x.1 r253.2 else none else none else none else if w32 (and32 (xs (w32 x.1).toNat) 63) = 38 then if inb (x.1 + 1) L then if inb (x.1 + 2) L then (X11_check (xs (w32 (x.1 + 1)).toNat) (xs (w32 (x.1 + 2)).toNat) x.2).bind fun r256 => if inb (x.1 + 1) L then if inb (x.1 + 2) L then (X12_check (xs (w32 (x.1 + 1)).toNat) (xs (w32 (x.1 + 2)).toNat) r256.2).bind fun r259 => if w32 r256.1 = w32 r259.1 then L_law_j1235 L xs x.1 r259.2 else none else none else none else none else none else if w32 (and32 (xs (w32 x.1).toNat) 63) = 39 then if inb (x.1 + 1) L then (X11_count (xs (w32 (x.1 + 1)).toNat) x.2).bind fun r261 => if inb (x.1 + 1) L then (X12_count (xs (w32 (x.1 + 1)).toNat) x.2).bind fun r263 => if w32 r261 = w32 r263 then L_law_j1235 L xs x.1 x.2 else none else none else none else L_law_j1235 L xs x.1 x.2 else none
def L_law (L : Nat) (xs : Nat → Int) (h : Hp) : Option (Int × Hp) := (iter (L_law_l10 L xs) FU (0, h)).bind fun x264 => some (1, x264)
end
set_option maxRecDepth 20000 in
set_option maxHeartbeats 4000000 in
theorem c_L_law_j1235 {K : Kx} {G : Gx} (hM : MB K G M_L_law 2048) (L : Nat) (xs : Nat → Int) (hQ : LK K L xs) (v3 : Int) (h : Hp)   {P : ((Int × Hp) ⊕ (Hp)) → Prop} (hin : ∀ y : Int × Hp, P (.inl y) → ATk K FN 199 58963 M_L_law 10 [some (aR 3000), some (aR 0), some (aR 150), some (aI y.1)] [] y.2) (hout0 : ∀ y : Hp, P (.inr y) → ATk K FN 199 58963 M_L_law 1237 [none, none, none, none] [] y) (hh : OK (L_law_j1235 L xs v3 h) P) : ATk K FN 199 58963 M_L_law 1235 [some (aR 3000), some (aR 0), some (aR 150), some (aI v3)] [] h := by
  unfold L_law_j1235 at hh
  refine A_blk hM.1 1 (lv1 := [some (aR 3000), some (aR 0), some (aR 150), some (aI (v3 + 6))]) (s1 := []) (h1 := h) rfl ?_
  refine A_go hM.1 rfl rfl ?_
  exact hin (v3 + 6, h) hh
set_option maxRecDepth 20000 in
set_option maxHeartbeats 4000000 in
theorem c_L_law_l10 {K : Kx} {G : Gx} (hM : MB K G M_L_law 2048) (L : Nat) (xs : Nat → Int) (hQ : LK K L xs) (x : Int × Hp)   {P : ((Int × Hp) ⊕ (Hp)) → Prop} (hin : ∀ y : Int × Hp, P (.inl y) → ATk K FN 199 58963 M_L_law 10 [some (aR 3000), some (aR 0), some (aR 150), some (aI y.1)] [] y.2) (hout0 : ∀ y : Hp, P (.inr y) → ATk K FN 199 58963 M_L_law 1237 [none, none, none, none] [] y) (hh : OK (L_law_l10 L xs x) P) : ATk K FN 199 58963 M_L_law 10 [some (aR 3000), some (aR 0), some (aR 150), some (aI x.1)] [] x.2 := by
  unfold L_law_l10 at hh
  refine A_blk hM.1 2 (lv1 := [some (aR 3000), some (aR 0), some (aR 150), some (aI x.1)]) (s1 := [aR 3000, aI x.1]) (h1 := x.2) rfl ?_
  refine A_alenq hM.1 hQ rfl rfl ?_
  refine A_blk hM.1 2 (lv1 := [some (aR 3000), some (aR 0), some (aR 150), some (aI x.1)]) (s1 := [aI ((L : Nat) - 6), aI x.1]) (h1 := x.2) rfl ?_
  refine A_icmp hM.1 rfl rfl (fun hc => ?_) (fun hc => ?_)
  · replace hh := OK_t hh hc
    refine A_mask [false, false, false, false] (lv1 := [none, none, none, none]) rfl ?_
    exact hout0 x.2 hh
  · replace hh := OK_f hh hc
    refine A_blk hM.1 2 (lv1 := [some (aR 3000), some (aR 0), some (aR 150), some (aI x.1)]) (s1 := [aI x.1, aR 3000]) (h1 := x.2) rfl ?_
    obtain ⟨g1, hh⟩ := OK_g hh
    refine A_aldq hM.1 hQ rfl rfl g1 ?_
    refine A_blk hM.1 2 (lv1 := [some (aR 3000), some (aR 0), some (aR 150), some (aI x.1)]) (s1 := [aI (and32 (xs (w32 x.1).toNat) 63)]) (h1 := x.2) rfl ?_
    refine A_tsw hM.1 rfl [(0, 22), (1, 49), (2, 76), (3, 93), (4, 110), (5, 167), (6, 194), (7, 251), (8, 278), (9, 295), (10, 312), (11, 329), (12, 386), (13, 413), (14, 440), (15, 477), (16, 504), (17, 532), (18, 569), (19, 607), (20, 644), (21, 692), (22, 719), (23, 756), (24, 773), (25, 800), (26, 827), (27, 845), (28, 872), (29, 934), (30, 972), (31, 1009), (32, 1037), (33, 1064), (34, 1092), (35, 1129), (36, 1156), (37, 1174), (38, 1191), (39, 1218)] 1235 (by decide +kernel) ?_
    refine ⟨fun hc => ?_, fun hc => ?_⟩
    · replace hh := OK_t hh hc
      refine A_blk hM.1 5 (lv1 := [some (aR 3000), some (aR 0), some (aR 150), some (aI x.1)]) (s1 := [aI (x.1 + 1), aR 3000, aR 0]) (h1 := x.2) rfl ?_
      obtain ⟨g2, hh⟩ := OK_g hh
      refine A_aldq hM.1 hQ rfl rfl g2 ?_
      refine A_blk hM.1 4 (lv1 := [some (aR 3000), some (aR 0), some (aR 150), some (aI x.1)]) (s1 := [aI (x.1 + 2), aR 3000, aI (xs (w32 (x.1 + 1)).toNat), aR 0]) (h1 := x.2) rfl ?_
      obtain ⟨g3, hh⟩ := OK_g hh
      refine A_aldq hM.1 hQ rfl rfl g3 ?_
      refine A_callV hM rfl rfl (mem_GW 572 (by decide +kernel) rfl) mi_X11_author (As := [aI (xs (w32 (x.1 + 1)).toNat), aI (xs (w32 (x.1 + 2)).toNat)]) (rest := []) (ct_X11_author (xs (w32 (x.1 + 1)).toNat) (xs (w32 (x.1 + 2)).toNat) x.2 (OK_bind hh)) (by decide) (LK_room hQ) rfl rfl (Nat.le_of_ble_eq_true rfl) (by decide) rfl (by decide) rfl (fun r F' h' hq1 => ?_)
      obtain ⟨rfl, r4, rfl, e9, hh⟩ := hq1
      subst h'
      refine A_blk hM.1 5 (lv1 := [some (aR 3000), some (aR 0), some (aR 150), some (aI x.1)]) (s1 := [aI (x.1 + 1), aR 3000, aR 150, aI r4.1]) (h1 := r4.2) rfl ?_
      obtain ⟨g5, hh⟩ := OK_g hh
      refine A_aldq hM.1 hQ rfl rfl g5 ?_
      refine A_blk hM.1 4 (lv1 := [some (aR 3000), some (aR 0), some (aR 150), some (aI x.1)]) (s1 := [aI (x.1 + 2), aR 3000, aI (xs (w32 (x.1 + 1)).toNat), aR 150, aI r4.1]) (h1 := r4.2) rfl ?_
      obtain ⟨g6, hh⟩ := OK_g hh
      refine A_aldq hM.1 hQ rfl rfl g6 ?_
      refine A_callV hM rfl rfl (mem_GW 1874 (by decide +kernel) rfl) mi_X12_author (As := [aI (xs (w32 (x.1 + 1)).toNat), aI (xs (w32 (x.1 + 2)).toNat)]) (rest := [aI r4.1]) (ct_X12_author (xs (w32 (x.1 + 1)).toNat) (xs (w32 (x.1 + 2)).toNat) r4.2 (OK_bind hh)) (by decide) (LK_room hQ) rfl rfl (Nat.le_of_ble_eq_true rfl) (by decide) rfl (by decide) rfl (fun r F' h' hq1 => ?_)
      obtain ⟨rfl, r7, rfl, e9, hh⟩ := hq1
      subst h'
      refine A_icmp hM.1 rfl rfl (fun hc => ?_) (fun hc => ?_)
      · replace hh := OK_t hh hc
        exact c_L_law_j1235 hM L xs hQ x.1 r7.2 hin hout0 hh
      · replace hh := OK_f hh hc
        exact hh.elim
    replace hh := OK_f hh hc
    refine ⟨fun hc => ?_, fun hc => ?_⟩
    · replace hh := OK_t hh hc
      refine A_blk hM.1 5 (lv1 := [some (aR 3000), some (aR 0), some (aR 150), some (aI x.1)]) (s1 := [aI (x.1 + 1), aR 3000, aR 0]) (h1 := x.2) rfl ?_
      obtain ⟨g8, hh⟩ := OK_g hh
      refine A_aldq hM.1 hQ rfl rfl g8 ?_
      refine A_blk hM.1 4 (lv1 := [some (aR 3000), some (aR 0), some (aR 150), some (aI x.1)]) (s1 := [aI (x.1 + 2), aR 3000, aI (xs (w32 (x.1 + 1)).toNat), aR 0]) (h1 := x.2) rfl ?_
      obtain ⟨g9, hh⟩ := OK_g hh
      refine A_aldq hM.1 hQ rfl rfl g9 ?_
      refine A_callV hM rfl rfl (mem_GW 586 (by decide +kernel) rfl) mi_X11_work (As := [aI (xs (w32 (x.1 + 1)).toNat), aI (xs (w32 (x.1 + 2)).toNat)]) (rest := []) (ct_X11_work (xs (w32 (x.1 + 1)).toNat) (xs (w32 (x.1 + 2)).toNat) x.2 (OK_bind hh)) (by decide) (LK_room hQ) rfl rfl (Nat.le_of_ble_eq_true rfl) (by decide) rfl (by decide) rfl (fun r F' h' hq1 => ?_)
      obtain ⟨rfl, r10, rfl, e9, hh⟩ := hq1
      subst h'
      refine A_blk hM.1 5 (lv1 := [some (aR 3000), some (aR 0), some (aR 150), some (aI x.1)]) (s1 := [aI (x.1 + 1), aR 3000, aR 150, aI r10.1]) (h1 := r10.2) rfl ?_
      obtain ⟨g11, hh⟩ := OK_g hh
      refine A_aldq hM.1 hQ rfl rfl g11 ?_
      refine A_blk hM.1 4 (lv1 := [some (aR 3000), some (aR 0), some (aR 150), some (aI x.1)]) (s1 := [aI (x.1 + 2), aR 3000, aI (xs (w32 (x.1 + 1)).toNat), aR 150, aI r10.1]) (h1 := r10.2) rfl ?_
      obtain ⟨g12, hh⟩ := OK_g hh
      refine A_aldq hM.1 hQ rfl rfl g12 ?_
      refine A_callV hM rfl rfl (mem_GW 1883 (by decide +kernel) rfl) mi_X12_work (As := [aI (xs (w32 (x.1 + 1)).toNat), aI (xs (w32 (x.1 + 2)).toNat)]) (rest := [aI r10.1]) (ct_X12_work (xs (w32 (x.1 + 1)).toNat) (xs (w32 (x.1 + 2)).toNat) r10.2 (OK_bind hh)) (by decide) (LK_room hQ) rfl rfl (Nat.le_of_ble_eq_true rfl) (by decide) rfl (by decide) rfl (fun r F' h' hq1 => ?_)
      obtain ⟨rfl, r13, rfl, e9, hh⟩ := hq1
      subst h'
      refine A_icmp hM.1 rfl rfl (fun hc => ?_) (fun hc => ?_)
      · replace hh := OK_t hh hc
        exact c_L_law_j1235 hM L xs hQ x.1 r13.2 hin hout0 hh
      · replace hh := OK_f hh hc
        exact hh.elim
    replace hh := OK_f hh hc
    refine ⟨fun hc => ?_, fun hc => ?_⟩
    · replace hh := OK_t hh hc
      refine A_blk hM.1 5 (lv1 := [some (aR 3000), some (aR 0), some (aR 150), some (aI x.1)]) (s1 := [aI (x.1 + 1), aR 3000, aR 0]) (h1 := x.2) rfl ?_
      obtain ⟨g14, hh⟩ := OK_g hh
      refine A_aldq hM.1 hQ rfl rfl g14 ?_
      refine A_callV hM rfl rfl (mem_GW 598 (by decide +kernel) rfl) mi_X11_writer (As := [aI (xs (w32 (x.1 + 1)).toNat)]) (rest := []) (ct_X11_writer (xs (w32 (x.1 + 1)).toNat) x.2 (OK_bind hh)) (by decide) (LK_room hQ) rfl rfl (Nat.le_of_ble_eq_true rfl) (by decide) rfl (by decide) rfl (fun r F' h' hq1 => ?_)
      obtain ⟨rfl, r15, rfl, e9, hh⟩ := hq1
      subst h'
      refine A_blk hM.1 5 (lv1 := [some (aR 3000), some (aR 0), some (aR 150), some (aI x.1)]) (s1 := [aI (x.1 + 1), aR 3000, aR 150, aI r15.1]) (h1 := r15.2) rfl ?_
      obtain ⟨g16, hh⟩ := OK_g hh
      refine A_aldq hM.1 hQ rfl rfl g16 ?_
      refine A_callV hM rfl rfl (mem_GW 1892 (by decide +kernel) rfl) mi_X12_writer (As := [aI (xs (w32 (x.1 + 1)).toNat)]) (rest := [aI r15.1]) (ct_X12_writer (xs (w32 (x.1 + 1)).toNat) r15.2 (OK_bind hh)) (by decide) (LK_room hQ) rfl rfl (Nat.le_of_ble_eq_true rfl) (by decide) rfl (by decide) rfl (fun r F' h' hq1 => ?_)
      obtain ⟨rfl, r17, rfl, e9, hh⟩ := hq1
      subst h'
      refine A_icmp hM.1 rfl rfl (fun hc => ?_) (fun hc => ?_)
      · replace hh := OK_t hh hc
        exact c_L_law_j1235 hM L xs hQ x.1 r17.2 hin hout0 hh
      · replace hh := OK_f hh hc
        exact hh.elim
    replace hh := OK_f hh hc
    refine ⟨fun hc => ?_, fun hc => ?_⟩
    · replace hh := OK_t hh hc
      refine A_blk hM.1 5 (lv1 := [some (aR 3000), some (aR 0), some (aR 150), some (aI x.1)]) (s1 := [aI (x.1 + 1), aR 3000, aR 0]) (h1 := x.2) rfl ?_
      obtain ⟨g18, hh⟩ := OK_g hh
      refine A_aldq hM.1 hQ rfl rfl g18 ?_
      refine A_callV hM rfl rfl (mem_GW 606 (by decide +kernel) rfl) mi_X11_seed (As := [aI (xs (w32 (x.1 + 1)).toNat)]) (rest := []) (ct_X11_seed (xs (w32 (x.1 + 1)).toNat) x.2 (OK_bind hh)) (by decide) (LK_room hQ) rfl rfl (Nat.le_of_ble_eq_true rfl) (by decide) rfl (by decide) rfl (fun r F' h' hq1 => ?_)
      obtain ⟨rfl, r19, rfl, e9, hh⟩ := hq1
      subst h'
      refine A_blk hM.1 5 (lv1 := [some (aR 3000), some (aR 0), some (aR 150), some (aI x.1)]) (s1 := [aI (x.1 + 1), aR 3000, aR 150, aI r19.1]) (h1 := r19.2) rfl ?_
      obtain ⟨g20, hh⟩ := OK_g hh
      refine A_aldq hM.1 hQ rfl rfl g20 ?_
      refine A_callV hM rfl rfl (mem_GW 1896 (by decide +kernel) rfl) mi_X12_seed (As := [aI (xs (w32 (x.1 + 1)).toNat)]) (rest := [aI r19.1]) (ct_X12_seed (xs (w32 (x.1 + 1)).toNat) r19.2 (OK_bind hh)) (by decide) (LK_room hQ) rfl rfl (Nat.le_of_ble_eq_true rfl) (by decide) rfl (by decide) rfl (fun r F' h' hq1 => ?_)
      obtain ⟨rfl, r21, rfl, e9, hh⟩ := hq1
      subst h'
      refine A_icmp hM.1 rfl rfl (fun hc => ?_) (fun hc => ?_)
      · replace hh := OK_t hh hc
        exact c_L_law_j1235 hM L xs hQ x.1 r21.2 hin hout0 hh
      · replace hh := OK_f hh hc
        exact hh.elim
    replace hh := OK_f hh hc
    refine ⟨fun hc => ?_, fun hc => ?_⟩
    · replace hh := OK_t hh hc
      refine A_blk hM.1 5 (lv1 := [some (aR 3000), some (aR 0), some (aR 150), some (aI x.1)]) (s1 := [aI (x.1 + 1), aR 3000, aR 0]) (h1 := x.2) rfl ?_
      obtain ⟨g22, hh⟩ := OK_g hh
      refine A_aldq hM.1 hQ rfl rfl g22 ?_
      refine A_blk hM.1 4 (lv1 := [some (aR 3000), some (aR 0), some (aR 150), some (aI x.1)]) (s1 := [aI (x.1 + 2), aR 3000, aI (xs (w32 (x.1 + 1)).toNat), aR 0]) (h1 := x.2) rfl ?_
      obtain ⟨g23, hh⟩ := OK_g hh
      refine A_aldq hM.1 hQ rfl rfl g23 ?_
      refine A_blk hM.1 4 (lv1 := [some (aR 3000), some (aR 0), some (aR 150), some (aI x.1)]) (s1 := [aI (x.1 + 3), aR 3000, aI (xs (w32 (x.1 + 2)).toNat), aI (xs (w32 (x.1 + 1)).toNat), aR 0]) (h1 := x.2) rfl ?_
      obtain ⟨g24, hh⟩ := OK_g hh
      refine A_aldq hM.1 hQ rfl rfl g24 ?_
      refine A_blk hM.1 4 (lv1 := [some (aR 3000), some (aR 0), some (aR 150), some (aI x.1)]) (s1 := [aI (x.1 + 4), aR 3000, aI (xs (w32 (x.1 + 3)).toNat), aI (xs (w32 (x.1 + 2)).toNat), aI (xs (w32 (x.1 + 1)).toNat), aR 0]) (h1 := x.2) rfl ?_
      obtain ⟨g25, hh⟩ := OK_g hh
      refine A_aldq hM.1 hQ rfl rfl g25 ?_
      refine A_blk hM.1 4 (lv1 := [some (aR 3000), some (aR 0), some (aR 150), some (aI x.1)]) (s1 := [aI (x.1 + 5), aR 3000, aI (xs (w32 (x.1 + 4)).toNat), aI (xs (w32 (x.1 + 3)).toNat), aI (xs (w32 (x.1 + 2)).toNat), aI (xs (w32 (x.1 + 1)).toNat), aR 0]) (h1 := x.2) rfl ?_
      obtain ⟨g26, hh⟩ := OK_g hh
      refine A_aldq hM.1 hQ rfl rfl g26 ?_
      refine A_callV hM rfl rfl (mem_GW 611 (by decide +kernel) rfl) mi_X11_feed (As := [aI (xs (w32 (x.1 + 1)).toNat), aI (xs (w32 (x.1 + 2)).toNat), aI (xs (w32 (x.1 + 3)).toNat), aI (xs (w32 (x.1 + 4)).toNat), aI (xs (w32 (x.1 + 5)).toNat)]) (rest := []) (ct_X11_feed (xs (w32 (x.1 + 1)).toNat) (xs (w32 (x.1 + 2)).toNat) (xs (w32 (x.1 + 3)).toNat) (xs (w32 (x.1 + 4)).toNat) (xs (w32 (x.1 + 5)).toNat) x.2 (OK_bind hh)) (by decide) (LK_room hQ) rfl rfl (Nat.le_of_ble_eq_true rfl) (by decide) rfl (by decide) rfl (fun r F' h' hq1 => ?_)
      obtain ⟨rfl, r27, rfl, e9, hh⟩ := hq1
      subst h'
      refine A_blk hM.1 5 (lv1 := [some (aR 3000), some (aR 0), some (aR 150), some (aI x.1)]) (s1 := [aI (x.1 + 1), aR 3000, aR 150, aI r27.1]) (h1 := r27.2) rfl ?_
      obtain ⟨g28, hh⟩ := OK_g hh
      refine A_aldq hM.1 hQ rfl rfl g28 ?_
      refine A_blk hM.1 4 (lv1 := [some (aR 3000), some (aR 0), some (aR 150), some (aI x.1)]) (s1 := [aI (x.1 + 2), aR 3000, aI (xs (w32 (x.1 + 1)).toNat), aR 150, aI r27.1]) (h1 := r27.2) rfl ?_
      obtain ⟨g29, hh⟩ := OK_g hh
      refine A_aldq hM.1 hQ rfl rfl g29 ?_
      refine A_blk hM.1 4 (lv1 := [some (aR 3000), some (aR 0), some (aR 150), some (aI x.1)]) (s1 := [aI (x.1 + 3), aR 3000, aI (xs (w32 (x.1 + 2)).toNat), aI (xs (w32 (x.1 + 1)).toNat), aR 150, aI r27.1]) (h1 := r27.2) rfl ?_
      obtain ⟨g30, hh⟩ := OK_g hh
      refine A_aldq hM.1 hQ rfl rfl g30 ?_
      refine A_blk hM.1 4 (lv1 := [some (aR 3000), some (aR 0), some (aR 150), some (aI x.1)]) (s1 := [aI (x.1 + 4), aR 3000, aI (xs (w32 (x.1 + 3)).toNat), aI (xs (w32 (x.1 + 2)).toNat), aI (xs (w32 (x.1 + 1)).toNat), aR 150, aI r27.1]) (h1 := r27.2) rfl ?_
      obtain ⟨g31, hh⟩ := OK_g hh
      refine A_aldq hM.1 hQ rfl rfl g31 ?_
      refine A_blk hM.1 4 (lv1 := [some (aR 3000), some (aR 0), some (aR 150), some (aI x.1)]) (s1 := [aI (x.1 + 5), aR 3000, aI (xs (w32 (x.1 + 4)).toNat), aI (xs (w32 (x.1 + 3)).toNat), aI (xs (w32 (x.1 + 2)).toNat), aI (xs (w32 (x.1 + 1)).toNat), aR 150, aI r27.1]) (h1 := r27.2) rfl ?_
      obtain ⟨g32, hh⟩ := OK_g hh
      refine A_aldq hM.1 hQ rfl rfl g32 ?_
      refine A_callV hM rfl rfl (mem_GW 1901 (by decide +kernel) rfl) mi_X12_feed (As := [aI (xs (w32 (x.1 + 1)).toNat), aI (xs (w32 (x.1 + 2)).toNat), aI (xs (w32 (x.1 + 3)).toNat), aI (xs (w32 (x.1 + 4)).toNat), aI (xs (w32 (x.1 + 5)).toNat)]) (rest := [aI r27.1]) (ct_X12_feed (xs (w32 (x.1 + 1)).toNat) (xs (w32 (x.1 + 2)).toNat) (xs (w32 (x.1 + 3)).toNat) (xs (w32 (x.1 + 4)).toNat) (xs (w32 (x.1 + 5)).toNat) r27.2 (OK_bind hh)) (by decide) (LK_room hQ) rfl rfl (Nat.le_of_ble_eq_true rfl) (by decide) rfl (by decide) rfl (fun r F' h' hq1 => ?_)
      obtain ⟨rfl, r33, rfl, e9, hh⟩ := hq1
      subst h'
      refine A_icmp hM.1 rfl rfl (fun hc => ?_) (fun hc => ?_)
      · replace hh := OK_t hh hc
        exact c_L_law_j1235 hM L xs hQ x.1 r33.2 hin hout0 hh
      · replace hh := OK_f hh hc
        exact hh.elim
    replace hh := OK_f hh hc
    refine ⟨fun hc => ?_, fun hc => ?_⟩
    · replace hh := OK_t hh hc
      refine A_blk hM.1 5 (lv1 := [some (aR 3000), some (aR 0), some (aR 150), some (aI x.1)]) (s1 := [aI (x.1 + 1), aR 3000, aR 0]) (h1 := x.2) rfl ?_
      obtain ⟨g34, hh⟩ := OK_g hh
      refine A_aldq hM.1 hQ rfl rfl g34 ?_
      refine A_blk hM.1 4 (lv1 := [some (aR 3000), some (aR 0), some (aR 150), some (aI x.1)]) (s1 := [aI (x.1 + 2), aR 3000, aI (xs (w32 (x.1 + 1)).toNat), aR 0]) (h1 := x.2) rfl ?_
      obtain ⟨g35, hh⟩ := OK_g hh
      refine A_aldq hM.1 hQ rfl rfl g35 ?_
      refine A_callV hM rfl rfl (mem_GW 628 (by decide +kernel) rfl) mi_X11_left (As := [aI (xs (w32 (x.1 + 1)).toNat), aI (xs (w32 (x.1 + 2)).toNat)]) (rest := []) (ct_X11_left (xs (w32 (x.1 + 1)).toNat) (xs (w32 (x.1 + 2)).toNat) x.2 (OK_bind hh)) (by decide) (LK_room hQ) rfl rfl (Nat.le_of_ble_eq_true rfl) (by decide) rfl (by decide) rfl (fun r F' h' hq1 => ?_)
      obtain ⟨rfl, r36, rfl, e9, hh⟩ := hq1
      subst h'
      refine A_blk hM.1 5 (lv1 := [some (aR 3000), some (aR 0), some (aR 150), some (aI x.1)]) (s1 := [aI (x.1 + 1), aR 3000, aR 150, aI r36.1]) (h1 := r36.2) rfl ?_
      obtain ⟨g37, hh⟩ := OK_g hh
      refine A_aldq hM.1 hQ rfl rfl g37 ?_
      refine A_blk hM.1 4 (lv1 := [some (aR 3000), some (aR 0), some (aR 150), some (aI x.1)]) (s1 := [aI (x.1 + 2), aR 3000, aI (xs (w32 (x.1 + 1)).toNat), aR 150, aI r36.1]) (h1 := r36.2) rfl ?_
      obtain ⟨g38, hh⟩ := OK_g hh
      refine A_aldq hM.1 hQ rfl rfl g38 ?_
      refine A_callV hM rfl rfl (mem_GW 1909 (by decide +kernel) rfl) mi_X12_left (As := [aI (xs (w32 (x.1 + 1)).toNat), aI (xs (w32 (x.1 + 2)).toNat)]) (rest := [aI r36.1]) (ct_X12_left (xs (w32 (x.1 + 1)).toNat) (xs (w32 (x.1 + 2)).toNat) r36.2 (OK_bind hh)) (by decide) (LK_room hQ) rfl rfl (Nat.le_of_ble_eq_true rfl) (by decide) rfl (by decide) rfl (fun r F' h' hq1 => ?_)
      obtain ⟨rfl, r39, rfl, e9, hh⟩ := hq1
      subst h'
      refine A_icmp hM.1 rfl rfl (fun hc => ?_) (fun hc => ?_)
      · replace hh := OK_t hh hc
        exact c_L_law_j1235 hM L xs hQ x.1 r39.2 hin hout0 hh
      · replace hh := OK_f hh hc
        exact hh.elim
    replace hh := OK_f hh hc
    refine ⟨fun hc => ?_, fun hc => ?_⟩
    · replace hh := OK_t hh hc
      refine A_blk hM.1 5 (lv1 := [some (aR 3000), some (aR 0), some (aR 150), some (aI x.1)]) (s1 := [aI (x.1 + 1), aR 3000, aR 0]) (h1 := x.2) rfl ?_
      obtain ⟨g40, hh⟩ := OK_g hh
      refine A_aldq hM.1 hQ rfl rfl g40 ?_
      refine A_blk hM.1 4 (lv1 := [some (aR 3000), some (aR 0), some (aR 150), some (aI x.1)]) (s1 := [aI (x.1 + 2), aR 3000, aI (xs (w32 (x.1 + 1)).toNat), aR 0]) (h1 := x.2) rfl ?_
      obtain ⟨g41, hh⟩ := OK_g hh
      refine A_aldq hM.1 hQ rfl rfl g41 ?_
      refine A_blk hM.1 4 (lv1 := [some (aR 3000), some (aR 0), some (aR 150), some (aI x.1)]) (s1 := [aI (x.1 + 3), aR 3000, aI (xs (w32 (x.1 + 2)).toNat), aI (xs (w32 (x.1 + 1)).toNat), aR 0]) (h1 := x.2) rfl ?_
      obtain ⟨g42, hh⟩ := OK_g hh
      refine A_aldq hM.1 hQ rfl rfl g42 ?_
      refine A_blk hM.1 4 (lv1 := [some (aR 3000), some (aR 0), some (aR 150), some (aI x.1)]) (s1 := [aI (x.1 + 4), aR 3000, aI (xs (w32 (x.1 + 3)).toNat), aI (xs (w32 (x.1 + 2)).toNat), aI (xs (w32 (x.1 + 1)).toNat), aR 0]) (h1 := x.2) rfl ?_
      obtain ⟨g43, hh⟩ := OK_g hh
      refine A_aldq hM.1 hQ rfl rfl g43 ?_
      refine A_blk hM.1 4 (lv1 := [some (aR 3000), some (aR 0), some (aR 150), some (aI x.1)]) (s1 := [aI (x.1 + 5), aR 3000, aI (xs (w32 (x.1 + 4)).toNat), aI (xs (w32 (x.1 + 3)).toNat), aI (xs (w32 (x.1 + 2)).toNat), aI (xs (w32 (x.1 + 1)).toNat), aR 0]) (h1 := x.2) rfl ?_
      obtain ⟨g44, hh⟩ := OK_g hh
      refine A_aldq hM.1 hQ rfl rfl g44 ?_
      refine A_callV hM rfl rfl (mem_GW 661 (by decide +kernel) rfl) mi_X11_bit (As := [aI (xs (w32 (x.1 + 1)).toNat), aI (xs (w32 (x.1 + 2)).toNat), aI (xs (w32 (x.1 + 3)).toNat), aI (xs (w32 (x.1 + 4)).toNat), aI (xs (w32 (x.1 + 5)).toNat)]) (rest := []) (ct_X11_bit (xs (w32 (x.1 + 1)).toNat) (xs (w32 (x.1 + 2)).toNat) (xs (w32 (x.1 + 3)).toNat) (xs (w32 (x.1 + 4)).toNat) (xs (w32 (x.1 + 5)).toNat) x.2 (OK_bind hh)) (by decide) (LK_room hQ) rfl rfl (Nat.le_of_ble_eq_true rfl) (by decide) rfl (by decide) rfl (fun r F' h' hq1 => ?_)
      obtain ⟨rfl, r45, rfl, e9, hh⟩ := hq1
      subst h'
      refine A_blk hM.1 5 (lv1 := [some (aR 3000), some (aR 0), some (aR 150), some (aI x.1)]) (s1 := [aI (x.1 + 1), aR 3000, aR 150, aI r45.1]) (h1 := r45.2) rfl ?_
      obtain ⟨g46, hh⟩ := OK_g hh
      refine A_aldq hM.1 hQ rfl rfl g46 ?_
      refine A_blk hM.1 4 (lv1 := [some (aR 3000), some (aR 0), some (aR 150), some (aI x.1)]) (s1 := [aI (x.1 + 2), aR 3000, aI (xs (w32 (x.1 + 1)).toNat), aR 150, aI r45.1]) (h1 := r45.2) rfl ?_
      obtain ⟨g47, hh⟩ := OK_g hh
      refine A_aldq hM.1 hQ rfl rfl g47 ?_
      refine A_blk hM.1 4 (lv1 := [some (aR 3000), some (aR 0), some (aR 150), some (aI x.1)]) (s1 := [aI (x.1 + 3), aR 3000, aI (xs (w32 (x.1 + 2)).toNat), aI (xs (w32 (x.1 + 1)).toNat), aR 150, aI r45.1]) (h1 := r45.2) rfl ?_
      obtain ⟨g48, hh⟩ := OK_g hh
      refine A_aldq hM.1 hQ rfl rfl g48 ?_
      refine A_blk hM.1 4 (lv1 := [some (aR 3000), some (aR 0), some (aR 150), some (aI x.1)]) (s1 := [aI (x.1 + 4), aR 3000, aI (xs (w32 (x.1 + 3)).toNat), aI (xs (w32 (x.1 + 2)).toNat), aI (xs (w32 (x.1 + 1)).toNat), aR 150, aI r45.1]) (h1 := r45.2) rfl ?_
      obtain ⟨g49, hh⟩ := OK_g hh
      refine A_aldq hM.1 hQ rfl rfl g49 ?_
      refine A_blk hM.1 4 (lv1 := [some (aR 3000), some (aR 0), some (aR 150), some (aI x.1)]) (s1 := [aI (x.1 + 5), aR 3000, aI (xs (w32 (x.1 + 4)).toNat), aI (xs (w32 (x.1 + 3)).toNat), aI (xs (w32 (x.1 + 2)).toNat), aI (xs (w32 (x.1 + 1)).toNat), aR 150, aI r45.1]) (h1 := r45.2) rfl ?_
      obtain ⟨g50, hh⟩ := OK_g hh
      refine A_aldq hM.1 hQ rfl rfl g50 ?_
      refine A_callV hM rfl rfl (mem_GW 1918 (by decide +kernel) rfl) mi_X12_bit (As := [aI (xs (w32 (x.1 + 1)).toNat), aI (xs (w32 (x.1 + 2)).toNat), aI (xs (w32 (x.1 + 3)).toNat), aI (xs (w32 (x.1 + 4)).toNat), aI (xs (w32 (x.1 + 5)).toNat)]) (rest := [aI r45.1]) (ct_X12_bit (xs (w32 (x.1 + 1)).toNat) (xs (w32 (x.1 + 2)).toNat) (xs (w32 (x.1 + 3)).toNat) (xs (w32 (x.1 + 4)).toNat) (xs (w32 (x.1 + 5)).toNat) r45.2 (OK_bind hh)) (by decide) (LK_room hQ) rfl rfl (Nat.le_of_ble_eq_true rfl) (by decide) rfl (by decide) rfl (fun r F' h' hq1 => ?_)
      obtain ⟨rfl, r51, rfl, e9, hh⟩ := hq1
      subst h'
      refine A_icmp hM.1 rfl rfl (fun hc => ?_) (fun hc => ?_)
      · replace hh := OK_t hh hc
        exact c_L_law_j1235 hM L xs hQ x.1 r51.2 hin hout0 hh
      · replace hh := OK_f hh hc
        exact hh.elim
    replace hh := OK_f hh hc
    refine ⟨fun hc => ?_, fun hc => ?_⟩
    · replace hh := OK_t hh hc
      refine A_blk hM.1 5 (lv1 := [some (aR 3000), some (aR 0), some (aR 150), some (aI x.1)]) (s1 := [aI (x.1 + 1), aR 3000, aR 0]) (h1 := x.2) rfl ?_
      obtain ⟨g52, hh⟩ := OK_g hh
      refine A_aldq hM.1 hQ rfl rfl g52 ?_
      refine A_blk hM.1 4 (lv1 := [some (aR 3000), some (aR 0), some (aR 150), some (aI x.1)]) (s1 := [aI (x.1 + 2), aR 3000, aI (xs (w32 (x.1 + 1)).toNat), aR 0]) (h1 := x.2) rfl ?_
      obtain ⟨g53, hh⟩ := OK_g hh
      refine A_aldq hM.1 hQ rfl rfl g53 ?_
      refine A_callV hM rfl rfl (mem_GW 698 (by decide +kernel) rfl) mi_X11_way (As := [aI (xs (w32 (x.1 + 1)).toNat), aI (xs (w32 (x.1 + 2)).toNat)]) (rest := []) (ct_X11_way (xs (w32 (x.1 + 1)).toNat) (xs (w32 (x.1 + 2)).toNat) x.2 (OK_bind hh)) (by decide) (LK_room hQ) rfl rfl (Nat.le_of_ble_eq_true rfl) (by decide) rfl (by decide) rfl (fun r F' h' hq1 => ?_)
      obtain ⟨rfl, r54, rfl, e9, hh⟩ := hq1
      subst h'
      refine A_blk hM.1 5 (lv1 := [some (aR 3000), some (aR 0), some (aR 150), some (aI x.1)]) (s1 := [aI (x.1 + 1), aR 3000, aR 150, aI r54.1]) (h1 := r54.2) rfl ?_
      obtain ⟨g55, hh⟩ := OK_g hh
      refine A_aldq hM.1 hQ rfl rfl g55 ?_
      refine A_blk hM.1 4 (lv1 := [some (aR 3000), some (aR 0), some (aR 150), some (aI x.1)]) (s1 := [aI (x.1 + 2), aR 3000, aI (xs (w32 (x.1 + 1)).toNat), aR 150, aI r54.1]) (h1 := r54.2) rfl ?_
      obtain ⟨g56, hh⟩ := OK_g hh
      refine A_aldq hM.1 hQ rfl rfl g56 ?_
      refine A_callV hM rfl rfl (mem_GW 1932 (by decide +kernel) rfl) mi_X12_way (As := [aI (xs (w32 (x.1 + 1)).toNat), aI (xs (w32 (x.1 + 2)).toNat)]) (rest := [aI r54.1]) (ct_X12_way (xs (w32 (x.1 + 1)).toNat) (xs (w32 (x.1 + 2)).toNat) r54.2 (OK_bind hh)) (by decide) (LK_room hQ) rfl rfl (Nat.le_of_ble_eq_true rfl) (by decide) rfl (by decide) rfl (fun r F' h' hq1 => ?_)
      obtain ⟨rfl, r57, rfl, e9, hh⟩ := hq1
      subst h'
      refine A_icmp hM.1 rfl rfl (fun hc => ?_) (fun hc => ?_)
      · replace hh := OK_t hh hc
        exact c_L_law_j1235 hM L xs hQ x.1 r57.2 hin hout0 hh
      · replace hh := OK_f hh hc
        exact hh.elim
    replace hh := OK_f hh hc
    refine ⟨fun hc => ?_, fun hc => ?_⟩
    · replace hh := OK_t hh hc
      refine A_blk hM.1 5 (lv1 := [some (aR 3000), some (aR 0), some (aR 150), some (aI x.1)]) (s1 := [aI (x.1 + 1), aR 3000, aR 0]) (h1 := x.2) rfl ?_
      obtain ⟨g58, hh⟩ := OK_g hh
      refine A_aldq hM.1 hQ rfl rfl g58 ?_
      refine A_callV hM rfl rfl (mem_GW 902 (by decide +kernel) rfl) mi_X11_plan (As := [aI (xs (w32 (x.1 + 1)).toNat)]) (rest := []) (ct_X11_plan (xs (w32 (x.1 + 1)).toNat) x.2 (OK_bind hh)) (by decide) (LK_room hQ) rfl rfl (Nat.le_of_ble_eq_true rfl) (by decide) rfl (by decide) rfl (fun r F' h' hq1 => ?_)
      obtain ⟨rfl, r59, rfl, e9, hh⟩ := hq1
      subst h'
      refine A_blk hM.1 5 (lv1 := [some (aR 3000), some (aR 0), some (aR 150), some (aI x.1)]) (s1 := [aI (x.1 + 1), aR 3000, aR 150, aI r59.1]) (h1 := r59.2) rfl ?_
      obtain ⟨g60, hh⟩ := OK_g hh
      refine A_aldq hM.1 hQ rfl rfl g60 ?_
      refine A_callV hM rfl rfl (mem_GW 2034 (by decide +kernel) rfl) mi_X12_plan (As := [aI (xs (w32 (x.1 + 1)).toNat)]) (rest := [aI r59.1]) (ct_X12_plan (xs (w32 (x.1 + 1)).toNat) r59.2 (OK_bind hh)) (by decide) (LK_room hQ) rfl rfl (Nat.le_of_ble_eq_true rfl) (by decide) rfl (by decide) rfl (fun r F' h' hq1 => ?_)
      obtain ⟨rfl, r61, rfl, e9, hh⟩ := hq1
      subst h'
      refine A_icmp hM.1 rfl rfl (fun hc => ?_) (fun hc => ?_)
      · replace hh := OK_t hh hc
        exact c_L_law_j1235 hM L xs hQ x.1 r61.2 hin hout0 hh
      · replace hh := OK_f hh hc
        exact hh.elim
    replace hh := OK_f hh hc
    refine ⟨fun hc => ?_, fun hc => ?_⟩
    · replace hh := OK_t hh hc
      refine A_blk hM.1 5 (lv1 := [some (aR 3000), some (aR 0), some (aR 150), some (aI x.1)]) (s1 := [aI (x.1 + 1), aR 3000, aR 0]) (h1 := x.2) rfl ?_
      obtain ⟨g62, hh⟩ := OK_g hh
      refine A_aldq hM.1 hQ rfl rfl g62 ?_
      refine A_callV hM rfl rfl (mem_GW 907 (by decide +kernel) rfl) mi_X11_habit (As := [aI (xs (w32 (x.1 + 1)).toNat)]) (rest := []) (ct_X11_habit (xs (w32 (x.1 + 1)).toNat) x.2 (OK_bind hh)) (by decide) (LK_room hQ) rfl rfl (Nat.le_of_ble_eq_true rfl) (by decide) rfl (by decide) rfl (fun r F' h' hq1 => ?_)
      obtain ⟨rfl, r63, rfl, e9, hh⟩ := hq1
      subst h'
      refine A_blk hM.1 5 (lv1 := [some (aR 3000), some (aR 0), some (aR 150), some (aI x.1)]) (s1 := [aI (x.1 + 1), aR 3000, aR 150, aI r63.1]) (h1 := r63.2) rfl ?_
      obtain ⟨g64, hh⟩ := OK_g hh
      refine A_aldq hM.1 hQ rfl rfl g64 ?_
      refine A_callV hM rfl rfl (mem_GW 2038 (by decide +kernel) rfl) mi_X12_habit (As := [aI (xs (w32 (x.1 + 1)).toNat)]) (rest := [aI r63.1]) (ct_X12_habit (xs (w32 (x.1 + 1)).toNat) r63.2 (OK_bind hh)) (by decide) (LK_room hQ) rfl rfl (Nat.le_of_ble_eq_true rfl) (by decide) rfl (by decide) rfl (fun r F' h' hq1 => ?_)
      obtain ⟨rfl, r65, rfl, e9, hh⟩ := hq1
      subst h'
      refine A_icmp hM.1 rfl rfl (fun hc => ?_) (fun hc => ?_)
      · replace hh := OK_t hh hc
        exact c_L_law_j1235 hM L xs hQ x.1 r65.2 hin hout0 hh
      · replace hh := OK_f hh hc
        exact hh.elim
    replace hh := OK_f hh hc
    refine ⟨fun hc => ?_, fun hc => ?_⟩
    · replace hh := OK_t hh hc
      refine A_blk hM.1 5 (lv1 := [some (aR 3000), some (aR 0), some (aR 150), some (aI x.1)]) (s1 := [aI (x.1 + 1), aR 3000, aR 0]) (h1 := x.2) rfl ?_
      obtain ⟨g66, hh⟩ := OK_g hh
      refine A_aldq hM.1 hQ rfl rfl g66 ?_
      refine A_callV hM rfl rfl (mem_GW 912 (by decide +kernel) rfl) mi_X11_table (As := [aI (xs (w32 (x.1 + 1)).toNat)]) (rest := []) (ct_X11_table (xs (w32 (x.1 + 1)).toNat) x.2 (OK_bind hh)) (by decide) (LK_room hQ) rfl rfl (Nat.le_of_ble_eq_true rfl) (by decide) rfl (by decide) rfl (fun r F' h' hq1 => ?_)
      obtain ⟨rfl, r67, rfl, e9, hh⟩ := hq1
      subst h'
      refine A_blk hM.1 5 (lv1 := [some (aR 3000), some (aR 0), some (aR 150), some (aI x.1)]) (s1 := [aI (x.1 + 1), aR 3000, aR 150, aI r67.1]) (h1 := r67.2) rfl ?_
      obtain ⟨g68, hh⟩ := OK_g hh
      refine A_aldq hM.1 hQ rfl rfl g68 ?_
      refine A_callV hM rfl rfl (mem_GW 2042 (by decide +kernel) rfl) mi_X12_table (As := [aI (xs (w32 (x.1 + 1)).toNat)]) (rest := [aI r67.1]) (ct_X12_table (xs (w32 (x.1 + 1)).toNat) r67.2 (OK_bind hh)) (by decide) (LK_room hQ) rfl rfl (Nat.le_of_ble_eq_true rfl) (by decide) rfl (by decide) rfl (fun r F' h' hq1 => ?_)
      obtain ⟨rfl, r69, rfl, e9, hh⟩ := hq1
      subst h'
      refine A_icmp hM.1 rfl rfl (fun hc => ?_) (fun hc => ?_)
      · replace hh := OK_t hh hc
        exact c_L_law_j1235 hM L xs hQ x.1 r69.2 hin hout0 hh
      · replace hh := OK_f hh hc
        exact hh.elim
    replace hh := OK_f hh hc
    refine ⟨fun hc => ?_, fun hc => ?_⟩
    · replace hh := OK_t hh hc
      refine A_blk hM.1 5 (lv1 := [some (aR 3000), some (aR 0), some (aR 150), some (aI x.1)]) (s1 := [aI (x.1 + 1), aR 3000, aR 0]) (h1 := x.2) rfl ?_
      obtain ⟨g70, hh⟩ := OK_g hh
      refine A_aldq hM.1 hQ rfl rfl g70 ?_
      refine A_blk hM.1 4 (lv1 := [some (aR 3000), some (aR 0), some (aR 150), some (aI x.1)]) (s1 := [aI (x.1 + 2), aR 3000, aI (xs (w32 (x.1 + 1)).toNat), aR 0]) (h1 := x.2) rfl ?_
      obtain ⟨g71, hh⟩ := OK_g hh
      refine A_aldq hM.1 hQ rfl rfl g71 ?_
      refine A_blk hM.1 4 (lv1 := [some (aR 3000), some (aR 0), some (aR 150), some (aI x.1)]) (s1 := [aI (x.1 + 3), aR 3000, aI (xs (w32 (x.1 + 2)).toNat), aI (xs (w32 (x.1 + 1)).toNat), aR 0]) (h1 := x.2) rfl ?_
      obtain ⟨g72, hh⟩ := OK_g hh
      refine A_aldq hM.1 hQ rfl rfl g72 ?_
      refine A_blk hM.1 4 (lv1 := [some (aR 3000), some (aR 0), some (aR 150), some (aI x.1)]) (s1 := [aI (x.1 + 4), aR 3000, aI (xs (w32 (x.1 + 3)).toNat), aI (xs (w32 (x.1 + 2)).toNat), aI (xs (w32 (x.1 + 1)).toNat), aR 0]) (h1 := x.2) rfl ?_
      obtain ⟨g73, hh⟩ := OK_g hh
      refine A_aldq hM.1 hQ rfl rfl g73 ?_
      refine A_blk hM.1 4 (lv1 := [some (aR 3000), some (aR 0), some (aR 150), some (aI x.1)]) (s1 := [aI (x.1 + 5), aR 3000, aI (xs (w32 (x.1 + 4)).toNat), aI (xs (w32 (x.1 + 3)).toNat), aI (xs (w32 (x.1 + 2)).toNat), aI (xs (w32 (x.1 + 1)).toNat), aR 0]) (h1 := x.2) rfl ?_
      obtain ⟨g74, hh⟩ := OK_g hh
      refine A_aldq hM.1 hQ rfl rfl g74 ?_
      refine A_callV hM rfl rfl (mem_GW 917 (by decide +kernel) rfl) mi_X11_quote (As := [aI (xs (w32 (x.1 + 1)).toNat), aI (xs (w32 (x.1 + 2)).toNat), aI (xs (w32 (x.1 + 3)).toNat), aI (xs (w32 (x.1 + 4)).toNat), aI (xs (w32 (x.1 + 5)).toNat)]) (rest := []) (ct_X11_quote (xs (w32 (x.1 + 1)).toNat) (xs (w32 (x.1 + 2)).toNat) (xs (w32 (x.1 + 3)).toNat) (xs (w32 (x.1 + 4)).toNat) (xs (w32 (x.1 + 5)).toNat) x.2 (OK_bind hh)) (by decide) (LK_room hQ) rfl rfl (Nat.le_of_ble_eq_true rfl) (by decide) rfl (by decide) rfl (fun r F' h' hq1 => ?_)
      obtain ⟨rfl, r75, rfl, e9, hh⟩ := hq1
      subst h'
      refine A_blk hM.1 5 (lv1 := [some (aR 3000), some (aR 0), some (aR 150), some (aI x.1)]) (s1 := [aI (x.1 + 1), aR 3000, aR 150, aI r75.1]) (h1 := r75.2) rfl ?_
      obtain ⟨g76, hh⟩ := OK_g hh
      refine A_aldq hM.1 hQ rfl rfl g76 ?_
      refine A_blk hM.1 4 (lv1 := [some (aR 3000), some (aR 0), some (aR 150), some (aI x.1)]) (s1 := [aI (x.1 + 2), aR 3000, aI (xs (w32 (x.1 + 1)).toNat), aR 150, aI r75.1]) (h1 := r75.2) rfl ?_
      obtain ⟨g77, hh⟩ := OK_g hh
      refine A_aldq hM.1 hQ rfl rfl g77 ?_
      refine A_blk hM.1 4 (lv1 := [some (aR 3000), some (aR 0), some (aR 150), some (aI x.1)]) (s1 := [aI (x.1 + 3), aR 3000, aI (xs (w32 (x.1 + 2)).toNat), aI (xs (w32 (x.1 + 1)).toNat), aR 150, aI r75.1]) (h1 := r75.2) rfl ?_
      obtain ⟨g78, hh⟩ := OK_g hh
      refine A_aldq hM.1 hQ rfl rfl g78 ?_
      refine A_blk hM.1 4 (lv1 := [some (aR 3000), some (aR 0), some (aR 150), some (aI x.1)]) (s1 := [aI (x.1 + 4), aR 3000, aI (xs (w32 (x.1 + 3)).toNat), aI (xs (w32 (x.1 + 2)).toNat), aI (xs (w32 (x.1 + 1)).toNat), aR 150, aI r75.1]) (h1 := r75.2) rfl ?_
      obtain ⟨g79, hh⟩ := OK_g hh
      refine A_aldq hM.1 hQ rfl rfl g79 ?_
      refine A_blk hM.1 4 (lv1 := [some (aR 3000), some (aR 0), some (aR 150), some (aI x.1)]) (s1 := [aI (x.1 + 5), aR 3000, aI (xs (w32 (x.1 + 4)).toNat), aI (xs (w32 (x.1 + 3)).toNat), aI (xs (w32 (x.1 + 2)).toNat), aI (xs (w32 (x.1 + 1)).toNat), aR 150, aI r75.1]) (h1 := r75.2) rfl ?_
      obtain ⟨g80, hh⟩ := OK_g hh
      refine A_aldq hM.1 hQ rfl rfl g80 ?_
      refine A_callV hM rfl rfl (mem_GW 2046 (by decide +kernel) rfl) mi_X12_quote (As := [aI (xs (w32 (x.1 + 1)).toNat), aI (xs (w32 (x.1 + 2)).toNat), aI (xs (w32 (x.1 + 3)).toNat), aI (xs (w32 (x.1 + 4)).toNat), aI (xs (w32 (x.1 + 5)).toNat)]) (rest := [aI r75.1]) (ct_X12_quote (xs (w32 (x.1 + 1)).toNat) (xs (w32 (x.1 + 2)).toNat) (xs (w32 (x.1 + 3)).toNat) (xs (w32 (x.1 + 4)).toNat) (xs (w32 (x.1 + 5)).toNat) r75.2 (OK_bind hh)) (by decide) (LK_room hQ) rfl rfl (Nat.le_of_ble_eq_true rfl) (by decide) rfl (by decide) rfl (fun r F' h' hq1 => ?_)
      obtain ⟨rfl, r81, rfl, e9, hh⟩ := hq1
      subst h'
      refine A_icmp hM.1 rfl rfl (fun hc => ?_) (fun hc => ?_)
      · replace hh := OK_t hh hc
        exact c_L_law_j1235 hM L xs hQ x.1 r81.2 hin hout0 hh
      · replace hh := OK_f hh hc
        exact hh.elim
    replace hh := OK_f hh hc
    refine ⟨fun hc => ?_, fun hc => ?_⟩
    · replace hh := OK_t hh hc
      refine A_blk hM.1 5 (lv1 := [some (aR 3000), some (aR 0), some (aR 150), some (aI x.1)]) (s1 := [aI (x.1 + 1), aR 3000, aR 0]) (h1 := x.2) rfl ?_
      obtain ⟨g82, hh⟩ := OK_g hh
      refine A_aldq hM.1 hQ rfl rfl g82 ?_
      refine A_blk hM.1 4 (lv1 := [some (aR 3000), some (aR 0), some (aR 150), some (aI x.1)]) (s1 := [aI (x.1 + 2), aR 3000, aI (xs (w32 (x.1 + 1)).toNat), aR 0]) (h1 := x.2) rfl ?_
      obtain ⟨g83, hh⟩ := OK_g hh
      refine A_aldq hM.1 hQ rfl rfl g83 ?_
      refine A_callV hM rfl rfl (mem_GW 982 (by decide +kernel) rfl) mi_X11_bitIs (As := [aI (xs (w32 (x.1 + 1)).toNat), aI (xs (w32 (x.1 + 2)).toNat)]) (rest := []) (ct_X11_bitIs (xs (w32 (x.1 + 1)).toNat) (xs (w32 (x.1 + 2)).toNat) x.2 (OK_bind hh)) (by decide) (LK_room hQ) rfl rfl (Nat.le_of_ble_eq_true rfl) (by decide) rfl (by decide) rfl (fun r F' h' hq1 => ?_)
      obtain ⟨rfl, r84, rfl, e9, hh⟩ := hq1
      subst h'
      refine A_blk hM.1 5 (lv1 := [some (aR 3000), some (aR 0), some (aR 150), some (aI x.1)]) (s1 := [aI (x.1 + 1), aR 3000, aR 150, aI r84]) (h1 := x.2) rfl ?_
      obtain ⟨g85, hh⟩ := OK_g hh
      refine A_aldq hM.1 hQ rfl rfl g85 ?_
      refine A_blk hM.1 4 (lv1 := [some (aR 3000), some (aR 0), some (aR 150), some (aI x.1)]) (s1 := [aI (x.1 + 2), aR 3000, aI (xs (w32 (x.1 + 1)).toNat), aR 150, aI r84]) (h1 := x.2) rfl ?_
      obtain ⟨g86, hh⟩ := OK_g hh
      refine A_aldq hM.1 hQ rfl rfl g86 ?_
      refine A_callV hM rfl rfl (mem_GW 2082 (by decide +kernel) rfl) mi_X12_bitIs (As := [aI (xs (w32 (x.1 + 1)).toNat), aI (xs (w32 (x.1 + 2)).toNat)]) (rest := [aI r84]) (ct_X12_bitIs (xs (w32 (x.1 + 1)).toNat) (xs (w32 (x.1 + 2)).toNat) x.2 (OK_bind hh)) (by decide) (LK_room hQ) rfl rfl (Nat.le_of_ble_eq_true rfl) (by decide) rfl (by decide) rfl (fun r F' h' hq1 => ?_)
      obtain ⟨rfl, r87, rfl, e9, hh⟩ := hq1
      subst h'
      refine A_icmp hM.1 rfl rfl (fun hc => ?_) (fun hc => ?_)
      · replace hh := OK_t hh hc
        exact c_L_law_j1235 hM L xs hQ x.1 x.2 hin hout0 hh
      · replace hh := OK_f hh hc
        exact hh.elim
    replace hh := OK_f hh hc
    refine ⟨fun hc => ?_, fun hc => ?_⟩
    · replace hh := OK_t hh hc
      refine A_blk hM.1 5 (lv1 := [some (aR 3000), some (aR 0), some (aR 150), some (aI x.1)]) (s1 := [aI (x.1 + 1), aR 3000, aR 0]) (h1 := x.2) rfl ?_
      obtain ⟨g88, hh⟩ := OK_g hh
      refine A_aldq hM.1 hQ rfl rfl g88 ?_
      refine A_blk hM.1 4 (lv1 := [some (aR 3000), some (aR 0), some (aR 150), some (aI x.1)]) (s1 := [aI (x.1 + 2), aR 3000, aI (xs (w32 (x.1 + 1)).toNat), aR 0]) (h1 := x.2) rfl ?_
      obtain ⟨g89, hh⟩ := OK_g hh
      refine A_aldq hM.1 hQ rfl rfl g89 ?_
      refine A_callV hM rfl rfl (mem_GW 1011 (by decide +kernel) rfl) mi_X11_apart (As := [aI (xs (w32 (x.1 + 1)).toNat), aI (xs (w32 (x.1 + 2)).toNat)]) (rest := []) (ct_X11_apart (xs (w32 (x.1 + 1)).toNat) (xs (w32 (x.1 + 2)).toNat) x.2 (OK_bind hh)) (by decide) (LK_room hQ) rfl rfl (Nat.le_of_ble_eq_true rfl) (by decide) rfl (by decide) rfl (fun r F' h' hq1 => ?_)
      obtain ⟨rfl, r90, rfl, e9, hh⟩ := hq1
      subst h'
      refine A_blk hM.1 5 (lv1 := [some (aR 3000), some (aR 0), some (aR 150), some (aI x.1)]) (s1 := [aI (x.1 + 1), aR 3000, aR 150, aI r90.1]) (h1 := r90.2) rfl ?_
      obtain ⟨g91, hh⟩ := OK_g hh
      refine A_aldq hM.1 hQ rfl rfl g91 ?_
      refine A_blk hM.1 4 (lv1 := [some (aR 3000), some (aR 0), some (aR 150), some (aI x.1)]) (s1 := [aI (x.1 + 2), aR 3000, aI (xs (w32 (x.1 + 1)).toNat), aR 150, aI r90.1]) (h1 := r90.2) rfl ?_
      obtain ⟨g92, hh⟩ := OK_g hh
      refine A_aldq hM.1 hQ rfl rfl g92 ?_
      refine A_callV hM rfl rfl (mem_GW 2090 (by decide +kernel) rfl) mi_X12_apart (As := [aI (xs (w32 (x.1 + 1)).toNat), aI (xs (w32 (x.1 + 2)).toNat)]) (rest := [aI r90.1]) (ct_X12_apart (xs (w32 (x.1 + 1)).toNat) (xs (w32 (x.1 + 2)).toNat) r90.2 (OK_bind hh)) (by decide) (LK_room hQ) rfl rfl (Nat.le_of_ble_eq_true rfl) (by decide) rfl (by decide) rfl (fun r F' h' hq1 => ?_)
      obtain ⟨rfl, r93, rfl, e9, hh⟩ := hq1
      subst h'
      refine A_icmp hM.1 rfl rfl (fun hc => ?_) (fun hc => ?_)
      · replace hh := OK_t hh hc
        exact c_L_law_j1235 hM L xs hQ x.1 r93.2 hin hout0 hh
      · replace hh := OK_f hh hc
        exact hh.elim
    replace hh := OK_f hh hc
    refine ⟨fun hc => ?_, fun hc => ?_⟩
    · replace hh := OK_t hh hc
      refine A_blk hM.1 5 (lv1 := [some (aR 3000), some (aR 0), some (aR 150), some (aI x.1)]) (s1 := [aI (x.1 + 1), aR 3000, aR 0]) (h1 := x.2) rfl ?_
      obtain ⟨g94, hh⟩ := OK_g hh
      refine A_aldq hM.1 hQ rfl rfl g94 ?_
      refine A_blk hM.1 4 (lv1 := [some (aR 3000), some (aR 0), some (aR 150), some (aI x.1)]) (s1 := [aI (x.1 + 2), aR 3000, aI (xs (w32 (x.1 + 1)).toNat), aR 0]) (h1 := x.2) rfl ?_
      obtain ⟨g95, hh⟩ := OK_g hh
      refine A_aldq hM.1 hQ rfl rfl g95 ?_
      refine A_blk hM.1 4 (lv1 := [some (aR 3000), some (aR 0), some (aR 150), some (aI x.1)]) (s1 := [aI (x.1 + 3), aR 3000, aI (xs (w32 (x.1 + 2)).toNat), aI (xs (w32 (x.1 + 1)).toNat), aR 0]) (h1 := x.2) rfl ?_
      obtain ⟨g96, hh⟩ := OK_g hh
      refine A_aldq hM.1 hQ rfl rfl g96 ?_
      refine A_callV hM rfl rfl (mem_GW 1031 (by decide +kernel) rfl) mi_X11_near (As := [aI (xs (w32 (x.1 + 1)).toNat), aI (xs (w32 (x.1 + 2)).toNat), aI (xs (w32 (x.1 + 3)).toNat)]) (rest := []) (ct_X11_near (xs (w32 (x.1 + 1)).toNat) (xs (w32 (x.1 + 2)).toNat) (xs (w32 (x.1 + 3)).toNat) x.2 (OK_bind hh)) (by decide) (LK_room hQ) rfl rfl (Nat.le_of_ble_eq_true rfl) (by decide) rfl (by decide) rfl (fun r F' h' hq1 => ?_)
      obtain ⟨rfl, r97, rfl, e9, hh⟩ := hq1
      subst h'
      refine A_blk hM.1 5 (lv1 := [some (aR 3000), some (aR 0), some (aR 150), some (aI x.1)]) (s1 := [aI (x.1 + 1), aR 3000, aR 150, aI r97.1]) (h1 := r97.2) rfl ?_
      obtain ⟨g98, hh⟩ := OK_g hh
      refine A_aldq hM.1 hQ rfl rfl g98 ?_
      refine A_blk hM.1 4 (lv1 := [some (aR 3000), some (aR 0), some (aR 150), some (aI x.1)]) (s1 := [aI (x.1 + 2), aR 3000, aI (xs (w32 (x.1 + 1)).toNat), aR 150, aI r97.1]) (h1 := r97.2) rfl ?_
      obtain ⟨g99, hh⟩ := OK_g hh
      refine A_aldq hM.1 hQ rfl rfl g99 ?_
      refine A_blk hM.1 4 (lv1 := [some (aR 3000), some (aR 0), some (aR 150), some (aI x.1)]) (s1 := [aI (x.1 + 3), aR 3000, aI (xs (w32 (x.1 + 2)).toNat), aI (xs (w32 (x.1 + 1)).toNat), aR 150, aI r97.1]) (h1 := r97.2) rfl ?_
      obtain ⟨g100, hh⟩ := OK_g hh
      refine A_aldq hM.1 hQ rfl rfl g100 ?_
      refine A_callV hM rfl rfl (mem_GW 2106 (by decide +kernel) rfl) mi_X12_near (As := [aI (xs (w32 (x.1 + 1)).toNat), aI (xs (w32 (x.1 + 2)).toNat), aI (xs (w32 (x.1 + 3)).toNat)]) (rest := [aI r97.1]) (ct_X12_near (xs (w32 (x.1 + 1)).toNat) (xs (w32 (x.1 + 2)).toNat) (xs (w32 (x.1 + 3)).toNat) r97.2 (OK_bind hh)) (by decide) (LK_room hQ) rfl rfl (Nat.le_of_ble_eq_true rfl) (by decide) rfl (by decide) rfl (fun r F' h' hq1 => ?_)
      obtain ⟨rfl, r101, rfl, e9, hh⟩ := hq1
      subst h'
      refine A_icmp hM.1 rfl rfl (fun hc => ?_) (fun hc => ?_)
      · replace hh := OK_t hh hc
        exact c_L_law_j1235 hM L xs hQ x.1 r101.2 hin hout0 hh
      · replace hh := OK_f hh hc
        exact hh.elim
    replace hh := OK_f hh hc
    refine ⟨fun hc => ?_, fun hc => ?_⟩
    · replace hh := OK_t hh hc
      refine A_blk hM.1 5 (lv1 := [some (aR 3000), some (aR 0), some (aR 150), some (aI x.1)]) (s1 := [aI (x.1 + 1), aR 3000, aR 0]) (h1 := x.2) rfl ?_
      obtain ⟨g102, hh⟩ := OK_g hh
      refine A_aldq hM.1 hQ rfl rfl g102 ?_
      refine A_blk hM.1 4 (lv1 := [some (aR 3000), some (aR 0), some (aR 150), some (aI x.1)]) (s1 := [aI (x.1 + 2), aR 3000, aI (xs (w32 (x.1 + 1)).toNat), aR 0]) (h1 := x.2) rfl ?_
      obtain ⟨g103, hh⟩ := OK_g hh
      refine A_aldq hM.1 hQ rfl rfl g103 ?_
      refine A_callV hM rfl rfl (mem_GW 1059 (by decide +kernel) rfl) mi_X11_nearness (As := [aI (xs (w32 (x.1 + 1)).toNat), aI (xs (w32 (x.1 + 2)).toNat)]) (rest := []) (ct_X11_nearness (xs (w32 (x.1 + 1)).toNat) (xs (w32 (x.1 + 2)).toNat) x.2 (OK_bind hh)) (by decide) (LK_room hQ) rfl rfl (Nat.le_of_ble_eq_true rfl) (by decide) rfl (by decide) rfl (fun r F' h' hq1 => ?_)
      obtain ⟨rfl, r104, rfl, e9, hh⟩ := hq1
      subst h'
      refine A_blk hM.1 5 (lv1 := [some (aR 3000), some (aR 0), some (aR 150), some (aI x.1)]) (s1 := [aI (x.1 + 1), aR 3000, aR 150, aI r104.1]) (h1 := r104.2) rfl ?_
      obtain ⟨g105, hh⟩ := OK_g hh
      refine A_aldq hM.1 hQ rfl rfl g105 ?_
      refine A_blk hM.1 4 (lv1 := [some (aR 3000), some (aR 0), some (aR 150), some (aI x.1)]) (s1 := [aI (x.1 + 2), aR 3000, aI (xs (w32 (x.1 + 1)).toNat), aR 150, aI r104.1]) (h1 := r104.2) rfl ?_
      obtain ⟨g106, hh⟩ := OK_g hh
      refine A_aldq hM.1 hQ rfl rfl g106 ?_
      refine A_callV hM rfl rfl (mem_GW 2119 (by decide +kernel) rfl) mi_X12_nearness (As := [aI (xs (w32 (x.1 + 1)).toNat), aI (xs (w32 (x.1 + 2)).toNat)]) (rest := [aI r104.1]) (ct_X12_nearness (xs (w32 (x.1 + 1)).toNat) (xs (w32 (x.1 + 2)).toNat) r104.2 (OK_bind hh)) (by decide) (LK_room hQ) rfl rfl (Nat.le_of_ble_eq_true rfl) (by decide) rfl (by decide) rfl (fun r F' h' hq1 => ?_)
      obtain ⟨rfl, r107, rfl, e9, hh⟩ := hq1
      subst h'
      refine A_icmp hM.1 rfl rfl (fun hc => ?_) (fun hc => ?_)
      · replace hh := OK_t hh hc
        exact c_L_law_j1235 hM L xs hQ x.1 r107.2 hin hout0 hh
      · replace hh := OK_f hh hc
        exact hh.elim
    replace hh := OK_f hh hc
    refine ⟨fun hc => ?_, fun hc => ?_⟩
    · replace hh := OK_t hh hc
      refine A_blk hM.1 5 (lv1 := [some (aR 3000), some (aR 0), some (aR 150), some (aI x.1)]) (s1 := [aI (x.1 + 1), aR 3000, aR 0]) (h1 := x.2) rfl ?_
      obtain ⟨g108, hh⟩ := OK_g hh
      refine A_aldq hM.1 hQ rfl rfl g108 ?_
      refine A_blk hM.1 4 (lv1 := [some (aR 3000), some (aR 0), some (aR 150), some (aI x.1)]) (s1 := [aI (x.1 + 2), aR 3000, aI (xs (w32 (x.1 + 1)).toNat), aR 0]) (h1 := x.2) rfl ?_
      obtain ⟨g109, hh⟩ := OK_g hh
      refine A_aldq hM.1 hQ rfl rfl g109 ?_
      refine A_callV hM rfl rfl (mem_GW 1063 (by decide +kernel) rfl) mi_X11_same (As := [aI (xs (w32 (x.1 + 1)).toNat), aI (xs (w32 (x.1 + 2)).toNat)]) (rest := []) (ct_X11_same (xs (w32 (x.1 + 1)).toNat) (xs (w32 (x.1 + 2)).toNat) x.2 (OK_bind hh)) (by decide) (LK_room hQ) rfl rfl (Nat.le_of_ble_eq_true rfl) (by decide) rfl (by decide) rfl (fun r F' h' hq1 => ?_)
      obtain ⟨rfl, r110, rfl, e9, hh⟩ := hq1
      subst h'
      refine A_blk hM.1 5 (lv1 := [some (aR 3000), some (aR 0), some (aR 150), some (aI x.1)]) (s1 := [aI (x.1 + 1), aR 3000, aR 150, aL r110.1]) (h1 := r110.2) rfl ?_
      obtain ⟨g111, hh⟩ := OK_g hh
      refine A_aldq hM.1 hQ rfl rfl g111 ?_
      refine A_blk hM.1 4 (lv1 := [some (aR 3000), some (aR 0), some (aR 150), some (aI x.1)]) (s1 := [aI (x.1 + 2), aR 3000, aI (xs (w32 (x.1 + 1)).toNat), aR 150, aL r110.1]) (h1 := r110.2) rfl ?_
      obtain ⟨g112, hh⟩ := OK_g hh
      refine A_aldq hM.1 hQ rfl rfl g112 ?_
      refine A_callV hM rfl rfl (mem_GW 2123 (by decide +kernel) rfl) mi_X12_same (As := [aI (xs (w32 (x.1 + 1)).toNat), aI (xs (w32 (x.1 + 2)).toNat)]) (rest := [aL r110.1]) (ct_X12_same (xs (w32 (x.1 + 1)).toNat) (xs (w32 (x.1 + 2)).toNat) r110.2 (OK_bind hh)) (by decide) (LK_room hQ) rfl rfl (Nat.le_of_ble_eq_true rfl) (by decide) rfl (by decide) rfl (fun r F' h' hq1 => ?_)
      obtain ⟨rfl, r113, rfl, e9, hh⟩ := hq1
      subst h'
      refine A_blk hM.1 1 (lv1 := [some (aR 3000), some (aR 0), some (aR 150), some (aI x.1)]) (s1 := [aI (cmp64 r110.1 r113.1)]) (h1 := r113.2) rfl ?_
      refine A_ifc hM.1 rfl rfl (fun hc => ?_) (fun hc => ?_)
      · replace hh := OK_t hh hc
        exact c_L_law_j1235 hM L xs hQ x.1 r113.2 hin hout0 hh
      · replace hh := OK_f hh hc
        exact hh.elim
    replace hh := OK_f hh hc
    refine ⟨fun hc => ?_, fun hc => ?_⟩
    · replace hh := OK_t hh hc
      refine A_blk hM.1 5 (lv1 := [some (aR 3000), some (aR 0), some (aR 150), some (aI x.1)]) (s1 := [aI (x.1 + 1), aR 3000, aR 0]) (h1 := x.2) rfl ?_
      obtain ⟨g114, hh⟩ := OK_g hh
      refine A_aldq hM.1 hQ rfl rfl g114 ?_
      refine A_blk hM.1 4 (lv1 := [some (aR 3000), some (aR 0), some (aR 150), some (aI x.1)]) (s1 := [aI (x.1 + 2), aR 3000, aI (xs (w32 (x.1 + 1)).toNat), aR 0]) (h1 := x.2) rfl ?_
      obtain ⟨g115, hh⟩ := OK_g hh
      refine A_aldq hM.1 hQ rfl rfl g115 ?_
      refine A_blk hM.1 4 (lv1 := [some (aR 3000), some (aR 0), some (aR 150), some (aI x.1)]) (s1 := [aI (x.1 + 3), aR 3000, aI (xs (w32 (x.1 + 2)).toNat), aI (xs (w32 (x.1 + 1)).toNat), aR 0]) (h1 := x.2) rfl ?_
      obtain ⟨g116, hh⟩ := OK_g hh
      refine A_aldq hM.1 hQ rfl rfl g116 ?_
      refine A_callV hM rfl rfl (mem_GW 1068 (by decide +kernel) rfl) mi_X11_stood (As := [aI (xs (w32 (x.1 + 1)).toNat), aI (xs (w32 (x.1 + 2)).toNat), aI (xs (w32 (x.1 + 3)).toNat)]) (rest := []) (ct_X11_stood (xs (w32 (x.1 + 1)).toNat) (xs (w32 (x.1 + 2)).toNat) (xs (w32 (x.1 + 3)).toNat) x.2 (OK_bind hh)) (by decide) (LK_room hQ) rfl rfl (Nat.le_of_ble_eq_true rfl) (by decide) rfl (by decide) rfl (fun r F' h' hq1 => ?_)
      obtain ⟨rfl, r117, rfl, e9, hh⟩ := hq1
      subst h'
      refine A_blk hM.1 5 (lv1 := [some (aR 3000), some (aR 0), some (aR 150), some (aI x.1)]) (s1 := [aI (x.1 + 1), aR 3000, aR 150, aI r117.1]) (h1 := r117.2) rfl ?_
      obtain ⟨g118, hh⟩ := OK_g hh
      refine A_aldq hM.1 hQ rfl rfl g118 ?_
      refine A_blk hM.1 4 (lv1 := [some (aR 3000), some (aR 0), some (aR 150), some (aI x.1)]) (s1 := [aI (x.1 + 2), aR 3000, aI (xs (w32 (x.1 + 1)).toNat), aR 150, aI r117.1]) (h1 := r117.2) rfl ?_
      obtain ⟨g119, hh⟩ := OK_g hh
      refine A_aldq hM.1 hQ rfl rfl g119 ?_
      refine A_blk hM.1 4 (lv1 := [some (aR 3000), some (aR 0), some (aR 150), some (aI x.1)]) (s1 := [aI (x.1 + 3), aR 3000, aI (xs (w32 (x.1 + 2)).toNat), aI (xs (w32 (x.1 + 1)).toNat), aR 150, aI r117.1]) (h1 := r117.2) rfl ?_
      obtain ⟨g120, hh⟩ := OK_g hh
      refine A_aldq hM.1 hQ rfl rfl g120 ?_
      refine A_callV hM rfl rfl (mem_GW 2128 (by decide +kernel) rfl) mi_X12_stood (As := [aI (xs (w32 (x.1 + 1)).toNat), aI (xs (w32 (x.1 + 2)).toNat), aI (xs (w32 (x.1 + 3)).toNat)]) (rest := [aI r117.1]) (ct_X12_stood (xs (w32 (x.1 + 1)).toNat) (xs (w32 (x.1 + 2)).toNat) (xs (w32 (x.1 + 3)).toNat) r117.2 (OK_bind hh)) (by decide) (LK_room hQ) rfl rfl (Nat.le_of_ble_eq_true rfl) (by decide) rfl (by decide) rfl (fun r F' h' hq1 => ?_)
      obtain ⟨rfl, r121, rfl, e9, hh⟩ := hq1
      subst h'
      refine A_icmp hM.1 rfl rfl (fun hc => ?_) (fun hc => ?_)
      · replace hh := OK_t hh hc
        exact c_L_law_j1235 hM L xs hQ x.1 r121.2 hin hout0 hh
      · replace hh := OK_f hh hc
        exact hh.elim
    replace hh := OK_f hh hc
    refine ⟨fun hc => ?_, fun hc => ?_⟩
    · replace hh := OK_t hh hc
      refine A_blk hM.1 5 (lv1 := [some (aR 3000), some (aR 0), some (aR 150), some (aI x.1)]) (s1 := [aI (x.1 + 1), aR 3000, aR 0]) (h1 := x.2) rfl ?_
      obtain ⟨g122, hh⟩ := OK_g hh
      refine A_aldq hM.1 hQ rfl rfl g122 ?_
      refine A_blk hM.1 4 (lv1 := [some (aR 3000), some (aR 0), some (aR 150), some (aI x.1)]) (s1 := [aI (x.1 + 2), aR 3000, aI (xs (w32 (x.1 + 1)).toNat), aR 0]) (h1 := x.2) rfl ?_
      obtain ⟨g123, hh⟩ := OK_g hh
      refine A_aldq hM.1 hQ rfl rfl g123 ?_
      refine A_blk hM.1 4 (lv1 := [some (aR 3000), some (aR 0), some (aR 150), some (aI x.1)]) (s1 := [aI (x.1 + 3), aR 3000, aI (xs (w32 (x.1 + 2)).toNat), aI (xs (w32 (x.1 + 1)).toNat), aR 0]) (h1 := x.2) rfl ?_
      obtain ⟨g124, hh⟩ := OK_g hh
      refine A_aldq hM.1 hQ rfl rfl g124 ?_
      refine A_callV hM rfl rfl (mem_GW 1093 (by decide +kernel) rfl) mi_X11_slips (As := [aI (xs (w32 (x.1 + 1)).toNat), aI (xs (w32 (x.1 + 2)).toNat), aI (xs (w32 (x.1 + 3)).toNat)]) (rest := []) (ct_X11_slips (xs (w32 (x.1 + 1)).toNat) (xs (w32 (x.1 + 2)).toNat) (xs (w32 (x.1 + 3)).toNat) x.2 (OK_bind hh)) (by decide) (LK_room hQ) rfl rfl (Nat.le_of_ble_eq_true rfl) (by decide) rfl (by decide) rfl (fun r F' h' hq1 => ?_)
      obtain ⟨rfl, r125, rfl, e9, hh⟩ := hq1
      subst h'
      refine A_blk hM.1 5 (lv1 := [some (aR 3000), some (aR 0), some (aR 150), some (aI x.1)]) (s1 := [aI (x.1 + 1), aR 3000, aR 150, aL r125.1]) (h1 := r125.2) rfl ?_
      obtain ⟨g126, hh⟩ := OK_g hh
      refine A_aldq hM.1 hQ rfl rfl g126 ?_
      refine A_blk hM.1 4 (lv1 := [some (aR 3000), some (aR 0), some (aR 150), some (aI x.1)]) (s1 := [aI (x.1 + 2), aR 3000, aI (xs (w32 (x.1 + 1)).toNat), aR 150, aL r125.1]) (h1 := r125.2) rfl ?_
      obtain ⟨g127, hh⟩ := OK_g hh
      refine A_aldq hM.1 hQ rfl rfl g127 ?_
      refine A_blk hM.1 4 (lv1 := [some (aR 3000), some (aR 0), some (aR 150), some (aI x.1)]) (s1 := [aI (x.1 + 3), aR 3000, aI (xs (w32 (x.1 + 2)).toNat), aI (xs (w32 (x.1 + 1)).toNat), aR 150, aL r125.1]) (h1 := r125.2) rfl ?_
      obtain ⟨g128, hh⟩ := OK_g hh
      refine A_aldq hM.1 hQ rfl rfl g128 ?_
      refine A_callV hM rfl rfl (mem_GW 2144 (by decide +kernel) rfl) mi_X12_slips (As := [aI (xs (w32 (x.1 + 1)).toNat), aI (xs (w32 (x.1 + 2)).toNat), aI (xs (w32 (x.1 + 3)).toNat)]) (rest := [aL r125.1]) (ct_X12_slips (xs (w32 (x.1 + 1)).toNat) (xs (w32 (x.1 + 2)).toNat) (xs (w32 (x.1 + 3)).toNat) r125.2 (OK_bind hh)) (by decide) (LK_room hQ) rfl rfl (Nat.le_of_ble_eq_true rfl) (by decide) rfl (by decide) rfl (fun r F' h' hq1 => ?_)
      obtain ⟨rfl, r129, rfl, e9, hh⟩ := hq1
      subst h'
      refine A_blk hM.1 1 (lv1 := [some (aR 3000), some (aR 0), some (aR 150), some (aI x.1)]) (s1 := [aI (cmp64 r125.1 r129.1)]) (h1 := r129.2) rfl ?_
      refine A_ifc hM.1 rfl rfl (fun hc => ?_) (fun hc => ?_)
      · replace hh := OK_t hh hc
        exact c_L_law_j1235 hM L xs hQ x.1 r129.2 hin hout0 hh
      · replace hh := OK_f hh hc
        exact hh.elim
    replace hh := OK_f hh hc
    refine ⟨fun hc => ?_, fun hc => ?_⟩
    · replace hh := OK_t hh hc
      refine A_blk hM.1 5 (lv1 := [some (aR 3000), some (aR 0), some (aR 150), some (aI x.1)]) (s1 := [aI (x.1 + 1), aR 3000, aR 0]) (h1 := x.2) rfl ?_
      obtain ⟨g130, hh⟩ := OK_g hh
      refine A_aldq hM.1 hQ rfl rfl g130 ?_
      refine A_blk hM.1 4 (lv1 := [some (aR 3000), some (aR 0), some (aR 150), some (aI x.1)]) (s1 := [aI (x.1 + 2), aR 3000, aI (xs (w32 (x.1 + 1)).toNat), aR 0]) (h1 := x.2) rfl ?_
      obtain ⟨g131, hh⟩ := OK_g hh
      refine A_aldq hM.1 hQ rfl rfl g131 ?_
      refine A_blk hM.1 4 (lv1 := [some (aR 3000), some (aR 0), some (aR 150), some (aI x.1)]) (s1 := [aI (x.1 + 3), aR 3000, aI (xs (w32 (x.1 + 2)).toNat), aI (xs (w32 (x.1 + 1)).toNat), aR 0]) (h1 := x.2) rfl ?_
      obtain ⟨g132, hh⟩ := OK_g hh
      refine A_aldq hM.1 hQ rfl rfl g132 ?_
      refine A_callV hM rfl rfl (mem_GW 1149 (by decide +kernel) rfl) mi_X11_slip (As := [aI (xs (w32 (x.1 + 1)).toNat), aI (xs (w32 (x.1 + 2)).toNat), aI (xs (w32 (x.1 + 3)).toNat)]) (rest := []) (ct_X11_slip (xs (w32 (x.1 + 1)).toNat) (xs (w32 (x.1 + 2)).toNat) (xs (w32 (x.1 + 3)).toNat) x.2 (OK_bind hh)) (by decide) (LK_room hQ) rfl rfl (Nat.le_of_ble_eq_true rfl) (by decide) rfl (by decide) rfl (fun r F' h' hq1 => ?_)
      obtain ⟨rfl, r133, rfl, e9, hh⟩ := hq1
      subst h'
      refine A_blk hM.1 5 (lv1 := [some (aR 3000), some (aR 0), some (aR 150), some (aI x.1)]) (s1 := [aI (x.1 + 1), aR 3000, aR 150, aI r133.1]) (h1 := r133.2) rfl ?_
      obtain ⟨g134, hh⟩ := OK_g hh
      refine A_aldq hM.1 hQ rfl rfl g134 ?_
      refine A_blk hM.1 4 (lv1 := [some (aR 3000), some (aR 0), some (aR 150), some (aI x.1)]) (s1 := [aI (x.1 + 2), aR 3000, aI (xs (w32 (x.1 + 1)).toNat), aR 150, aI r133.1]) (h1 := r133.2) rfl ?_
      obtain ⟨g135, hh⟩ := OK_g hh
      refine A_aldq hM.1 hQ rfl rfl g135 ?_
      refine A_blk hM.1 4 (lv1 := [some (aR 3000), some (aR 0), some (aR 150), some (aI x.1)]) (s1 := [aI (x.1 + 3), aR 3000, aI (xs (w32 (x.1 + 2)).toNat), aI (xs (w32 (x.1 + 1)).toNat), aR 150, aI r133.1]) (h1 := r133.2) rfl ?_
      obtain ⟨g136, hh⟩ := OK_g hh
      refine A_aldq hM.1 hQ rfl rfl g136 ?_
      refine A_callV hM rfl rfl (mem_GW 2171 (by decide +kernel) rfl) mi_X12_slip (As := [aI (xs (w32 (x.1 + 1)).toNat), aI (xs (w32 (x.1 + 2)).toNat), aI (xs (w32 (x.1 + 3)).toNat)]) (rest := [aI r133.1]) (ct_X12_slip (xs (w32 (x.1 + 1)).toNat) (xs (w32 (x.1 + 2)).toNat) (xs (w32 (x.1 + 3)).toNat) r133.2 (OK_bind hh)) (by decide) (LK_room hQ) rfl rfl (Nat.le_of_ble_eq_true rfl) (by decide) rfl (by decide) rfl (fun r F' h' hq1 => ?_)
      obtain ⟨rfl, r137, rfl, e9, hh⟩ := hq1
      subst h'
      refine A_icmp hM.1 rfl rfl (fun hc => ?_) (fun hc => ?_)
      · replace hh := OK_t hh hc
        exact c_L_law_j1235 hM L xs hQ x.1 r137.2 hin hout0 hh
      · replace hh := OK_f hh hc
        exact hh.elim
    replace hh := OK_f hh hc
    refine ⟨fun hc => ?_, fun hc => ?_⟩
    · replace hh := OK_t hh hc
      refine A_blk hM.1 5 (lv1 := [some (aR 3000), some (aR 0), some (aR 150), some (aI x.1)]) (s1 := [aI (x.1 + 1), aR 3000, aR 0]) (h1 := x.2) rfl ?_
      obtain ⟨g138, hh⟩ := OK_g hh
      refine A_aldq hM.1 hQ rfl rfl g138 ?_
      refine A_blk hM.1 4 (lv1 := [some (aR 3000), some (aR 0), some (aR 150), some (aI x.1)]) (s1 := [aI (x.1 + 2), aR 3000, aI (xs (w32 (x.1 + 1)).toNat), aR 0]) (h1 := x.2) rfl ?_
      obtain ⟨g139, hh⟩ := OK_g hh
      refine A_aldq hM.1 hQ rfl rfl g139 ?_
      refine A_blk hM.1 4 (lv1 := [some (aR 3000), some (aR 0), some (aR 150), some (aI x.1)]) (s1 := [aI (x.1 + 3), aR 3000, aI (xs (w32 (x.1 + 2)).toNat), aI (xs (w32 (x.1 + 1)).toNat), aR 0]) (h1 := x.2) rfl ?_
      obtain ⟨g140, hh⟩ := OK_g hh
      refine A_aldq hM.1 hQ rfl rfl g140 ?_
      refine A_blk hM.1 4 (lv1 := [some (aR 3000), some (aR 0), some (aR 150), some (aI x.1)]) (s1 := [aI (x.1 + 4), aR 3000, aI (xs (w32 (x.1 + 3)).toNat), aI (xs (w32 (x.1 + 2)).toNat), aI (xs (w32 (x.1 + 1)).toNat), aR 0]) (h1 := x.2) rfl ?_
      obtain ⟨g141, hh⟩ := OK_g hh
      refine A_aldq hM.1 hQ rfl rfl g141 ?_
      refine A_callV hM rfl rfl (mem_GW 1162 (by decide +kernel) rfl) mi_X11_shared (As := [aI (xs (w32 (x.1 + 1)).toNat), aI (xs (w32 (x.1 + 2)).toNat), aI (xs (w32 (x.1 + 3)).toNat), aI (xs (w32 (x.1 + 4)).toNat)]) (rest := []) (ct_X11_shared (xs (w32 (x.1 + 1)).toNat) (xs (w32 (x.1 + 2)).toNat) (xs (w32 (x.1 + 3)).toNat) (xs (w32 (x.1 + 4)).toNat) x.2 (OK_bind hh)) (by decide) (LK_room hQ) rfl rfl (Nat.le_of_ble_eq_true rfl) (by decide) rfl (by decide) rfl (fun r F' h' hq1 => ?_)
      obtain ⟨rfl, r142, rfl, e9, hh⟩ := hq1
      subst h'
      refine A_blk hM.1 5 (lv1 := [some (aR 3000), some (aR 0), some (aR 150), some (aI x.1)]) (s1 := [aI (x.1 + 1), aR 3000, aR 150, aL r142.1]) (h1 := r142.2) rfl ?_
      obtain ⟨g143, hh⟩ := OK_g hh
      refine A_aldq hM.1 hQ rfl rfl g143 ?_
      refine A_blk hM.1 4 (lv1 := [some (aR 3000), some (aR 0), some (aR 150), some (aI x.1)]) (s1 := [aI (x.1 + 2), aR 3000, aI (xs (w32 (x.1 + 1)).toNat), aR 150, aL r142.1]) (h1 := r142.2) rfl ?_
      obtain ⟨g144, hh⟩ := OK_g hh
      refine A_aldq hM.1 hQ rfl rfl g144 ?_
      refine A_blk hM.1 4 (lv1 := [some (aR 3000), some (aR 0), some (aR 150), some (aI x.1)]) (s1 := [aI (x.1 + 3), aR 3000, aI (xs (w32 (x.1 + 2)).toNat), aI (xs (w32 (x.1 + 1)).toNat), aR 150, aL r142.1]) (h1 := r142.2) rfl ?_
      obtain ⟨g145, hh⟩ := OK_g hh
      refine A_aldq hM.1 hQ rfl rfl g145 ?_
      refine A_blk hM.1 4 (lv1 := [some (aR 3000), some (aR 0), some (aR 150), some (aI x.1)]) (s1 := [aI (x.1 + 4), aR 3000, aI (xs (w32 (x.1 + 3)).toNat), aI (xs (w32 (x.1 + 2)).toNat), aI (xs (w32 (x.1 + 1)).toNat), aR 150, aL r142.1]) (h1 := r142.2) rfl ?_
      obtain ⟨g146, hh⟩ := OK_g hh
      refine A_aldq hM.1 hQ rfl rfl g146 ?_
      refine A_callV hM rfl rfl (mem_GW 2175 (by decide +kernel) rfl) mi_X12_shared (As := [aI (xs (w32 (x.1 + 1)).toNat), aI (xs (w32 (x.1 + 2)).toNat), aI (xs (w32 (x.1 + 3)).toNat), aI (xs (w32 (x.1 + 4)).toNat)]) (rest := [aL r142.1]) (ct_X12_shared (xs (w32 (x.1 + 1)).toNat) (xs (w32 (x.1 + 2)).toNat) (xs (w32 (x.1 + 3)).toNat) (xs (w32 (x.1 + 4)).toNat) r142.2 (OK_bind hh)) (by decide) (LK_room hQ) rfl rfl (Nat.le_of_ble_eq_true rfl) (by decide) rfl (by decide) rfl (fun r F' h' hq1 => ?_)
      obtain ⟨rfl, r147, rfl, e9, hh⟩ := hq1
      subst h'
      refine A_blk hM.1 1 (lv1 := [some (aR 3000), some (aR 0), some (aR 150), some (aI x.1)]) (s1 := [aI (cmp64 r142.1 r147.1)]) (h1 := r147.2) rfl ?_
      refine A_ifc hM.1 rfl rfl (fun hc => ?_) (fun hc => ?_)
      · replace hh := OK_t hh hc
        exact c_L_law_j1235 hM L xs hQ x.1 r147.2 hin hout0 hh
      · replace hh := OK_f hh hc
        exact hh.elim
    replace hh := OK_f hh hc
    refine ⟨fun hc => ?_, fun hc => ?_⟩
    · replace hh := OK_t hh hc
      refine A_blk hM.1 5 (lv1 := [some (aR 3000), some (aR 0), some (aR 150), some (aI x.1)]) (s1 := [aI (x.1 + 1), aR 3000, aR 0]) (h1 := x.2) rfl ?_
      obtain ⟨g148, hh⟩ := OK_g hh
      refine A_aldq hM.1 hQ rfl rfl g148 ?_
      refine A_blk hM.1 4 (lv1 := [some (aR 3000), some (aR 0), some (aR 150), some (aI x.1)]) (s1 := [aI (x.1 + 2), aR 3000, aI (xs (w32 (x.1 + 1)).toNat), aR 0]) (h1 := x.2) rfl ?_
      obtain ⟨g149, hh⟩ := OK_g hh
      refine A_aldq hM.1 hQ rfl rfl g149 ?_
      refine A_callV hM rfl rfl (mem_GW 1213 (by decide +kernel) rfl) mi_X11_groups (As := [aI (xs (w32 (x.1 + 1)).toNat), aI (xs (w32 (x.1 + 2)).toNat)]) (rest := []) (ct_X11_groups (xs (w32 (x.1 + 1)).toNat) (xs (w32 (x.1 + 2)).toNat) x.2 (OK_bind hh)) (by decide) (LK_room hQ) rfl rfl (Nat.le_of_ble_eq_true rfl) (by decide) rfl (by decide) rfl (fun r F' h' hq1 => ?_)
      obtain ⟨rfl, r150, rfl, e9, hh⟩ := hq1
      subst h'
      refine A_blk hM.1 5 (lv1 := [some (aR 3000), some (aR 0), some (aR 150), some (aI x.1)]) (s1 := [aI (x.1 + 1), aR 3000, aR 150, aI r150.1]) (h1 := r150.2) rfl ?_
      obtain ⟨g151, hh⟩ := OK_g hh
      refine A_aldq hM.1 hQ rfl rfl g151 ?_
      refine A_blk hM.1 4 (lv1 := [some (aR 3000), some (aR 0), some (aR 150), some (aI x.1)]) (s1 := [aI (x.1 + 2), aR 3000, aI (xs (w32 (x.1 + 1)).toNat), aR 150, aI r150.1]) (h1 := r150.2) rfl ?_
      obtain ⟨g152, hh⟩ := OK_g hh
      refine A_aldq hM.1 hQ rfl rfl g152 ?_
      refine A_callV hM rfl rfl (mem_GW 2190 (by decide +kernel) rfl) mi_X12_groups (As := [aI (xs (w32 (x.1 + 1)).toNat), aI (xs (w32 (x.1 + 2)).toNat)]) (rest := [aI r150.1]) (ct_X12_groups (xs (w32 (x.1 + 1)).toNat) (xs (w32 (x.1 + 2)).toNat) r150.2 (OK_bind hh)) (by decide) (LK_room hQ) rfl rfl (Nat.le_of_ble_eq_true rfl) (by decide) rfl (by decide) rfl (fun r F' h' hq1 => ?_)
      obtain ⟨rfl, r153, rfl, e9, hh⟩ := hq1
      subst h'
      refine A_icmp hM.1 rfl rfl (fun hc => ?_) (fun hc => ?_)
      · replace hh := OK_t hh hc
        exact c_L_law_j1235 hM L xs hQ x.1 r153.2 hin hout0 hh
      · replace hh := OK_f hh hc
        exact hh.elim
    replace hh := OK_f hh hc
    refine ⟨fun hc => ?_, fun hc => ?_⟩
    · replace hh := OK_t hh hc
      refine A_blk hM.1 5 (lv1 := [some (aR 3000), some (aR 0), some (aR 150), some (aI x.1)]) (s1 := [aI (x.1 + 1), aR 3000, aR 0]) (h1 := x.2) rfl ?_
      obtain ⟨g154, hh⟩ := OK_g hh
      refine A_aldq hM.1 hQ rfl rfl g154 ?_
      refine A_blk hM.1 4 (lv1 := [some (aR 3000), some (aR 0), some (aR 150), some (aI x.1)]) (s1 := [aI (x.1 + 2), aR 3000, aI (xs (w32 (x.1 + 1)).toNat), aR 0]) (h1 := x.2) rfl ?_
      obtain ⟨g155, hh⟩ := OK_g hh
      refine A_aldq hM.1 hQ rfl rfl g155 ?_
      refine A_blk hM.1 4 (lv1 := [some (aR 3000), some (aR 0), some (aR 150), some (aI x.1)]) (s1 := [aI (x.1 + 3), aR 3000, aI (xs (w32 (x.1 + 2)).toNat), aI (xs (w32 (x.1 + 1)).toNat), aR 0]) (h1 := x.2) rfl ?_
      obtain ⟨g156, hh⟩ := OK_g hh
      refine A_aldq hM.1 hQ rfl rfl g156 ?_
      refine A_callV hM rfl rfl (mem_GW 1240 (by decide +kernel) rfl) mi_X11_from (As := [aI (xs (w32 (x.1 + 1)).toNat), aI (xs (w32 (x.1 + 2)).toNat), aI (xs (w32 (x.1 + 3)).toNat)]) (rest := []) (ct_X11_from (xs (w32 (x.1 + 1)).toNat) (xs (w32 (x.1 + 2)).toNat) (xs (w32 (x.1 + 3)).toNat) x.2 (OK_bind hh)) (by decide) (LK_room hQ) rfl rfl (Nat.le_of_ble_eq_true rfl) (by decide) rfl (by decide) rfl (fun r F' h' hq1 => ?_)
      obtain ⟨rfl, r157, rfl, e9, hh⟩ := hq1
      subst h'
      refine A_blk hM.1 5 (lv1 := [some (aR 3000), some (aR 0), some (aR 150), some (aI x.1)]) (s1 := [aI (x.1 + 1), aR 3000, aR 150, aI r157.1]) (h1 := r157.2) rfl ?_
      obtain ⟨g158, hh⟩ := OK_g hh
      refine A_aldq hM.1 hQ rfl rfl g158 ?_
      refine A_blk hM.1 4 (lv1 := [some (aR 3000), some (aR 0), some (aR 150), some (aI x.1)]) (s1 := [aI (x.1 + 2), aR 3000, aI (xs (w32 (x.1 + 1)).toNat), aR 150, aI r157.1]) (h1 := r157.2) rfl ?_
      obtain ⟨g159, hh⟩ := OK_g hh
      refine A_aldq hM.1 hQ rfl rfl g159 ?_
      refine A_blk hM.1 4 (lv1 := [some (aR 3000), some (aR 0), some (aR 150), some (aI x.1)]) (s1 := [aI (x.1 + 3), aR 3000, aI (xs (w32 (x.1 + 2)).toNat), aI (xs (w32 (x.1 + 1)).toNat), aR 150, aI r157.1]) (h1 := r157.2) rfl ?_
      obtain ⟨g160, hh⟩ := OK_g hh
      refine A_aldq hM.1 hQ rfl rfl g160 ?_
      refine A_callV hM rfl rfl (mem_GW 2198 (by decide +kernel) rfl) mi_X12_from (As := [aI (xs (w32 (x.1 + 1)).toNat), aI (xs (w32 (x.1 + 2)).toNat), aI (xs (w32 (x.1 + 3)).toNat)]) (rest := [aI r157.1]) (ct_X12_from (xs (w32 (x.1 + 1)).toNat) (xs (w32 (x.1 + 2)).toNat) (xs (w32 (x.1 + 3)).toNat) r157.2 (OK_bind hh)) (by decide) (LK_room hQ) rfl rfl (Nat.le_of_ble_eq_true rfl) (by decide) rfl (by decide) rfl (fun r F' h' hq1 => ?_)
      obtain ⟨rfl, r161, rfl, e9, hh⟩ := hq1
      subst h'
      refine A_icmp hM.1 rfl rfl (fun hc => ?_) (fun hc => ?_)
      · replace hh := OK_t hh hc
        exact c_L_law_j1235 hM L xs hQ x.1 r161.2 hin hout0 hh
      · replace hh := OK_f hh hc
        exact hh.elim
    replace hh := OK_f hh hc
    refine ⟨fun hc => ?_, fun hc => ?_⟩
    · replace hh := OK_t hh hc
      refine A_blk hM.1 5 (lv1 := [some (aR 3000), some (aR 0), some (aR 150), some (aI x.1)]) (s1 := [aI (x.1 + 1), aR 3000, aR 0]) (h1 := x.2) rfl ?_
      obtain ⟨g162, hh⟩ := OK_g hh
      refine A_aldq hM.1 hQ rfl rfl g162 ?_
      refine A_callV hM rfl rfl (mem_GW 1267 (by decide +kernel) rfl) mi_X11_there (As := [aI (xs (w32 (x.1 + 1)).toNat)]) (rest := []) (ct_X11_there (xs (w32 (x.1 + 1)).toNat) x.2 (OK_bind hh)) (by decide) (LK_room hQ) rfl rfl (Nat.le_of_ble_eq_true rfl) (by decide) rfl (by decide) rfl (fun r F' h' hq1 => ?_)
      obtain ⟨rfl, r163, rfl, e9, hh⟩ := hq1
      subst h'
      refine A_blk hM.1 5 (lv1 := [some (aR 3000), some (aR 0), some (aR 150), some (aI x.1)]) (s1 := [aI (x.1 + 1), aR 3000, aR 150, aI r163.1]) (h1 := r163.2) rfl ?_
      obtain ⟨g164, hh⟩ := OK_g hh
      refine A_aldq hM.1 hQ rfl rfl g164 ?_
      refine A_callV hM rfl rfl (mem_GW 2206 (by decide +kernel) rfl) mi_X12_there (As := [aI (xs (w32 (x.1 + 1)).toNat)]) (rest := [aI r163.1]) (ct_X12_there (xs (w32 (x.1 + 1)).toNat) r163.2 (OK_bind hh)) (by decide) (LK_room hQ) rfl rfl (Nat.le_of_ble_eq_true rfl) (by decide) rfl (by decide) rfl (fun r F' h' hq1 => ?_)
      obtain ⟨rfl, r165, rfl, e9, hh⟩ := hq1
      subst h'
      refine A_icmp hM.1 rfl rfl (fun hc => ?_) (fun hc => ?_)
      · replace hh := OK_t hh hc
        exact c_L_law_j1235 hM L xs hQ x.1 r165.2 hin hout0 hh
      · replace hh := OK_f hh hc
        exact hh.elim
    replace hh := OK_f hh hc
    refine ⟨fun hc => ?_, fun hc => ?_⟩
    · replace hh := OK_t hh hc
      refine A_blk hM.1 5 (lv1 := [some (aR 3000), some (aR 0), some (aR 150), some (aI x.1)]) (s1 := [aI (x.1 + 1), aR 3000, aR 0]) (h1 := x.2) rfl ?_
      obtain ⟨g166, hh⟩ := OK_g hh
      refine A_aldq hM.1 hQ rfl rfl g166 ?_
      refine A_blk hM.1 4 (lv1 := [some (aR 3000), some (aR 0), some (aR 150), some (aI x.1)]) (s1 := [aI (x.1 + 2), aR 3000, aI (xs (w32 (x.1 + 1)).toNat), aR 0]) (h1 := x.2) rfl ?_
      obtain ⟨g167, hh⟩ := OK_g hh
      refine A_aldq hM.1 hQ rfl rfl g167 ?_
      refine A_callV hM rfl rfl (mem_GW 1278 (by decide +kernel) rfl) mi_X11_ahead (As := [aI (xs (w32 (x.1 + 1)).toNat), aI (xs (w32 (x.1 + 2)).toNat)]) (rest := []) (ct_X11_ahead (xs (w32 (x.1 + 1)).toNat) (xs (w32 (x.1 + 2)).toNat) x.2 (OK_bind hh)) (by decide) (LK_room hQ) rfl rfl (Nat.le_of_ble_eq_true rfl) (by decide) rfl (by decide) rfl (fun r F' h' hq1 => ?_)
      obtain ⟨rfl, r168, rfl, e9, hh⟩ := hq1
      subst h'
      refine A_blk hM.1 5 (lv1 := [some (aR 3000), some (aR 0), some (aR 150), some (aI x.1)]) (s1 := [aI (x.1 + 1), aR 3000, aR 150, aI r168.1]) (h1 := r168.2) rfl ?_
      obtain ⟨g169, hh⟩ := OK_g hh
      refine A_aldq hM.1 hQ rfl rfl g169 ?_
      refine A_blk hM.1 4 (lv1 := [some (aR 3000), some (aR 0), some (aR 150), some (aI x.1)]) (s1 := [aI (x.1 + 2), aR 3000, aI (xs (w32 (x.1 + 1)).toNat), aR 150, aI r168.1]) (h1 := r168.2) rfl ?_
      obtain ⟨g170, hh⟩ := OK_g hh
      refine A_aldq hM.1 hQ rfl rfl g170 ?_
      refine A_callV hM rfl rfl (mem_GW 2210 (by decide +kernel) rfl) mi_X12_ahead (As := [aI (xs (w32 (x.1 + 1)).toNat), aI (xs (w32 (x.1 + 2)).toNat)]) (rest := [aI r168.1]) (ct_X12_ahead (xs (w32 (x.1 + 1)).toNat) (xs (w32 (x.1 + 2)).toNat) r168.2 (OK_bind hh)) (by decide) (LK_room hQ) rfl rfl (Nat.le_of_ble_eq_true rfl) (by decide) rfl (by decide) rfl (fun r F' h' hq1 => ?_)
      obtain ⟨rfl, r171, rfl, e9, hh⟩ := hq1
      subst h'
      refine A_icmp hM.1 rfl rfl (fun hc => ?_) (fun hc => ?_)
      · replace hh := OK_t hh hc
        exact c_L_law_j1235 hM L xs hQ x.1 r171.2 hin hout0 hh
      · replace hh := OK_f hh hc
        exact hh.elim
    replace hh := OK_f hh hc
    refine ⟨fun hc => ?_, fun hc => ?_⟩
    · replace hh := OK_t hh hc
      refine A_blk hM.1 5 (lv1 := [some (aR 3000), some (aR 0), some (aR 150), some (aI x.1)]) (s1 := [aI (x.1 + 1), aR 3000, aR 0]) (h1 := x.2) rfl ?_
      obtain ⟨g172, hh⟩ := OK_g hh
      refine A_aldq hM.1 hQ rfl rfl g172 ?_
      refine A_blk hM.1 4 (lv1 := [some (aR 3000), some (aR 0), some (aR 150), some (aI x.1)]) (s1 := [aI (x.1 + 2), aR 3000, aI (xs (w32 (x.1 + 1)).toNat), aR 0]) (h1 := x.2) rfl ?_
      obtain ⟨g173, hh⟩ := OK_g hh
      refine A_aldq hM.1 hQ rfl rfl g173 ?_
      refine A_callV hM rfl rfl (mem_GW 1294 (by decide +kernel) rfl) mi_X11_order (As := [aI (xs (w32 (x.1 + 1)).toNat), aI (xs (w32 (x.1 + 2)).toNat)]) (rest := []) (ct_X11_order (xs (w32 (x.1 + 1)).toNat) (xs (w32 (x.1 + 2)).toNat) x.2 (OK_bind hh)) (by decide) (LK_room hQ) rfl rfl (Nat.le_of_ble_eq_true rfl) (by decide) rfl (by decide) rfl (fun r F' h' hq1 => ?_)
      obtain ⟨rfl, r174, rfl, e9, hh⟩ := hq1
      subst h'
      refine A_blk hM.1 5 (lv1 := [some (aR 3000), some (aR 0), some (aR 150), some (aI x.1)]) (s1 := [aI (x.1 + 1), aR 3000, aR 150, aI r174.1]) (h1 := r174.2) rfl ?_
      obtain ⟨g175, hh⟩ := OK_g hh
      refine A_aldq hM.1 hQ rfl rfl g175 ?_
      refine A_blk hM.1 4 (lv1 := [some (aR 3000), some (aR 0), some (aR 150), some (aI x.1)]) (s1 := [aI (x.1 + 2), aR 3000, aI (xs (w32 (x.1 + 1)).toNat), aR 150, aI r174.1]) (h1 := r174.2) rfl ?_
      obtain ⟨g176, hh⟩ := OK_g hh
      refine A_aldq hM.1 hQ rfl rfl g176 ?_
      refine A_callV hM rfl rfl (mem_GW 2214 (by decide +kernel) rfl) mi_X12_order (As := [aI (xs (w32 (x.1 + 1)).toNat), aI (xs (w32 (x.1 + 2)).toNat)]) (rest := [aI r174.1]) (ct_X12_order (xs (w32 (x.1 + 1)).toNat) (xs (w32 (x.1 + 2)).toNat) r174.2 (OK_bind hh)) (by decide) (LK_room hQ) rfl rfl (Nat.le_of_ble_eq_true rfl) (by decide) rfl (by decide) rfl (fun r F' h' hq1 => ?_)
      obtain ⟨rfl, r177, rfl, e9, hh⟩ := hq1
      subst h'
      refine A_icmp hM.1 rfl rfl (fun hc => ?_) (fun hc => ?_)
      · replace hh := OK_t hh hc
        exact c_L_law_j1235 hM L xs hQ x.1 r177.2 hin hout0 hh
      · replace hh := OK_f hh hc
        exact hh.elim
    replace hh := OK_f hh hc
    refine ⟨fun hc => ?_, fun hc => ?_⟩
    · replace hh := OK_t hh hc
      refine A_blk hM.1 5 (lv1 := [some (aR 3000), some (aR 0), some (aR 150), some (aI x.1)]) (s1 := [aI (x.1 + 1), aR 3000, aR 0]) (h1 := x.2) rfl ?_
      obtain ⟨g178, hh⟩ := OK_g hh
      refine A_aldq hM.1 hQ rfl rfl g178 ?_
      refine A_callV hM rfl rfl (mem_GW 1353 (by decide +kernel) rfl) mi_X11_orders (As := [aI (xs (w32 (x.1 + 1)).toNat)]) (rest := []) (ct_X11_orders (xs (w32 (x.1 + 1)).toNat) x.2 (OK_bind hh)) (by decide) (LK_room hQ) rfl rfl (Nat.le_of_ble_eq_true rfl) (by decide) rfl (by decide) rfl (fun r F' h' hq1 => ?_)
      obtain ⟨rfl, r179, rfl, e9, hh⟩ := hq1
      subst h'
      refine A_blk hM.1 5 (lv1 := [some (aR 3000), some (aR 0), some (aR 150), some (aI x.1)]) (s1 := [aI (x.1 + 1), aR 3000, aR 150, aL r179.1]) (h1 := r179.2) rfl ?_
      obtain ⟨g180, hh⟩ := OK_g hh
      refine A_aldq hM.1 hQ rfl rfl g180 ?_
      refine A_callV hM rfl rfl (mem_GW 2251 (by decide +kernel) rfl) mi_X12_orders (As := [aI (xs (w32 (x.1 + 1)).toNat)]) (rest := [aL r179.1]) (ct_X12_orders (xs (w32 (x.1 + 1)).toNat) r179.2 (OK_bind hh)) (by decide) (LK_room hQ) rfl rfl (Nat.le_of_ble_eq_true rfl) (by decide) rfl (by decide) rfl (fun r F' h' hq1 => ?_)
      obtain ⟨rfl, r181, rfl, e9, hh⟩ := hq1
      subst h'
      refine A_blk hM.1 1 (lv1 := [some (aR 3000), some (aR 0), some (aR 150), some (aI x.1)]) (s1 := [aI (cmp64 r179.1 r181.1)]) (h1 := r181.2) rfl ?_
      refine A_ifc hM.1 rfl rfl (fun hc => ?_) (fun hc => ?_)
      · replace hh := OK_t hh hc
        exact c_L_law_j1235 hM L xs hQ x.1 r181.2 hin hout0 hh
      · replace hh := OK_f hh hc
        exact hh.elim
    replace hh := OK_f hh hc
    refine ⟨fun hc => ?_, fun hc => ?_⟩
    · replace hh := OK_t hh hc
      refine A_blk hM.1 5 (lv1 := [some (aR 3000), some (aR 0), some (aR 150), some (aI x.1)]) (s1 := [aI (x.1 + 1), aR 3000, aR 0]) (h1 := x.2) rfl ?_
      obtain ⟨g182, hh⟩ := OK_g hh
      refine A_aldq hM.1 hQ rfl rfl g182 ?_
      refine A_blk hM.1 4 (lv1 := [some (aR 3000), some (aR 0), some (aR 150), some (aI x.1)]) (s1 := [aI (x.1 + 2), aR 3000, aI (xs (w32 (x.1 + 1)).toNat), aR 0]) (h1 := x.2) rfl ?_
      obtain ⟨g183, hh⟩ := OK_g hh
      refine A_aldq hM.1 hQ rfl rfl g183 ?_
      refine A_callV hM rfl rfl (mem_GW 1361 (by decide +kernel) rfl) mi_X11_sure (As := [aI (xs (w32 (x.1 + 1)).toNat), aI (xs (w32 (x.1 + 2)).toNat)]) (rest := []) (ct_X11_sure (xs (w32 (x.1 + 1)).toNat) (xs (w32 (x.1 + 2)).toNat) x.2 (OK_bind hh)) (by decide) (LK_room hQ) rfl rfl (Nat.le_of_ble_eq_true rfl) (by decide) rfl (by decide) rfl (fun r F' h' hq1 => ?_)
      obtain ⟨rfl, r184, rfl, e9, hh⟩ := hq1
      subst h'
      refine A_blk hM.1 5 (lv1 := [some (aR 3000), some (aR 0), some (aR 150), some (aI x.1)]) (s1 := [aI (x.1 + 1), aR 3000, aR 150, aI r184.1]) (h1 := r184.2) rfl ?_
      obtain ⟨g185, hh⟩ := OK_g hh
      refine A_aldq hM.1 hQ rfl rfl g185 ?_
      refine A_blk hM.1 4 (lv1 := [some (aR 3000), some (aR 0), some (aR 150), some (aI x.1)]) (s1 := [aI (x.1 + 2), aR 3000, aI (xs (w32 (x.1 + 1)).toNat), aR 150, aI r184.1]) (h1 := r184.2) rfl ?_
      obtain ⟨g186, hh⟩ := OK_g hh
      refine A_aldq hM.1 hQ rfl rfl g186 ?_
      refine A_callV hM rfl rfl (mem_GW 2255 (by decide +kernel) rfl) mi_X12_sure (As := [aI (xs (w32 (x.1 + 1)).toNat), aI (xs (w32 (x.1 + 2)).toNat)]) (rest := [aI r184.1]) (ct_X12_sure (xs (w32 (x.1 + 1)).toNat) (xs (w32 (x.1 + 2)).toNat) r184.2 (OK_bind hh)) (by decide) (LK_room hQ) rfl rfl (Nat.le_of_ble_eq_true rfl) (by decide) rfl (by decide) rfl (fun r F' h' hq1 => ?_)
      obtain ⟨rfl, r187, rfl, e9, hh⟩ := hq1
      subst h'
      refine A_icmp hM.1 rfl rfl (fun hc => ?_) (fun hc => ?_)
      · replace hh := OK_t hh hc
        exact c_L_law_j1235 hM L xs hQ x.1 r187.2 hin hout0 hh
      · replace hh := OK_f hh hc
        exact hh.elim
    replace hh := OK_f hh hc
    refine ⟨fun hc => ?_, fun hc => ?_⟩
    · replace hh := OK_t hh hc
      refine A_blk hM.1 5 (lv1 := [some (aR 3000), some (aR 0), some (aR 150), some (aI x.1)]) (s1 := [aI (x.1 + 1), aR 3000, aR 0]) (h1 := x.2) rfl ?_
      obtain ⟨g188, hh⟩ := OK_g hh
      refine A_aldq hM.1 hQ rfl rfl g188 ?_
      refine A_blk hM.1 7 (lv1 := [some (aR 3000), some (aR 0), some (aR 150), some (aI x.1)]) (s1 := [aI (x.1 + 2), aR 3000, aL (shl64 (w32 (xs (w32 (x.1 + 1)).toNat)) 32), aR 0]) (h1 := x.2) rfl ?_
      obtain ⟨g189, hh⟩ := OK_g hh
      refine A_aldq hM.1 hQ rfl rfl g189 ?_
      refine A_blk hM.1 8 (lv1 := [some (aR 3000), some (aR 0), some (aR 150), some (aI x.1)]) (s1 := [aI (x.1 + 3), aR 3000, aL (or64 (shl64 (w32 (xs (w32 (x.1 + 1)).toNat)) 32) (and64 (w32 (xs (w32 (x.1 + 2)).toNat)) 4294967295)), aR 0]) (h1 := x.2) rfl ?_
      obtain ⟨g190, hh⟩ := OK_g hh
      refine A_aldq hM.1 hQ rfl rfl g190 ?_
      refine A_blk hM.1 4 (lv1 := [some (aR 3000), some (aR 0), some (aR 150), some (aI x.1)]) (s1 := [aI (x.1 + 4), aR 3000, aI (xs (w32 (x.1 + 3)).toNat), aL (or64 (shl64 (w32 (xs (w32 (x.1 + 1)).toNat)) 32) (and64 (w32 (xs (w32 (x.1 + 2)).toNat)) 4294967295)), aR 0]) (h1 := x.2) rfl ?_
      obtain ⟨g191, hh⟩ := OK_g hh
      refine A_aldq hM.1 hQ rfl rfl g191 ?_
      refine A_callV hM rfl rfl (mem_GW 1377 (by decide +kernel) rfl) mi_X11_truth (As := [aL (or64 (shl64 (w32 (xs (w32 (x.1 + 1)).toNat)) 32) (and64 (w32 (xs (w32 (x.1 + 2)).toNat)) 4294967295)), aI (xs (w32 (x.1 + 3)).toNat), aI (xs (w32 (x.1 + 4)).toNat)]) (rest := []) (ct_X11_truth (or64 (shl64 (w32 (xs (w32 (x.1 + 1)).toNat)) 32) (and64 (w32 (xs (w32 (x.1 + 2)).toNat)) 4294967295)) (xs (w32 (x.1 + 3)).toNat) (xs (w32 (x.1 + 4)).toNat) x.2 (OK_bind hh)) (by decide) (LK_room hQ) rfl rfl (Nat.le_of_ble_eq_true rfl) (by decide) rfl (by decide) rfl (fun r F' h' hq1 => ?_)
      obtain ⟨rfl, r192, rfl, e9, hh⟩ := hq1
      subst h'
      refine A_blk hM.1 5 (lv1 := [some (aR 3000), some (aR 0), some (aR 150), some (aI x.1)]) (s1 := [aI (x.1 + 1), aR 3000, aR 150, aL r192.1]) (h1 := r192.2) rfl ?_
      obtain ⟨g193, hh⟩ := OK_g hh
      refine A_aldq hM.1 hQ rfl rfl g193 ?_
      refine A_blk hM.1 7 (lv1 := [some (aR 3000), some (aR 0), some (aR 150), some (aI x.1)]) (s1 := [aI (x.1 + 2), aR 3000, aL (shl64 (w32 (xs (w32 (x.1 + 1)).toNat)) 32), aR 150, aL r192.1]) (h1 := r192.2) rfl ?_
      obtain ⟨g194, hh⟩ := OK_g hh
      refine A_aldq hM.1 hQ rfl rfl g194 ?_
      refine A_blk hM.1 8 (lv1 := [some (aR 3000), some (aR 0), some (aR 150), some (aI x.1)]) (s1 := [aI (x.1 + 3), aR 3000, aL (or64 (shl64 (w32 (xs (w32 (x.1 + 1)).toNat)) 32) (and64 (w32 (xs (w32 (x.1 + 2)).toNat)) 4294967295)), aR 150, aL r192.1]) (h1 := r192.2) rfl ?_
      obtain ⟨g195, hh⟩ := OK_g hh
      refine A_aldq hM.1 hQ rfl rfl g195 ?_
      refine A_blk hM.1 4 (lv1 := [some (aR 3000), some (aR 0), some (aR 150), some (aI x.1)]) (s1 := [aI (x.1 + 4), aR 3000, aI (xs (w32 (x.1 + 3)).toNat), aL (or64 (shl64 (w32 (xs (w32 (x.1 + 1)).toNat)) 32) (and64 (w32 (xs (w32 (x.1 + 2)).toNat)) 4294967295)), aR 150, aL r192.1]) (h1 := r192.2) rfl ?_
      obtain ⟨g196, hh⟩ := OK_g hh
      refine A_aldq hM.1 hQ rfl rfl g196 ?_
      refine A_callV hM rfl rfl (mem_GW 2267 (by decide +kernel) rfl) mi_X12_truth (As := [aL (or64 (shl64 (w32 (xs (w32 (x.1 + 1)).toNat)) 32) (and64 (w32 (xs (w32 (x.1 + 2)).toNat)) 4294967295)), aI (xs (w32 (x.1 + 3)).toNat), aI (xs (w32 (x.1 + 4)).toNat)]) (rest := [aL r192.1]) (ct_X12_truth (or64 (shl64 (w32 (xs (w32 (x.1 + 1)).toNat)) 32) (and64 (w32 (xs (w32 (x.1 + 2)).toNat)) 4294967295)) (xs (w32 (x.1 + 3)).toNat) (xs (w32 (x.1 + 4)).toNat) r192.2 (OK_bind hh)) (by decide) (LK_room hQ) rfl rfl (Nat.le_of_ble_eq_true rfl) (by decide) rfl (by decide) rfl (fun r F' h' hq1 => ?_)
      obtain ⟨rfl, r197, rfl, e9, hh⟩ := hq1
      subst h'
      refine A_blk hM.1 1 (lv1 := [some (aR 3000), some (aR 0), some (aR 150), some (aI x.1)]) (s1 := [aI (cmp64 r192.1 r197.1)]) (h1 := r197.2) rfl ?_
      refine A_ifc hM.1 rfl rfl (fun hc => ?_) (fun hc => ?_)
      · replace hh := OK_t hh hc
        exact c_L_law_j1235 hM L xs hQ x.1 r197.2 hin hout0 hh
      · replace hh := OK_f hh hc
        exact hh.elim
    replace hh := OK_f hh hc
    refine ⟨fun hc => ?_, fun hc => ?_⟩
    · replace hh := OK_t hh hc
      refine A_blk hM.1 5 (lv1 := [some (aR 3000), some (aR 0), some (aR 150), some (aI x.1)]) (s1 := [aI (x.1 + 1), aR 3000, aR 0]) (h1 := x.2) rfl ?_
      obtain ⟨g198, hh⟩ := OK_g hh
      refine A_aldq hM.1 hQ rfl rfl g198 ?_
      refine A_blk hM.1 4 (lv1 := [some (aR 3000), some (aR 0), some (aR 150), some (aI x.1)]) (s1 := [aI (x.1 + 2), aR 3000, aI (xs (w32 (x.1 + 1)).toNat), aR 0]) (h1 := x.2) rfl ?_
      obtain ⟨g199, hh⟩ := OK_g hh
      refine A_aldq hM.1 hQ rfl rfl g199 ?_
      refine A_blk hM.1 4 (lv1 := [some (aR 3000), some (aR 0), some (aR 150), some (aI x.1)]) (s1 := [aI (x.1 + 3), aR 3000, aI (xs (w32 (x.1 + 2)).toNat), aI (xs (w32 (x.1 + 1)).toNat), aR 0]) (h1 := x.2) rfl ?_
      obtain ⟨g200, hh⟩ := OK_g hh
      refine A_aldq hM.1 hQ rfl rfl g200 ?_
      refine A_callV hM rfl rfl (mem_GW 1385 (by decide +kernel) rfl) mi_X11_length (As := [aI (xs (w32 (x.1 + 1)).toNat), aI (xs (w32 (x.1 + 2)).toNat), aI (xs (w32 (x.1 + 3)).toNat)]) (rest := []) (ct_X11_length (xs (w32 (x.1 + 1)).toNat) (xs (w32 (x.1 + 2)).toNat) (xs (w32 (x.1 + 3)).toNat) x.2 (OK_bind hh)) (by decide) (LK_room hQ) rfl rfl (Nat.le_of_ble_eq_true rfl) (by decide) rfl (by decide) rfl (fun r F' h' hq1 => ?_)
      obtain ⟨rfl, r201, rfl, e9, hh⟩ := hq1
      subst h'
      refine A_blk hM.1 5 (lv1 := [some (aR 3000), some (aR 0), some (aR 150), some (aI x.1)]) (s1 := [aI (x.1 + 1), aR 3000, aR 150, aL r201.1]) (h1 := r201.2) rfl ?_
      obtain ⟨g202, hh⟩ := OK_g hh
      refine A_aldq hM.1 hQ rfl rfl g202 ?_
      refine A_blk hM.1 4 (lv1 := [some (aR 3000), some (aR 0), some (aR 150), some (aI x.1)]) (s1 := [aI (x.1 + 2), aR 3000, aI (xs (w32 (x.1 + 1)).toNat), aR 150, aL r201.1]) (h1 := r201.2) rfl ?_
      obtain ⟨g203, hh⟩ := OK_g hh
      refine A_aldq hM.1 hQ rfl rfl g203 ?_
      refine A_blk hM.1 4 (lv1 := [some (aR 3000), some (aR 0), some (aR 150), some (aI x.1)]) (s1 := [aI (x.1 + 3), aR 3000, aI (xs (w32 (x.1 + 2)).toNat), aI (xs (w32 (x.1 + 1)).toNat), aR 150, aL r201.1]) (h1 := r201.2) rfl ?_
      obtain ⟨g204, hh⟩ := OK_g hh
      refine A_aldq hM.1 hQ rfl rfl g204 ?_
      refine A_callV hM rfl rfl (mem_GW 2279 (by decide +kernel) rfl) mi_X12_length (As := [aI (xs (w32 (x.1 + 1)).toNat), aI (xs (w32 (x.1 + 2)).toNat), aI (xs (w32 (x.1 + 3)).toNat)]) (rest := [aL r201.1]) (ct_X12_length (xs (w32 (x.1 + 1)).toNat) (xs (w32 (x.1 + 2)).toNat) (xs (w32 (x.1 + 3)).toNat) r201.2 (OK_bind hh)) (by decide) (LK_room hQ) rfl rfl (Nat.le_of_ble_eq_true rfl) (by decide) rfl (by decide) rfl (fun r F' h' hq1 => ?_)
      obtain ⟨rfl, r205, rfl, e9, hh⟩ := hq1
      subst h'
      refine A_blk hM.1 1 (lv1 := [some (aR 3000), some (aR 0), some (aR 150), some (aI x.1)]) (s1 := [aI (cmp64 r201.1 r205)]) (h1 := r201.2) rfl ?_
      refine A_ifc hM.1 rfl rfl (fun hc => ?_) (fun hc => ?_)
      · replace hh := OK_t hh hc
        exact c_L_law_j1235 hM L xs hQ x.1 r201.2 hin hout0 hh
      · replace hh := OK_f hh hc
        exact hh.elim
    replace hh := OK_f hh hc
    refine ⟨fun hc => ?_, fun hc => ?_⟩
    · replace hh := OK_t hh hc
      refine A_blk hM.1 5 (lv1 := [some (aR 3000), some (aR 0), some (aR 150), some (aI x.1)]) (s1 := [aI (x.1 + 1), aR 3000, aR 0]) (h1 := x.2) rfl ?_
      obtain ⟨g206, hh⟩ := OK_g hh
      refine A_aldq hM.1 hQ rfl rfl g206 ?_
      refine A_blk hM.1 4 (lv1 := [some (aR 3000), some (aR 0), some (aR 150), some (aI x.1)]) (s1 := [aI (x.1 + 2), aR 3000, aI (xs (w32 (x.1 + 1)).toNat), aR 0]) (h1 := x.2) rfl ?_
      obtain ⟨g207, hh⟩ := OK_g hh
      refine A_aldq hM.1 hQ rfl rfl g207 ?_
      refine A_blk hM.1 4 (lv1 := [some (aR 3000), some (aR 0), some (aR 150), some (aI x.1)]) (s1 := [aI (x.1 + 3), aR 3000, aI (xs (w32 (x.1 + 2)).toNat), aI (xs (w32 (x.1 + 1)).toNat), aR 0]) (h1 := x.2) rfl ?_
      obtain ⟨g208, hh⟩ := OK_g hh
      refine A_aldq hM.1 hQ rfl rfl g208 ?_
      refine A_callV hM rfl rfl (mem_GW 1406 (by decide +kernel) rfl) mi_X11_span (As := [aI (xs (w32 (x.1 + 1)).toNat), aI (xs (w32 (x.1 + 2)).toNat), aI (xs (w32 (x.1 + 3)).toNat)]) (rest := []) (ct_X11_span (xs (w32 (x.1 + 1)).toNat) (xs (w32 (x.1 + 2)).toNat) (xs (w32 (x.1 + 3)).toNat) x.2 (OK_bind hh)) (by decide) (LK_room hQ) rfl rfl (Nat.le_of_ble_eq_true rfl) (by decide) rfl (by decide) rfl (fun r F' h' hq1 => ?_)
      obtain ⟨rfl, r209, rfl, e9, hh⟩ := hq1
      subst h'
      refine A_blk hM.1 5 (lv1 := [some (aR 3000), some (aR 0), some (aR 150), some (aI x.1)]) (s1 := [aI (x.1 + 1), aR 3000, aR 150, aI r209.1]) (h1 := r209.2) rfl ?_
      obtain ⟨g210, hh⟩ := OK_g hh
      refine A_aldq hM.1 hQ rfl rfl g210 ?_
      refine A_blk hM.1 4 (lv1 := [some (aR 3000), some (aR 0), some (aR 150), some (aI x.1)]) (s1 := [aI (x.1 + 2), aR 3000, aI (xs (w32 (x.1 + 1)).toNat), aR 150, aI r209.1]) (h1 := r209.2) rfl ?_
      obtain ⟨g211, hh⟩ := OK_g hh
      refine A_aldq hM.1 hQ rfl rfl g211 ?_
      refine A_blk hM.1 4 (lv1 := [some (aR 3000), some (aR 0), some (aR 150), some (aI x.1)]) (s1 := [aI (x.1 + 3), aR 3000, aI (xs (w32 (x.1 + 2)).toNat), aI (xs (w32 (x.1 + 1)).toNat), aR 150, aI r209.1]) (h1 := r209.2) rfl ?_
      obtain ⟨g212, hh⟩ := OK_g hh
      refine A_aldq hM.1 hQ rfl rfl g212 ?_
      refine A_callV hM rfl rfl (mem_GW 2291 (by decide +kernel) rfl) mi_X12_span (As := [aI (xs (w32 (x.1 + 1)).toNat), aI (xs (w32 (x.1 + 2)).toNat), aI (xs (w32 (x.1 + 3)).toNat)]) (rest := [aI r209.1]) (ct_X12_span (xs (w32 (x.1 + 1)).toNat) (xs (w32 (x.1 + 2)).toNat) (xs (w32 (x.1 + 3)).toNat) r209.2 (OK_bind hh)) (by decide) (LK_room hQ) rfl rfl (Nat.le_of_ble_eq_true rfl) (by decide) rfl (by decide) rfl (fun r F' h' hq1 => ?_)
      obtain ⟨rfl, r213, rfl, e9, hh⟩ := hq1
      subst h'
      refine A_icmp hM.1 rfl rfl (fun hc => ?_) (fun hc => ?_)
      · replace hh := OK_t hh hc
        exact c_L_law_j1235 hM L xs hQ x.1 r209.2 hin hout0 hh
      · replace hh := OK_f hh hc
        exact hh.elim
    replace hh := OK_f hh hc
    refine ⟨fun hc => ?_, fun hc => ?_⟩
    · replace hh := OK_t hh hc
      refine A_blk hM.1 5 (lv1 := [some (aR 3000), some (aR 0), some (aR 150), some (aI x.1)]) (s1 := [aI (x.1 + 1), aR 3000, aR 0]) (h1 := x.2) rfl ?_
      obtain ⟨g214, hh⟩ := OK_g hh
      refine A_aldq hM.1 hQ rfl rfl g214 ?_
      refine A_blk hM.1 4 (lv1 := [some (aR 3000), some (aR 0), some (aR 150), some (aI x.1)]) (s1 := [aI (x.1 + 2), aR 3000, aI (xs (w32 (x.1 + 1)).toNat), aR 0]) (h1 := x.2) rfl ?_
      obtain ⟨g215, hh⟩ := OK_g hh
      refine A_aldq hM.1 hQ rfl rfl g215 ?_
      refine A_callV hM rfl rfl (mem_GW 1414 (by decide +kernel) rfl) mi_X11_nobody (As := [aI (xs (w32 (x.1 + 1)).toNat), aI (xs (w32 (x.1 + 2)).toNat)]) (rest := []) (ct_X11_nobody (xs (w32 (x.1 + 1)).toNat) (xs (w32 (x.1 + 2)).toNat) x.2 (OK_bind hh)) (by decide) (LK_room hQ) rfl rfl (Nat.le_of_ble_eq_true rfl) (by decide) rfl (by decide) rfl (fun r F' h' hq1 => ?_)
      obtain ⟨rfl, r216, rfl, e9, hh⟩ := hq1
      subst h'
      refine A_blk hM.1 5 (lv1 := [some (aR 3000), some (aR 0), some (aR 150), some (aI x.1)]) (s1 := [aI (x.1 + 1), aR 3000, aR 150, aL r216]) (h1 := x.2) rfl ?_
      obtain ⟨g217, hh⟩ := OK_g hh
      refine A_aldq hM.1 hQ rfl rfl g217 ?_
      refine A_blk hM.1 4 (lv1 := [some (aR 3000), some (aR 0), some (aR 150), some (aI x.1)]) (s1 := [aI (x.1 + 2), aR 3000, aI (xs (w32 (x.1 + 1)).toNat), aR 150, aL r216]) (h1 := x.2) rfl ?_
      obtain ⟨g218, hh⟩ := OK_g hh
      refine A_aldq hM.1 hQ rfl rfl g218 ?_
      refine A_callV hM rfl rfl (mem_GW 2295 (by decide +kernel) rfl) mi_X12_nobody (As := [aI (xs (w32 (x.1 + 1)).toNat), aI (xs (w32 (x.1 + 2)).toNat)]) (rest := [aL r216]) (ct_X12_nobody (xs (w32 (x.1 + 1)).toNat) (xs (w32 (x.1 + 2)).toNat) x.2 (OK_bind hh)) (by decide) (LK_room hQ) rfl rfl (Nat.le_of_ble_eq_true rfl) (by decide) rfl (by decide) rfl (fun r F' h' hq1 => ?_)
      obtain ⟨rfl, r219, rfl, e9, hh⟩ := hq1
      subst h'
      refine A_blk hM.1 1 (lv1 := [some (aR 3000), some (aR 0), some (aR 150), some (aI x.1)]) (s1 := [aI (cmp64 r216 r219)]) (h1 := x.2) rfl ?_
      refine A_ifc hM.1 rfl rfl (fun hc => ?_) (fun hc => ?_)
      · replace hh := OK_t hh hc
        exact c_L_law_j1235 hM L xs hQ x.1 x.2 hin hout0 hh
      · replace hh := OK_f hh hc
        exact hh.elim
    replace hh := OK_f hh hc
    refine ⟨fun hc => ?_, fun hc => ?_⟩
    · replace hh := OK_t hh hc
      refine A_blk hM.1 5 (lv1 := [some (aR 3000), some (aR 0), some (aR 150), some (aI x.1)]) (s1 := [aI (x.1 + 1), aR 3000, aR 0]) (h1 := x.2) rfl ?_
      obtain ⟨g220, hh⟩ := OK_g hh
      refine A_aldq hM.1 hQ rfl rfl g220 ?_
      refine A_blk hM.1 4 (lv1 := [some (aR 3000), some (aR 0), some (aR 150), some (aI x.1)]) (s1 := [aI (x.1 + 2), aR 3000, aI (xs (w32 (x.1 + 1)).toNat), aR 0]) (h1 := x.2) rfl ?_
      obtain ⟨g221, hh⟩ := OK_g hh
      refine A_aldq hM.1 hQ rfl rfl g221 ?_
      refine A_callV hM rfl rfl (mem_GW 1418 (by decide +kernel) rfl) mi_X11_whose (As := [aI (xs (w32 (x.1 + 1)).toNat), aI (xs (w32 (x.1 + 2)).toNat)]) (rest := []) (ct_X11_whose (xs (w32 (x.1 + 1)).toNat) (xs (w32 (x.1 + 2)).toNat) x.2 (OK_bind hh)) (by decide) (LK_room hQ) rfl rfl (Nat.le_of_ble_eq_true rfl) (by decide) rfl (by decide) rfl (fun r F' h' hq1 => ?_)
      obtain ⟨rfl, r222, rfl, e9, hh⟩ := hq1
      subst h'
      refine A_blk hM.1 5 (lv1 := [some (aR 3000), some (aR 0), some (aR 150), some (aI x.1)]) (s1 := [aI (x.1 + 1), aR 3000, aR 150, aI r222.1]) (h1 := r222.2) rfl ?_
      obtain ⟨g223, hh⟩ := OK_g hh
      refine A_aldq hM.1 hQ rfl rfl g223 ?_
      refine A_blk hM.1 4 (lv1 := [some (aR 3000), some (aR 0), some (aR 150), some (aI x.1)]) (s1 := [aI (x.1 + 2), aR 3000, aI (xs (w32 (x.1 + 1)).toNat), aR 150, aI r222.1]) (h1 := r222.2) rfl ?_
      obtain ⟨g224, hh⟩ := OK_g hh
      refine A_aldq hM.1 hQ rfl rfl g224 ?_
      refine A_callV hM rfl rfl (mem_GW 2299 (by decide +kernel) rfl) mi_X12_whose (As := [aI (xs (w32 (x.1 + 1)).toNat), aI (xs (w32 (x.1 + 2)).toNat)]) (rest := [aI r222.1]) (ct_X12_whose (xs (w32 (x.1 + 1)).toNat) (xs (w32 (x.1 + 2)).toNat) r222.2 (OK_bind hh)) (by decide) (LK_room hQ) rfl rfl (Nat.le_of_ble_eq_true rfl) (by decide) rfl (by decide) rfl (fun r F' h' hq1 => ?_)
      obtain ⟨rfl, r225, rfl, e9, hh⟩ := hq1
      subst h'
      refine A_icmp hM.1 rfl rfl (fun hc => ?_) (fun hc => ?_)
      · replace hh := OK_t hh hc
        exact c_L_law_j1235 hM L xs hQ x.1 r225.2 hin hout0 hh
      · replace hh := OK_f hh hc
        exact hh.elim
    replace hh := OK_f hh hc
    refine ⟨fun hc => ?_, fun hc => ?_⟩
    · replace hh := OK_t hh hc
      refine A_blk hM.1 5 (lv1 := [some (aR 3000), some (aR 0), some (aR 150), some (aI x.1)]) (s1 := [aI (x.1 + 1), aR 3000, aR 0]) (h1 := x.2) rfl ?_
      obtain ⟨g226, hh⟩ := OK_g hh
      refine A_aldq hM.1 hQ rfl rfl g226 ?_
      refine A_blk hM.1 4 (lv1 := [some (aR 3000), some (aR 0), some (aR 150), some (aI x.1)]) (s1 := [aI (x.1 + 2), aR 3000, aI (xs (w32 (x.1 + 1)).toNat), aR 0]) (h1 := x.2) rfl ?_
      obtain ⟨g227, hh⟩ := OK_g hh
      refine A_aldq hM.1 hQ rfl rfl g227 ?_
      refine A_callV hM rfl rfl (mem_GW 1478 (by decide +kernel) rfl) mi_X11_men (As := [aI (xs (w32 (x.1 + 1)).toNat), aI (xs (w32 (x.1 + 2)).toNat)]) (rest := []) (ct_X11_men (xs (w32 (x.1 + 1)).toNat) (xs (w32 (x.1 + 2)).toNat) x.2 (OK_bind hh)) (by decide) (LK_room hQ) rfl rfl (Nat.le_of_ble_eq_true rfl) (by decide) rfl (by decide) rfl (fun r F' h' hq1 => ?_)
      obtain ⟨rfl, r228, rfl, e9, hh⟩ := hq1
      subst h'
      refine A_blk hM.1 5 (lv1 := [some (aR 3000), some (aR 0), some (aR 150), some (aI x.1)]) (s1 := [aI (x.1 + 1), aR 3000, aR 150, aL r228.1]) (h1 := r228.2) rfl ?_
      obtain ⟨g229, hh⟩ := OK_g hh
      refine A_aldq hM.1 hQ rfl rfl g229 ?_
      refine A_blk hM.1 4 (lv1 := [some (aR 3000), some (aR 0), some (aR 150), some (aI x.1)]) (s1 := [aI (x.1 + 2), aR 3000, aI (xs (w32 (x.1 + 1)).toNat), aR 150, aL r228.1]) (h1 := r228.2) rfl ?_
      obtain ⟨g230, hh⟩ := OK_g hh
      refine A_aldq hM.1 hQ rfl rfl g230 ?_
      refine A_callV hM rfl rfl (mem_GW 2316 (by decide +kernel) rfl) mi_X12_men (As := [aI (xs (w32 (x.1 + 1)).toNat), aI (xs (w32 (x.1 + 2)).toNat)]) (rest := [aL r228.1]) (ct_X12_men (xs (w32 (x.1 + 1)).toNat) (xs (w32 (x.1 + 2)).toNat) r228.2 (OK_bind hh)) (by decide) (LK_room hQ) rfl rfl (Nat.le_of_ble_eq_true rfl) (by decide) rfl (by decide) rfl (fun r F' h' hq1 => ?_)
      obtain ⟨rfl, r231, rfl, e9, hh⟩ := hq1
      subst h'
      refine A_blk hM.1 1 (lv1 := [some (aR 3000), some (aR 0), some (aR 150), some (aI x.1)]) (s1 := [aI (cmp64 r228.1 r231.1)]) (h1 := r231.2) rfl ?_
      refine A_ifc hM.1 rfl rfl (fun hc => ?_) (fun hc => ?_)
      · replace hh := OK_t hh hc
        exact c_L_law_j1235 hM L xs hQ x.1 r231.2 hin hout0 hh
      · replace hh := OK_f hh hc
        exact hh.elim
    replace hh := OK_f hh hc
    refine ⟨fun hc => ?_, fun hc => ?_⟩
    · replace hh := OK_t hh hc
      refine A_blk hM.1 5 (lv1 := [some (aR 3000), some (aR 0), some (aR 150), some (aI x.1)]) (s1 := [aI (x.1 + 1), aR 3000, aR 0]) (h1 := x.2) rfl ?_
      obtain ⟨g232, hh⟩ := OK_g hh
      refine A_aldq hM.1 hQ rfl rfl g232 ?_
      refine A_blk hM.1 4 (lv1 := [some (aR 3000), some (aR 0), some (aR 150), some (aI x.1)]) (s1 := [aI (x.1 + 2), aR 3000, aI (xs (w32 (x.1 + 1)).toNat), aR 0]) (h1 := x.2) rfl ?_
      obtain ⟨g233, hh⟩ := OK_g hh
      refine A_aldq hM.1 hQ rfl rfl g233 ?_
      refine A_blk hM.1 4 (lv1 := [some (aR 3000), some (aR 0), some (aR 150), some (aI x.1)]) (s1 := [aI (x.1 + 3), aR 3000, aI (xs (w32 (x.1 + 2)).toNat), aI (xs (w32 (x.1 + 1)).toNat), aR 0]) (h1 := x.2) rfl ?_
      obtain ⟨g234, hh⟩ := OK_g hh
      refine A_aldq hM.1 hQ rfl rfl g234 ?_
      refine A_callV hM rfl rfl (mem_GW 1516 (by decide +kernel) rfl) mi_X11_gives (As := [aI (xs (w32 (x.1 + 1)).toNat), aI (xs (w32 (x.1 + 2)).toNat), aI (xs (w32 (x.1 + 3)).toNat)]) (rest := []) (ct_X11_gives (xs (w32 (x.1 + 1)).toNat) (xs (w32 (x.1 + 2)).toNat) (xs (w32 (x.1 + 3)).toNat) x.2 (OK_bind hh)) (by decide) (LK_room hQ) rfl rfl (Nat.le_of_ble_eq_true rfl) (by decide) rfl (by decide) rfl (fun r F' h' hq1 => ?_)
      obtain ⟨rfl, r235, rfl, e9, hh⟩ := hq1
      subst h'
      refine A_blk hM.1 5 (lv1 := [some (aR 3000), some (aR 0), some (aR 150), some (aI x.1)]) (s1 := [aI (x.1 + 1), aR 3000, aR 150, aI r235.1]) (h1 := r235.2) rfl ?_
      obtain ⟨g236, hh⟩ := OK_g hh
      refine A_aldq hM.1 hQ rfl rfl g236 ?_
      refine A_blk hM.1 4 (lv1 := [some (aR 3000), some (aR 0), some (aR 150), some (aI x.1)]) (s1 := [aI (x.1 + 2), aR 3000, aI (xs (w32 (x.1 + 1)).toNat), aR 150, aI r235.1]) (h1 := r235.2) rfl ?_
      obtain ⟨g237, hh⟩ := OK_g hh
      refine A_aldq hM.1 hQ rfl rfl g237 ?_
      refine A_blk hM.1 4 (lv1 := [some (aR 3000), some (aR 0), some (aR 150), some (aI x.1)]) (s1 := [aI (x.1 + 3), aR 3000, aI (xs (w32 (x.1 + 2)).toNat), aI (xs (w32 (x.1 + 1)).toNat), aR 150, aI r235.1]) (h1 := r235.2) rfl ?_
      obtain ⟨g238, hh⟩ := OK_g hh
      refine A_aldq hM.1 hQ rfl rfl g238 ?_
      refine A_callV hM rfl rfl (mem_GW 2325 (by decide +kernel) rfl) mi_X12_gives (As := [aI (xs (w32 (x.1 + 1)).toNat), aI (xs (w32 (x.1 + 2)).toNat), aI (xs (w32 (x.1 + 3)).toNat)]) (rest := [aI r235.1]) (ct_X12_gives (xs (w32 (x.1 + 1)).toNat) (xs (w32 (x.1 + 2)).toNat) (xs (w32 (x.1 + 3)).toNat) r235.2 (OK_bind hh)) (by decide) (LK_room hQ) rfl rfl (Nat.le_of_ble_eq_true rfl) (by decide) rfl (by decide) rfl (fun r F' h' hq1 => ?_)
      obtain ⟨rfl, r239, rfl, e9, hh⟩ := hq1
      subst h'
      refine A_icmp hM.1 rfl rfl (fun hc => ?_) (fun hc => ?_)
      · replace hh := OK_t hh hc
        exact c_L_law_j1235 hM L xs hQ x.1 r239.2 hin hout0 hh
      · replace hh := OK_f hh hc
        exact hh.elim
    replace hh := OK_f hh hc
    refine ⟨fun hc => ?_, fun hc => ?_⟩
    · replace hh := OK_t hh hc
      refine A_blk hM.1 5 (lv1 := [some (aR 3000), some (aR 0), some (aR 150), some (aI x.1)]) (s1 := [aI (x.1 + 1), aR 3000, aR 0]) (h1 := x.2) rfl ?_
      obtain ⟨g240, hh⟩ := OK_g hh
      refine A_aldq hM.1 hQ rfl rfl g240 ?_
      refine A_blk hM.1 4 (lv1 := [some (aR 3000), some (aR 0), some (aR 150), some (aI x.1)]) (s1 := [aI (x.1 + 2), aR 3000, aI (xs (w32 (x.1 + 1)).toNat), aR 0]) (h1 := x.2) rfl ?_
      obtain ⟨g241, hh⟩ := OK_g hh
      refine A_aldq hM.1 hQ rfl rfl g241 ?_
      refine A_callV hM rfl rfl (mem_GW 1526 (by decide +kernel) rfl) mi_X11_given (As := [aI (xs (w32 (x.1 + 1)).toNat), aI (xs (w32 (x.1 + 2)).toNat)]) (rest := []) (ct_X11_given (xs (w32 (x.1 + 1)).toNat) (xs (w32 (x.1 + 2)).toNat) x.2 (OK_bind hh)) (by decide) (LK_room hQ) rfl rfl (Nat.le_of_ble_eq_true rfl) (by decide) rfl (by decide) rfl (fun r F' h' hq1 => ?_)
      obtain ⟨rfl, r242, rfl, e9, hh⟩ := hq1
      subst h'
      refine A_blk hM.1 5 (lv1 := [some (aR 3000), some (aR 0), some (aR 150), some (aI x.1)]) (s1 := [aI (x.1 + 1), aR 3000, aR 150, aI r242]) (h1 := x.2) rfl ?_
      obtain ⟨g243, hh⟩ := OK_g hh
      refine A_aldq hM.1 hQ rfl rfl g243 ?_
      refine A_blk hM.1 4 (lv1 := [some (aR 3000), some (aR 0), some (aR 150), some (aI x.1)]) (s1 := [aI (x.1 + 2), aR 3000, aI (xs (w32 (x.1 + 1)).toNat), aR 150, aI r242]) (h1 := x.2) rfl ?_
      obtain ⟨g244, hh⟩ := OK_g hh
      refine A_aldq hM.1 hQ rfl rfl g244 ?_
      refine A_callV hM rfl rfl (mem_GW 2333 (by decide +kernel) rfl) mi_X12_given (As := [aI (xs (w32 (x.1 + 1)).toNat), aI (xs (w32 (x.1 + 2)).toNat)]) (rest := [aI r242]) (ct_X12_given (xs (w32 (x.1 + 1)).toNat) (xs (w32 (x.1 + 2)).toNat) x.2 (OK_bind hh)) (by decide) (LK_room hQ) rfl rfl (Nat.le_of_ble_eq_true rfl) (by decide) rfl (by decide) rfl (fun r F' h' hq1 => ?_)
      obtain ⟨rfl, r245, rfl, e9, hh⟩ := hq1
      subst h'
      refine A_icmp hM.1 rfl rfl (fun hc => ?_) (fun hc => ?_)
      · replace hh := OK_t hh hc
        exact c_L_law_j1235 hM L xs hQ x.1 x.2 hin hout0 hh
      · replace hh := OK_f hh hc
        exact hh.elim
    replace hh := OK_f hh hc
    refine ⟨fun hc => ?_, fun hc => ?_⟩
    · replace hh := OK_t hh hc
      refine A_blk hM.1 5 (lv1 := [some (aR 3000), some (aR 0), some (aR 150), some (aI x.1)]) (s1 := [aI (x.1 + 1), aR 3000, aR 0]) (h1 := x.2) rfl ?_
      obtain ⟨g246, hh⟩ := OK_g hh
      refine A_aldq hM.1 hQ rfl rfl g246 ?_
      refine A_callV hM rfl rfl (mem_GW 1535 (by decide +kernel) rfl) mi_X11_wrong (As := [aI (xs (w32 (x.1 + 1)).toNat)]) (rest := []) (ct_X11_wrong (xs (w32 (x.1 + 1)).toNat) x.2 (OK_bind hh)) (by decide) (LK_room hQ) rfl rfl (Nat.le_of_ble_eq_true rfl) (by decide) rfl (by decide) rfl (fun r F' h' hq1 => ?_)
      obtain ⟨rfl, r247, rfl, e9, hh⟩ := hq1
      subst h'
      refine A_blk hM.1 5 (lv1 := [some (aR 3000), some (aR 0), some (aR 150), some (aI x.1)]) (s1 := [aI (x.1 + 1), aR 3000, aR 150, aL r247]) (h1 := x.2) rfl ?_
      obtain ⟨g248, hh⟩ := OK_g hh
      refine A_aldq hM.1 hQ rfl rfl g248 ?_
      refine A_callV hM rfl rfl (mem_GW 2341 (by decide +kernel) rfl) mi_X12_wrong (As := [aI (xs (w32 (x.1 + 1)).toNat)]) (rest := [aL r247]) (ct_X12_wrong (xs (w32 (x.1 + 1)).toNat) x.2 (OK_bind hh)) (by decide) (LK_room hQ) rfl rfl (Nat.le_of_ble_eq_true rfl) (by decide) rfl (by decide) rfl (fun r F' h' hq1 => ?_)
      obtain ⟨rfl, r249, rfl, e9, hh⟩ := hq1
      subst h'
      refine A_blk hM.1 1 (lv1 := [some (aR 3000), some (aR 0), some (aR 150), some (aI x.1)]) (s1 := [aI (cmp64 r247 r249)]) (h1 := x.2) rfl ?_
      refine A_ifc hM.1 rfl rfl (fun hc => ?_) (fun hc => ?_)
      · replace hh := OK_t hh hc
        exact c_L_law_j1235 hM L xs hQ x.1 x.2 hin hout0 hh
      · replace hh := OK_f hh hc
        exact hh.elim
    replace hh := OK_f hh hc
    refine ⟨fun hc => ?_, fun hc => ?_⟩
    · replace hh := OK_t hh hc
      refine A_blk hM.1 5 (lv1 := [some (aR 3000), some (aR 0), some (aR 150), some (aI x.1)]) (s1 := [aI (x.1 + 1), aR 3000, aR 0]) (h1 := x.2) rfl ?_
      obtain ⟨g250, hh⟩ := OK_g hh
      refine A_aldq hM.1 hQ rfl rfl g250 ?_
      refine A_callV hM rfl rfl (mem_GW 1558 (by decide +kernel) rfl) mi_X11_moves (As := [aI (xs (w32 (x.1 + 1)).toNat)]) (rest := []) (ct_X11_moves (xs (w32 (x.1 + 1)).toNat) x.2 (OK_bind hh)) (by decide) (LK_room hQ) rfl rfl (Nat.le_of_ble_eq_true rfl) (by decide) rfl (by decide) rfl (fun r F' h' hq1 => ?_)
      obtain ⟨rfl, r251, rfl, e9, hh⟩ := hq1
      subst h'
      refine A_blk hM.1 5 (lv1 := [some (aR 3000), some (aR 0), some (aR 150), some (aI x.1)]) (s1 := [aI (x.1 + 1), aR 3000, aR 150, aI r251.1]) (h1 := r251.2) rfl ?_
      obtain ⟨g252, hh⟩ := OK_g hh
      refine A_aldq hM.1 hQ rfl rfl g252 ?_
      refine A_callV hM rfl rfl (mem_GW 2263 (by decide +kernel) rfl) mi_X12_moves (As := [aI (xs (w32 (x.1 + 1)).toNat)]) (rest := [aI r251.1]) (ct_X12_moves (xs (w32 (x.1 + 1)).toNat) r251.2 (OK_bind hh)) (by decide) (LK_room hQ) rfl rfl (Nat.le_of_ble_eq_true rfl) (by decide) rfl (by decide) rfl (fun r F' h' hq1 => ?_)
      obtain ⟨rfl, r253, rfl, e9, hh⟩ := hq1
      subst h'
      refine A_icmp hM.1 rfl rfl (fun hc => ?_) (fun hc => ?_)
      · replace hh := OK_t hh hc
        exact c_L_law_j1235 hM L xs hQ x.1 r253.2 hin hout0 hh
      · replace hh := OK_f hh hc
        exact hh.elim
    replace hh := OK_f hh hc
    refine ⟨fun hc => ?_, fun hc => ?_⟩
    · replace hh := OK_t hh hc
      refine A_blk hM.1 5 (lv1 := [some (aR 3000), some (aR 0), some (aR 150), some (aI x.1)]) (s1 := [aI (x.1 + 1), aR 3000, aR 0]) (h1 := x.2) rfl ?_
      obtain ⟨g254, hh⟩ := OK_g hh
      refine A_aldq hM.1 hQ rfl rfl g254 ?_
      refine A_blk hM.1 4 (lv1 := [some (aR 3000), some (aR 0), some (aR 150), some (aI x.1)]) (s1 := [aI (x.1 + 2), aR 3000, aI (xs (w32 (x.1 + 1)).toNat), aR 0]) (h1 := x.2) rfl ?_
      obtain ⟨g255, hh⟩ := OK_g hh
      refine A_aldq hM.1 hQ rfl rfl g255 ?_
      refine A_callV hM rfl rfl (mem_GW 1567 (by decide +kernel) rfl) mi_X11_check (As := [aI (xs (w32 (x.1 + 1)).toNat), aI (xs (w32 (x.1 + 2)).toNat)]) (rest := []) (ct_X11_check (xs (w32 (x.1 + 1)).toNat) (xs (w32 (x.1 + 2)).toNat) x.2 (OK_bind hh)) (by decide) (LK_room hQ) rfl rfl (Nat.le_of_ble_eq_true rfl) (by decide) rfl (by decide) rfl (fun r F' h' hq1 => ?_)
      obtain ⟨rfl, r256, rfl, e9, hh⟩ := hq1
      subst h'
      refine A_blk hM.1 5 (lv1 := [some (aR 3000), some (aR 0), some (aR 150), some (aI x.1)]) (s1 := [aI (x.1 + 1), aR 3000, aR 150, aI r256.1]) (h1 := r256.2) rfl ?_
      obtain ⟨g257, hh⟩ := OK_g hh
      refine A_aldq hM.1 hQ rfl rfl g257 ?_
      refine A_blk hM.1 4 (lv1 := [some (aR 3000), some (aR 0), some (aR 150), some (aI x.1)]) (s1 := [aI (x.1 + 2), aR 3000, aI (xs (w32 (x.1 + 1)).toNat), aR 150, aI r256.1]) (h1 := r256.2) rfl ?_
      obtain ⟨g258, hh⟩ := OK_g hh
      refine A_aldq hM.1 hQ rfl rfl g258 ?_
      refine A_callV hM rfl rfl (mem_GW 2345 (by decide +kernel) rfl) mi_X12_check (As := [aI (xs (w32 (x.1 + 1)).toNat), aI (xs (w32 (x.1 + 2)).toNat)]) (rest := [aI r256.1]) (ct_X12_check (xs (w32 (x.1 + 1)).toNat) (xs (w32 (x.1 + 2)).toNat) r256.2 (OK_bind hh)) (by decide) (LK_room hQ) rfl rfl (Nat.le_of_ble_eq_true rfl) (by decide) rfl (by decide) rfl (fun r F' h' hq1 => ?_)
      obtain ⟨rfl, r259, rfl, e9, hh⟩ := hq1
      subst h'
      refine A_icmp hM.1 rfl rfl (fun hc => ?_) (fun hc => ?_)
      · replace hh := OK_t hh hc
        exact c_L_law_j1235 hM L xs hQ x.1 r259.2 hin hout0 hh
      · replace hh := OK_f hh hc
        exact hh.elim
    replace hh := OK_f hh hc
    refine ⟨fun hc => ?_, fun hc => ?_⟩
    · replace hh := OK_t hh hc
      refine A_blk hM.1 5 (lv1 := [some (aR 3000), some (aR 0), some (aR 150), some (aI x.1)]) (s1 := [aI (x.1 + 1), aR 3000, aR 0]) (h1 := x.2) rfl ?_
      obtain ⟨g260, hh⟩ := OK_g hh
      refine A_aldq hM.1 hQ rfl rfl g260 ?_
      refine A_callV hM rfl rfl (mem_GW 1580 (by decide +kernel) rfl) mi_X11_count (As := [aI (xs (w32 (x.1 + 1)).toNat)]) (rest := []) (ct_X11_count (xs (w32 (x.1 + 1)).toNat) x.2 (OK_bind hh)) (by decide) (LK_room hQ) rfl rfl (Nat.le_of_ble_eq_true rfl) (by decide) rfl (by decide) rfl (fun r F' h' hq1 => ?_)
      obtain ⟨rfl, r261, rfl, e9, hh⟩ := hq1
      subst h'
      refine A_blk hM.1 5 (lv1 := [some (aR 3000), some (aR 0), some (aR 150), some (aI x.1)]) (s1 := [aI (x.1 + 1), aR 3000, aR 150, aI r261]) (h1 := x.2) rfl ?_
      obtain ⟨g262, hh⟩ := OK_g hh
      refine A_aldq hM.1 hQ rfl rfl g262 ?_
      refine A_callV hM rfl rfl (mem_GW 2353 (by decide +kernel) rfl) mi_X12_count (As := [aI (xs (w32 (x.1 + 1)).toNat)]) (rest := [aI r261]) (ct_X12_count (xs (w32 (x.1 + 1)).toNat) x.2 (OK_bind hh)) (by decide) (LK_room hQ) rfl rfl (Nat.le_of_ble_eq_true rfl) (by decide) rfl (by decide) rfl (fun r F' h' hq1 => ?_)
      obtain ⟨rfl, r263, rfl, e9, hh⟩ := hq1
      subst h'
      refine A_icmp hM.1 rfl rfl (fun hc => ?_) (fun hc => ?_)
      · replace hh := OK_t hh hc
        exact c_L_law_j1235 hM L xs hQ x.1 x.2 hin hout0 hh
      · replace hh := OK_f hh hc
        exact hh.elim
    replace hh := OK_f hh hc
    exact c_L_law_j1235 hM L xs hQ x.1 x.2 hin hout0 hh
set_option maxRecDepth 20000 in
set_option maxHeartbeats 4000000 in
theorem c_L_law {K : Kx} {G : Gx} (hM : MB K G M_L_law 2048) (L : Nat) (xs : Nat → Int) (h : Hp) (hQ : LK K L xs) {P : Int × Hp → Prop} (hh : OK (L_law L xs h) P) : ATk K FN 199 58963 M_L_law 8 [some (aR 3000), some (aR 0), some (aR 150), none] [] h := by
  have hq := True.intro
  unfold L_law at hh
  refine A_blk hM.1 2 (lv1 := [some (aR 3000), some (aR 0), some (aR 150), some (aI 0)]) (s1 := []) (h1 := h) rfl ?_
  refine iter_ok (s := (0, h)) (Gp := fun z => ATk K FN 199 58963 M_L_law 10 [some (aR 3000), some (aR 0), some (aR 150), some (aI z.1)] [] z.2) (E := fun z => ATk K FN 199 58963 M_L_law 1237 [none, none, none, none] [] z) (fun z P1 g1 g2 g3 => c_L_law_l10 hM L xs hQ z g2 g3 g1) (OK_bind hh) (fun x264 hh => ?_)
  refine A_blk hM.1 1 (lv1 := [none, none, none, none]) (s1 := [aI 1]) (h1 := x264) rfl ?_
  exact A_lawret hM.1 hQ rfl rfl rfl
