abbrev b_Arr_copyOf : ByteArray := prog_30_method_123_code
def y_Arr_copyOf : MethodName := ⟨"java/util/Arrays", "copyOf", "([II)[I"⟩
theorem d_Arr_copyOf_0 : decode b_Arr_copyOf 0 = .ok (.iload_n 1, 1) := by decide +kernel
theorem d_Arr_copyOf_1 : decode b_Arr_copyOf 1 = .ok (.aload_n 0, 1) := by decide +kernel
theorem d_Arr_copyOf_2 : decode b_Arr_copyOf 2 = .ok (.arraylength, 1) := by decide +kernel
theorem d_Arr_copyOf_3 : decode b_Arr_copyOf 3 = .ok (.if_icmp .ne 11, 3) := by decide +kernel
theorem d_Arr_copyOf_6 : decode b_Arr_copyOf 6 = .ok (.aload_n 0, 1) := by decide +kernel
theorem d_Arr_copyOf_7 : decode b_Arr_copyOf 7 = .ok (.invokevirtual 316, 3) := by decide +kernel
theorem d_Arr_copyOf_10 : decode b_Arr_copyOf 10 = .ok (.checkcast 317, 3) := by decide +kernel
theorem d_Arr_copyOf_13 : decode b_Arr_copyOf 13 = .ok (.areturn, 1) := by decide +kernel
theorem d_Arr_copyOf_14 : decode b_Arr_copyOf 14 = .ok (.iload_n 1, 1) := by decide +kernel
theorem d_Arr_copyOf_15 : decode b_Arr_copyOf 15 = .ok (.newarray .int, 2) := by decide +kernel
theorem d_Arr_copyOf_17 : decode b_Arr_copyOf 17 = .ok (.astore_n 2, 1) := by decide +kernel
theorem d_Arr_copyOf_18 : decode b_Arr_copyOf 18 = .ok (.aload_n 0, 1) := by decide +kernel
theorem d_Arr_copyOf_19 : decode b_Arr_copyOf 19 = .ok (.iconst 0, 1) := by decide +kernel
theorem d_Arr_copyOf_20 : decode b_Arr_copyOf 20 = .ok (.aload_n 2, 1) := by decide +kernel
theorem d_Arr_copyOf_21 : decode b_Arr_copyOf 21 = .ok (.iconst 0, 1) := by decide +kernel
theorem d_Arr_copyOf_22 : decode b_Arr_copyOf 22 = .ok (.aload_n 0, 1) := by decide +kernel
theorem d_Arr_copyOf_23 : decode b_Arr_copyOf 23 = .ok (.arraylength, 1) := by decide +kernel
theorem d_Arr_copyOf_24 : decode b_Arr_copyOf 24 = .ok (.iload_n 1, 1) := by decide +kernel
theorem d_Arr_copyOf_25 : decode b_Arr_copyOf 25 = .ok (.invokestatic 304, 3) := by decide +kernel
theorem d_Arr_copyOf_28 : decode b_Arr_copyOf 28 = .ok (.invokestatic 150, 3) := by decide +kernel
theorem d_Arr_copyOf_31 : decode b_Arr_copyOf 31 = .ok (.aload_n 2, 1) := by decide +kernel
theorem d_Arr_copyOf_32 : decode b_Arr_copyOf 32 = .ok (.areturn, 1) := by decide +kernel
abbrev b_Row_add : ByteArray := prog_7_method_2_code
def y_Row_add : MethodName := ⟨"ClauseProver$Row", "add", "(I)V"⟩
theorem d_Row_add_0 : decode b_Row_add 0 = .ok (.aload_n 0, 1) := by decide +kernel
theorem d_Row_add_1 : decode b_Row_add 1 = .ok (.getfield 13, 3) := by decide +kernel
theorem d_Row_add_4 : decode b_Row_add 4 = .ok (.aload_n 0, 1) := by decide +kernel
theorem d_Row_add_5 : decode b_Row_add 5 = .ok (.getfield 7, 3) := by decide +kernel
theorem d_Row_add_8 : decode b_Row_add 8 = .ok (.arraylength, 1) := by decide +kernel
theorem d_Row_add_9 : decode b_Row_add 9 = .ok (.if_icmp .ne 22, 3) := by decide +kernel
theorem d_Row_add_12 : decode b_Row_add 12 = .ok (.aload_n 0, 1) := by decide +kernel
theorem d_Row_add_13 : decode b_Row_add 13 = .ok (.aload_n 0, 1) := by decide +kernel
theorem d_Row_add_14 : decode b_Row_add 14 = .ok (.getfield 7, 3) := by decide +kernel
theorem d_Row_add_17 : decode b_Row_add 17 = .ok (.iconst 2, 1) := by decide +kernel
theorem d_Row_add_18 : decode b_Row_add 18 = .ok (.aload_n 0, 1) := by decide +kernel
theorem d_Row_add_19 : decode b_Row_add 19 = .ok (.getfield 13, 3) := by decide +kernel
theorem d_Row_add_22 : decode b_Row_add 22 = .ok (.imul, 1) := by decide +kernel
theorem d_Row_add_23 : decode b_Row_add 23 = .ok (.iconst 1, 1) := by decide +kernel
theorem d_Row_add_24 : decode b_Row_add 24 = .ok (.iadd, 1) := by decide +kernel
theorem d_Row_add_25 : decode b_Row_add 25 = .ok (.invokestatic 17, 3) := by decide +kernel
theorem d_Row_add_28 : decode b_Row_add 28 = .ok (.putfield 7, 3) := by decide +kernel
theorem d_Row_add_31 : decode b_Row_add 31 = .ok (.aload_n 0, 1) := by decide +kernel
theorem d_Row_add_32 : decode b_Row_add 32 = .ok (.getfield 7, 3) := by decide +kernel
theorem d_Row_add_35 : decode b_Row_add 35 = .ok (.aload_n 0, 1) := by decide +kernel
theorem d_Row_add_36 : decode b_Row_add 36 = .ok (.dup, 1) := by decide +kernel
theorem d_Row_add_37 : decode b_Row_add 37 = .ok (.getfield 13, 3) := by decide +kernel
theorem d_Row_add_40 : decode b_Row_add 40 = .ok (.dup_x1, 1) := by decide +kernel
theorem d_Row_add_41 : decode b_Row_add 41 = .ok (.iconst 1, 1) := by decide +kernel
theorem d_Row_add_42 : decode b_Row_add 42 = .ok (.iadd, 1) := by decide +kernel
theorem d_Row_add_43 : decode b_Row_add 43 = .ok (.putfield 13, 3) := by decide +kernel
theorem d_Row_add_46 : decode b_Row_add 46 = .ok (.iload_n 1, 1) := by decide +kernel
theorem d_Row_add_47 : decode b_Row_add 47 = .ok (.iastore, 1) := by decide +kernel
theorem d_Row_add_48 : decode b_Row_add 48 = .ok (.return_, 1) := by decide +kernel
