abbrev Y_X9_take : My := (yX9_take, cX9_take, 2, none)
theorem dX9_take_0 : decode cX9_take 0 = .ok (.aload_n 1, 1) := by decide +kernel
theorem dX9_take_1 : decode cX9_take 1 = .ok (.getfield 9, 3) := by decide +kernel
theorem dX9_take_4 : decode cX9_take 4 = .ok (.iconst 0, 1) := by decide +kernel
theorem dX9_take_5 : decode cX9_take 5 = .ok (.aload_n 0, 1) := by decide +kernel
theorem dX9_take_6 : decode cX9_take 6 = .ok (.getfield 9, 3) := by decide +kernel
theorem dX9_take_9 : decode cX9_take 9 = .ok (.iconst 0, 1) := by decide +kernel
theorem dX9_take_10 : decode cX9_take 10 = .ok (.bipush 6, 2) := by decide +kernel
theorem dX9_take_12 : decode cX9_take 12 = .ok (.invokestatic 66, 3) := by decide +kernel
theorem dX9_take_15 : decode cX9_take 15 = .ok (.aload_n 1, 1) := by decide +kernel
theorem dX9_take_16 : decode cX9_take 16 = .ok (.getfield 15, 3) := by decide +kernel
theorem dX9_take_19 : decode cX9_take 19 = .ok (.iconst 0, 1) := by decide +kernel
theorem dX9_take_20 : decode cX9_take 20 = .ok (.aload_n 0, 1) := by decide +kernel
theorem dX9_take_21 : decode cX9_take 21 = .ok (.getfield 15, 3) := by decide +kernel
theorem dX9_take_24 : decode cX9_take 24 = .ok (.iconst 0, 1) := by decide +kernel
theorem dX9_take_25 : decode cX9_take 25 = .ok (.bipush 6, 2) := by decide +kernel
theorem dX9_take_27 : decode cX9_take 27 = .ok (.invokestatic 66, 3) := by decide +kernel
theorem dX9_take_30 : decode cX9_take 30 = .ok (.aload_n 1, 1) := by decide +kernel
theorem dX9_take_31 : decode cX9_take 31 = .ok (.getfield 18, 3) := by decide +kernel
theorem dX9_take_34 : decode cX9_take 34 = .ok (.iconst 0, 1) := by decide +kernel
theorem dX9_take_35 : decode cX9_take 35 = .ok (.aload_n 0, 1) := by decide +kernel
theorem dX9_take_36 : decode cX9_take 36 = .ok (.getfield 18, 3) := by decide +kernel
theorem dX9_take_39 : decode cX9_take 39 = .ok (.iconst 0, 1) := by decide +kernel
theorem dX9_take_40 : decode cX9_take 40 = .ok (.bipush 6, 2) := by decide +kernel
theorem dX9_take_42 : decode cX9_take 42 = .ok (.invokestatic 66, 3) := by decide +kernel
theorem dX9_take_45 : decode cX9_take 45 = .ok (.aload_n 1, 1) := by decide +kernel
theorem dX9_take_46 : decode cX9_take 46 = .ok (.getfield 21, 3) := by decide +kernel
theorem dX9_take_49 : decode cX9_take 49 = .ok (.iconst 0, 1) := by decide +kernel
theorem dX9_take_50 : decode cX9_take 50 = .ok (.aload_n 0, 1) := by decide +kernel
theorem dX9_take_51 : decode cX9_take 51 = .ok (.getfield 21, 3) := by decide +kernel
theorem dX9_take_54 : decode cX9_take 54 = .ok (.iconst 0, 1) := by decide +kernel
theorem dX9_take_55 : decode cX9_take 55 = .ok (.bipush 6, 2) := by decide +kernel
theorem dX9_take_57 : decode cX9_take 57 = .ok (.invokestatic 66, 3) := by decide +kernel
theorem dX9_take_60 : decode cX9_take 60 = .ok (.aload_n 1, 1) := by decide +kernel
theorem dX9_take_61 : decode cX9_take 61 = .ok (.getfield 24, 3) := by decide +kernel
theorem dX9_take_64 : decode cX9_take 64 = .ok (.iconst 0, 1) := by decide +kernel
theorem dX9_take_65 : decode cX9_take 65 = .ok (.aload_n 0, 1) := by decide +kernel
theorem dX9_take_66 : decode cX9_take 66 = .ok (.getfield 24, 3) := by decide +kernel
theorem dX9_take_69 : decode cX9_take 69 = .ok (.iconst 0, 1) := by decide +kernel
theorem dX9_take_70 : decode cX9_take 70 = .ok (.bipush 6, 2) := by decide +kernel
theorem dX9_take_72 : decode cX9_take 72 = .ok (.invokestatic 66, 3) := by decide +kernel
theorem dX9_take_75 : decode cX9_take 75 = .ok (.aload_n 1, 1) := by decide +kernel
theorem dX9_take_76 : decode cX9_take 76 = .ok (.getfield 27, 3) := by decide +kernel
theorem dX9_take_79 : decode cX9_take 79 = .ok (.iconst 0, 1) := by decide +kernel
theorem dX9_take_80 : decode cX9_take 80 = .ok (.aload_n 0, 1) := by decide +kernel
theorem dX9_take_81 : decode cX9_take 81 = .ok (.getfield 27, 3) := by decide +kernel
theorem dX9_take_84 : decode cX9_take 84 = .ok (.iconst 0, 1) := by decide +kernel
theorem dX9_take_85 : decode cX9_take 85 = .ok (.bipush 6, 2) := by decide +kernel
theorem dX9_take_87 : decode cX9_take 87 = .ok (.invokestatic 66, 3) := by decide +kernel
theorem dX9_take_90 : decode cX9_take 90 = .ok (.aload_n 1, 1) := by decide +kernel
theorem dX9_take_91 : decode cX9_take 91 = .ok (.getfield 30, 3) := by decide +kernel
theorem dX9_take_94 : decode cX9_take 94 = .ok (.iconst 0, 1) := by decide +kernel
theorem dX9_take_95 : decode cX9_take 95 = .ok (.aload_n 0, 1) := by decide +kernel
theorem dX9_take_96 : decode cX9_take 96 = .ok (.getfield 30, 3) := by decide +kernel
theorem dX9_take_99 : decode cX9_take 99 = .ok (.iconst 0, 1) := by decide +kernel
theorem dX9_take_100 : decode cX9_take 100 = .ok (.bipush 6, 2) := by decide +kernel
theorem dX9_take_102 : decode cX9_take 102 = .ok (.invokestatic 66, 3) := by decide +kernel
theorem dX9_take_105 : decode cX9_take 105 = .ok (.aload_n 0, 1) := by decide +kernel
theorem dX9_take_106 : decode cX9_take 106 = .ok (.aload_n 1, 1) := by decide +kernel
theorem dX9_take_107 : decode cX9_take 107 = .ok (.getfield 33, 3) := by decide +kernel
theorem dX9_take_110 : decode cX9_take 110 = .ok (.putfield 33, 3) := by decide +kernel
theorem dX9_take_113 : decode cX9_take 113 = .ok (.aload_n 0, 1) := by decide +kernel
theorem dX9_take_114 : decode cX9_take 114 = .ok (.aload_n 1, 1) := by decide +kernel
theorem dX9_take_115 : decode cX9_take 115 = .ok (.getfield 37, 3) := by decide +kernel
theorem dX9_take_118 : decode cX9_take 118 = .ok (.putfield 37, 3) := by decide +kernel
theorem dX9_take_121 : decode cX9_take 121 = .ok (.aload_n 0, 1) := by decide +kernel
theorem dX9_take_122 : decode cX9_take 122 = .ok (.aload_n 1, 1) := by decide +kernel
theorem dX9_take_123 : decode cX9_take 123 = .ok (.getfield 40, 3) := by decide +kernel
theorem dX9_take_126 : decode cX9_take 126 = .ok (.putfield 40, 3) := by decide +kernel
theorem dX9_take_129 : decode cX9_take 129 = .ok (.aload_n 0, 1) := by decide +kernel
theorem dX9_take_130 : decode cX9_take 130 = .ok (.aload_n 1, 1) := by decide +kernel
theorem dX9_take_131 : decode cX9_take 131 = .ok (.getfield 43, 3) := by decide +kernel
theorem dX9_take_134 : decode cX9_take 134 = .ok (.putfield 43, 3) := by decide +kernel
theorem dX9_take_137 : decode cX9_take 137 = .ok (.aload_n 0, 1) := by decide +kernel
theorem dX9_take_138 : decode cX9_take 138 = .ok (.aload_n 1, 1) := by decide +kernel
theorem dX9_take_139 : decode cX9_take 139 = .ok (.getfield 46, 3) := by decide +kernel
theorem dX9_take_142 : decode cX9_take 142 = .ok (.putfield 46, 3) := by decide +kernel
theorem dX9_take_145 : decode cX9_take 145 = .ok (.return_, 1) := by decide +kernel
theorem fl_RX9_30 : FL RX9 30 9 7 := ⟨inG (i := 320) (by decide +kernel) (by decide +kernel), by decide, by decide⟩
theorem go_9_7 (σ : St) (i : Nat) : go σ 9 i 7 = (1007, i) := rfl
theorem lk_RX9_66 : Cond.methodLink RX9 66 arraycopyName ∈ tG := inG (i := 920) (by decide +kernel) (by decide +kernel)
theorem sh_1007 : shp 1007 = (0, 6) := rfl
def P_X9_take  (o0 : Nat) (o1 : Nat) (σ : St) (Q : St → Prop) : Prop :=
  Q (up (up (up (up (up (cp (cp (cp (cp (cp (cp (cp σ 1001 o1 0 1001 o0 0 6) 1002 o1 0 1002 o0 0 6) 1003 o1 0 1003 o0 0 6) 1004 o1 0 1004 o0 0 6) 1005 o1 0 1005 o0 0 6) 1006 o1 0 1006 o0 0 6) 1007 o1 0 1007 o0 0 6) 9 o0 8 ((cp (cp (cp (cp (cp (cp (cp σ 1001 o1 0 1001 o0 0 6) 1002 o1 0 1002 o0 0 6) 1003 o1 0 1003 o0 0 6) 1004 o1 0 1004 o0 0 6) 1005 o1 0 1005 o0 0 6) 1006 o1 0 1006 o0 0 6) 1007 o1 0 1007 o0 0 6) 9 o1 8)) 9 o0 9 ((up (cp (cp (cp (cp (cp (cp (cp σ 1001 o1 0 1001 o0 0 6) 1002 o1 0 1002 o0 0 6) 1003 o1 0 1003 o0 0 6) 1004 o1 0 1004 o0 0 6) 1005 o1 0 1005 o0 0 6) 1006 o1 0 1006 o0 0 6) 1007 o1 0 1007 o0 0 6) 9 o0 8 ((cp (cp (cp (cp (cp (cp (cp σ 1001 o1 0 1001 o0 0 6) 1002 o1 0 1002 o0 0 6) 1003 o1 0 1003 o0 0 6) 1004 o1 0 1004 o0 0 6) 1005 o1 0 1005 o0 0 6) 1006 o1 0 1006 o0 0 6) 1007 o1 0 1007 o0 0 6) 9 o1 8)) 9 o1 9)) 9 o0 10 ((up (up (cp (cp (cp (cp (cp (cp (cp σ 1001 o1 0 1001 o0 0 6) 1002 o1 0 1002 o0 0 6) 1003 o1 0 1003 o0 0 6) 1004 o1 0 1004 o0 0 6) 1005 o1 0 1005 o0 0 6) 1006 o1 0 1006 o0 0 6) 1007 o1 0 1007 o0 0 6) 9 o0 8 ((cp (cp (cp (cp (cp (cp (cp σ 1001 o1 0 1001 o0 0 6) 1002 o1 0 1002 o0 0 6) 1003 o1 0 1003 o0 0 6) 1004 o1 0 1004 o0 0 6) 1005 o1 0 1005 o0 0 6) 1006 o1 0 1006 o0 0 6) 1007 o1 0 1007 o0 0 6) 9 o1 8)) 9 o0 9 ((up (cp (cp (cp (cp (cp (cp (cp σ 1001 o1 0 1001 o0 0 6) 1002 o1 0 1002 o0 0 6) 1003 o1 0 1003 o0 0 6) 1004 o1 0 1004 o0 0 6) 1005 o1 0 1005 o0 0 6) 1006 o1 0 1006 o0 0 6) 1007 o1 0 1007 o0 0 6) 9 o0 8 ((cp (cp (cp (cp (cp (cp (cp σ 1001 o1 0 1001 o0 0 6) 1002 o1 0 1002 o0 0 6) 1003 o1 0 1003 o0 0 6) 1004 o1 0 1004 o0 0 6) 1005 o1 0 1005 o0 0 6) 1006 o1 0 1006 o0 0 6) 1007 o1 0 1007 o0 0 6) 9 o1 8)) 9 o1 9)) 9 o1 10)) 9 o0 11 ((up (up (up (cp (cp (cp (cp (cp (cp (cp σ 1001 o1 0 1001 o0 0 6) 1002 o1 0 1002 o0 0 6) 1003 o1 0 1003 o0 0 6) 1004 o1 0 1004 o0 0 6) 1005 o1 0 1005 o0 0 6) 1006 o1 0 1006 o0 0 6) 1007 o1 0 1007 o0 0 6) 9 o0 8 ((cp (cp (cp (cp (cp (cp (cp σ 1001 o1 0 1001 o0 0 6) 1002 o1 0 1002 o0 0 6) 1003 o1 0 1003 o0 0 6) 1004 o1 0 1004 o0 0 6) 1005 o1 0 1005 o0 0 6) 1006 o1 0 1006 o0 0 6) 1007 o1 0 1007 o0 0 6) 9 o1 8)) 9 o0 9 ((up (cp (cp (cp (cp (cp (cp (cp σ 1001 o1 0 1001 o0 0 6) 1002 o1 0 1002 o0 0 6) 1003 o1 0 1003 o0 0 6) 1004 o1 0 1004 o0 0 6) 1005 o1 0 1005 o0 0 6) 1006 o1 0 1006 o0 0 6) 1007 o1 0 1007 o0 0 6) 9 o0 8 ((cp (cp (cp (cp (cp (cp (cp σ 1001 o1 0 1001 o0 0 6) 1002 o1 0 1002 o0 0 6) 1003 o1 0 1003 o0 0 6) 1004 o1 0 1004 o0 0 6) 1005 o1 0 1005 o0 0 6) 1006 o1 0 1006 o0 0 6) 1007 o1 0 1007 o0 0 6) 9 o1 8)) 9 o1 9)) 9 o0 10 ((up (up (cp (cp (cp (cp (cp (cp (cp σ 1001 o1 0 1001 o0 0 6) 1002 o1 0 1002 o0 0 6) 1003 o1 0 1003 o0 0 6) 1004 o1 0 1004 o0 0 6) 1005 o1 0 1005 o0 0 6) 1006 o1 0 1006 o0 0 6) 1007 o1 0 1007 o0 0 6) 9 o0 8 ((cp (cp (cp (cp (cp (cp (cp σ 1001 o1 0 1001 o0 0 6) 1002 o1 0 1002 o0 0 6) 1003 o1 0 1003 o0 0 6) 1004 o1 0 1004 o0 0 6) 1005 o1 0 1005 o0 0 6) 1006 o1 0 1006 o0 0 6) 1007 o1 0 1007 o0 0 6) 9 o1 8)) 9 o0 9 ((up (cp (cp (cp (cp (cp (cp (cp σ 1001 o1 0 1001 o0 0 6) 1002 o1 0 1002 o0 0 6) 1003 o1 0 1003 o0 0 6) 1004 o1 0 1004 o0 0 6) 1005 o1 0 1005 o0 0 6) 1006 o1 0 1006 o0 0 6) 1007 o1 0 1007 o0 0 6) 9 o0 8 ((cp (cp (cp (cp (cp (cp (cp σ 1001 o1 0 1001 o0 0 6) 1002 o1 0 1002 o0 0 6) 1003 o1 0 1003 o0 0 6) 1004 o1 0 1004 o0 0 6) 1005 o1 0 1005 o0 0 6) 1006 o1 0 1006 o0 0 6) 1007 o1 0 1007 o0 0 6) 9 o1 8)) 9 o1 9)) 9 o1 10)) 9 o1 11)) 9 o0 12 ((up (up (up (up (cp (cp (cp (cp (cp (cp (cp σ 1001 o1 0 1001 o0 0 6) 1002 o1 0 1002 o0 0 6) 1003 o1 0 1003 o0 0 6) 1004 o1 0 1004 o0 0 6) 1005 o1 0 1005 o0 0 6) 1006 o1 0 1006 o0 0 6) 1007 o1 0 1007 o0 0 6) 9 o0 8 ((cp (cp (cp (cp (cp (cp (cp σ 1001 o1 0 1001 o0 0 6) 1002 o1 0 1002 o0 0 6) 1003 o1 0 1003 o0 0 6) 1004 o1 0 1004 o0 0 6) 1005 o1 0 1005 o0 0 6) 1006 o1 0 1006 o0 0 6) 1007 o1 0 1007 o0 0 6) 9 o1 8)) 9 o0 9 ((up (cp (cp (cp (cp (cp (cp (cp σ 1001 o1 0 1001 o0 0 6) 1002 o1 0 1002 o0 0 6) 1003 o1 0 1003 o0 0 6) 1004 o1 0 1004 o0 0 6) 1005 o1 0 1005 o0 0 6) 1006 o1 0 1006 o0 0 6) 1007 o1 0 1007 o0 0 6) 9 o0 8 ((cp (cp (cp (cp (cp (cp (cp σ 1001 o1 0 1001 o0 0 6) 1002 o1 0 1002 o0 0 6) 1003 o1 0 1003 o0 0 6) 1004 o1 0 1004 o0 0 6) 1005 o1 0 1005 o0 0 6) 1006 o1 0 1006 o0 0 6) 1007 o1 0 1007 o0 0 6) 9 o1 8)) 9 o1 9)) 9 o0 10 ((up (up (cp (cp (cp (cp (cp (cp (cp σ 1001 o1 0 1001 o0 0 6) 1002 o1 0 1002 o0 0 6) 1003 o1 0 1003 o0 0 6) 1004 o1 0 1004 o0 0 6) 1005 o1 0 1005 o0 0 6) 1006 o1 0 1006 o0 0 6) 1007 o1 0 1007 o0 0 6) 9 o0 8 ((cp (cp (cp (cp (cp (cp (cp σ 1001 o1 0 1001 o0 0 6) 1002 o1 0 1002 o0 0 6) 1003 o1 0 1003 o0 0 6) 1004 o1 0 1004 o0 0 6) 1005 o1 0 1005 o0 0 6) 1006 o1 0 1006 o0 0 6) 1007 o1 0 1007 o0 0 6) 9 o1 8)) 9 o0 9 ((up (cp (cp (cp (cp (cp (cp (cp σ 1001 o1 0 1001 o0 0 6) 1002 o1 0 1002 o0 0 6) 1003 o1 0 1003 o0 0 6) 1004 o1 0 1004 o0 0 6) 1005 o1 0 1005 o0 0 6) 1006 o1 0 1006 o0 0 6) 1007 o1 0 1007 o0 0 6) 9 o0 8 ((cp (cp (cp (cp (cp (cp (cp σ 1001 o1 0 1001 o0 0 6) 1002 o1 0 1002 o0 0 6) 1003 o1 0 1003 o0 0 6) 1004 o1 0 1004 o0 0 6) 1005 o1 0 1005 o0 0 6) 1006 o1 0 1006 o0 0 6) 1007 o1 0 1007 o0 0 6) 9 o1 8)) 9 o1 9)) 9 o1 10)) 9 o0 11 ((up (up (up (cp (cp (cp (cp (cp (cp (cp σ 1001 o1 0 1001 o0 0 6) 1002 o1 0 1002 o0 0 6) 1003 o1 0 1003 o0 0 6) 1004 o1 0 1004 o0 0 6) 1005 o1 0 1005 o0 0 6) 1006 o1 0 1006 o0 0 6) 1007 o1 0 1007 o0 0 6) 9 o0 8 ((cp (cp (cp (cp (cp (cp (cp σ 1001 o1 0 1001 o0 0 6) 1002 o1 0 1002 o0 0 6) 1003 o1 0 1003 o0 0 6) 1004 o1 0 1004 o0 0 6) 1005 o1 0 1005 o0 0 6) 1006 o1 0 1006 o0 0 6) 1007 o1 0 1007 o0 0 6) 9 o1 8)) 9 o0 9 ((up (cp (cp (cp (cp (cp (cp (cp σ 1001 o1 0 1001 o0 0 6) 1002 o1 0 1002 o0 0 6) 1003 o1 0 1003 o0 0 6) 1004 o1 0 1004 o0 0 6) 1005 o1 0 1005 o0 0 6) 1006 o1 0 1006 o0 0 6) 1007 o1 0 1007 o0 0 6) 9 o0 8 ((cp (cp (cp (cp (cp (cp (cp σ 1001 o1 0 1001 o0 0 6) 1002 o1 0 1002 o0 0 6) 1003 o1 0 1003 o0 0 6) 1004 o1 0 1004 o0 0 6) 1005 o1 0 1005 o0 0 6) 1006 o1 0 1006 o0 0 6) 1007 o1 0 1007 o0 0 6) 9 o1 8)) 9 o1 9)) 9 o0 10 ((up (up (cp (cp (cp (cp (cp (cp (cp σ 1001 o1 0 1001 o0 0 6) 1002 o1 0 1002 o0 0 6) 1003 o1 0 1003 o0 0 6) 1004 o1 0 1004 o0 0 6) 1005 o1 0 1005 o0 0 6) 1006 o1 0 1006 o0 0 6) 1007 o1 0 1007 o0 0 6) 9 o0 8 ((cp (cp (cp (cp (cp (cp (cp σ 1001 o1 0 1001 o0 0 6) 1002 o1 0 1002 o0 0 6) 1003 o1 0 1003 o0 0 6) 1004 o1 0 1004 o0 0 6) 1005 o1 0 1005 o0 0 6) 1006 o1 0 1006 o0 0 6) 1007 o1 0 1007 o0 0 6) 9 o1 8)) 9 o0 9 ((up (cp (cp (cp (cp (cp (cp (cp σ 1001 o1 0 1001 o0 0 6) 1002 o1 0 1002 o0 0 6) 1003 o1 0 1003 o0 0 6) 1004 o1 0 1004 o0 0 6) 1005 o1 0 1005 o0 0 6) 1006 o1 0 1006 o0 0 6) 1007 o1 0 1007 o0 0 6) 9 o0 8 ((cp (cp (cp (cp (cp (cp (cp σ 1001 o1 0 1001 o0 0 6) 1002 o1 0 1002 o0 0 6) 1003 o1 0 1003 o0 0 6) 1004 o1 0 1004 o0 0 6) 1005 o1 0 1005 o0 0 6) 1006 o1 0 1006 o0 0 6) 1007 o1 0 1007 o0 0 6) 9 o1 8)) 9 o1 9)) 9 o1 10)) 9 o1 11)) 9 o1 12))
set_option maxRecDepth 20000 in
set_option maxHeartbeats 2000000 in
theorem s_X9_take   {o0 : Nat} {o1 : Nat} {σ : St} {Q : St → Prop} (h : P_X9_take o0 o1 σ Q) : Cn Y_X9_take 1 0 0 ww σ [vR 9 o0, vR 9 o1] (QV Q) := by
  refine Cn_of [some (vR 9 o0), some (vR 9 o1)] (by decide) (Nat.le_of_ble_eq_true rfl) rfl ?_
  unfold P_X9_take at h
  refine E_aload_n dX9_take_0 rfl rfl ?_
  refine E_getr (i := o1) dX9_take_1 fl_RX9_9 rfl rfl (go_9_1 _ _) ?_
  refine E_ic dX9_take_4 rfl ?_
  refine E_aload_n dX9_take_5 rfl rfl ?_
  refine E_getr (i := o0) dX9_take_6 fl_RX9_9 rfl rfl (go_9_1 _ _) ?_
  refine E_ic dX9_take_9 rfl ?_
  refine E_bp dX9_take_10 rfl ?_
  refine E_acpi dX9_take_12 lk_RX9_66 (by decide) (Nat.le_of_ble_eq_true rfl) sh_1001 sh_1001 (by decide) (by decide) (by decide) (by decide) (by decide) ?_
  refine E_aload_n dX9_take_15 rfl rfl ?_
  refine E_getr (i := o1) dX9_take_16 fl_RX9_15 rfl rfl (go_9_2 _ _) ?_
  refine E_ic dX9_take_19 rfl ?_
  refine E_aload_n dX9_take_20 rfl rfl ?_
  refine E_getr (i := o0) dX9_take_21 fl_RX9_15 rfl rfl (go_9_2 _ _) ?_
  refine E_ic dX9_take_24 rfl ?_
  refine E_bp dX9_take_25 rfl ?_
  refine E_acpi dX9_take_27 lk_RX9_66 (by decide) (Nat.le_of_ble_eq_true rfl) sh_1002 sh_1002 (by decide) (by decide) (by decide) (by decide) (by decide) ?_
  refine E_aload_n dX9_take_30 rfl rfl ?_
  refine E_getr (i := o1) dX9_take_31 fl_RX9_18 rfl rfl (go_9_3 _ _) ?_
  refine E_ic dX9_take_34 rfl ?_
  refine E_aload_n dX9_take_35 rfl rfl ?_
  refine E_getr (i := o0) dX9_take_36 fl_RX9_18 rfl rfl (go_9_3 _ _) ?_
  refine E_ic dX9_take_39 rfl ?_
  refine E_bp dX9_take_40 rfl ?_
  refine E_acpi dX9_take_42 lk_RX9_66 (by decide) (Nat.le_of_ble_eq_true rfl) sh_1003 sh_1003 (by decide) (by decide) (by decide) (by decide) (by decide) ?_
  refine E_aload_n dX9_take_45 rfl rfl ?_
  refine E_getr (i := o1) dX9_take_46 fl_RX9_21 rfl rfl (go_9_4 _ _) ?_
  refine E_ic dX9_take_49 rfl ?_
  refine E_aload_n dX9_take_50 rfl rfl ?_
  refine E_getr (i := o0) dX9_take_51 fl_RX9_21 rfl rfl (go_9_4 _ _) ?_
  refine E_ic dX9_take_54 rfl ?_
  refine E_bp dX9_take_55 rfl ?_
  refine E_acpi dX9_take_57 lk_RX9_66 (by decide) (Nat.le_of_ble_eq_true rfl) sh_1004 sh_1004 (by decide) (by decide) (by decide) (by decide) (by decide) ?_
  refine E_aload_n dX9_take_60 rfl rfl ?_
  refine E_getr (i := o1) dX9_take_61 fl_RX9_24 rfl rfl (go_9_5 _ _) ?_
  refine E_ic dX9_take_64 rfl ?_
  refine E_aload_n dX9_take_65 rfl rfl ?_
  refine E_getr (i := o0) dX9_take_66 fl_RX9_24 rfl rfl (go_9_5 _ _) ?_
  refine E_ic dX9_take_69 rfl ?_
  refine E_bp dX9_take_70 rfl ?_
  refine E_acpi dX9_take_72 lk_RX9_66 (by decide) (Nat.le_of_ble_eq_true rfl) sh_1005 sh_1005 (by decide) (by decide) (by decide) (by decide) (by decide) ?_
  refine E_aload_n dX9_take_75 rfl rfl ?_
  refine E_getr (i := o1) dX9_take_76 fl_RX9_27 rfl rfl (go_9_6 _ _) ?_
  refine E_ic dX9_take_79 rfl ?_
  refine E_aload_n dX9_take_80 rfl rfl ?_
  refine E_getr (i := o0) dX9_take_81 fl_RX9_27 rfl rfl (go_9_6 _ _) ?_
  refine E_ic dX9_take_84 rfl ?_
  refine E_bp dX9_take_85 rfl ?_
  refine E_acpi dX9_take_87 lk_RX9_66 (by decide) (Nat.le_of_ble_eq_true rfl) sh_1006 sh_1006 (by decide) (by decide) (by decide) (by decide) (by decide) ?_
  refine E_aload_n dX9_take_90 rfl rfl ?_
  refine E_getr (i := o1) dX9_take_91 fl_RX9_30 rfl rfl (go_9_7 _ _) ?_
  refine E_ic dX9_take_94 rfl ?_
  refine E_aload_n dX9_take_95 rfl rfl ?_
  refine E_getr (i := o0) dX9_take_96 fl_RX9_30 rfl rfl (go_9_7 _ _) ?_
  refine E_ic dX9_take_99 rfl ?_
  refine E_bp dX9_take_100 rfl ?_
  refine E_acpi dX9_take_102 lk_RX9_66 (by decide) (Nat.le_of_ble_eq_true rfl) sh_1007 sh_1007 (by decide) (by decide) (by decide) (by decide) (by decide) ?_
  refine E_aload_n dX9_take_105 rfl rfl ?_
  refine E_aload_n dX9_take_106 rfl rfl ?_
  refine E_geti (i := o1) dX9_take_107 fl_RX9_33 rfl ?_
  refine E_puti dX9_take_110 fl_RX9_33 rfl rfl rfl ?_
  refine E_aload_n dX9_take_113 rfl rfl ?_
  refine E_aload_n dX9_take_114 rfl rfl ?_
  refine E_geti (i := o1) dX9_take_115 fl_RX9_37 rfl ?_
  refine E_puti dX9_take_118 fl_RX9_37 rfl rfl rfl ?_
  refine E_aload_n dX9_take_121 rfl rfl ?_
  refine E_aload_n dX9_take_122 rfl rfl ?_
  refine E_geti (i := o1) dX9_take_123 fl_RX9_40 rfl ?_
  refine E_puti dX9_take_126 fl_RX9_40 rfl rfl rfl ?_
  refine E_aload_n dX9_take_129 rfl rfl ?_
  refine E_aload_n dX9_take_130 rfl rfl ?_
  refine E_geti (i := o1) dX9_take_131 fl_RX9_43 rfl ?_
  refine E_puti dX9_take_134 fl_RX9_43 rfl rfl rfl ?_
  refine E_aload_n dX9_take_137 rfl rfl ?_
  refine E_aload_n dX9_take_138 rfl rfl ?_
  refine E_geti (i := o1) dX9_take_139 fl_RX9_46 rfl ?_
  refine E_puti dX9_take_142 fl_RX9_46 rfl rfl rfl ?_
  exact E_vret dX9_take_145 rfl ⟨rfl, rfl, h⟩
abbrev Y_X9_fallOf : My := (yX9_fallOf, cX9_fallOf, 2, some .int)
theorem dX9_fallOf_0 : decode cX9_fallOf 0 = .ok (.aload_n 0, 1) := by decide +kernel
theorem dX9_fallOf_1 : decode cX9_fallOf 1 = .ok (.getfield 49, 3) := by decide +kernel
theorem dX9_fallOf_4 : decode cX9_fallOf 4 = .ok (.aload_n 0, 1) := by decide +kernel
theorem dX9_fallOf_5 : decode cX9_fallOf 5 = .ok (.getfield 15, 3) := by decide +kernel
theorem dX9_fallOf_8 : decode cX9_fallOf 8 = .ok (.iload_n 1, 1) := by decide +kernel
theorem dX9_fallOf_9 : decode cX9_fallOf 9 = .ok (.iaload, 1) := by decide +kernel
theorem dX9_fallOf_10 : decode cX9_fallOf 10 = .ok (.aload_n 0, 1) := by decide +kernel
theorem dX9_fallOf_11 : decode cX9_fallOf 11 = .ok (.getfield 9, 3) := by decide +kernel
theorem dX9_fallOf_14 : decode cX9_fallOf 14 = .ok (.invokevirtual 72, 3) := by decide +kernel
theorem dX9_fallOf_17 : decode cX9_fallOf 17 = .ok (.ireturn, 1) := by decide +kernel
theorem lk_RX9_72 : Cond.methodLink RX9 72 yX8_fall ∈ tG := inG (i := 951) (by decide +kernel) (by decide +kernel)
theorem m_X8_fall : MV Y_X8_fall 2 8 := ⟨⟨inG (i := 954) (by decide +kernel) (by decide +kernel), inG (i := 100) (by decide +kernel) (by decide +kernel), by decide, by decide, by decide, by decide +kernel⟩, inG (i := 952) (by decide +kernel) (by decide +kernel), inG (i := 953) (by decide +kernel) (by decide +kernel), by decide⟩
def P_X9_fallOf  (o0 : Nat) (x1 : Int) (σ : St) (Q : Int → St → Prop) : Prop :=
  0 ≤ x1 ∧ x1 < 6 ∧ P_X8_fall 0 (σ 1002 o0 x1) 1001 o0 σ (fun r_2 σ_1 => Q r_2 σ_1)
set_option maxRecDepth 20000 in
set_option maxHeartbeats 2000000 in
theorem s_X9_fallOf   {o0 : Nat} {x1 : Int} {σ : St} {Q : Int → St → Prop} (h : P_X9_fallOf o0 x1 σ Q) : Cn Y_X9_fallOf 1 0 0 ww σ [vR 9 o0, vI x1] (QI Q) := by
  refine Cn_of [some (vR 9 o0), some (vI x1)] (by decide) (Nat.le_of_ble_eq_true rfl) rfl ?_
  unfold P_X9_fallOf at h
  refine E_aload_n dX9_fallOf_0 rfl rfl ?_
  refine E_getr (i := o0) dX9_fallOf_1 fl_RX9_49 rfl rfl (go_9_0 _ _) ?_
  refine E_aload_n dX9_fallOf_4 rfl rfl ?_
  refine E_getr (i := o0) dX9_fallOf_5 fl_RX9_15 rfl rfl (go_9_2 _ _) ?_
  refine E_iload_n dX9_fallOf_8 rfl rfl ?_
  obtain ⟨hg0, hg1, h⟩ := h
  refine E_iald dX9_fallOf_9 sh_1002 hg0 hg1 ?_
  refine E_aload_n dX9_fallOf_10 rfl rfl ?_
  refine E_getr (i := o0) dX9_fallOf_11 fl_RX9_9 rfl rfl (go_9_1 _ _) ?_
  refine E_callV (Y' := Y_X8_fall) (as := [vI (σ 1002 o0 x1), vR 1001 o0]) (st := []) dX9_fallOf_14 lk_RX9_72 m_X8_fall (by decide) (Nat.le_refl _) (Nat.le_refl _) rfl rfl (Nat.le_of_ble_eq_true rfl) (s_X8_fall h) (fun r0 B0 σ_1 h => ?_)
  obtain ⟨r_2, rfl, rfl, h⟩ := h
  exact E_iret dX9_fallOf_17 rfl ⟨_, rfl, rfl, h⟩
abbrev Y_X9_inPhase : My := (yX9_inPhase, cX9_inPhase, 4, some .int)
theorem dX9_inPhase_0 : decode cX9_inPhase 0 = .ok (.iconst 0, 1) := by decide +kernel
theorem dX9_inPhase_1 : decode cX9_inPhase 1 = .ok (.istore_n 2, 1) := by decide +kernel
theorem dX9_inPhase_2 : decode cX9_inPhase 2 = .ok (.iconst 0, 1) := by decide +kernel
theorem dX9_inPhase_3 : decode cX9_inPhase 3 = .ok (.istore_n 3, 1) := by decide +kernel
theorem dX9_inPhase_4 : decode cX9_inPhase 4 = .ok (.iload_n 3, 1) := by decide +kernel
theorem dX9_inPhase_5 : decode cX9_inPhase 5 = .ok (.aload_n 0, 1) := by decide +kernel
theorem dX9_inPhase_6 : decode cX9_inPhase 6 = .ok (.getfield 49, 3) := by decide +kernel
theorem dX9_inPhase_9 : decode cX9_inPhase 9 = .ok (.getfield 59, 3) := by decide +kernel
theorem dX9_inPhase_12 : decode cX9_inPhase 12 = .ok (.if_icmp .ge 25, 3) := by decide +kernel
theorem dX9_inPhase_15 : decode cX9_inPhase 15 = .ok (.aload_n 0, 1) := by decide +kernel
theorem dX9_inPhase_16 : decode cX9_inPhase 16 = .ok (.getfield 21, 3) := by decide +kernel
theorem dX9_inPhase_19 : decode cX9_inPhase 19 = .ok (.iload_n 3, 1) := by decide +kernel
theorem dX9_inPhase_20 : decode cX9_inPhase 20 = .ok (.iaload, 1) := by decide +kernel
theorem dX9_inPhase_21 : decode cX9_inPhase 21 = .ok (.iload_n 1, 1) := by decide +kernel
theorem dX9_inPhase_22 : decode cX9_inPhase 22 = .ok (.if_icmp .ne 9, 3) := by decide +kernel
theorem dX9_inPhase_25 : decode cX9_inPhase 25 = .ok (.iload_n 2, 1) := by decide +kernel
theorem dX9_inPhase_26 : decode cX9_inPhase 26 = .ok (.iconst 1, 1) := by decide +kernel
theorem dX9_inPhase_27 : decode cX9_inPhase 27 = .ok (.iload_n 3, 1) := by decide +kernel
theorem dX9_inPhase_28 : decode cX9_inPhase 28 = .ok (.ishl, 1) := by decide +kernel
theorem dX9_inPhase_29 : decode cX9_inPhase 29 = .ok (.ior, 1) := by decide +kernel
theorem dX9_inPhase_30 : decode cX9_inPhase 30 = .ok (.istore_n 2, 1) := by decide +kernel
theorem dX9_inPhase_31 : decode cX9_inPhase 31 = .ok (.iinc 3 1, 3) := by decide +kernel
theorem dX9_inPhase_34 : decode cX9_inPhase 34 = .ok (.goto (-30), 3) := by decide +kernel
theorem dX9_inPhase_37 : decode cX9_inPhase 37 = .ok (.iload_n 2, 1) := by decide +kernel
theorem dX9_inPhase_38 : decode cX9_inPhase 38 = .ok (.ireturn, 1) := by decide +kernel
def P_X9_inPhase_L4  (o0 : Nat) (x1 : Int)  (Q : Int → St → Prop) : Nat → Int → Int → St → Prop
  | 0, _, _, _ => False
  | n + 1, x2, x3, σ => (if (σ 8 0 11) ≤ x3 then Q x2 σ else 0 ≤ x3 ∧ x3 < 6 ∧ (if (σ 1004 o0 x3) = x1 then (P_X9_inPhase_L4 o0 x1 Q n) (bO x2 (bL 1 x3)) (wi (x3 + 1)) σ else (P_X9_inPhase_L4 o0 x1 Q n) x2 (wi (x3 + 1)) σ))
set_option maxRecDepth 20000 in
set_option maxHeartbeats 2000000 in
theorem e_P_X9_inPhase_L4  {o0 : Nat} {x1 : Int}  {Q : Int → St → Prop}   : ∀ (n : Nat) (x2 : Int) (x3 : Int) (σ : St), P_X9_inPhase_L4 o0 x1 Q n x2 x3 σ → E Y_X9_inPhase 0 0 0 (QI Q) ww 0 0 4 [some (vR 9 o0), some (vI x1), some (vI x2), some (vI x3)] [] σ := by
  intro n
  induction n with
  | zero => intro x2 x3 σ h; exact h.elim
  | succ n hR =>
    intro x2 x3 σ h
    unfold P_X9_inPhase_L4 at h
    refine E_iload_n dX9_inPhase_4 rfl rfl ?_
    refine E_aload_n dX9_inPhase_5 rfl rfl ?_
    refine E_getr (i := o0) dX9_inPhase_6 fl_RX9_49 rfl rfl (go_9_0 _ _) ?_
    refine E_geti (i := 0) dX9_inPhase_9 fl_RX9_59 rfl ?_
    refine E_icmp_ge (tgt := 37) dX9_inPhase_12 (by decide) (fun hc => ?_) (fun hc => ?_)
    · have h := Eq.mp (if_pos hc) h
      refine E_iload_n dX9_inPhase_37 rfl rfl ?_
      exact E_iret dX9_inPhase_38 rfl ⟨_, rfl, rfl, h⟩
    · have h := Eq.mp (if_neg hc) h
      refine E_aload_n dX9_inPhase_15 rfl rfl ?_
      refine E_getr (i := o0) dX9_inPhase_16 fl_RX9_21 rfl rfl (go_9_4 _ _) ?_
      refine E_iload_n dX9_inPhase_19 rfl rfl ?_
      obtain ⟨hg0, hg1, h⟩ := h
      refine E_iald dX9_inPhase_20 sh_1004 hg0 hg1 ?_
      refine E_iload_n dX9_inPhase_21 rfl rfl ?_
      refine E_icmp_ne (tgt := 31) dX9_inPhase_22 (by decide) (fun hc => ?_) (fun hc => ?_)
      · have h := Eq.mp (if_neg hc) h
        refine E_iinc (ls' := [some (vR 9 o0), some (vI x1), some (vI x2), some (vI (wi (x3 + 1)))]) dX9_inPhase_31 rfl (by decide) rfl rfl ?_
        refine E_goto (tgt := 4) dX9_inPhase_34 (by decide) ?_
        exact hR _ _ _ h
      · have h := Eq.mp (if_pos hc) h
        refine E_iload_n dX9_inPhase_25 rfl rfl ?_
        refine E_ic dX9_inPhase_26 rfl ?_
        refine E_iload_n dX9_inPhase_27 rfl rfl ?_
        refine E_ishl dX9_inPhase_28 ?_
        refine E_ior dX9_inPhase_29 ?_
        refine E_istore_n (ls' := [some (vR 9 o0), some (vI x1), some (vI (bO x2 (bL 1 x3))), some (vI x3)]) dX9_inPhase_30 rfl (by decide) rfl ?_
        refine E_iinc (ls' := [some (vR 9 o0), some (vI x1), some (vI (bO x2 (bL 1 x3))), some (vI (wi (x3 + 1)))]) dX9_inPhase_31 rfl (by decide) rfl rfl ?_
        refine E_goto (tgt := 4) dX9_inPhase_34 (by decide) ?_
        exact hR _ _ _ h
def P_X9_inPhase  (o0 : Nat) (x1 : Int) (σ : St) (Q : Int → St → Prop) : Prop :=
  P_X9_inPhase_L4 o0 x1 Q FU 0 0 σ
set_option maxRecDepth 20000 in
set_option maxHeartbeats 2000000 in
theorem s_X9_inPhase   {o0 : Nat} {x1 : Int} {σ : St} {Q : Int → St → Prop} (h : P_X9_inPhase o0 x1 σ Q) : Cn Y_X9_inPhase 0 0 0 ww σ [vR 9 o0, vI x1] (QI Q) := by
  refine Cn_of [some (vR 9 o0), some (vI x1), none, none] (by decide) (Nat.le_of_ble_eq_true rfl) rfl ?_
  unfold P_X9_inPhase at h
  refine E_ic dX9_inPhase_0 rfl ?_
  refine E_istore_n (ls' := [some (vR 9 o0), some (vI x1), some (vI 0), none]) dX9_inPhase_1 rfl (by decide) rfl ?_
  refine E_ic dX9_inPhase_2 rfl ?_
  refine E_istore_n (ls' := [some (vR 9 o0), some (vI x1), some (vI 0), some (vI 0)]) dX9_inPhase_3 rfl (by decide) rfl ?_
  refine e_P_X9_inPhase_L4  _ _ _ _ h
abbrev Y_X9_basket : My := (yX9_basket, cX9_basket, 4, some .int)
theorem dX9_basket_0 : decode cX9_basket 0 = .ok (.iconst 0, 1) := by decide +kernel
theorem dX9_basket_1 : decode cX9_basket 1 = .ok (.istore_n 2, 1) := by decide +kernel
theorem dX9_basket_2 : decode cX9_basket 2 = .ok (.iconst 0, 1) := by decide +kernel
theorem dX9_basket_3 : decode cX9_basket 3 = .ok (.istore_n 3, 1) := by decide +kernel
theorem dX9_basket_4 : decode cX9_basket 4 = .ok (.iload_n 3, 1) := by decide +kernel
theorem dX9_basket_5 : decode cX9_basket 5 = .ok (.aload_n 0, 1) := by decide +kernel
theorem dX9_basket_6 : decode cX9_basket 6 = .ok (.getfield 49, 3) := by decide +kernel
theorem dX9_basket_9 : decode cX9_basket 9 = .ok (.getfield 59, 3) := by decide +kernel
theorem dX9_basket_12 : decode cX9_basket 12 = .ok (.if_icmp .ge 34, 3) := by decide +kernel
theorem dX9_basket_15 : decode cX9_basket 15 = .ok (.aload_n 0, 1) := by decide +kernel
theorem dX9_basket_16 : decode cX9_basket 16 = .ok (.getfield 21, 3) := by decide +kernel
theorem dX9_basket_19 : decode cX9_basket 19 = .ok (.iload_n 3, 1) := by decide +kernel
theorem dX9_basket_20 : decode cX9_basket 20 = .ok (.iaload, 1) := by decide +kernel
theorem dX9_basket_21 : decode cX9_basket 21 = .ok (.ifCond .ne 19, 3) := by decide +kernel
theorem dX9_basket_24 : decode cX9_basket 24 = .ok (.aload_n 0, 1) := by decide +kernel
theorem dX9_basket_25 : decode cX9_basket 25 = .ok (.getfield 18, 3) := by decide +kernel
theorem dX9_basket_28 : decode cX9_basket 28 = .ok (.iload_n 3, 1) := by decide +kernel
theorem dX9_basket_29 : decode cX9_basket 29 = .ok (.iaload, 1) := by decide +kernel
theorem dX9_basket_30 : decode cX9_basket 30 = .ok (.iload_n 1, 1) := by decide +kernel
theorem dX9_basket_31 : decode cX9_basket 31 = .ok (.if_icmp .ne 9, 3) := by decide +kernel
theorem dX9_basket_34 : decode cX9_basket 34 = .ok (.iload_n 2, 1) := by decide +kernel
theorem dX9_basket_35 : decode cX9_basket 35 = .ok (.iconst 1, 1) := by decide +kernel
theorem dX9_basket_36 : decode cX9_basket 36 = .ok (.iload_n 3, 1) := by decide +kernel
theorem dX9_basket_37 : decode cX9_basket 37 = .ok (.ishl, 1) := by decide +kernel
theorem dX9_basket_38 : decode cX9_basket 38 = .ok (.ior, 1) := by decide +kernel
theorem dX9_basket_39 : decode cX9_basket 39 = .ok (.istore_n 2, 1) := by decide +kernel
theorem dX9_basket_40 : decode cX9_basket 40 = .ok (.iinc 3 1, 3) := by decide +kernel
theorem dX9_basket_43 : decode cX9_basket 43 = .ok (.goto (-39), 3) := by decide +kernel
theorem dX9_basket_46 : decode cX9_basket 46 = .ok (.iload_n 2, 1) := by decide +kernel
theorem dX9_basket_47 : decode cX9_basket 47 = .ok (.ireturn, 1) := by decide +kernel
def P_X9_basket_L4  (o0 : Nat) (x1 : Int)  (Q : Int → St → Prop) : Nat → Int → Int → St → Prop
  | 0, _, _, _ => False
  | n + 1, x2, x3, σ => (if (σ 8 0 11) ≤ x3 then Q x2 σ else 0 ≤ x3 ∧ x3 < 6 ∧ (if (σ 1004 o0 x3) = 0 then 0 ≤ x3 ∧ x3 < 6 ∧ (if (σ 1003 o0 x3) = x1 then (P_X9_basket_L4 o0 x1 Q n) (bO x2 (bL 1 x3)) (wi (x3 + 1)) σ else (P_X9_basket_L4 o0 x1 Q n) x2 (wi (x3 + 1)) σ) else (P_X9_basket_L4 o0 x1 Q n) x2 (wi (x3 + 1)) σ))
set_option maxRecDepth 20000 in
set_option maxHeartbeats 2000000 in
theorem e_P_X9_basket_L4  {o0 : Nat} {x1 : Int}  {Q : Int → St → Prop}   : ∀ (n : Nat) (x2 : Int) (x3 : Int) (σ : St), P_X9_basket_L4 o0 x1 Q n x2 x3 σ → E Y_X9_basket 0 0 0 (QI Q) ww 0 0 4 [some (vR 9 o0), some (vI x1), some (vI x2), some (vI x3)] [] σ := by
  intro n
  induction n with
  | zero => intro x2 x3 σ h; exact h.elim
  | succ n hR =>
    intro x2 x3 σ h
    unfold P_X9_basket_L4 at h
    refine E_iload_n dX9_basket_4 rfl rfl ?_
    refine E_aload_n dX9_basket_5 rfl rfl ?_
    refine E_getr (i := o0) dX9_basket_6 fl_RX9_49 rfl rfl (go_9_0 _ _) ?_
    refine E_geti (i := 0) dX9_basket_9 fl_RX9_59 rfl ?_
    refine E_icmp_ge (tgt := 46) dX9_basket_12 (by decide) (fun hc => ?_) (fun hc => ?_)
    · have h := Eq.mp (if_pos hc) h
      refine E_iload_n dX9_basket_46 rfl rfl ?_
      exact E_iret dX9_basket_47 rfl ⟨_, rfl, rfl, h⟩
    · have h := Eq.mp (if_neg hc) h
      refine E_aload_n dX9_basket_15 rfl rfl ?_
      refine E_getr (i := o0) dX9_basket_16 fl_RX9_21 rfl rfl (go_9_4 _ _) ?_
      refine E_iload_n dX9_basket_19 rfl rfl ?_
      obtain ⟨hg0, hg1, h⟩ := h
      refine E_iald dX9_basket_20 sh_1004 hg0 hg1 ?_
      refine E_if_ne (tgt := 40) dX9_basket_21 (by decide) (fun hc => ?_) (fun hc => ?_)
      · have h := Eq.mp (if_neg hc) h
        refine E_iinc (ls' := [some (vR 9 o0), some (vI x1), some (vI x2), some (vI (wi (x3 + 1)))]) dX9_basket_40 rfl (by decide) rfl rfl ?_
        refine E_goto (tgt := 4) dX9_basket_43 (by decide) ?_
        exact hR _ _ _ h
      · have h := Eq.mp (if_pos hc) h
        refine E_aload_n dX9_basket_24 rfl rfl ?_
        refine E_getr (i := o0) dX9_basket_25 fl_RX9_18 rfl rfl (go_9_3 _ _) ?_
        refine E_iload_n dX9_basket_28 rfl rfl ?_
        obtain ⟨hg0, hg1, h⟩ := h
        refine E_iald dX9_basket_29 sh_1003 hg0 hg1 ?_
        refine E_iload_n dX9_basket_30 rfl rfl ?_
        refine E_icmp_ne (tgt := 40) dX9_basket_31 (by decide) (fun hc => ?_) (fun hc => ?_)
        · have h := Eq.mp (if_neg hc) h
          refine E_iinc (ls' := [some (vR 9 o0), some (vI x1), some (vI x2), some (vI (wi (x3 + 1)))]) dX9_basket_40 rfl (by decide) rfl rfl ?_
          refine E_goto (tgt := 4) dX9_basket_43 (by decide) ?_
          exact hR _ _ _ h
        · have h := Eq.mp (if_pos hc) h
          refine E_iload_n dX9_basket_34 rfl rfl ?_
          refine E_ic dX9_basket_35 rfl ?_
          refine E_iload_n dX9_basket_36 rfl rfl ?_
          refine E_ishl dX9_basket_37 ?_
          refine E_ior dX9_basket_38 ?_
          refine E_istore_n (ls' := [some (vR 9 o0), some (vI x1), some (vI (bO x2 (bL 1 x3))), some (vI x3)]) dX9_basket_39 rfl (by decide) rfl ?_
          refine E_iinc (ls' := [some (vR 9 o0), some (vI x1), some (vI (bO x2 (bL 1 x3))), some (vI (wi (x3 + 1)))]) dX9_basket_40 rfl (by decide) rfl rfl ?_
          refine E_goto (tgt := 4) dX9_basket_43 (by decide) ?_
          exact hR _ _ _ h
def P_X9_basket  (o0 : Nat) (x1 : Int) (σ : St) (Q : Int → St → Prop) : Prop :=
  P_X9_basket_L4 o0 x1 Q FU 0 0 σ
set_option maxRecDepth 20000 in
set_option maxHeartbeats 2000000 in
theorem s_X9_basket   {o0 : Nat} {x1 : Int} {σ : St} {Q : Int → St → Prop} (h : P_X9_basket o0 x1 σ Q) : Cn Y_X9_basket 0 0 0 ww σ [vR 9 o0, vI x1] (QI Q) := by
  refine Cn_of [some (vR 9 o0), some (vI x1), none, none] (by decide) (Nat.le_of_ble_eq_true rfl) rfl ?_
  unfold P_X9_basket at h
  refine E_ic dX9_basket_0 rfl ?_
  refine E_istore_n (ls' := [some (vR 9 o0), some (vI x1), some (vI 0), none]) dX9_basket_1 rfl (by decide) rfl ?_
  refine E_ic dX9_basket_2 rfl ?_
  refine E_istore_n (ls' := [some (vR 9 o0), some (vI x1), some (vI 0), some (vI 0)]) dX9_basket_3 rfl (by decide) rfl ?_
  refine e_P_X9_basket_L4  _ _ _ _ h
abbrev Y_X9_astray : My := (yX9_astray, cX9_astray, 3, some .int)
theorem dX9_astray_0 : decode cX9_astray 0 = .ok (.iconst 0, 1) := by decide +kernel
theorem dX9_astray_1 : decode cX9_astray 1 = .ok (.istore_n 1, 1) := by decide +kernel
theorem dX9_astray_2 : decode cX9_astray 2 = .ok (.iconst 0, 1) := by decide +kernel
theorem dX9_astray_3 : decode cX9_astray 3 = .ok (.istore_n 2, 1) := by decide +kernel
theorem dX9_astray_4 : decode cX9_astray 4 = .ok (.iload_n 2, 1) := by decide +kernel
theorem dX9_astray_5 : decode cX9_astray 5 = .ok (.aload_n 0, 1) := by decide +kernel
theorem dX9_astray_6 : decode cX9_astray 6 = .ok (.getfield 49, 3) := by decide +kernel
theorem dX9_astray_9 : decode cX9_astray 9 = .ok (.getfield 59, 3) := by decide +kernel
theorem dX9_astray_12 : decode cX9_astray 12 = .ok (.if_icmp .ge 42, 3) := by decide +kernel
theorem dX9_astray_15 : decode cX9_astray 15 = .ok (.aload_n 0, 1) := by decide +kernel
theorem dX9_astray_16 : decode cX9_astray 16 = .ok (.getfield 21, 3) := by decide +kernel
theorem dX9_astray_19 : decode cX9_astray 19 = .ok (.iload_n 2, 1) := by decide +kernel
theorem dX9_astray_20 : decode cX9_astray 20 = .ok (.iaload, 1) := by decide +kernel
theorem dX9_astray_21 : decode cX9_astray 21 = .ok (.ifCond .ne 27, 3) := by decide +kernel
theorem dX9_astray_24 : decode cX9_astray 24 = .ok (.aload_n 0, 1) := by decide +kernel
theorem dX9_astray_25 : decode cX9_astray 25 = .ok (.getfield 18, 3) := by decide +kernel
theorem dX9_astray_28 : decode cX9_astray 28 = .ok (.iload_n 2, 1) := by decide +kernel
theorem dX9_astray_29 : decode cX9_astray 29 = .ok (.iaload, 1) := by decide +kernel
theorem dX9_astray_30 : decode cX9_astray 30 = .ok (.aload_n 0, 1) := by decide +kernel
theorem dX9_astray_31 : decode cX9_astray 31 = .ok (.getfield 49, 3) := by decide +kernel
theorem dX9_astray_34 : decode cX9_astray 34 = .ok (.getfield 63, 3) := by decide +kernel
theorem dX9_astray_37 : decode cX9_astray 37 = .ok (.iload_n 2, 1) := by decide +kernel
theorem dX9_astray_38 : decode cX9_astray 38 = .ok (.iaload, 1) := by decide +kernel
theorem dX9_astray_39 : decode cX9_astray 39 = .ok (.if_icmp .eq 9, 3) := by decide +kernel
theorem dX9_astray_42 : decode cX9_astray 42 = .ok (.iload_n 1, 1) := by decide +kernel
theorem dX9_astray_43 : decode cX9_astray 43 = .ok (.iconst 1, 1) := by decide +kernel
theorem dX9_astray_44 : decode cX9_astray 44 = .ok (.iload_n 2, 1) := by decide +kernel
theorem dX9_astray_45 : decode cX9_astray 45 = .ok (.ishl, 1) := by decide +kernel
theorem dX9_astray_46 : decode cX9_astray 46 = .ok (.ior, 1) := by decide +kernel
theorem dX9_astray_47 : decode cX9_astray 47 = .ok (.istore_n 1, 1) := by decide +kernel
theorem dX9_astray_48 : decode cX9_astray 48 = .ok (.iinc 2 1, 3) := by decide +kernel
theorem dX9_astray_51 : decode cX9_astray 51 = .ok (.goto (-47), 3) := by decide +kernel
theorem dX9_astray_54 : decode cX9_astray 54 = .ok (.iload_n 1, 1) := by decide +kernel
theorem dX9_astray_55 : decode cX9_astray 55 = .ok (.ireturn, 1) := by decide +kernel
def P_X9_astray_L4  (o0 : Nat)  (Q : Int → St → Prop) : Nat → Int → Int → St → Prop
  | 0, _, _, _ => False
  | n + 1, x1, x2, σ => (if (σ 8 0 11) ≤ x2 then Q x1 σ else 0 ≤ x2 ∧ x2 < 6 ∧ (if (σ 1004 o0 x2) = 0 then 0 ≤ x2 ∧ x2 < 6 ∧ 0 ≤ x2 ∧ x2 < 6 ∧ (if (σ 1003 o0 x2) = (σ 906 0 x2) then (P_X9_astray_L4 o0 Q n) x1 (wi (x2 + 1)) σ else (P_X9_astray_L4 o0 Q n) (bO x1 (bL 1 x2)) (wi (x2 + 1)) σ) else (P_X9_astray_L4 o0 Q n) x1 (wi (x2 + 1)) σ))
set_option maxRecDepth 20000 in
set_option maxHeartbeats 2000000 in
theorem e_P_X9_astray_L4  {o0 : Nat}  {Q : Int → St → Prop}   : ∀ (n : Nat) (x1 : Int) (x2 : Int) (σ : St), P_X9_astray_L4 o0 Q n x1 x2 σ → E Y_X9_astray 0 0 0 (QI Q) ww 0 0 4 [some (vR 9 o0), some (vI x1), some (vI x2)] [] σ := by
  intro n
  induction n with
  | zero => intro x1 x2 σ h; exact h.elim
  | succ n hR =>
    intro x1 x2 σ h
    unfold P_X9_astray_L4 at h
    refine E_iload_n dX9_astray_4 rfl rfl ?_
    refine E_aload_n dX9_astray_5 rfl rfl ?_
    refine E_getr (i := o0) dX9_astray_6 fl_RX9_49 rfl rfl (go_9_0 _ _) ?_
    refine E_geti (i := 0) dX9_astray_9 fl_RX9_59 rfl ?_
    refine E_icmp_ge (tgt := 54) dX9_astray_12 (by decide) (fun hc => ?_) (fun hc => ?_)
    · have h := Eq.mp (if_pos hc) h
      refine E_iload_n dX9_astray_54 rfl rfl ?_
      exact E_iret dX9_astray_55 rfl ⟨_, rfl, rfl, h⟩
    · have h := Eq.mp (if_neg hc) h
      refine E_aload_n dX9_astray_15 rfl rfl ?_
      refine E_getr (i := o0) dX9_astray_16 fl_RX9_21 rfl rfl (go_9_4 _ _) ?_
      refine E_iload_n dX9_astray_19 rfl rfl ?_
      obtain ⟨hg0, hg1, h⟩ := h
      refine E_iald dX9_astray_20 sh_1004 hg0 hg1 ?_
      refine E_if_ne (tgt := 48) dX9_astray_21 (by decide) (fun hc => ?_) (fun hc => ?_)
      · have h := Eq.mp (if_neg hc) h
        refine E_iinc (ls' := [some (vR 9 o0), some (vI x1), some (vI (wi (x2 + 1)))]) dX9_astray_48 rfl (by decide) rfl rfl ?_
        refine E_goto (tgt := 4) dX9_astray_51 (by decide) ?_
        exact hR _ _ _ h
      · have h := Eq.mp (if_pos hc) h
        refine E_aload_n dX9_astray_24 rfl rfl ?_
        refine E_getr (i := o0) dX9_astray_25 fl_RX9_18 rfl rfl (go_9_3 _ _) ?_
        refine E_iload_n dX9_astray_28 rfl rfl ?_
        obtain ⟨hg0, hg1, h⟩ := h
        refine E_iald dX9_astray_29 sh_1003 hg0 hg1 ?_
        refine E_aload_n dX9_astray_30 rfl rfl ?_
        refine E_getr (i := o0) dX9_astray_31 fl_RX9_49 rfl rfl (go_9_0 _ _) ?_
        refine E_getr (i := 0) dX9_astray_34 fl_RX9_63 rfl rfl (go_8_6 _ _) ?_
        refine E_iload_n dX9_astray_37 rfl rfl ?_
        obtain ⟨hg0, hg1, h⟩ := h
        refine E_iald dX9_astray_38 sh_906 hg0 hg1 ?_
        refine E_icmp_eq (tgt := 48) dX9_astray_39 (by decide) (fun hc => ?_) (fun hc => ?_)
        · have h := Eq.mp (if_pos hc) h
          refine E_iinc (ls' := [some (vR 9 o0), some (vI x1), some (vI (wi (x2 + 1)))]) dX9_astray_48 rfl (by decide) rfl rfl ?_
          refine E_goto (tgt := 4) dX9_astray_51 (by decide) ?_
          exact hR _ _ _ h
        · have h := Eq.mp (if_neg hc) h
          refine E_iload_n dX9_astray_42 rfl rfl ?_
          refine E_ic dX9_astray_43 rfl ?_
          refine E_iload_n dX9_astray_44 rfl rfl ?_
          refine E_ishl dX9_astray_45 ?_
          refine E_ior dX9_astray_46 ?_
          refine E_istore_n (ls' := [some (vR 9 o0), some (vI (bO x1 (bL 1 x2))), some (vI x2)]) dX9_astray_47 rfl (by decide) rfl ?_
          refine E_iinc (ls' := [some (vR 9 o0), some (vI (bO x1 (bL 1 x2))), some (vI (wi (x2 + 1)))]) dX9_astray_48 rfl (by decide) rfl rfl ?_
          refine E_goto (tgt := 4) dX9_astray_51 (by decide) ?_
          exact hR _ _ _ h
def P_X9_astray  (o0 : Nat) (σ : St) (Q : Int → St → Prop) : Prop :=
  P_X9_astray_L4 o0 Q FU 0 0 σ
set_option maxRecDepth 20000 in
set_option maxHeartbeats 2000000 in
theorem s_X9_astray   {o0 : Nat} {σ : St} {Q : Int → St → Prop} (h : P_X9_astray o0 σ Q) : Cn Y_X9_astray 0 0 0 ww σ [vR 9 o0] (QI Q) := by
  refine Cn_of [some (vR 9 o0), none, none] (by decide) (Nat.le_of_ble_eq_true rfl) rfl ?_
  unfold P_X9_astray at h
  refine E_ic dX9_astray_0 rfl ?_
  refine E_istore_n (ls' := [some (vR 9 o0), some (vI 0), none]) dX9_astray_1 rfl (by decide) rfl ?_
  refine E_ic dX9_astray_2 rfl ?_
  refine E_istore_n (ls' := [some (vR 9 o0), some (vI 0), some (vI 0)]) dX9_astray_3 rfl (by decide) rfl ?_
  refine e_P_X9_astray_L4  _ _ _ _ h
abbrev Y_X9_allSizes : My := (yX9_allSizes, cX9_allSizes, 3, some .int)
theorem dX9_allSizes_0 : decode cX9_allSizes 0 = .ok (.iconst 0, 1) := by decide +kernel
theorem dX9_allSizes_1 : decode cX9_allSizes 1 = .ok (.istore_n 1, 1) := by decide +kernel
theorem dX9_allSizes_2 : decode cX9_allSizes 2 = .ok (.iconst 0, 1) := by decide +kernel
theorem dX9_allSizes_3 : decode cX9_allSizes 3 = .ok (.istore_n 2, 1) := by decide +kernel
theorem dX9_allSizes_4 : decode cX9_allSizes 4 = .ok (.iload_n 2, 1) := by decide +kernel
theorem dX9_allSizes_5 : decode cX9_allSizes 5 = .ok (.aload_n 0, 1) := by decide +kernel
theorem dX9_allSizes_6 : decode cX9_allSizes 6 = .ok (.getfield 49, 3) := by decide +kernel
theorem dX9_allSizes_9 : decode cX9_allSizes 9 = .ok (.getfield 59, 3) := by decide +kernel
theorem dX9_allSizes_12 : decode cX9_allSizes 12 = .ok (.if_icmp .ge 18, 3) := by decide +kernel
theorem dX9_allSizes_15 : decode cX9_allSizes 15 = .ok (.iload_n 1, 1) := by decide +kernel
theorem dX9_allSizes_16 : decode cX9_allSizes 16 = .ok (.aload_n 0, 1) := by decide +kernel
theorem dX9_allSizes_17 : decode cX9_allSizes 17 = .ok (.getfield 15, 3) := by decide +kernel
theorem dX9_allSizes_20 : decode cX9_allSizes 20 = .ok (.iload_n 2, 1) := by decide +kernel
theorem dX9_allSizes_21 : decode cX9_allSizes 21 = .ok (.iaload, 1) := by decide +kernel
theorem dX9_allSizes_22 : decode cX9_allSizes 22 = .ok (.iadd, 1) := by decide +kernel
theorem dX9_allSizes_23 : decode cX9_allSizes 23 = .ok (.istore_n 1, 1) := by decide +kernel
theorem dX9_allSizes_24 : decode cX9_allSizes 24 = .ok (.iinc 2 1, 3) := by decide +kernel
theorem dX9_allSizes_27 : decode cX9_allSizes 27 = .ok (.goto (-23), 3) := by decide +kernel
theorem dX9_allSizes_30 : decode cX9_allSizes 30 = .ok (.iload_n 1, 1) := by decide +kernel
theorem dX9_allSizes_31 : decode cX9_allSizes 31 = .ok (.ireturn, 1) := by decide +kernel
def P_X9_allSizes_L4  (o0 : Nat)  (Q : Int → St → Prop) : Nat → Int → Int → St → Prop
  | 0, _, _, _ => False
  | n + 1, x1, x2, σ => (if (σ 8 0 11) ≤ x2 then Q x1 σ else 0 ≤ x2 ∧ x2 < 6 ∧ (P_X9_allSizes_L4 o0 Q n) (wi (x1 + (σ 1002 o0 x2))) (wi (x2 + 1)) σ)
set_option maxRecDepth 20000 in
set_option maxHeartbeats 2000000 in
theorem e_P_X9_allSizes_L4  {o0 : Nat}  {Q : Int → St → Prop}   : ∀ (n : Nat) (x1 : Int) (x2 : Int) (σ : St), P_X9_allSizes_L4 o0 Q n x1 x2 σ → E Y_X9_allSizes 0 0 0 (QI Q) ww 0 0 4 [some (vR 9 o0), some (vI x1), some (vI x2)] [] σ := by
  intro n
  induction n with
  | zero => intro x1 x2 σ h; exact h.elim
  | succ n hR =>
    intro x1 x2 σ h
    unfold P_X9_allSizes_L4 at h
    refine E_iload_n dX9_allSizes_4 rfl rfl ?_
    refine E_aload_n dX9_allSizes_5 rfl rfl ?_
    refine E_getr (i := o0) dX9_allSizes_6 fl_RX9_49 rfl rfl (go_9_0 _ _) ?_
    refine E_geti (i := 0) dX9_allSizes_9 fl_RX9_59 rfl ?_
    refine E_icmp_ge (tgt := 30) dX9_allSizes_12 (by decide) (fun hc => ?_) (fun hc => ?_)
    · have h := Eq.mp (if_pos hc) h
      refine E_iload_n dX9_allSizes_30 rfl rfl ?_
      exact E_iret dX9_allSizes_31 rfl ⟨_, rfl, rfl, h⟩
    · have h := Eq.mp (if_neg hc) h
      refine E_iload_n dX9_allSizes_15 rfl rfl ?_
      refine E_aload_n dX9_allSizes_16 rfl rfl ?_
      refine E_getr (i := o0) dX9_allSizes_17 fl_RX9_15 rfl rfl (go_9_2 _ _) ?_
      refine E_iload_n dX9_allSizes_20 rfl rfl ?_
      obtain ⟨hg0, hg1, h⟩ := h
      refine E_iald dX9_allSizes_21 sh_1002 hg0 hg1 ?_
      refine E_iadd dX9_allSizes_22 ?_
      refine E_istore_n (ls' := [some (vR 9 o0), some (vI (wi (x1 + (σ 1002 o0 x2)))), some (vI x2)]) dX9_allSizes_23 rfl (by decide) rfl ?_
      refine E_iinc (ls' := [some (vR 9 o0), some (vI (wi (x1 + (σ 1002 o0 x2)))), some (vI (wi (x2 + 1)))]) dX9_allSizes_24 rfl (by decide) rfl rfl ?_
      refine E_goto (tgt := 4) dX9_allSizes_27 (by decide) ?_
      exact hR _ _ _ h
def P_X9_allSizes  (o0 : Nat) (σ : St) (Q : Int → St → Prop) : Prop :=
  P_X9_allSizes_L4 o0 Q FU 0 0 σ
set_option maxRecDepth 20000 in
set_option maxHeartbeats 2000000 in
theorem s_X9_allSizes   {o0 : Nat} {σ : St} {Q : Int → St → Prop} (h : P_X9_allSizes o0 σ Q) : Cn Y_X9_allSizes 0 0 0 ww σ [vR 9 o0] (QI Q) := by
  refine Cn_of [some (vR 9 o0), none, none] (by decide) (Nat.le_of_ble_eq_true rfl) rfl ?_
  unfold P_X9_allSizes at h
  refine E_ic dX9_allSizes_0 rfl ?_
  refine E_istore_n (ls' := [some (vR 9 o0), some (vI 0), none]) dX9_allSizes_1 rfl (by decide) rfl ?_
  refine E_ic dX9_allSizes_2 rfl ?_
  refine E_istore_n (ls' := [some (vR 9 o0), some (vI 0), some (vI 0)]) dX9_allSizes_3 rfl (by decide) rfl ?_
  refine e_P_X9_allSizes_L4  _ _ _ _ h
abbrev Y_X9_canSend : My := (yX9_canSend, cX9_canSend, 2, some .boolean)
theorem dX9_canSend_0 : decode cX9_canSend 0 = .ok (.aload_n 0, 1) := by decide +kernel
theorem dX9_canSend_1 : decode cX9_canSend 1 = .ok (.getfield 49, 3) := by decide +kernel
theorem dX9_canSend_4 : decode cX9_canSend 4 = .ok (.iload_n 1, 1) := by decide +kernel
theorem dX9_canSend_5 : decode cX9_canSend 5 = .ok (.invokevirtual 76, 3) := by decide +kernel
theorem dX9_canSend_8 : decode cX9_canSend 8 = .ok (.ifCond .eq 27, 3) := by decide +kernel
theorem dX9_canSend_11 : decode cX9_canSend 11 = .ok (.aload_n 0, 1) := by decide +kernel
theorem dX9_canSend_12 : decode cX9_canSend 12 = .ok (.getfield 21, 3) := by decide +kernel
theorem dX9_canSend_15 : decode cX9_canSend 15 = .ok (.iload_n 1, 1) := by decide +kernel
theorem dX9_canSend_16 : decode cX9_canSend 16 = .ok (.iaload, 1) := by decide +kernel
theorem dX9_canSend_17 : decode cX9_canSend 17 = .ok (.ifCond .ne 18, 3) := by decide +kernel
theorem dX9_canSend_20 : decode cX9_canSend 20 = .ok (.aload_n 0, 1) := by decide +kernel
theorem dX9_canSend_21 : decode cX9_canSend 21 = .ok (.getfield 18, 3) := by decide +kernel
theorem dX9_canSend_24 : decode cX9_canSend 24 = .ok (.iload_n 1, 1) := by decide +kernel
theorem dX9_canSend_25 : decode cX9_canSend 25 = .ok (.iaload, 1) := by decide +kernel
theorem dX9_canSend_26 : decode cX9_canSend 26 = .ok (.bipush 6, 2) := by decide +kernel
theorem dX9_canSend_28 : decode cX9_canSend 28 = .ok (.if_icmp .eq 7, 3) := by decide +kernel
theorem dX9_canSend_31 : decode cX9_canSend 31 = .ok (.iconst 1, 1) := by decide +kernel
theorem dX9_canSend_32 : decode cX9_canSend 32 = .ok (.goto 4, 3) := by decide +kernel
theorem dX9_canSend_35 : decode cX9_canSend 35 = .ok (.iconst 0, 1) := by decide +kernel
theorem dX9_canSend_36 : decode cX9_canSend 36 = .ok (.ireturn, 1) := by decide +kernel
theorem lk_RX9_76 : Cond.methodLink RX9 76 yX8_hasBall ∈ tG := inG (i := 911) (by decide +kernel) (by decide +kernel)
theorem m_X8_hasBall : MV Y_X8_hasBall 1 8 := ⟨⟨inG (i := 902) (by decide +kernel) (by decide +kernel), inG (i := 100) (by decide +kernel) (by decide +kernel), by decide, by decide, by decide, by decide +kernel⟩, inG (i := 900) (by decide +kernel) (by decide +kernel), inG (i := 901) (by decide +kernel) (by decide +kernel), by decide⟩
def P_X9_canSend_J35    (Q : Int → St → Prop) (σ : St) : Prop :=
  Q 0 σ
set_option maxRecDepth 20000 in
set_option maxHeartbeats 2000000 in
theorem e_P_X9_canSend_J35    {Q : Int → St → Prop} {σ : St}   (h : P_X9_canSend_J35  Q σ) : E Y_X9_canSend 1 0 0 (QI Q) ww 0 0 35 [none, none] [] σ := by
  unfold P_X9_canSend_J35 at h
  refine E_ic dX9_canSend_35 rfl ?_
  exact E_zret dX9_canSend_36 rfl (by decide) ⟨_, rfl, rfl, h⟩
def P_X9_canSend  (o0 : Nat) (x1 : Int) (σ : St) (Q : Int → St → Prop) : Prop :=
  P_X8_hasBall 0 x1 σ (fun r_2 σ_1 => (if r_2 = 0 then P_X9_canSend_J35 Q σ_1 else 0 ≤ x1 ∧ x1 < 6 ∧ (if (σ_1 1004 o0 x1) = 0 then 0 ≤ x1 ∧ x1 < 6 ∧ (if (σ_1 1003 o0 x1) = 6 then P_X9_canSend_J35 Q σ_1 else Q 1 σ_1) else P_X9_canSend_J35 Q σ_1)))
set_option maxRecDepth 20000 in
set_option maxHeartbeats 2000000 in
theorem s_X9_canSend   {o0 : Nat} {x1 : Int} {σ : St} {Q : Int → St → Prop} (h : P_X9_canSend o0 x1 σ Q) : Cn Y_X9_canSend 1 0 0 ww σ [vR 9 o0, vI x1] (QI Q) := by
  refine Cn_of [some (vR 9 o0), some (vI x1)] (by decide) (Nat.le_of_ble_eq_true rfl) rfl ?_
  unfold P_X9_canSend at h
  refine E_aload_n dX9_canSend_0 rfl rfl ?_
  refine E_getr (i := o0) dX9_canSend_1 fl_RX9_49 rfl rfl (go_9_0 _ _) ?_
  refine E_iload_n dX9_canSend_4 rfl rfl ?_
  refine E_callV (Y' := Y_X8_hasBall) (as := [vI x1]) (st := []) dX9_canSend_5 lk_RX9_76 m_X8_hasBall (by decide) (Nat.le_refl _) (Nat.le_refl _) rfl rfl (Nat.le_of_ble_eq_true rfl) (s_X8_hasBall h) (fun r0 B0 σ_1 h => ?_)
  obtain ⟨r_2, rfl, rfl, h⟩ := h
  refine E_if_eq (tgt := 35) dX9_canSend_8 (by decide) (fun hc => ?_) (fun hc => ?_)
  · have h := Eq.mp (if_pos hc) h
    refine E_wk2 [none, none] trivial ?_
    exact e_P_X9_canSend_J35 h
  · have h := Eq.mp (if_neg hc) h
    refine E_aload_n dX9_canSend_11 rfl rfl ?_
    refine E_getr (i := o0) dX9_canSend_12 fl_RX9_21 rfl rfl (go_9_4 _ _) ?_
    refine E_iload_n dX9_canSend_15 rfl rfl ?_
    obtain ⟨hg0, hg1, h⟩ := h
    refine E_iald dX9_canSend_16 sh_1004 hg0 hg1 ?_
    refine E_if_ne (tgt := 35) dX9_canSend_17 (by decide) (fun hc => ?_) (fun hc => ?_)
    · have h := Eq.mp (if_neg hc) h
      refine E_wk2 [none, none] trivial ?_
      exact e_P_X9_canSend_J35 h
    · have h := Eq.mp (if_pos hc) h
      refine E_aload_n dX9_canSend_20 rfl rfl ?_
      refine E_getr (i := o0) dX9_canSend_21 fl_RX9_18 rfl rfl (go_9_3 _ _) ?_
      refine E_iload_n dX9_canSend_24 rfl rfl ?_
      obtain ⟨hg0, hg1, h⟩ := h
      refine E_iald dX9_canSend_25 sh_1003 hg0 hg1 ?_
      refine E_bp dX9_canSend_26 rfl ?_
      refine E_icmp_eq (tgt := 35) dX9_canSend_28 (by decide) (fun hc => ?_) (fun hc => ?_)
      · have h := Eq.mp (if_pos hc) h
        refine E_wk2 [none, none] trivial ?_
        exact e_P_X9_canSend_J35 h
      · have h := Eq.mp (if_neg hc) h
        refine E_ic dX9_canSend_31 rfl ?_
        refine E_goto (tgt := 36) dX9_canSend_32 (by decide) ?_
        exact E_zret dX9_canSend_36 rfl (by decide) ⟨_, rfl, rfl, h⟩
abbrev Y_X9_sendOff : My := (yX9_sendOff, cX9_sendOff, 2, some .boolean)
theorem dX9_sendOff_0 : decode cX9_sendOff 0 = .ok (.aload_n 0, 1) := by decide +kernel
theorem dX9_sendOff_1 : decode cX9_sendOff 1 = .ok (.iload_n 1, 1) := by decide +kernel
theorem dX9_sendOff_2 : decode cX9_sendOff 2 = .ok (.invokevirtual 80, 3) := by decide +kernel
theorem dX9_sendOff_5 : decode cX9_sendOff 5 = .ok (.ifCond .ne 5, 3) := by decide +kernel
theorem dX9_sendOff_8 : decode cX9_sendOff 8 = .ok (.iconst 0, 1) := by decide +kernel
theorem dX9_sendOff_9 : decode cX9_sendOff 9 = .ok (.ireturn, 1) := by decide +kernel
theorem dX9_sendOff_10 : decode cX9_sendOff 10 = .ok (.aload_n 0, 1) := by decide +kernel
theorem dX9_sendOff_11 : decode cX9_sendOff 11 = .ok (.getfield 21, 3) := by decide +kernel
theorem dX9_sendOff_14 : decode cX9_sendOff 14 = .ok (.iload_n 1, 1) := by decide +kernel
theorem dX9_sendOff_15 : decode cX9_sendOff 15 = .ok (.iconst 1, 1) := by decide +kernel
theorem dX9_sendOff_16 : decode cX9_sendOff 16 = .ok (.iastore, 1) := by decide +kernel
theorem dX9_sendOff_17 : decode cX9_sendOff 17 = .ok (.aload_n 0, 1) := by decide +kernel
theorem dX9_sendOff_18 : decode cX9_sendOff 18 = .ok (.getfield 24, 3) := by decide +kernel
theorem dX9_sendOff_21 : decode cX9_sendOff 21 = .ok (.iload_n 1, 1) := by decide +kernel
theorem dX9_sendOff_22 : decode cX9_sendOff 22 = .ok (.aload_n 0, 1) := by decide +kernel
theorem dX9_sendOff_23 : decode cX9_sendOff 23 = .ok (.getfield 49, 3) := by decide +kernel
theorem dX9_sendOff_26 : decode cX9_sendOff 26 = .ok (.iload_n 1, 1) := by decide +kernel
theorem dX9_sendOff_27 : decode cX9_sendOff 27 = .ok (.aload_n 0, 1) := by decide +kernel
theorem dX9_sendOff_28 : decode cX9_sendOff 28 = .ok (.getfield 18, 3) := by decide +kernel
theorem dX9_sendOff_31 : decode cX9_sendOff 31 = .ok (.iload_n 1, 1) := by decide +kernel
theorem dX9_sendOff_32 : decode cX9_sendOff 32 = .ok (.iaload, 1) := by decide +kernel
theorem dX9_sendOff_33 : decode cX9_sendOff 33 = .ok (.invokevirtual 83, 3) := by decide +kernel
theorem dX9_sendOff_36 : decode cX9_sendOff 36 = .ok (.iastore, 1) := by decide +kernel
theorem dX9_sendOff_37 : decode cX9_sendOff 37 = .ok (.aload_n 0, 1) := by decide +kernel
theorem dX9_sendOff_38 : decode cX9_sendOff 38 = .ok (.getfield 27, 3) := by decide +kernel
theorem dX9_sendOff_41 : decode cX9_sendOff 41 = .ok (.iload_n 1, 1) := by decide +kernel
theorem dX9_sendOff_42 : decode cX9_sendOff 42 = .ok (.dup2, 1) := by decide +kernel
theorem dX9_sendOff_43 : decode cX9_sendOff 43 = .ok (.iaload, 1) := by decide +kernel
theorem dX9_sendOff_44 : decode cX9_sendOff 44 = .ok (.iconst 1, 1) := by decide +kernel
theorem dX9_sendOff_45 : decode cX9_sendOff 45 = .ok (.iadd, 1) := by decide +kernel
theorem dX9_sendOff_46 : decode cX9_sendOff 46 = .ok (.iastore, 1) := by decide +kernel
theorem dX9_sendOff_47 : decode cX9_sendOff 47 = .ok (.iconst 1, 1) := by decide +kernel
theorem dX9_sendOff_48 : decode cX9_sendOff 48 = .ok (.ireturn, 1) := by decide +kernel
theorem lk_RX9_80 : Cond.methodLink RX9 80 yX9_canSend ∈ tG := inG (i := 925) (by decide +kernel) (by decide +kernel)
theorem lk_RX9_83 : Cond.methodLink RX9 83 yX8_beatsTo ∈ tG := inG (i := 926) (by decide +kernel) (by decide +kernel)
theorem m_X8_beatsTo : MV Y_X8_beatsTo 2 8 := ⟨⟨inG (i := 929) (by decide +kernel) (by decide +kernel), inG (i := 100) (by decide +kernel) (by decide +kernel), by decide, by decide, by decide, by decide +kernel⟩, inG (i := 927) (by decide +kernel) (by decide +kernel), inG (i := 928) (by decide +kernel) (by decide +kernel), by decide⟩
theorem m_X9_canSend : MV Y_X9_canSend 1 9 := ⟨⟨inG (i := 910) (by decide +kernel) (by decide +kernel), inG (i := 104) (by decide +kernel) (by decide +kernel), by decide, by decide, by decide, by decide +kernel⟩, inG (i := 908) (by decide +kernel) (by decide +kernel), inG (i := 909) (by decide +kernel) (by decide +kernel), by decide⟩
def P_X9_sendOff  (o0 : Nat) (x1 : Int) (σ : St) (Q : Int → St → Prop) : Prop :=
  P_X9_canSend o0 x1 σ (fun r_2 σ_1 => (if r_2 = 0 then Q 0 σ_1 else 0 ≤ x1 ∧ x1 < 6 ∧ 0 ≤ x1 ∧ x1 < 6 ∧ P_X8_beatsTo 0 x1 ((up σ_1 1004 o0 x1 1) 1003 o0 x1) (up σ_1 1004 o0 x1 1) (fun r_4 σ_3 => 0 ≤ x1 ∧ x1 < 6 ∧ 0 ≤ x1 ∧ x1 < 6 ∧ 0 ≤ x1 ∧ x1 < 6 ∧ Q 1 (up (up σ_3 1005 o0 x1 r_4) 1006 o0 x1 (wi (((up σ_3 1005 o0 x1 r_4) 1006 o0 x1) + 1))))))
set_option maxRecDepth 20000 in
set_option maxHeartbeats 2000000 in
theorem s_X9_sendOff   {o0 : Nat} {x1 : Int} {σ : St} {Q : Int → St → Prop} (h : P_X9_sendOff o0 x1 σ Q) : Cn Y_X9_sendOff 2 0 0 ww σ [vR 9 o0, vI x1] (QI Q) := by
  refine Cn_of [some (vR 9 o0), some (vI x1)] (by decide) (Nat.le_of_ble_eq_true rfl) rfl ?_
  unfold P_X9_sendOff at h
  refine E_aload_n dX9_sendOff_0 rfl rfl ?_
  refine E_iload_n dX9_sendOff_1 rfl rfl ?_
  refine E_callV (Y' := Y_X9_canSend) (as := [vI x1]) (st := []) dX9_sendOff_2 lk_RX9_80 m_X9_canSend (by decide) (Nat.le_refl _) (Nat.le_refl _) rfl rfl (Nat.le_of_ble_eq_true rfl) (s_X9_canSend h) (fun r0 B0 σ_1 h => ?_)
  obtain ⟨r_2, rfl, rfl, h⟩ := h
  refine E_if_ne (tgt := 10) dX9_sendOff_5 (by decide) (fun hc => ?_) (fun hc => ?_)
  · have h := Eq.mp (if_neg hc) h
    refine E_aload_n dX9_sendOff_10 rfl rfl ?_
    refine E_getr (i := o0) dX9_sendOff_11 fl_RX9_21 rfl rfl (go_9_4 _ _) ?_
    refine E_iload_n dX9_sendOff_14 rfl rfl ?_
    refine E_ic dX9_sendOff_15 rfl ?_
    obtain ⟨hg0, hg1, h⟩ := h
    refine E_iast dX9_sendOff_16 sh_1004 hg0 hg1 ?_
    refine E_aload_n dX9_sendOff_17 rfl rfl ?_
    refine E_getr (i := o0) dX9_sendOff_18 fl_RX9_24 rfl rfl (go_9_5 _ _) ?_
    refine E_iload_n dX9_sendOff_21 rfl rfl ?_
    refine E_aload_n dX9_sendOff_22 rfl rfl ?_
    refine E_getr (i := o0) dX9_sendOff_23 fl_RX9_49 rfl rfl (go_9_0 _ _) ?_
    refine E_iload_n dX9_sendOff_26 rfl rfl ?_
    refine E_aload_n dX9_sendOff_27 rfl rfl ?_
    refine E_getr (i := o0) dX9_sendOff_28 fl_RX9_18 rfl rfl (go_9_3 _ _) ?_
    refine E_iload_n dX9_sendOff_31 rfl rfl ?_
    obtain ⟨hg0, hg1, h⟩ := h
    refine E_iald dX9_sendOff_32 sh_1003 hg0 hg1 ?_
    refine E_callV (Y' := Y_X8_beatsTo) (as := [vI x1, vI ((up σ_1 1004 o0 x1 1) 1003 o0 x1)]) (st := [vI x1, vR 1005 o0]) dX9_sendOff_33 lk_RX9_83 m_X8_beatsTo (by decide) (Nat.le_refl _) (Nat.le_refl _) rfl rfl (Nat.le_of_ble_eq_true rfl) (s_X8_beatsTo h) (fun r0 B0 σ_3 h => ?_)
    obtain ⟨r_4, rfl, rfl, h⟩ := h
    obtain ⟨hg0, hg1, h⟩ := h
    refine E_iast dX9_sendOff_36 sh_1005 hg0 hg1 ?_
    refine E_aload_n dX9_sendOff_37 rfl rfl ?_
    refine E_getr (i := o0) dX9_sendOff_38 fl_RX9_27 rfl rfl (go_9_6 _ _) ?_
    refine E_iload_n dX9_sendOff_41 rfl rfl ?_
    refine E_dup2 dX9_sendOff_42 (fun _ q => by cases q) (fun _ q => by cases q) ?_
    obtain ⟨hg0, hg1, h⟩ := h
    refine E_iald dX9_sendOff_43 sh_1006 hg0 hg1 ?_
    refine E_ic dX9_sendOff_44 rfl ?_
    refine E_iadd dX9_sendOff_45 ?_
    obtain ⟨hg0, hg1, h⟩ := h
    refine E_iast dX9_sendOff_46 sh_1006 hg0 hg1 ?_
    refine E_ic dX9_sendOff_47 rfl ?_
    exact E_zret dX9_sendOff_48 rfl (by decide) ⟨_, rfl, rfl, h⟩
  · have h := Eq.mp (if_pos hc) h
    refine E_ic dX9_sendOff_8 rfl ?_
    exact E_zret dX9_sendOff_9 rfl (by decide) ⟨_, rfl, rfl, h⟩
abbrev Y_X9_canCarry : My := (yX9_canCarry, cX9_canCarry, 3, some .boolean)
theorem dX9_canCarry_0 : decode cX9_canCarry 0 = .ok (.aload_n 0, 1) := by decide +kernel
theorem dX9_canCarry_1 : decode cX9_canCarry 1 = .ok (.getfield 49, 3) := by decide +kernel
theorem dX9_canCarry_4 : decode cX9_canCarry 4 = .ok (.iload_n 1, 1) := by decide +kernel
theorem dX9_canCarry_5 : decode cX9_canCarry 5 = .ok (.invokevirtual 76, 3) := by decide +kernel
theorem dX9_canCarry_8 : decode cX9_canCarry 8 = .ok (.ifCond .eq 37, 3) := by decide +kernel
theorem dX9_canCarry_11 : decode cX9_canCarry 11 = .ok (.aload_n 0, 1) := by decide +kernel
theorem dX9_canCarry_12 : decode cX9_canCarry 12 = .ok (.getfield 49, 3) := by decide +kernel
theorem dX9_canCarry_15 : decode cX9_canCarry 15 = .ok (.iload_n 2, 1) := by decide +kernel
theorem dX9_canCarry_16 : decode cX9_canCarry 16 = .ok (.invokevirtual 87, 3) := by decide +kernel
theorem dX9_canCarry_19 : decode cX9_canCarry 19 = .ok (.ifCond .eq 26, 3) := by decide +kernel
theorem dX9_canCarry_22 : decode cX9_canCarry 22 = .ok (.aload_n 0, 1) := by decide +kernel
theorem dX9_canCarry_23 : decode cX9_canCarry 23 = .ok (.getfield 21, 3) := by decide +kernel
theorem dX9_canCarry_26 : decode cX9_canCarry 26 = .ok (.iload_n 1, 1) := by decide +kernel
theorem dX9_canCarry_27 : decode cX9_canCarry 27 = .ok (.iaload, 1) := by decide +kernel
theorem dX9_canCarry_28 : decode cX9_canCarry 28 = .ok (.ifCond .ne 17, 3) := by decide +kernel
theorem dX9_canCarry_31 : decode cX9_canCarry 31 = .ok (.aload_n 0, 1) := by decide +kernel
theorem dX9_canCarry_32 : decode cX9_canCarry 32 = .ok (.getfield 18, 3) := by decide +kernel
theorem dX9_canCarry_35 : decode cX9_canCarry 35 = .ok (.iload_n 1, 1) := by decide +kernel
theorem dX9_canCarry_36 : decode cX9_canCarry 36 = .ok (.iaload, 1) := by decide +kernel
theorem dX9_canCarry_37 : decode cX9_canCarry 37 = .ok (.iload_n 2, 1) := by decide +kernel
theorem dX9_canCarry_38 : decode cX9_canCarry 38 = .ok (.if_icmp .eq 7, 3) := by decide +kernel
theorem dX9_canCarry_41 : decode cX9_canCarry 41 = .ok (.iconst 1, 1) := by decide +kernel
theorem dX9_canCarry_42 : decode cX9_canCarry 42 = .ok (.goto 4, 3) := by decide +kernel
theorem dX9_canCarry_45 : decode cX9_canCarry 45 = .ok (.iconst 0, 1) := by decide +kernel
theorem dX9_canCarry_46 : decode cX9_canCarry 46 = .ok (.ireturn, 1) := by decide +kernel
theorem lk_RX9_87 : Cond.methodLink RX9 87 yX8_hasCounter ∈ tG := inG (i := 967) (by decide +kernel) (by decide +kernel)
def P_X9_canCarry_J45    (Q : Int → St → Prop) (σ : St) : Prop :=
  Q 0 σ
set_option maxRecDepth 20000 in
set_option maxHeartbeats 2000000 in
theorem e_P_X9_canCarry_J45    {Q : Int → St → Prop} {σ : St}   (h : P_X9_canCarry_J45  Q σ) : E Y_X9_canCarry 1 0 0 (QI Q) ww 0 0 45 [none, none, none] [] σ := by
  unfold P_X9_canCarry_J45 at h
  refine E_ic dX9_canCarry_45 rfl ?_
  exact E_zret dX9_canCarry_46 rfl (by decide) ⟨_, rfl, rfl, h⟩
def P_X9_canCarry  (o0 : Nat) (x1 : Int) (x2 : Int) (σ : St) (Q : Int → St → Prop) : Prop :=
  P_X8_hasBall 0 x1 σ (fun r_2 σ_1 => (if r_2 = 0 then P_X9_canCarry_J45 Q σ_1 else P_X8_hasCounter 0 x2 σ_1 (fun r_4 σ_3 => (if r_4 = 0 then P_X9_canCarry_J45 Q σ_3 else 0 ≤ x1 ∧ x1 < 6 ∧ (if (σ_3 1004 o0 x1) = 0 then 0 ≤ x1 ∧ x1 < 6 ∧ (if (σ_3 1003 o0 x1) = x2 then P_X9_canCarry_J45 Q σ_3 else Q 1 σ_3) else P_X9_canCarry_J45 Q σ_3)))))
set_option maxRecDepth 20000 in
set_option maxHeartbeats 2000000 in
theorem s_X9_canCarry   {o0 : Nat} {x1 : Int} {x2 : Int} {σ : St} {Q : Int → St → Prop} (h : P_X9_canCarry o0 x1 x2 σ Q) : Cn Y_X9_canCarry 1 0 0 ww σ [vR 9 o0, vI x1, vI x2] (QI Q) := by
  refine Cn_of [some (vR 9 o0), some (vI x1), some (vI x2)] (by decide) (Nat.le_of_ble_eq_true rfl) rfl ?_
  unfold P_X9_canCarry at h
  refine E_aload_n dX9_canCarry_0 rfl rfl ?_
  refine E_getr (i := o0) dX9_canCarry_1 fl_RX9_49 rfl rfl (go_9_0 _ _) ?_
  refine E_iload_n dX9_canCarry_4 rfl rfl ?_
  refine E_callV (Y' := Y_X8_hasBall) (as := [vI x1]) (st := []) dX9_canCarry_5 lk_RX9_76 m_X8_hasBall (by decide) (Nat.le_refl _) (Nat.le_refl _) rfl rfl (Nat.le_of_ble_eq_true rfl) (s_X8_hasBall h) (fun r0 B0 σ_1 h => ?_)
  obtain ⟨r_2, rfl, rfl, h⟩ := h
  refine E_if_eq (tgt := 45) dX9_canCarry_8 (by decide) (fun hc => ?_) (fun hc => ?_)
  · have h := Eq.mp (if_pos hc) h
    refine E_wk2 [none, none, none] trivial ?_
    exact e_P_X9_canCarry_J45 h
  · have h := Eq.mp (if_neg hc) h
    refine E_aload_n dX9_canCarry_11 rfl rfl ?_
    refine E_getr (i := o0) dX9_canCarry_12 fl_RX9_49 rfl rfl (go_9_0 _ _) ?_
    refine E_iload_n dX9_canCarry_15 rfl rfl ?_
    refine E_callV (Y' := Y_X8_hasCounter) (as := [vI x2]) (st := []) dX9_canCarry_16 lk_RX9_87 m_X8_hasCounter (by decide) (Nat.le_refl _) (Nat.le_refl _) rfl rfl (Nat.le_of_ble_eq_true rfl) (s_X8_hasCounter h) (fun r0 B0 σ_3 h => ?_)
    obtain ⟨r_4, rfl, rfl, h⟩ := h
    refine E_if_eq (tgt := 45) dX9_canCarry_19 (by decide) (fun hc => ?_) (fun hc => ?_)
    · have h := Eq.mp (if_pos hc) h
      refine E_wk2 [none, none, none] trivial ?_
      exact e_P_X9_canCarry_J45 h
    · have h := Eq.mp (if_neg hc) h
      refine E_aload_n dX9_canCarry_22 rfl rfl ?_
      refine E_getr (i := o0) dX9_canCarry_23 fl_RX9_21 rfl rfl (go_9_4 _ _) ?_
      refine E_iload_n dX9_canCarry_26 rfl rfl ?_
      obtain ⟨hg0, hg1, h⟩ := h
      refine E_iald dX9_canCarry_27 sh_1004 hg0 hg1 ?_
      refine E_if_ne (tgt := 45) dX9_canCarry_28 (by decide) (fun hc => ?_) (fun hc => ?_)
      · have h := Eq.mp (if_neg hc) h
        refine E_wk2 [none, none, none] trivial ?_
        exact e_P_X9_canCarry_J45 h
      · have h := Eq.mp (if_pos hc) h
        refine E_aload_n dX9_canCarry_31 rfl rfl ?_
        refine E_getr (i := o0) dX9_canCarry_32 fl_RX9_18 rfl rfl (go_9_3 _ _) ?_
        refine E_iload_n dX9_canCarry_35 rfl rfl ?_
        obtain ⟨hg0, hg1, h⟩ := h
        refine E_iald dX9_canCarry_36 sh_1003 hg0 hg1 ?_
        refine E_iload_n dX9_canCarry_37 rfl rfl ?_
        refine E_icmp_eq (tgt := 45) dX9_canCarry_38 (by decide) (fun hc => ?_) (fun hc => ?_)
        · have h := Eq.mp (if_pos hc) h
          refine E_wk2 [none, none, none] trivial ?_
          exact e_P_X9_canCarry_J45 h
        · have h := Eq.mp (if_neg hc) h
          refine E_ic dX9_canCarry_41 rfl ?_
          refine E_goto (tgt := 46) dX9_canCarry_42 (by decide) ?_
          exact E_zret dX9_canCarry_46 rfl (by decide) ⟨_, rfl, rfl, h⟩
abbrev Y_X9_carryTo : My := (yX9_carryTo, cX9_carryTo, 3, some .boolean)
theorem dX9_carryTo_0 : decode cX9_carryTo 0 = .ok (.aload_n 0, 1) := by decide +kernel
theorem dX9_carryTo_1 : decode cX9_carryTo 1 = .ok (.iload_n 1, 1) := by decide +kernel
theorem dX9_carryTo_2 : decode cX9_carryTo 2 = .ok (.iload_n 2, 1) := by decide +kernel
theorem dX9_carryTo_3 : decode cX9_carryTo 3 = .ok (.invokevirtual 98, 3) := by decide +kernel
theorem dX9_carryTo_6 : decode cX9_carryTo 6 = .ok (.ifCond .ne 5, 3) := by decide +kernel
theorem dX9_carryTo_9 : decode cX9_carryTo 9 = .ok (.iconst 0, 1) := by decide +kernel
theorem dX9_carryTo_10 : decode cX9_carryTo 10 = .ok (.ireturn, 1) := by decide +kernel
theorem dX9_carryTo_11 : decode cX9_carryTo 11 = .ok (.aload_n 0, 1) := by decide +kernel
theorem dX9_carryTo_12 : decode cX9_carryTo 12 = .ok (.getfield 18, 3) := by decide +kernel
theorem dX9_carryTo_15 : decode cX9_carryTo 15 = .ok (.iload_n 1, 1) := by decide +kernel
theorem dX9_carryTo_16 : decode cX9_carryTo 16 = .ok (.iload_n 2, 1) := by decide +kernel
theorem dX9_carryTo_17 : decode cX9_carryTo 17 = .ok (.iastore, 1) := by decide +kernel
theorem dX9_carryTo_18 : decode cX9_carryTo 18 = .ok (.iconst 1, 1) := by decide +kernel
theorem dX9_carryTo_19 : decode cX9_carryTo 19 = .ok (.ireturn, 1) := by decide +kernel
theorem lk_RX9_98 : Cond.methodLink RX9 98 yX9_canCarry ∈ tG := inG (i := 986) (by decide +kernel) (by decide +kernel)
theorem m_X9_canCarry : MV Y_X9_canCarry 2 9 := ⟨⟨inG (i := 981) (by decide +kernel) (by decide +kernel), inG (i := 104) (by decide +kernel) (by decide +kernel), by decide, by decide, by decide, by decide +kernel⟩, inG (i := 979) (by decide +kernel) (by decide +kernel), inG (i := 980) (by decide +kernel) (by decide +kernel), by decide⟩
def P_X9_carryTo  (o0 : Nat) (x1 : Int) (x2 : Int) (σ : St) (Q : Int → St → Prop) : Prop :=
  P_X9_canCarry o0 x1 x2 σ (fun r_2 σ_1 => (if r_2 = 0 then Q 0 σ_1 else 0 ≤ x1 ∧ x1 < 6 ∧ Q 1 (up σ_1 1003 o0 x1 x2)))
set_option maxRecDepth 20000 in
set_option maxHeartbeats 2000000 in
theorem s_X9_carryTo   {o0 : Nat} {x1 : Int} {x2 : Int} {σ : St} {Q : Int → St → Prop} (h : P_X9_carryTo o0 x1 x2 σ Q) : Cn Y_X9_carryTo 2 0 0 ww σ [vR 9 o0, vI x1, vI x2] (QI Q) := by
  refine Cn_of [some (vR 9 o0), some (vI x1), some (vI x2)] (by decide) (Nat.le_of_ble_eq_true rfl) rfl ?_
  unfold P_X9_carryTo at h
  refine E_aload_n dX9_carryTo_0 rfl rfl ?_
  refine E_iload_n dX9_carryTo_1 rfl rfl ?_
  refine E_iload_n dX9_carryTo_2 rfl rfl ?_
  refine E_callV (Y' := Y_X9_canCarry) (as := [vI x1, vI x2]) (st := []) dX9_carryTo_3 lk_RX9_98 m_X9_canCarry (by decide) (Nat.le_refl _) (Nat.le_refl _) rfl rfl (Nat.le_of_ble_eq_true rfl) (s_X9_canCarry h) (fun r0 B0 σ_1 h => ?_)
  obtain ⟨r_2, rfl, rfl, h⟩ := h
  refine E_if_ne (tgt := 11) dX9_carryTo_6 (by decide) (fun hc => ?_) (fun hc => ?_)
  · have h := Eq.mp (if_neg hc) h
    refine E_aload_n dX9_carryTo_11 rfl rfl ?_
    refine E_getr (i := o0) dX9_carryTo_12 fl_RX9_18 rfl rfl (go_9_3 _ _) ?_
    refine E_iload_n dX9_carryTo_15 rfl rfl ?_
    refine E_iload_n dX9_carryTo_16 rfl rfl ?_
    obtain ⟨hg0, hg1, h⟩ := h
    refine E_iast dX9_carryTo_17 sh_1003 hg0 hg1 ?_
    refine E_ic dX9_carryTo_18 rfl ?_
    exact E_zret dX9_carryTo_19 rfl (by decide) ⟨_, rfl, rfl, h⟩
  · have h := Eq.mp (if_pos hc) h
    refine E_ic dX9_carryTo_9 rfl ?_
    exact E_zret dX9_carryTo_10 rfl (by decide) ⟨_, rfl, rfl, h⟩
abbrev Y_X9_comeBack : My := (yX9_comeBack, cX9_comeBack, 3, some .int)
theorem dX9_comeBack_0 : decode cX9_comeBack 0 = .ok (.iconst 0, 1) := by decide +kernel
theorem dX9_comeBack_1 : decode cX9_comeBack 1 = .ok (.istore_n 1, 1) := by decide +kernel
theorem dX9_comeBack_2 : decode cX9_comeBack 2 = .ok (.iconst 0, 1) := by decide +kernel
theorem dX9_comeBack_3 : decode cX9_comeBack 3 = .ok (.istore_n 2, 1) := by decide +kernel
theorem dX9_comeBack_4 : decode cX9_comeBack 4 = .ok (.iload_n 2, 1) := by decide +kernel
theorem dX9_comeBack_5 : decode cX9_comeBack 5 = .ok (.aload_n 0, 1) := by decide +kernel
theorem dX9_comeBack_6 : decode cX9_comeBack 6 = .ok (.getfield 49, 3) := by decide +kernel
theorem dX9_comeBack_9 : decode cX9_comeBack 9 = .ok (.getfield 59, 3) := by decide +kernel
theorem dX9_comeBack_12 : decode cX9_comeBack 12 = .ok (.if_icmp .ge 83, 3) := by decide +kernel
theorem dX9_comeBack_15 : decode cX9_comeBack 15 = .ok (.aload_n 0, 1) := by decide +kernel
theorem dX9_comeBack_16 : decode cX9_comeBack 16 = .ok (.getfield 21, 3) := by decide +kernel
theorem dX9_comeBack_19 : decode cX9_comeBack 19 = .ok (.iload_n 2, 1) := by decide +kernel
theorem dX9_comeBack_20 : decode cX9_comeBack 20 = .ok (.iaload, 1) := by decide +kernel
theorem dX9_comeBack_21 : decode cX9_comeBack 21 = .ok (.iconst 3, 1) := by decide +kernel
theorem dX9_comeBack_22 : decode cX9_comeBack 22 = .ok (.if_icmp .ne 67, 3) := by decide +kernel
theorem dX9_comeBack_25 : decode cX9_comeBack 25 = .ok (.aload_n 0, 1) := by decide +kernel
theorem dX9_comeBack_26 : decode cX9_comeBack 26 = .ok (.getfield 24, 3) := by decide +kernel
theorem dX9_comeBack_29 : decode cX9_comeBack 29 = .ok (.iload_n 2, 1) := by decide +kernel
theorem dX9_comeBack_30 : decode cX9_comeBack 30 = .ok (.dup2, 1) := by decide +kernel
theorem dX9_comeBack_31 : decode cX9_comeBack 31 = .ok (.iaload, 1) := by decide +kernel
theorem dX9_comeBack_32 : decode cX9_comeBack 32 = .ok (.iconst 1, 1) := by decide +kernel
theorem dX9_comeBack_33 : decode cX9_comeBack 33 = .ok (.isub, 1) := by decide +kernel
theorem dX9_comeBack_34 : decode cX9_comeBack 34 = .ok (.iastore, 1) := by decide +kernel
theorem dX9_comeBack_35 : decode cX9_comeBack 35 = .ok (.aload_n 0, 1) := by decide +kernel
theorem dX9_comeBack_36 : decode cX9_comeBack 36 = .ok (.getfield 24, 3) := by decide +kernel
theorem dX9_comeBack_39 : decode cX9_comeBack 39 = .ok (.iload_n 2, 1) := by decide +kernel
theorem dX9_comeBack_40 : decode cX9_comeBack 40 = .ok (.iaload, 1) := by decide +kernel
theorem dX9_comeBack_41 : decode cX9_comeBack 41 = .ok (.ifCond .gt 48, 3) := by decide +kernel
theorem dX9_comeBack_44 : decode cX9_comeBack 44 = .ok (.aload_n 0, 1) := by decide +kernel
theorem dX9_comeBack_45 : decode cX9_comeBack 45 = .ok (.getfield 21, 3) := by decide +kernel
theorem dX9_comeBack_48 : decode cX9_comeBack 48 = .ok (.iload_n 2, 1) := by decide +kernel
theorem dX9_comeBack_49 : decode cX9_comeBack 49 = .ok (.iconst 0, 1) := by decide +kernel
theorem dX9_comeBack_50 : decode cX9_comeBack 50 = .ok (.iastore, 1) := by decide +kernel
theorem dX9_comeBack_51 : decode cX9_comeBack 51 = .ok (.iload_n 1, 1) := by decide +kernel
theorem dX9_comeBack_52 : decode cX9_comeBack 52 = .ok (.iconst 1, 1) := by decide +kernel
theorem dX9_comeBack_53 : decode cX9_comeBack 53 = .ok (.iload_n 2, 1) := by decide +kernel
theorem dX9_comeBack_54 : decode cX9_comeBack 54 = .ok (.ishl, 1) := by decide +kernel
theorem dX9_comeBack_55 : decode cX9_comeBack 55 = .ok (.ior, 1) := by decide +kernel
theorem dX9_comeBack_56 : decode cX9_comeBack 56 = .ok (.istore_n 1, 1) := by decide +kernel
theorem dX9_comeBack_57 : decode cX9_comeBack 57 = .ok (.aload_n 0, 1) := by decide +kernel
theorem dX9_comeBack_58 : decode cX9_comeBack 58 = .ok (.dup, 1) := by decide +kernel
theorem dX9_comeBack_59 : decode cX9_comeBack 59 = .ok (.getfield 46, 3) := by decide +kernel
theorem dX9_comeBack_62 : decode cX9_comeBack 62 = .ok (.aload_n 0, 1) := by decide +kernel
theorem dX9_comeBack_63 : decode cX9_comeBack 63 = .ok (.getfield 18, 3) := by decide +kernel
theorem dX9_comeBack_66 : decode cX9_comeBack 66 = .ok (.iload_n 2, 1) := by decide +kernel
theorem dX9_comeBack_67 : decode cX9_comeBack 67 = .ok (.iaload, 1) := by decide +kernel
theorem dX9_comeBack_68 : decode cX9_comeBack 68 = .ok (.aload_n 0, 1) := by decide +kernel
theorem dX9_comeBack_69 : decode cX9_comeBack 69 = .ok (.getfield 49, 3) := by decide +kernel
theorem dX9_comeBack_72 : decode cX9_comeBack 72 = .ok (.getfield 63, 3) := by decide +kernel
theorem dX9_comeBack_75 : decode cX9_comeBack 75 = .ok (.iload_n 2, 1) := by decide +kernel
theorem dX9_comeBack_76 : decode cX9_comeBack 76 = .ok (.iaload, 1) := by decide +kernel
theorem dX9_comeBack_77 : decode cX9_comeBack 77 = .ok (.if_icmp .eq 7, 3) := by decide +kernel
theorem dX9_comeBack_80 : decode cX9_comeBack 80 = .ok (.iconst 1, 1) := by decide +kernel
theorem dX9_comeBack_81 : decode cX9_comeBack 81 = .ok (.goto 4, 3) := by decide +kernel
theorem dX9_comeBack_84 : decode cX9_comeBack 84 = .ok (.iconst 0, 1) := by decide +kernel
theorem dX9_comeBack_85 : decode cX9_comeBack 85 = .ok (.iadd, 1) := by decide +kernel
theorem dX9_comeBack_86 : decode cX9_comeBack 86 = .ok (.putfield 46, 3) := by decide +kernel
theorem dX9_comeBack_89 : decode cX9_comeBack 89 = .ok (.iinc 2 1, 3) := by decide +kernel
theorem dX9_comeBack_92 : decode cX9_comeBack 92 = .ok (.goto (-88), 3) := by decide +kernel
theorem dX9_comeBack_95 : decode cX9_comeBack 95 = .ok (.iload_n 1, 1) := by decide +kernel
theorem dX9_comeBack_96 : decode cX9_comeBack 96 = .ok (.ireturn, 1) := by decide +kernel
def P_X9_comeBack_J85  (o0 : Nat) (x1 : Int) (x2 : Int) (y0 : Int) (y1 : Int) (q2 : Nat) (R : Int → Int → St → Prop) (Q : Int → St → Prop) (σ : St) : Prop :=
  R x1 (wi (x2 + 1)) (up σ 9 q2 12 (wi (y1 + y0)))
set_option maxRecDepth 20000 in
set_option maxHeartbeats 2000000 in
theorem e_P_X9_comeBack_J85  {o0 : Nat} {x1 : Int} {x2 : Int} {y0 : Int} {y1 : Int} {q2 : Nat} {R : Int → Int → St → Prop} {Q : Int → St → Prop} {σ : St}  (hR : ∀ x1 x2 σ, R x1 x2 σ → E Y_X9_comeBack 0 0 0 (QI Q) ww 0 0 4 [some (vR 9 o0), some (vI x1), some (vI x2)] [] σ) (h : P_X9_comeBack_J85 o0 x1 x2 y0 y1 q2 R Q σ) : E Y_X9_comeBack 0 0 0 (QI Q) ww 0 0 85 [some (vR 9 o0), some (vI x1), some (vI x2)] [vI y0, vI y1, vR 9 q2] σ := by
  unfold P_X9_comeBack_J85 at h
  refine E_iadd dX9_comeBack_85 ?_
  refine E_puti dX9_comeBack_86 fl_RX9_46 rfl rfl rfl ?_
  refine E_iinc (ls' := [some (vR 9 o0), some (vI x1), some (vI (wi (x2 + 1)))]) dX9_comeBack_89 rfl (by decide) rfl rfl ?_
  refine E_goto (tgt := 4) dX9_comeBack_92 (by decide) ?_
  exact hR _ _ _ h
def P_X9_comeBack_L4  (o0 : Nat)  (Q : Int → St → Prop) : Nat → Int → Int → St → Prop
  | 0, _, _, _ => False
  | n + 1, x1, x2, σ => (if (σ 8 0 11) ≤ x2 then Q x1 σ else 0 ≤ x2 ∧ x2 < 6 ∧ (if (σ 1004 o0 x2) = 3 then 0 ≤ x2 ∧ x2 < 6 ∧ 0 ≤ x2 ∧ x2 < 6 ∧ 0 ≤ x2 ∧ x2 < 6 ∧ (if 0 < ((up σ 1005 o0 x2 (wi ((σ 1005 o0 x2) - 1))) 1005 o0 x2) then (P_X9_comeBack_L4 o0 Q n) x1 (wi (x2 + 1)) (up σ 1005 o0 x2 (wi ((σ 1005 o0 x2) - 1))) else 0 ≤ x2 ∧ x2 < 6 ∧ 0 ≤ x2 ∧ x2 < 6 ∧ 0 ≤ x2 ∧ x2 < 6 ∧ (if ((up (up σ 1005 o0 x2 (wi ((σ 1005 o0 x2) - 1))) 1004 o0 x2 0) 1003 o0 x2) = ((up (up σ 1005 o0 x2 (wi ((σ 1005 o0 x2) - 1))) 1004 o0 x2 0) 906 0 x2) then P_X9_comeBack_J85 o0 (bO x1 (bL 1 x2)) x2 0 ((up (up σ 1005 o0 x2 (wi ((σ 1005 o0 x2) - 1))) 1004 o0 x2 0) 9 o0 12) o0 (P_X9_comeBack_L4 o0 Q n) Q (up (up σ 1005 o0 x2 (wi ((σ 1005 o0 x2) - 1))) 1004 o0 x2 0) else P_X9_comeBack_J85 o0 (bO x1 (bL 1 x2)) x2 1 ((up (up σ 1005 o0 x2 (wi ((σ 1005 o0 x2) - 1))) 1004 o0 x2 0) 9 o0 12) o0 (P_X9_comeBack_L4 o0 Q n) Q (up (up σ 1005 o0 x2 (wi ((σ 1005 o0 x2) - 1))) 1004 o0 x2 0))) else (P_X9_comeBack_L4 o0 Q n) x1 (wi (x2 + 1)) σ))
set_option maxRecDepth 20000 in
set_option maxHeartbeats 2000000 in
theorem e_P_X9_comeBack_L4  {o0 : Nat}  {Q : Int → St → Prop}   : ∀ (n : Nat) (x1 : Int) (x2 : Int) (σ : St), P_X9_comeBack_L4 o0 Q n x1 x2 σ → E Y_X9_comeBack 0 0 0 (QI Q) ww 0 0 4 [some (vR 9 o0), some (vI x1), some (vI x2)] [] σ := by
  intro n
  induction n with
  | zero => intro x1 x2 σ h; exact h.elim
  | succ n hR =>
    intro x1 x2 σ h
    unfold P_X9_comeBack_L4 at h
    refine E_iload_n dX9_comeBack_4 rfl rfl ?_
    refine E_aload_n dX9_comeBack_5 rfl rfl ?_
    refine E_getr (i := o0) dX9_comeBack_6 fl_RX9_49 rfl rfl (go_9_0 _ _) ?_
    refine E_geti (i := 0) dX9_comeBack_9 fl_RX9_59 rfl ?_
    refine E_icmp_ge (tgt := 95) dX9_comeBack_12 (by decide) (fun hc => ?_) (fun hc => ?_)
    · have h := Eq.mp (if_pos hc) h
      refine E_iload_n dX9_comeBack_95 rfl rfl ?_
      exact E_iret dX9_comeBack_96 rfl ⟨_, rfl, rfl, h⟩
    · have h := Eq.mp (if_neg hc) h
      refine E_aload_n dX9_comeBack_15 rfl rfl ?_
      refine E_getr (i := o0) dX9_comeBack_16 fl_RX9_21 rfl rfl (go_9_4 _ _) ?_
      refine E_iload_n dX9_comeBack_19 rfl rfl ?_
      obtain ⟨hg0, hg1, h⟩ := h
      refine E_iald dX9_comeBack_20 sh_1004 hg0 hg1 ?_
      refine E_ic dX9_comeBack_21 rfl ?_
      refine E_icmp_ne (tgt := 89) dX9_comeBack_22 (by decide) (fun hc => ?_) (fun hc => ?_)
      · have h := Eq.mp (if_neg hc) h
        refine E_iinc (ls' := [some (vR 9 o0), some (vI x1), some (vI (wi (x2 + 1)))]) dX9_comeBack_89 rfl (by decide) rfl rfl ?_
        refine E_goto (tgt := 4) dX9_comeBack_92 (by decide) ?_
        exact hR _ _ _ h
      · have h := Eq.mp (if_pos hc) h
        refine E_aload_n dX9_comeBack_25 rfl rfl ?_
        refine E_getr (i := o0) dX9_comeBack_26 fl_RX9_24 rfl rfl (go_9_5 _ _) ?_
        refine E_iload_n dX9_comeBack_29 rfl rfl ?_
        refine E_dup2 dX9_comeBack_30 (fun _ q => by cases q) (fun _ q => by cases q) ?_
        obtain ⟨hg0, hg1, h⟩ := h
        refine E_iald dX9_comeBack_31 sh_1005 hg0 hg1 ?_
        refine E_ic dX9_comeBack_32 rfl ?_
        refine E_isub dX9_comeBack_33 ?_
        obtain ⟨hg0, hg1, h⟩ := h
        refine E_iast dX9_comeBack_34 sh_1005 hg0 hg1 ?_
        refine E_aload_n dX9_comeBack_35 rfl rfl ?_
        refine E_getr (i := o0) dX9_comeBack_36 fl_RX9_24 rfl rfl (go_9_5 _ _) ?_
        refine E_iload_n dX9_comeBack_39 rfl rfl ?_
        obtain ⟨hg0, hg1, h⟩ := h
        refine E_iald dX9_comeBack_40 sh_1005 hg0 hg1 ?_
        refine E_if_gt (tgt := 89) dX9_comeBack_41 (by decide) (fun hc => ?_) (fun hc => ?_)
        · have h := Eq.mp (if_pos hc) h
          refine E_iinc (ls' := [some (vR 9 o0), some (vI x1), some (vI (wi (x2 + 1)))]) dX9_comeBack_89 rfl (by decide) rfl rfl ?_
          refine E_goto (tgt := 4) dX9_comeBack_92 (by decide) ?_
          exact hR _ _ _ h
        · have h := Eq.mp (if_neg hc) h
          refine E_aload_n dX9_comeBack_44 rfl rfl ?_
          refine E_getr (i := o0) dX9_comeBack_45 fl_RX9_21 rfl rfl (go_9_4 _ _) ?_
          refine E_iload_n dX9_comeBack_48 rfl rfl ?_
          refine E_ic dX9_comeBack_49 rfl ?_
          obtain ⟨hg0, hg1, h⟩ := h
          refine E_iast dX9_comeBack_50 sh_1004 hg0 hg1 ?_
          refine E_iload_n dX9_comeBack_51 rfl rfl ?_
          refine E_ic dX9_comeBack_52 rfl ?_
          refine E_iload_n dX9_comeBack_53 rfl rfl ?_
          refine E_ishl dX9_comeBack_54 ?_
          refine E_ior dX9_comeBack_55 ?_
          refine E_istore_n (ls' := [some (vR 9 o0), some (vI (bO x1 (bL 1 x2))), some (vI x2)]) dX9_comeBack_56 rfl (by decide) rfl ?_
          refine E_aload_n dX9_comeBack_57 rfl rfl ?_
          refine E_dup dX9_comeBack_58 (fun _ q => by cases q) ?_
          refine E_geti (i := o0) dX9_comeBack_59 fl_RX9_46 rfl ?_
          refine E_aload_n dX9_comeBack_62 rfl rfl ?_
          refine E_getr (i := o0) dX9_comeBack_63 fl_RX9_18 rfl rfl (go_9_3 _ _) ?_
          refine E_iload_n dX9_comeBack_66 rfl rfl ?_
          obtain ⟨hg0, hg1, h⟩ := h
          refine E_iald dX9_comeBack_67 sh_1003 hg0 hg1 ?_
          refine E_aload_n dX9_comeBack_68 rfl rfl ?_
          refine E_getr (i := o0) dX9_comeBack_69 fl_RX9_49 rfl rfl (go_9_0 _ _) ?_
          refine E_getr (i := 0) dX9_comeBack_72 fl_RX9_63 rfl rfl (go_8_6 _ _) ?_
          refine E_iload_n dX9_comeBack_75 rfl rfl ?_
          obtain ⟨hg0, hg1, h⟩ := h
          refine E_iald dX9_comeBack_76 sh_906 hg0 hg1 ?_
          refine E_icmp_eq (tgt := 84) dX9_comeBack_77 (by decide) (fun hc => ?_) (fun hc => ?_)
          · have h := Eq.mp (if_pos hc) h
            refine E_ic dX9_comeBack_84 rfl ?_
            exact e_P_X9_comeBack_J85 hR h
          · have h := Eq.mp (if_neg hc) h
            refine E_ic dX9_comeBack_80 rfl ?_
            refine E_goto (tgt := 85) dX9_comeBack_81 (by decide) ?_
            exact e_P_X9_comeBack_J85 hR h
def P_X9_comeBack  (o0 : Nat) (σ : St) (Q : Int → St → Prop) : Prop :=
  P_X9_comeBack_L4 o0 Q FU 0 0 σ
set_option maxRecDepth 20000 in
set_option maxHeartbeats 2000000 in
theorem s_X9_comeBack   {o0 : Nat} {σ : St} {Q : Int → St → Prop} (h : P_X9_comeBack o0 σ Q) : Cn Y_X9_comeBack 0 0 0 ww σ [vR 9 o0] (QI Q) := by
  refine Cn_of [some (vR 9 o0), none, none] (by decide) (Nat.le_of_ble_eq_true rfl) rfl ?_
  unfold P_X9_comeBack at h
  refine E_ic dX9_comeBack_0 rfl ?_
  refine E_istore_n (ls' := [some (vR 9 o0), some (vI 0), none]) dX9_comeBack_1 rfl (by decide) rfl ?_
  refine E_ic dX9_comeBack_2 rfl ?_
  refine E_istore_n (ls' := [some (vR 9 o0), some (vI 0), some (vI 0)]) dX9_comeBack_3 rfl (by decide) rfl ?_
  refine e_P_X9_comeBack_L4  _ _ _ _ h
abbrev Y_X9_serve : My := (yX9_serve, cX9_serve, 3, none)
theorem dX9_serve_0 : decode cX9_serve 0 = .ok (.aload_n 0, 1) := by decide +kernel
theorem dX9_serve_1 : decode cX9_serve 1 = .ok (.getfield 33, 3) := by decide +kernel
theorem dX9_serve_4 : decode cX9_serve 4 = .ok (.ifCond .ne 4, 3) := by decide +kernel
theorem dX9_serve_7 : decode cX9_serve 7 = .ok (.return_, 1) := by decide +kernel
theorem dX9_serve_8 : decode cX9_serve 8 = .ok (.aload_n 0, 1) := by decide +kernel
theorem dX9_serve_9 : decode cX9_serve 9 = .ok (.dup, 1) := by decide +kernel
theorem dX9_serve_10 : decode cX9_serve 10 = .ok (.getfield 37, 3) := by decide +kernel
theorem dX9_serve_13 : decode cX9_serve 13 = .ok (.iconst 1, 1) := by decide +kernel
theorem dX9_serve_14 : decode cX9_serve 14 = .ok (.iadd, 1) := by decide +kernel
theorem dX9_serve_15 : decode cX9_serve 15 = .ok (.putfield 37, 3) := by decide +kernel
theorem dX9_serve_18 : decode cX9_serve 18 = .ok (.aload_n 0, 1) := by decide +kernel
theorem dX9_serve_19 : decode cX9_serve 19 = .ok (.getfield 37, 3) := by decide +kernel
theorem dX9_serve_22 : decode cX9_serve 22 = .ok (.aload_n 0, 1) := by decide +kernel
theorem dX9_serve_23 : decode cX9_serve 23 = .ok (.getfield 49, 3) := by decide +kernel
theorem dX9_serve_26 : decode cX9_serve 26 = .ok (.getfield 111, 3) := by decide +kernel
theorem dX9_serve_29 : decode cX9_serve 29 = .ok (.if_icmp .ge 4, 3) := by decide +kernel
theorem dX9_serve_32 : decode cX9_serve 32 = .ok (.return_, 1) := by decide +kernel
theorem dX9_serve_33 : decode cX9_serve 33 = .ok (.aload_n 0, 1) := by decide +kernel
theorem dX9_serve_34 : decode cX9_serve 34 = .ok (.getfield 30, 3) := by decide +kernel
theorem dX9_serve_37 : decode cX9_serve 37 = .ok (.iconst 0, 1) := by decide +kernel
theorem dX9_serve_38 : decode cX9_serve 38 = .ok (.iaload, 1) := by decide +kernel
theorem dX9_serve_39 : decode cX9_serve 39 = .ok (.istore_n 1, 1) := by decide +kernel
theorem dX9_serve_40 : decode cX9_serve 40 = .ok (.iconst 1, 1) := by decide +kernel
theorem dX9_serve_41 : decode cX9_serve 41 = .ok (.istore_n 2, 1) := by decide +kernel
theorem dX9_serve_42 : decode cX9_serve 42 = .ok (.iload_n 2, 1) := by decide +kernel
theorem dX9_serve_43 : decode cX9_serve 43 = .ok (.aload_n 0, 1) := by decide +kernel
theorem dX9_serve_44 : decode cX9_serve 44 = .ok (.getfield 33, 3) := by decide +kernel
theorem dX9_serve_47 : decode cX9_serve 47 = .ok (.if_icmp .ge 23, 3) := by decide +kernel
theorem dX9_serve_50 : decode cX9_serve 50 = .ok (.aload_n 0, 1) := by decide +kernel
theorem dX9_serve_51 : decode cX9_serve 51 = .ok (.getfield 30, 3) := by decide +kernel
theorem dX9_serve_54 : decode cX9_serve 54 = .ok (.iload_n 2, 1) := by decide +kernel
theorem dX9_serve_55 : decode cX9_serve 55 = .ok (.iconst 1, 1) := by decide +kernel
theorem dX9_serve_56 : decode cX9_serve 56 = .ok (.isub, 1) := by decide +kernel
theorem dX9_serve_57 : decode cX9_serve 57 = .ok (.aload_n 0, 1) := by decide +kernel
theorem dX9_serve_58 : decode cX9_serve 58 = .ok (.getfield 30, 3) := by decide +kernel
theorem dX9_serve_61 : decode cX9_serve 61 = .ok (.iload_n 2, 1) := by decide +kernel
theorem dX9_serve_62 : decode cX9_serve 62 = .ok (.iaload, 1) := by decide +kernel
theorem dX9_serve_63 : decode cX9_serve 63 = .ok (.iastore, 1) := by decide +kernel
theorem dX9_serve_64 : decode cX9_serve 64 = .ok (.iinc 2 1, 3) := by decide +kernel
theorem dX9_serve_67 : decode cX9_serve 67 = .ok (.goto (-25), 3) := by decide +kernel
theorem dX9_serve_70 : decode cX9_serve 70 = .ok (.aload_n 0, 1) := by decide +kernel
theorem dX9_serve_71 : decode cX9_serve 71 = .ok (.dup, 1) := by decide +kernel
theorem dX9_serve_72 : decode cX9_serve 72 = .ok (.getfield 33, 3) := by decide +kernel
theorem dX9_serve_75 : decode cX9_serve 75 = .ok (.iconst 1, 1) := by decide +kernel
theorem dX9_serve_76 : decode cX9_serve 76 = .ok (.isub, 1) := by decide +kernel
theorem dX9_serve_77 : decode cX9_serve 77 = .ok (.putfield 33, 3) := by decide +kernel
theorem dX9_serve_80 : decode cX9_serve 80 = .ok (.aload_n 0, 1) := by decide +kernel
theorem dX9_serve_81 : decode cX9_serve 81 = .ok (.iconst 0, 1) := by decide +kernel
theorem dX9_serve_82 : decode cX9_serve 82 = .ok (.putfield 37, 3) := by decide +kernel
theorem dX9_serve_85 : decode cX9_serve 85 = .ok (.aload_n 0, 1) := by decide +kernel
theorem dX9_serve_86 : decode cX9_serve 86 = .ok (.getfield 21, 3) := by decide +kernel
theorem dX9_serve_89 : decode cX9_serve 89 = .ok (.iload_n 1, 1) := by decide +kernel
theorem dX9_serve_90 : decode cX9_serve 90 = .ok (.iconst 3, 1) := by decide +kernel
theorem dX9_serve_91 : decode cX9_serve 91 = .ok (.iastore, 1) := by decide +kernel
theorem dX9_serve_92 : decode cX9_serve 92 = .ok (.aload_n 0, 1) := by decide +kernel
theorem dX9_serve_93 : decode cX9_serve 93 = .ok (.getfield 18, 3) := by decide +kernel
theorem dX9_serve_96 : decode cX9_serve 96 = .ok (.iload_n 1, 1) := by decide +kernel
theorem dX9_serve_97 : decode cX9_serve 97 = .ok (.aload_n 0, 1) := by decide +kernel
theorem dX9_serve_98 : decode cX9_serve 98 = .ok (.iload_n 1, 1) := by decide +kernel
theorem dX9_serve_99 : decode cX9_serve 99 = .ok (.invokevirtual 114, 3) := by decide +kernel
theorem dX9_serve_102 : decode cX9_serve 102 = .ok (.iastore, 1) := by decide +kernel
theorem dX9_serve_103 : decode cX9_serve 103 = .ok (.aload_n 0, 1) := by decide +kernel
theorem dX9_serve_104 : decode cX9_serve 104 = .ok (.getfield 24, 3) := by decide +kernel
theorem dX9_serve_107 : decode cX9_serve 107 = .ok (.iload_n 1, 1) := by decide +kernel
theorem dX9_serve_108 : decode cX9_serve 108 = .ok (.aload_n 0, 1) := by decide +kernel
theorem dX9_serve_109 : decode cX9_serve 109 = .ok (.getfield 49, 3) := by decide +kernel
theorem dX9_serve_112 : decode cX9_serve 112 = .ok (.iload_n 1, 1) := by decide +kernel
theorem dX9_serve_113 : decode cX9_serve 113 = .ok (.aload_n 0, 1) := by decide +kernel
theorem dX9_serve_114 : decode cX9_serve 114 = .ok (.getfield 18, 3) := by decide +kernel
theorem dX9_serve_117 : decode cX9_serve 117 = .ok (.iload_n 1, 1) := by decide +kernel
theorem dX9_serve_118 : decode cX9_serve 118 = .ok (.iaload, 1) := by decide +kernel
theorem dX9_serve_119 : decode cX9_serve 119 = .ok (.invokevirtual 83, 3) := by decide +kernel
theorem dX9_serve_122 : decode cX9_serve 122 = .ok (.iastore, 1) := by decide +kernel
theorem dX9_serve_123 : decode cX9_serve 123 = .ok (.return_, 1) := by decide +kernel
theorem fl_RX9_111 : FL RX9 111 8 13 := ⟨inG (i := 229) (by decide +kernel) (by decide +kernel), by decide, by decide⟩
theorem lk_RX9_114 : Cond.methodLink RX9 114 yX9_fallOf ∈ tG := inG (i := 947) (by decide +kernel) (by decide +kernel)
theorem m_X9_fallOf : MV Y_X9_fallOf 1 9 := ⟨⟨inG (i := 950) (by decide +kernel) (by decide +kernel), inG (i := 104) (by decide +kernel) (by decide +kernel), by decide, by decide, by decide, by decide +kernel⟩, inG (i := 948) (by decide +kernel) (by decide +kernel), inG (i := 949) (by decide +kernel) (by decide +kernel), by decide⟩
def P_X9_serve_L42  (o0 : Nat) (x1 : Int) (K : St → Prop) (Q : St → Prop) : Nat → Int → St → Prop
  | 0, _, _ => False
  | n + 1, x2, σ => (if (σ 9 o0 8) ≤ x2 then K σ else 0 ≤ x2 ∧ x2 < 6 ∧ 0 ≤ wi (x2 - 1) ∧ wi (x2 - 1) < 6 ∧ (P_X9_serve_L42 o0 x1 K Q n) (wi (x2 + 1)) (up σ 1007 o0 (wi (x2 - 1)) (σ 1007 o0 x2)))
set_option maxRecDepth 20000 in
set_option maxHeartbeats 2000000 in
theorem e_P_X9_serve_L42  {o0 : Nat} {x1 : Int} {K : St → Prop} {Q : St → Prop}  (hK : ∀ σ, K σ → E Y_X9_serve 2 0 0 (QV Q) ww 0 0 70 [some (vR 9 o0), some (vI x1), none] [] σ) : ∀ (n : Nat) (x2 : Int) (σ : St), P_X9_serve_L42 o0 x1 K Q n x2 σ → E Y_X9_serve 2 0 0 (QV Q) ww 0 0 42 [some (vR 9 o0), some (vI x1), some (vI x2)] [] σ := by
  intro n
  induction n with
  | zero => intro x2 σ h; exact h.elim
  | succ n hR =>
    intro x2 σ h
    unfold P_X9_serve_L42 at h
    refine E_iload_n dX9_serve_42 rfl rfl ?_
    refine E_aload_n dX9_serve_43 rfl rfl ?_
    refine E_geti (i := o0) dX9_serve_44 fl_RX9_33 rfl ?_
    refine E_icmp_ge (tgt := 70) dX9_serve_47 (by decide) (fun hc => ?_) (fun hc => ?_)
    · have h := Eq.mp (if_pos hc) h
      refine E_wk2 [some (vR 9 o0), some (vI x1), none] ⟨rfl, ⟨rfl, trivial⟩⟩ ?_
      exact hK _ h
    · have h := Eq.mp (if_neg hc) h
      refine E_aload_n dX9_serve_50 rfl rfl ?_
      refine E_getr (i := o0) dX9_serve_51 fl_RX9_30 rfl rfl (go_9_7 _ _) ?_
      refine E_iload_n dX9_serve_54 rfl rfl ?_
      refine E_ic dX9_serve_55 rfl ?_
      refine E_isub dX9_serve_56 ?_
      refine E_aload_n dX9_serve_57 rfl rfl ?_
      refine E_getr (i := o0) dX9_serve_58 fl_RX9_30 rfl rfl (go_9_7 _ _) ?_
      refine E_iload_n dX9_serve_61 rfl rfl ?_
      obtain ⟨hg0, hg1, h⟩ := h
      refine E_iald dX9_serve_62 sh_1007 hg0 hg1 ?_
      obtain ⟨hg0, hg1, h⟩ := h
      refine E_iast dX9_serve_63 sh_1007 hg0 hg1 ?_
      refine E_iinc (ls' := [some (vR 9 o0), some (vI x1), some (vI (wi (x2 + 1)))]) dX9_serve_64 rfl (by decide) rfl rfl ?_
      refine E_goto (tgt := 42) dX9_serve_67 (by decide) ?_
      exact hR _ _ h
def P_X9_serve  (o0 : Nat) (σ : St) (Q : St → Prop) : Prop :=
  (if (σ 9 o0 8) = 0 then Q σ else (if ((up σ 9 o0 9 (wi ((σ 9 o0 9) + 1))) 8 0 13) ≤ ((up σ 9 o0 9 (wi ((σ 9 o0 9) + 1))) 9 o0 9) then P_X9_serve_L42 o0 ((up σ 9 o0 9 (wi ((σ 9 o0 9) + 1))) 1007 o0 0) (fun σ_1 => 0 ≤ (up σ 9 o0 9 (wi ((σ 9 o0 9) + 1))) 1007 o0 0 ∧ (up σ 9 o0 9 (wi ((σ 9 o0 9) + 1))) 1007 o0 0 < 6 ∧ P_X9_fallOf o0 ((up σ 9 o0 9 (wi ((σ 9 o0 9) + 1))) 1007 o0 0) (up (up (up σ_1 9 o0 8 (wi ((σ_1 9 o0 8) - 1))) 9 o0 9 0) 1004 o0 ((up σ 9 o0 9 (wi ((σ 9 o0 9) + 1))) 1007 o0 0) 3) (fun r_3 σ_2 => 0 ≤ (up σ 9 o0 9 (wi ((σ 9 o0 9) + 1))) 1007 o0 0 ∧ (up σ 9 o0 9 (wi ((σ 9 o0 9) + 1))) 1007 o0 0 < 6 ∧ 0 ≤ (up σ 9 o0 9 (wi ((σ 9 o0 9) + 1))) 1007 o0 0 ∧ (up σ 9 o0 9 (wi ((σ 9 o0 9) + 1))) 1007 o0 0 < 6 ∧ P_X8_beatsTo 0 ((up σ 9 o0 9 (wi ((σ 9 o0 9) + 1))) 1007 o0 0) ((up σ_2 1003 o0 ((up σ 9 o0 9 (wi ((σ 9 o0 9) + 1))) 1007 o0 0) r_3) 1003 o0 ((up σ 9 o0 9 (wi ((σ 9 o0 9) + 1))) 1007 o0 0)) (up σ_2 1003 o0 ((up σ 9 o0 9 (wi ((σ 9 o0 9) + 1))) 1007 o0 0) r_3) (fun r_5 σ_4 => 0 ≤ (up σ 9 o0 9 (wi ((σ 9 o0 9) + 1))) 1007 o0 0 ∧ (up σ 9 o0 9 (wi ((σ 9 o0 9) + 1))) 1007 o0 0 < 6 ∧ Q (up σ_4 1005 o0 ((up σ 9 o0 9 (wi ((σ 9 o0 9) + 1))) 1007 o0 0) r_5)))) Q FU 1 (up σ 9 o0 9 (wi ((σ 9 o0 9) + 1))) else Q (up σ 9 o0 9 (wi ((σ 9 o0 9) + 1)))))
set_option maxRecDepth 20000 in
set_option maxHeartbeats 2000000 in
theorem s_X9_serve   {o0 : Nat} {σ : St} {Q : St → Prop} (h : P_X9_serve o0 σ Q) : Cn Y_X9_serve 2 0 0 ww σ [vR 9 o0] (QV Q) := by
  refine Cn_of [some (vR 9 o0), none, none] (by decide) (Nat.le_of_ble_eq_true rfl) rfl ?_
  unfold P_X9_serve at h
  refine E_aload_n dX9_serve_0 rfl rfl ?_
  refine E_geti (i := o0) dX9_serve_1 fl_RX9_33 rfl ?_
  refine E_if_ne (tgt := 8) dX9_serve_4 (by decide) (fun hc => ?_) (fun hc => ?_)
  · have h := Eq.mp (if_neg hc) h
    refine E_aload_n dX9_serve_8 rfl rfl ?_
    refine E_dup dX9_serve_9 (fun _ q => by cases q) ?_
    refine E_geti (i := o0) dX9_serve_10 fl_RX9_37 rfl ?_
    refine E_ic dX9_serve_13 rfl ?_
    refine E_iadd dX9_serve_14 ?_
    refine E_puti dX9_serve_15 fl_RX9_37 rfl rfl rfl ?_
    refine E_aload_n dX9_serve_18 rfl rfl ?_
    refine E_geti (i := o0) dX9_serve_19 fl_RX9_37 rfl ?_
    refine E_aload_n dX9_serve_22 rfl rfl ?_
    refine E_getr (i := o0) dX9_serve_23 fl_RX9_49 rfl rfl (go_9_0 _ _) ?_
    refine E_geti (i := 0) dX9_serve_26 fl_RX9_111 rfl ?_
    refine E_icmp_ge (tgt := 33) dX9_serve_29 (by decide) (fun hc => ?_) (fun hc => ?_)
    · have h := Eq.mp (if_pos hc) h
      refine E_aload_n dX9_serve_33 rfl rfl ?_
      refine E_getr (i := o0) dX9_serve_34 fl_RX9_30 rfl rfl (go_9_7 _ _) ?_
      refine E_ic dX9_serve_37 rfl ?_
      refine E_iald dX9_serve_38 sh_1007 (by decide) (by decide) ?_
      refine E_istore_n (ls' := [some (vR 9 o0), some (vI ((up σ 9 o0 9 (wi ((σ 9 o0 9) + 1))) 1007 o0 0)), none]) dX9_serve_39 rfl (by decide) rfl ?_
      refine E_ic dX9_serve_40 rfl ?_
      refine E_istore_n (ls' := [some (vR 9 o0), some (vI ((up σ 9 o0 9 (wi ((σ 9 o0 9) + 1))) 1007 o0 0)), some (vI 1)]) dX9_serve_41 rfl (by decide) rfl ?_
      refine e_P_X9_serve_L42 ?_ _ _ _ h
      · intro σ_1 h
        refine E_aload_n dX9_serve_70 rfl rfl ?_
        refine E_dup dX9_serve_71 (fun _ q => by cases q) ?_
        refine E_geti (i := o0) dX9_serve_72 fl_RX9_33 rfl ?_
        refine E_ic dX9_serve_75 rfl ?_
        refine E_isub dX9_serve_76 ?_
        refine E_puti dX9_serve_77 fl_RX9_33 rfl rfl rfl ?_
        refine E_aload_n dX9_serve_80 rfl rfl ?_
        refine E_ic dX9_serve_81 rfl ?_
        refine E_puti dX9_serve_82 fl_RX9_37 rfl rfl rfl ?_
        refine E_aload_n dX9_serve_85 rfl rfl ?_
        refine E_getr (i := o0) dX9_serve_86 fl_RX9_21 rfl rfl (go_9_4 _ _) ?_
        refine E_iload_n dX9_serve_89 rfl rfl ?_
        refine E_ic dX9_serve_90 rfl ?_
        obtain ⟨hg0, hg1, h⟩ := h
        refine E_iast dX9_serve_91 sh_1004 hg0 hg1 ?_
        refine E_aload_n dX9_serve_92 rfl rfl ?_
        refine E_getr (i := o0) dX9_serve_93 fl_RX9_18 rfl rfl (go_9_3 _ _) ?_
        refine E_iload_n dX9_serve_96 rfl rfl ?_
        refine E_aload_n dX9_serve_97 rfl rfl ?_
        refine E_iload_n dX9_serve_98 rfl rfl ?_
        refine E_callV (Y' := Y_X9_fallOf) (as := [vI ((up σ 9 o0 9 (wi ((σ 9 o0 9) + 1))) 1007 o0 0)]) (st := [vI ((up σ 9 o0 9 (wi ((σ 9 o0 9) + 1))) 1007 o0 0), vR 1003 o0]) dX9_serve_99 lk_RX9_114 m_X9_fallOf (by decide) (Nat.le_refl _) (Nat.le_refl _) rfl rfl (Nat.le_of_ble_eq_true rfl) (s_X9_fallOf h) (fun r0 B0 σ_2 h => ?_)
        obtain ⟨r_3, rfl, rfl, h⟩ := h
        obtain ⟨hg0, hg1, h⟩ := h
        refine E_iast dX9_serve_102 sh_1003 hg0 hg1 ?_
        refine E_aload_n dX9_serve_103 rfl rfl ?_
        refine E_getr (i := o0) dX9_serve_104 fl_RX9_24 rfl rfl (go_9_5 _ _) ?_
        refine E_iload_n dX9_serve_107 rfl rfl ?_
        refine E_aload_n dX9_serve_108 rfl rfl ?_
        refine E_getr (i := o0) dX9_serve_109 fl_RX9_49 rfl rfl (go_9_0 _ _) ?_
        refine E_iload_n dX9_serve_112 rfl rfl ?_
        refine E_aload_n dX9_serve_113 rfl rfl ?_
        refine E_getr (i := o0) dX9_serve_114 fl_RX9_18 rfl rfl (go_9_3 _ _) ?_
        refine E_iload_n dX9_serve_117 rfl rfl ?_
        obtain ⟨hg0, hg1, h⟩ := h
        refine E_iald dX9_serve_118 sh_1003 hg0 hg1 ?_
        refine E_callV (Y' := Y_X8_beatsTo) (as := [vI ((up σ 9 o0 9 (wi ((σ 9 o0 9) + 1))) 1007 o0 0), vI ((up σ_2 1003 o0 ((up σ 9 o0 9 (wi ((σ 9 o0 9) + 1))) 1007 o0 0) r_3) 1003 o0 ((up σ 9 o0 9 (wi ((σ 9 o0 9) + 1))) 1007 o0 0))]) (st := [vI ((up σ 9 o0 9 (wi ((σ 9 o0 9) + 1))) 1007 o0 0), vR 1005 o0]) dX9_serve_119 lk_RX9_83 m_X8_beatsTo (by decide) (Nat.le_refl _) (Nat.le_refl _) rfl rfl (Nat.le_of_ble_eq_true rfl) (s_X8_beatsTo h) (fun r0 B0 σ_4 h => ?_)
        obtain ⟨r_5, rfl, rfl, h⟩ := h
        obtain ⟨hg0, hg1, h⟩ := h
        refine E_iast dX9_serve_122 sh_1005 hg0 hg1 ?_
        exact E_vret dX9_serve_123 rfl ⟨rfl, rfl, h⟩
    · have h := Eq.mp (if_neg hc) h
      exact E_vret dX9_serve_32 rfl ⟨rfl, rfl, h⟩
  · have h := Eq.mp (if_pos hc) h
    exact E_vret dX9_serve_7 rfl ⟨rfl, rfl, h⟩
abbrev Y_X9_goOut : My := (yX9_goOut, cX9_goOut, 2, none)
theorem dX9_goOut_0 : decode cX9_goOut 0 = .ok (.iconst 0, 1) := by decide +kernel
theorem dX9_goOut_1 : decode cX9_goOut 1 = .ok (.istore_n 1, 1) := by decide +kernel
theorem dX9_goOut_2 : decode cX9_goOut 2 = .ok (.iload_n 1, 1) := by decide +kernel
theorem dX9_goOut_3 : decode cX9_goOut 3 = .ok (.aload_n 0, 1) := by decide +kernel
theorem dX9_goOut_4 : decode cX9_goOut 4 = .ok (.getfield 49, 3) := by decide +kernel
theorem dX9_goOut_7 : decode cX9_goOut 7 = .ok (.getfield 59, 3) := by decide +kernel
theorem dX9_goOut_10 : decode cX9_goOut 10 = .ok (.if_icmp .ge 74, 3) := by decide +kernel
theorem dX9_goOut_13 : decode cX9_goOut 13 = .ok (.aload_n 0, 1) := by decide +kernel
theorem dX9_goOut_14 : decode cX9_goOut 14 = .ok (.getfield 21, 3) := by decide +kernel
theorem dX9_goOut_17 : decode cX9_goOut 17 = .ok (.iload_n 1, 1) := by decide +kernel
theorem dX9_goOut_18 : decode cX9_goOut 18 = .ok (.iaload, 1) := by decide +kernel
theorem dX9_goOut_19 : decode cX9_goOut 19 = .ok (.iconst 1, 1) := by decide +kernel
theorem dX9_goOut_20 : decode cX9_goOut 20 = .ok (.if_icmp .ne 58, 3) := by decide +kernel
theorem dX9_goOut_23 : decode cX9_goOut 23 = .ok (.aload_n 0, 1) := by decide +kernel
theorem dX9_goOut_24 : decode cX9_goOut 24 = .ok (.getfield 24, 3) := by decide +kernel
theorem dX9_goOut_27 : decode cX9_goOut 27 = .ok (.iload_n 1, 1) := by decide +kernel
theorem dX9_goOut_28 : decode cX9_goOut 28 = .ok (.dup2, 1) := by decide +kernel
theorem dX9_goOut_29 : decode cX9_goOut 29 = .ok (.iaload, 1) := by decide +kernel
theorem dX9_goOut_30 : decode cX9_goOut 30 = .ok (.iconst 1, 1) := by decide +kernel
theorem dX9_goOut_31 : decode cX9_goOut 31 = .ok (.isub, 1) := by decide +kernel
theorem dX9_goOut_32 : decode cX9_goOut 32 = .ok (.iastore, 1) := by decide +kernel
theorem dX9_goOut_33 : decode cX9_goOut 33 = .ok (.aload_n 0, 1) := by decide +kernel
theorem dX9_goOut_34 : decode cX9_goOut 34 = .ok (.getfield 24, 3) := by decide +kernel
theorem dX9_goOut_37 : decode cX9_goOut 37 = .ok (.iload_n 1, 1) := by decide +kernel
theorem dX9_goOut_38 : decode cX9_goOut 38 = .ok (.iaload, 1) := by decide +kernel
theorem dX9_goOut_39 : decode cX9_goOut 39 = .ok (.ifCond .gt 39, 3) := by decide +kernel
theorem dX9_goOut_42 : decode cX9_goOut 42 = .ok (.aload_n 0, 1) := by decide +kernel
theorem dX9_goOut_43 : decode cX9_goOut 43 = .ok (.getfield 33, 3) := by decide +kernel
theorem dX9_goOut_46 : decode cX9_goOut 46 = .ok (.bipush 6, 2) := by decide +kernel
theorem dX9_goOut_48 : decode cX9_goOut 48 = .ok (.if_icmp .ge 30, 3) := by decide +kernel
theorem dX9_goOut_51 : decode cX9_goOut 51 = .ok (.aload_n 0, 1) := by decide +kernel
theorem dX9_goOut_52 : decode cX9_goOut 52 = .ok (.getfield 21, 3) := by decide +kernel
theorem dX9_goOut_55 : decode cX9_goOut 55 = .ok (.iload_n 1, 1) := by decide +kernel
theorem dX9_goOut_56 : decode cX9_goOut 56 = .ok (.iconst 2, 1) := by decide +kernel
theorem dX9_goOut_57 : decode cX9_goOut 57 = .ok (.iastore, 1) := by decide +kernel
theorem dX9_goOut_58 : decode cX9_goOut 58 = .ok (.aload_n 0, 1) := by decide +kernel
theorem dX9_goOut_59 : decode cX9_goOut 59 = .ok (.getfield 30, 3) := by decide +kernel
theorem dX9_goOut_62 : decode cX9_goOut 62 = .ok (.aload_n 0, 1) := by decide +kernel
theorem dX9_goOut_63 : decode cX9_goOut 63 = .ok (.getfield 33, 3) := by decide +kernel
theorem dX9_goOut_66 : decode cX9_goOut 66 = .ok (.iload_n 1, 1) := by decide +kernel
theorem dX9_goOut_67 : decode cX9_goOut 67 = .ok (.iastore, 1) := by decide +kernel
theorem dX9_goOut_68 : decode cX9_goOut 68 = .ok (.aload_n 0, 1) := by decide +kernel
theorem dX9_goOut_69 : decode cX9_goOut 69 = .ok (.dup, 1) := by decide +kernel
theorem dX9_goOut_70 : decode cX9_goOut 70 = .ok (.getfield 33, 3) := by decide +kernel
theorem dX9_goOut_73 : decode cX9_goOut 73 = .ok (.iconst 1, 1) := by decide +kernel
theorem dX9_goOut_74 : decode cX9_goOut 74 = .ok (.iadd, 1) := by decide +kernel
theorem dX9_goOut_75 : decode cX9_goOut 75 = .ok (.putfield 33, 3) := by decide +kernel
theorem dX9_goOut_78 : decode cX9_goOut 78 = .ok (.iinc 1 1, 3) := by decide +kernel
theorem dX9_goOut_81 : decode cX9_goOut 81 = .ok (.goto (-79), 3) := by decide +kernel
theorem dX9_goOut_84 : decode cX9_goOut 84 = .ok (.return_, 1) := by decide +kernel
def P_X9_goOut_L2  (o0 : Nat)  (Q : St → Prop) : Nat → Int → St → Prop
  | 0, _, _ => False
  | n + 1, x1, σ => (if (σ 8 0 11) ≤ x1 then Q σ else 0 ≤ x1 ∧ x1 < 6 ∧ (if (σ 1004 o0 x1) = 1 then 0 ≤ x1 ∧ x1 < 6 ∧ 0 ≤ x1 ∧ x1 < 6 ∧ 0 ≤ x1 ∧ x1 < 6 ∧ (if 0 < ((up σ 1005 o0 x1 (wi ((σ 1005 o0 x1) - 1))) 1005 o0 x1) then (P_X9_goOut_L2 o0 Q n) (wi (x1 + 1)) (up σ 1005 o0 x1 (wi ((σ 1005 o0 x1) - 1))) else (if 6 ≤ ((up σ 1005 o0 x1 (wi ((σ 1005 o0 x1) - 1))) 9 o0 8) then (P_X9_goOut_L2 o0 Q n) (wi (x1 + 1)) (up σ 1005 o0 x1 (wi ((σ 1005 o0 x1) - 1))) else 0 ≤ x1 ∧ x1 < 6 ∧ 0 ≤ (up (up σ 1005 o0 x1 (wi ((σ 1005 o0 x1) - 1))) 1004 o0 x1 2) 9 o0 8 ∧ (up (up σ 1005 o0 x1 (wi ((σ 1005 o0 x1) - 1))) 1004 o0 x1 2) 9 o0 8 < 6 ∧ (P_X9_goOut_L2 o0 Q n) (wi (x1 + 1)) (up (up (up (up σ 1005 o0 x1 (wi ((σ 1005 o0 x1) - 1))) 1004 o0 x1 2) 1007 o0 ((up (up σ 1005 o0 x1 (wi ((σ 1005 o0 x1) - 1))) 1004 o0 x1 2) 9 o0 8) x1) 9 o0 8 (wi (((up (up (up σ 1005 o0 x1 (wi ((σ 1005 o0 x1) - 1))) 1004 o0 x1 2) 1007 o0 ((up (up σ 1005 o0 x1 (wi ((σ 1005 o0 x1) - 1))) 1004 o0 x1 2) 9 o0 8) x1) 9 o0 8) + 1))))) else (P_X9_goOut_L2 o0 Q n) (wi (x1 + 1)) σ))
set_option maxRecDepth 20000 in
set_option maxHeartbeats 2000000 in
theorem e_P_X9_goOut_L2  {o0 : Nat}  {Q : St → Prop}   : ∀ (n : Nat) (x1 : Int) (σ : St), P_X9_goOut_L2 o0 Q n x1 σ → E Y_X9_goOut 0 0 0 (QV Q) ww 0 0 2 [some (vR 9 o0), some (vI x1)] [] σ := by
  intro n
  induction n with
  | zero => intro x1 σ h; exact h.elim
  | succ n hR =>
    intro x1 σ h
    unfold P_X9_goOut_L2 at h
    refine E_iload_n dX9_goOut_2 rfl rfl ?_
    refine E_aload_n dX9_goOut_3 rfl rfl ?_
    refine E_getr (i := o0) dX9_goOut_4 fl_RX9_49 rfl rfl (go_9_0 _ _) ?_
    refine E_geti (i := 0) dX9_goOut_7 fl_RX9_59 rfl ?_
    refine E_icmp_ge (tgt := 84) dX9_goOut_10 (by decide) (fun hc => ?_) (fun hc => ?_)
    · have h := Eq.mp (if_pos hc) h
      exact E_vret dX9_goOut_84 rfl ⟨rfl, rfl, h⟩
    · have h := Eq.mp (if_neg hc) h
      refine E_aload_n dX9_goOut_13 rfl rfl ?_
      refine E_getr (i := o0) dX9_goOut_14 fl_RX9_21 rfl rfl (go_9_4 _ _) ?_
      refine E_iload_n dX9_goOut_17 rfl rfl ?_
      obtain ⟨hg0, hg1, h⟩ := h
      refine E_iald dX9_goOut_18 sh_1004 hg0 hg1 ?_
      refine E_ic dX9_goOut_19 rfl ?_
      refine E_icmp_ne (tgt := 78) dX9_goOut_20 (by decide) (fun hc => ?_) (fun hc => ?_)
      · have h := Eq.mp (if_neg hc) h
        refine E_iinc (ls' := [some (vR 9 o0), some (vI (wi (x1 + 1)))]) dX9_goOut_78 rfl (by decide) rfl rfl ?_
        refine E_goto (tgt := 2) dX9_goOut_81 (by decide) ?_
        exact hR _ _ h
      · have h := Eq.mp (if_pos hc) h
        refine E_aload_n dX9_goOut_23 rfl rfl ?_
        refine E_getr (i := o0) dX9_goOut_24 fl_RX9_24 rfl rfl (go_9_5 _ _) ?_
        refine E_iload_n dX9_goOut_27 rfl rfl ?_
        refine E_dup2 dX9_goOut_28 (fun _ q => by cases q) (fun _ q => by cases q) ?_
        obtain ⟨hg0, hg1, h⟩ := h
        refine E_iald dX9_goOut_29 sh_1005 hg0 hg1 ?_
        refine E_ic dX9_goOut_30 rfl ?_
        refine E_isub dX9_goOut_31 ?_
        obtain ⟨hg0, hg1, h⟩ := h
        refine E_iast dX9_goOut_32 sh_1005 hg0 hg1 ?_
        refine E_aload_n dX9_goOut_33 rfl rfl ?_
        refine E_getr (i := o0) dX9_goOut_34 fl_RX9_24 rfl rfl (go_9_5 _ _) ?_
        refine E_iload_n dX9_goOut_37 rfl rfl ?_
        obtain ⟨hg0, hg1, h⟩ := h
        refine E_iald dX9_goOut_38 sh_1005 hg0 hg1 ?_
        refine E_if_gt (tgt := 78) dX9_goOut_39 (by decide) (fun hc => ?_) (fun hc => ?_)
        · have h := Eq.mp (if_pos hc) h
          refine E_iinc (ls' := [some (vR 9 o0), some (vI (wi (x1 + 1)))]) dX9_goOut_78 rfl (by decide) rfl rfl ?_
          refine E_goto (tgt := 2) dX9_goOut_81 (by decide) ?_
          exact hR _ _ h
        · have h := Eq.mp (if_neg hc) h
          refine E_aload_n dX9_goOut_42 rfl rfl ?_
          refine E_geti (i := o0) dX9_goOut_43 fl_RX9_33 rfl ?_
          refine E_bp dX9_goOut_46 rfl ?_
          refine E_icmp_ge (tgt := 78) dX9_goOut_48 (by decide) (fun hc => ?_) (fun hc => ?_)
          · have h := Eq.mp (if_pos hc) h
            refine E_iinc (ls' := [some (vR 9 o0), some (vI (wi (x1 + 1)))]) dX9_goOut_78 rfl (by decide) rfl rfl ?_
            refine E_goto (tgt := 2) dX9_goOut_81 (by decide) ?_
            exact hR _ _ h
          · have h := Eq.mp (if_neg hc) h
            refine E_aload_n dX9_goOut_51 rfl rfl ?_
            refine E_getr (i := o0) dX9_goOut_52 fl_RX9_21 rfl rfl (go_9_4 _ _) ?_
            refine E_iload_n dX9_goOut_55 rfl rfl ?_
            refine E_ic dX9_goOut_56 rfl ?_
            obtain ⟨hg0, hg1, h⟩ := h
            refine E_iast dX9_goOut_57 sh_1004 hg0 hg1 ?_
            refine E_aload_n dX9_goOut_58 rfl rfl ?_
            refine E_getr (i := o0) dX9_goOut_59 fl_RX9_30 rfl rfl (go_9_7 _ _) ?_
            refine E_aload_n dX9_goOut_62 rfl rfl ?_
            refine E_geti (i := o0) dX9_goOut_63 fl_RX9_33 rfl ?_
            refine E_iload_n dX9_goOut_66 rfl rfl ?_
            obtain ⟨hg0, hg1, h⟩ := h
            refine E_iast dX9_goOut_67 sh_1007 hg0 hg1 ?_
            refine E_aload_n dX9_goOut_68 rfl rfl ?_
            refine E_dup dX9_goOut_69 (fun _ q => by cases q) ?_
            refine E_geti (i := o0) dX9_goOut_70 fl_RX9_33 rfl ?_
            refine E_ic dX9_goOut_73 rfl ?_
            refine E_iadd dX9_goOut_74 ?_
            refine E_puti dX9_goOut_75 fl_RX9_33 rfl rfl rfl ?_
            refine E_iinc (ls' := [some (vR 9 o0), some (vI (wi (x1 + 1)))]) dX9_goOut_78 rfl (by decide) rfl rfl ?_
            refine E_goto (tgt := 2) dX9_goOut_81 (by decide) ?_
            exact hR _ _ h
def P_X9_goOut  (o0 : Nat) (σ : St) (Q : St → Prop) : Prop :=
  P_X9_goOut_L2 o0 Q FU 0 σ
set_option maxRecDepth 20000 in
set_option maxHeartbeats 2000000 in
theorem s_X9_goOut   {o0 : Nat} {σ : St} {Q : St → Prop} (h : P_X9_goOut o0 σ Q) : Cn Y_X9_goOut 0 0 0 ww σ [vR 9 o0] (QV Q) := by
  refine Cn_of [some (vR 9 o0), none] (by decide) (Nat.le_of_ble_eq_true rfl) rfl ?_
  unfold P_X9_goOut at h
  refine E_ic dX9_goOut_0 rfl ?_
  refine E_istore_n (ls' := [some (vR 9 o0), some (vI 0)]) dX9_goOut_1 rfl (by decide) rfl ?_
  refine e_P_X9_goOut_L2  _ _ _ h
