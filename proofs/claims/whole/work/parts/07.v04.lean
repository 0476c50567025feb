theorem d_M_last_0 : decode m_M_last.2.1 0 = .ok (.aload_n 0, 1) := by decide +kernel
theorem d_M_last_1 : decode m_M_last.2.1 1 = .ok (.iload_n 1, 1) := by decide +kernel
theorem d_M_last_2 : decode m_M_last.2.1 2 = .ok (.iload_n 2, 1) := by decide +kernel
theorem d_M_last_3 : decode m_M_last.2.1 3 = .ok (.invokevirtual 140, 3) := by decide +kernel
theorem d_M_last_6 : decode m_M_last.2.1 6 = .ok (.ifCond .eq 38, 3) := by decide +kernel
theorem d_M_last_9 : decode m_M_last.2.1 9 = .ok (.aload_n 0, 1) := by decide +kernel
theorem d_M_last_10 : decode m_M_last.2.1 10 = .ok (.iload_n 3, 1) := by decide +kernel
theorem d_M_last_11 : decode m_M_last.2.1 11 = .ok (.invokevirtual 84, 3) := by decide +kernel
theorem d_M_last_14 : decode m_M_last.2.1 14 = .ok (.ifCond .eq 30, 3) := by decide +kernel
theorem d_M_last_17 : decode m_M_last.2.1 17 = .ok (.iload_n 1, 1) := by decide +kernel
theorem d_M_last_18 : decode m_M_last.2.1 18 = .ok (.iload_n 3, 1) := by decide +kernel
theorem d_M_last_19 : decode m_M_last.2.1 19 = .ok (.if_icmp .eq 25, 3) := by decide +kernel
theorem d_M_last_22 : decode m_M_last.2.1 22 = .ok (.iload 4, 2) := by decide +kernel
theorem d_M_last_24 : decode m_M_last.2.1 24 = .ok (.iconst 0, 1) := by decide +kernel
theorem d_M_last_25 : decode m_M_last.2.1 25 = .ok (.iconst 1, 1) := by decide +kernel
theorem d_M_last_26 : decode m_M_last.2.1 26 = .ok (.invokestatic 60, 3) := by decide +kernel
theorem d_M_last_29 : decode m_M_last.2.1 29 = .ok (.ifCond .eq 15, 3) := by decide +kernel
theorem d_M_last_32 : decode m_M_last.2.1 32 = .ok (.aload_n 0, 1) := by decide +kernel
theorem d_M_last_33 : decode m_M_last.2.1 33 = .ok (.iload_n 1, 1) := by decide +kernel
theorem d_M_last_34 : decode m_M_last.2.1 34 = .ok (.iload_n 2, 1) := by decide +kernel
theorem d_M_last_35 : decode m_M_last.2.1 35 = .ok (.iload_n 3, 1) := by decide +kernel
theorem d_M_last_36 : decode m_M_last.2.1 36 = .ok (.iload 4, 2) := by decide +kernel
theorem d_M_last_38 : decode m_M_last.2.1 38 = .ok (.invokevirtual 188, 3) := by decide +kernel
theorem d_M_last_41 : decode m_M_last.2.1 41 = .ok (.goto 5, 3) := by decide +kernel
theorem d_M_last_44 : decode m_M_last.2.1 44 = .ok (.bipush (-2), 2) := by decide +kernel
theorem d_M_last_46 : decode m_M_last.2.1 46 = .ok (.ireturn, 1) := by decide +kernel
set_option maxHeartbeats 4000000 in
set_option maxRecDepth 20000 in
theorem c_M_last (G : Gt) (x1 : Int32) (x2 : Int32) (x3 : Int32) (x4 : Int32) (h : Hp) : Cn G m_M_last [.ref (ad G 31), .int x1, .int x2, .int x3, .int x4] h κi (f_M_last x1 x2 x3 x4 h) := by
  refine entryV (by decide) (Nat.le_of_ble_eq_true rfl) rfl ?_
  show V G m_M_last 0 [(0, .ref (ad G 31)), (1, .int x1), (2, .int x2), (3, .int x3), (4, .int x4)] [] h κi _
  unfold f_M_last
  refine v_aload_n 0 d_M_last_0 rfl rfl ?_
  refine v_iload_n 1 d_M_last_1 rfl rfl ?_
  refine v_iload_n 2 d_M_last_2 rfl rfl ?_
  refine v_callVi (As := [.int x1, .int x2]) (rest := []) (c_M_isWeb G x1 x2 h) co_M_140 io_M_isWeb o_31 ⟨by decide, by decide⟩ rfl rfl (Nat.le_of_ble_eq_true rfl) d_M_last_3 (fun r1 h1 _ => ?_)
  refine v_if_eq 44 d_M_last_6 (by decide) (fun c2 => ?_) (fun c2 => ?_)
  · refine v_bipush (-2) d_M_last_44 rfl ?_
    exact v_iret rfl d_M_last_46
  · refine v_aload_n 0 d_M_last_9 rfl rfl ?_
    refine v_iload_n 3 d_M_last_10 rfl rfl ?_
    refine v_callVi (As := [.int x3]) (rest := []) (c_M_isPeg G x3 h1) co_M_84 io_M_isPeg o_31 ⟨by decide, by decide⟩ rfl rfl (Nat.le_of_ble_eq_true rfl) d_M_last_11 (fun r3 h3 _ => ?_)
    refine v_if_eq 44 d_M_last_14 (by decide) (fun c4 => ?_) (fun c4 => ?_)
    · refine v_bipush (-2) d_M_last_44 rfl ?_
      exact v_iret rfl d_M_last_46
    · refine v_iload_n 1 d_M_last_17 rfl rfl ?_
      refine v_iload_n 3 d_M_last_18 rfl rfl ?_
      refine v_icmp_eq 44 d_M_last_19 (by decide) (fun c5 => ?_) (fun c5 => ?_)
      · refine v_bipush (-2) d_M_last_44 rfl ?_
        exact v_iret rfl d_M_last_46
      · refine v_iload 4 d_M_last_22 rfl ?_
        refine v_iconst 0 d_M_last_24 rfl ?_
        refine v_iconst 1 d_M_last_25 rfl ?_
        refine v_callSi (As := [.int x4, .int 0, .int 1]) (rest := []) (c_M_in G x4 0 1 h3) co_M_60 so_M_in ⟨by decide, by decide⟩ rfl rfl (Nat.le_of_ble_eq_true rfl) d_M_last_26 (fun r6 h6 _ => ?_)
        refine v_if_eq 44 d_M_last_29 (by decide) (fun c7 => ?_) (fun c7 => ?_)
        · refine v_bipush (-2) d_M_last_44 rfl ?_
          exact v_iret rfl d_M_last_46
        · refine v_aload_n 0 d_M_last_32 rfl rfl ?_
          refine v_iload_n 1 d_M_last_33 rfl rfl ?_
          refine v_iload_n 2 d_M_last_34 rfl rfl ?_
          refine v_iload_n 3 d_M_last_35 rfl rfl ?_
          refine v_iload 4 d_M_last_36 rfl ?_
          refine v_callVi (As := [.int x1, .int x2, .int x3, .int x4]) (rest := []) (c_M_lastOf G x1 x2 x3 x4 h6) co_M_188 io_M_lastOf o_31 ⟨by decide, by decide⟩ rfl rfl (Nat.le_of_ble_eq_true rfl) d_M_last_38 (fun r8 h8 _ => ?_)
          refine v_goto 46 d_M_last_41 (by decide) ?_
          exact v_iret rfl d_M_last_46
theorem d_M_twoOf_0 : decode m_M_twoOf.2.1 0 = .ok (.aload_n 0, 1) := by decide +kernel
theorem d_M_twoOf_1 : decode m_M_twoOf.2.1 1 = .ok (.iload_n 1, 1) := by decide +kernel
theorem d_M_twoOf_2 : decode m_M_twoOf.2.1 2 = .ok (.invokevirtual 133, 3) := by decide +kernel
theorem d_M_twoOf_5 : decode m_M_twoOf.2.1 5 = .ok (.ifCond .ne 11, 3) := by decide +kernel
theorem d_M_twoOf_8 : decode m_M_twoOf.2.1 8 = .ok (.aload_n 0, 1) := by decide +kernel
theorem d_M_twoOf_9 : decode m_M_twoOf.2.1 9 = .ok (.iload_n 3, 1) := by decide +kernel
theorem d_M_twoOf_10 : decode m_M_twoOf.2.1 10 = .ok (.invokevirtual 133, 3) := by decide +kernel
theorem d_M_twoOf_13 : decode m_M_twoOf.2.1 13 = .ok (.ifCond .eq 6, 3) := by decide +kernel
theorem d_M_twoOf_16 : decode m_M_twoOf.2.1 16 = .ok (.bipush (-3), 2) := by decide +kernel
theorem d_M_twoOf_18 : decode m_M_twoOf.2.1 18 = .ok (.ireturn, 1) := by decide +kernel
theorem d_M_twoOf_19 : decode m_M_twoOf.2.1 19 = .ok (.iconst 1, 1) := by decide +kernel
theorem d_M_twoOf_20 : decode m_M_twoOf.2.1 20 = .ok (.aload_n 0, 1) := by decide +kernel
theorem d_M_twoOf_21 : decode m_M_twoOf.2.1 21 = .ok (.getfield 67, 3) := by decide +kernel
theorem d_M_twoOf_24 : decode m_M_twoOf.2.1 24 = .ok (.ishl, 1) := by decide +kernel
theorem d_M_twoOf_25 : decode m_M_twoOf.2.1 25 = .ok (.iconst 1, 1) := by decide +kernel
theorem d_M_twoOf_26 : decode m_M_twoOf.2.1 26 = .ok (.isub, 1) := by decide +kernel
theorem d_M_twoOf_27 : decode m_M_twoOf.2.1 27 = .ok (.aload_n 0, 1) := by decide +kernel
theorem d_M_twoOf_28 : decode m_M_twoOf.2.1 28 = .ok (.getfield 81, 3) := by decide +kernel
theorem d_M_twoOf_31 : decode m_M_twoOf.2.1 31 = .ok (.iconst (-1), 1) := by decide +kernel
theorem d_M_twoOf_32 : decode m_M_twoOf.2.1 32 = .ok (.ixor, 1) := by decide +kernel
theorem d_M_twoOf_33 : decode m_M_twoOf.2.1 33 = .ok (.iand, 1) := by decide +kernel
theorem d_M_twoOf_34 : decode m_M_twoOf.2.1 34 = .ok (.iconst 1, 1) := by decide +kernel
theorem d_M_twoOf_35 : decode m_M_twoOf.2.1 35 = .ok (.iload_n 1, 1) := by decide +kernel
theorem d_M_twoOf_36 : decode m_M_twoOf.2.1 36 = .ok (.ishl, 1) := by decide +kernel
theorem d_M_twoOf_37 : decode m_M_twoOf.2.1 37 = .ok (.iconst (-1), 1) := by decide +kernel
theorem d_M_twoOf_38 : decode m_M_twoOf.2.1 38 = .ok (.ixor, 1) := by decide +kernel
theorem d_M_twoOf_39 : decode m_M_twoOf.2.1 39 = .ok (.iand, 1) := by decide +kernel
theorem d_M_twoOf_40 : decode m_M_twoOf.2.1 40 = .ok (.iconst 1, 1) := by decide +kernel
theorem d_M_twoOf_41 : decode m_M_twoOf.2.1 41 = .ok (.iload_n 3, 1) := by decide +kernel
theorem d_M_twoOf_42 : decode m_M_twoOf.2.1 42 = .ok (.ishl, 1) := by decide +kernel
theorem d_M_twoOf_43 : decode m_M_twoOf.2.1 43 = .ok (.iconst (-1), 1) := by decide +kernel
theorem d_M_twoOf_44 : decode m_M_twoOf.2.1 44 = .ok (.ixor, 1) := by decide +kernel
theorem d_M_twoOf_45 : decode m_M_twoOf.2.1 45 = .ok (.iand, 1) := by decide +kernel
theorem d_M_twoOf_46 : decode m_M_twoOf.2.1 46 = .ok (.istore 6, 2) := by decide +kernel
theorem d_M_twoOf_48 : decode m_M_twoOf.2.1 48 = .ok (.iload_n 1, 1) := by decide +kernel
theorem d_M_twoOf_49 : decode m_M_twoOf.2.1 49 = .ok (.istore 7, 2) := by decide +kernel
theorem d_M_twoOf_51 : decode m_M_twoOf.2.1 51 = .ok (.iload_n 3, 1) := by decide +kernel
theorem d_M_twoOf_52 : decode m_M_twoOf.2.1 52 = .ok (.istore 8, 2) := by decide +kernel
theorem d_M_twoOf_54 : decode m_M_twoOf.2.1 54 = .ok (.aload_n 0, 1) := by decide +kernel
theorem d_M_twoOf_55 : decode m_M_twoOf.2.1 55 = .ok (.getfield 53, 3) := by decide +kernel
theorem d_M_twoOf_58 : decode m_M_twoOf.2.1 58 = .ok (.istore 9, 2) := by decide +kernel
theorem d_M_twoOf_60 : decode m_M_twoOf.2.1 60 = .ok (.aload_n 0, 1) := by decide +kernel
theorem d_M_twoOf_61 : decode m_M_twoOf.2.1 61 = .ok (.getfield 53, 3) := by decide +kernel
theorem d_M_twoOf_64 : decode m_M_twoOf.2.1 64 = .ok (.istore 10, 2) := by decide +kernel
theorem d_M_twoOf_66 : decode m_M_twoOf.2.1 66 = .ok (.iconst 1, 1) := by decide +kernel
theorem d_M_twoOf_67 : decode m_M_twoOf.2.1 67 = .ok (.istore 11, 2) := by decide +kernel
theorem d_M_twoOf_69 : decode m_M_twoOf.2.1 69 = .ok (.iconst 1, 1) := by decide +kernel
theorem d_M_twoOf_70 : decode m_M_twoOf.2.1 70 = .ok (.istore 12, 2) := by decide +kernel
theorem d_M_twoOf_72 : decode m_M_twoOf.2.1 72 = .ok (.iconst (-1), 1) := by decide +kernel
theorem d_M_twoOf_73 : decode m_M_twoOf.2.1 73 = .ok (.istore 13, 2) := by decide +kernel
theorem d_M_twoOf_75 : decode m_M_twoOf.2.1 75 = .ok (.iconst 0, 1) := by decide +kernel
theorem d_M_twoOf_76 : decode m_M_twoOf.2.1 76 = .ok (.istore 14, 2) := by decide +kernel
theorem d_M_twoOf_78 : decode m_M_twoOf.2.1 78 = .ok (.iconst 1, 1) := by decide +kernel
theorem d_M_twoOf_79 : decode m_M_twoOf.2.1 79 = .ok (.istore 15, 2) := by decide +kernel
theorem d_M_twoOf_81 : decode m_M_twoOf.2.1 81 = .ok (.iload 14, 2) := by decide +kernel
theorem d_M_twoOf_83 : decode m_M_twoOf.2.1 83 = .ok (.iconst 2, 1) := by decide +kernel
theorem d_M_twoOf_84 : decode m_M_twoOf.2.1 84 = .ok (.if_icmp .ge 219, 3) := by decide +kernel
theorem d_M_twoOf_87 : decode m_M_twoOf.2.1 87 = .ok (.iload 15, 2) := by decide +kernel
theorem d_M_twoOf_89 : decode m_M_twoOf.2.1 89 = .ok (.ifCond .eq 8, 3) := by decide +kernel
theorem d_M_twoOf_92 : decode m_M_twoOf.2.1 92 = .ok (.iload 7, 2) := by decide +kernel
theorem d_M_twoOf_94 : decode m_M_twoOf.2.1 94 = .ok (.goto 5, 3) := by decide +kernel
theorem d_M_twoOf_97 : decode m_M_twoOf.2.1 97 = .ok (.iload 8, 2) := by decide +kernel
theorem d_M_twoOf_99 : decode m_M_twoOf.2.1 99 = .ok (.istore 16, 2) := by decide +kernel
theorem d_M_twoOf_101 : decode m_M_twoOf.2.1 101 = .ok (.iload 15, 2) := by decide +kernel
theorem d_M_twoOf_103 : decode m_M_twoOf.2.1 103 = .ok (.ifCond .eq 8, 3) := by decide +kernel
theorem d_M_twoOf_106 : decode m_M_twoOf.2.1 106 = .ok (.iload 9, 2) := by decide +kernel
theorem d_M_twoOf_108 : decode m_M_twoOf.2.1 108 = .ok (.goto 5, 3) := by decide +kernel
theorem d_M_twoOf_111 : decode m_M_twoOf.2.1 111 = .ok (.iload 10, 2) := by decide +kernel
theorem d_M_twoOf_113 : decode m_M_twoOf.2.1 113 = .ok (.istore 17, 2) := by decide +kernel
theorem d_M_twoOf_115 : decode m_M_twoOf.2.1 115 = .ok (.aload_n 0, 1) := by decide +kernel
theorem d_M_twoOf_116 : decode m_M_twoOf.2.1 116 = .ok (.iload 16, 2) := by decide +kernel
theorem d_M_twoOf_118 : decode m_M_twoOf.2.1 118 = .ok (.iload 15, 2) := by decide +kernel
theorem d_M_twoOf_120 : decode m_M_twoOf.2.1 120 = .ok (.ifCond .eq 7, 3) := by decide +kernel
theorem d_M_twoOf_123 : decode m_M_twoOf.2.1 123 = .ok (.iload_n 2, 1) := by decide +kernel
theorem d_M_twoOf_124 : decode m_M_twoOf.2.1 124 = .ok (.goto 5, 3) := by decide +kernel
theorem d_M_twoOf_127 : decode m_M_twoOf.2.1 127 = .ok (.iload 4, 2) := by decide +kernel
theorem d_M_twoOf_129 : decode m_M_twoOf.2.1 129 = .ok (.iload 6, 2) := by decide +kernel
theorem d_M_twoOf_131 : decode m_M_twoOf.2.1 131 = .ok (.invokevirtual 126, 3) := by decide +kernel
theorem d_M_twoOf_134 : decode m_M_twoOf.2.1 134 = .ok (.istore 18, 2) := by decide +kernel
theorem d_M_twoOf_136 : decode m_M_twoOf.2.1 136 = .ok (.iload 18, 2) := by decide +kernel
theorem d_M_twoOf_138 : decode m_M_twoOf.2.1 138 = .ok (.iconst (-1), 1) := by decide +kernel
theorem d_M_twoOf_139 : decode m_M_twoOf.2.1 139 = .ok (.if_icmp .eq 21, 3) := by decide +kernel
theorem d_M_twoOf_142 : decode m_M_twoOf.2.1 142 = .ok (.iload 17, 2) := by decide +kernel
theorem d_M_twoOf_144 : decode m_M_twoOf.2.1 144 = .ok (.aload_n 0, 1) := by decide +kernel
theorem d_M_twoOf_145 : decode m_M_twoOf.2.1 145 = .ok (.iload 16, 2) := by decide +kernel
theorem d_M_twoOf_147 : decode m_M_twoOf.2.1 147 = .ok (.iload 18, 2) := by decide +kernel
theorem d_M_twoOf_149 : decode m_M_twoOf.2.1 149 = .ok (.invokevirtual 107, 3) := by decide +kernel
theorem d_M_twoOf_152 : decode m_M_twoOf.2.1 152 = .ok (.aload_n 0, 1) := by decide +kernel
theorem d_M_twoOf_153 : decode m_M_twoOf.2.1 153 = .ok (.getfield 95, 3) := by decide +kernel
theorem d_M_twoOf_156 : decode m_M_twoOf.2.1 156 = .ok (.iadd, 1) := by decide +kernel
theorem d_M_twoOf_157 : decode m_M_twoOf.2.1 157 = .ok (.if_icmp .ge 9, 3) := by decide +kernel
theorem d_M_twoOf_160 : decode m_M_twoOf.2.1 160 = .ok (.iinc 14 1, 3) := by decide +kernel
theorem d_M_twoOf_163 : decode m_M_twoOf.2.1 163 = .ok (.goto 125, 3) := by decide +kernel
theorem d_M_twoOf_166 : decode m_M_twoOf.2.1 166 = .ok (.iconst 0, 1) := by decide +kernel
theorem d_M_twoOf_167 : decode m_M_twoOf.2.1 167 = .ok (.istore 14, 2) := by decide +kernel
theorem d_M_twoOf_169 : decode m_M_twoOf.2.1 169 = .ok (.iload 17, 2) := by decide +kernel
theorem d_M_twoOf_171 : decode m_M_twoOf.2.1 171 = .ok (.aload_n 0, 1) := by decide +kernel
theorem d_M_twoOf_172 : decode m_M_twoOf.2.1 172 = .ok (.iload 16, 2) := by decide +kernel
theorem d_M_twoOf_174 : decode m_M_twoOf.2.1 174 = .ok (.iload 18, 2) := by decide +kernel
theorem d_M_twoOf_176 : decode m_M_twoOf.2.1 176 = .ok (.invokevirtual 107, 3) := by decide +kernel
theorem d_M_twoOf_179 : decode m_M_twoOf.2.1 179 = .ok (.aload_n 0, 1) := by decide +kernel
theorem d_M_twoOf_180 : decode m_M_twoOf.2.1 180 = .ok (.getfield 95, 3) := by decide +kernel
theorem d_M_twoOf_183 : decode m_M_twoOf.2.1 183 = .ok (.iadd, 1) := by decide +kernel
theorem d_M_twoOf_184 : decode m_M_twoOf.2.1 184 = .ok (.isub, 1) := by decide +kernel
theorem d_M_twoOf_185 : decode m_M_twoOf.2.1 185 = .ok (.istore 17, 2) := by decide +kernel
theorem d_M_twoOf_187 : decode m_M_twoOf.2.1 187 = .ok (.iload 6, 2) := by decide +kernel
theorem d_M_twoOf_189 : decode m_M_twoOf.2.1 189 = .ok (.iconst 1, 1) := by decide +kernel
theorem d_M_twoOf_190 : decode m_M_twoOf.2.1 190 = .ok (.iload 18, 2) := by decide +kernel
theorem d_M_twoOf_192 : decode m_M_twoOf.2.1 192 = .ok (.ishl, 1) := by decide +kernel
theorem d_M_twoOf_193 : decode m_M_twoOf.2.1 193 = .ok (.iconst (-1), 1) := by decide +kernel
theorem d_M_twoOf_194 : decode m_M_twoOf.2.1 194 = .ok (.ixor, 1) := by decide +kernel
theorem d_M_twoOf_195 : decode m_M_twoOf.2.1 195 = .ok (.iand, 1) := by decide +kernel
theorem d_M_twoOf_196 : decode m_M_twoOf.2.1 196 = .ok (.istore 6, 2) := by decide +kernel
theorem d_M_twoOf_198 : decode m_M_twoOf.2.1 198 = .ok (.iload 18, 2) := by decide +kernel
theorem d_M_twoOf_200 : decode m_M_twoOf.2.1 200 = .ok (.istore 13, 2) := by decide +kernel
theorem d_M_twoOf_202 : decode m_M_twoOf.2.1 202 = .ok (.iload 15, 2) := by decide +kernel
theorem d_M_twoOf_204 : decode m_M_twoOf.2.1 204 = .ok (.ifCond .eq 8, 3) := by decide +kernel
theorem d_M_twoOf_207 : decode m_M_twoOf.2.1 207 = .ok (.iload 18, 2) := by decide +kernel
theorem d_M_twoOf_209 : decode m_M_twoOf.2.1 209 = .ok (.goto 5, 3) := by decide +kernel
theorem d_M_twoOf_212 : decode m_M_twoOf.2.1 212 = .ok (.iload 7, 2) := by decide +kernel
theorem d_M_twoOf_214 : decode m_M_twoOf.2.1 214 = .ok (.istore 7, 2) := by decide +kernel
theorem d_M_twoOf_216 : decode m_M_twoOf.2.1 216 = .ok (.iload 15, 2) := by decide +kernel
theorem d_M_twoOf_218 : decode m_M_twoOf.2.1 218 = .ok (.ifCond .eq 8, 3) := by decide +kernel
theorem d_M_twoOf_221 : decode m_M_twoOf.2.1 221 = .ok (.iload 8, 2) := by decide +kernel
theorem d_M_twoOf_223 : decode m_M_twoOf.2.1 223 = .ok (.goto 5, 3) := by decide +kernel
theorem d_M_twoOf_226 : decode m_M_twoOf.2.1 226 = .ok (.iload 18, 2) := by decide +kernel
theorem d_M_twoOf_228 : decode m_M_twoOf.2.1 228 = .ok (.istore 8, 2) := by decide +kernel
theorem d_M_twoOf_230 : decode m_M_twoOf.2.1 230 = .ok (.iload 15, 2) := by decide +kernel
theorem d_M_twoOf_232 : decode m_M_twoOf.2.1 232 = .ok (.ifCond .eq 8, 3) := by decide +kernel
theorem d_M_twoOf_235 : decode m_M_twoOf.2.1 235 = .ok (.iload 17, 2) := by decide +kernel
theorem d_M_twoOf_237 : decode m_M_twoOf.2.1 237 = .ok (.goto 5, 3) := by decide +kernel
theorem d_M_twoOf_240 : decode m_M_twoOf.2.1 240 = .ok (.iload 9, 2) := by decide +kernel
theorem d_M_twoOf_242 : decode m_M_twoOf.2.1 242 = .ok (.istore 9, 2) := by decide +kernel
theorem d_M_twoOf_244 : decode m_M_twoOf.2.1 244 = .ok (.iload 15, 2) := by decide +kernel
theorem d_M_twoOf_246 : decode m_M_twoOf.2.1 246 = .ok (.ifCond .eq 8, 3) := by decide +kernel
theorem d_M_twoOf_249 : decode m_M_twoOf.2.1 249 = .ok (.iload 10, 2) := by decide +kernel
theorem d_M_twoOf_251 : decode m_M_twoOf.2.1 251 = .ok (.goto 5, 3) := by decide +kernel
theorem d_M_twoOf_254 : decode m_M_twoOf.2.1 254 = .ok (.iload 17, 2) := by decide +kernel
theorem d_M_twoOf_256 : decode m_M_twoOf.2.1 256 = .ok (.istore 10, 2) := by decide +kernel
theorem d_M_twoOf_258 : decode m_M_twoOf.2.1 258 = .ok (.iload 11, 2) := by decide +kernel
theorem d_M_twoOf_260 : decode m_M_twoOf.2.1 260 = .ok (.iload 15, 2) := by decide +kernel
theorem d_M_twoOf_262 : decode m_M_twoOf.2.1 262 = .ok (.ifCond .eq 7, 3) := by decide +kernel
theorem d_M_twoOf_265 : decode m_M_twoOf.2.1 265 = .ok (.iconst 1, 1) := by decide +kernel
theorem d_M_twoOf_266 : decode m_M_twoOf.2.1 266 = .ok (.goto 4, 3) := by decide +kernel
theorem d_M_twoOf_269 : decode m_M_twoOf.2.1 269 = .ok (.iconst 0, 1) := by decide +kernel
theorem d_M_twoOf_270 : decode m_M_twoOf.2.1 270 = .ok (.iadd, 1) := by decide +kernel
theorem d_M_twoOf_271 : decode m_M_twoOf.2.1 271 = .ok (.istore 11, 2) := by decide +kernel
theorem d_M_twoOf_273 : decode m_M_twoOf.2.1 273 = .ok (.iload 12, 2) := by decide +kernel
theorem d_M_twoOf_275 : decode m_M_twoOf.2.1 275 = .ok (.iload 15, 2) := by decide +kernel
theorem d_M_twoOf_277 : decode m_M_twoOf.2.1 277 = .ok (.ifCond .eq 7, 3) := by decide +kernel
theorem d_M_twoOf_280 : decode m_M_twoOf.2.1 280 = .ok (.iconst 0, 1) := by decide +kernel
theorem d_M_twoOf_281 : decode m_M_twoOf.2.1 281 = .ok (.goto 4, 3) := by decide +kernel
theorem d_M_twoOf_284 : decode m_M_twoOf.2.1 284 = .ok (.iconst 1, 1) := by decide +kernel
theorem d_M_twoOf_285 : decode m_M_twoOf.2.1 285 = .ok (.iadd, 1) := by decide +kernel
theorem d_M_twoOf_286 : decode m_M_twoOf.2.1 286 = .ok (.istore 12, 2) := by decide +kernel
theorem d_M_twoOf_288 : decode m_M_twoOf.2.1 288 = .ok (.iload 15, 2) := by decide +kernel
theorem d_M_twoOf_290 : decode m_M_twoOf.2.1 290 = .ok (.ifCond .ne 7, 3) := by decide +kernel
theorem d_M_twoOf_293 : decode m_M_twoOf.2.1 293 = .ok (.iconst 1, 1) := by decide +kernel
theorem d_M_twoOf_294 : decode m_M_twoOf.2.1 294 = .ok (.goto 4, 3) := by decide +kernel
theorem d_M_twoOf_297 : decode m_M_twoOf.2.1 297 = .ok (.iconst 0, 1) := by decide +kernel
theorem d_M_twoOf_298 : decode m_M_twoOf.2.1 298 = .ok (.istore 15, 2) := by decide +kernel
theorem d_M_twoOf_300 : decode m_M_twoOf.2.1 300 = .ok (.goto (-219), 3) := by decide +kernel
theorem d_M_twoOf_303 : decode m_M_twoOf.2.1 303 = .ok (.iload 5, 2) := by decide +kernel
theorem d_M_twoOf_305 : decode m_M_twoOf.2.1 305 = .ok (.ifCond .ne 8, 3) := by decide +kernel
theorem d_M_twoOf_308 : decode m_M_twoOf.2.1 308 = .ok (.iload 11, 2) := by decide +kernel
theorem d_M_twoOf_310 : decode m_M_twoOf.2.1 310 = .ok (.goto 16, 3) := by decide +kernel
theorem d_M_twoOf_313 : decode m_M_twoOf.2.1 313 = .ok (.iload 5, 2) := by decide +kernel
theorem d_M_twoOf_315 : decode m_M_twoOf.2.1 315 = .ok (.iconst 1, 1) := by decide +kernel
theorem d_M_twoOf_316 : decode m_M_twoOf.2.1 316 = .ok (.if_icmp .ne 8, 3) := by decide +kernel
theorem d_M_twoOf_319 : decode m_M_twoOf.2.1 319 = .ok (.iload 12, 2) := by decide +kernel
theorem d_M_twoOf_321 : decode m_M_twoOf.2.1 321 = .ok (.goto 5, 3) := by decide +kernel
theorem d_M_twoOf_324 : decode m_M_twoOf.2.1 324 = .ok (.iload 13, 2) := by decide +kernel
theorem d_M_twoOf_326 : decode m_M_twoOf.2.1 326 = .ok (.ireturn, 1) := by decide +kernel
set_option maxHeartbeats 4000000 in
set_option maxRecDepth 20000 in
theorem Vl_M_twoOf_81 (G : Gt) : ∀ (n : Nat) (x2 : Int32) (x4 : Int32) (x5 : Int32) (x6 : Int32) (x7 : Int32) (x8 : Int32) (x9 : Int32) (x10 : Int32) (x11 : Int32) (x12 : Int32) (x13 : Int32) (x14 : Int32) (x15 : Int32) (h : Hp), V G m_M_twoOf 81 [(0, .ref (ad G 31)), (2, .int x2), (4, .int x4), (5, .int x5), (6, .int x6), (7, .int x7), (8, .int x8), (9, .int x9), (10, .int x10), (11, .int x11), (12, .int x12), (13, .int x13), (14, .int x14), (15, .int x15)] [] h κi (l_M_twoOf_81 n x2 x4 x5 x6 x7 x8 x9 x10 x11 x12 x13 x14 x15 h) := by
  intro n
  induction n with
  | zero => intros; exact v_none
  | succ n ih =>
    intro x2 x4 x5 x6 x7 x8 x9 x10 x11 x12 x13 x14 x15 h
    rw [l_M_twoOf_81]
    refine v_iload 12 d_M_twoOf_81 rfl ?_
    refine v_iconst 2 d_M_twoOf_83 rfl ?_
    refine v_icmp_ge 303 d_M_twoOf_84 (by decide) (fun c5 => ?_) (fun c5 => ?_)
    · refine v_iload 3 d_M_twoOf_303 rfl ?_
      refine v_if_ne 313 d_M_twoOf_305 (by decide) (fun c6 => ?_) (fun c6 => ?_)
      · refine v_iload 9 d_M_twoOf_308 rfl ?_
        refine v_goto 326 d_M_twoOf_310 (by decide) ?_
        exact v_iret rfl d_M_twoOf_326
      · refine v_iload 3 d_M_twoOf_313 rfl ?_
        refine v_iconst 1 d_M_twoOf_315 rfl ?_
        refine v_icmp_ne 324 d_M_twoOf_316 (by decide) (fun c7 => ?_) (fun c7 => ?_)
        · refine v_iload 10 d_M_twoOf_319 rfl ?_
          refine v_goto 326 d_M_twoOf_321 (by decide) ?_
          exact v_iret rfl d_M_twoOf_326
        · refine v_iload 11 d_M_twoOf_324 rfl ?_
          exact v_iret rfl d_M_twoOf_326
    · refine v_iload 13 d_M_twoOf_87 rfl ?_
      refine v_if_eq 97 d_M_twoOf_89 (by decide) (fun c8 => ?_) (fun c8 => ?_)
      · refine v_iload 6 d_M_twoOf_97 rfl ?_
        refine v_istore [(16, .int x8), (0, .ref (ad G 31)), (2, .int x2), (4, .int x4), (5, .int x5), (6, .int x6), (7, .int x7), (8, .int x8), (9, .int x9), (10, .int x10), (11, .int x11), (12, .int x12), (13, .int x13), (14, .int x14), (15, .int x15)] d_M_twoOf_99 (by decide) rfl ?_
        refine v_iload 14 d_M_twoOf_101 rfl ?_
        refine v_if_eq_t 111 d_M_twoOf_103 (by decide) c8 ?_
        refine v_iload 9 d_M_twoOf_111 rfl ?_
        refine v_istore [(17, .int x10), (16, .int x8), (0, .ref (ad G 31)), (2, .int x2), (4, .int x4), (5, .int x5), (6, .int x6), (7, .int x7), (8, .int x8), (9, .int x9), (10, .int x10), (11, .int x11), (12, .int x12), (13, .int x13), (14, .int x14), (15, .int x15)] d_M_twoOf_113 (by decide) rfl ?_
        refine v_aload_n 2 d_M_twoOf_115 rfl rfl ?_
        refine v_iload 1 d_M_twoOf_116 rfl ?_
        refine v_iload 15 d_M_twoOf_118 rfl ?_
        refine v_if_eq_t 127 d_M_twoOf_120 (by decide) c8 ?_
        refine v_iload 4 d_M_twoOf_127 rfl ?_
        refine v_iload 6 d_M_twoOf_129 rfl ?_
        refine v_callVi (As := [.int x8, .int x4, .int x6]) (rest := []) (c_M_nextOf G x8 x4 x6 h) co_M_126 io_M_nextOf o_31 ⟨by decide, by decide⟩ rfl rfl (Nat.le_of_ble_eq_true rfl) d_M_twoOf_131 (fun r9 h9 _ => ?_)
        refine v_istore [(18, .int r9), (17, .int x10), (16, .int x8), (0, .ref (ad G 31)), (2, .int x2), (4, .int x4), (5, .int x5), (6, .int x6), (7, .int x7), (8, .int x8), (9, .int x9), (10, .int x10), (11, .int x11), (12, .int x12), (13, .int x13), (14, .int x14), (15, .int x15)] d_M_twoOf_134 (by decide) rfl ?_
        refine v_iload 0 d_M_twoOf_136 rfl ?_
        refine v_iconst (-1) d_M_twoOf_138 rfl ?_
        refine v_icmp_eq 160 d_M_twoOf_139 (by decide) (fun c10 => ?_) (fun c10 => ?_)
        · refine v_iinc (x14 + 1) 15 [(14, .int (x14 + 1)), (18, .int r9), (17, .int x10), (16, .int x8), (0, .ref (ad G 31)), (2, .int x2), (4, .int x4), (5, .int x5), (6, .int x6), (7, .int x7), (8, .int x8), (9, .int x9), (10, .int x10), (11, .int x11), (12, .int x12), (13, .int x13), (15, .int x15)] d_M_twoOf_160 rfl rfl (by decide) rfl ?_
          refine v_goto 288 d_M_twoOf_163 (by decide) ?_
          refine v_iload 16 d_M_twoOf_288 rfl ?_
          refine v_if_ne_t 297 d_M_twoOf_290 (by decide) c8 ?_
          refine v_iconst 1 d_M_twoOf_293 rfl ?_
          refine v_goto 298 d_M_twoOf_294 (by decide) ?_
          refine v_istore [(15, .int 1), (14, .int (x14 + 1)), (18, .int r9), (17, .int x10), (16, .int x8), (0, .ref (ad G 31)), (2, .int x2), (4, .int x4), (5, .int x5), (6, .int x6), (7, .int x7), (8, .int x8), (9, .int x9), (10, .int x10), (11, .int x11), (12, .int x12), (13, .int x13)] d_M_twoOf_298 (by decide) rfl ?_
          refine v_goto 81 d_M_twoOf_300 (by decide) ?_
          exact v_sub [5, 6, 7, 8, 9, 10, 11, 12, 13, 14, 15, 16, 1, 0] rfl (ih x2 x4 x5 x6 x7 x8 x9 x10 x11 x12 x13 (x14 + 1) 1 h9)
        · refine v_iload 1 d_M_twoOf_142 rfl ?_
          refine v_aload_n 3 d_M_twoOf_144 rfl rfl ?_
          refine v_iload 2 d_M_twoOf_145 rfl ?_
          refine v_iload 0 d_M_twoOf_147 rfl ?_
          refine v_callVi (As := [.int x8, .int r9]) (rest := [.int x10]) (c_M_farOf G x8 r9 h9) co_M_107 io_M_farOf o_31 ⟨by decide, by decide⟩ rfl rfl (Nat.le_of_ble_eq_true rfl) d_M_twoOf_149 (fun r11 h11 _ => ?_)
          refine v_aload_n 3 d_M_twoOf_152 rfl rfl ?_
          refine v_geti fl_M_95 o_31 rfl d_M_twoOf_153 ?_
          refine v_iadd d_M_twoOf_156 ?_
          refine v_icmp_ge 166 d_M_twoOf_157 (by decide) (fun c12 => ?_) (fun c12 => ?_)
          · refine v_iconst 0 d_M_twoOf_166 rfl ?_
            refine v_istore [(14, .int 0), (18, .int r9), (17, .int x10), (16, .int x8), (0, .ref (ad G 31)), (2, .int x2), (4, .int x4), (5, .int x5), (6, .int x6), (7, .int x7), (8, .int x8), (9, .int x9), (10, .int x10), (11, .int x11), (12, .int x12), (13, .int x13), (15, .int x15)] d_M_twoOf_167 (by decide) rfl ?_
            refine v_iload 2 d_M_twoOf_169 rfl ?_
            refine v_aload_n 4 d_M_twoOf_171 rfl rfl ?_
            refine v_iload 3 d_M_twoOf_172 rfl ?_
            refine v_iload 1 d_M_twoOf_174 rfl ?_
            refine v_callVi (As := [.int x8, .int r9]) (rest := [.int x10]) (c_M_farOf G x8 r9 h11) co_M_107 io_M_farOf o_31 ⟨by decide, by decide⟩ rfl rfl (Nat.le_of_ble_eq_true rfl) d_M_twoOf_176 (fun r13 h13 _ => ?_)
            refine v_aload_n 4 d_M_twoOf_179 rfl rfl ?_
            refine v_geti fl_M_95 o_31 rfl d_M_twoOf_180 ?_
            refine v_iadd d_M_twoOf_183 ?_
            refine v_isub d_M_twoOf_184 ?_
            refine v_istore [(17, .int (x10 - (r13 + (h13 31 7)))), (14, .int 0), (18, .int r9), (16, .int x8), (0, .ref (ad G 31)), (2, .int x2), (4, .int x4), (5, .int x5), (6, .int x6), (7, .int x7), (8, .int x8), (9, .int x9), (10, .int x10), (11, .int x11), (12, .int x12), (13, .int x13), (15, .int x15)] d_M_twoOf_185 (by decide) rfl ?_
            refine v_iload 8 d_M_twoOf_187 rfl ?_
            refine v_iconst 1 d_M_twoOf_189 rfl ?_
            refine v_iload 2 d_M_twoOf_190 rfl ?_
            refine v_ishl d_M_twoOf_192 ?_
            refine v_iconst (-1) d_M_twoOf_193 rfl ?_
            refine v_ixor d_M_twoOf_194 ?_
            refine v_iand d_M_twoOf_195 ?_
            refine v_istore [(6, .int (x6 &&& (((1 : Int32) <<< (r9 &&& 31)) ^^^ (-1)))), (17, .int (x10 - (r13 + (h13 31 7)))), (14, .int 0), (18, .int r9), (16, .int x8), (0, .ref (ad G 31)), (2, .int x2), (4, .int x4), (5, .int x5), (7, .int x7), (8, .int x8), (9, .int x9), (10, .int x10), (11, .int x11), (12, .int x12), (13, .int x13), (15, .int x15)] d_M_twoOf_196 (by decide) rfl ?_
            refine v_iload 3 d_M_twoOf_198 rfl ?_
            refine v_istore [(13, .int r9), (6, .int (x6 &&& (((1 : Int32) <<< (r9 &&& 31)) ^^^ (-1)))), (17, .int (x10 - (r13 + (h13 31 7)))), (14, .int 0), (18, .int r9), (16, .int x8), (0, .ref (ad G 31)), (2, .int x2), (4, .int x4), (5, .int x5), (7, .int x7), (8, .int x8), (9, .int x9), (10, .int x10), (11, .int x11), (12, .int x12), (15, .int x15)] d_M_twoOf_200 (by decide) rfl ?_
            refine v_iload 16 d_M_twoOf_202 rfl ?_
            refine v_if_eq_t 212 d_M_twoOf_204 (by decide) c8 ?_
            refine v_iload 10 d_M_twoOf_212 rfl ?_
            refine v_istore [(7, .int x7), (13, .int r9), (6, .int (x6 &&& (((1 : Int32) <<< (r9 &&& 31)) ^^^ (-1)))), (17, .int (x10 - (r13 + (h13 31 7)))), (14, .int 0), (18, .int r9), (16, .int x8), (0, .ref (ad G 31)), (2, .int x2), (4, .int x4), (5, .int x5), (8, .int x8), (9, .int x9), (10, .int x10), (11, .int x11), (12, .int x12), (15, .int x15)] d_M_twoOf_214 (by decide) rfl ?_
            refine v_iload 16 d_M_twoOf_216 rfl ?_
            refine v_if_eq_t 226 d_M_twoOf_218 (by decide) c8 ?_
            refine v_iload 5 d_M_twoOf_226 rfl ?_
            refine v_istore [(8, .int r9), (7, .int x7), (13, .int r9), (6, .int (x6 &&& (((1 : Int32) <<< (r9 &&& 31)) ^^^ (-1)))), (17, .int (x10 - (r13 + (h13 31 7)))), (14, .int 0), (18, .int r9), (16, .int x8), (0, .ref (ad G 31)), (2, .int x2), (4, .int x4), (5, .int x5), (9, .int x9), (10, .int x10), (11, .int x11), (12, .int x12), (15, .int x15)] d_M_twoOf_228 (by decide) rfl ?_
            refine v_iload 16 d_M_twoOf_230 rfl ?_
            refine v_if_eq_t 240 d_M_twoOf_232 (by decide) c8 ?_
            refine v_iload 12 d_M_twoOf_240 rfl ?_
            refine v_istore [(9, .int x9), (8, .int r9), (7, .int x7), (13, .int r9), (6, .int (x6 &&& (((1 : Int32) <<< (r9 &&& 31)) ^^^ (-1)))), (17, .int (x10 - (r13 + (h13 31 7)))), (14, .int 0), (18, .int r9), (16, .int x8), (0, .ref (ad G 31)), (2, .int x2), (4, .int x4), (5, .int x5), (10, .int x10), (11, .int x11), (12, .int x12), (15, .int x15)] d_M_twoOf_242 (by decide) rfl ?_
            refine v_iload 16 d_M_twoOf_244 rfl ?_
            refine v_if_eq_t 254 d_M_twoOf_246 (by decide) c8 ?_
            refine v_iload 5 d_M_twoOf_254 rfl ?_
            refine v_istore [(10, .int (x10 - (r13 + (h13 31 7)))), (9, .int x9), (8, .int r9), (7, .int x7), (13, .int r9), (6, .int (x6 &&& (((1 : Int32) <<< (r9 &&& 31)) ^^^ (-1)))), (17, .int (x10 - (r13 + (h13 31 7)))), (14, .int 0), (18, .int r9), (16, .int x8), (0, .ref (ad G 31)), (2, .int x2), (4, .int x4), (5, .int x5), (11, .int x11), (12, .int x12), (15, .int x15)] d_M_twoOf_256 (by decide) rfl ?_
            refine v_iload 14 d_M_twoOf_258 rfl ?_
            refine v_iload 16 d_M_twoOf_260 rfl ?_
            refine v_if_eq_t 269 d_M_twoOf_262 (by decide) c8 ?_
            refine v_iconst 0 d_M_twoOf_269 rfl ?_
            refine v_iadd d_M_twoOf_270 ?_
            refine v_istore [(11, .int (x11 + 0)), (10, .int (x10 - (r13 + (h13 31 7)))), (9, .int x9), (8, .int r9), (7, .int x7), (13, .int r9), (6, .int (x6 &&& (((1 : Int32) <<< (r9 &&& 31)) ^^^ (-1)))), (17, .int (x10 - (r13 + (h13 31 7)))), (14, .int 0), (18, .int r9), (16, .int x8), (0, .ref (ad G 31)), (2, .int x2), (4, .int x4), (5, .int x5), (12, .int x12), (15, .int x15)] d_M_twoOf_271 (by decide) rfl ?_
            refine v_iload 15 d_M_twoOf_273 rfl ?_
            refine v_iload 16 d_M_twoOf_275 rfl ?_
            refine v_if_eq_t 284 d_M_twoOf_277 (by decide) c8 ?_
            refine v_iconst 1 d_M_twoOf_284 rfl ?_
            refine v_iadd d_M_twoOf_285 ?_
            refine v_istore [(12, .int (x12 + 1)), (11, .int (x11 + 0)), (10, .int (x10 - (r13 + (h13 31 7)))), (9, .int x9), (8, .int r9), (7, .int x7), (13, .int r9), (6, .int (x6 &&& (((1 : Int32) <<< (r9 &&& 31)) ^^^ (-1)))), (17, .int (x10 - (r13 + (h13 31 7)))), (14, .int 0), (18, .int r9), (16, .int x8), (0, .ref (ad G 31)), (2, .int x2), (4, .int x4), (5, .int x5), (15, .int x15)] d_M_twoOf_286 (by decide) rfl ?_
            refine v_iload 16 d_M_twoOf_288 rfl ?_
            refine v_if_ne_t 297 d_M_twoOf_290 (by decide) c8 ?_
            refine v_iconst 1 d_M_twoOf_293 rfl ?_
            refine v_goto 298 d_M_twoOf_294 (by decide) ?_
            refine v_istore [(15, .int 1), (12, .int (x12 + 1)), (11, .int (x11 + 0)), (10, .int (x10 - (r13 + (h13 31 7)))), (9, .int x9), (8, .int r9), (7, .int x7), (13, .int r9), (6, .int (x6 &&& (((1 : Int32) <<< (r9 &&& 31)) ^^^ (-1)))), (17, .int (x10 - (r13 + (h13 31 7)))), (14, .int 0), (18, .int r9), (16, .int x8), (0, .ref (ad G 31)), (2, .int x2), (4, .int x4), (5, .int x5)] d_M_twoOf_298 (by decide) rfl ?_
            refine v_goto 81 d_M_twoOf_300 (by decide) ?_
            exact v_sub [13, 14, 15, 16, 8, 6, 5, 4, 3, 2, 1, 7, 10, 0] rfl (ih x2 x4 x5 (x6 &&& (((1 : Int32) <<< (r9 &&& 31)) ^^^ (-1))) x7 r9 x9 (x10 - (r13 + (h13 31 7))) (x11 + 0) (x12 + 1) r9 0 1 h13)
          · refine v_iinc (x14 + 1) 15 [(14, .int (x14 + 1)), (18, .int r9), (17, .int x10), (16, .int x8), (0, .ref (ad G 31)), (2, .int x2), (4, .int x4), (5, .int x5), (6, .int x6), (7, .int x7), (8, .int x8), (9, .int x9), (10, .int x10), (11, .int x11), (12, .int x12), (13, .int x13), (15, .int x15)] d_M_twoOf_160 rfl rfl (by decide) rfl ?_
            refine v_goto 288 d_M_twoOf_163 (by decide) ?_
            refine v_iload 16 d_M_twoOf_288 rfl ?_
            refine v_if_ne_t 297 d_M_twoOf_290 (by decide) c8 ?_
            refine v_iconst 1 d_M_twoOf_293 rfl ?_
            refine v_goto 298 d_M_twoOf_294 (by decide) ?_
            refine v_istore [(15, .int 1), (14, .int (x14 + 1)), (18, .int r9), (17, .int x10), (16, .int x8), (0, .ref (ad G 31)), (2, .int x2), (4, .int x4), (5, .int x5), (6, .int x6), (7, .int x7), (8, .int x8), (9, .int x9), (10, .int x10), (11, .int x11), (12, .int x12), (13, .int x13)] d_M_twoOf_298 (by decide) rfl ?_
            refine v_goto 81 d_M_twoOf_300 (by decide) ?_
            exact v_sub [5, 6, 7, 8, 9, 10, 11, 12, 13, 14, 15, 16, 1, 0] rfl (ih x2 x4 x5 x6 x7 x8 x9 x10 x11 x12 x13 (x14 + 1) 1 h11)
      · refine v_iload 5 d_M_twoOf_92 rfl ?_
        refine v_goto 99 d_M_twoOf_94 (by decide) ?_
        refine v_istore [(16, .int x7), (0, .ref (ad G 31)), (2, .int x2), (4, .int x4), (5, .int x5), (6, .int x6), (7, .int x7), (8, .int x8), (9, .int x9), (10, .int x10), (11, .int x11), (12, .int x12), (13, .int x13), (14, .int x14), (15, .int x15)] d_M_twoOf_99 (by decide) rfl ?_
        refine v_iload 14 d_M_twoOf_101 rfl ?_
        refine v_if_eq_f 111 d_M_twoOf_103 (by decide) c8 ?_
        refine v_iload 8 d_M_twoOf_106 rfl ?_
        refine v_goto 113 d_M_twoOf_108 (by decide) ?_
        refine v_istore [(17, .int x9), (16, .int x7), (0, .ref (ad G 31)), (2, .int x2), (4, .int x4), (5, .int x5), (6, .int x6), (7, .int x7), (8, .int x8), (9, .int x9), (10, .int x10), (11, .int x11), (12, .int x12), (13, .int x13), (14, .int x14), (15, .int x15)] d_M_twoOf_113 (by decide) rfl ?_
        refine v_aload_n 2 d_M_twoOf_115 rfl rfl ?_
        refine v_iload 1 d_M_twoOf_116 rfl ?_
        refine v_iload 15 d_M_twoOf_118 rfl ?_
        refine v_if_eq_f 127 d_M_twoOf_120 (by decide) c8 ?_
        refine v_iload_n 3 d_M_twoOf_123 rfl rfl ?_
        refine v_goto 129 d_M_twoOf_124 (by decide) ?_
        refine v_iload 6 d_M_twoOf_129 rfl ?_
        refine v_callVi (As := [.int x7, .int x2, .int x6]) (rest := []) (c_M_nextOf G x7 x2 x6 h) co_M_126 io_M_nextOf o_31 ⟨by decide, by decide⟩ rfl rfl (Nat.le_of_ble_eq_true rfl) d_M_twoOf_131 (fun r14 h14 _ => ?_)
        refine v_istore [(18, .int r14), (17, .int x9), (16, .int x7), (0, .ref (ad G 31)), (2, .int x2), (4, .int x4), (5, .int x5), (6, .int x6), (7, .int x7), (8, .int x8), (9, .int x9), (10, .int x10), (11, .int x11), (12, .int x12), (13, .int x13), (14, .int x14), (15, .int x15)] d_M_twoOf_134 (by decide) rfl ?_
        refine v_iload 0 d_M_twoOf_136 rfl ?_
        refine v_iconst (-1) d_M_twoOf_138 rfl ?_
        refine v_icmp_eq 160 d_M_twoOf_139 (by decide) (fun c15 => ?_) (fun c15 => ?_)
        · refine v_iinc (x14 + 1) 15 [(14, .int (x14 + 1)), (18, .int r14), (17, .int x9), (16, .int x7), (0, .ref (ad G 31)), (2, .int x2), (4, .int x4), (5, .int x5), (6, .int x6), (7, .int x7), (8, .int x8), (9, .int x9), (10, .int x10), (11, .int x11), (12, .int x12), (13, .int x13), (15, .int x15)] d_M_twoOf_160 rfl rfl (by decide) rfl ?_
          refine v_goto 288 d_M_twoOf_163 (by decide) ?_
          refine v_iload 16 d_M_twoOf_288 rfl ?_
          refine v_if_ne_f 297 d_M_twoOf_290 (by decide) c8 ?_
          refine v_iconst 0 d_M_twoOf_297 rfl ?_
          refine v_istore [(15, .int 0), (14, .int (x14 + 1)), (18, .int r14), (17, .int x9), (16, .int x7), (0, .ref (ad G 31)), (2, .int x2), (4, .int x4), (5, .int x5), (6, .int x6), (7, .int x7), (8, .int x8), (9, .int x9), (10, .int x10), (11, .int x11), (12, .int x12), (13, .int x13)] d_M_twoOf_298 (by decide) rfl ?_
          refine v_goto 81 d_M_twoOf_300 (by decide) ?_
          exact v_sub [5, 6, 7, 8, 9, 10, 11, 12, 13, 14, 15, 16, 1, 0] rfl (ih x2 x4 x5 x6 x7 x8 x9 x10 x11 x12 x13 (x14 + 1) 0 h14)
        · refine v_iload 1 d_M_twoOf_142 rfl ?_
          refine v_aload_n 3 d_M_twoOf_144 rfl rfl ?_
          refine v_iload 2 d_M_twoOf_145 rfl ?_
          refine v_iload 0 d_M_twoOf_147 rfl ?_
          refine v_callVi (As := [.int x7, .int r14]) (rest := [.int x9]) (c_M_farOf G x7 r14 h14) co_M_107 io_M_farOf o_31 ⟨by decide, by decide⟩ rfl rfl (Nat.le_of_ble_eq_true rfl) d_M_twoOf_149 (fun r16 h16 _ => ?_)
          refine v_aload_n 3 d_M_twoOf_152 rfl rfl ?_
          refine v_geti fl_M_95 o_31 rfl d_M_twoOf_153 ?_
          refine v_iadd d_M_twoOf_156 ?_
          refine v_icmp_ge 166 d_M_twoOf_157 (by decide) (fun c17 => ?_) (fun c17 => ?_)
          · refine v_iconst 0 d_M_twoOf_166 rfl ?_
            refine v_istore [(14, .int 0), (18, .int r14), (17, .int x9), (16, .int x7), (0, .ref (ad G 31)), (2, .int x2), (4, .int x4), (5, .int x5), (6, .int x6), (7, .int x7), (8, .int x8), (9, .int x9), (10, .int x10), (11, .int x11), (12, .int x12), (13, .int x13), (15, .int x15)] d_M_twoOf_167 (by decide) rfl ?_
            refine v_iload 2 d_M_twoOf_169 rfl ?_
            refine v_aload_n 4 d_M_twoOf_171 rfl rfl ?_
            refine v_iload 3 d_M_twoOf_172 rfl ?_
            refine v_iload 1 d_M_twoOf_174 rfl ?_
            refine v_callVi (As := [.int x7, .int r14]) (rest := [.int x9]) (c_M_farOf G x7 r14 h16) co_M_107 io_M_farOf o_31 ⟨by decide, by decide⟩ rfl rfl (Nat.le_of_ble_eq_true rfl) d_M_twoOf_176 (fun r18 h18 _ => ?_)
            refine v_aload_n 4 d_M_twoOf_179 rfl rfl ?_
            refine v_geti fl_M_95 o_31 rfl d_M_twoOf_180 ?_
            refine v_iadd d_M_twoOf_183 ?_
            refine v_isub d_M_twoOf_184 ?_
            refine v_istore [(17, .int (x9 - (r18 + (h18 31 7)))), (14, .int 0), (18, .int r14), (16, .int x7), (0, .ref (ad G 31)), (2, .int x2), (4, .int x4), (5, .int x5), (6, .int x6), (7, .int x7), (8, .int x8), (9, .int x9), (10, .int x10), (11, .int x11), (12, .int x12), (13, .int x13), (15, .int x15)] d_M_twoOf_185 (by decide) rfl ?_
            refine v_iload 8 d_M_twoOf_187 rfl ?_
            refine v_iconst 1 d_M_twoOf_189 rfl ?_
            refine v_iload 2 d_M_twoOf_190 rfl ?_
            refine v_ishl d_M_twoOf_192 ?_
            refine v_iconst (-1) d_M_twoOf_193 rfl ?_
            refine v_ixor d_M_twoOf_194 ?_
            refine v_iand d_M_twoOf_195 ?_
            refine v_istore [(6, .int (x6 &&& (((1 : Int32) <<< (r14 &&& 31)) ^^^ (-1)))), (17, .int (x9 - (r18 + (h18 31 7)))), (14, .int 0), (18, .int r14), (16, .int x7), (0, .ref (ad G 31)), (2, .int x2), (4, .int x4), (5, .int x5), (7, .int x7), (8, .int x8), (9, .int x9), (10, .int x10), (11, .int x11), (12, .int x12), (13, .int x13), (15, .int x15)] d_M_twoOf_196 (by decide) rfl ?_
            refine v_iload 3 d_M_twoOf_198 rfl ?_
            refine v_istore [(13, .int r14), (6, .int (x6 &&& (((1 : Int32) <<< (r14 &&& 31)) ^^^ (-1)))), (17, .int (x9 - (r18 + (h18 31 7)))), (14, .int 0), (18, .int r14), (16, .int x7), (0, .ref (ad G 31)), (2, .int x2), (4, .int x4), (5, .int x5), (7, .int x7), (8, .int x8), (9, .int x9), (10, .int x10), (11, .int x11), (12, .int x12), (15, .int x15)] d_M_twoOf_200 (by decide) rfl ?_
            refine v_iload 16 d_M_twoOf_202 rfl ?_
            refine v_if_eq_f 212 d_M_twoOf_204 (by decide) c8 ?_
            refine v_iload 4 d_M_twoOf_207 rfl ?_
            refine v_goto 214 d_M_twoOf_209 (by decide) ?_
            refine v_istore [(7, .int r14), (13, .int r14), (6, .int (x6 &&& (((1 : Int32) <<< (r14 &&& 31)) ^^^ (-1)))), (17, .int (x9 - (r18 + (h18 31 7)))), (14, .int 0), (18, .int r14), (16, .int x7), (0, .ref (ad G 31)), (2, .int x2), (4, .int x4), (5, .int x5), (8, .int x8), (9, .int x9), (10, .int x10), (11, .int x11), (12, .int x12), (15, .int x15)] d_M_twoOf_214 (by decide) rfl ?_
            refine v_iload 16 d_M_twoOf_216 rfl ?_
            refine v_if_eq_f 226 d_M_twoOf_218 (by decide) c8 ?_
            refine v_iload 11 d_M_twoOf_221 rfl ?_
            refine v_goto 228 d_M_twoOf_223 (by decide) ?_
            refine v_istore [(8, .int x8), (7, .int r14), (13, .int r14), (6, .int (x6 &&& (((1 : Int32) <<< (r14 &&& 31)) ^^^ (-1)))), (17, .int (x9 - (r18 + (h18 31 7)))), (14, .int 0), (18, .int r14), (16, .int x7), (0, .ref (ad G 31)), (2, .int x2), (4, .int x4), (5, .int x5), (9, .int x9), (10, .int x10), (11, .int x11), (12, .int x12), (15, .int x15)] d_M_twoOf_228 (by decide) rfl ?_
            refine v_iload 16 d_M_twoOf_230 rfl ?_
            refine v_if_eq_f 240 d_M_twoOf_232 (by decide) c8 ?_
            refine v_iload 4 d_M_twoOf_235 rfl ?_
            refine v_goto 242 d_M_twoOf_237 (by decide) ?_
            refine v_istore [(9, .int (x9 - (r18 + (h18 31 7)))), (8, .int x8), (7, .int r14), (13, .int r14), (6, .int (x6 &&& (((1 : Int32) <<< (r14 &&& 31)) ^^^ (-1)))), (17, .int (x9 - (r18 + (h18 31 7)))), (14, .int 0), (18, .int r14), (16, .int x7), (0, .ref (ad G 31)), (2, .int x2), (4, .int x4), (5, .int x5), (10, .int x10), (11, .int x11), (12, .int x12), (15, .int x15)] d_M_twoOf_242 (by decide) rfl ?_
            refine v_iload 16 d_M_twoOf_244 rfl ?_
            refine v_if_eq_f 254 d_M_twoOf_246 (by decide) c8 ?_
            refine v_iload 13 d_M_twoOf_249 rfl ?_
            refine v_goto 256 d_M_twoOf_251 (by decide) ?_
            refine v_istore [(10, .int x10), (9, .int (x9 - (r18 + (h18 31 7)))), (8, .int x8), (7, .int r14), (13, .int r14), (6, .int (x6 &&& (((1 : Int32) <<< (r14 &&& 31)) ^^^ (-1)))), (17, .int (x9 - (r18 + (h18 31 7)))), (14, .int 0), (18, .int r14), (16, .int x7), (0, .ref (ad G 31)), (2, .int x2), (4, .int x4), (5, .int x5), (11, .int x11), (12, .int x12), (15, .int x15)] d_M_twoOf_256 (by decide) rfl ?_
            refine v_iload 14 d_M_twoOf_258 rfl ?_
            refine v_iload 16 d_M_twoOf_260 rfl ?_
            refine v_if_eq_f 269 d_M_twoOf_262 (by decide) c8 ?_
            refine v_iconst 1 d_M_twoOf_265 rfl ?_
            refine v_goto 270 d_M_twoOf_266 (by decide) ?_
            refine v_iadd d_M_twoOf_270 ?_
            refine v_istore [(11, .int (x11 + 1)), (10, .int x10), (9, .int (x9 - (r18 + (h18 31 7)))), (8, .int x8), (7, .int r14), (13, .int r14), (6, .int (x6 &&& (((1 : Int32) <<< (r14 &&& 31)) ^^^ (-1)))), (17, .int (x9 - (r18 + (h18 31 7)))), (14, .int 0), (18, .int r14), (16, .int x7), (0, .ref (ad G 31)), (2, .int x2), (4, .int x4), (5, .int x5), (12, .int x12), (15, .int x15)] d_M_twoOf_271 (by decide) rfl ?_
            refine v_iload 15 d_M_twoOf_273 rfl ?_
            refine v_iload 16 d_M_twoOf_275 rfl ?_
            refine v_if_eq_f 284 d_M_twoOf_277 (by decide) c8 ?_
            refine v_iconst 0 d_M_twoOf_280 rfl ?_
            refine v_goto 285 d_M_twoOf_281 (by decide) ?_
            refine v_iadd d_M_twoOf_285 ?_
            refine v_istore [(12, .int (x12 + 0)), (11, .int (x11 + 1)), (10, .int x10), (9, .int (x9 - (r18 + (h18 31 7)))), (8, .int x8), (7, .int r14), (13, .int r14), (6, .int (x6 &&& (((1 : Int32) <<< (r14 &&& 31)) ^^^ (-1)))), (17, .int (x9 - (r18 + (h18 31 7)))), (14, .int 0), (18, .int r14), (16, .int x7), (0, .ref (ad G 31)), (2, .int x2), (4, .int x4), (5, .int x5), (15, .int x15)] d_M_twoOf_286 (by decide) rfl ?_
            refine v_iload 16 d_M_twoOf_288 rfl ?_
            refine v_if_ne_f 297 d_M_twoOf_290 (by decide) c8 ?_
            refine v_iconst 0 d_M_twoOf_297 rfl ?_
            refine v_istore [(15, .int 0), (12, .int (x12 + 0)), (11, .int (x11 + 1)), (10, .int x10), (9, .int (x9 - (r18 + (h18 31 7)))), (8, .int x8), (7, .int r14), (13, .int r14), (6, .int (x6 &&& (((1 : Int32) <<< (r14 &&& 31)) ^^^ (-1)))), (17, .int (x9 - (r18 + (h18 31 7)))), (14, .int 0), (18, .int r14), (16, .int x7), (0, .ref (ad G 31)), (2, .int x2), (4, .int x4), (5, .int x5)] d_M_twoOf_298 (by decide) rfl ?_
            refine v_goto 81 d_M_twoOf_300 (by decide) ?_
            exact v_sub [13, 14, 15, 16, 8, 6, 5, 4, 3, 2, 1, 7, 10, 0] rfl (ih x2 x4 x5 (x6 &&& (((1 : Int32) <<< (r14 &&& 31)) ^^^ (-1))) r14 x8 (x9 - (r18 + (h18 31 7))) x10 (x11 + 1) (x12 + 0) r14 0 0 h18)
          · refine v_iinc (x14 + 1) 15 [(14, .int (x14 + 1)), (18, .int r14), (17, .int x9), (16, .int x7), (0, .ref (ad G 31)), (2, .int x2), (4, .int x4), (5, .int x5), (6, .int x6), (7, .int x7), (8, .int x8), (9, .int x9), (10, .int x10), (11, .int x11), (12, .int x12), (13, .int x13), (15, .int x15)] d_M_twoOf_160 rfl rfl (by decide) rfl ?_
            refine v_goto 288 d_M_twoOf_163 (by decide) ?_
            refine v_iload 16 d_M_twoOf_288 rfl ?_
            refine v_if_ne_f 297 d_M_twoOf_290 (by decide) c8 ?_
            refine v_iconst 0 d_M_twoOf_297 rfl ?_
            refine v_istore [(15, .int 0), (14, .int (x14 + 1)), (18, .int r14), (17, .int x9), (16, .int x7), (0, .ref (ad G 31)), (2, .int x2), (4, .int x4), (5, .int x5), (6, .int x6), (7, .int x7), (8, .int x8), (9, .int x9), (10, .int x10), (11, .int x11), (12, .int x12), (13, .int x13)] d_M_twoOf_298 (by decide) rfl ?_
            refine v_goto 81 d_M_twoOf_300 (by decide) ?_
            exact v_sub [5, 6, 7, 8, 9, 10, 11, 12, 13, 14, 15, 16, 1, 0] rfl (ih x2 x4 x5 x6 x7 x8 x9 x10 x11 x12 x13 (x14 + 1) 0 h16)
set_option maxHeartbeats 4000000 in
set_option maxRecDepth 20000 in
theorem c_M_twoOf (G : Gt) (x1 : Int32) (x2 : Int32) (x3 : Int32) (x4 : Int32) (x5 : Int32) (h : Hp) : Cn G m_M_twoOf [.ref (ad G 31), .int x1, .int x2, .int x3, .int x4, .int x5] h κi (f_M_twoOf x1 x2 x3 x4 x5 h) := by
  refine entryV (by decide) (Nat.le_of_ble_eq_true rfl) rfl ?_
  show V G m_M_twoOf 0 [(0, .ref (ad G 31)), (1, .int x1), (2, .int x2), (3, .int x3), (4, .int x4), (5, .int x5)] [] h κi _
  unfold f_M_twoOf
  refine v_aload_n 0 d_M_twoOf_0 rfl rfl ?_
  refine v_iload_n 1 d_M_twoOf_1 rfl rfl ?_
  refine v_callVi (As := [.int x1]) (rest := []) (c_M_isHidden G x1 h) co_M_133 io_M_isHidden o_31 ⟨by decide, by decide⟩ rfl rfl (Nat.le_of_ble_eq_true rfl) d_M_twoOf_2 (fun r1 h1 _ => ?_)
  refine v_if_ne 16 d_M_twoOf_5 (by decide) (fun c2 => ?_) (fun c2 => ?_)
  · refine v_aload_n 0 d_M_twoOf_8 rfl rfl ?_
    refine v_iload_n 3 d_M_twoOf_9 rfl rfl ?_
    refine v_callVi (As := [.int x3]) (rest := []) (c_M_isHidden G x3 h1) co_M_133 io_M_isHidden o_31 ⟨by decide, by decide⟩ rfl rfl (Nat.le_of_ble_eq_true rfl) d_M_twoOf_10 (fun r3 h3 _ => ?_)
    refine v_if_eq 19 d_M_twoOf_13 (by decide) (fun c4 => ?_) (fun c4 => ?_)
    · refine v_iconst 1 d_M_twoOf_19 rfl ?_
      refine v_aload_n 0 d_M_twoOf_20 rfl rfl ?_
      refine v_geti fl_M_67 o_31 rfl d_M_twoOf_21 ?_
      refine v_ishl d_M_twoOf_24 ?_
      refine v_iconst 1 d_M_twoOf_25 rfl ?_
      refine v_isub d_M_twoOf_26 ?_
      refine v_aload_n 0 d_M_twoOf_27 rfl rfl ?_
      refine v_geti fl_M_81 o_31 rfl d_M_twoOf_28 ?_
      refine v_iconst (-1) d_M_twoOf_31 rfl ?_
      refine v_ixor d_M_twoOf_32 ?_
      refine v_iand d_M_twoOf_33 ?_
      refine v_iconst 1 d_M_twoOf_34 rfl ?_
      refine v_iload_n 1 d_M_twoOf_35 rfl rfl ?_
      refine v_ishl d_M_twoOf_36 ?_
      refine v_iconst (-1) d_M_twoOf_37 rfl ?_
      refine v_ixor d_M_twoOf_38 ?_
      refine v_iand d_M_twoOf_39 ?_
      refine v_iconst 1 d_M_twoOf_40 rfl ?_
      refine v_iload_n 3 d_M_twoOf_41 rfl rfl ?_
      refine v_ishl d_M_twoOf_42 ?_
      refine v_iconst (-1) d_M_twoOf_43 rfl ?_
      refine v_ixor d_M_twoOf_44 ?_
      refine v_iand d_M_twoOf_45 ?_
      refine v_istore [(6, .int ((((((1 : Int32) <<< ((h3 31 2) &&& 31)) - 1) &&& ((h3 31 5) ^^^ (-1))) &&& (((1 : Int32) <<< (x1 &&& 31)) ^^^ (-1))) &&& (((1 : Int32) <<< (x3 &&& 31)) ^^^ (-1)))), (0, .ref (ad G 31)), (1, .int x1), (2, .int x2), (3, .int x3), (4, .int x4), (5, .int x5)] d_M_twoOf_46 (by decide) rfl ?_
      refine v_iload_n 2 d_M_twoOf_48 rfl rfl ?_
      refine v_istore [(7, .int x1), (6, .int ((((((1 : Int32) <<< ((h3 31 2) &&& 31)) - 1) &&& ((h3 31 5) ^^^ (-1))) &&& (((1 : Int32) <<< (x1 &&& 31)) ^^^ (-1))) &&& (((1 : Int32) <<< (x3 &&& 31)) ^^^ (-1)))), (0, .ref (ad G 31)), (1, .int x1), (2, .int x2), (3, .int x3), (4, .int x4), (5, .int x5)] d_M_twoOf_49 (by decide) rfl ?_
      refine v_iload_n 5 d_M_twoOf_51 rfl rfl ?_
      refine v_istore [(8, .int x3), (7, .int x1), (6, .int ((((((1 : Int32) <<< ((h3 31 2) &&& 31)) - 1) &&& ((h3 31 5) ^^^ (-1))) &&& (((1 : Int32) <<< (x1 &&& 31)) ^^^ (-1))) &&& (((1 : Int32) <<< (x3 &&& 31)) ^^^ (-1)))), (0, .ref (ad G 31)), (1, .int x1), (2, .int x2), (3, .int x3), (4, .int x4), (5, .int x5)] d_M_twoOf_52 (by decide) rfl ?_
      refine v_aload_n 3 d_M_twoOf_54 rfl rfl ?_
      refine v_geti fl_M_53 o_31 rfl d_M_twoOf_55 ?_
      refine v_istore [(9, .int (h3 31 6)), (8, .int x3), (7, .int x1), (6, .int ((((((1 : Int32) <<< ((h3 31 2) &&& 31)) - 1) &&& ((h3 31 5) ^^^ (-1))) &&& (((1 : Int32) <<< (x1 &&& 31)) ^^^ (-1))) &&& (((1 : Int32) <<< (x3 &&& 31)) ^^^ (-1)))), (0, .ref (ad G 31)), (1, .int x1), (2, .int x2), (3, .int x3), (4, .int x4), (5, .int x5)] d_M_twoOf_58 (by decide) rfl ?_
      refine v_aload_n 4 d_M_twoOf_60 rfl rfl ?_
      refine v_geti fl_M_53 o_31 rfl d_M_twoOf_61 ?_
      refine v_istore [(10, .int (h3 31 6)), (9, .int (h3 31 6)), (8, .int x3), (7, .int x1), (6, .int ((((((1 : Int32) <<< ((h3 31 2) &&& 31)) - 1) &&& ((h3 31 5) ^^^ (-1))) &&& (((1 : Int32) <<< (x1 &&& 31)) ^^^ (-1))) &&& (((1 : Int32) <<< (x3 &&& 31)) ^^^ (-1)))), (0, .ref (ad G 31)), (1, .int x1), (2, .int x2), (3, .int x3), (4, .int x4), (5, .int x5)] d_M_twoOf_64 (by decide) rfl ?_
      refine v_iconst 1 d_M_twoOf_66 rfl ?_
      refine v_istore [(11, .int 1), (10, .int (h3 31 6)), (9, .int (h3 31 6)), (8, .int x3), (7, .int x1), (6, .int ((((((1 : Int32) <<< ((h3 31 2) &&& 31)) - 1) &&& ((h3 31 5) ^^^ (-1))) &&& (((1 : Int32) <<< (x1 &&& 31)) ^^^ (-1))) &&& (((1 : Int32) <<< (x3 &&& 31)) ^^^ (-1)))), (0, .ref (ad G 31)), (1, .int x1), (2, .int x2), (3, .int x3), (4, .int x4), (5, .int x5)] d_M_twoOf_67 (by decide) rfl ?_
      refine v_iconst 1 d_M_twoOf_69 rfl ?_
      refine v_istore [(12, .int 1), (11, .int 1), (10, .int (h3 31 6)), (9, .int (h3 31 6)), (8, .int x3), (7, .int x1), (6, .int ((((((1 : Int32) <<< ((h3 31 2) &&& 31)) - 1) &&& ((h3 31 5) ^^^ (-1))) &&& (((1 : Int32) <<< (x1 &&& 31)) ^^^ (-1))) &&& (((1 : Int32) <<< (x3 &&& 31)) ^^^ (-1)))), (0, .ref (ad G 31)), (1, .int x1), (2, .int x2), (3, .int x3), (4, .int x4), (5, .int x5)] d_M_twoOf_70 (by decide) rfl ?_
      refine v_iconst (-1) d_M_twoOf_72 rfl ?_
      refine v_istore [(13, .int (-1)), (12, .int 1), (11, .int 1), (10, .int (h3 31 6)), (9, .int (h3 31 6)), (8, .int x3), (7, .int x1), (6, .int ((((((1 : Int32) <<< ((h3 31 2) &&& 31)) - 1) &&& ((h3 31 5) ^^^ (-1))) &&& (((1 : Int32) <<< (x1 &&& 31)) ^^^ (-1))) &&& (((1 : Int32) <<< (x3 &&& 31)) ^^^ (-1)))), (0, .ref (ad G 31)), (1, .int x1), (2, .int x2), (3, .int x3), (4, .int x4), (5, .int x5)] d_M_twoOf_73 (by decide) rfl ?_
      refine v_iconst 0 d_M_twoOf_75 rfl ?_
      refine v_istore [(14, .int 0), (13, .int (-1)), (12, .int 1), (11, .int 1), (10, .int (h3 31 6)), (9, .int (h3 31 6)), (8, .int x3), (7, .int x1), (6, .int ((((((1 : Int32) <<< ((h3 31 2) &&& 31)) - 1) &&& ((h3 31 5) ^^^ (-1))) &&& (((1 : Int32) <<< (x1 &&& 31)) ^^^ (-1))) &&& (((1 : Int32) <<< (x3 &&& 31)) ^^^ (-1)))), (0, .ref (ad G 31)), (1, .int x1), (2, .int x2), (3, .int x3), (4, .int x4), (5, .int x5)] d_M_twoOf_76 (by decide) rfl ?_
      refine v_iconst 1 d_M_twoOf_78 rfl ?_
      refine v_istore [(15, .int 1), (14, .int 0), (13, .int (-1)), (12, .int 1), (11, .int 1), (10, .int (h3 31 6)), (9, .int (h3 31 6)), (8, .int x3), (7, .int x1), (6, .int ((((((1 : Int32) <<< ((h3 31 2) &&& 31)) - 1) &&& ((h3 31 5) ^^^ (-1))) &&& (((1 : Int32) <<< (x1 &&& 31)) ^^^ (-1))) &&& (((1 : Int32) <<< (x3 &&& 31)) ^^^ (-1)))), (0, .ref (ad G 31)), (1, .int x1), (2, .int x2), (3, .int x3), (4, .int x4), (5, .int x5)] d_M_twoOf_79 (by decide) rfl ?_
      exact v_sub [10, 12, 14, 15, 9, 8, 7, 6, 5, 4, 3, 2, 1, 0] rfl (Vl_M_twoOf_81 G FUEL x2 x4 x5 ((((((1 : Int32) <<< ((h3 31 2) &&& 31)) - 1) &&& ((h3 31 5) ^^^ (-1))) &&& (((1 : Int32) <<< (x1 &&& 31)) ^^^ (-1))) &&& (((1 : Int32) <<< (x3 &&& 31)) ^^^ (-1))) x1 x3 (h3 31 6) (h3 31 6) 1 1 (-1) 0 1 h3)
    · refine v_bipush (-3) d_M_twoOf_16 rfl ?_
      exact v_iret rfl d_M_twoOf_18
  · refine v_bipush (-3) d_M_twoOf_16 rfl ?_
    exact v_iret rfl d_M_twoOf_18
theorem d_M_two_0 : decode m_M_two.2.1 0 = .ok (.aload_n 0, 1) := by decide +kernel
theorem d_M_two_1 : decode m_M_two.2.1 1 = .ok (.iload_n 1, 1) := by decide +kernel
theorem d_M_two_2 : decode m_M_two.2.1 2 = .ok (.iload_n 2, 1) := by decide +kernel
theorem d_M_two_3 : decode m_M_two.2.1 3 = .ok (.invokevirtual 140, 3) := by decide +kernel
theorem d_M_two_6 : decode m_M_two.2.1 6 = .ok (.ifCond .eq 42, 3) := by decide +kernel
theorem d_M_two_9 : decode m_M_two.2.1 9 = .ok (.aload_n 0, 1) := by decide +kernel
theorem d_M_two_10 : decode m_M_two.2.1 10 = .ok (.iload_n 3, 1) := by decide +kernel
theorem d_M_two_11 : decode m_M_two.2.1 11 = .ok (.iload 4, 2) := by decide +kernel
theorem d_M_two_13 : decode m_M_two.2.1 13 = .ok (.invokevirtual 140, 3) := by decide +kernel
theorem d_M_two_16 : decode m_M_two.2.1 16 = .ok (.ifCond .eq 32, 3) := by decide +kernel
theorem d_M_two_19 : decode m_M_two.2.1 19 = .ok (.iload_n 1, 1) := by decide +kernel
theorem d_M_two_20 : decode m_M_two.2.1 20 = .ok (.iload_n 3, 1) := by decide +kernel
theorem d_M_two_21 : decode m_M_two.2.1 21 = .ok (.if_icmp .eq 27, 3) := by decide +kernel
theorem d_M_two_24 : decode m_M_two.2.1 24 = .ok (.iload 5, 2) := by decide +kernel
theorem d_M_two_26 : decode m_M_two.2.1 26 = .ok (.iconst 0, 1) := by decide +kernel
theorem d_M_two_27 : decode m_M_two.2.1 27 = .ok (.iconst 2, 1) := by decide +kernel
theorem d_M_two_28 : decode m_M_two.2.1 28 = .ok (.invokestatic 60, 3) := by decide +kernel
theorem d_M_two_31 : decode m_M_two.2.1 31 = .ok (.ifCond .eq 17, 3) := by decide +kernel
theorem d_M_two_34 : decode m_M_two.2.1 34 = .ok (.aload_n 0, 1) := by decide +kernel
theorem d_M_two_35 : decode m_M_two.2.1 35 = .ok (.iload_n 1, 1) := by decide +kernel
theorem d_M_two_36 : decode m_M_two.2.1 36 = .ok (.iload_n 2, 1) := by decide +kernel
theorem d_M_two_37 : decode m_M_two.2.1 37 = .ok (.iload_n 3, 1) := by decide +kernel
theorem d_M_two_38 : decode m_M_two.2.1 38 = .ok (.iload 4, 2) := by decide +kernel
theorem d_M_two_40 : decode m_M_two.2.1 40 = .ok (.iload 5, 2) := by decide +kernel
theorem d_M_two_42 : decode m_M_two.2.1 42 = .ok (.invokevirtual 191, 3) := by decide +kernel
theorem d_M_two_45 : decode m_M_two.2.1 45 = .ok (.goto 5, 3) := by decide +kernel
theorem d_M_two_48 : decode m_M_two.2.1 48 = .ok (.bipush (-2), 2) := by decide +kernel
theorem d_M_two_50 : decode m_M_two.2.1 50 = .ok (.ireturn, 1) := by decide +kernel
set_option maxHeartbeats 4000000 in
set_option maxRecDepth 20000 in
theorem c_M_two (G : Gt) (x1 : Int32) (x2 : Int32) (x3 : Int32) (x4 : Int32) (x5 : Int32) (h : Hp) : Cn G m_M_two [.ref (ad G 31), .int x1, .int x2, .int x3, .int x4, .int x5] h κi (f_M_two x1 x2 x3 x4 x5 h) := by
  refine entryV (by decide) (Nat.le_of_ble_eq_true rfl) rfl ?_
  show V G m_M_two 0 [(0, .ref (ad G 31)), (1, .int x1), (2, .int x2), (3, .int x3), (4, .int x4), (5, .int x5)] [] h κi _
  unfold f_M_two
  refine v_aload_n 0 d_M_two_0 rfl rfl ?_
  refine v_iload_n 1 d_M_two_1 rfl rfl ?_
  refine v_iload_n 2 d_M_two_2 rfl rfl ?_
  refine v_callVi (As := [.int x1, .int x2]) (rest := []) (c_M_isWeb G x1 x2 h) co_M_140 io_M_isWeb o_31 ⟨by decide, by decide⟩ rfl rfl (Nat.le_of_ble_eq_true rfl) d_M_two_3 (fun r1 h1 _ => ?_)
  refine v_if_eq 48 d_M_two_6 (by decide) (fun c2 => ?_) (fun c2 => ?_)
  · refine v_bipush (-2) d_M_two_48 rfl ?_
    exact v_iret rfl d_M_two_50
  · refine v_aload_n 0 d_M_two_9 rfl rfl ?_
    refine v_iload_n 3 d_M_two_10 rfl rfl ?_
    refine v_iload 4 d_M_two_11 rfl ?_
    refine v_callVi (As := [.int x3, .int x4]) (rest := []) (c_M_isWeb G x3 x4 h1) co_M_140 io_M_isWeb o_31 ⟨by decide, by decide⟩ rfl rfl (Nat.le_of_ble_eq_true rfl) d_M_two_13 (fun r3 h3 _ => ?_)
    refine v_if_eq 48 d_M_two_16 (by decide) (fun c4 => ?_) (fun c4 => ?_)
    · refine v_bipush (-2) d_M_two_48 rfl ?_
      exact v_iret rfl d_M_two_50
    · refine v_iload_n 1 d_M_two_19 rfl rfl ?_
      refine v_iload_n 3 d_M_two_20 rfl rfl ?_
      refine v_icmp_eq 48 d_M_two_21 (by decide) (fun c5 => ?_) (fun c5 => ?_)
      · refine v_bipush (-2) d_M_two_48 rfl ?_
        exact v_iret rfl d_M_two_50
      · refine v_iload 5 d_M_two_24 rfl ?_
        refine v_iconst 0 d_M_two_26 rfl ?_
        refine v_iconst 2 d_M_two_27 rfl ?_
        refine v_callSi (As := [.int x5, .int 0, .int 2]) (rest := []) (c_M_in G x5 0 2 h3) co_M_60 so_M_in ⟨by decide, by decide⟩ rfl rfl (Nat.le_of_ble_eq_true rfl) d_M_two_28 (fun r6 h6 _ => ?_)
        refine v_if_eq 48 d_M_two_31 (by decide) (fun c7 => ?_) (fun c7 => ?_)
        · refine v_bipush (-2) d_M_two_48 rfl ?_
          exact v_iret rfl d_M_two_50
        · refine v_aload_n 0 d_M_two_34 rfl rfl ?_
          refine v_iload_n 1 d_M_two_35 rfl rfl ?_
          refine v_iload_n 2 d_M_two_36 rfl rfl ?_
          refine v_iload_n 3 d_M_two_37 rfl rfl ?_
          refine v_iload 4 d_M_two_38 rfl ?_
          refine v_iload 5 d_M_two_40 rfl ?_
          refine v_callVi (As := [.int x1, .int x2, .int x3, .int x4, .int x5]) (rest := []) (c_M_twoOf G x1 x2 x3 x4 x5 h6) co_M_191 io_M_twoOf o_31 ⟨by decide, by decide⟩ rfl rfl (Nat.le_of_ble_eq_true rfl) d_M_two_42 (fun r8 h8 _ => ?_)
          refine v_goto 50 d_M_two_45 (by decide) ?_
          exact v_iret rfl d_M_two_50
theorem d_M_seen_0 : decode m_M_seen.2.1 0 = .ok (.iload_n 1, 1) := by decide +kernel
theorem d_M_seen_1 : decode m_M_seen.2.1 1 = .ok (.invokestatic 92, 3) := by decide +kernel
theorem d_M_seen_4 : decode m_M_seen.2.1 4 = .ok (.ifCond .eq 20, 3) := by decide +kernel
theorem d_M_seen_7 : decode m_M_seen.2.1 7 = .ok (.iload_n 2, 1) := by decide +kernel
theorem d_M_seen_8 : decode m_M_seen.2.1 8 = .ok (.iconst 1, 1) := by decide +kernel
theorem d_M_seen_9 : decode m_M_seen.2.1 9 = .ok (.bipush 9, 2) := by decide +kernel
theorem d_M_seen_11 : decode m_M_seen.2.1 11 = .ok (.invokestatic 60, 3) := by decide +kernel
theorem d_M_seen_14 : decode m_M_seen.2.1 14 = .ok (.ifCond .eq 10, 3) := by decide +kernel
theorem d_M_seen_17 : decode m_M_seen.2.1 17 = .ok (.iload_n 3, 1) := by decide +kernel
theorem d_M_seen_18 : decode m_M_seen.2.1 18 = .ok (.invokestatic 92, 3) := by decide +kernel
theorem d_M_seen_21 : decode m_M_seen.2.1 21 = .ok (.ifCond .ne 6, 3) := by decide +kernel
theorem d_M_seen_24 : decode m_M_seen.2.1 24 = .ok (.bipush (-2), 2) := by decide +kernel
theorem d_M_seen_26 : decode m_M_seen.2.1 26 = .ok (.ireturn, 1) := by decide +kernel
theorem d_M_seen_27 : decode m_M_seen.2.1 27 = .ok (.aload_n 0, 1) := by decide +kernel
theorem d_M_seen_28 : decode m_M_seen.2.1 28 = .ok (.getfield 195, 3) := by decide +kernel
theorem d_M_seen_31 : decode m_M_seen.2.1 31 = .ok (.bipush 8, 2) := by decide +kernel
theorem d_M_seen_33 : decode m_M_seen.2.1 33 = .ok (.if_icmp .ne 6, 3) := by decide +kernel
theorem d_M_seen_36 : decode m_M_seen.2.1 36 = .ok (.bipush (-4), 2) := by decide +kernel
theorem d_M_seen_38 : decode m_M_seen.2.1 38 = .ok (.ireturn, 1) := by decide +kernel
theorem d_M_seen_39 : decode m_M_seen.2.1 39 = .ok (.aload_n 0, 1) := by decide +kernel
theorem d_M_seen_40 : decode m_M_seen.2.1 40 = .ok (.getfield 25, 3) := by decide +kernel
theorem d_M_seen_43 : decode m_M_seen.2.1 43 = .ok (.aload_n 0, 1) := by decide +kernel
theorem d_M_seen_44 : decode m_M_seen.2.1 44 = .ok (.getfield 195, 3) := by decide +kernel
theorem d_M_seen_47 : decode m_M_seen.2.1 47 = .ok (.iload_n 1, 1) := by decide +kernel
theorem d_M_seen_48 : decode m_M_seen.2.1 48 = .ok (.iastore, 1) := by decide +kernel
theorem d_M_seen_49 : decode m_M_seen.2.1 49 = .ok (.aload_n 0, 1) := by decide +kernel
theorem d_M_seen_50 : decode m_M_seen.2.1 50 = .ok (.getfield 28, 3) := by decide +kernel
theorem d_M_seen_53 : decode m_M_seen.2.1 53 = .ok (.aload_n 0, 1) := by decide +kernel
theorem d_M_seen_54 : decode m_M_seen.2.1 54 = .ok (.getfield 195, 3) := by decide +kernel
theorem d_M_seen_57 : decode m_M_seen.2.1 57 = .ok (.iload_n 2, 1) := by decide +kernel
theorem d_M_seen_58 : decode m_M_seen.2.1 58 = .ok (.iastore, 1) := by decide +kernel
theorem d_M_seen_59 : decode m_M_seen.2.1 59 = .ok (.aload_n 0, 1) := by decide +kernel
theorem d_M_seen_60 : decode m_M_seen.2.1 60 = .ok (.getfield 31, 3) := by decide +kernel
theorem d_M_seen_63 : decode m_M_seen.2.1 63 = .ok (.aload_n 0, 1) := by decide +kernel
theorem d_M_seen_64 : decode m_M_seen.2.1 64 = .ok (.getfield 195, 3) := by decide +kernel
theorem d_M_seen_67 : decode m_M_seen.2.1 67 = .ok (.iload_n 3, 1) := by decide +kernel
theorem d_M_seen_68 : decode m_M_seen.2.1 68 = .ok (.iastore, 1) := by decide +kernel
theorem d_M_seen_69 : decode m_M_seen.2.1 69 = .ok (.aload_n 0, 1) := by decide +kernel
theorem d_M_seen_70 : decode m_M_seen.2.1 70 = .ok (.dup, 1) := by decide +kernel
theorem d_M_seen_71 : decode m_M_seen.2.1 71 = .ok (.getfield 195, 3) := by decide +kernel
theorem d_M_seen_74 : decode m_M_seen.2.1 74 = .ok (.iconst 1, 1) := by decide +kernel
theorem d_M_seen_75 : decode m_M_seen.2.1 75 = .ok (.iadd, 1) := by decide +kernel
theorem d_M_seen_76 : decode m_M_seen.2.1 76 = .ok (.putfield 195, 3) := by decide +kernel
theorem d_M_seen_79 : decode m_M_seen.2.1 79 = .ok (.aload_n 0, 1) := by decide +kernel
theorem d_M_seen_80 : decode m_M_seen.2.1 80 = .ok (.getfield 195, 3) := by decide +kernel
theorem d_M_seen_83 : decode m_M_seen.2.1 83 = .ok (.ireturn, 1) := by decide +kernel
set_option maxHeartbeats 4000000 in
set_option maxRecDepth 20000 in
theorem c_M_seen (G : Gt) (x1 : Int32) (x2 : Int32) (x3 : Int32) (h : Hp) : Cn G m_M_seen [.ref (ad G 31), .int x1, .int x2, .int x3] h κi (f_M_seen x1 x2 x3 h) := by
  refine entryV (by decide) (Nat.le_of_ble_eq_true rfl) rfl ?_
  show V G m_M_seen 0 [(0, .ref (ad G 31)), (1, .int x1), (2, .int x2), (3, .int x3)] [] h κi _
  unfold f_M_seen
  refine v_iload_n 1 d_M_seen_0 rfl rfl ?_
  refine v_callSi (As := [.int x1]) (rest := []) (c_M_isTen G x1 h) co_M_92 so_M_isTen ⟨by decide, by decide⟩ rfl rfl (Nat.le_of_ble_eq_true rfl) d_M_seen_1 (fun r1 h1 _ => ?_)
  refine v_if_eq 24 d_M_seen_4 (by decide) (fun c2 => ?_) (fun c2 => ?_)
  · refine v_bipush (-2) d_M_seen_24 rfl ?_
    exact v_iret rfl d_M_seen_26
  · refine v_iload_n 2 d_M_seen_7 rfl rfl ?_
    refine v_iconst 1 d_M_seen_8 rfl ?_
    refine v_bipush 9 d_M_seen_9 rfl ?_
    refine v_callSi (As := [.int x2, .int 1, .int 9]) (rest := []) (c_M_in G x2 1 9 h1) co_M_60 so_M_in ⟨by decide, by decide⟩ rfl rfl (Nat.le_of_ble_eq_true rfl) d_M_seen_11 (fun r3 h3 _ => ?_)
    refine v_if_eq 24 d_M_seen_14 (by decide) (fun c4 => ?_) (fun c4 => ?_)
    · refine v_bipush (-2) d_M_seen_24 rfl ?_
      exact v_iret rfl d_M_seen_26
    · refine v_iload_n 3 d_M_seen_17 rfl rfl ?_
      refine v_callSi (As := [.int x3]) (rest := []) (c_M_isTen G x3 h3) co_M_92 so_M_isTen ⟨by decide, by decide⟩ rfl rfl (Nat.le_of_ble_eq_true rfl) d_M_seen_18 (fun r5 h5 _ => ?_)
      refine v_if_ne 27 d_M_seen_21 (by decide) (fun c6 => ?_) (fun c6 => ?_)
      · refine v_bipush (-2) d_M_seen_24 rfl ?_
        exact v_iret rfl d_M_seen_26
      · refine v_aload_n 0 d_M_seen_27 rfl rfl ?_
        refine v_geti fl_M_195 o_31 rfl d_M_seen_28 ?_
        refine v_bipush 8 d_M_seen_31 rfl ?_
        refine v_icmp_ne 39 d_M_seen_33 (by decide) (fun c7 => ?_) (fun c7 => ?_)
        · refine v_bipush (-4) d_M_seen_36 rfl ?_
          exact v_iret rfl d_M_seen_38
        · refine v_aload_n 0 d_M_seen_39 rfl rfl ?_
          refine v_getr 37 fl_M_25 o_31 rfl rfl d_M_seen_40 ?_
          refine v_aload_n 0 d_M_seen_43 rfl rfl ?_
          refine v_geti fl_M_195 o_31 rfl d_M_seen_44 ?_
          refine v_iload_n 1 d_M_seen_47 rfl rfl ?_
          refine v_iast ar_37 d_M_seen_48 ?_
          refine v_aload_n 0 d_M_seen_49 rfl rfl ?_
          refine v_getr 38 fl_M_28 o_31 rfl rfl d_M_seen_50 ?_
          refine v_aload_n 0 d_M_seen_53 rfl rfl ?_
          refine v_geti fl_M_195 o_31 rfl d_M_seen_54 ?_
          refine v_iload_n 2 d_M_seen_57 rfl rfl ?_
          refine v_iast ar_38 d_M_seen_58 ?_
          refine v_aload_n 0 d_M_seen_59 rfl rfl ?_
          refine v_getr 39 fl_M_31 o_31 rfl rfl d_M_seen_60 ?_
          refine v_aload_n 0 d_M_seen_63 rfl rfl ?_
          refine v_geti fl_M_195 o_31 rfl d_M_seen_64 ?_
          refine v_iload_n 3 d_M_seen_67 rfl rfl ?_
          refine v_iast ar_39 d_M_seen_68 ?_
          refine v_aload_n 0 d_M_seen_69 rfl rfl ?_
          refine v_dup d_M_seen_70 rfl ?_
          refine v_geti fl_M_195 o_31 rfl d_M_seen_71 ?_
          refine v_iconst 1 d_M_seen_74 rfl ?_
          refine v_iadd d_M_seen_75 ?_
          refine v_puti fl_M_195 ft_6_14 rfl rfl o_31 rfl d_M_seen_76 ?_
          refine v_aload_n 0 d_M_seen_79 rfl rfl ?_
          refine v_geti fl_M_195 o_31 rfl d_M_seen_80 ?_
          exact v_iret rfl d_M_seen_83
theorem d_M_forget_0 : decode m_M_forget.2.1 0 = .ok (.aload_n 0, 1) := by decide +kernel
theorem d_M_forget_1 : decode m_M_forget.2.1 1 = .ok (.getfield 195, 3) := by decide +kernel
theorem d_M_forget_4 : decode m_M_forget.2.1 4 = .ok (.istore_n 1, 1) := by decide +kernel
theorem d_M_forget_5 : decode m_M_forget.2.1 5 = .ok (.aload_n 0, 1) := by decide +kernel
theorem d_M_forget_6 : decode m_M_forget.2.1 6 = .ok (.iconst 0, 1) := by decide +kernel
theorem d_M_forget_7 : decode m_M_forget.2.1 7 = .ok (.putfield 195, 3) := by decide +kernel
theorem d_M_forget_10 : decode m_M_forget.2.1 10 = .ok (.iload_n 1, 1) := by decide +kernel
theorem d_M_forget_11 : decode m_M_forget.2.1 11 = .ok (.ireturn, 1) := by decide +kernel
set_option maxHeartbeats 4000000 in
set_option maxRecDepth 20000 in
theorem c_M_forget (G : Gt) (h : Hp) : Cn G m_M_forget [.ref (ad G 31)] h κi (f_M_forget h) := by
  refine entryV (by decide) (Nat.le_of_ble_eq_true rfl) rfl ?_
  show V G m_M_forget 0 [(0, .ref (ad G 31))] [] h κi _
  unfold f_M_forget
  refine v_aload_n 0 d_M_forget_0 rfl rfl ?_
  refine v_geti fl_M_195 o_31 rfl d_M_forget_1 ?_
  refine v_istore_n [(1, .int (h 31 14)), (0, .ref (ad G 31))] d_M_forget_4 rfl (by decide) rfl ?_
  refine v_aload_n 1 d_M_forget_5 rfl rfl ?_
  refine v_iconst 0 d_M_forget_6 rfl ?_
  refine v_puti fl_M_195 ft_6_14 rfl rfl o_31 rfl d_M_forget_7 ?_
  refine v_iload_n 0 d_M_forget_10 rfl rfl ?_
  exact v_iret rfl d_M_forget_11
theorem d_M_fitsNow_0 : decode m_M_fitsNow.2.1 0 = .ok (.aload_n 0, 1) := by decide +kernel
theorem d_M_fitsNow_1 : decode m_M_fitsNow.2.1 1 = .ok (.invokevirtual 77, 3) := by decide +kernel
theorem d_M_fitsNow_4 : decode m_M_fitsNow.2.1 4 = .ok (.istore_n 1, 1) := by decide +kernel
theorem d_M_fitsNow_5 : decode m_M_fitsNow.2.1 5 = .ok (.iconst 0, 1) := by decide +kernel
theorem d_M_fitsNow_6 : decode m_M_fitsNow.2.1 6 = .ok (.istore_n 2, 1) := by decide +kernel
theorem d_M_fitsNow_7 : decode m_M_fitsNow.2.1 7 = .ok (.iconst 0, 1) := by decide +kernel
theorem d_M_fitsNow_8 : decode m_M_fitsNow.2.1 8 = .ok (.istore_n 3, 1) := by decide +kernel
theorem d_M_fitsNow_9 : decode m_M_fitsNow.2.1 9 = .ok (.iload_n 3, 1) := by decide +kernel
theorem d_M_fitsNow_10 : decode m_M_fitsNow.2.1 10 = .ok (.iconst 4, 1) := by decide +kernel
theorem d_M_fitsNow_11 : decode m_M_fitsNow.2.1 11 = .ok (.if_icmp .ge 149, 3) := by decide +kernel
theorem d_M_fitsNow_14 : decode m_M_fitsNow.2.1 14 = .ok (.iconst 1, 1) := by decide +kernel
theorem d_M_fitsNow_15 : decode m_M_fitsNow.2.1 15 = .ok (.istore 4, 2) := by decide +kernel
theorem d_M_fitsNow_17 : decode m_M_fitsNow.2.1 17 = .ok (.iconst 0, 1) := by decide +kernel
theorem d_M_fitsNow_18 : decode m_M_fitsNow.2.1 18 = .ok (.istore 5, 2) := by decide +kernel
theorem d_M_fitsNow_20 : decode m_M_fitsNow.2.1 20 = .ok (.iload 5, 2) := by decide +kernel
theorem d_M_fitsNow_22 : decode m_M_fitsNow.2.1 22 = .ok (.aload_n 0, 1) := by decide +kernel
theorem d_M_fitsNow_23 : decode m_M_fitsNow.2.1 23 = .ok (.getfield 195, 3) := by decide +kernel
theorem d_M_fitsNow_26 : decode m_M_fitsNow.2.1 26 = .ok (.if_icmp .ge 113, 3) := by decide +kernel
theorem d_M_fitsNow_29 : decode m_M_fitsNow.2.1 29 = .ok (.iload 4, 2) := by decide +kernel
theorem d_M_fitsNow_31 : decode m_M_fitsNow.2.1 31 = .ok (.ifCond .eq 108, 3) := by decide +kernel
theorem d_M_fitsNow_34 : decode m_M_fitsNow.2.1 34 = .ok (.aload_n 0, 1) := by decide +kernel
theorem d_M_fitsNow_35 : decode m_M_fitsNow.2.1 35 = .ok (.getfield 25, 3) := by decide +kernel
theorem d_M_fitsNow_38 : decode m_M_fitsNow.2.1 38 = .ok (.iload 5, 2) := by decide +kernel
theorem d_M_fitsNow_40 : decode m_M_fitsNow.2.1 40 = .ok (.iaload, 1) := by decide +kernel
theorem d_M_fitsNow_41 : decode m_M_fitsNow.2.1 41 = .ok (.aload_n 0, 1) := by decide +kernel
theorem d_M_fitsNow_42 : decode m_M_fitsNow.2.1 42 = .ok (.getfield 67, 3) := by decide +kernel
theorem d_M_fitsNow_45 : decode m_M_fitsNow.2.1 45 = .ok (.if_icmp .ge 21, 3) := by decide +kernel
theorem d_M_fitsNow_48 : decode m_M_fitsNow.2.1 48 = .ok (.aload_n 0, 1) := by decide +kernel
theorem d_M_fitsNow_49 : decode m_M_fitsNow.2.1 49 = .ok (.aload_n 0, 1) := by decide +kernel
theorem d_M_fitsNow_50 : decode m_M_fitsNow.2.1 50 = .ok (.getfield 25, 3) := by decide +kernel
theorem d_M_fitsNow_53 : decode m_M_fitsNow.2.1 53 = .ok (.iload 5, 2) := by decide +kernel
theorem d_M_fitsNow_55 : decode m_M_fitsNow.2.1 55 = .ok (.iaload, 1) := by decide +kernel
theorem d_M_fitsNow_56 : decode m_M_fitsNow.2.1 56 = .ok (.invokevirtual 133, 3) := by decide +kernel
theorem d_M_fitsNow_59 : decode m_M_fitsNow.2.1 59 = .ok (.ifCond .ne 7, 3) := by decide +kernel
theorem d_M_fitsNow_62 : decode m_M_fitsNow.2.1 62 = .ok (.iconst 1, 1) := by decide +kernel
theorem d_M_fitsNow_63 : decode m_M_fitsNow.2.1 63 = .ok (.goto 4, 3) := by decide +kernel
theorem d_M_fitsNow_66 : decode m_M_fitsNow.2.1 66 = .ok (.iconst 0, 1) := by decide +kernel
theorem d_M_fitsNow_67 : decode m_M_fitsNow.2.1 67 = .ok (.istore 4, 2) := by decide +kernel
theorem d_M_fitsNow_69 : decode m_M_fitsNow.2.1 69 = .ok (.iload 4, 2) := by decide +kernel
theorem d_M_fitsNow_71 : decode m_M_fitsNow.2.1 71 = .ok (.ifCond .eq 62, 3) := by decide +kernel
theorem d_M_fitsNow_74 : decode m_M_fitsNow.2.1 74 = .ok (.aload_n 0, 1) := by decide +kernel
theorem d_M_fitsNow_75 : decode m_M_fitsNow.2.1 75 = .ok (.aload_n 0, 1) := by decide +kernel
theorem d_M_fitsNow_76 : decode m_M_fitsNow.2.1 76 = .ok (.getfield 25, 3) := by decide +kernel
theorem d_M_fitsNow_79 : decode m_M_fitsNow.2.1 79 = .ok (.iload 5, 2) := by decide +kernel
theorem d_M_fitsNow_81 : decode m_M_fitsNow.2.1 81 = .ok (.iaload, 1) := by decide +kernel
theorem d_M_fitsNow_82 : decode m_M_fitsNow.2.1 82 = .ok (.iload_n 3, 1) := by decide +kernel
theorem d_M_fitsNow_83 : decode m_M_fitsNow.2.1 83 = .ok (.aload_n 0, 1) := by decide +kernel
theorem d_M_fitsNow_84 : decode m_M_fitsNow.2.1 84 = .ok (.getfield 81, 3) := by decide +kernel
theorem d_M_fitsNow_87 : decode m_M_fitsNow.2.1 87 = .ok (.invokevirtual 136, 3) := by decide +kernel
theorem d_M_fitsNow_90 : decode m_M_fitsNow.2.1 90 = .ok (.aload_n 0, 1) := by decide +kernel
theorem d_M_fitsNow_91 : decode m_M_fitsNow.2.1 91 = .ok (.getfield 28, 3) := by decide +kernel
theorem d_M_fitsNow_94 : decode m_M_fitsNow.2.1 94 = .ok (.iload 5, 2) := by decide +kernel
theorem d_M_fitsNow_96 : decode m_M_fitsNow.2.1 96 = .ok (.iaload, 1) := by decide +kernel
theorem d_M_fitsNow_97 : decode m_M_fitsNow.2.1 97 = .ok (.aload_n 0, 1) := by decide +kernel
theorem d_M_fitsNow_98 : decode m_M_fitsNow.2.1 98 = .ok (.getfield 117, 3) := by decide +kernel
theorem d_M_fitsNow_101 : decode m_M_fitsNow.2.1 101 = .ok (.if_icmp .ge 29, 3) := by decide +kernel
theorem d_M_fitsNow_104 : decode m_M_fitsNow.2.1 104 = .ok (.aload_n 0, 1) := by decide +kernel
theorem d_M_fitsNow_105 : decode m_M_fitsNow.2.1 105 = .ok (.getfield 19, 3) := by decide +kernel
theorem d_M_fitsNow_108 : decode m_M_fitsNow.2.1 108 = .ok (.aload_n 0, 1) := by decide +kernel
theorem d_M_fitsNow_109 : decode m_M_fitsNow.2.1 109 = .ok (.getfield 28, 3) := by decide +kernel
theorem d_M_fitsNow_112 : decode m_M_fitsNow.2.1 112 = .ok (.iload 5, 2) := by decide +kernel
theorem d_M_fitsNow_114 : decode m_M_fitsNow.2.1 114 = .ok (.iaload, 1) := by decide +kernel
theorem d_M_fitsNow_115 : decode m_M_fitsNow.2.1 115 = .ok (.iaload, 1) := by decide +kernel
theorem d_M_fitsNow_116 : decode m_M_fitsNow.2.1 116 = .ok (.aload_n 0, 1) := by decide +kernel
theorem d_M_fitsNow_117 : decode m_M_fitsNow.2.1 117 = .ok (.getfield 31, 3) := by decide +kernel
theorem d_M_fitsNow_120 : decode m_M_fitsNow.2.1 120 = .ok (.iload 5, 2) := by decide +kernel
theorem d_M_fitsNow_122 : decode m_M_fitsNow.2.1 122 = .ok (.iaload, 1) := by decide +kernel
theorem d_M_fitsNow_123 : decode m_M_fitsNow.2.1 123 = .ok (.if_icmp .ne 7, 3) := by decide +kernel
theorem d_M_fitsNow_126 : decode m_M_fitsNow.2.1 126 = .ok (.iconst 1, 1) := by decide +kernel
theorem d_M_fitsNow_127 : decode m_M_fitsNow.2.1 127 = .ok (.goto 4, 3) := by decide +kernel
theorem d_M_fitsNow_130 : decode m_M_fitsNow.2.1 130 = .ok (.iconst 0, 1) := by decide +kernel
theorem d_M_fitsNow_131 : decode m_M_fitsNow.2.1 131 = .ok (.istore 4, 2) := by decide +kernel
theorem d_M_fitsNow_133 : decode m_M_fitsNow.2.1 133 = .ok (.iinc 5 1, 3) := by decide +kernel
theorem d_M_fitsNow_136 : decode m_M_fitsNow.2.1 136 = .ok (.goto (-116), 3) := by decide +kernel
theorem d_M_fitsNow_139 : decode m_M_fitsNow.2.1 139 = .ok (.iload_n 2, 1) := by decide +kernel
theorem d_M_fitsNow_140 : decode m_M_fitsNow.2.1 140 = .ok (.iload 4, 2) := by decide +kernel
theorem d_M_fitsNow_142 : decode m_M_fitsNow.2.1 142 = .ok (.ifCond .eq 9, 3) := by decide +kernel
theorem d_M_fitsNow_145 : decode m_M_fitsNow.2.1 145 = .ok (.iconst 1, 1) := by decide +kernel
theorem d_M_fitsNow_146 : decode m_M_fitsNow.2.1 146 = .ok (.iload_n 3, 1) := by decide +kernel
theorem d_M_fitsNow_147 : decode m_M_fitsNow.2.1 147 = .ok (.ishl, 1) := by decide +kernel
theorem d_M_fitsNow_148 : decode m_M_fitsNow.2.1 148 = .ok (.goto 4, 3) := by decide +kernel
theorem d_M_fitsNow_151 : decode m_M_fitsNow.2.1 151 = .ok (.iconst 0, 1) := by decide +kernel
theorem d_M_fitsNow_152 : decode m_M_fitsNow.2.1 152 = .ok (.ior, 1) := by decide +kernel
theorem d_M_fitsNow_153 : decode m_M_fitsNow.2.1 153 = .ok (.istore_n 2, 1) := by decide +kernel
theorem d_M_fitsNow_154 : decode m_M_fitsNow.2.1 154 = .ok (.iinc 3 1, 3) := by decide +kernel
theorem d_M_fitsNow_157 : decode m_M_fitsNow.2.1 157 = .ok (.goto (-148), 3) := by decide +kernel
theorem d_M_fitsNow_160 : decode m_M_fitsNow.2.1 160 = .ok (.iload_n 2, 1) := by decide +kernel
theorem d_M_fitsNow_161 : decode m_M_fitsNow.2.1 161 = .ok (.ireturn, 1) := by decide +kernel
set_option maxHeartbeats 4000000 in
set_option maxRecDepth 20000 in
theorem Vl_M_fitsNow_20 (G : Gt) (K9 : Int32 → Int32 → Hp → Option (Int32 × Hp)) (hK9 : ∀ (x2 : Int32) (x3 : Int32) (h : Hp), V G m_M_fitsNow 9 [(0, .ref (ad G 31)), (2, .int x2), (3, .int x3)] [] h κi (K9 x2 x3 h)) : ∀ (n : Nat) (x2 : Int32) (x3 : Int32) (x4 : Int32) (x5 : Int32) (h : Hp), V G m_M_fitsNow 20 [(0, .ref (ad G 31)), (2, .int x2), (3, .int x3), (4, .int x4), (5, .int x5)] [] h κi (l_M_fitsNow_20 K9 n x2 x3 x4 x5 h) := by
  intro n
  induction n with
  | zero => intros; exact v_none
  | succ n ih =>
    intro x2 x3 x4 x5 h
    rw [l_M_fitsNow_20]
    refine v_iload 4 d_M_fitsNow_20 rfl ?_
    refine v_aload_n 0 d_M_fitsNow_22 rfl rfl ?_
    refine v_geti fl_M_195 o_31 rfl d_M_fitsNow_23 ?_
    refine v_icmp_ge 139 d_M_fitsNow_26 (by decide) (fun c3 => ?_) (fun c3 => ?_)
    · refine v_iload_n 1 d_M_fitsNow_139 rfl rfl ?_
      refine v_iload 3 d_M_fitsNow_140 rfl ?_
      refine v_if_eq 151 d_M_fitsNow_142 (by decide) (fun c4 => ?_) (fun c4 => ?_)
      · refine v_iconst 0 d_M_fitsNow_151 rfl ?_
        refine v_ior d_M_fitsNow_152 ?_
        refine v_istore_n [(2, .int (x2 ||| 0)), (0, .ref (ad G 31)), (3, .int x3), (4, .int x4), (5, .int x5)] d_M_fitsNow_153 rfl (by decide) rfl ?_
        refine v_iinc (x3 + 1) 2 [(3, .int (x3 + 1)), (2, .int (x2 ||| 0)), (0, .ref (ad G 31)), (4, .int x4), (5, .int x5)] d_M_fitsNow_154 rfl rfl (by decide) rfl ?_
        refine v_goto 9 d_M_fitsNow_157 (by decide) ?_
        exact v_sub [2, 1, 0] rfl (hK9 (x2 ||| 0) (x3 + 1) h)
      · refine v_iconst 1 d_M_fitsNow_145 rfl ?_
        refine v_iload_n 2 d_M_fitsNow_146 rfl rfl ?_
        refine v_ishl d_M_fitsNow_147 ?_
        refine v_goto 152 d_M_fitsNow_148 (by decide) ?_
        refine v_ior d_M_fitsNow_152 ?_
        refine v_istore_n [(2, .int (x2 ||| ((1 : Int32) <<< (x3 &&& 31)))), (0, .ref (ad G 31)), (3, .int x3), (4, .int x4), (5, .int x5)] d_M_fitsNow_153 rfl (by decide) rfl ?_
        refine v_iinc (x3 + 1) 2 [(3, .int (x3 + 1)), (2, .int (x2 ||| ((1 : Int32) <<< (x3 &&& 31)))), (0, .ref (ad G 31)), (4, .int x4), (5, .int x5)] d_M_fitsNow_154 rfl rfl (by decide) rfl ?_
        refine v_goto 9 d_M_fitsNow_157 (by decide) ?_
        exact v_sub [2, 1, 0] rfl (hK9 (x2 ||| ((1 : Int32) <<< (x3 &&& 31))) (x3 + 1) h)
    · refine v_iload 3 d_M_fitsNow_29 rfl ?_
      refine v_if_eq 139 d_M_fitsNow_31 (by decide) (fun c5 => ?_) (fun c5 => ?_)
      · refine v_iload_n 1 d_M_fitsNow_139 rfl rfl ?_
        refine v_iload 3 d_M_fitsNow_140 rfl ?_
        refine v_if_eq_t 151 d_M_fitsNow_142 (by decide) c5 ?_
        refine v_iconst 0 d_M_fitsNow_151 rfl ?_
        refine v_ior d_M_fitsNow_152 ?_
        refine v_istore_n [(2, .int (x2 ||| 0)), (0, .ref (ad G 31)), (3, .int x3), (4, .int x4), (5, .int x5)] d_M_fitsNow_153 rfl (by decide) rfl ?_
        refine v_iinc (x3 + 1) 2 [(3, .int (x3 + 1)), (2, .int (x2 ||| 0)), (0, .ref (ad G 31)), (4, .int x4), (5, .int x5)] d_M_fitsNow_154 rfl rfl (by decide) rfl ?_
        refine v_goto 9 d_M_fitsNow_157 (by decide) ?_
        exact v_sub [2, 1, 0] rfl (hK9 (x2 ||| 0) (x3 + 1) h)
      · refine v_aload_n 0 d_M_fitsNow_34 rfl rfl ?_
        refine v_getr 37 fl_M_25 o_31 rfl rfl d_M_fitsNow_35 ?_
        refine v_iload 4 d_M_fitsNow_38 rfl ?_
        refine v_iald ar_37 d_M_fitsNow_40 ?_
        refine v_aload_n 0 d_M_fitsNow_41 rfl rfl ?_
        refine v_geti fl_M_67 o_31 rfl d_M_fitsNow_42 ?_
        refine v_icmp_ge 66 d_M_fitsNow_45 (by decide) (fun c6 => ?_) (fun c6 => ?_)
        · refine v_iconst 0 d_M_fitsNow_66 rfl ?_
          refine v_istore [(4, .int 0), (0, .ref (ad G 31)), (2, .int x2), (3, .int x3), (5, .int x5)] d_M_fitsNow_67 (by decide) rfl ?_
          refine v_iload 0 d_M_fitsNow_69 rfl ?_
          refine v_if_eq_t 133 d_M_fitsNow_71 (by decide) (by decide) ?_
          refine v_iinc (x5 + 1) 4 [(5, .int (x5 + 1)), (4, .int 0), (0, .ref (ad G 31)), (2, .int x2), (3, .int x3)] d_M_fitsNow_133 rfl rfl (by decide) rfl ?_
          refine v_goto 20 d_M_fitsNow_136 (by decide) ?_
          exact v_sub [2, 3, 4, 1, 0] rfl (ih x2 x3 0 (x5 + 1) h)
        · refine v_aload_n 0 d_M_fitsNow_48 rfl rfl ?_
          refine v_aload_n 0 d_M_fitsNow_49 rfl rfl ?_
          refine v_getr 37 fl_M_25 o_31 rfl rfl d_M_fitsNow_50 ?_
          refine v_iload 4 d_M_fitsNow_53 rfl ?_
          refine v_iald ar_37 d_M_fitsNow_55 ?_
          refine v_callVi (As := [.int (h 37 (ix x5))]) (rest := []) (c_M_isHidden G (h 37 (ix x5)) h) co_M_133 io_M_isHidden o_31 ⟨by decide, by decide⟩ rfl rfl (Nat.le_of_ble_eq_true rfl) d_M_fitsNow_56 (fun r7 h7 _ => ?_)
          refine v_if_ne 66 d_M_fitsNow_59 (by decide) (fun c8 => ?_) (fun c8 => ?_)
          · refine v_iconst 1 d_M_fitsNow_62 rfl ?_
            refine v_goto 67 d_M_fitsNow_63 (by decide) ?_
            refine v_istore [(4, .int 1), (0, .ref (ad G 31)), (2, .int x2), (3, .int x3), (5, .int x5)] d_M_fitsNow_67 (by decide) rfl ?_
            refine v_iload 0 d_M_fitsNow_69 rfl ?_
            refine v_if_eq_f 133 d_M_fitsNow_71 (by decide) (by decide) ?_
            refine v_aload_n 1 d_M_fitsNow_74 rfl rfl ?_
            refine v_aload_n 1 d_M_fitsNow_75 rfl rfl ?_
            refine v_getr 37 fl_M_25 o_31 rfl rfl d_M_fitsNow_76 ?_
            refine v_iload 4 d_M_fitsNow_79 rfl ?_
            refine v_iald ar_37 d_M_fitsNow_81 ?_
            refine v_iload_n 3 d_M_fitsNow_82 rfl rfl ?_
            refine v_aload_n 1 d_M_fitsNow_83 rfl rfl ?_
            refine v_geti fl_M_81 o_31 rfl d_M_fitsNow_84 ?_
            refine v_callVv (As := [.int (h7 37 (ix x5)), .int x3, .int (h7 31 5)]) (rest := []) (c_M_lays G (h7 37 (ix x5)) x3 (h7 31 5) h7) co_M_136 io_M_lays o_31 ⟨by decide, by decide⟩ rfl rfl (Nat.le_of_ble_eq_true rfl) d_M_fitsNow_87 (fun _ h9 _ => ?_)
            refine v_aload_n 1 d_M_fitsNow_90 rfl rfl ?_
            refine v_getr 38 fl_M_28 o_31 rfl rfl d_M_fitsNow_91 ?_
            refine v_iload 4 d_M_fitsNow_94 rfl ?_
            refine v_iald ar_38 d_M_fitsNow_96 ?_
            refine v_aload_n 1 d_M_fitsNow_97 rfl rfl ?_
            refine v_geti fl_M_117 o_31 rfl d_M_fitsNow_98 ?_
            refine v_icmp_ge 130 d_M_fitsNow_101 (by decide) (fun c10 => ?_) (fun c10 => ?_)
            · refine v_iconst 0 d_M_fitsNow_130 rfl ?_
              refine v_istore [(4, .int 0), (0, .ref (ad G 31)), (2, .int x2), (3, .int x3), (5, .int x5)] d_M_fitsNow_131 (by decide) rfl ?_
              refine v_iinc (x5 + 1) 4 [(5, .int (x5 + 1)), (4, .int 0), (0, .ref (ad G 31)), (2, .int x2), (3, .int x3)] d_M_fitsNow_133 rfl rfl (by decide) rfl ?_
              refine v_goto 20 d_M_fitsNow_136 (by decide) ?_
              exact v_sub [2, 3, 4, 1, 0] rfl (ih x2 x3 0 (x5 + 1) h9)
            · refine v_aload_n 1 d_M_fitsNow_104 rfl rfl ?_
              refine v_getr 35 fl_M_19 o_31 rfl rfl d_M_fitsNow_105 ?_
              refine v_aload_n 1 d_M_fitsNow_108 rfl rfl ?_
              refine v_getr 38 fl_M_28 o_31 rfl rfl d_M_fitsNow_109 ?_
              refine v_iload 4 d_M_fitsNow_112 rfl ?_
              refine v_iald ar_38 d_M_fitsNow_114 ?_
              refine v_iald ar_35 d_M_fitsNow_115 ?_
              refine v_aload_n 1 d_M_fitsNow_116 rfl rfl ?_
              refine v_getr 39 fl_M_31 o_31 rfl rfl d_M_fitsNow_117 ?_
              refine v_iload 4 d_M_fitsNow_120 rfl ?_
              refine v_iald ar_39 d_M_fitsNow_122 ?_
              refine v_icmp_ne 130 d_M_fitsNow_123 (by decide) (fun c11 => ?_) (fun c11 => ?_)
              · refine v_iconst 1 d_M_fitsNow_126 rfl ?_
                refine v_goto 131 d_M_fitsNow_127 (by decide) ?_
                refine v_istore [(4, .int 1), (0, .ref (ad G 31)), (2, .int x2), (3, .int x3), (5, .int x5)] d_M_fitsNow_131 (by decide) rfl ?_
                refine v_iinc (x5 + 1) 4 [(5, .int (x5 + 1)), (4, .int 1), (0, .ref (ad G 31)), (2, .int x2), (3, .int x3)] d_M_fitsNow_133 rfl rfl (by decide) rfl ?_
                refine v_goto 20 d_M_fitsNow_136 (by decide) ?_
                exact v_sub [2, 3, 4, 1, 0] rfl (ih x2 x3 1 (x5 + 1) h9)
              · refine v_iconst 0 d_M_fitsNow_130 rfl ?_
                refine v_istore [(4, .int 0), (0, .ref (ad G 31)), (2, .int x2), (3, .int x3), (5, .int x5)] d_M_fitsNow_131 (by decide) rfl ?_
                refine v_iinc (x5 + 1) 4 [(5, .int (x5 + 1)), (4, .int 0), (0, .ref (ad G 31)), (2, .int x2), (3, .int x3)] d_M_fitsNow_133 rfl rfl (by decide) rfl ?_
                refine v_goto 20 d_M_fitsNow_136 (by decide) ?_
                exact v_sub [2, 3, 4, 1, 0] rfl (ih x2 x3 0 (x5 + 1) h9)
          · refine v_iconst 0 d_M_fitsNow_66 rfl ?_
            refine v_istore [(4, .int 0), (0, .ref (ad G 31)), (2, .int x2), (3, .int x3), (5, .int x5)] d_M_fitsNow_67 (by decide) rfl ?_
            refine v_iload 0 d_M_fitsNow_69 rfl ?_
            refine v_if_eq_t 133 d_M_fitsNow_71 (by decide) (by decide) ?_
            refine v_iinc (x5 + 1) 4 [(5, .int (x5 + 1)), (4, .int 0), (0, .ref (ad G 31)), (2, .int x2), (3, .int x3)] d_M_fitsNow_133 rfl rfl (by decide) rfl ?_
            refine v_goto 20 d_M_fitsNow_136 (by decide) ?_
            exact v_sub [2, 3, 4, 1, 0] rfl (ih x2 x3 0 (x5 + 1) h7)
set_option maxHeartbeats 4000000 in
set_option maxRecDepth 20000 in
theorem Vl_M_fitsNow_9 (G : Gt) : ∀ (n : Nat) (x2 : Int32) (x3 : Int32) (h : Hp), V G m_M_fitsNow 9 [(0, .ref (ad G 31)), (2, .int x2), (3, .int x3)] [] h κi (l_M_fitsNow_9 n x2 x3 h) := by
  intro n
  induction n with
  | zero => intros; exact v_none
  | succ n ih =>
    intro x2 x3 h
    rw [l_M_fitsNow_9]
    refine v_iload_n 2 d_M_fitsNow_9 rfl rfl ?_
    refine v_iconst 4 d_M_fitsNow_10 rfl ?_
    refine v_icmp_ge 160 d_M_fitsNow_11 (by decide) (fun c2 => ?_) (fun c2 => ?_)
    · refine v_iload_n 1 d_M_fitsNow_160 rfl rfl ?_
      exact v_iret rfl d_M_fitsNow_161
    · refine v_iconst 1 d_M_fitsNow_14 rfl ?_
      refine v_istore [(4, .int 1), (0, .ref (ad G 31)), (2, .int x2), (3, .int x3)] d_M_fitsNow_15 (by decide) rfl ?_
      refine v_iconst 0 d_M_fitsNow_17 rfl ?_
      refine v_istore [(5, .int 0), (4, .int 1), (0, .ref (ad G 31)), (2, .int x2), (3, .int x3)] d_M_fitsNow_18 (by decide) rfl ?_
      exact v_sub [2, 3, 4, 1, 0] rfl (Vl_M_fitsNow_20 G (l_M_fitsNow_9 n) ih FUEL x2 x3 1 0 h)
set_option maxHeartbeats 4000000 in
set_option maxRecDepth 20000 in
theorem c_M_fitsNow (G : Gt) (h : Hp) : Cn G m_M_fitsNow [.ref (ad G 31)] h κi (f_M_fitsNow h) := by
  refine entryV (by decide) (Nat.le_of_ble_eq_true rfl) rfl ?_
  show V G m_M_fitsNow 0 [(0, .ref (ad G 31))] [] h κi _
  unfold f_M_fitsNow
  refine v_aload_n 0 d_M_fitsNow_0 rfl rfl ?_
  refine v_callVi (As := []) (rest := []) (c_M_faultNow G h) co_M_77 io_M_faultNow o_31 ⟨by decide, by decide⟩ rfl rfl (Nat.le_of_ble_eq_true rfl) d_M_fitsNow_1 (fun r1 h1 _ => ?_)
  refine v_istore_n [(1, .int r1), (0, .ref (ad G 31))] d_M_fitsNow_4 rfl (by decide) rfl ?_
  refine v_iconst 0 d_M_fitsNow_5 rfl ?_
  refine v_istore_n [(2, .int 0), (1, .int r1), (0, .ref (ad G 31))] d_M_fitsNow_6 rfl (by decide) rfl ?_
  refine v_iconst 0 d_M_fitsNow_7 rfl ?_
  refine v_istore_n [(3, .int 0), (2, .int 0), (1, .int r1), (0, .ref (ad G 31))] d_M_fitsNow_8 rfl (by decide) rfl ?_
  exact v_sub [3, 1, 0] rfl (Vl_M_fitsNow_9 G FUEL 0 0 h1)
theorem d_M_fits_0 : decode m_M_fits.2.1 0 = .ok (.aload_n 0, 1) := by decide +kernel
theorem d_M_fits_1 : decode m_M_fits.2.1 1 = .ok (.invokevirtual 198, 3) := by decide +kernel
theorem d_M_fits_4 : decode m_M_fits.2.1 4 = .ok (.ireturn, 1) := by decide +kernel
set_option maxHeartbeats 4000000 in
set_option maxRecDepth 20000 in
theorem c_M_fits (G : Gt) (h : Hp) : Cn G m_M_fits [.ref (ad G 31)] h κi (f_M_fits h) := by
  refine entryV (by decide) (Nat.le_of_ble_eq_true rfl) rfl ?_
  show V G m_M_fits 0 [(0, .ref (ad G 31))] [] h κi _
  unfold f_M_fits
  refine v_aload_n 0 d_M_fits_0 rfl rfl ?_
  refine v_callVi (As := []) (rest := []) (c_M_fitsNow G h) co_M_198 io_M_fitsNow o_31 ⟨by decide, by decide⟩ rfl rfl (Nat.le_of_ble_eq_true rfl) d_M_fits_1 (fun r1 h1 _ => ?_)
  exact v_iret rfl d_M_fits_4
theorem d_M_areAlike_0 : decode m_M_areAlike.2.1 0 = .ok (.iconst 1, 1) := by decide +kernel
theorem d_M_areAlike_1 : decode m_M_areAlike.2.1 1 = .ok (.istore_n 3, 1) := by decide +kernel
theorem d_M_areAlike_2 : decode m_M_areAlike.2.1 2 = .ok (.iconst 0, 1) := by decide +kernel
theorem d_M_areAlike_3 : decode m_M_areAlike.2.1 3 = .ok (.istore 4, 2) := by decide +kernel
theorem d_M_areAlike_5 : decode m_M_areAlike.2.1 5 = .ok (.iload 4, 2) := by decide +kernel
theorem d_M_areAlike_7 : decode m_M_areAlike.2.1 7 = .ok (.aload_n 0, 1) := by decide +kernel
theorem d_M_areAlike_8 : decode m_M_areAlike.2.1 8 = .ok (.getfield 34, 3) := by decide +kernel
theorem d_M_areAlike_11 : decode m_M_areAlike.2.1 11 = .ok (.bipush 11, 2) := by decide +kernel
theorem d_M_areAlike_13 : decode m_M_areAlike.2.1 13 = .ok (.iload_n 1, 1) := by decide +kernel
theorem d_M_areAlike_14 : decode m_M_areAlike.2.1 14 = .ok (.imul, 1) := by decide +kernel
theorem d_M_areAlike_15 : decode m_M_areAlike.2.1 15 = .ok (.iaload, 1) := by decide +kernel
theorem d_M_areAlike_16 : decode m_M_areAlike.2.1 16 = .ok (.if_icmp .gt 46, 3) := by decide +kernel
theorem d_M_areAlike_19 : decode m_M_areAlike.2.1 19 = .ok (.iload_n 3, 1) := by decide +kernel
theorem d_M_areAlike_20 : decode m_M_areAlike.2.1 20 = .ok (.ifCond .eq 34, 3) := by decide +kernel
theorem d_M_areAlike_23 : decode m_M_areAlike.2.1 23 = .ok (.aload_n 0, 1) := by decide +kernel
theorem d_M_areAlike_24 : decode m_M_areAlike.2.1 24 = .ok (.getfield 34, 3) := by decide +kernel
theorem d_M_areAlike_27 : decode m_M_areAlike.2.1 27 = .ok (.bipush 11, 2) := by decide +kernel
theorem d_M_areAlike_29 : decode m_M_areAlike.2.1 29 = .ok (.iload_n 1, 1) := by decide +kernel
theorem d_M_areAlike_30 : decode m_M_areAlike.2.1 30 = .ok (.imul, 1) := by decide +kernel
theorem d_M_areAlike_31 : decode m_M_areAlike.2.1 31 = .ok (.iload 4, 2) := by decide +kernel
theorem d_M_areAlike_33 : decode m_M_areAlike.2.1 33 = .ok (.iadd, 1) := by decide +kernel
theorem d_M_areAlike_34 : decode m_M_areAlike.2.1 34 = .ok (.iaload, 1) := by decide +kernel
theorem d_M_areAlike_35 : decode m_M_areAlike.2.1 35 = .ok (.aload_n 0, 1) := by decide +kernel
theorem d_M_areAlike_36 : decode m_M_areAlike.2.1 36 = .ok (.getfield 34, 3) := by decide +kernel
theorem d_M_areAlike_39 : decode m_M_areAlike.2.1 39 = .ok (.bipush 11, 2) := by decide +kernel
theorem d_M_areAlike_41 : decode m_M_areAlike.2.1 41 = .ok (.iload_n 2, 1) := by decide +kernel
theorem d_M_areAlike_42 : decode m_M_areAlike.2.1 42 = .ok (.imul, 1) := by decide +kernel
theorem d_M_areAlike_43 : decode m_M_areAlike.2.1 43 = .ok (.iload 4, 2) := by decide +kernel
theorem d_M_areAlike_45 : decode m_M_areAlike.2.1 45 = .ok (.iadd, 1) := by decide +kernel
theorem d_M_areAlike_46 : decode m_M_areAlike.2.1 46 = .ok (.iaload, 1) := by decide +kernel
theorem d_M_areAlike_47 : decode m_M_areAlike.2.1 47 = .ok (.if_icmp .ne 7, 3) := by decide +kernel
theorem d_M_areAlike_50 : decode m_M_areAlike.2.1 50 = .ok (.iconst 1, 1) := by decide +kernel
theorem d_M_areAlike_51 : decode m_M_areAlike.2.1 51 = .ok (.goto 4, 3) := by decide +kernel
theorem d_M_areAlike_54 : decode m_M_areAlike.2.1 54 = .ok (.iconst 0, 1) := by decide +kernel
theorem d_M_areAlike_55 : decode m_M_areAlike.2.1 55 = .ok (.istore_n 3, 1) := by decide +kernel
theorem d_M_areAlike_56 : decode m_M_areAlike.2.1 56 = .ok (.iinc 4 1, 3) := by decide +kernel
theorem d_M_areAlike_59 : decode m_M_areAlike.2.1 59 = .ok (.goto (-54), 3) := by decide +kernel
theorem d_M_areAlike_62 : decode m_M_areAlike.2.1 62 = .ok (.iload_n 3, 1) := by decide +kernel
theorem d_M_areAlike_63 : decode m_M_areAlike.2.1 63 = .ok (.ireturn, 1) := by decide +kernel
set_option maxHeartbeats 4000000 in
set_option maxRecDepth 20000 in
theorem Vl_M_areAlike_5 (G : Gt) : ∀ (n : Nat) (x1 : Int32) (x2 : Int32) (x3 : Int32) (x4 : Int32) (h : Hp), V G m_M_areAlike 5 [(0, .ref (ad G 31)), (1, .int x1), (2, .int x2), (3, .int x3), (4, .int x4)] [] h κi (l_M_areAlike_5 n x1 x2 x3 x4 h) := by
  intro n
  induction n with
  | zero => intros; exact v_none
  | succ n ih =>
    intro x1 x2 x3 x4 h
    rw [l_M_areAlike_5]
    refine v_iload 4 d_M_areAlike_5 rfl ?_
    refine v_aload_n 0 d_M_areAlike_7 rfl rfl ?_
    refine v_getr 40 fl_M_34 o_31 rfl rfl d_M_areAlike_8 ?_
    refine v_bipush 11 d_M_areAlike_11 rfl ?_
    refine v_iload_n 1 d_M_areAlike_13 rfl rfl ?_
    refine v_imul d_M_areAlike_14 ?_
    refine v_iald ar_40 d_M_areAlike_15 ?_
    refine v_icmp_gt 62 d_M_areAlike_16 (by decide) (fun c1 => ?_) (fun c1 => ?_)
    · refine v_iload_n 3 d_M_areAlike_62 rfl rfl ?_
      exact v_zret rfl d_M_areAlike_63
    · refine v_iload_n 3 d_M_areAlike_19 rfl rfl ?_
      refine v_if_eq 54 d_M_areAlike_20 (by decide) (fun c2 => ?_) (fun c2 => ?_)
      · refine v_iconst 0 d_M_areAlike_54 rfl ?_
        refine v_istore_n [(3, .int 0), (0, .ref (ad G 31)), (1, .int x1), (2, .int x2), (4, .int x4)] d_M_areAlike_55 rfl (by decide) rfl ?_
        refine v_iinc (x4 + 1) 4 [(4, .int (x4 + 1)), (3, .int 0), (0, .ref (ad G 31)), (1, .int x1), (2, .int x2)] d_M_areAlike_56 rfl rfl (by decide) rfl ?_
        refine v_goto 5 d_M_areAlike_59 (by decide) ?_
        exact v_sub [2, 3, 4, 1, 0] rfl (ih x1 x2 0 (x4 + 1) h)
      · refine v_aload_n 0 d_M_areAlike_23 rfl rfl ?_
        refine v_getr 40 fl_M_34 o_31 rfl rfl d_M_areAlike_24 ?_
        refine v_bipush 11 d_M_areAlike_27 rfl ?_
        refine v_iload_n 1 d_M_areAlike_29 rfl rfl ?_
        refine v_imul d_M_areAlike_30 ?_
        refine v_iload 4 d_M_areAlike_31 rfl ?_
        refine v_iadd d_M_areAlike_33 ?_
        refine v_iald ar_40 d_M_areAlike_34 ?_
        refine v_aload_n 0 d_M_areAlike_35 rfl rfl ?_
        refine v_getr 40 fl_M_34 o_31 rfl rfl d_M_areAlike_36 ?_
        refine v_bipush 11 d_M_areAlike_39 rfl ?_
        refine v_iload_n 2 d_M_areAlike_41 rfl rfl ?_
        refine v_imul d_M_areAlike_42 ?_
        refine v_iload 4 d_M_areAlike_43 rfl ?_
        refine v_iadd d_M_areAlike_45 ?_
        refine v_iald ar_40 d_M_areAlike_46 ?_
        refine v_icmp_ne 54 d_M_areAlike_47 (by decide) (fun c3 => ?_) (fun c3 => ?_)
        · refine v_iconst 1 d_M_areAlike_50 rfl ?_
          refine v_goto 55 d_M_areAlike_51 (by decide) ?_
          refine v_istore_n [(3, .int 1), (0, .ref (ad G 31)), (1, .int x1), (2, .int x2), (4, .int x4)] d_M_areAlike_55 rfl (by decide) rfl ?_
          refine v_iinc (x4 + 1) 4 [(4, .int (x4 + 1)), (3, .int 1), (0, .ref (ad G 31)), (1, .int x1), (2, .int x2)] d_M_areAlike_56 rfl rfl (by decide) rfl ?_
          refine v_goto 5 d_M_areAlike_59 (by decide) ?_
          exact v_sub [2, 3, 4, 1, 0] rfl (ih x1 x2 1 (x4 + 1) h)
        · refine v_iconst 0 d_M_areAlike_54 rfl ?_
          refine v_istore_n [(3, .int 0), (0, .ref (ad G 31)), (1, .int x1), (2, .int x2), (4, .int x4)] d_M_areAlike_55 rfl (by decide) rfl ?_
          refine v_iinc (x4 + 1) 4 [(4, .int (x4 + 1)), (3, .int 0), (0, .ref (ad G 31)), (1, .int x1), (2, .int x2)] d_M_areAlike_56 rfl rfl (by decide) rfl ?_
          refine v_goto 5 d_M_areAlike_59 (by decide) ?_
          exact v_sub [2, 3, 4, 1, 0] rfl (ih x1 x2 0 (x4 + 1) h)
set_option maxHeartbeats 4000000 in
set_option maxRecDepth 20000 in
theorem c_M_areAlike (G : Gt) (x1 : Int32) (x2 : Int32) (h : Hp) : Cn G m_M_areAlike [.ref (ad G 31), .int x1, .int x2] h κi (f_M_areAlike x1 x2 h) := by
  refine entryV (by decide) (Nat.le_of_ble_eq_true rfl) rfl ?_
  show V G m_M_areAlike 0 [(0, .ref (ad G 31)), (1, .int x1), (2, .int x2)] [] h κi _
  unfold f_M_areAlike
  refine v_iconst 1 d_M_areAlike_0 rfl ?_
  refine v_istore_n [(3, .int 1), (0, .ref (ad G 31)), (1, .int x1), (2, .int x2)] d_M_areAlike_1 rfl (by decide) rfl ?_
  refine v_iconst 0 d_M_areAlike_2 rfl ?_
  refine v_istore [(4, .int 0), (3, .int 1), (0, .ref (ad G 31)), (1, .int x1), (2, .int x2)] d_M_areAlike_3 (by decide) rfl ?_
  exact v_sub [2, 3, 4, 1, 0] rfl (Vl_M_areAlike_5 G FUEL x1 x2 1 0 h)
theorem d_M_unlikeFrom_0 : decode m_M_unlikeFrom.2.1 0 = .ok (.iconst 0, 1) := by decide +kernel
theorem d_M_unlikeFrom_1 : decode m_M_unlikeFrom.2.1 1 = .ok (.istore_n 3, 1) := by decide +kernel
theorem d_M_unlikeFrom_2 : decode m_M_unlikeFrom.2.1 2 = .ok (.iconst 0, 1) := by decide +kernel
theorem d_M_unlikeFrom_3 : decode m_M_unlikeFrom.2.1 3 = .ok (.istore 4, 2) := by decide +kernel
theorem d_M_unlikeFrom_5 : decode m_M_unlikeFrom.2.1 5 = .ok (.iload 4, 2) := by decide +kernel
theorem d_M_unlikeFrom_7 : decode m_M_unlikeFrom.2.1 7 = .ok (.iconst 4, 1) := by decide +kernel
theorem d_M_unlikeFrom_8 : decode m_M_unlikeFrom.2.1 8 = .ok (.if_icmp .ge 143, 3) := by decide +kernel
theorem d_M_unlikeFrom_11 : decode m_M_unlikeFrom.2.1 11 = .ok (.aload_n 0, 1) := by decide +kernel
theorem d_M_unlikeFrom_12 : decode m_M_unlikeFrom.2.1 12 = .ok (.iload_n 1, 1) := by decide +kernel
theorem d_M_unlikeFrom_13 : decode m_M_unlikeFrom.2.1 13 = .ok (.iload 4, 2) := by decide +kernel
theorem d_M_unlikeFrom_15 : decode m_M_unlikeFrom.2.1 15 = .ok (.aload_n 0, 1) := by decide +kernel
theorem d_M_unlikeFrom_16 : decode m_M_unlikeFrom.2.1 16 = .ok (.getfield 81, 3) := by decide +kernel
theorem d_M_unlikeFrom_19 : decode m_M_unlikeFrom.2.1 19 = .ok (.invokevirtual 136, 3) := by decide +kernel
theorem d_M_unlikeFrom_22 : decode m_M_unlikeFrom.2.1 22 = .ok (.aload_n 0, 1) := by decide +kernel
theorem d_M_unlikeFrom_23 : decode m_M_unlikeFrom.2.1 23 = .ok (.getfield 34, 3) := by decide +kernel
theorem d_M_unlikeFrom_26 : decode m_M_unlikeFrom.2.1 26 = .ok (.bipush 11, 2) := by decide +kernel
theorem d_M_unlikeFrom_28 : decode m_M_unlikeFrom.2.1 28 = .ok (.iload 4, 2) := by decide +kernel
theorem d_M_unlikeFrom_30 : decode m_M_unlikeFrom.2.1 30 = .ok (.imul, 1) := by decide +kernel
theorem d_M_unlikeFrom_31 : decode m_M_unlikeFrom.2.1 31 = .ok (.aload_n 0, 1) := by decide +kernel
theorem d_M_unlikeFrom_32 : decode m_M_unlikeFrom.2.1 32 = .ok (.getfield 117, 3) := by decide +kernel
theorem d_M_unlikeFrom_35 : decode m_M_unlikeFrom.2.1 35 = .ok (.iastore, 1) := by decide +kernel
theorem d_M_unlikeFrom_36 : decode m_M_unlikeFrom.2.1 36 = .ok (.iconst 0, 1) := by decide +kernel
theorem d_M_unlikeFrom_37 : decode m_M_unlikeFrom.2.1 37 = .ok (.istore 5, 2) := by decide +kernel
theorem d_M_unlikeFrom_39 : decode m_M_unlikeFrom.2.1 39 = .ok (.iload 5, 2) := by decide +kernel
theorem d_M_unlikeFrom_41 : decode m_M_unlikeFrom.2.1 41 = .ok (.aload_n 0, 1) := by decide +kernel
theorem d_M_unlikeFrom_42 : decode m_M_unlikeFrom.2.1 42 = .ok (.getfield 117, 3) := by decide +kernel
theorem d_M_unlikeFrom_45 : decode m_M_unlikeFrom.2.1 45 = .ok (.if_icmp .ge 31, 3) := by decide +kernel
theorem d_M_unlikeFrom_48 : decode m_M_unlikeFrom.2.1 48 = .ok (.aload_n 0, 1) := by decide +kernel
theorem d_M_unlikeFrom_49 : decode m_M_unlikeFrom.2.1 49 = .ok (.getfield 34, 3) := by decide +kernel
theorem d_M_unlikeFrom_52 : decode m_M_unlikeFrom.2.1 52 = .ok (.bipush 11, 2) := by decide +kernel
theorem d_M_unlikeFrom_54 : decode m_M_unlikeFrom.2.1 54 = .ok (.iload 4, 2) := by decide +kernel
theorem d_M_unlikeFrom_56 : decode m_M_unlikeFrom.2.1 56 = .ok (.imul, 1) := by decide +kernel
theorem d_M_unlikeFrom_57 : decode m_M_unlikeFrom.2.1 57 = .ok (.iconst 1, 1) := by decide +kernel
theorem d_M_unlikeFrom_58 : decode m_M_unlikeFrom.2.1 58 = .ok (.iadd, 1) := by decide +kernel
theorem d_M_unlikeFrom_59 : decode m_M_unlikeFrom.2.1 59 = .ok (.iload 5, 2) := by decide +kernel
theorem d_M_unlikeFrom_61 : decode m_M_unlikeFrom.2.1 61 = .ok (.iadd, 1) := by decide +kernel
theorem d_M_unlikeFrom_62 : decode m_M_unlikeFrom.2.1 62 = .ok (.aload_n 0, 1) := by decide +kernel
theorem d_M_unlikeFrom_63 : decode m_M_unlikeFrom.2.1 63 = .ok (.getfield 19, 3) := by decide +kernel
theorem d_M_unlikeFrom_66 : decode m_M_unlikeFrom.2.1 66 = .ok (.iload 5, 2) := by decide +kernel
theorem d_M_unlikeFrom_68 : decode m_M_unlikeFrom.2.1 68 = .ok (.iaload, 1) := by decide +kernel
theorem d_M_unlikeFrom_69 : decode m_M_unlikeFrom.2.1 69 = .ok (.iastore, 1) := by decide +kernel
theorem d_M_unlikeFrom_70 : decode m_M_unlikeFrom.2.1 70 = .ok (.iinc 5 1, 3) := by decide +kernel
theorem d_M_unlikeFrom_73 : decode m_M_unlikeFrom.2.1 73 = .ok (.goto (-34), 3) := by decide +kernel
theorem d_M_unlikeFrom_76 : decode m_M_unlikeFrom.2.1 76 = .ok (.iload_n 2, 1) := by decide +kernel
theorem d_M_unlikeFrom_77 : decode m_M_unlikeFrom.2.1 77 = .ok (.iload 4, 2) := by decide +kernel
theorem d_M_unlikeFrom_79 : decode m_M_unlikeFrom.2.1 79 = .ok (.invokestatic 113, 3) := by decide +kernel
theorem d_M_unlikeFrom_82 : decode m_M_unlikeFrom.2.1 82 = .ok (.istore 5, 2) := by decide +kernel
theorem d_M_unlikeFrom_84 : decode m_M_unlikeFrom.2.1 84 = .ok (.iconst 0, 1) := by decide +kernel
theorem d_M_unlikeFrom_85 : decode m_M_unlikeFrom.2.1 85 = .ok (.istore 6, 2) := by decide +kernel
theorem d_M_unlikeFrom_87 : decode m_M_unlikeFrom.2.1 87 = .ok (.iload 6, 2) := by decide +kernel
theorem d_M_unlikeFrom_89 : decode m_M_unlikeFrom.2.1 89 = .ok (.iload 4, 2) := by decide +kernel
theorem d_M_unlikeFrom_91 : decode m_M_unlikeFrom.2.1 91 = .ok (.if_icmp .ge 41, 3) := by decide +kernel
theorem d_M_unlikeFrom_94 : decode m_M_unlikeFrom.2.1 94 = .ok (.iload 5, 2) := by decide +kernel
theorem d_M_unlikeFrom_96 : decode m_M_unlikeFrom.2.1 96 = .ok (.ifCond .eq 36, 3) := by decide +kernel
theorem d_M_unlikeFrom_99 : decode m_M_unlikeFrom.2.1 99 = .ok (.iload_n 2, 1) := by decide +kernel
theorem d_M_unlikeFrom_100 : decode m_M_unlikeFrom.2.1 100 = .ok (.iload 6, 2) := by decide +kernel
theorem d_M_unlikeFrom_102 : decode m_M_unlikeFrom.2.1 102 = .ok (.invokestatic 113, 3) := by decide +kernel
theorem d_M_unlikeFrom_105 : decode m_M_unlikeFrom.2.1 105 = .ok (.ifCond .eq 14, 3) := by decide +kernel
theorem d_M_unlikeFrom_108 : decode m_M_unlikeFrom.2.1 108 = .ok (.aload_n 0, 1) := by decide +kernel
theorem d_M_unlikeFrom_109 : decode m_M_unlikeFrom.2.1 109 = .ok (.iload 4, 2) := by decide +kernel
theorem d_M_unlikeFrom_111 : decode m_M_unlikeFrom.2.1 111 = .ok (.iload 6, 2) := by decide +kernel
theorem d_M_unlikeFrom_113 : decode m_M_unlikeFrom.2.1 113 = .ok (.invokevirtual 201, 3) := by decide +kernel
theorem d_M_unlikeFrom_116 : decode m_M_unlikeFrom.2.1 116 = .ok (.ifCond .ne 7, 3) := by decide +kernel
theorem d_M_unlikeFrom_119 : decode m_M_unlikeFrom.2.1 119 = .ok (.iconst 1, 1) := by decide +kernel
theorem d_M_unlikeFrom_120 : decode m_M_unlikeFrom.2.1 120 = .ok (.goto 4, 3) := by decide +kernel
theorem d_M_unlikeFrom_123 : decode m_M_unlikeFrom.2.1 123 = .ok (.iconst 0, 1) := by decide +kernel
theorem d_M_unlikeFrom_124 : decode m_M_unlikeFrom.2.1 124 = .ok (.istore 5, 2) := by decide +kernel
theorem d_M_unlikeFrom_126 : decode m_M_unlikeFrom.2.1 126 = .ok (.iinc 6 1, 3) := by decide +kernel
theorem d_M_unlikeFrom_129 : decode m_M_unlikeFrom.2.1 129 = .ok (.goto (-42), 3) := by decide +kernel
theorem d_M_unlikeFrom_132 : decode m_M_unlikeFrom.2.1 132 = .ok (.iload_n 3, 1) := by decide +kernel
theorem d_M_unlikeFrom_133 : decode m_M_unlikeFrom.2.1 133 = .ok (.iload 5, 2) := by decide +kernel
theorem d_M_unlikeFrom_135 : decode m_M_unlikeFrom.2.1 135 = .ok (.ifCond .eq 7, 3) := by decide +kernel
theorem d_M_unlikeFrom_138 : decode m_M_unlikeFrom.2.1 138 = .ok (.iconst 1, 1) := by decide +kernel
theorem d_M_unlikeFrom_139 : decode m_M_unlikeFrom.2.1 139 = .ok (.goto 4, 3) := by decide +kernel
theorem d_M_unlikeFrom_142 : decode m_M_unlikeFrom.2.1 142 = .ok (.iconst 0, 1) := by decide +kernel
theorem d_M_unlikeFrom_143 : decode m_M_unlikeFrom.2.1 143 = .ok (.iadd, 1) := by decide +kernel
theorem d_M_unlikeFrom_144 : decode m_M_unlikeFrom.2.1 144 = .ok (.istore_n 3, 1) := by decide +kernel
theorem d_M_unlikeFrom_145 : decode m_M_unlikeFrom.2.1 145 = .ok (.iinc 4 1, 3) := by decide +kernel
theorem d_M_unlikeFrom_148 : decode m_M_unlikeFrom.2.1 148 = .ok (.goto (-143), 3) := by decide +kernel
theorem d_M_unlikeFrom_151 : decode m_M_unlikeFrom.2.1 151 = .ok (.iload_n 3, 1) := by decide +kernel
theorem d_M_unlikeFrom_152 : decode m_M_unlikeFrom.2.1 152 = .ok (.ireturn, 1) := by decide +kernel
set_option maxHeartbeats 4000000 in
set_option maxRecDepth 20000 in
theorem Vl_M_unlikeFrom_87 (G : Gt) (K5 : Int32 → Int32 → Int32 → Int32 → Hp → Option (Int32 × Hp)) (hK5 : ∀ (x1 : Int32) (x2 : Int32) (x3 : Int32) (x4 : Int32) (h : Hp), V G m_M_unlikeFrom 5 [(0, .ref (ad G 31)), (1, .int x1), (2, .int x2), (3, .int x3), (4, .int x4)] [] h κi (K5 x1 x2 x3 x4 h)) : ∀ (n : Nat) (x1 : Int32) (x2 : Int32) (x3 : Int32) (x4 : Int32) (x5 : Int32) (x6 : Int32) (h : Hp), V G m_M_unlikeFrom 87 [(0, .ref (ad G 31)), (1, .int x1), (2, .int x2), (3, .int x3), (4, .int x4), (5, .int x5), (6, .int x6)] [] h κi (l_M_unlikeFrom_87 K5 n x1 x2 x3 x4 x5 x6 h) := by
  intro n
  induction n with
  | zero => intros; exact v_none
  | succ n ih =>
    intro x1 x2 x3 x4 x5 x6 h
    rw [l_M_unlikeFrom_87]
    refine v_iload 6 d_M_unlikeFrom_87 rfl ?_
    refine v_iload 4 d_M_unlikeFrom_89 rfl ?_
    refine v_icmp_ge 132 d_M_unlikeFrom_91 (by decide) (fun c5 => ?_) (fun c5 => ?_)
    · refine v_iload_n 3 d_M_unlikeFrom_132 rfl rfl ?_
      refine v_iload 5 d_M_unlikeFrom_133 rfl ?_
      refine v_if_eq 142 d_M_unlikeFrom_135 (by decide) (fun c6 => ?_) (fun c6 => ?_)
      · refine v_iconst 0 d_M_unlikeFrom_142 rfl ?_
        refine v_iadd d_M_unlikeFrom_143 ?_
        refine v_istore_n [(3, .int (x3 + 0)), (0, .ref (ad G 31)), (1, .int x1), (2, .int x2), (4, .int x4), (5, .int x5), (6, .int x6)] d_M_unlikeFrom_144 rfl (by decide) rfl ?_
        refine v_iinc (x4 + 1) 4 [(4, .int (x4 + 1)), (3, .int (x3 + 0)), (0, .ref (ad G 31)), (1, .int x1), (2, .int x2), (5, .int x5), (6, .int x6)] d_M_unlikeFrom_145 rfl rfl (by decide) rfl ?_
        refine v_goto 5 d_M_unlikeFrom_148 (by decide) ?_
        exact v_sub [2, 3, 4, 1, 0] rfl (hK5 x1 x2 (x3 + 0) (x4 + 1) h)
      · refine v_iconst 1 d_M_unlikeFrom_138 rfl ?_
        refine v_goto 143 d_M_unlikeFrom_139 (by decide) ?_
        refine v_iadd d_M_unlikeFrom_143 ?_
        refine v_istore_n [(3, .int (x3 + 1)), (0, .ref (ad G 31)), (1, .int x1), (2, .int x2), (4, .int x4), (5, .int x5), (6, .int x6)] d_M_unlikeFrom_144 rfl (by decide) rfl ?_
        refine v_iinc (x4 + 1) 4 [(4, .int (x4 + 1)), (3, .int (x3 + 1)), (0, .ref (ad G 31)), (1, .int x1), (2, .int x2), (5, .int x5), (6, .int x6)] d_M_unlikeFrom_145 rfl rfl (by decide) rfl ?_
        refine v_goto 5 d_M_unlikeFrom_148 (by decide) ?_
        exact v_sub [2, 3, 4, 1, 0] rfl (hK5 x1 x2 (x3 + 1) (x4 + 1) h)
    · refine v_iload 5 d_M_unlikeFrom_94 rfl ?_
      refine v_if_eq 132 d_M_unlikeFrom_96 (by decide) (fun c7 => ?_) (fun c7 => ?_)
      · refine v_iload_n 3 d_M_unlikeFrom_132 rfl rfl ?_
        refine v_iload 5 d_M_unlikeFrom_133 rfl ?_
        refine v_if_eq_t 142 d_M_unlikeFrom_135 (by decide) c7 ?_
        refine v_iconst 0 d_M_unlikeFrom_142 rfl ?_
        refine v_iadd d_M_unlikeFrom_143 ?_
        refine v_istore_n [(3, .int (x3 + 0)), (0, .ref (ad G 31)), (1, .int x1), (2, .int x2), (4, .int x4), (5, .int x5), (6, .int x6)] d_M_unlikeFrom_144 rfl (by decide) rfl ?_
        refine v_iinc (x4 + 1) 4 [(4, .int (x4 + 1)), (3, .int (x3 + 0)), (0, .ref (ad G 31)), (1, .int x1), (2, .int x2), (5, .int x5), (6, .int x6)] d_M_unlikeFrom_145 rfl rfl (by decide) rfl ?_
        refine v_goto 5 d_M_unlikeFrom_148 (by decide) ?_
        exact v_sub [2, 3, 4, 1, 0] rfl (hK5 x1 x2 (x3 + 0) (x4 + 1) h)
      · refine v_iload_n 2 d_M_unlikeFrom_99 rfl rfl ?_
        refine v_iload 6 d_M_unlikeFrom_100 rfl ?_
        refine v_callSi (As := [.int x2, .int x6]) (rest := []) (c_M_isIn G x2 x6 h) co_M_113 so_M_isIn ⟨by decide, by decide⟩ rfl rfl (Nat.le_of_ble_eq_true rfl) d_M_unlikeFrom_102 (fun r8 h8 _ => ?_)
        refine v_if_eq 119 d_M_unlikeFrom_105 (by decide) (fun c9 => ?_) (fun c9 => ?_)
        · refine v_iconst 1 d_M_unlikeFrom_119 rfl ?_
          refine v_goto 124 d_M_unlikeFrom_120 (by decide) ?_
          refine v_istore [(5, .int 1), (0, .ref (ad G 31)), (1, .int x1), (2, .int x2), (3, .int x3), (4, .int x4), (6, .int x6)] d_M_unlikeFrom_124 (by decide) rfl ?_
          refine v_iinc (x6 + 1) 6 [(6, .int (x6 + 1)), (5, .int 1), (0, .ref (ad G 31)), (1, .int x1), (2, .int x2), (3, .int x3), (4, .int x4)] d_M_unlikeFrom_126 rfl rfl (by decide) rfl ?_
          refine v_goto 87 d_M_unlikeFrom_129 (by decide) ?_
          exact v_sub [2, 3, 4, 5, 6, 1, 0] rfl (ih x1 x2 x3 x4 1 (x6 + 1) h8)
        · refine v_aload_n 0 d_M_unlikeFrom_108 rfl rfl ?_
          refine v_iload 4 d_M_unlikeFrom_109 rfl ?_
          refine v_iload 6 d_M_unlikeFrom_111 rfl ?_
          refine v_callVi (As := [.int x4, .int x6]) (rest := []) (c_M_areAlike G x4 x6 h8) co_M_201 io_M_areAlike o_31 ⟨by decide, by decide⟩ rfl rfl (Nat.le_of_ble_eq_true rfl) d_M_unlikeFrom_113 (fun r10 h10 _ => ?_)
          refine v_if_ne 123 d_M_unlikeFrom_116 (by decide) (fun c11 => ?_) (fun c11 => ?_)
          · refine v_iconst 1 d_M_unlikeFrom_119 rfl ?_
            refine v_goto 124 d_M_unlikeFrom_120 (by decide) ?_
            refine v_istore [(5, .int 1), (0, .ref (ad G 31)), (1, .int x1), (2, .int x2), (3, .int x3), (4, .int x4), (6, .int x6)] d_M_unlikeFrom_124 (by decide) rfl ?_
            refine v_iinc (x6 + 1) 6 [(6, .int (x6 + 1)), (5, .int 1), (0, .ref (ad G 31)), (1, .int x1), (2, .int x2), (3, .int x3), (4, .int x4)] d_M_unlikeFrom_126 rfl rfl (by decide) rfl ?_
            refine v_goto 87 d_M_unlikeFrom_129 (by decide) ?_
            exact v_sub [2, 3, 4, 5, 6, 1, 0] rfl (ih x1 x2 x3 x4 1 (x6 + 1) h10)
          · refine v_iconst 0 d_M_unlikeFrom_123 rfl ?_
            refine v_istore [(5, .int 0), (0, .ref (ad G 31)), (1, .int x1), (2, .int x2), (3, .int x3), (4, .int x4), (6, .int x6)] d_M_unlikeFrom_124 (by decide) rfl ?_
            refine v_iinc (x6 + 1) 6 [(6, .int (x6 + 1)), (5, .int 0), (0, .ref (ad G 31)), (1, .int x1), (2, .int x2), (3, .int x3), (4, .int x4)] d_M_unlikeFrom_126 rfl rfl (by decide) rfl ?_
            refine v_goto 87 d_M_unlikeFrom_129 (by decide) ?_
            exact v_sub [2, 3, 4, 5, 6, 1, 0] rfl (ih x1 x2 x3 x4 0 (x6 + 1) h10)
set_option maxHeartbeats 4000000 in
set_option maxRecDepth 20000 in
theorem Vl_M_unlikeFrom_39 (G : Gt) (K5 : Int32 → Int32 → Int32 → Int32 → Hp → Option (Int32 × Hp)) (hK5 : ∀ (x1 : Int32) (x2 : Int32) (x3 : Int32) (x4 : Int32) (h : Hp), V G m_M_unlikeFrom 5 [(0, .ref (ad G 31)), (1, .int x1), (2, .int x2), (3, .int x3), (4, .int x4)] [] h κi (K5 x1 x2 x3 x4 h)) : ∀ (n : Nat) (x1 : Int32) (x2 : Int32) (x3 : Int32) (x4 : Int32) (x5 : Int32) (h : Hp), V G m_M_unlikeFrom 39 [(0, .ref (ad G 31)), (1, .int x1), (2, .int x2), (3, .int x3), (4, .int x4), (5, .int x5)] [] h κi (l_M_unlikeFrom_39 K5 n x1 x2 x3 x4 x5 h) := by
  intro n
  induction n with
  | zero => intros; exact v_none
  | succ n ih =>
    intro x1 x2 x3 x4 x5 h
    rw [l_M_unlikeFrom_39]
    refine v_iload 5 d_M_unlikeFrom_39 rfl ?_
    refine v_aload_n 0 d_M_unlikeFrom_41 rfl rfl ?_
    refine v_geti fl_M_117 o_31 rfl d_M_unlikeFrom_42 ?_
    refine v_icmp_ge 76 d_M_unlikeFrom_45 (by decide) (fun c3 => ?_) (fun c3 => ?_)
    · refine v_iload_n 2 d_M_unlikeFrom_76 rfl rfl ?_
      refine v_iload 4 d_M_unlikeFrom_77 rfl ?_
      refine v_callSi (As := [.int x2, .int x4]) (rest := []) (c_M_isIn G x2 x4 h) co_M_113 so_M_isIn ⟨by decide, by decide⟩ rfl rfl (Nat.le_of_ble_eq_true rfl) d_M_unlikeFrom_79 (fun r4 h4 _ => ?_)
      refine v_istore [(5, .int r4), (0, .ref (ad G 31)), (1, .int x1), (2, .int x2), (3, .int x3), (4, .int x4)] d_M_unlikeFrom_82 (by decide) rfl ?_
      refine v_iconst 0 d_M_unlikeFrom_84 rfl ?_
      refine v_istore [(6, .int 0), (5, .int r4), (0, .ref (ad G 31)), (1, .int x1), (2, .int x2), (3, .int x3), (4, .int x4)] d_M_unlikeFrom_85 (by decide) rfl ?_
      exact v_sub [2, 3, 4, 5, 6, 1, 0] rfl (Vl_M_unlikeFrom_87 G K5 hK5 FUEL x1 x2 x3 x4 r4 0 h4)
    · refine v_aload_n 0 d_M_unlikeFrom_48 rfl rfl ?_
      refine v_getr 40 fl_M_34 o_31 rfl rfl d_M_unlikeFrom_49 ?_
      refine v_bipush 11 d_M_unlikeFrom_52 rfl ?_
      refine v_iload 4 d_M_unlikeFrom_54 rfl ?_
      refine v_imul d_M_unlikeFrom_56 ?_
      refine v_iconst 1 d_M_unlikeFrom_57 rfl ?_
      refine v_iadd d_M_unlikeFrom_58 ?_
      refine v_iload 5 d_M_unlikeFrom_59 rfl ?_
      refine v_iadd d_M_unlikeFrom_61 ?_
      refine v_aload_n 0 d_M_unlikeFrom_62 rfl rfl ?_
      refine v_getr 35 fl_M_19 o_31 rfl rfl d_M_unlikeFrom_63 ?_
      refine v_iload 5 d_M_unlikeFrom_66 rfl ?_
      refine v_iald ar_35 d_M_unlikeFrom_68 ?_
      refine v_iast ar_40 d_M_unlikeFrom_69 ?_
      refine v_iinc (x5 + 1) 5 [(5, .int (x5 + 1)), (0, .ref (ad G 31)), (1, .int x1), (2, .int x2), (3, .int x3), (4, .int x4)] d_M_unlikeFrom_70 rfl rfl (by decide) rfl ?_
      refine v_goto 39 d_M_unlikeFrom_73 (by decide) ?_
      exact v_sub [1, 2, 3, 4, 5, 0] rfl (ih x1 x2 x3 x4 (x5 + 1) (hset h 40 (ix (((11 * x4) + 1) + x5)) (h 35 (ix x5))))
set_option maxHeartbeats 4000000 in
set_option maxRecDepth 20000 in
theorem Vl_M_unlikeFrom_5 (G : Gt) : ∀ (n : Nat) (x1 : Int32) (x2 : Int32) (x3 : Int32) (x4 : Int32) (h : Hp), V G m_M_unlikeFrom 5 [(0, .ref (ad G 31)), (1, .int x1), (2, .int x2), (3, .int x3), (4, .int x4)] [] h κi (l_M_unlikeFrom_5 n x1 x2 x3 x4 h) := by
  intro n
  induction n with
  | zero => intros; exact v_none
  | succ n ih =>
    intro x1 x2 x3 x4 h
    rw [l_M_unlikeFrom_5]
    refine v_iload 4 d_M_unlikeFrom_5 rfl ?_
    refine v_iconst 4 d_M_unlikeFrom_7 rfl ?_
    refine v_icmp_ge 151 d_M_unlikeFrom_8 (by decide) (fun c1 => ?_) (fun c1 => ?_)
    · refine v_iload_n 3 d_M_unlikeFrom_151 rfl rfl ?_
      exact v_iret rfl d_M_unlikeFrom_152
    · refine v_aload_n 0 d_M_unlikeFrom_11 rfl rfl ?_
      refine v_iload_n 1 d_M_unlikeFrom_12 rfl rfl ?_
      refine v_iload 4 d_M_unlikeFrom_13 rfl ?_
      refine v_aload_n 0 d_M_unlikeFrom_15 rfl rfl ?_
      refine v_geti fl_M_81 o_31 rfl d_M_unlikeFrom_16 ?_
      refine v_callVv (As := [.int x1, .int x4, .int (h 31 5)]) (rest := []) (c_M_lays G x1 x4 (h 31 5) h) co_M_136 io_M_lays o_31 ⟨by decide, by decide⟩ rfl rfl (Nat.le_of_ble_eq_true rfl) d_M_unlikeFrom_19 (fun _ h2 _ => ?_)
      refine v_aload_n 0 d_M_unlikeFrom_22 rfl rfl ?_
      refine v_getr 40 fl_M_34 o_31 rfl rfl d_M_unlikeFrom_23 ?_
      refine v_bipush 11 d_M_unlikeFrom_26 rfl ?_
      refine v_iload 4 d_M_unlikeFrom_28 rfl ?_
      refine v_imul d_M_unlikeFrom_30 ?_
      refine v_aload_n 0 d_M_unlikeFrom_31 rfl rfl ?_
      refine v_geti fl_M_117 o_31 rfl d_M_unlikeFrom_32 ?_
      refine v_iast ar_40 d_M_unlikeFrom_35 ?_
      refine v_iconst 0 d_M_unlikeFrom_36 rfl ?_
      refine v_istore [(5, .int 0), (0, .ref (ad G 31)), (1, .int x1), (2, .int x2), (3, .int x3), (4, .int x4)] d_M_unlikeFrom_37 (by decide) rfl ?_
      exact v_sub [1, 2, 3, 4, 5, 0] rfl (Vl_M_unlikeFrom_39 G (l_M_unlikeFrom_5 n) ih FUEL x1 x2 x3 x4 0 (hset h2 40 (ix (11 * x4)) (h2 31 10)))
set_option maxHeartbeats 4000000 in
set_option maxRecDepth 20000 in
theorem c_M_unlikeFrom (G : Gt) (x1 : Int32) (x2 : Int32) (h : Hp) : Cn G m_M_unlikeFrom [.ref (ad G 31), .int x1, .int x2] h κi (f_M_unlikeFrom x1 x2 h) := by
  refine entryV (by decide) (Nat.le_of_ble_eq_true rfl) rfl ?_
  show V G m_M_unlikeFrom 0 [(0, .ref (ad G 31)), (1, .int x1), (2, .int x2)] [] h κi _
  unfold f_M_unlikeFrom
  refine v_iconst 0 d_M_unlikeFrom_0 rfl ?_
  refine v_istore_n [(3, .int 0), (0, .ref (ad G 31)), (1, .int x1), (2, .int x2)] d_M_unlikeFrom_1 rfl (by decide) rfl ?_
  refine v_iconst 0 d_M_unlikeFrom_2 rfl ?_
  refine v_istore [(4, .int 0), (3, .int 0), (0, .ref (ad G 31)), (1, .int x1), (2, .int x2)] d_M_unlikeFrom_3 (by decide) rfl ?_
  exact v_sub [2, 3, 4, 1, 0] rfl (Vl_M_unlikeFrom_5 G FUEL x1 x2 0 0 h)
theorem d_M_tellsNow_0 : decode m_M_tellsNow.2.1 0 = .ok (.aload_n 0, 1) := by decide +kernel
theorem d_M_tellsNow_1 : decode m_M_tellsNow.2.1 1 = .ok (.invokevirtual 198, 3) := by decide +kernel
theorem d_M_tellsNow_4 : decode m_M_tellsNow.2.1 4 = .ok (.istore_n 1, 1) := by decide +kernel
theorem d_M_tellsNow_5 : decode m_M_tellsNow.2.1 5 = .ok (.iconst (-1), 1) := by decide +kernel
theorem d_M_tellsNow_6 : decode m_M_tellsNow.2.1 6 = .ok (.istore_n 2, 1) := by decide +kernel
theorem d_M_tellsNow_7 : decode m_M_tellsNow.2.1 7 = .ok (.iconst (-1), 1) := by decide +kernel
theorem d_M_tellsNow_8 : decode m_M_tellsNow.2.1 8 = .ok (.istore_n 3, 1) := by decide +kernel
theorem d_M_tellsNow_9 : decode m_M_tellsNow.2.1 9 = .ok (.iconst 0, 1) := by decide +kernel
theorem d_M_tellsNow_10 : decode m_M_tellsNow.2.1 10 = .ok (.istore 4, 2) := by decide +kernel
theorem d_M_tellsNow_12 : decode m_M_tellsNow.2.1 12 = .ok (.iload 4, 2) := by decide +kernel
theorem d_M_tellsNow_14 : decode m_M_tellsNow.2.1 14 = .ok (.aload_n 0, 1) := by decide +kernel
theorem d_M_tellsNow_15 : decode m_M_tellsNow.2.1 15 = .ok (.getfield 67, 3) := by decide +kernel
theorem d_M_tellsNow_18 : decode m_M_tellsNow.2.1 18 = .ok (.if_icmp .ge 57, 3) := by decide +kernel
theorem d_M_tellsNow_21 : decode m_M_tellsNow.2.1 21 = .ok (.aload_n 0, 1) := by decide +kernel
theorem d_M_tellsNow_22 : decode m_M_tellsNow.2.1 22 = .ok (.iload 4, 2) := by decide +kernel
theorem d_M_tellsNow_24 : decode m_M_tellsNow.2.1 24 = .ok (.invokevirtual 133, 3) := by decide +kernel
theorem d_M_tellsNow_27 : decode m_M_tellsNow.2.1 27 = .ok (.ifCond .eq 7, 3) := by decide +kernel
theorem d_M_tellsNow_30 : decode m_M_tellsNow.2.1 30 = .ok (.iconst (-1), 1) := by decide +kernel
theorem d_M_tellsNow_31 : decode m_M_tellsNow.2.1 31 = .ok (.goto 10, 3) := by decide +kernel
theorem d_M_tellsNow_34 : decode m_M_tellsNow.2.1 34 = .ok (.aload_n 0, 1) := by decide +kernel
theorem d_M_tellsNow_35 : decode m_M_tellsNow.2.1 35 = .ok (.iload 4, 2) := by decide +kernel
theorem d_M_tellsNow_37 : decode m_M_tellsNow.2.1 37 = .ok (.iload_n 1, 1) := by decide +kernel
theorem d_M_tellsNow_38 : decode m_M_tellsNow.2.1 38 = .ok (.invokevirtual 204, 3) := by decide +kernel
theorem d_M_tellsNow_41 : decode m_M_tellsNow.2.1 41 = .ok (.istore 5, 2) := by decide +kernel
theorem d_M_tellsNow_43 : decode m_M_tellsNow.2.1 43 = .ok (.iload 5, 2) := by decide +kernel
theorem d_M_tellsNow_45 : decode m_M_tellsNow.2.1 45 = .ok (.iload_n 3, 1) := by decide +kernel
theorem d_M_tellsNow_46 : decode m_M_tellsNow.2.1 46 = .ok (.if_icmp .le 8, 3) := by decide +kernel
theorem d_M_tellsNow_49 : decode m_M_tellsNow.2.1 49 = .ok (.iload 4, 2) := by decide +kernel
theorem d_M_tellsNow_51 : decode m_M_tellsNow.2.1 51 = .ok (.goto 4, 3) := by decide +kernel
theorem d_M_tellsNow_54 : decode m_M_tellsNow.2.1 54 = .ok (.iload_n 2, 1) := by decide +kernel
theorem d_M_tellsNow_55 : decode m_M_tellsNow.2.1 55 = .ok (.istore_n 2, 1) := by decide +kernel
theorem d_M_tellsNow_56 : decode m_M_tellsNow.2.1 56 = .ok (.iload 5, 2) := by decide +kernel
theorem d_M_tellsNow_58 : decode m_M_tellsNow.2.1 58 = .ok (.iload_n 3, 1) := by decide +kernel
theorem d_M_tellsNow_59 : decode m_M_tellsNow.2.1 59 = .ok (.if_icmp .le 8, 3) := by decide +kernel
theorem d_M_tellsNow_62 : decode m_M_tellsNow.2.1 62 = .ok (.iload 5, 2) := by decide +kernel
theorem d_M_tellsNow_64 : decode m_M_tellsNow.2.1 64 = .ok (.goto 4, 3) := by decide +kernel
theorem d_M_tellsNow_67 : decode m_M_tellsNow.2.1 67 = .ok (.iload_n 3, 1) := by decide +kernel
theorem d_M_tellsNow_68 : decode m_M_tellsNow.2.1 68 = .ok (.istore_n 3, 1) := by decide +kernel
theorem d_M_tellsNow_69 : decode m_M_tellsNow.2.1 69 = .ok (.iinc 4 1, 3) := by decide +kernel
theorem d_M_tellsNow_72 : decode m_M_tellsNow.2.1 72 = .ok (.goto (-60), 3) := by decide +kernel
theorem d_M_tellsNow_75 : decode m_M_tellsNow.2.1 75 = .ok (.iload_n 2, 1) := by decide +kernel
theorem d_M_tellsNow_76 : decode m_M_tellsNow.2.1 76 = .ok (.ireturn, 1) := by decide +kernel
set_option maxHeartbeats 4000000 in
set_option maxRecDepth 20000 in
theorem Vl_M_tellsNow_12 (G : Gt) : ∀ (n : Nat) (x1 : Int32) (x2 : Int32) (x3 : Int32) (x4 : Int32) (h : Hp), V G m_M_tellsNow 12 [(0, .ref (ad G 31)), (1, .int x1), (2, .int x2), (3, .int x3), (4, .int x4)] [] h κi (l_M_tellsNow_12 n x1 x2 x3 x4 h) := by
  intro n
  induction n with
  | zero => intros; exact v_none
  | succ n ih =>
    intro x1 x2 x3 x4 h
    rw [l_M_tellsNow_12]
    refine v_iload 4 d_M_tellsNow_12 rfl ?_
    refine v_aload_n 0 d_M_tellsNow_14 rfl rfl ?_
    refine v_geti fl_M_67 o_31 rfl d_M_tellsNow_15 ?_
    refine v_icmp_ge 75 d_M_tellsNow_18 (by decide) (fun c2 => ?_) (fun c2 => ?_)
    · refine v_iload_n 2 d_M_tellsNow_75 rfl rfl ?_
      exact v_iret rfl d_M_tellsNow_76
    · refine v_aload_n 0 d_M_tellsNow_21 rfl rfl ?_
      refine v_iload 4 d_M_tellsNow_22 rfl ?_
      refine v_callVi (As := [.int x4]) (rest := []) (c_M_isHidden G x4 h) co_M_133 io_M_isHidden o_31 ⟨by decide, by decide⟩ rfl rfl (Nat.le_of_ble_eq_true rfl) d_M_tellsNow_24 (fun r3 h3 _ => ?_)
      refine v_if_eq 34 d_M_tellsNow_27 (by decide) (fun c4 => ?_) (fun c4 => ?_)
      · refine v_aload_n 0 d_M_tellsNow_34 rfl rfl ?_
        refine v_iload 4 d_M_tellsNow_35 rfl ?_
        refine v_iload_n 1 d_M_tellsNow_37 rfl rfl ?_
        refine v_callVi (As := [.int x4, .int x1]) (rest := []) (c_M_unlikeFrom G x4 x1 h3) co_M_204 io_M_unlikeFrom o_31 ⟨by decide, by decide⟩ rfl rfl (Nat.le_of_ble_eq_true rfl) d_M_tellsNow_38 (fun r5 h5 _ => ?_)
        refine v_istore [(5, .int r5), (0, .ref (ad G 31)), (1, .int x1), (2, .int x2), (3, .int x3), (4, .int x4)] d_M_tellsNow_41 (by decide) rfl ?_
        refine v_iload 0 d_M_tellsNow_43 rfl ?_
        refine v_iload_n 4 d_M_tellsNow_45 rfl rfl ?_
        refine v_icmp_le 54 d_M_tellsNow_46 (by decide) (fun c6 => ?_) (fun c6 => ?_)
        · refine v_iload_n 3 d_M_tellsNow_54 rfl rfl ?_
          refine v_istore_n [(2, .int x2), (5, .int r5), (0, .ref (ad G 31)), (1, .int x1), (3, .int x3), (4, .int x4)] d_M_tellsNow_55 rfl (by decide) rfl ?_
          refine v_iload 1 d_M_tellsNow_56 rfl ?_
          refine v_iload_n 4 d_M_tellsNow_58 rfl rfl ?_
          refine v_icmp_le_t 67 d_M_tellsNow_59 (by decide) c6 ?_
          refine v_iload_n 4 d_M_tellsNow_67 rfl rfl ?_
          refine v_istore_n [(3, .int x3), (2, .int x2), (5, .int r5), (0, .ref (ad G 31)), (1, .int x1), (4, .int x4)] d_M_tellsNow_68 rfl (by decide) rfl ?_
          refine v_iinc (x4 + 1) 5 [(4, .int (x4 + 1)), (3, .int x3), (2, .int x2), (5, .int r5), (0, .ref (ad G 31)), (1, .int x1)] d_M_tellsNow_69 rfl rfl (by decide) rfl ?_
          refine v_goto 12 d_M_tellsNow_72 (by decide) ?_
          exact v_sub [4, 5, 2, 1, 0] rfl (ih x1 x2 x3 (x4 + 1) h5)
        · refine v_iload 5 d_M_tellsNow_49 rfl ?_
          refine v_goto 55 d_M_tellsNow_51 (by decide) ?_
          refine v_istore_n [(2, .int x4), (5, .int r5), (0, .ref (ad G 31)), (1, .int x1), (3, .int x3), (4, .int x4)] d_M_tellsNow_55 rfl (by decide) rfl ?_
          refine v_iload 1 d_M_tellsNow_56 rfl ?_
          refine v_iload_n 4 d_M_tellsNow_58 rfl rfl ?_
          refine v_icmp_le_f 67 d_M_tellsNow_59 (by decide) c6 ?_
          refine v_iload 1 d_M_tellsNow_62 rfl ?_
          refine v_goto 68 d_M_tellsNow_64 (by decide) ?_
          refine v_istore_n [(3, .int r5), (2, .int x4), (5, .int r5), (0, .ref (ad G 31)), (1, .int x1), (4, .int x4)] d_M_tellsNow_68 rfl (by decide) rfl ?_
          refine v_iinc (x4 + 1) 5 [(4, .int (x4 + 1)), (3, .int r5), (2, .int x4), (5, .int r5), (0, .ref (ad G 31)), (1, .int x1)] d_M_tellsNow_69 rfl rfl (by decide) rfl ?_
          refine v_goto 12 d_M_tellsNow_72 (by decide) ?_
          exact v_sub [4, 5, 2, 1, 0] rfl (ih x1 x4 r5 (x4 + 1) h5)
      · refine v_iconst (-1) d_M_tellsNow_30 rfl ?_
        refine v_goto 41 d_M_tellsNow_31 (by decide) ?_
        refine v_istore [(5, .int (-1)), (0, .ref (ad G 31)), (1, .int x1), (2, .int x2), (3, .int x3), (4, .int x4)] d_M_tellsNow_41 (by decide) rfl ?_
        refine v_iload 0 d_M_tellsNow_43 rfl ?_
        refine v_iload_n 4 d_M_tellsNow_45 rfl rfl ?_
        refine v_icmp_le 54 d_M_tellsNow_46 (by decide) (fun c7 => ?_) (fun c7 => ?_)
        · refine v_iload_n 3 d_M_tellsNow_54 rfl rfl ?_
          refine v_istore_n [(2, .int x2), (5, .int (-1)), (0, .ref (ad G 31)), (1, .int x1), (3, .int x3), (4, .int x4)] d_M_tellsNow_55 rfl (by decide) rfl ?_
          refine v_iload 1 d_M_tellsNow_56 rfl ?_
          refine v_iload_n 4 d_M_tellsNow_58 rfl rfl ?_
          refine v_icmp_le_t 67 d_M_tellsNow_59 (by decide) c7 ?_
          refine v_iload_n 4 d_M_tellsNow_67 rfl rfl ?_
          refine v_istore_n [(3, .int x3), (2, .int x2), (5, .int (-1)), (0, .ref (ad G 31)), (1, .int x1), (4, .int x4)] d_M_tellsNow_68 rfl (by decide) rfl ?_
          refine v_iinc (x4 + 1) 5 [(4, .int (x4 + 1)), (3, .int x3), (2, .int x2), (5, .int (-1)), (0, .ref (ad G 31)), (1, .int x1)] d_M_tellsNow_69 rfl rfl (by decide) rfl ?_
          refine v_goto 12 d_M_tellsNow_72 (by decide) ?_
          exact v_sub [4, 5, 2, 1, 0] rfl (ih x1 x2 x3 (x4 + 1) h3)
        · refine v_iload 5 d_M_tellsNow_49 rfl ?_
          refine v_goto 55 d_M_tellsNow_51 (by decide) ?_
          refine v_istore_n [(2, .int x4), (5, .int (-1)), (0, .ref (ad G 31)), (1, .int x1), (3, .int x3), (4, .int x4)] d_M_tellsNow_55 rfl (by decide) rfl ?_
          refine v_iload 1 d_M_tellsNow_56 rfl ?_
          refine v_iload_n 4 d_M_tellsNow_58 rfl rfl ?_
          refine v_icmp_le_f 67 d_M_tellsNow_59 (by decide) c7 ?_
          refine v_iload 1 d_M_tellsNow_62 rfl ?_
          refine v_goto 68 d_M_tellsNow_64 (by decide) ?_
          refine v_istore_n [(3, .int (-1)), (2, .int x4), (5, .int (-1)), (0, .ref (ad G 31)), (1, .int x1), (4, .int x4)] d_M_tellsNow_68 rfl (by decide) rfl ?_
          refine v_iinc (x4 + 1) 5 [(4, .int (x4 + 1)), (3, .int (-1)), (2, .int x4), (5, .int (-1)), (0, .ref (ad G 31)), (1, .int x1)] d_M_tellsNow_69 rfl rfl (by decide) rfl ?_
          refine v_goto 12 d_M_tellsNow_72 (by decide) ?_
          exact v_sub [4, 5, 2, 1, 0] rfl (ih x1 x4 (-1) (x4 + 1) h3)
set_option maxHeartbeats 4000000 in
set_option maxRecDepth 20000 in
theorem c_M_tellsNow (G : Gt) (h : Hp) : Cn G m_M_tellsNow [.ref (ad G 31)] h κi (f_M_tellsNow h) := by
  refine entryV (by decide) (Nat.le_of_ble_eq_true rfl) rfl ?_
  show V G m_M_tellsNow 0 [(0, .ref (ad G 31))] [] h κi _
  unfold f_M_tellsNow
  refine v_aload_n 0 d_M_tellsNow_0 rfl rfl ?_
  refine v_callVi (As := []) (rest := []) (c_M_fitsNow G h) co_M_198 io_M_fitsNow o_31 ⟨by decide, by decide⟩ rfl rfl (Nat.le_of_ble_eq_true rfl) d_M_tellsNow_1 (fun r1 h1 _ => ?_)
  refine v_istore_n [(1, .int r1), (0, .ref (ad G 31))] d_M_tellsNow_4 rfl (by decide) rfl ?_
  refine v_iconst (-1) d_M_tellsNow_5 rfl ?_
  refine v_istore_n [(2, .int (-1)), (1, .int r1), (0, .ref (ad G 31))] d_M_tellsNow_6 rfl (by decide) rfl ?_
  refine v_iconst (-1) d_M_tellsNow_7 rfl ?_
  refine v_istore_n [(3, .int (-1)), (2, .int (-1)), (1, .int r1), (0, .ref (ad G 31))] d_M_tellsNow_8 rfl (by decide) rfl ?_
  refine v_iconst 0 d_M_tellsNow_9 rfl ?_
  refine v_istore [(4, .int 0), (3, .int (-1)), (2, .int (-1)), (1, .int r1), (0, .ref (ad G 31))] d_M_tellsNow_10 (by decide) rfl ?_
  exact v_sub [4, 3, 2, 1, 0] rfl (Vl_M_tellsNow_12 G FUEL r1 (-1) (-1) 0 h1)
theorem d_M_tells_0 : decode m_M_tells.2.1 0 = .ok (.aload_n 0, 1) := by decide +kernel
theorem d_M_tells_1 : decode m_M_tells.2.1 1 = .ok (.invokevirtual 207, 3) := by decide +kernel
theorem d_M_tells_4 : decode m_M_tells.2.1 4 = .ok (.ireturn, 1) := by decide +kernel
set_option maxHeartbeats 4000000 in
set_option maxRecDepth 20000 in
theorem c_M_tells (G : Gt) (h : Hp) : Cn G m_M_tells [.ref (ad G 31)] h κi (f_M_tells h) := by
  refine entryV (by decide) (Nat.le_of_ble_eq_true rfl) rfl ?_
  show V G m_M_tells 0 [(0, .ref (ad G 31))] [] h κi _
  unfold f_M_tells
  refine v_aload_n 0 d_M_tells_0 rfl rfl ?_
  refine v_callVi (As := []) (rest := []) (c_M_tellsNow G h) co_M_207 io_M_tellsNow o_31 ⟨by decide, by decide⟩ rfl rfl (Nat.le_of_ble_eq_true rfl) d_M_tells_1 (fun r1 h1 _ => ?_)
  exact v_iret rfl d_M_tells_4
theorem d_M_fliesOf_0 : decode m_M_fliesOf.2.1 0 = .ok (.aload_n 0, 1) := by decide +kernel
theorem d_M_fliesOf_1 : decode m_M_fliesOf.2.1 1 = .ok (.iload_n 1, 1) := by decide +kernel
theorem d_M_fliesOf_2 : decode m_M_fliesOf.2.1 2 = .ok (.invokevirtual 133, 3) := by decide +kernel
theorem d_M_fliesOf_5 : decode m_M_fliesOf.2.1 5 = .ok (.ifCond .eq 6, 3) := by decide +kernel
theorem d_M_fliesOf_8 : decode m_M_fliesOf.2.1 8 = .ok (.bipush (-3), 2) := by decide +kernel
theorem d_M_fliesOf_10 : decode m_M_fliesOf.2.1 10 = .ok (.ireturn, 1) := by decide +kernel
theorem d_M_fliesOf_11 : decode m_M_fliesOf.2.1 11 = .ok (.aload_n 0, 1) := by decide +kernel
theorem d_M_fliesOf_12 : decode m_M_fliesOf.2.1 12 = .ok (.iload_n 1, 1) := by decide +kernel
theorem d_M_fliesOf_13 : decode m_M_fliesOf.2.1 13 = .ok (.iload_n 2, 1) := by decide +kernel
theorem d_M_fliesOf_14 : decode m_M_fliesOf.2.1 14 = .ok (.aload_n 0, 1) := by decide +kernel
theorem d_M_fliesOf_15 : decode m_M_fliesOf.2.1 15 = .ok (.getfield 81, 3) := by decide +kernel
theorem d_M_fliesOf_18 : decode m_M_fliesOf.2.1 18 = .ok (.invokevirtual 136, 3) := by decide +kernel
theorem d_M_fliesOf_21 : decode m_M_fliesOf.2.1 21 = .ok (.iload_n 3, 1) := by decide +kernel
theorem d_M_fliesOf_22 : decode m_M_fliesOf.2.1 22 = .ok (.istore 5, 2) := by decide +kernel
theorem d_M_fliesOf_24 : decode m_M_fliesOf.2.1 24 = .ok (.iconst 0, 1) := by decide +kernel
theorem d_M_fliesOf_25 : decode m_M_fliesOf.2.1 25 = .ok (.istore 6, 2) := by decide +kernel
theorem d_M_fliesOf_27 : decode m_M_fliesOf.2.1 27 = .ok (.iconst 0, 1) := by decide +kernel
theorem d_M_fliesOf_28 : decode m_M_fliesOf.2.1 28 = .ok (.istore 7, 2) := by decide +kernel
theorem d_M_fliesOf_30 : decode m_M_fliesOf.2.1 30 = .ok (.iload 7, 2) := by decide +kernel
theorem d_M_fliesOf_32 : decode m_M_fliesOf.2.1 32 = .ok (.iload 4, 2) := by decide +kernel
theorem d_M_fliesOf_34 : decode m_M_fliesOf.2.1 34 = .ok (.if_icmp .ge 141, 3) := by decide +kernel
theorem d_M_fliesOf_37 : decode m_M_fliesOf.2.1 37 = .ok (.ldc 210, 2) := by decide +kernel
theorem d_M_fliesOf_39 : decode m_M_fliesOf.2.1 39 = .ok (.iload 5, 2) := by decide +kernel
theorem d_M_fliesOf_41 : decode m_M_fliesOf.2.1 41 = .ok (.imul, 1) := by decide +kernel
theorem d_M_fliesOf_42 : decode m_M_fliesOf.2.1 42 = .ok (.sipush 12345, 3) := by decide +kernel
theorem d_M_fliesOf_45 : decode m_M_fliesOf.2.1 45 = .ok (.iadd, 1) := by decide +kernel
theorem d_M_fliesOf_46 : decode m_M_fliesOf.2.1 46 = .ok (.istore 5, 2) := by decide +kernel
theorem d_M_fliesOf_48 : decode m_M_fliesOf.2.1 48 = .ok (.iload 5, 2) := by decide +kernel
theorem d_M_fliesOf_50 : decode m_M_fliesOf.2.1 50 = .ok (.bipush 16, 2) := by decide +kernel
theorem d_M_fliesOf_52 : decode m_M_fliesOf.2.1 52 = .ok (.iushr, 1) := by decide +kernel
theorem d_M_fliesOf_53 : decode m_M_fliesOf.2.1 53 = .ok (.bipush 10, 2) := by decide +kernel
theorem d_M_fliesOf_55 : decode m_M_fliesOf.2.1 55 = .ok (.irem, 1) := by decide +kernel
theorem d_M_fliesOf_56 : decode m_M_fliesOf.2.1 56 = .ok (.istore 8, 2) := by decide +kernel
theorem d_M_fliesOf_58 : decode m_M_fliesOf.2.1 58 = .ok (.ldc 210, 2) := by decide +kernel
theorem d_M_fliesOf_60 : decode m_M_fliesOf.2.1 60 = .ok (.iload 5, 2) := by decide +kernel
theorem d_M_fliesOf_62 : decode m_M_fliesOf.2.1 62 = .ok (.imul, 1) := by decide +kernel
theorem d_M_fliesOf_63 : decode m_M_fliesOf.2.1 63 = .ok (.sipush 12345, 3) := by decide +kernel
theorem d_M_fliesOf_66 : decode m_M_fliesOf.2.1 66 = .ok (.iadd, 1) := by decide +kernel
theorem d_M_fliesOf_67 : decode m_M_fliesOf.2.1 67 = .ok (.istore 5, 2) := by decide +kernel
theorem d_M_fliesOf_69 : decode m_M_fliesOf.2.1 69 = .ok (.iload 5, 2) := by decide +kernel
theorem d_M_fliesOf_71 : decode m_M_fliesOf.2.1 71 = .ok (.bipush 16, 2) := by decide +kernel
theorem d_M_fliesOf_73 : decode m_M_fliesOf.2.1 73 = .ok (.iushr, 1) := by decide +kernel
theorem d_M_fliesOf_74 : decode m_M_fliesOf.2.1 74 = .ok (.bipush 10, 2) := by decide +kernel
theorem d_M_fliesOf_76 : decode m_M_fliesOf.2.1 76 = .ok (.irem, 1) := by decide +kernel
theorem d_M_fliesOf_77 : decode m_M_fliesOf.2.1 77 = .ok (.istore 9, 2) := by decide +kernel
theorem d_M_fliesOf_79 : decode m_M_fliesOf.2.1 79 = .ok (.iconst 0, 1) := by decide +kernel
theorem d_M_fliesOf_80 : decode m_M_fliesOf.2.1 80 = .ok (.istore 10, 2) := by decide +kernel
theorem d_M_fliesOf_82 : decode m_M_fliesOf.2.1 82 = .ok (.iconst 0, 1) := by decide +kernel
theorem d_M_fliesOf_83 : decode m_M_fliesOf.2.1 83 = .ok (.istore 11, 2) := by decide +kernel
theorem d_M_fliesOf_85 : decode m_M_fliesOf.2.1 85 = .ok (.iload 11, 2) := by decide +kernel
theorem d_M_fliesOf_87 : decode m_M_fliesOf.2.1 87 = .ok (.aload_n 0, 1) := by decide +kernel
theorem d_M_fliesOf_88 : decode m_M_fliesOf.2.1 88 = .ok (.getfield 117, 3) := by decide +kernel
theorem d_M_fliesOf_91 : decode m_M_fliesOf.2.1 91 = .ok (.if_icmp .ge 63, 3) := by decide +kernel
theorem d_M_fliesOf_94 : decode m_M_fliesOf.2.1 94 = .ok (.iload 10, 2) := by decide +kernel
theorem d_M_fliesOf_96 : decode m_M_fliesOf.2.1 96 = .ok (.ifCond .ne 45, 3) := by decide +kernel
theorem d_M_fliesOf_99 : decode m_M_fliesOf.2.1 99 = .ok (.iload 8, 2) := by decide +kernel
theorem d_M_fliesOf_101 : decode m_M_fliesOf.2.1 101 = .ok (.aload_n 0, 1) := by decide +kernel
theorem d_M_fliesOf_102 : decode m_M_fliesOf.2.1 102 = .ok (.getfield 13, 3) := by decide +kernel
theorem d_M_fliesOf_105 : decode m_M_fliesOf.2.1 105 = .ok (.aload_n 0, 1) := by decide +kernel
theorem d_M_fliesOf_106 : decode m_M_fliesOf.2.1 106 = .ok (.getfield 19, 3) := by decide +kernel
theorem d_M_fliesOf_109 : decode m_M_fliesOf.2.1 109 = .ok (.iload 11, 2) := by decide +kernel
theorem d_M_fliesOf_111 : decode m_M_fliesOf.2.1 111 = .ok (.iaload, 1) := by decide +kernel
theorem d_M_fliesOf_112 : decode m_M_fliesOf.2.1 112 = .ok (.iaload, 1) := by decide +kernel
theorem d_M_fliesOf_113 : decode m_M_fliesOf.2.1 113 = .ok (.invokestatic 104, 3) := by decide +kernel
theorem d_M_fliesOf_116 : decode m_M_fliesOf.2.1 116 = .ok (.iload 9, 2) := by decide +kernel
theorem d_M_fliesOf_118 : decode m_M_fliesOf.2.1 118 = .ok (.aload_n 0, 1) := by decide +kernel
theorem d_M_fliesOf_119 : decode m_M_fliesOf.2.1 119 = .ok (.getfield 16, 3) := by decide +kernel
theorem d_M_fliesOf_122 : decode m_M_fliesOf.2.1 122 = .ok (.aload_n 0, 1) := by decide +kernel
theorem d_M_fliesOf_123 : decode m_M_fliesOf.2.1 123 = .ok (.getfield 19, 3) := by decide +kernel
theorem d_M_fliesOf_126 : decode m_M_fliesOf.2.1 126 = .ok (.iload 11, 2) := by decide +kernel
theorem d_M_fliesOf_128 : decode m_M_fliesOf.2.1 128 = .ok (.iaload, 1) := by decide +kernel
theorem d_M_fliesOf_129 : decode m_M_fliesOf.2.1 129 = .ok (.iaload, 1) := by decide +kernel
theorem d_M_fliesOf_130 : decode m_M_fliesOf.2.1 130 = .ok (.invokestatic 104, 3) := by decide +kernel
theorem d_M_fliesOf_133 : decode m_M_fliesOf.2.1 133 = .ok (.iadd, 1) := by decide +kernel
theorem d_M_fliesOf_134 : decode m_M_fliesOf.2.1 134 = .ok (.aload_n 0, 1) := by decide +kernel
theorem d_M_fliesOf_135 : decode m_M_fliesOf.2.1 135 = .ok (.getfield 57, 3) := by decide +kernel
theorem d_M_fliesOf_138 : decode m_M_fliesOf.2.1 138 = .ok (.if_icmp .gt 7, 3) := by decide +kernel
theorem d_M_fliesOf_141 : decode m_M_fliesOf.2.1 141 = .ok (.iconst 1, 1) := by decide +kernel
theorem d_M_fliesOf_142 : decode m_M_fliesOf.2.1 142 = .ok (.goto 4, 3) := by decide +kernel
theorem d_M_fliesOf_145 : decode m_M_fliesOf.2.1 145 = .ok (.iconst 0, 1) := by decide +kernel
theorem d_M_fliesOf_146 : decode m_M_fliesOf.2.1 146 = .ok (.istore 10, 2) := by decide +kernel
theorem d_M_fliesOf_148 : decode m_M_fliesOf.2.1 148 = .ok (.iinc 11 1, 3) := by decide +kernel
theorem d_M_fliesOf_151 : decode m_M_fliesOf.2.1 151 = .ok (.goto (-66), 3) := by decide +kernel
theorem d_M_fliesOf_154 : decode m_M_fliesOf.2.1 154 = .ok (.iload 6, 2) := by decide +kernel
theorem d_M_fliesOf_156 : decode m_M_fliesOf.2.1 156 = .ok (.iload 10, 2) := by decide +kernel
theorem d_M_fliesOf_158 : decode m_M_fliesOf.2.1 158 = .ok (.ifCond .eq 7, 3) := by decide +kernel
theorem d_M_fliesOf_161 : decode m_M_fliesOf.2.1 161 = .ok (.iconst 1, 1) := by decide +kernel
theorem d_M_fliesOf_162 : decode m_M_fliesOf.2.1 162 = .ok (.goto 4, 3) := by decide +kernel
theorem d_M_fliesOf_165 : decode m_M_fliesOf.2.1 165 = .ok (.iconst 0, 1) := by decide +kernel
theorem d_M_fliesOf_166 : decode m_M_fliesOf.2.1 166 = .ok (.iadd, 1) := by decide +kernel
theorem d_M_fliesOf_167 : decode m_M_fliesOf.2.1 167 = .ok (.istore 6, 2) := by decide +kernel
theorem d_M_fliesOf_169 : decode m_M_fliesOf.2.1 169 = .ok (.iinc 7 1, 3) := by decide +kernel
theorem d_M_fliesOf_172 : decode m_M_fliesOf.2.1 172 = .ok (.goto (-142), 3) := by decide +kernel
theorem d_M_fliesOf_175 : decode m_M_fliesOf.2.1 175 = .ok (.iload 6, 2) := by decide +kernel
theorem d_M_fliesOf_177 : decode m_M_fliesOf.2.1 177 = .ok (.ireturn, 1) := by decide +kernel
set_option maxHeartbeats 4000000 in
set_option maxRecDepth 20000 in
theorem Vl_M_fliesOf_85 (G : Gt) (K30 : Int32 → Int32 → Int32 → Int32 → Hp → Option (Int32 × Hp)) (hK30 : ∀ (x4 : Int32) (x5 : Int32) (x6 : Int32) (x7 : Int32) (h : Hp), V G m_M_fliesOf 30 [(0, .ref (ad G 31)), (4, .int x4), (5, .int x5), (6, .int x6), (7, .int x7)] [] h κi (K30 x4 x5 x6 x7 h)) : ∀ (n : Nat) (x4 : Int32) (x5 : Int32) (x6 : Int32) (x7 : Int32) (x8 : Int32) (x9 : Int32) (x10 : Int32) (x11 : Int32) (h : Hp), V G m_M_fliesOf 85 [(0, .ref (ad G 31)), (4, .int x4), (5, .int x5), (6, .int x6), (7, .int x7), (8, .int x8), (9, .int x9), (10, .int x10), (11, .int x11)] [] h κi (l_M_fliesOf_85 K30 n x4 x5 x6 x7 x8 x9 x10 x11 h) := by
  intro n
  induction n with
  | zero => intros; exact v_none
  | succ n ih =>
    intro x4 x5 x6 x7 x8 x9 x10 x11 h
    rw [l_M_fliesOf_85]
    refine v_iload 8 d_M_fliesOf_85 rfl ?_
    refine v_aload_n 0 d_M_fliesOf_87 rfl rfl ?_
    refine v_geti fl_M_117 o_31 rfl d_M_fliesOf_88 ?_
    refine v_icmp_ge 154 d_M_fliesOf_91 (by decide) (fun c5 => ?_) (fun c5 => ?_)
    · refine v_iload 3 d_M_fliesOf_154 rfl ?_
      refine v_iload 7 d_M_fliesOf_156 rfl ?_
      refine v_if_eq 165 d_M_fliesOf_158 (by decide) (fun c6 => ?_) (fun c6 => ?_)
      · refine v_iconst 0 d_M_fliesOf_165 rfl ?_
        refine v_iadd d_M_fliesOf_166 ?_
        refine v_istore [(6, .int (x6 + 0)), (0, .ref (ad G 31)), (4, .int x4), (5, .int x5), (7, .int x7), (8, .int x8), (9, .int x9), (10, .int x10), (11, .int x11)] d_M_fliesOf_167 (by decide) rfl ?_
        refine v_iinc (x7 + 1) 4 [(7, .int (x7 + 1)), (6, .int (x6 + 0)), (0, .ref (ad G 31)), (4, .int x4), (5, .int x5), (8, .int x8), (9, .int x9), (10, .int x10), (11, .int x11)] d_M_fliesOf_169 rfl rfl (by decide) rfl ?_
        refine v_goto 30 d_M_fliesOf_172 (by decide) ?_
        exact v_sub [2, 3, 4, 1, 0] rfl (hK30 x4 x5 (x6 + 0) (x7 + 1) h)
      · refine v_iconst 1 d_M_fliesOf_161 rfl ?_
        refine v_goto 166 d_M_fliesOf_162 (by decide) ?_
        refine v_iadd d_M_fliesOf_166 ?_
        refine v_istore [(6, .int (x6 + 1)), (0, .ref (ad G 31)), (4, .int x4), (5, .int x5), (7, .int x7), (8, .int x8), (9, .int x9), (10, .int x10), (11, .int x11)] d_M_fliesOf_167 (by decide) rfl ?_
        refine v_iinc (x7 + 1) 4 [(7, .int (x7 + 1)), (6, .int (x6 + 1)), (0, .ref (ad G 31)), (4, .int x4), (5, .int x5), (8, .int x8), (9, .int x9), (10, .int x10), (11, .int x11)] d_M_fliesOf_169 rfl rfl (by decide) rfl ?_
        refine v_goto 30 d_M_fliesOf_172 (by decide) ?_
        exact v_sub [2, 3, 4, 1, 0] rfl (hK30 x4 x5 (x6 + 1) (x7 + 1) h)
    · refine v_iload 7 d_M_fliesOf_94 rfl ?_
      refine v_if_ne 141 d_M_fliesOf_96 (by decide) (fun c7 => ?_) (fun c7 => ?_)
      · refine v_iload 5 d_M_fliesOf_99 rfl ?_
        refine v_aload_n 0 d_M_fliesOf_101 rfl rfl ?_
        refine v_getr 33 fl_M_13 o_31 rfl rfl d_M_fliesOf_102 ?_
        refine v_aload_n 0 d_M_fliesOf_105 rfl rfl ?_
        refine v_getr 35 fl_M_19 o_31 rfl rfl d_M_fliesOf_106 ?_
        refine v_iload 8 d_M_fliesOf_109 rfl ?_
        refine v_iald ar_35 d_M_fliesOf_111 ?_
        refine v_iald ar_33 d_M_fliesOf_112 ?_
        refine v_callSi (As := [.int x8, .int (h 33 (ix (h 35 (ix x11))))]) (rest := []) (c_M_apart G x8 (h 33 (ix (h 35 (ix x11)))) h) co_M_104 so_M_apart ⟨by decide, by decide⟩ rfl rfl (Nat.le_of_ble_eq_true rfl) d_M_fliesOf_113 (fun r8 h8 _ => ?_)
        refine v_iload 6 d_M_fliesOf_116 rfl ?_
        refine v_aload_n 0 d_M_fliesOf_118 rfl rfl ?_
        refine v_getr 34 fl_M_16 o_31 rfl rfl d_M_fliesOf_119 ?_
        refine v_aload_n 0 d_M_fliesOf_122 rfl rfl ?_
        refine v_getr 35 fl_M_19 o_31 rfl rfl d_M_fliesOf_123 ?_
        refine v_iload 8 d_M_fliesOf_126 rfl ?_
        refine v_iald ar_35 d_M_fliesOf_128 ?_
        refine v_iald ar_34 d_M_fliesOf_129 ?_
        refine v_callSi (As := [.int x9, .int (h8 34 (ix (h8 35 (ix x11))))]) (rest := [.int r8]) (c_M_apart G x9 (h8 34 (ix (h8 35 (ix x11)))) h8) co_M_104 so_M_apart ⟨by decide, by decide⟩ rfl rfl (Nat.le_of_ble_eq_true rfl) d_M_fliesOf_130 (fun r9 h9 _ => ?_)
        refine v_iadd d_M_fliesOf_133 ?_
        refine v_aload_n 0 d_M_fliesOf_134 rfl rfl ?_
        refine v_geti fl_M_57 o_31 rfl d_M_fliesOf_135 ?_
        refine v_icmp_gt 145 d_M_fliesOf_138 (by decide) (fun c10 => ?_) (fun c10 => ?_)
        · refine v_iconst 0 d_M_fliesOf_145 rfl ?_
          refine v_istore [(10, .int 0), (0, .ref (ad G 31)), (4, .int x4), (5, .int x5), (6, .int x6), (7, .int x7), (8, .int x8), (9, .int x9), (11, .int x11)] d_M_fliesOf_146 (by decide) rfl ?_
          refine v_iinc (x11 + 1) 8 [(11, .int (x11 + 1)), (10, .int 0), (0, .ref (ad G 31)), (4, .int x4), (5, .int x5), (6, .int x6), (7, .int x7), (8, .int x8), (9, .int x9)] d_M_fliesOf_148 rfl rfl (by decide) rfl ?_
          refine v_goto 85 d_M_fliesOf_151 (by decide) ?_
          exact v_sub [2, 3, 4, 5, 6, 7, 8, 1, 0] rfl (ih x4 x5 x6 x7 x8 x9 0 (x11 + 1) h9)
        · refine v_iconst 1 d_M_fliesOf_141 rfl ?_
          refine v_goto 146 d_M_fliesOf_142 (by decide) ?_
          refine v_istore [(10, .int 1), (0, .ref (ad G 31)), (4, .int x4), (5, .int x5), (6, .int x6), (7, .int x7), (8, .int x8), (9, .int x9), (11, .int x11)] d_M_fliesOf_146 (by decide) rfl ?_
          refine v_iinc (x11 + 1) 8 [(11, .int (x11 + 1)), (10, .int 1), (0, .ref (ad G 31)), (4, .int x4), (5, .int x5), (6, .int x6), (7, .int x7), (8, .int x8), (9, .int x9)] d_M_fliesOf_148 rfl rfl (by decide) rfl ?_
          refine v_goto 85 d_M_fliesOf_151 (by decide) ?_
          exact v_sub [2, 3, 4, 5, 6, 7, 8, 1, 0] rfl (ih x4 x5 x6 x7 x8 x9 1 (x11 + 1) h9)
      · refine v_iconst 1 d_M_fliesOf_141 rfl ?_
        refine v_goto 146 d_M_fliesOf_142 (by decide) ?_
        refine v_istore [(10, .int 1), (0, .ref (ad G 31)), (4, .int x4), (5, .int x5), (6, .int x6), (7, .int x7), (8, .int x8), (9, .int x9), (11, .int x11)] d_M_fliesOf_146 (by decide) rfl ?_
        refine v_iinc (x11 + 1) 8 [(11, .int (x11 + 1)), (10, .int 1), (0, .ref (ad G 31)), (4, .int x4), (5, .int x5), (6, .int x6), (7, .int x7), (8, .int x8), (9, .int x9)] d_M_fliesOf_148 rfl rfl (by decide) rfl ?_
        refine v_goto 85 d_M_fliesOf_151 (by decide) ?_
        exact v_sub [2, 3, 4, 5, 6, 7, 8, 1, 0] rfl (ih x4 x5 x6 x7 x8 x9 1 (x11 + 1) h)
set_option maxHeartbeats 4000000 in
set_option maxRecDepth 20000 in
theorem Vl_M_fliesOf_30 (G : Gt) : ∀ (n : Nat) (x4 : Int32) (x5 : Int32) (x6 : Int32) (x7 : Int32) (h : Hp), V G m_M_fliesOf 30 [(0, .ref (ad G 31)), (4, .int x4), (5, .int x5), (6, .int x6), (7, .int x7)] [] h κi (l_M_fliesOf_30 n x4 x5 x6 x7 h) := by
  intro n
  induction n with
  | zero => intros; exact v_none
  | succ n ih =>
    intro x4 x5 x6 x7 h
    rw [l_M_fliesOf_30]
    refine v_iload 4 d_M_fliesOf_30 rfl ?_
    refine v_iload 1 d_M_fliesOf_32 rfl ?_
    refine v_icmp_ge 175 d_M_fliesOf_34 (by decide) (fun c4 => ?_) (fun c4 => ?_)
    · refine v_iload 3 d_M_fliesOf_175 rfl ?_
      exact v_iret rfl d_M_fliesOf_177
    · refine v_ldc (v := 1103515245) (mem_t 845 (by decide +kernel) rfl) d_M_fliesOf_37 ?_
      refine v_iload 2 d_M_fliesOf_39 rfl ?_
      refine v_imul d_M_fliesOf_41 ?_
      refine v_sipush 12345 d_M_fliesOf_42 rfl ?_
      refine v_iadd d_M_fliesOf_45 ?_
      refine v_istore [(5, .int ((1103515245 * x5) + 12345)), (0, .ref (ad G 31)), (4, .int x4), (6, .int x6), (7, .int x7)] d_M_fliesOf_46 (by decide) rfl ?_
      refine v_iload 0 d_M_fliesOf_48 rfl ?_
      refine v_bipush 16 d_M_fliesOf_50 rfl ?_
      refine v_iushr d_M_fliesOf_52 ?_
      refine v_bipush 10 d_M_fliesOf_53 rfl ?_
      refine v_irem (by decide) d_M_fliesOf_55 ?_
      refine v_istore [(8, .int (((Int32.toUInt32 ((1103515245 * x5) + 12345) >>> (Int32.toUInt32 16 &&& Int32.toUInt32 31)).toInt32) - ((Int32.toUInt32 ((1103515245 * x5) + 12345) >>> (Int32.toUInt32 16 &&& Int32.toUInt32 31)).toInt32) / 10 * 10)), (5, .int ((1103515245 * x5) + 12345)), (0, .ref (ad G 31)), (4, .int x4), (6, .int x6), (7, .int x7)] d_M_fliesOf_56 (by decide) rfl ?_
      refine v_ldc (v := 1103515245) (mem_t 845 (by decide +kernel) rfl) d_M_fliesOf_58 ?_
      refine v_iload 1 d_M_fliesOf_60 rfl ?_
      refine v_imul d_M_fliesOf_62 ?_
      refine v_sipush 12345 d_M_fliesOf_63 rfl ?_
      refine v_iadd d_M_fliesOf_66 ?_
      refine v_istore [(5, .int ((1103515245 * ((1103515245 * x5) + 12345)) + 12345)), (8, .int (((Int32.toUInt32 ((1103515245 * x5) + 12345) >>> (Int32.toUInt32 16 &&& Int32.toUInt32 31)).toInt32) - ((Int32.toUInt32 ((1103515245 * x5) + 12345) >>> (Int32.toUInt32 16 &&& Int32.toUInt32 31)).toInt32) / 10 * 10)), (0, .ref (ad G 31)), (4, .int x4), (6, .int x6), (7, .int x7)] d_M_fliesOf_67 (by decide) rfl ?_
      refine v_iload 0 d_M_fliesOf_69 rfl ?_
      refine v_bipush 16 d_M_fliesOf_71 rfl ?_
      refine v_iushr d_M_fliesOf_73 ?_
      refine v_bipush 10 d_M_fliesOf_74 rfl ?_
      refine v_irem (by decide) d_M_fliesOf_76 ?_
      refine v_istore [(9, .int (((Int32.toUInt32 ((1103515245 * ((1103515245 * x5) + 12345)) + 12345) >>> (Int32.toUInt32 16 &&& Int32.toUInt32 31)).toInt32) - ((Int32.toUInt32 ((1103515245 * ((1103515245 * x5) + 12345)) + 12345) >>> (Int32.toUInt32 16 &&& Int32.toUInt32 31)).toInt32) / 10 * 10)), (5, .int ((1103515245 * ((1103515245 * x5) + 12345)) + 12345)), (8, .int (((Int32.toUInt32 ((1103515245 * x5) + 12345) >>> (Int32.toUInt32 16 &&& Int32.toUInt32 31)).toInt32) - ((Int32.toUInt32 ((1103515245 * x5) + 12345) >>> (Int32.toUInt32 16 &&& Int32.toUInt32 31)).toInt32) / 10 * 10)), (0, .ref (ad G 31)), (4, .int x4), (6, .int x6), (7, .int x7)] d_M_fliesOf_77 (by decide) rfl ?_
      refine v_iconst 0 d_M_fliesOf_79 rfl ?_
      refine v_istore [(10, .int 0), (9, .int (((Int32.toUInt32 ((1103515245 * ((1103515245 * x5) + 12345)) + 12345) >>> (Int32.toUInt32 16 &&& Int32.toUInt32 31)).toInt32) - ((Int32.toUInt32 ((1103515245 * ((1103515245 * x5) + 12345)) + 12345) >>> (Int32.toUInt32 16 &&& Int32.toUInt32 31)).toInt32) / 10 * 10)), (5, .int ((1103515245 * ((1103515245 * x5) + 12345)) + 12345)), (8, .int (((Int32.toUInt32 ((1103515245 * x5) + 12345) >>> (Int32.toUInt32 16 &&& Int32.toUInt32 31)).toInt32) - ((Int32.toUInt32 ((1103515245 * x5) + 12345) >>> (Int32.toUInt32 16 &&& Int32.toUInt32 31)).toInt32) / 10 * 10)), (0, .ref (ad G 31)), (4, .int x4), (6, .int x6), (7, .int x7)] d_M_fliesOf_80 (by decide) rfl ?_
      refine v_iconst 0 d_M_fliesOf_82 rfl ?_
      refine v_istore [(11, .int 0), (10, .int 0), (9, .int (((Int32.toUInt32 ((1103515245 * ((1103515245 * x5) + 12345)) + 12345) >>> (Int32.toUInt32 16 &&& Int32.toUInt32 31)).toInt32) - ((Int32.toUInt32 ((1103515245 * ((1103515245 * x5) + 12345)) + 12345) >>> (Int32.toUInt32 16 &&& Int32.toUInt32 31)).toInt32) / 10 * 10)), (5, .int ((1103515245 * ((1103515245 * x5) + 12345)) + 12345)), (8, .int (((Int32.toUInt32 ((1103515245 * x5) + 12345) >>> (Int32.toUInt32 16 &&& Int32.toUInt32 31)).toInt32) - ((Int32.toUInt32 ((1103515245 * x5) + 12345) >>> (Int32.toUInt32 16 &&& Int32.toUInt32 31)).toInt32) / 10 * 10)), (0, .ref (ad G 31)), (4, .int x4), (6, .int x6), (7, .int x7)] d_M_fliesOf_83 (by decide) rfl ?_
      exact v_sub [5, 6, 3, 7, 8, 4, 2, 1, 0] rfl (Vl_M_fliesOf_85 G (l_M_fliesOf_30 n) ih FUEL x4 ((1103515245 * ((1103515245 * x5) + 12345)) + 12345) x6 x7 (((Int32.toUInt32 ((1103515245 * x5) + 12345) >>> (Int32.toUInt32 16 &&& Int32.toUInt32 31)).toInt32) - ((Int32.toUInt32 ((1103515245 * x5) + 12345) >>> (Int32.toUInt32 16 &&& Int32.toUInt32 31)).toInt32) / 10 * 10) (((Int32.toUInt32 ((1103515245 * ((1103515245 * x5) + 12345)) + 12345) >>> (Int32.toUInt32 16 &&& Int32.toUInt32 31)).toInt32) - ((Int32.toUInt32 ((1103515245 * ((1103515245 * x5) + 12345)) + 12345) >>> (Int32.toUInt32 16 &&& Int32.toUInt32 31)).toInt32) / 10 * 10) 0 0 h)
set_option maxHeartbeats 4000000 in
set_option maxRecDepth 20000 in
theorem c_M_fliesOf (G : Gt) (x1 : Int32) (x2 : Int32) (x3 : Int32) (x4 : Int32) (h : Hp) : Cn G m_M_fliesOf [.ref (ad G 31), .int x1, .int x2, .int x3, .int x4] h κi (f_M_fliesOf x1 x2 x3 x4 h) := by
  refine entryV (by decide) (Nat.le_of_ble_eq_true rfl) rfl ?_
  show V G m_M_fliesOf 0 [(0, .ref (ad G 31)), (1, .int x1), (2, .int x2), (3, .int x3), (4, .int x4)] [] h κi _
  unfold f_M_fliesOf
  refine v_aload_n 0 d_M_fliesOf_0 rfl rfl ?_
  refine v_iload_n 1 d_M_fliesOf_1 rfl rfl ?_
  refine v_callVi (As := [.int x1]) (rest := []) (c_M_isHidden G x1 h) co_M_133 io_M_isHidden o_31 ⟨by decide, by decide⟩ rfl rfl (Nat.le_of_ble_eq_true rfl) d_M_fliesOf_2 (fun r1 h1 _ => ?_)
  refine v_if_eq 11 d_M_fliesOf_5 (by decide) (fun c2 => ?_) (fun c2 => ?_)
  · refine v_aload_n 0 d_M_fliesOf_11 rfl rfl ?_
    refine v_iload_n 1 d_M_fliesOf_12 rfl rfl ?_
    refine v_iload_n 2 d_M_fliesOf_13 rfl rfl ?_
    refine v_aload_n 0 d_M_fliesOf_14 rfl rfl ?_
    refine v_geti fl_M_81 o_31 rfl d_M_fliesOf_15 ?_
    refine v_callVv (As := [.int x1, .int x2, .int (h1 31 5)]) (rest := []) (c_M_lays G x1 x2 (h1 31 5) h1) co_M_136 io_M_lays o_31 ⟨by decide, by decide⟩ rfl rfl (Nat.le_of_ble_eq_true rfl) d_M_fliesOf_18 (fun _ h3 _ => ?_)
    refine v_iload_n 3 d_M_fliesOf_21 rfl rfl ?_
    refine v_istore [(5, .int x3), (0, .ref (ad G 31)), (1, .int x1), (2, .int x2), (3, .int x3), (4, .int x4)] d_M_fliesOf_22 (by decide) rfl ?_
    refine v_iconst 0 d_M_fliesOf_24 rfl ?_
    refine v_istore [(6, .int 0), (5, .int x3), (0, .ref (ad G 31)), (1, .int x1), (2, .int x2), (3, .int x3), (4, .int x4)] d_M_fliesOf_25 (by decide) rfl ?_
    refine v_iconst 0 d_M_fliesOf_27 rfl ?_
    refine v_istore [(7, .int 0), (6, .int 0), (5, .int x3), (0, .ref (ad G 31)), (1, .int x1), (2, .int x2), (3, .int x3), (4, .int x4)] d_M_fliesOf_28 (by decide) rfl ?_
    exact v_sub [3, 7, 2, 1, 0] rfl (Vl_M_fliesOf_30 G FUEL x4 x3 0 0 h3)
  · refine v_bipush (-3) d_M_fliesOf_8 rfl ?_
    exact v_iret rfl d_M_fliesOf_10
theorem d_M_flies_0 : decode m_M_flies.2.1 0 = .ok (.aload_n 0, 1) := by decide +kernel
theorem d_M_flies_1 : decode m_M_flies.2.1 1 = .ok (.iload_n 1, 1) := by decide +kernel
theorem d_M_flies_2 : decode m_M_flies.2.1 2 = .ok (.iload_n 2, 1) := by decide +kernel
theorem d_M_flies_3 : decode m_M_flies.2.1 3 = .ok (.invokevirtual 140, 3) := by decide +kernel
theorem d_M_flies_6 : decode m_M_flies.2.1 6 = .ok (.ifCond .eq 26, 3) := by decide +kernel
theorem d_M_flies_9 : decode m_M_flies.2.1 9 = .ok (.iload 4, 2) := by decide +kernel
theorem d_M_flies_11 : decode m_M_flies.2.1 11 = .ok (.iconst 0, 1) := by decide +kernel
theorem d_M_flies_12 : decode m_M_flies.2.1 12 = .ok (.bipush 99, 2) := by decide +kernel
theorem d_M_flies_14 : decode m_M_flies.2.1 14 = .ok (.invokestatic 60, 3) := by decide +kernel
theorem d_M_flies_17 : decode m_M_flies.2.1 17 = .ok (.ifCond .eq 15, 3) := by decide +kernel
theorem d_M_flies_20 : decode m_M_flies.2.1 20 = .ok (.aload_n 0, 1) := by decide +kernel
theorem d_M_flies_21 : decode m_M_flies.2.1 21 = .ok (.iload_n 1, 1) := by decide +kernel
theorem d_M_flies_22 : decode m_M_flies.2.1 22 = .ok (.iload_n 2, 1) := by decide +kernel
theorem d_M_flies_23 : decode m_M_flies.2.1 23 = .ok (.iload_n 3, 1) := by decide +kernel
theorem d_M_flies_24 : decode m_M_flies.2.1 24 = .ok (.iload 4, 2) := by decide +kernel
theorem d_M_flies_26 : decode m_M_flies.2.1 26 = .ok (.invokevirtual 211, 3) := by decide +kernel
theorem d_M_flies_29 : decode m_M_flies.2.1 29 = .ok (.goto 5, 3) := by decide +kernel
theorem d_M_flies_32 : decode m_M_flies.2.1 32 = .ok (.bipush (-2), 2) := by decide +kernel
theorem d_M_flies_34 : decode m_M_flies.2.1 34 = .ok (.ireturn, 1) := by decide +kernel
set_option maxHeartbeats 4000000 in
set_option maxRecDepth 20000 in
theorem c_M_flies (G : Gt) (x1 : Int32) (x2 : Int32) (x3 : Int32) (x4 : Int32) (h : Hp) : Cn G m_M_flies [.ref (ad G 31), .int x1, .int x2, .int x3, .int x4] h κi (f_M_flies x1 x2 x3 x4 h) := by
  refine entryV (by decide) (Nat.le_of_ble_eq_true rfl) rfl ?_
  show V G m_M_flies 0 [(0, .ref (ad G 31)), (1, .int x1), (2, .int x2), (3, .int x3), (4, .int x4)] [] h κi _
  unfold f_M_flies
  refine v_aload_n 0 d_M_flies_0 rfl rfl ?_
  refine v_iload_n 1 d_M_flies_1 rfl rfl ?_
  refine v_iload_n 2 d_M_flies_2 rfl rfl ?_
  refine v_callVi (As := [.int x1, .int x2]) (rest := []) (c_M_isWeb G x1 x2 h) co_M_140 io_M_isWeb o_31 ⟨by decide, by decide⟩ rfl rfl (Nat.le_of_ble_eq_true rfl) d_M_flies_3 (fun r1 h1 _ => ?_)
  refine v_if_eq 32 d_M_flies_6 (by decide) (fun c2 => ?_) (fun c2 => ?_)
  · refine v_bipush (-2) d_M_flies_32 rfl ?_
    exact v_iret rfl d_M_flies_34
  · refine v_iload 4 d_M_flies_9 rfl ?_
    refine v_iconst 0 d_M_flies_11 rfl ?_
    refine v_bipush 99 d_M_flies_12 rfl ?_
    refine v_callSi (As := [.int x4, .int 0, .int 99]) (rest := []) (c_M_in G x4 0 99 h1) co_M_60 so_M_in ⟨by decide, by decide⟩ rfl rfl (Nat.le_of_ble_eq_true rfl) d_M_flies_14 (fun r3 h3 _ => ?_)
    refine v_if_eq 32 d_M_flies_17 (by decide) (fun c4 => ?_) (fun c4 => ?_)
    · refine v_bipush (-2) d_M_flies_32 rfl ?_
      exact v_iret rfl d_M_flies_34
    · refine v_aload_n 0 d_M_flies_20 rfl rfl ?_
      refine v_iload_n 1 d_M_flies_21 rfl rfl ?_
      refine v_iload_n 2 d_M_flies_22 rfl rfl ?_
      refine v_iload_n 3 d_M_flies_23 rfl rfl ?_
      refine v_iload 4 d_M_flies_24 rfl ?_
      refine v_callVi (As := [.int x1, .int x2, .int x3, .int x4]) (rest := []) (c_M_fliesOf G x1 x2 x3 x4 h3) co_M_211 io_M_fliesOf o_31 ⟨by decide, by decide⟩ rfl rfl (Nat.le_of_ble_eq_true rfl) d_M_flies_26 (fun r5 h5 _ => ?_)
      refine v_goto 34 d_M_flies_29 (by decide) ?_
      exact v_iret rfl d_M_flies_34
theorem d_M_dewOf_0 : decode m_M_dewOf.2.1 0 = .ok (.aload_n 0, 1) := by decide +kernel
theorem d_M_dewOf_1 : decode m_M_dewOf.2.1 1 = .ok (.iload_n 1, 1) := by decide +kernel
theorem d_M_dewOf_2 : decode m_M_dewOf.2.1 2 = .ok (.invokevirtual 133, 3) := by decide +kernel
theorem d_M_dewOf_5 : decode m_M_dewOf.2.1 5 = .ok (.ifCond .eq 6, 3) := by decide +kernel
theorem d_M_dewOf_8 : decode m_M_dewOf.2.1 8 = .ok (.bipush (-3), 2) := by decide +kernel
theorem d_M_dewOf_10 : decode m_M_dewOf.2.1 10 = .ok (.ireturn, 1) := by decide +kernel
theorem d_M_dewOf_11 : decode m_M_dewOf.2.1 11 = .ok (.aload_n 0, 1) := by decide +kernel
theorem d_M_dewOf_12 : decode m_M_dewOf.2.1 12 = .ok (.iload_n 1, 1) := by decide +kernel
theorem d_M_dewOf_13 : decode m_M_dewOf.2.1 13 = .ok (.iload_n 2, 1) := by decide +kernel
theorem d_M_dewOf_14 : decode m_M_dewOf.2.1 14 = .ok (.aload_n 0, 1) := by decide +kernel
theorem d_M_dewOf_15 : decode m_M_dewOf.2.1 15 = .ok (.getfield 81, 3) := by decide +kernel
theorem d_M_dewOf_18 : decode m_M_dewOf.2.1 18 = .ok (.invokevirtual 136, 3) := by decide +kernel
theorem d_M_dewOf_21 : decode m_M_dewOf.2.1 21 = .ok (.iconst 0, 1) := by decide +kernel
theorem d_M_dewOf_22 : decode m_M_dewOf.2.1 22 = .ok (.istore 4, 2) := by decide +kernel
theorem d_M_dewOf_24 : decode m_M_dewOf.2.1 24 = .ok (.iload 4, 2) := by decide +kernel
theorem d_M_dewOf_26 : decode m_M_dewOf.2.1 26 = .ok (.iconst 1, 1) := by decide +kernel
theorem d_M_dewOf_27 : decode m_M_dewOf.2.1 27 = .ok (.iadd, 1) := by decide +kernel
theorem d_M_dewOf_28 : decode m_M_dewOf.2.1 28 = .ok (.aload_n 0, 1) := by decide +kernel
theorem d_M_dewOf_29 : decode m_M_dewOf.2.1 29 = .ok (.getfield 117, 3) := by decide +kernel
theorem d_M_dewOf_32 : decode m_M_dewOf.2.1 32 = .ok (.if_icmp .ge 58, 3) := by decide +kernel
theorem d_M_dewOf_35 : decode m_M_dewOf.2.1 35 = .ok (.iload 4, 2) := by decide +kernel
theorem d_M_dewOf_37 : decode m_M_dewOf.2.1 37 = .ok (.aload_n 0, 1) := by decide +kernel
theorem d_M_dewOf_38 : decode m_M_dewOf.2.1 38 = .ok (.getfield 44, 3) := by decide +kernel
theorem d_M_dewOf_41 : decode m_M_dewOf.2.1 41 = .ok (.iload_n 3, 1) := by decide +kernel
theorem d_M_dewOf_42 : decode m_M_dewOf.2.1 42 = .ok (.iaload, 1) := by decide +kernel
theorem d_M_dewOf_43 : decode m_M_dewOf.2.1 43 = .ok (.if_icmp .ge 47, 3) := by decide +kernel
theorem d_M_dewOf_46 : decode m_M_dewOf.2.1 46 = .ok (.aload_n 0, 1) := by decide +kernel
theorem d_M_dewOf_47 : decode m_M_dewOf.2.1 47 = .ok (.getfield 47, 3) := by decide +kernel
theorem d_M_dewOf_50 : decode m_M_dewOf.2.1 50 = .ok (.bipush 48, 2) := by decide +kernel
theorem d_M_dewOf_52 : decode m_M_dewOf.2.1 52 = .ok (.iload_n 3, 1) := by decide +kernel
theorem d_M_dewOf_53 : decode m_M_dewOf.2.1 53 = .ok (.imul, 1) := by decide +kernel
theorem d_M_dewOf_54 : decode m_M_dewOf.2.1 54 = .ok (.iload 4, 2) := by decide +kernel
theorem d_M_dewOf_56 : decode m_M_dewOf.2.1 56 = .ok (.iadd, 1) := by decide +kernel
theorem d_M_dewOf_57 : decode m_M_dewOf.2.1 57 = .ok (.iaload, 1) := by decide +kernel
theorem d_M_dewOf_58 : decode m_M_dewOf.2.1 58 = .ok (.aload_n 0, 1) := by decide +kernel
theorem d_M_dewOf_59 : decode m_M_dewOf.2.1 59 = .ok (.aload_n 0, 1) := by decide +kernel
theorem d_M_dewOf_60 : decode m_M_dewOf.2.1 60 = .ok (.getfield 19, 3) := by decide +kernel
theorem d_M_dewOf_63 : decode m_M_dewOf.2.1 63 = .ok (.iload 4, 2) := by decide +kernel
theorem d_M_dewOf_65 : decode m_M_dewOf.2.1 65 = .ok (.iaload, 1) := by decide +kernel
theorem d_M_dewOf_66 : decode m_M_dewOf.2.1 66 = .ok (.aload_n 0, 1) := by decide +kernel
theorem d_M_dewOf_67 : decode m_M_dewOf.2.1 67 = .ok (.getfield 19, 3) := by decide +kernel
theorem d_M_dewOf_70 : decode m_M_dewOf.2.1 70 = .ok (.iload 4, 2) := by decide +kernel
theorem d_M_dewOf_72 : decode m_M_dewOf.2.1 72 = .ok (.iconst 1, 1) := by decide +kernel
theorem d_M_dewOf_73 : decode m_M_dewOf.2.1 73 = .ok (.iadd, 1) := by decide +kernel
theorem d_M_dewOf_74 : decode m_M_dewOf.2.1 74 = .ok (.iaload, 1) := by decide +kernel
theorem d_M_dewOf_75 : decode m_M_dewOf.2.1 75 = .ok (.invokevirtual 107, 3) := by decide +kernel
theorem d_M_dewOf_78 : decode m_M_dewOf.2.1 78 = .ok (.if_icmp .le 6, 3) := by decide +kernel
theorem d_M_dewOf_81 : decode m_M_dewOf.2.1 81 = .ok (.iload 4, 2) := by decide +kernel
theorem d_M_dewOf_83 : decode m_M_dewOf.2.1 83 = .ok (.ireturn, 1) := by decide +kernel
theorem d_M_dewOf_84 : decode m_M_dewOf.2.1 84 = .ok (.iinc 4 1, 3) := by decide +kernel
theorem d_M_dewOf_87 : decode m_M_dewOf.2.1 87 = .ok (.goto (-63), 3) := by decide +kernel
theorem d_M_dewOf_90 : decode m_M_dewOf.2.1 90 = .ok (.iconst (-1), 1) := by decide +kernel
theorem d_M_dewOf_91 : decode m_M_dewOf.2.1 91 = .ok (.ireturn, 1) := by decide +kernel
set_option maxHeartbeats 4000000 in
set_option maxRecDepth 20000 in
theorem Vl_M_dewOf_24 (G : Gt) : ∀ (n : Nat) (x3 : Int32) (x4 : Int32) (h : Hp), V G m_M_dewOf 24 [(0, .ref (ad G 31)), (3, .int x3), (4, .int x4)] [] h κi (l_M_dewOf_24 n x3 x4 h) := by
  intro n
  induction n with
  | zero => intros; exact v_none
  | succ n ih =>
    intro x3 x4 h
    rw [l_M_dewOf_24]
    refine v_iload 2 d_M_dewOf_24 rfl ?_
    refine v_iconst 1 d_M_dewOf_26 rfl ?_
    refine v_iadd d_M_dewOf_27 ?_
    refine v_aload_n 0 d_M_dewOf_28 rfl rfl ?_
    refine v_geti fl_M_117 o_31 rfl d_M_dewOf_29 ?_
    refine v_icmp_ge 90 d_M_dewOf_32 (by decide) (fun c4 => ?_) (fun c4 => ?_)
    · refine v_iconst (-1) d_M_dewOf_90 rfl ?_
      exact v_iret rfl d_M_dewOf_91
    · refine v_iload 2 d_M_dewOf_35 rfl ?_
      refine v_aload_n 0 d_M_dewOf_37 rfl rfl ?_
      refine v_getr 43 fl_M_44 o_31 rfl rfl d_M_dewOf_38 ?_
      refine v_iload_n 1 d_M_dewOf_41 rfl rfl ?_
      refine v_iald ar_43 d_M_dewOf_42 ?_
      refine v_icmp_ge 90 d_M_dewOf_43 (by decide) (fun c5 => ?_) (fun c5 => ?_)
      · refine v_iconst (-1) d_M_dewOf_90 rfl ?_
        exact v_iret rfl d_M_dewOf_91
      · refine v_aload_n 0 d_M_dewOf_46 rfl rfl ?_
        refine v_getr 44 fl_M_47 o_31 rfl rfl d_M_dewOf_47 ?_
        refine v_bipush 48 d_M_dewOf_50 rfl ?_
        refine v_iload_n 1 d_M_dewOf_52 rfl rfl ?_
        refine v_imul d_M_dewOf_53 ?_
        refine v_iload 2 d_M_dewOf_54 rfl ?_
        refine v_iadd d_M_dewOf_56 ?_
        refine v_iald ar_44 d_M_dewOf_57 ?_
        refine v_aload_n 0 d_M_dewOf_58 rfl rfl ?_
        refine v_aload_n 0 d_M_dewOf_59 rfl rfl ?_
        refine v_getr 35 fl_M_19 o_31 rfl rfl d_M_dewOf_60 ?_
        refine v_iload 2 d_M_dewOf_63 rfl ?_
        refine v_iald ar_35 d_M_dewOf_65 ?_
        refine v_aload_n 0 d_M_dewOf_66 rfl rfl ?_
        refine v_getr 35 fl_M_19 o_31 rfl rfl d_M_dewOf_67 ?_
        refine v_iload 2 d_M_dewOf_70 rfl ?_
        refine v_iconst 1 d_M_dewOf_72 rfl ?_
        refine v_iadd d_M_dewOf_73 ?_
        refine v_iald ar_35 d_M_dewOf_74 ?_
        refine v_callVi (As := [.int (h 35 (ix x4)), .int (h 35 (ix (x4 + 1)))]) (rest := [.int (h 44 (ix ((48 * x3) + x4)))]) (c_M_farOf G (h 35 (ix x4)) (h 35 (ix (x4 + 1))) h) co_M_107 io_M_farOf o_31 ⟨by decide, by decide⟩ rfl rfl (Nat.le_of_ble_eq_true rfl) d_M_dewOf_75 (fun r6 h6 _ => ?_)
        refine v_icmp_le 84 d_M_dewOf_78 (by decide) (fun c7 => ?_) (fun c7 => ?_)
        · refine v_iinc (x4 + 1) 2 [(4, .int (x4 + 1)), (0, .ref (ad G 31)), (3, .int x3)] d_M_dewOf_84 rfl rfl (by decide) rfl ?_
          refine v_goto 24 d_M_dewOf_87 (by decide) ?_
          exact v_sub [1, 2, 0] rfl (ih x3 (x4 + 1) h6)
        · refine v_iload 2 d_M_dewOf_81 rfl ?_
          exact v_iret rfl d_M_dewOf_83
set_option maxHeartbeats 4000000 in
set_option maxRecDepth 20000 in
theorem c_M_dewOf (G : Gt) (x1 : Int32) (x2 : Int32) (x3 : Int32) (h : Hp) : Cn G m_M_dewOf [.ref (ad G 31), .int x1, .int x2, .int x3] h κi (f_M_dewOf x1 x2 x3 h) := by
  refine entryV (by decide) (Nat.le_of_ble_eq_true rfl) rfl ?_
  show V G m_M_dewOf 0 [(0, .ref (ad G 31)), (1, .int x1), (2, .int x2), (3, .int x3)] [] h κi _
  unfold f_M_dewOf
  refine v_aload_n 0 d_M_dewOf_0 rfl rfl ?_
  refine v_iload_n 1 d_M_dewOf_1 rfl rfl ?_
  refine v_callVi (As := [.int x1]) (rest := []) (c_M_isHidden G x1 h) co_M_133 io_M_isHidden o_31 ⟨by decide, by decide⟩ rfl rfl (Nat.le_of_ble_eq_true rfl) d_M_dewOf_2 (fun r1 h1 _ => ?_)
  refine v_if_eq 11 d_M_dewOf_5 (by decide) (fun c2 => ?_) (fun c2 => ?_)
  · refine v_aload_n 0 d_M_dewOf_11 rfl rfl ?_
    refine v_iload_n 1 d_M_dewOf_12 rfl rfl ?_
    refine v_iload_n 2 d_M_dewOf_13 rfl rfl ?_
    refine v_aload_n 0 d_M_dewOf_14 rfl rfl ?_
    refine v_geti fl_M_81 o_31 rfl d_M_dewOf_15 ?_
    refine v_callVv (As := [.int x1, .int x2, .int (h1 31 5)]) (rest := []) (c_M_lays G x1 x2 (h1 31 5) h1) co_M_136 io_M_lays o_31 ⟨by decide, by decide⟩ rfl rfl (Nat.le_of_ble_eq_true rfl) d_M_dewOf_18 (fun _ h3 _ => ?_)
    refine v_iconst 0 d_M_dewOf_21 rfl ?_
    refine v_istore [(4, .int 0), (0, .ref (ad G 31)), (1, .int x1), (2, .int x2), (3, .int x3)] d_M_dewOf_22 (by decide) rfl ?_
    exact v_sub [1, 4, 0] rfl (Vl_M_dewOf_24 G FUEL x3 0 h3)
  · refine v_bipush (-3) d_M_dewOf_8 rfl ?_
    exact v_iret rfl d_M_dewOf_10
theorem d_M_dew_0 : decode m_M_dew.2.1 0 = .ok (.aload_n 0, 1) := by decide +kernel
theorem d_M_dew_1 : decode m_M_dew.2.1 1 = .ok (.iload_n 1, 1) := by decide +kernel
theorem d_M_dew_2 : decode m_M_dew.2.1 2 = .ok (.iload_n 2, 1) := by decide +kernel
theorem d_M_dew_3 : decode m_M_dew.2.1 3 = .ok (.invokevirtual 140, 3) := by decide +kernel
theorem d_M_dew_6 : decode m_M_dew.2.1 6 = .ok (.ifCond .eq 10, 3) := by decide +kernel
theorem d_M_dew_9 : decode m_M_dew.2.1 9 = .ok (.iload_n 3, 1) := by decide +kernel
theorem d_M_dew_10 : decode m_M_dew.2.1 10 = .ok (.invokestatic 98, 3) := by decide +kernel
theorem d_M_dew_13 : decode m_M_dew.2.1 13 = .ok (.ifCond .ne 6, 3) := by decide +kernel
theorem d_M_dew_16 : decode m_M_dew.2.1 16 = .ok (.bipush (-2), 2) := by decide +kernel
theorem d_M_dew_18 : decode m_M_dew.2.1 18 = .ok (.ireturn, 1) := by decide +kernel
theorem d_M_dew_19 : decode m_M_dew.2.1 19 = .ok (.aload_n 0, 1) := by decide +kernel
theorem d_M_dew_20 : decode m_M_dew.2.1 20 = .ok (.getfield 37, 3) := by decide +kernel
theorem d_M_dew_23 : decode m_M_dew.2.1 23 = .ok (.iload_n 3, 1) := by decide +kernel
theorem d_M_dew_24 : decode m_M_dew.2.1 24 = .ok (.baload, 1) := by decide +kernel
theorem d_M_dew_25 : decode m_M_dew.2.1 25 = .ok (.ifCond .eq 13, 3) := by decide +kernel
theorem d_M_dew_28 : decode m_M_dew.2.1 28 = .ok (.aload_n 0, 1) := by decide +kernel
theorem d_M_dew_29 : decode m_M_dew.2.1 29 = .ok (.iload_n 1, 1) := by decide +kernel
theorem d_M_dew_30 : decode m_M_dew.2.1 30 = .ok (.iload_n 2, 1) := by decide +kernel
theorem d_M_dew_31 : decode m_M_dew.2.1 31 = .ok (.iload_n 3, 1) := by decide +kernel
theorem d_M_dew_32 : decode m_M_dew.2.1 32 = .ok (.invokevirtual 214, 3) := by decide +kernel
theorem d_M_dew_35 : decode m_M_dew.2.1 35 = .ok (.goto 8, 3) := by decide +kernel
theorem d_M_dew_38 : decode m_M_dew.2.1 38 = .ok (.aload_n 0, 1) := by decide +kernel
theorem d_M_dew_39 : decode m_M_dew.2.1 39 = .ok (.iconst 1, 1) := by decide +kernel
theorem d_M_dew_40 : decode m_M_dew.2.1 40 = .ok (.invokevirtual 101, 3) := by decide +kernel
theorem d_M_dew_43 : decode m_M_dew.2.1 43 = .ok (.ireturn, 1) := by decide +kernel
set_option maxHeartbeats 4000000 in
set_option maxRecDepth 20000 in
theorem c_M_dew (G : Gt) (x1 : Int32) (x2 : Int32) (x3 : Int32) (h : Hp) : Cn G m_M_dew [.ref (ad G 31), .int x1, .int x2, .int x3] h κi (f_M_dew x1 x2 x3 h) := by
  refine entryV (by decide) (Nat.le_of_ble_eq_true rfl) rfl ?_
  show V G m_M_dew 0 [(0, .ref (ad G 31)), (1, .int x1), (2, .int x2), (3, .int x3)] [] h κi _
  unfold f_M_dew
  refine v_aload_n 0 d_M_dew_0 rfl rfl ?_
  refine v_iload_n 1 d_M_dew_1 rfl rfl ?_
  refine v_iload_n 2 d_M_dew_2 rfl rfl ?_
  refine v_callVi (As := [.int x1, .int x2]) (rest := []) (c_M_isWeb G x1 x2 h) co_M_140 io_M_isWeb o_31 ⟨by decide, by decide⟩ rfl rfl (Nat.le_of_ble_eq_true rfl) d_M_dew_3 (fun r1 h1 _ => ?_)
  refine v_if_eq 16 d_M_dew_6 (by decide) (fun c2 => ?_) (fun c2 => ?_)
  · refine v_bipush (-2) d_M_dew_16 rfl ?_
    exact v_iret rfl d_M_dew_18
  · refine v_iload_n 3 d_M_dew_9 rfl rfl ?_
    refine v_callSi (As := [.int x3]) (rest := []) (c_M_isSheet G x3 h1) co_M_98 so_M_isSheet ⟨by decide, by decide⟩ rfl rfl (Nat.le_of_ble_eq_true rfl) d_M_dew_10 (fun r3 h3 _ => ?_)
    refine v_if_ne 19 d_M_dew_13 (by decide) (fun c4 => ?_) (fun c4 => ?_)
    · refine v_bipush (-2) d_M_dew_16 rfl ?_
      exact v_iret rfl d_M_dew_18
    · refine v_aload_n 0 d_M_dew_19 rfl rfl ?_
      refine v_getr 41 fl_M_37 o_31 rfl rfl d_M_dew_20 ?_
      refine v_iload_n 3 d_M_dew_23 rfl rfl ?_
      refine v_zald ar_41 d_M_dew_24 ?_
      refine v_if_eq 38 d_M_dew_25 (by decide) (fun c5 => ?_) (fun c5 => ?_)
      · refine v_aload_n 0 d_M_dew_38 rfl rfl ?_
        refine v_iconst 1 d_M_dew_39 rfl ?_
        refine v_callVi (As := [.int 1]) (rest := []) (c_M_meets G 1 h3) co_M_101 io_M_meets o_31 ⟨by decide, by decide⟩ rfl rfl (Nat.le_of_ble_eq_true rfl) d_M_dew_40 (fun r6 h6 _ => ?_)
        exact v_iret rfl d_M_dew_43
      · refine v_aload_n 0 d_M_dew_28 rfl rfl ?_
        refine v_iload_n 1 d_M_dew_29 rfl rfl ?_
        refine v_iload_n 2 d_M_dew_30 rfl rfl ?_
        refine v_iload_n 3 d_M_dew_31 rfl rfl ?_
        refine v_callVi (As := [.int x1, .int x2, .int x3]) (rest := []) (c_M_dewOf G x1 x2 x3 h3) co_M_214 io_M_dewOf o_31 ⟨by decide, by decide⟩ rfl rfl (Nat.le_of_ble_eq_true rfl) d_M_dew_32 (fun r7 h7 _ => ?_)
        refine v_goto 43 d_M_dew_35 (by decide) ?_
        exact v_iret rfl d_M_dew_43
theorem d_M_sheet_0 : decode m_M_sheet.2.1 0 = .ok (.iload_n 1, 1) := by decide +kernel
theorem d_M_sheet_1 : decode m_M_sheet.2.1 1 = .ok (.invokestatic 98, 3) := by decide +kernel
theorem d_M_sheet_4 : decode m_M_sheet.2.1 4 = .ok (.ifCond .eq 18, 3) := by decide +kernel
theorem d_M_sheet_7 : decode m_M_sheet.2.1 7 = .ok (.iload_n 2, 1) := by decide +kernel
theorem d_M_sheet_8 : decode m_M_sheet.2.1 8 = .ok (.iconst 0, 1) := by decide +kernel
theorem d_M_sheet_9 : decode m_M_sheet.2.1 9 = .ok (.iconst 2, 1) := by decide +kernel
theorem d_M_sheet_10 : decode m_M_sheet.2.1 10 = .ok (.invokestatic 60, 3) := by decide +kernel
theorem d_M_sheet_13 : decode m_M_sheet.2.1 13 = .ok (.ifCond .eq 9, 3) := by decide +kernel
theorem d_M_sheet_16 : decode m_M_sheet.2.1 16 = .ok (.iload_n 3, 1) := by decide +kernel
theorem d_M_sheet_17 : decode m_M_sheet.2.1 17 = .ok (.bipush 48, 2) := by decide +kernel
theorem d_M_sheet_19 : decode m_M_sheet.2.1 19 = .ok (.if_icmp .le 6, 3) := by decide +kernel
theorem d_M_sheet_22 : decode m_M_sheet.2.1 22 = .ok (.bipush (-2), 2) := by decide +kernel
theorem d_M_sheet_24 : decode m_M_sheet.2.1 24 = .ok (.ireturn, 1) := by decide +kernel
theorem d_M_sheet_25 : decode m_M_sheet.2.1 25 = .ok (.iload_n 3, 1) := by decide +kernel
theorem d_M_sheet_26 : decode m_M_sheet.2.1 26 = .ok (.ifCond .ge 9, 3) := by decide +kernel
theorem d_M_sheet_29 : decode m_M_sheet.2.1 29 = .ok (.aload_n 0, 1) := by decide +kernel
theorem d_M_sheet_30 : decode m_M_sheet.2.1 30 = .ok (.iconst 5, 1) := by decide +kernel
theorem d_M_sheet_31 : decode m_M_sheet.2.1 31 = .ok (.invokevirtual 101, 3) := by decide +kernel
theorem d_M_sheet_34 : decode m_M_sheet.2.1 34 = .ok (.ireturn, 1) := by decide +kernel
theorem d_M_sheet_35 : decode m_M_sheet.2.1 35 = .ok (.aload_n 0, 1) := by decide +kernel
theorem d_M_sheet_36 : decode m_M_sheet.2.1 36 = .ok (.getfield 37, 3) := by decide +kernel
theorem d_M_sheet_39 : decode m_M_sheet.2.1 39 = .ok (.iload_n 1, 1) := by decide +kernel
theorem d_M_sheet_40 : decode m_M_sheet.2.1 40 = .ok (.iconst 1, 1) := by decide +kernel
theorem d_M_sheet_41 : decode m_M_sheet.2.1 41 = .ok (.bastore, 1) := by decide +kernel
theorem d_M_sheet_42 : decode m_M_sheet.2.1 42 = .ok (.aload_n 0, 1) := by decide +kernel
theorem d_M_sheet_43 : decode m_M_sheet.2.1 43 = .ok (.getfield 41, 3) := by decide +kernel
theorem d_M_sheet_46 : decode m_M_sheet.2.1 46 = .ok (.iload_n 1, 1) := by decide +kernel
theorem d_M_sheet_47 : decode m_M_sheet.2.1 47 = .ok (.iload_n 2, 1) := by decide +kernel
theorem d_M_sheet_48 : decode m_M_sheet.2.1 48 = .ok (.iastore, 1) := by decide +kernel
theorem d_M_sheet_49 : decode m_M_sheet.2.1 49 = .ok (.aload_n 0, 1) := by decide +kernel
theorem d_M_sheet_50 : decode m_M_sheet.2.1 50 = .ok (.getfield 44, 3) := by decide +kernel
theorem d_M_sheet_53 : decode m_M_sheet.2.1 53 = .ok (.iload_n 1, 1) := by decide +kernel
theorem d_M_sheet_54 : decode m_M_sheet.2.1 54 = .ok (.iload_n 3, 1) := by decide +kernel
theorem d_M_sheet_55 : decode m_M_sheet.2.1 55 = .ok (.iastore, 1) := by decide +kernel
theorem d_M_sheet_56 : decode m_M_sheet.2.1 56 = .ok (.iconst 0, 1) := by decide +kernel
theorem d_M_sheet_57 : decode m_M_sheet.2.1 57 = .ok (.istore 4, 2) := by decide +kernel
theorem d_M_sheet_59 : decode m_M_sheet.2.1 59 = .ok (.iload 4, 2) := by decide +kernel
theorem d_M_sheet_61 : decode m_M_sheet.2.1 61 = .ok (.bipush 48, 2) := by decide +kernel
theorem d_M_sheet_63 : decode m_M_sheet.2.1 63 = .ok (.if_icmp .ge 22, 3) := by decide +kernel
theorem d_M_sheet_66 : decode m_M_sheet.2.1 66 = .ok (.aload_n 0, 1) := by decide +kernel
theorem d_M_sheet_67 : decode m_M_sheet.2.1 67 = .ok (.getfield 47, 3) := by decide +kernel
theorem d_M_sheet_70 : decode m_M_sheet.2.1 70 = .ok (.bipush 48, 2) := by decide +kernel
theorem d_M_sheet_72 : decode m_M_sheet.2.1 72 = .ok (.iload_n 1, 1) := by decide +kernel
theorem d_M_sheet_73 : decode m_M_sheet.2.1 73 = .ok (.imul, 1) := by decide +kernel
theorem d_M_sheet_74 : decode m_M_sheet.2.1 74 = .ok (.iload 4, 2) := by decide +kernel
theorem d_M_sheet_76 : decode m_M_sheet.2.1 76 = .ok (.iadd, 1) := by decide +kernel
theorem d_M_sheet_77 : decode m_M_sheet.2.1 77 = .ok (.iconst 0, 1) := by decide +kernel
theorem d_M_sheet_78 : decode m_M_sheet.2.1 78 = .ok (.iastore, 1) := by decide +kernel
theorem d_M_sheet_79 : decode m_M_sheet.2.1 79 = .ok (.iinc 4 1, 3) := by decide +kernel
theorem d_M_sheet_82 : decode m_M_sheet.2.1 82 = .ok (.goto (-23), 3) := by decide +kernel
theorem d_M_sheet_85 : decode m_M_sheet.2.1 85 = .ok (.iload_n 3, 1) := by decide +kernel
theorem d_M_sheet_86 : decode m_M_sheet.2.1 86 = .ok (.ireturn, 1) := by decide +kernel
set_option maxHeartbeats 4000000 in
set_option maxRecDepth 20000 in
theorem Vl_M_sheet_59 (G : Gt) : ∀ (n : Nat) (x1 : Int32) (x3 : Int32) (x4 : Int32) (h : Hp), V G m_M_sheet 59 [(0, .ref (ad G 31)), (1, .int x1), (3, .int x3), (4, .int x4)] [] h κi (l_M_sheet_59 n x1 x3 x4 h) := by
  intro n
  induction n with
  | zero => intros; exact v_none
  | succ n ih =>
    intro x1 x3 x4 h
    rw [l_M_sheet_59]
    refine v_iload 3 d_M_sheet_59 rfl ?_
    refine v_bipush 48 d_M_sheet_61 rfl ?_
    refine v_icmp_ge 85 d_M_sheet_63 (by decide) (fun c7 => ?_) (fun c7 => ?_)
    · refine v_iload_n 2 d_M_sheet_85 rfl rfl ?_
      exact v_iret rfl d_M_sheet_86
    · refine v_aload_n 0 d_M_sheet_66 rfl rfl ?_
      refine v_getr 44 fl_M_47 o_31 rfl rfl d_M_sheet_67 ?_
      refine v_bipush 48 d_M_sheet_70 rfl ?_
      refine v_iload_n 1 d_M_sheet_72 rfl rfl ?_
      refine v_imul d_M_sheet_73 ?_
      refine v_iload 3 d_M_sheet_74 rfl ?_
      refine v_iadd d_M_sheet_76 ?_
      refine v_iconst 0 d_M_sheet_77 rfl ?_
      refine v_iast ar_44 d_M_sheet_78 ?_
      refine v_iinc (x4 + 1) 3 [(4, .int (x4 + 1)), (0, .ref (ad G 31)), (1, .int x1), (3, .int x3)] d_M_sheet_79 rfl rfl (by decide) rfl ?_
      refine v_goto 59 d_M_sheet_82 (by decide) ?_
      exact v_sub [1, 2, 3, 0] rfl (ih x1 x3 (x4 + 1) (hset h 44 (ix ((48 * x1) + x4)) 0))
set_option maxHeartbeats 4000000 in
set_option maxRecDepth 20000 in
theorem c_M_sheet (G : Gt) (x1 : Int32) (x2 : Int32) (x3 : Int32) (h : Hp) : Cn G m_M_sheet [.ref (ad G 31), .int x1, .int x2, .int x3] h κi (f_M_sheet x1 x2 x3 h) := by
  refine entryV (by decide) (Nat.le_of_ble_eq_true rfl) rfl ?_
  show V G m_M_sheet 0 [(0, .ref (ad G 31)), (1, .int x1), (2, .int x2), (3, .int x3)] [] h κi _
  unfold f_M_sheet
  refine v_iload_n 1 d_M_sheet_0 rfl rfl ?_
  refine v_callSi (As := [.int x1]) (rest := []) (c_M_isSheet G x1 h) co_M_98 so_M_isSheet ⟨by decide, by decide⟩ rfl rfl (Nat.le_of_ble_eq_true rfl) d_M_sheet_1 (fun r1 h1 _ => ?_)
  refine v_if_eq 22 d_M_sheet_4 (by decide) (fun c2 => ?_) (fun c2 => ?_)
  · refine v_bipush (-2) d_M_sheet_22 rfl ?_
    exact v_iret rfl d_M_sheet_24
  · refine v_iload_n 2 d_M_sheet_7 rfl rfl ?_
    refine v_iconst 0 d_M_sheet_8 rfl ?_
    refine v_iconst 2 d_M_sheet_9 rfl ?_
    refine v_callSi (As := [.int x2, .int 0, .int 2]) (rest := []) (c_M_in G x2 0 2 h1) co_M_60 so_M_in ⟨by decide, by decide⟩ rfl rfl (Nat.le_of_ble_eq_true rfl) d_M_sheet_10 (fun r3 h3 _ => ?_)
    refine v_if_eq 22 d_M_sheet_13 (by decide) (fun c4 => ?_) (fun c4 => ?_)
    · refine v_bipush (-2) d_M_sheet_22 rfl ?_
      exact v_iret rfl d_M_sheet_24
    · refine v_iload_n 3 d_M_sheet_16 rfl rfl ?_
      refine v_bipush 48 d_M_sheet_17 rfl ?_
      refine v_icmp_le 25 d_M_sheet_19 (by decide) (fun c5 => ?_) (fun c5 => ?_)
      · refine v_iload_n 3 d_M_sheet_25 rfl rfl ?_
        refine v_if_ge 35 d_M_sheet_26 (by decide) (fun c6 => ?_) (fun c6 => ?_)
        · refine v_aload_n 0 d_M_sheet_35 rfl rfl ?_
          refine v_getr 41 fl_M_37 o_31 rfl rfl d_M_sheet_36 ?_
          refine v_iload_n 1 d_M_sheet_39 rfl rfl ?_
          refine v_iconst 1 d_M_sheet_40 rfl ?_
          refine v_zast rfl ar_41 d_M_sheet_41 ?_
          refine v_aload_n 0 d_M_sheet_42 rfl rfl ?_
          refine v_getr 42 fl_M_41 o_31 rfl rfl d_M_sheet_43 ?_
          refine v_iload_n 1 d_M_sheet_46 rfl rfl ?_
          refine v_iload_n 2 d_M_sheet_47 rfl rfl ?_
          refine v_iast ar_42 d_M_sheet_48 ?_
          refine v_aload_n 0 d_M_sheet_49 rfl rfl ?_
          refine v_getr 43 fl_M_44 o_31 rfl rfl d_M_sheet_50 ?_
          refine v_iload_n 1 d_M_sheet_53 rfl rfl ?_
          refine v_iload_n 3 d_M_sheet_54 rfl rfl ?_
          refine v_iast ar_43 d_M_sheet_55 ?_
          refine v_iconst 0 d_M_sheet_56 rfl ?_
          refine v_istore [(4, .int 0), (0, .ref (ad G 31)), (1, .int x1), (2, .int x2), (3, .int x3)] d_M_sheet_57 (by decide) rfl ?_
          exact v_sub [1, 2, 4, 0] rfl (Vl_M_sheet_59 G FUEL x1 x3 0 (hset (hset (hset h3 41 (ix x1) 1) 42 (ix x1) x2) 43 (ix x1) x3))
        · refine v_aload_n 0 d_M_sheet_29 rfl rfl ?_
          refine v_iconst 5 d_M_sheet_30 rfl ?_
          refine v_callVi (As := [.int 5]) (rest := []) (c_M_meets G 5 h3) co_M_101 io_M_meets o_31 ⟨by decide, by decide⟩ rfl rfl (Nat.le_of_ble_eq_true rfl) d_M_sheet_31 (fun r8 h8 _ => ?_)
          exact v_iret rfl d_M_sheet_34
      · refine v_bipush (-2) d_M_sheet_22 rfl ?_
        exact v_iret rfl d_M_sheet_24
theorem d_M_lose_0 : decode m_M_lose.2.1 0 = .ok (.iload_n 1, 1) := by decide +kernel
theorem d_M_lose_1 : decode m_M_lose.2.1 1 = .ok (.invokestatic 98, 3) := by decide +kernel
theorem d_M_lose_4 : decode m_M_lose.2.1 4 = .ok (.ifCond .ne 6, 3) := by decide +kernel
theorem d_M_lose_7 : decode m_M_lose.2.1 7 = .ok (.bipush (-2), 2) := by decide +kernel
theorem d_M_lose_9 : decode m_M_lose.2.1 9 = .ok (.ireturn, 1) := by decide +kernel
theorem d_M_lose_10 : decode m_M_lose.2.1 10 = .ok (.aload_n 0, 1) := by decide +kernel
theorem d_M_lose_11 : decode m_M_lose.2.1 11 = .ok (.getfield 37, 3) := by decide +kernel
theorem d_M_lose_14 : decode m_M_lose.2.1 14 = .ok (.iload_n 1, 1) := by decide +kernel
theorem d_M_lose_15 : decode m_M_lose.2.1 15 = .ok (.baload, 1) := by decide +kernel
theorem d_M_lose_16 : decode m_M_lose.2.1 16 = .ok (.ifCond .ne 9, 3) := by decide +kernel
theorem d_M_lose_19 : decode m_M_lose.2.1 19 = .ok (.aload_n 0, 1) := by decide +kernel
theorem d_M_lose_20 : decode m_M_lose.2.1 20 = .ok (.iconst 1, 1) := by decide +kernel
theorem d_M_lose_21 : decode m_M_lose.2.1 21 = .ok (.invokevirtual 101, 3) := by decide +kernel
theorem d_M_lose_24 : decode m_M_lose.2.1 24 = .ok (.ireturn, 1) := by decide +kernel
theorem d_M_lose_25 : decode m_M_lose.2.1 25 = .ok (.aload_n 0, 1) := by decide +kernel
theorem d_M_lose_26 : decode m_M_lose.2.1 26 = .ok (.getfield 37, 3) := by decide +kernel
theorem d_M_lose_29 : decode m_M_lose.2.1 29 = .ok (.iload_n 1, 1) := by decide +kernel
theorem d_M_lose_30 : decode m_M_lose.2.1 30 = .ok (.iconst 0, 1) := by decide +kernel
theorem d_M_lose_31 : decode m_M_lose.2.1 31 = .ok (.bastore, 1) := by decide +kernel
theorem d_M_lose_32 : decode m_M_lose.2.1 32 = .ok (.aload_n 0, 1) := by decide +kernel
theorem d_M_lose_33 : decode m_M_lose.2.1 33 = .ok (.getfield 44, 3) := by decide +kernel
theorem d_M_lose_36 : decode m_M_lose.2.1 36 = .ok (.iload_n 1, 1) := by decide +kernel
theorem d_M_lose_37 : decode m_M_lose.2.1 37 = .ok (.iaload, 1) := by decide +kernel
theorem d_M_lose_38 : decode m_M_lose.2.1 38 = .ok (.ireturn, 1) := by decide +kernel
set_option maxHeartbeats 4000000 in
set_option maxRecDepth 20000 in
theorem c_M_lose (G : Gt) (x1 : Int32) (h : Hp) : Cn G m_M_lose [.ref (ad G 31), .int x1] h κi (f_M_lose x1 h) := by
  refine entryV (by decide) (Nat.le_of_ble_eq_true rfl) rfl ?_
  show V G m_M_lose 0 [(0, .ref (ad G 31)), (1, .int x1)] [] h κi _
  unfold f_M_lose
  refine v_iload_n 1 d_M_lose_0 rfl rfl ?_
  refine v_callSi (As := [.int x1]) (rest := []) (c_M_isSheet G x1 h) co_M_98 so_M_isSheet ⟨by decide, by decide⟩ rfl rfl (Nat.le_of_ble_eq_true rfl) d_M_lose_1 (fun r1 h1 _ => ?_)
  refine v_if_ne 10 d_M_lose_4 (by decide) (fun c2 => ?_) (fun c2 => ?_)
  · refine v_bipush (-2) d_M_lose_7 rfl ?_
    exact v_iret rfl d_M_lose_9
  · refine v_aload_n 0 d_M_lose_10 rfl rfl ?_
    refine v_getr 41 fl_M_37 o_31 rfl rfl d_M_lose_11 ?_
    refine v_iload_n 1 d_M_lose_14 rfl rfl ?_
    refine v_zald ar_41 d_M_lose_15 ?_
    refine v_if_ne 25 d_M_lose_16 (by decide) (fun c3 => ?_) (fun c3 => ?_)
    · refine v_aload_n 0 d_M_lose_19 rfl rfl ?_
      refine v_iconst 1 d_M_lose_20 rfl ?_
      refine v_callVi (As := [.int 1]) (rest := []) (c_M_meets G 1 h1) co_M_101 io_M_meets o_31 ⟨by decide, by decide⟩ rfl rfl (Nat.le_of_ble_eq_true rfl) d_M_lose_21 (fun r4 h4 _ => ?_)
      exact v_iret rfl d_M_lose_24
    · refine v_aload_n 0 d_M_lose_25 rfl rfl ?_
      refine v_getr 41 fl_M_37 o_31 rfl rfl d_M_lose_26 ?_
      refine v_iload_n 1 d_M_lose_29 rfl rfl ?_
      refine v_iconst 0 d_M_lose_30 rfl ?_
      refine v_zast rfl ar_41 d_M_lose_31 ?_
      refine v_aload_n 0 d_M_lose_32 rfl rfl ?_
      refine v_getr 43 fl_M_44 o_31 rfl rfl d_M_lose_33 ?_
      refine v_iload_n 1 d_M_lose_36 rfl rfl ?_
      refine v_iald ar_43 d_M_lose_37 ?_
      exact v_iret rfl d_M_lose_38
theorem d_M_lacks_0 : decode m_M_lacks.2.1 0 = .ok (.aload_n 0, 1) := by decide +kernel
theorem d_M_lacks_1 : decode m_M_lacks.2.1 1 = .ok (.getfield 37, 3) := by decide +kernel
theorem d_M_lacks_4 : decode m_M_lacks.2.1 4 = .ok (.iload_n 1, 1) := by decide +kernel
theorem d_M_lacks_5 : decode m_M_lacks.2.1 5 = .ok (.baload, 1) := by decide +kernel
theorem d_M_lacks_6 : decode m_M_lacks.2.1 6 = .ok (.ifCond .ne 7, 3) := by decide +kernel
theorem d_M_lacks_9 : decode m_M_lacks.2.1 9 = .ok (.iconst 1, 1) := by decide +kernel
theorem d_M_lacks_10 : decode m_M_lacks.2.1 10 = .ok (.goto 38, 3) := by decide +kernel
theorem d_M_lacks_13 : decode m_M_lacks.2.1 13 = .ok (.aload_n 0, 1) := by decide +kernel
theorem d_M_lacks_14 : decode m_M_lacks.2.1 14 = .ok (.getfield 41, 3) := by decide +kernel
theorem d_M_lacks_17 : decode m_M_lacks.2.1 17 = .ok (.iload_n 1, 1) := by decide +kernel
theorem d_M_lacks_18 : decode m_M_lacks.2.1 18 = .ok (.iaload, 1) := by decide +kernel
theorem d_M_lacks_19 : decode m_M_lacks.2.1 19 = .ok (.iload_n 2, 1) := by decide +kernel
theorem d_M_lacks_20 : decode m_M_lacks.2.1 20 = .ok (.if_icmp .eq 7, 3) := by decide +kernel
theorem d_M_lacks_23 : decode m_M_lacks.2.1 23 = .ok (.iconst 3, 1) := by decide +kernel
theorem d_M_lacks_24 : decode m_M_lacks.2.1 24 = .ok (.goto 24, 3) := by decide +kernel
theorem d_M_lacks_27 : decode m_M_lacks.2.1 27 = .ok (.iload_n 3, 1) := by decide +kernel
theorem d_M_lacks_28 : decode m_M_lacks.2.1 28 = .ok (.iconst 0, 1) := by decide +kernel
theorem d_M_lacks_29 : decode m_M_lacks.2.1 29 = .ok (.aload_n 0, 1) := by decide +kernel
theorem d_M_lacks_30 : decode m_M_lacks.2.1 30 = .ok (.getfield 44, 3) := by decide +kernel
theorem d_M_lacks_33 : decode m_M_lacks.2.1 33 = .ok (.iload_n 1, 1) := by decide +kernel
theorem d_M_lacks_34 : decode m_M_lacks.2.1 34 = .ok (.iaload, 1) := by decide +kernel
theorem d_M_lacks_35 : decode m_M_lacks.2.1 35 = .ok (.iconst 1, 1) := by decide +kernel
theorem d_M_lacks_36 : decode m_M_lacks.2.1 36 = .ok (.isub, 1) := by decide +kernel
theorem d_M_lacks_37 : decode m_M_lacks.2.1 37 = .ok (.invokestatic 60, 3) := by decide +kernel
theorem d_M_lacks_40 : decode m_M_lacks.2.1 40 = .ok (.ifCond .eq 7, 3) := by decide +kernel
theorem d_M_lacks_43 : decode m_M_lacks.2.1 43 = .ok (.iconst 0, 1) := by decide +kernel
theorem d_M_lacks_44 : decode m_M_lacks.2.1 44 = .ok (.goto 4, 3) := by decide +kernel
theorem d_M_lacks_47 : decode m_M_lacks.2.1 47 = .ok (.iconst 2, 1) := by decide +kernel
theorem d_M_lacks_48 : decode m_M_lacks.2.1 48 = .ok (.ireturn, 1) := by decide +kernel
set_option maxHeartbeats 4000000 in
set_option maxRecDepth 20000 in
theorem c_M_lacks (G : Gt) (x1 : Int32) (x2 : Int32) (x3 : Int32) (h : Hp) : Cn G m_M_lacks [.ref (ad G 31), .int x1, .int x2, .int x3] h κi (f_M_lacks x1 x2 x3 h) := by
  refine entryV (by decide) (Nat.le_of_ble_eq_true rfl) rfl ?_
  show V G m_M_lacks 0 [(0, .ref (ad G 31)), (1, .int x1), (2, .int x2), (3, .int x3)] [] h κi _
  unfold f_M_lacks
  refine v_aload_n 0 d_M_lacks_0 rfl rfl ?_
  refine v_getr 41 fl_M_37 o_31 rfl rfl d_M_lacks_1 ?_
  refine v_iload_n 1 d_M_lacks_4 rfl rfl ?_
  refine v_zald ar_41 d_M_lacks_5 ?_
  refine v_if_ne 13 d_M_lacks_6 (by decide) (fun c1 => ?_) (fun c1 => ?_)
  · refine v_iconst 1 d_M_lacks_9 rfl ?_
    refine v_goto 48 d_M_lacks_10 (by decide) ?_
    exact v_iret rfl d_M_lacks_48
  · refine v_aload_n 0 d_M_lacks_13 rfl rfl ?_
    refine v_getr 42 fl_M_41 o_31 rfl rfl d_M_lacks_14 ?_
    refine v_iload_n 1 d_M_lacks_17 rfl rfl ?_
    refine v_iald ar_42 d_M_lacks_18 ?_
    refine v_iload_n 2 d_M_lacks_19 rfl rfl ?_
    refine v_icmp_eq 27 d_M_lacks_20 (by decide) (fun c2 => ?_) (fun c2 => ?_)
    · refine v_iload_n 3 d_M_lacks_27 rfl rfl ?_
      refine v_iconst 0 d_M_lacks_28 rfl ?_
      refine v_aload_n 0 d_M_lacks_29 rfl rfl ?_
      refine v_getr 43 fl_M_44 o_31 rfl rfl d_M_lacks_30 ?_
      refine v_iload_n 1 d_M_lacks_33 rfl rfl ?_
      refine v_iald ar_43 d_M_lacks_34 ?_
      refine v_iconst 1 d_M_lacks_35 rfl ?_
      refine v_isub d_M_lacks_36 ?_
      refine v_callSi (As := [.int x3, .int 0, .int ((h 43 (ix x1)) - 1)]) (rest := []) (c_M_in G x3 0 ((h 43 (ix x1)) - 1) h) co_M_60 so_M_in ⟨by decide, by decide⟩ rfl rfl (Nat.le_of_ble_eq_true rfl) d_M_lacks_37 (fun r3 h3 _ => ?_)
      refine v_if_eq 47 d_M_lacks_40 (by decide) (fun c4 => ?_) (fun c4 => ?_)
      · refine v_iconst 2 d_M_lacks_47 rfl ?_
        exact v_iret rfl d_M_lacks_48
      · refine v_iconst 0 d_M_lacks_43 rfl ?_
        refine v_goto 48 d_M_lacks_44 (by decide) ?_
        exact v_iret rfl d_M_lacks_48
    · refine v_iconst 3 d_M_lacks_23 rfl ?_
      refine v_goto 48 d_M_lacks_24 (by decide) ?_
      exact v_iret rfl d_M_lacks_48
theorem d_M_keep_0 : decode m_M_keep.2.1 0 = .ok (.aload_n 0, 1) := by decide +kernel
theorem d_M_keep_1 : decode m_M_keep.2.1 1 = .ok (.getfield 47, 3) := by decide +kernel
theorem d_M_keep_4 : decode m_M_keep.2.1 4 = .ok (.bipush 48, 2) := by decide +kernel
theorem d_M_keep_6 : decode m_M_keep.2.1 6 = .ok (.iload_n 1, 1) := by decide +kernel
theorem d_M_keep_7 : decode m_M_keep.2.1 7 = .ok (.imul, 1) := by decide +kernel
theorem d_M_keep_8 : decode m_M_keep.2.1 8 = .ok (.iload_n 2, 1) := by decide +kernel
theorem d_M_keep_9 : decode m_M_keep.2.1 9 = .ok (.iadd, 1) := by decide +kernel
theorem d_M_keep_10 : decode m_M_keep.2.1 10 = .ok (.aload_n 0, 1) := by decide +kernel
theorem d_M_keep_11 : decode m_M_keep.2.1 11 = .ok (.getfield 41, 3) := by decide +kernel
theorem d_M_keep_14 : decode m_M_keep.2.1 14 = .ok (.iload_n 1, 1) := by decide +kernel
theorem d_M_keep_15 : decode m_M_keep.2.1 15 = .ok (.iaload, 1) := by decide +kernel
theorem d_M_keep_16 : decode m_M_keep.2.1 16 = .ok (.ifCond .ne 8, 3) := by decide +kernel
theorem d_M_keep_19 : decode m_M_keep.2.1 19 = .ok (.iload_n 3, 1) := by decide +kernel
theorem d_M_keep_20 : decode m_M_keep.2.1 20 = .ok (.i2b, 1) := by decide +kernel
theorem d_M_keep_21 : decode m_M_keep.2.1 21 = .ok (.goto 19, 3) := by decide +kernel
theorem d_M_keep_24 : decode m_M_keep.2.1 24 = .ok (.aload_n 0, 1) := by decide +kernel
theorem d_M_keep_25 : decode m_M_keep.2.1 25 = .ok (.getfield 41, 3) := by decide +kernel
theorem d_M_keep_28 : decode m_M_keep.2.1 28 = .ok (.iload_n 1, 1) := by decide +kernel
theorem d_M_keep_29 : decode m_M_keep.2.1 29 = .ok (.iaload, 1) := by decide +kernel
theorem d_M_keep_30 : decode m_M_keep.2.1 30 = .ok (.iconst 1, 1) := by decide +kernel
theorem d_M_keep_31 : decode m_M_keep.2.1 31 = .ok (.if_icmp .ne 8, 3) := by decide +kernel
theorem d_M_keep_34 : decode m_M_keep.2.1 34 = .ok (.iload_n 3, 1) := by decide +kernel
theorem d_M_keep_35 : decode m_M_keep.2.1 35 = .ok (.i2s, 1) := by decide +kernel
theorem d_M_keep_36 : decode m_M_keep.2.1 36 = .ok (.goto 4, 3) := by decide +kernel
theorem d_M_keep_39 : decode m_M_keep.2.1 39 = .ok (.iload_n 3, 1) := by decide +kernel
theorem d_M_keep_40 : decode m_M_keep.2.1 40 = .ok (.iastore, 1) := by decide +kernel
theorem d_M_keep_41 : decode m_M_keep.2.1 41 = .ok (.return_, 1) := by decide +kernel
set_option maxHeartbeats 4000000 in
set_option maxRecDepth 20000 in
theorem c_M_keep (G : Gt) (x1 : Int32) (x2 : Int32) (x3 : Int32) (h : Hp) : Cn G m_M_keep [.ref (ad G 31), .int x1, .int x2, .int x3] h κv (f_M_keep x1 x2 x3 h) := by
  refine entryV (by decide) (Nat.le_of_ble_eq_true rfl) rfl ?_
  show V G m_M_keep 0 [(0, .ref (ad G 31)), (1, .int x1), (2, .int x2), (3, .int x3)] [] h κv _
  unfold f_M_keep
  refine v_aload_n 0 d_M_keep_0 rfl rfl ?_
  refine v_getr 44 fl_M_47 o_31 rfl rfl d_M_keep_1 ?_
  refine v_bipush 48 d_M_keep_4 rfl ?_
  refine v_iload_n 1 d_M_keep_6 rfl rfl ?_
  refine v_imul d_M_keep_7 ?_
  refine v_iload_n 2 d_M_keep_8 rfl rfl ?_
  refine v_iadd d_M_keep_9 ?_
  refine v_aload_n 0 d_M_keep_10 rfl rfl ?_
  refine v_getr 42 fl_M_41 o_31 rfl rfl d_M_keep_11 ?_
  refine v_iload_n 1 d_M_keep_14 rfl rfl ?_
  refine v_iald ar_42 d_M_keep_15 ?_
  refine v_if_ne 24 d_M_keep_16 (by decide) (fun c1 => ?_) (fun c1 => ?_)
  · refine v_iload_n 3 d_M_keep_19 rfl rfl ?_
    refine v_i2b d_M_keep_20 ?_
    refine v_goto 40 d_M_keep_21 (by decide) ?_
    refine v_iast ar_44 d_M_keep_40 ?_
    exact v_vret rfl d_M_keep_41
  · refine v_aload_n 0 d_M_keep_24 rfl rfl ?_
    refine v_getr 42 fl_M_41 o_31 rfl rfl d_M_keep_25 ?_
    refine v_iload_n 1 d_M_keep_28 rfl rfl ?_
    refine v_iald ar_42 d_M_keep_29 ?_
    refine v_iconst 1 d_M_keep_30 rfl ?_
    refine v_icmp_ne 39 d_M_keep_31 (by decide) (fun c2 => ?_) (fun c2 => ?_)
    · refine v_iload_n 3 d_M_keep_34 rfl rfl ?_
      refine v_i2s d_M_keep_35 ?_
      refine v_goto 40 d_M_keep_36 (by decide) ?_
      refine v_iast ar_44 d_M_keep_40 ?_
      exact v_vret rfl d_M_keep_41
    · refine v_iload_n 3 d_M_keep_39 rfl rfl ?_
      refine v_iast ar_44 d_M_keep_40 ?_
      exact v_vret rfl d_M_keep_41
theorem d_M_put_0 : decode m_M_put.2.1 0 = .ok (.iload_n 1, 1) := by decide +kernel
theorem d_M_put_1 : decode m_M_put.2.1 1 = .ok (.invokestatic 98, 3) := by decide +kernel
theorem d_M_put_4 : decode m_M_put.2.1 4 = .ok (.ifCond .eq 12, 3) := by decide +kernel
theorem d_M_put_7 : decode m_M_put.2.1 7 = .ok (.iload_n 2, 1) := by decide +kernel
theorem d_M_put_8 : decode m_M_put.2.1 8 = .ok (.iconst 0, 1) := by decide +kernel
theorem d_M_put_9 : decode m_M_put.2.1 9 = .ok (.iconst 2, 1) := by decide +kernel
theorem d_M_put_10 : decode m_M_put.2.1 10 = .ok (.invokestatic 60, 3) := by decide +kernel
theorem d_M_put_13 : decode m_M_put.2.1 13 = .ok (.ifCond .ne 6, 3) := by decide +kernel
theorem d_M_put_16 : decode m_M_put.2.1 16 = .ok (.bipush (-2), 2) := by decide +kernel
theorem d_M_put_18 : decode m_M_put.2.1 18 = .ok (.ireturn, 1) := by decide +kernel
theorem d_M_put_19 : decode m_M_put.2.1 19 = .ok (.aload_n 0, 1) := by decide +kernel
theorem d_M_put_20 : decode m_M_put.2.1 20 = .ok (.iload_n 1, 1) := by decide +kernel
theorem d_M_put_21 : decode m_M_put.2.1 21 = .ok (.iload_n 2, 1) := by decide +kernel
theorem d_M_put_22 : decode m_M_put.2.1 22 = .ok (.iload_n 3, 1) := by decide +kernel
theorem d_M_put_23 : decode m_M_put.2.1 23 = .ok (.invokevirtual 220, 3) := by decide +kernel
theorem d_M_put_26 : decode m_M_put.2.1 26 = .ok (.istore 5, 2) := by decide +kernel
theorem d_M_put_28 : decode m_M_put.2.1 28 = .ok (.iload 5, 2) := by decide +kernel
theorem d_M_put_30 : decode m_M_put.2.1 30 = .ok (.ifCond .le 10, 3) := by decide +kernel
theorem d_M_put_33 : decode m_M_put.2.1 33 = .ok (.aload_n 0, 1) := by decide +kernel
theorem d_M_put_34 : decode m_M_put.2.1 34 = .ok (.iload 5, 2) := by decide +kernel
theorem d_M_put_36 : decode m_M_put.2.1 36 = .ok (.invokevirtual 101, 3) := by decide +kernel
theorem d_M_put_39 : decode m_M_put.2.1 39 = .ok (.ireturn, 1) := by decide +kernel
theorem d_M_put_40 : decode m_M_put.2.1 40 = .ok (.aload_n 0, 1) := by decide +kernel
theorem d_M_put_41 : decode m_M_put.2.1 41 = .ok (.iload_n 1, 1) := by decide +kernel
theorem d_M_put_42 : decode m_M_put.2.1 42 = .ok (.iload_n 3, 1) := by decide +kernel
theorem d_M_put_43 : decode m_M_put.2.1 43 = .ok (.iload 4, 2) := by decide +kernel
theorem d_M_put_45 : decode m_M_put.2.1 45 = .ok (.invokevirtual 223, 3) := by decide +kernel
theorem d_M_put_48 : decode m_M_put.2.1 48 = .ok (.iconst 1, 1) := by decide +kernel
theorem d_M_put_49 : decode m_M_put.2.1 49 = .ok (.ireturn, 1) := by decide +kernel
set_option maxHeartbeats 4000000 in
set_option maxRecDepth 20000 in
theorem c_M_put (G : Gt) (x1 : Int32) (x2 : Int32) (x3 : Int32) (x4 : Int32) (h : Hp) : Cn G m_M_put [.ref (ad G 31), .int x1, .int x2, .int x3, .int x4] h κi (f_M_put x1 x2 x3 x4 h) := by
  refine entryV (by decide) (Nat.le_of_ble_eq_true rfl) rfl ?_
  show V G m_M_put 0 [(0, .ref (ad G 31)), (1, .int x1), (2, .int x2), (3, .int x3), (4, .int x4)] [] h κi _
  unfold f_M_put
  refine v_iload_n 1 d_M_put_0 rfl rfl ?_
  refine v_callSi (As := [.int x1]) (rest := []) (c_M_isSheet G x1 h) co_M_98 so_M_isSheet ⟨by decide, by decide⟩ rfl rfl (Nat.le_of_ble_eq_true rfl) d_M_put_1 (fun r1 h1 _ => ?_)
  refine v_if_eq 16 d_M_put_4 (by decide) (fun c2 => ?_) (fun c2 => ?_)
  · refine v_bipush (-2) d_M_put_16 rfl ?_
    exact v_iret rfl d_M_put_18
  · refine v_iload_n 2 d_M_put_7 rfl rfl ?_
    refine v_iconst 0 d_M_put_8 rfl ?_
    refine v_iconst 2 d_M_put_9 rfl ?_
    refine v_callSi (As := [.int x2, .int 0, .int 2]) (rest := []) (c_M_in G x2 0 2 h1) co_M_60 so_M_in ⟨by decide, by decide⟩ rfl rfl (Nat.le_of_ble_eq_true rfl) d_M_put_10 (fun r3 h3 _ => ?_)
    refine v_if_ne 19 d_M_put_13 (by decide) (fun c4 => ?_) (fun c4 => ?_)
    · refine v_bipush (-2) d_M_put_16 rfl ?_
      exact v_iret rfl d_M_put_18
    · refine v_aload_n 0 d_M_put_19 rfl rfl ?_
      refine v_iload_n 1 d_M_put_20 rfl rfl ?_
      refine v_iload_n 2 d_M_put_21 rfl rfl ?_
      refine v_iload_n 3 d_M_put_22 rfl rfl ?_
      refine v_callVi (As := [.int x1, .int x2, .int x3]) (rest := []) (c_M_lacks G x1 x2 x3 h3) co_M_220 io_M_lacks o_31 ⟨by decide, by decide⟩ rfl rfl (Nat.le_of_ble_eq_true rfl) d_M_put_23 (fun r5 h5 _ => ?_)
      refine v_istore [(5, .int r5), (0, .ref (ad G 31)), (1, .int x1), (2, .int x2), (3, .int x3), (4, .int x4)] d_M_put_26 (by decide) rfl ?_
      refine v_iload 0 d_M_put_28 rfl ?_
      refine v_if_le 40 d_M_put_30 (by decide) (fun c6 => ?_) (fun c6 => ?_)
      · refine v_aload_n 1 d_M_put_40 rfl rfl ?_
        refine v_iload_n 2 d_M_put_41 rfl rfl ?_
        refine v_iload_n 4 d_M_put_42 rfl rfl ?_
        refine v_iload 5 d_M_put_43 rfl ?_
        refine v_callVv (As := [.int x1, .int x3, .int x4]) (rest := []) (c_M_keep G x1 x3 x4 h5) co_M_223 io_M_keep o_31 ⟨by decide, by decide⟩ rfl rfl (Nat.le_of_ble_eq_true rfl) d_M_put_45 (fun _ h7 _ => ?_)
        refine v_iconst 1 d_M_put_48 rfl ?_
        exact v_iret rfl d_M_put_49
      · refine v_aload_n 1 d_M_put_33 rfl rfl ?_
        refine v_iload 0 d_M_put_34 rfl ?_
        refine v_callVi (As := [.int r5]) (rest := []) (c_M_meets G r5 h5) co_M_101 io_M_meets o_31 ⟨by decide, by decide⟩ rfl rfl (Nat.le_of_ble_eq_true rfl) d_M_put_36 (fun r8 h8 _ => ?_)
        exact v_iret rfl d_M_put_39
theorem d_M_get_0 : decode m_M_get.2.1 0 = .ok (.iload_n 1, 1) := by decide +kernel
theorem d_M_get_1 : decode m_M_get.2.1 1 = .ok (.invokestatic 98, 3) := by decide +kernel
theorem d_M_get_4 : decode m_M_get.2.1 4 = .ok (.ifCond .eq 12, 3) := by decide +kernel
theorem d_M_get_7 : decode m_M_get.2.1 7 = .ok (.iload_n 2, 1) := by decide +kernel
theorem d_M_get_8 : decode m_M_get.2.1 8 = .ok (.iconst 0, 1) := by decide +kernel
theorem d_M_get_9 : decode m_M_get.2.1 9 = .ok (.iconst 2, 1) := by decide +kernel
theorem d_M_get_10 : decode m_M_get.2.1 10 = .ok (.invokestatic 60, 3) := by decide +kernel
theorem d_M_get_13 : decode m_M_get.2.1 13 = .ok (.ifCond .ne 6, 3) := by decide +kernel
theorem d_M_get_16 : decode m_M_get.2.1 16 = .ok (.ldc 226, 2) := by decide +kernel
theorem d_M_get_18 : decode m_M_get.2.1 18 = .ok (.ireturn, 1) := by decide +kernel
theorem d_M_get_19 : decode m_M_get.2.1 19 = .ok (.aload_n 0, 1) := by decide +kernel
theorem d_M_get_20 : decode m_M_get.2.1 20 = .ok (.iload_n 1, 1) := by decide +kernel
theorem d_M_get_21 : decode m_M_get.2.1 21 = .ok (.iload_n 2, 1) := by decide +kernel
theorem d_M_get_22 : decode m_M_get.2.1 22 = .ok (.iload_n 3, 1) := by decide +kernel
theorem d_M_get_23 : decode m_M_get.2.1 23 = .ok (.invokevirtual 220, 3) := by decide +kernel
theorem d_M_get_26 : decode m_M_get.2.1 26 = .ok (.istore 4, 2) := by decide +kernel
theorem d_M_get_28 : decode m_M_get.2.1 28 = .ok (.iload 4, 2) := by decide +kernel
theorem d_M_get_30 : decode m_M_get.2.1 30 = .ok (.ifCond .le 12, 3) := by decide +kernel
theorem d_M_get_33 : decode m_M_get.2.1 33 = .ok (.aload_n 0, 1) := by decide +kernel
theorem d_M_get_34 : decode m_M_get.2.1 34 = .ok (.iload 4, 2) := by decide +kernel
theorem d_M_get_36 : decode m_M_get.2.1 36 = .ok (.putfield 217, 3) := by decide +kernel
theorem d_M_get_39 : decode m_M_get.2.1 39 = .ok (.ldc 226, 2) := by decide +kernel
theorem d_M_get_41 : decode m_M_get.2.1 41 = .ok (.ireturn, 1) := by decide +kernel
theorem d_M_get_42 : decode m_M_get.2.1 42 = .ok (.aload_n 0, 1) := by decide +kernel
theorem d_M_get_43 : decode m_M_get.2.1 43 = .ok (.getfield 47, 3) := by decide +kernel
theorem d_M_get_46 : decode m_M_get.2.1 46 = .ok (.bipush 48, 2) := by decide +kernel
theorem d_M_get_48 : decode m_M_get.2.1 48 = .ok (.iload_n 1, 1) := by decide +kernel
theorem d_M_get_49 : decode m_M_get.2.1 49 = .ok (.imul, 1) := by decide +kernel
theorem d_M_get_50 : decode m_M_get.2.1 50 = .ok (.iload_n 3, 1) := by decide +kernel
theorem d_M_get_51 : decode m_M_get.2.1 51 = .ok (.iadd, 1) := by decide +kernel
theorem d_M_get_52 : decode m_M_get.2.1 52 = .ok (.iaload, 1) := by decide +kernel
theorem d_M_get_53 : decode m_M_get.2.1 53 = .ok (.ireturn, 1) := by decide +kernel
set_option maxHeartbeats 4000000 in
set_option maxRecDepth 20000 in
theorem c_M_get (G : Gt) (x1 : Int32) (x2 : Int32) (x3 : Int32) (h : Hp) : Cn G m_M_get [.ref (ad G 31), .int x1, .int x2, .int x3] h κi (f_M_get x1 x2 x3 h) := by
  refine entryV (by decide) (Nat.le_of_ble_eq_true rfl) rfl ?_
  show V G m_M_get 0 [(0, .ref (ad G 31)), (1, .int x1), (2, .int x2), (3, .int x3)] [] h κi _
  unfold f_M_get
  refine v_iload_n 1 d_M_get_0 rfl rfl ?_
  refine v_callSi (As := [.int x1]) (rest := []) (c_M_isSheet G x1 h) co_M_98 so_M_isSheet ⟨by decide, by decide⟩ rfl rfl (Nat.le_of_ble_eq_true rfl) d_M_get_1 (fun r1 h1 _ => ?_)
  refine v_if_eq 16 d_M_get_4 (by decide) (fun c2 => ?_) (fun c2 => ?_)
  · refine v_ldc (v := (-2147483648)) (mem_t 878 (by decide +kernel) rfl) d_M_get_16 ?_
    exact v_iret rfl d_M_get_18
  · refine v_iload_n 2 d_M_get_7 rfl rfl ?_
    refine v_iconst 0 d_M_get_8 rfl ?_
    refine v_iconst 2 d_M_get_9 rfl ?_
    refine v_callSi (As := [.int x2, .int 0, .int 2]) (rest := []) (c_M_in G x2 0 2 h1) co_M_60 so_M_in ⟨by decide, by decide⟩ rfl rfl (Nat.le_of_ble_eq_true rfl) d_M_get_10 (fun r3 h3 _ => ?_)
    refine v_if_ne 19 d_M_get_13 (by decide) (fun c4 => ?_) (fun c4 => ?_)
    · refine v_ldc (v := (-2147483648)) (mem_t 878 (by decide +kernel) rfl) d_M_get_16 ?_
      exact v_iret rfl d_M_get_18
    · refine v_aload_n 0 d_M_get_19 rfl rfl ?_
      refine v_iload_n 1 d_M_get_20 rfl rfl ?_
      refine v_iload_n 2 d_M_get_21 rfl rfl ?_
      refine v_iload_n 3 d_M_get_22 rfl rfl ?_
      refine v_callVi (As := [.int x1, .int x2, .int x3]) (rest := []) (c_M_lacks G x1 x2 x3 h3) co_M_220 io_M_lacks o_31 ⟨by decide, by decide⟩ rfl rfl (Nat.le_of_ble_eq_true rfl) d_M_get_23 (fun r5 h5 _ => ?_)
      refine v_istore [(4, .int r5), (0, .ref (ad G 31)), (1, .int x1), (2, .int x2), (3, .int x3)] d_M_get_26 (by decide) rfl ?_
      refine v_iload 0 d_M_get_28 rfl ?_
      refine v_if_le 42 d_M_get_30 (by decide) (fun c6 => ?_) (fun c6 => ?_)
      · refine v_aload_n 1 d_M_get_42 rfl rfl ?_
        refine v_getr 44 fl_M_47 o_31 rfl rfl d_M_get_43 ?_
        refine v_bipush 48 d_M_get_46 rfl ?_
        refine v_iload_n 2 d_M_get_48 rfl rfl ?_
        refine v_imul d_M_get_49 ?_
        refine v_iload_n 4 d_M_get_50 rfl rfl ?_
        refine v_iadd d_M_get_51 ?_
        refine v_iald ar_44 d_M_get_52 ?_
        exact v_iret rfl d_M_get_53
      · refine v_aload_n 1 d_M_get_33 rfl rfl ?_
        refine v_iload 0 d_M_get_34 rfl ?_
        refine v_puti fl_M_217 ft_6_24 rfl rfl o_31 rfl d_M_get_36 ?_
        refine v_ldc (v := (-2147483648)) (mem_t 878 (by decide +kernel) rfl) d_M_get_39 ?_
        exact v_iret rfl d_M_get_41
theorem d_M_copy_0 : decode m_M_copy.2.1 0 = .ok (.iload_n 1, 1) := by decide +kernel
theorem d_M_copy_1 : decode m_M_copy.2.1 1 = .ok (.invokestatic 98, 3) := by decide +kernel
theorem d_M_copy_4 : decode m_M_copy.2.1 4 = .ok (.ifCond .eq 10, 3) := by decide +kernel
theorem d_M_copy_7 : decode m_M_copy.2.1 7 = .ok (.iload_n 3, 1) := by decide +kernel
theorem d_M_copy_8 : decode m_M_copy.2.1 8 = .ok (.invokestatic 98, 3) := by decide +kernel
theorem d_M_copy_11 : decode m_M_copy.2.1 11 = .ok (.ifCond .ne 6, 3) := by decide +kernel
theorem d_M_copy_14 : decode m_M_copy.2.1 14 = .ok (.bipush (-2), 2) := by decide +kernel
theorem d_M_copy_16 : decode m_M_copy.2.1 16 = .ok (.ireturn, 1) := by decide +kernel
theorem d_M_copy_17 : decode m_M_copy.2.1 17 = .ok (.aload_n 0, 1) := by decide +kernel
theorem d_M_copy_18 : decode m_M_copy.2.1 18 = .ok (.getfield 37, 3) := by decide +kernel
theorem d_M_copy_21 : decode m_M_copy.2.1 21 = .ok (.iload_n 1, 1) := by decide +kernel
theorem d_M_copy_22 : decode m_M_copy.2.1 22 = .ok (.baload, 1) := by decide +kernel
theorem d_M_copy_23 : decode m_M_copy.2.1 23 = .ok (.ifCond .eq 12, 3) := by decide +kernel
theorem d_M_copy_26 : decode m_M_copy.2.1 26 = .ok (.aload_n 0, 1) := by decide +kernel
theorem d_M_copy_27 : decode m_M_copy.2.1 27 = .ok (.getfield 37, 3) := by decide +kernel
theorem d_M_copy_30 : decode m_M_copy.2.1 30 = .ok (.iload_n 3, 1) := by decide +kernel
theorem d_M_copy_31 : decode m_M_copy.2.1 31 = .ok (.baload, 1) := by decide +kernel
theorem d_M_copy_32 : decode m_M_copy.2.1 32 = .ok (.ifCond .ne 9, 3) := by decide +kernel
theorem d_M_copy_35 : decode m_M_copy.2.1 35 = .ok (.aload_n 0, 1) := by decide +kernel
theorem d_M_copy_36 : decode m_M_copy.2.1 36 = .ok (.iconst 1, 1) := by decide +kernel
theorem d_M_copy_37 : decode m_M_copy.2.1 37 = .ok (.invokevirtual 101, 3) := by decide +kernel
theorem d_M_copy_40 : decode m_M_copy.2.1 40 = .ok (.ireturn, 1) := by decide +kernel
theorem d_M_copy_41 : decode m_M_copy.2.1 41 = .ok (.aload_n 0, 1) := by decide +kernel
theorem d_M_copy_42 : decode m_M_copy.2.1 42 = .ok (.getfield 41, 3) := by decide +kernel
theorem d_M_copy_45 : decode m_M_copy.2.1 45 = .ok (.iload_n 1, 1) := by decide +kernel
theorem d_M_copy_46 : decode m_M_copy.2.1 46 = .ok (.iaload, 1) := by decide +kernel
theorem d_M_copy_47 : decode m_M_copy.2.1 47 = .ok (.aload_n 0, 1) := by decide +kernel
theorem d_M_copy_48 : decode m_M_copy.2.1 48 = .ok (.getfield 41, 3) := by decide +kernel
theorem d_M_copy_51 : decode m_M_copy.2.1 51 = .ok (.iload_n 3, 1) := by decide +kernel
theorem d_M_copy_52 : decode m_M_copy.2.1 52 = .ok (.iaload, 1) := by decide +kernel
theorem d_M_copy_53 : decode m_M_copy.2.1 53 = .ok (.if_icmp .eq 9, 3) := by decide +kernel
theorem d_M_copy_56 : decode m_M_copy.2.1 56 = .ok (.aload_n 0, 1) := by decide +kernel
theorem d_M_copy_57 : decode m_M_copy.2.1 57 = .ok (.iconst 4, 1) := by decide +kernel
theorem d_M_copy_58 : decode m_M_copy.2.1 58 = .ok (.invokevirtual 101, 3) := by decide +kernel
theorem d_M_copy_61 : decode m_M_copy.2.1 61 = .ok (.ireturn, 1) := by decide +kernel
theorem d_M_copy_62 : decode m_M_copy.2.1 62 = .ok (.iload_n 2, 1) := by decide +kernel
theorem d_M_copy_63 : decode m_M_copy.2.1 63 = .ok (.ifCond .lt 48, 3) := by decide +kernel
theorem d_M_copy_66 : decode m_M_copy.2.1 66 = .ok (.iload 4, 2) := by decide +kernel
theorem d_M_copy_68 : decode m_M_copy.2.1 68 = .ok (.ifCond .lt 43, 3) := by decide +kernel
theorem d_M_copy_71 : decode m_M_copy.2.1 71 = .ok (.iload 5, 2) := by decide +kernel
theorem d_M_copy_73 : decode m_M_copy.2.1 73 = .ok (.ifCond .lt 38, 3) := by decide +kernel
theorem d_M_copy_76 : decode m_M_copy.2.1 76 = .ok (.iload_n 2, 1) := by decide +kernel
theorem d_M_copy_77 : decode m_M_copy.2.1 77 = .ok (.i2l, 1) := by decide +kernel
theorem d_M_copy_78 : decode m_M_copy.2.1 78 = .ok (.iload 5, 2) := by decide +kernel
theorem d_M_copy_80 : decode m_M_copy.2.1 80 = .ok (.i2l, 1) := by decide +kernel
theorem d_M_copy_81 : decode m_M_copy.2.1 81 = .ok (.ladd, 1) := by decide +kernel
theorem d_M_copy_82 : decode m_M_copy.2.1 82 = .ok (.aload_n 0, 1) := by decide +kernel
theorem d_M_copy_83 : decode m_M_copy.2.1 83 = .ok (.getfield 44, 3) := by decide +kernel
theorem d_M_copy_86 : decode m_M_copy.2.1 86 = .ok (.iload_n 1, 1) := by decide +kernel
theorem d_M_copy_87 : decode m_M_copy.2.1 87 = .ok (.iaload, 1) := by decide +kernel
theorem d_M_copy_88 : decode m_M_copy.2.1 88 = .ok (.i2l, 1) := by decide +kernel
theorem d_M_copy_89 : decode m_M_copy.2.1 89 = .ok (.lcmp, 1) := by decide +kernel
theorem d_M_copy_90 : decode m_M_copy.2.1 90 = .ok (.ifCond .gt 21, 3) := by decide +kernel
theorem d_M_copy_93 : decode m_M_copy.2.1 93 = .ok (.iload 4, 2) := by decide +kernel
theorem d_M_copy_95 : decode m_M_copy.2.1 95 = .ok (.i2l, 1) := by decide +kernel
theorem d_M_copy_96 : decode m_M_copy.2.1 96 = .ok (.iload 5, 2) := by decide +kernel
theorem d_M_copy_98 : decode m_M_copy.2.1 98 = .ok (.i2l, 1) := by decide +kernel
theorem d_M_copy_99 : decode m_M_copy.2.1 99 = .ok (.ladd, 1) := by decide +kernel
theorem d_M_copy_100 : decode m_M_copy.2.1 100 = .ok (.aload_n 0, 1) := by decide +kernel
theorem d_M_copy_101 : decode m_M_copy.2.1 101 = .ok (.getfield 44, 3) := by decide +kernel
theorem d_M_copy_104 : decode m_M_copy.2.1 104 = .ok (.iload_n 3, 1) := by decide +kernel
theorem d_M_copy_105 : decode m_M_copy.2.1 105 = .ok (.iaload, 1) := by decide +kernel
theorem d_M_copy_106 : decode m_M_copy.2.1 106 = .ok (.i2l, 1) := by decide +kernel
theorem d_M_copy_107 : decode m_M_copy.2.1 107 = .ok (.lcmp, 1) := by decide +kernel
theorem d_M_copy_108 : decode m_M_copy.2.1 108 = .ok (.ifCond .le 9, 3) := by decide +kernel
theorem d_M_copy_111 : decode m_M_copy.2.1 111 = .ok (.aload_n 0, 1) := by decide +kernel
theorem d_M_copy_112 : decode m_M_copy.2.1 112 = .ok (.iconst 2, 1) := by decide +kernel
theorem d_M_copy_113 : decode m_M_copy.2.1 113 = .ok (.invokevirtual 101, 3) := by decide +kernel
theorem d_M_copy_116 : decode m_M_copy.2.1 116 = .ok (.ireturn, 1) := by decide +kernel
theorem d_M_copy_117 : decode m_M_copy.2.1 117 = .ok (.iconst 0, 1) := by decide +kernel
theorem d_M_copy_118 : decode m_M_copy.2.1 118 = .ok (.istore 6, 2) := by decide +kernel
theorem d_M_copy_120 : decode m_M_copy.2.1 120 = .ok (.iload 6, 2) := by decide +kernel
theorem d_M_copy_122 : decode m_M_copy.2.1 122 = .ok (.iload 5, 2) := by decide +kernel
theorem d_M_copy_124 : decode m_M_copy.2.1 124 = .ok (.if_icmp .ge 30, 3) := by decide +kernel
theorem d_M_copy_127 : decode m_M_copy.2.1 127 = .ok (.aload_n 0, 1) := by decide +kernel
theorem d_M_copy_128 : decode m_M_copy.2.1 128 = .ok (.getfield 50, 3) := by decide +kernel
theorem d_M_copy_131 : decode m_M_copy.2.1 131 = .ok (.iload 6, 2) := by decide +kernel
theorem d_M_copy_133 : decode m_M_copy.2.1 133 = .ok (.aload_n 0, 1) := by decide +kernel
theorem d_M_copy_134 : decode m_M_copy.2.1 134 = .ok (.getfield 47, 3) := by decide +kernel
theorem d_M_copy_137 : decode m_M_copy.2.1 137 = .ok (.bipush 48, 2) := by decide +kernel
theorem d_M_copy_139 : decode m_M_copy.2.1 139 = .ok (.iload_n 1, 1) := by decide +kernel
theorem d_M_copy_140 : decode m_M_copy.2.1 140 = .ok (.imul, 1) := by decide +kernel
theorem d_M_copy_141 : decode m_M_copy.2.1 141 = .ok (.iload_n 2, 1) := by decide +kernel
theorem d_M_copy_142 : decode m_M_copy.2.1 142 = .ok (.iadd, 1) := by decide +kernel
theorem d_M_copy_143 : decode m_M_copy.2.1 143 = .ok (.iload 6, 2) := by decide +kernel
theorem d_M_copy_145 : decode m_M_copy.2.1 145 = .ok (.iadd, 1) := by decide +kernel
theorem d_M_copy_146 : decode m_M_copy.2.1 146 = .ok (.iaload, 1) := by decide +kernel
theorem d_M_copy_147 : decode m_M_copy.2.1 147 = .ok (.iastore, 1) := by decide +kernel
theorem d_M_copy_148 : decode m_M_copy.2.1 148 = .ok (.iinc 6 1, 3) := by decide +kernel
theorem d_M_copy_151 : decode m_M_copy.2.1 151 = .ok (.goto (-31), 3) := by decide +kernel
theorem d_M_copy_154 : decode m_M_copy.2.1 154 = .ok (.iconst 0, 1) := by decide +kernel
theorem d_M_copy_155 : decode m_M_copy.2.1 155 = .ok (.istore 6, 2) := by decide +kernel
theorem d_M_copy_157 : decode m_M_copy.2.1 157 = .ok (.iload 6, 2) := by decide +kernel
theorem d_M_copy_159 : decode m_M_copy.2.1 159 = .ok (.iload 5, 2) := by decide +kernel
theorem d_M_copy_161 : decode m_M_copy.2.1 161 = .ok (.if_icmp .ge 31, 3) := by decide +kernel
theorem d_M_copy_164 : decode m_M_copy.2.1 164 = .ok (.aload_n 0, 1) := by decide +kernel
theorem d_M_copy_165 : decode m_M_copy.2.1 165 = .ok (.getfield 47, 3) := by decide +kernel
theorem d_M_copy_168 : decode m_M_copy.2.1 168 = .ok (.bipush 48, 2) := by decide +kernel
theorem d_M_copy_170 : decode m_M_copy.2.1 170 = .ok (.iload_n 3, 1) := by decide +kernel
theorem d_M_copy_171 : decode m_M_copy.2.1 171 = .ok (.imul, 1) := by decide +kernel
theorem d_M_copy_172 : decode m_M_copy.2.1 172 = .ok (.iload 4, 2) := by decide +kernel
theorem d_M_copy_174 : decode m_M_copy.2.1 174 = .ok (.iadd, 1) := by decide +kernel
theorem d_M_copy_175 : decode m_M_copy.2.1 175 = .ok (.iload 6, 2) := by decide +kernel
theorem d_M_copy_177 : decode m_M_copy.2.1 177 = .ok (.iadd, 1) := by decide +kernel
theorem d_M_copy_178 : decode m_M_copy.2.1 178 = .ok (.aload_n 0, 1) := by decide +kernel
theorem d_M_copy_179 : decode m_M_copy.2.1 179 = .ok (.getfield 50, 3) := by decide +kernel
theorem d_M_copy_182 : decode m_M_copy.2.1 182 = .ok (.iload 6, 2) := by decide +kernel
theorem d_M_copy_184 : decode m_M_copy.2.1 184 = .ok (.iaload, 1) := by decide +kernel
theorem d_M_copy_185 : decode m_M_copy.2.1 185 = .ok (.iastore, 1) := by decide +kernel
theorem d_M_copy_186 : decode m_M_copy.2.1 186 = .ok (.iinc 6 1, 3) := by decide +kernel
theorem d_M_copy_189 : decode m_M_copy.2.1 189 = .ok (.goto (-32), 3) := by decide +kernel
theorem d_M_copy_192 : decode m_M_copy.2.1 192 = .ok (.iconst 1, 1) := by decide +kernel
theorem d_M_copy_193 : decode m_M_copy.2.1 193 = .ok (.ireturn, 1) := by decide +kernel
set_option maxHeartbeats 4000000 in
set_option maxRecDepth 20000 in
theorem Vl_M_copy_157 (G : Gt) : ∀ (n : Nat) (x3 : Int32) (x4 : Int32) (x5 : Int32) (x6 : Int32) (h : Hp), V G m_M_copy 157 [(0, .ref (ad G 31)), (3, .int x3), (4, .int x4), (5, .int x5), (6, .int x6)] [] h κi (l_M_copy_157 n x3 x4 x5 x6 h) := by
  intro n
  induction n with
  | zero => intros; exact v_none
  | succ n ih =>
    intro x3 x4 x5 x6 h
    rw [l_M_copy_157]
    refine v_iload 4 d_M_copy_157 rfl ?_
    refine v_iload 3 d_M_copy_159 rfl ?_
    refine v_icmp_ge 192 d_M_copy_161 (by decide) (fun c20 => ?_) (fun c20 => ?_)
    · refine v_iconst 1 d_M_copy_192 rfl ?_
      exact v_iret rfl d_M_copy_193
    · refine v_aload_n 0 d_M_copy_164 rfl rfl ?_
      refine v_getr 44 fl_M_47 o_31 rfl rfl d_M_copy_165 ?_
      refine v_bipush 48 d_M_copy_168 rfl ?_
      refine v_iload_n 1 d_M_copy_170 rfl rfl ?_
      refine v_imul d_M_copy_171 ?_
      refine v_iload 2 d_M_copy_172 rfl ?_
      refine v_iadd d_M_copy_174 ?_
      refine v_iload 4 d_M_copy_175 rfl ?_
      refine v_iadd d_M_copy_177 ?_
      refine v_aload_n 0 d_M_copy_178 rfl rfl ?_
      refine v_getr 45 fl_M_50 o_31 rfl rfl d_M_copy_179 ?_
      refine v_iload 4 d_M_copy_182 rfl ?_
      refine v_iald ar_45 d_M_copy_184 ?_
      refine v_iast ar_44 d_M_copy_185 ?_
      refine v_iinc (x6 + 1) 4 [(6, .int (x6 + 1)), (0, .ref (ad G 31)), (3, .int x3), (4, .int x4), (5, .int x5)] d_M_copy_186 rfl rfl (by decide) rfl ?_
      refine v_goto 157 d_M_copy_189 (by decide) ?_
      exact v_sub [1, 2, 3, 4, 0] rfl (ih x3 x4 x5 (x6 + 1) (hset h 44 (ix (((48 * x3) + x4) + x6)) (h 45 (ix x6))))
set_option maxHeartbeats 4000000 in
set_option maxRecDepth 20000 in
theorem Vl_M_copy_120 (G : Gt) : ∀ (n : Nat) (x1 : Int32) (x2 : Int32) (x3 : Int32) (x4 : Int32) (x5 : Int32) (x6 : Int32) (h : Hp), V G m_M_copy 120 [(0, .ref (ad G 31)), (1, .int x1), (2, .int x2), (3, .int x3), (4, .int x4), (5, .int x5), (6, .int x6)] [] h κi (l_M_copy_120 n x1 x2 x3 x4 x5 x6 h) := by
  intro n
  induction n with
  | zero => intros; exact v_none
  | succ n ih =>
    intro x1 x2 x3 x4 x5 x6 h
    rw [l_M_copy_120]
    refine v_iload 6 d_M_copy_120 rfl ?_
    refine v_iload 5 d_M_copy_122 rfl ?_
    refine v_icmp_ge 154 d_M_copy_124 (by decide) (fun c19 => ?_) (fun c19 => ?_)
    · refine v_iconst 0 d_M_copy_154 rfl ?_
      refine v_istore [(6, .int 0), (0, .ref (ad G 31)), (1, .int x1), (2, .int x2), (3, .int x3), (4, .int x4), (5, .int x5)] d_M_copy_155 (by decide) rfl ?_
      exact v_sub [1, 4, 5, 6, 0] rfl (Vl_M_copy_157 G FUEL x3 x4 x5 0 h)
    · refine v_aload_n 0 d_M_copy_127 rfl rfl ?_
      refine v_getr 45 fl_M_50 o_31 rfl rfl d_M_copy_128 ?_
      refine v_iload 6 d_M_copy_131 rfl ?_
      refine v_aload_n 0 d_M_copy_133 rfl rfl ?_
      refine v_getr 44 fl_M_47 o_31 rfl rfl d_M_copy_134 ?_
      refine v_bipush 48 d_M_copy_137 rfl ?_
      refine v_iload_n 1 d_M_copy_139 rfl rfl ?_
      refine v_imul d_M_copy_140 ?_
      refine v_iload_n 2 d_M_copy_141 rfl rfl ?_
      refine v_iadd d_M_copy_142 ?_
      refine v_iload 6 d_M_copy_143 rfl ?_
      refine v_iadd d_M_copy_145 ?_
      refine v_iald ar_44 d_M_copy_146 ?_
      refine v_iast ar_45 d_M_copy_147 ?_
      refine v_iinc (x6 + 1) 6 [(6, .int (x6 + 1)), (0, .ref (ad G 31)), (1, .int x1), (2, .int x2), (3, .int x3), (4, .int x4), (5, .int x5)] d_M_copy_148 rfl rfl (by decide) rfl ?_
      refine v_goto 120 d_M_copy_151 (by decide) ?_
      exact v_sub [1, 2, 3, 4, 5, 6, 0] rfl (ih x1 x2 x3 x4 x5 (x6 + 1) (hset h 45 (ix x6) (h 44 (ix (((48 * x1) + x2) + x6)))))
set_option maxHeartbeats 4000000 in
set_option maxRecDepth 20000 in
theorem c_M_copy (G : Gt) (x1 : Int32) (x2 : Int32) (x3 : Int32) (x4 : Int32) (x5 : Int32) (h : Hp) : Cn G m_M_copy [.ref (ad G 31), .int x1, .int x2, .int x3, .int x4, .int x5] h κi (f_M_copy x1 x2 x3 x4 x5 h) := by
  refine entryV (by decide) (Nat.le_of_ble_eq_true rfl) rfl ?_
  show V G m_M_copy 0 [(0, .ref (ad G 31)), (1, .int x1), (2, .int x2), (3, .int x3), (4, .int x4), (5, .int x5)] [] h κi _
  unfold f_M_copy
  refine v_iload_n 1 d_M_copy_0 rfl rfl ?_
  refine v_callSi (As := [.int x1]) (rest := []) (c_M_isSheet G x1 h) co_M_98 so_M_isSheet ⟨by decide, by decide⟩ rfl rfl (Nat.le_of_ble_eq_true rfl) d_M_copy_1 (fun r1 h1 _ => ?_)
  refine v_if_eq 14 d_M_copy_4 (by decide) (fun c2 => ?_) (fun c2 => ?_)
  · refine v_bipush (-2) d_M_copy_14 rfl ?_
    exact v_iret rfl d_M_copy_16
  · refine v_iload_n 3 d_M_copy_7 rfl rfl ?_
    refine v_callSi (As := [.int x3]) (rest := []) (c_M_isSheet G x3 h1) co_M_98 so_M_isSheet ⟨by decide, by decide⟩ rfl rfl (Nat.le_of_ble_eq_true rfl) d_M_copy_8 (fun r3 h3 _ => ?_)
    refine v_if_ne 17 d_M_copy_11 (by decide) (fun c4 => ?_) (fun c4 => ?_)
    · refine v_bipush (-2) d_M_copy_14 rfl ?_
      exact v_iret rfl d_M_copy_16
    · refine v_aload_n 0 d_M_copy_17 rfl rfl ?_
      refine v_getr 41 fl_M_37 o_31 rfl rfl d_M_copy_18 ?_
      refine v_iload_n 1 d_M_copy_21 rfl rfl ?_
      refine v_zald ar_41 d_M_copy_22 ?_
      refine v_if_eq 35 d_M_copy_23 (by decide) (fun c5 => ?_) (fun c5 => ?_)
      · refine v_aload_n 0 d_M_copy_35 rfl rfl ?_
        refine v_iconst 1 d_M_copy_36 rfl ?_
        refine v_callVi (As := [.int 1]) (rest := []) (c_M_meets G 1 h3) co_M_101 io_M_meets o_31 ⟨by decide, by decide⟩ rfl rfl (Nat.le_of_ble_eq_true rfl) d_M_copy_37 (fun r6 h6 _ => ?_)
        exact v_iret rfl d_M_copy_40
      · refine v_aload_n 0 d_M_copy_26 rfl rfl ?_
        refine v_getr 41 fl_M_37 o_31 rfl rfl d_M_copy_27 ?_
        refine v_iload_n 3 d_M_copy_30 rfl rfl ?_
        refine v_zald ar_41 d_M_copy_31 ?_
        refine v_if_ne 41 d_M_copy_32 (by decide) (fun c7 => ?_) (fun c7 => ?_)
        · refine v_aload_n 0 d_M_copy_35 rfl rfl ?_
          refine v_iconst 1 d_M_copy_36 rfl ?_
          refine v_callVi (As := [.int 1]) (rest := []) (c_M_meets G 1 h3) co_M_101 io_M_meets o_31 ⟨by decide, by decide⟩ rfl rfl (Nat.le_of_ble_eq_true rfl) d_M_copy_37 (fun r8 h8 _ => ?_)
          exact v_iret rfl d_M_copy_40
        · refine v_aload_n 0 d_M_copy_41 rfl rfl ?_
          refine v_getr 42 fl_M_41 o_31 rfl rfl d_M_copy_42 ?_
          refine v_iload_n 1 d_M_copy_45 rfl rfl ?_
          refine v_iald ar_42 d_M_copy_46 ?_
          refine v_aload_n 0 d_M_copy_47 rfl rfl ?_
          refine v_getr 42 fl_M_41 o_31 rfl rfl d_M_copy_48 ?_
          refine v_iload_n 3 d_M_copy_51 rfl rfl ?_
          refine v_iald ar_42 d_M_copy_52 ?_
          refine v_icmp_eq 62 d_M_copy_53 (by decide) (fun c9 => ?_) (fun c9 => ?_)
          · refine v_iload_n 2 d_M_copy_62 rfl rfl ?_
            refine v_if_lt 111 d_M_copy_63 (by decide) (fun c10 => ?_) (fun c10 => ?_)
            · refine v_aload_n 0 d_M_copy_111 rfl rfl ?_
              refine v_iconst 2 d_M_copy_112 rfl ?_
              refine v_callVi (As := [.int 2]) (rest := []) (c_M_meets G 2 h3) co_M_101 io_M_meets o_31 ⟨by decide, by decide⟩ rfl rfl (Nat.le_of_ble_eq_true rfl) d_M_copy_113 (fun r11 h11 _ => ?_)
              exact v_iret rfl d_M_copy_116
            · refine v_iload 4 d_M_copy_66 rfl ?_
              refine v_if_lt 111 d_M_copy_68 (by decide) (fun c12 => ?_) (fun c12 => ?_)
              · refine v_aload_n 0 d_M_copy_111 rfl rfl ?_
                refine v_iconst 2 d_M_copy_112 rfl ?_
                refine v_callVi (As := [.int 2]) (rest := []) (c_M_meets G 2 h3) co_M_101 io_M_meets o_31 ⟨by decide, by decide⟩ rfl rfl (Nat.le_of_ble_eq_true rfl) d_M_copy_113 (fun r13 h13 _ => ?_)
                exact v_iret rfl d_M_copy_116
              · refine v_iload 5 d_M_copy_71 rfl ?_
                refine v_if_lt 111 d_M_copy_73 (by decide) (fun c14 => ?_) (fun c14 => ?_)
                · refine v_aload_n 0 d_M_copy_111 rfl rfl ?_
                  refine v_iconst 2 d_M_copy_112 rfl ?_
                  refine v_callVi (As := [.int 2]) (rest := []) (c_M_meets G 2 h3) co_M_101 io_M_meets o_31 ⟨by decide, by decide⟩ rfl rfl (Nat.le_of_ble_eq_true rfl) d_M_copy_113 (fun r15 h15 _ => ?_)
                  exact v_iret rfl d_M_copy_116
                · refine v_iload_n 2 d_M_copy_76 rfl rfl ?_
                  refine v_i2l d_M_copy_77 ?_
                  refine v_iload 5 d_M_copy_78 rfl ?_
                  refine v_i2l d_M_copy_80 ?_
                  refine v_ladd d_M_copy_81 ?_
                  refine v_aload_n 0 d_M_copy_82 rfl rfl ?_
                  refine v_getr 43 fl_M_44 o_31 rfl rfl d_M_copy_83 ?_
                  refine v_iload_n 1 d_M_copy_86 rfl rfl ?_
                  refine v_iald ar_43 d_M_copy_87 ?_
                  refine v_i2l d_M_copy_88 ?_
                  refine v_lcmp d_M_copy_89 ?_
                  refine v_if_gt 111 d_M_copy_90 (by decide) (fun c16 => ?_) (fun c16 => ?_)
                  · refine v_aload_n 0 d_M_copy_111 rfl rfl ?_
                    refine v_iconst 2 d_M_copy_112 rfl ?_
                    refine v_callVi (As := [.int 2]) (rest := []) (c_M_meets G 2 h3) co_M_101 io_M_meets o_31 ⟨by decide, by decide⟩ rfl rfl (Nat.le_of_ble_eq_true rfl) d_M_copy_113 (fun r17 h17 _ => ?_)
                    exact v_iret rfl d_M_copy_116
                  · refine v_iload 4 d_M_copy_93 rfl ?_
                    refine v_i2l d_M_copy_95 ?_
                    refine v_iload 5 d_M_copy_96 rfl ?_
                    refine v_i2l d_M_copy_98 ?_
                    refine v_ladd d_M_copy_99 ?_
                    refine v_aload_n 0 d_M_copy_100 rfl rfl ?_
                    refine v_getr 43 fl_M_44 o_31 rfl rfl d_M_copy_101 ?_
                    refine v_iload_n 3 d_M_copy_104 rfl rfl ?_
                    refine v_iald ar_43 d_M_copy_105 ?_
                    refine v_i2l d_M_copy_106 ?_
                    refine v_lcmp d_M_copy_107 ?_
                    refine v_if_le 117 d_M_copy_108 (by decide) (fun c18 => ?_) (fun c18 => ?_)
                    · refine v_iconst 0 d_M_copy_117 rfl ?_
                      refine v_istore [(6, .int 0), (0, .ref (ad G 31)), (1, .int x1), (2, .int x2), (3, .int x3), (4, .int x4), (5, .int x5)] d_M_copy_118 (by decide) rfl ?_
                      exact v_sub [1, 2, 3, 4, 5, 6, 0] rfl (Vl_M_copy_120 G FUEL x1 x2 x3 x4 x5 0 h3)
                    · refine v_aload_n 0 d_M_copy_111 rfl rfl ?_
                      refine v_iconst 2 d_M_copy_112 rfl ?_
                      refine v_callVi (As := [.int 2]) (rest := []) (c_M_meets G 2 h3) co_M_101 io_M_meets o_31 ⟨by decide, by decide⟩ rfl rfl (Nat.le_of_ble_eq_true rfl) d_M_copy_113 (fun r21 h21 _ => ?_)
                      exact v_iret rfl d_M_copy_116
          · refine v_aload_n 0 d_M_copy_56 rfl rfl ?_
            refine v_iconst 4 d_M_copy_57 rfl ?_
            refine v_callVi (As := [.int 4]) (rest := []) (c_M_meets G 4 h3) co_M_101 io_M_meets o_31 ⟨by decide, by decide⟩ rfl rfl (Nat.le_of_ble_eq_true rfl) d_M_copy_58 (fun r22 h22 _ => ?_)
            exact v_iret rfl d_M_copy_61
