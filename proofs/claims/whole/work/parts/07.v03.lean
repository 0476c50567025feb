theorem d_M_lays_0 : decode m_M_lays.2.1 0 = .ok (.iconst 1, 1) := by decide +kernel
theorem d_M_lays_1 : decode m_M_lays.2.1 1 = .ok (.aload_n 0, 1) := by decide +kernel
theorem d_M_lays_2 : decode m_M_lays.2.1 2 = .ok (.getfield 67, 3) := by decide +kernel
theorem d_M_lays_5 : decode m_M_lays.2.1 5 = .ok (.ishl, 1) := by decide +kernel
theorem d_M_lays_6 : decode m_M_lays.2.1 6 = .ok (.iconst 1, 1) := by decide +kernel
theorem d_M_lays_7 : decode m_M_lays.2.1 7 = .ok (.isub, 1) := by decide +kernel
theorem d_M_lays_8 : decode m_M_lays.2.1 8 = .ok (.iload_n 3, 1) := by decide +kernel
theorem d_M_lays_9 : decode m_M_lays.2.1 9 = .ok (.iconst (-1), 1) := by decide +kernel
theorem d_M_lays_10 : decode m_M_lays.2.1 10 = .ok (.ixor, 1) := by decide +kernel
theorem d_M_lays_11 : decode m_M_lays.2.1 11 = .ok (.iand, 1) := by decide +kernel
theorem d_M_lays_12 : decode m_M_lays.2.1 12 = .ok (.iconst 1, 1) := by decide +kernel
theorem d_M_lays_13 : decode m_M_lays.2.1 13 = .ok (.iload_n 1, 1) := by decide +kernel
theorem d_M_lays_14 : decode m_M_lays.2.1 14 = .ok (.ishl, 1) := by decide +kernel
theorem d_M_lays_15 : decode m_M_lays.2.1 15 = .ok (.iconst (-1), 1) := by decide +kernel
theorem d_M_lays_16 : decode m_M_lays.2.1 16 = .ok (.ixor, 1) := by decide +kernel
theorem d_M_lays_17 : decode m_M_lays.2.1 17 = .ok (.iand, 1) := by decide +kernel
theorem d_M_lays_18 : decode m_M_lays.2.1 18 = .ok (.istore 4, 2) := by decide +kernel
theorem d_M_lays_20 : decode m_M_lays.2.1 20 = .ok (.aload_n 0, 1) := by decide +kernel
theorem d_M_lays_21 : decode m_M_lays.2.1 21 = .ok (.getfield 19, 3) := by decide +kernel
theorem d_M_lays_24 : decode m_M_lays.2.1 24 = .ok (.iconst 0, 1) := by decide +kernel
theorem d_M_lays_25 : decode m_M_lays.2.1 25 = .ok (.iload_n 1, 1) := by decide +kernel
theorem d_M_lays_26 : decode m_M_lays.2.1 26 = .ok (.iastore, 1) := by decide +kernel
theorem d_M_lays_27 : decode m_M_lays.2.1 27 = .ok (.aload_n 0, 1) := by decide +kernel
theorem d_M_lays_28 : decode m_M_lays.2.1 28 = .ok (.iconst 1, 1) := by decide +kernel
theorem d_M_lays_29 : decode m_M_lays.2.1 29 = .ok (.putfield 117, 3) := by decide +kernel
theorem d_M_lays_32 : decode m_M_lays.2.1 32 = .ok (.aload_n 0, 1) := by decide +kernel
theorem d_M_lays_33 : decode m_M_lays.2.1 33 = .ok (.iconst 0, 1) := by decide +kernel
theorem d_M_lays_34 : decode m_M_lays.2.1 34 = .ok (.putfield 120, 3) := by decide +kernel
theorem d_M_lays_37 : decode m_M_lays.2.1 37 = .ok (.aload_n 0, 1) := by decide +kernel
theorem d_M_lays_38 : decode m_M_lays.2.1 38 = .ok (.aload_n 0, 1) := by decide +kernel
theorem d_M_lays_39 : decode m_M_lays.2.1 39 = .ok (.getfield 53, 3) := by decide +kernel
theorem d_M_lays_42 : decode m_M_lays.2.1 42 = .ok (.putfield 123, 3) := by decide +kernel
theorem d_M_lays_45 : decode m_M_lays.2.1 45 = .ok (.aload_n 0, 1) := by decide +kernel
theorem d_M_lays_46 : decode m_M_lays.2.1 46 = .ok (.iload_n 1, 1) := by decide +kernel
theorem d_M_lays_47 : decode m_M_lays.2.1 47 = .ok (.iload_n 2, 1) := by decide +kernel
theorem d_M_lays_48 : decode m_M_lays.2.1 48 = .ok (.iload 4, 2) := by decide +kernel
theorem d_M_lays_50 : decode m_M_lays.2.1 50 = .ok (.invokevirtual 126, 3) := by decide +kernel
theorem d_M_lays_53 : decode m_M_lays.2.1 53 = .ok (.istore 5, 2) := by decide +kernel
theorem d_M_lays_55 : decode m_M_lays.2.1 55 = .ok (.iload 5, 2) := by decide +kernel
theorem d_M_lays_57 : decode m_M_lays.2.1 57 = .ok (.iconst (-1), 1) := by decide +kernel
theorem d_M_lays_58 : decode m_M_lays.2.1 58 = .ok (.if_icmp .eq 124, 3) := by decide +kernel
theorem d_M_lays_61 : decode m_M_lays.2.1 61 = .ok (.aload_n 0, 1) := by decide +kernel
theorem d_M_lays_62 : decode m_M_lays.2.1 62 = .ok (.getfield 123, 3) := by decide +kernel
theorem d_M_lays_65 : decode m_M_lays.2.1 65 = .ok (.aload_n 0, 1) := by decide +kernel
theorem d_M_lays_66 : decode m_M_lays.2.1 66 = .ok (.aload_n 0, 1) := by decide +kernel
theorem d_M_lays_67 : decode m_M_lays.2.1 67 = .ok (.getfield 19, 3) := by decide +kernel
theorem d_M_lays_70 : decode m_M_lays.2.1 70 = .ok (.aload_n 0, 1) := by decide +kernel
theorem d_M_lays_71 : decode m_M_lays.2.1 71 = .ok (.getfield 117, 3) := by decide +kernel
theorem d_M_lays_74 : decode m_M_lays.2.1 74 = .ok (.iconst 1, 1) := by decide +kernel
theorem d_M_lays_75 : decode m_M_lays.2.1 75 = .ok (.isub, 1) := by decide +kernel
theorem d_M_lays_76 : decode m_M_lays.2.1 76 = .ok (.iaload, 1) := by decide +kernel
theorem d_M_lays_77 : decode m_M_lays.2.1 77 = .ok (.iload 5, 2) := by decide +kernel
theorem d_M_lays_79 : decode m_M_lays.2.1 79 = .ok (.invokevirtual 107, 3) := by decide +kernel
theorem d_M_lays_82 : decode m_M_lays.2.1 82 = .ok (.aload_n 0, 1) := by decide +kernel
theorem d_M_lays_83 : decode m_M_lays.2.1 83 = .ok (.getfield 95, 3) := by decide +kernel
theorem d_M_lays_86 : decode m_M_lays.2.1 86 = .ok (.iadd, 1) := by decide +kernel
theorem d_M_lays_87 : decode m_M_lays.2.1 87 = .ok (.if_icmp .lt 95, 3) := by decide +kernel
theorem d_M_lays_90 : decode m_M_lays.2.1 90 = .ok (.aload_n 0, 1) := by decide +kernel
theorem d_M_lays_91 : decode m_M_lays.2.1 91 = .ok (.aload_n 0, 1) := by decide +kernel
theorem d_M_lays_92 : decode m_M_lays.2.1 92 = .ok (.getfield 19, 3) := by decide +kernel
theorem d_M_lays_95 : decode m_M_lays.2.1 95 = .ok (.aload_n 0, 1) := by decide +kernel
theorem d_M_lays_96 : decode m_M_lays.2.1 96 = .ok (.getfield 117, 3) := by decide +kernel
theorem d_M_lays_99 : decode m_M_lays.2.1 99 = .ok (.iconst 1, 1) := by decide +kernel
theorem d_M_lays_100 : decode m_M_lays.2.1 100 = .ok (.isub, 1) := by decide +kernel
theorem d_M_lays_101 : decode m_M_lays.2.1 101 = .ok (.iaload, 1) := by decide +kernel
theorem d_M_lays_102 : decode m_M_lays.2.1 102 = .ok (.iload 5, 2) := by decide +kernel
theorem d_M_lays_104 : decode m_M_lays.2.1 104 = .ok (.invokevirtual 107, 3) := by decide +kernel
theorem d_M_lays_107 : decode m_M_lays.2.1 107 = .ok (.istore 6, 2) := by decide +kernel
theorem d_M_lays_109 : decode m_M_lays.2.1 109 = .ok (.aload_n 0, 1) := by decide +kernel
theorem d_M_lays_110 : decode m_M_lays.2.1 110 = .ok (.dup, 1) := by decide +kernel
theorem d_M_lays_111 : decode m_M_lays.2.1 111 = .ok (.getfield 120, 3) := by decide +kernel
theorem d_M_lays_114 : decode m_M_lays.2.1 114 = .ok (.iload 6, 2) := by decide +kernel
theorem d_M_lays_116 : decode m_M_lays.2.1 116 = .ok (.iadd, 1) := by decide +kernel
theorem d_M_lays_117 : decode m_M_lays.2.1 117 = .ok (.putfield 120, 3) := by decide +kernel
theorem d_M_lays_120 : decode m_M_lays.2.1 120 = .ok (.aload_n 0, 1) := by decide +kernel
theorem d_M_lays_121 : decode m_M_lays.2.1 121 = .ok (.dup, 1) := by decide +kernel
theorem d_M_lays_122 : decode m_M_lays.2.1 122 = .ok (.getfield 123, 3) := by decide +kernel
theorem d_M_lays_125 : decode m_M_lays.2.1 125 = .ok (.iload 6, 2) := by decide +kernel
theorem d_M_lays_127 : decode m_M_lays.2.1 127 = .ok (.aload_n 0, 1) := by decide +kernel
theorem d_M_lays_128 : decode m_M_lays.2.1 128 = .ok (.getfield 95, 3) := by decide +kernel
theorem d_M_lays_131 : decode m_M_lays.2.1 131 = .ok (.iadd, 1) := by decide +kernel
theorem d_M_lays_132 : decode m_M_lays.2.1 132 = .ok (.isub, 1) := by decide +kernel
theorem d_M_lays_133 : decode m_M_lays.2.1 133 = .ok (.putfield 123, 3) := by decide +kernel
theorem d_M_lays_136 : decode m_M_lays.2.1 136 = .ok (.aload_n 0, 1) := by decide +kernel
theorem d_M_lays_137 : decode m_M_lays.2.1 137 = .ok (.getfield 19, 3) := by decide +kernel
theorem d_M_lays_140 : decode m_M_lays.2.1 140 = .ok (.aload_n 0, 1) := by decide +kernel
theorem d_M_lays_141 : decode m_M_lays.2.1 141 = .ok (.getfield 117, 3) := by decide +kernel
theorem d_M_lays_144 : decode m_M_lays.2.1 144 = .ok (.iload 5, 2) := by decide +kernel
theorem d_M_lays_146 : decode m_M_lays.2.1 146 = .ok (.iastore, 1) := by decide +kernel
theorem d_M_lays_147 : decode m_M_lays.2.1 147 = .ok (.aload_n 0, 1) := by decide +kernel
theorem d_M_lays_148 : decode m_M_lays.2.1 148 = .ok (.dup, 1) := by decide +kernel
theorem d_M_lays_149 : decode m_M_lays.2.1 149 = .ok (.getfield 117, 3) := by decide +kernel
theorem d_M_lays_152 : decode m_M_lays.2.1 152 = .ok (.iconst 1, 1) := by decide +kernel
theorem d_M_lays_153 : decode m_M_lays.2.1 153 = .ok (.iadd, 1) := by decide +kernel
theorem d_M_lays_154 : decode m_M_lays.2.1 154 = .ok (.putfield 117, 3) := by decide +kernel
theorem d_M_lays_157 : decode m_M_lays.2.1 157 = .ok (.iload 4, 2) := by decide +kernel
theorem d_M_lays_159 : decode m_M_lays.2.1 159 = .ok (.iconst 1, 1) := by decide +kernel
theorem d_M_lays_160 : decode m_M_lays.2.1 160 = .ok (.iload 5, 2) := by decide +kernel
theorem d_M_lays_162 : decode m_M_lays.2.1 162 = .ok (.ishl, 1) := by decide +kernel
theorem d_M_lays_163 : decode m_M_lays.2.1 163 = .ok (.iconst (-1), 1) := by decide +kernel
theorem d_M_lays_164 : decode m_M_lays.2.1 164 = .ok (.ixor, 1) := by decide +kernel
theorem d_M_lays_165 : decode m_M_lays.2.1 165 = .ok (.iand, 1) := by decide +kernel
theorem d_M_lays_166 : decode m_M_lays.2.1 166 = .ok (.istore 4, 2) := by decide +kernel
theorem d_M_lays_168 : decode m_M_lays.2.1 168 = .ok (.aload_n 0, 1) := by decide +kernel
theorem d_M_lays_169 : decode m_M_lays.2.1 169 = .ok (.iload 5, 2) := by decide +kernel
theorem d_M_lays_171 : decode m_M_lays.2.1 171 = .ok (.iload_n 2, 1) := by decide +kernel
theorem d_M_lays_172 : decode m_M_lays.2.1 172 = .ok (.iload 4, 2) := by decide +kernel
theorem d_M_lays_174 : decode m_M_lays.2.1 174 = .ok (.invokevirtual 126, 3) := by decide +kernel
theorem d_M_lays_177 : decode m_M_lays.2.1 177 = .ok (.istore 5, 2) := by decide +kernel
theorem d_M_lays_179 : decode m_M_lays.2.1 179 = .ok (.goto (-124), 3) := by decide +kernel
theorem d_M_lays_182 : decode m_M_lays.2.1 182 = .ok (.return_, 1) := by decide +kernel
set_option maxHeartbeats 4000000 in
set_option maxRecDepth 20000 in
theorem Vl_M_lays_55 (G : Gt) : ∀ (n : Nat) (x2 : Int32) (x4 : Int32) (x5 : Int32) (h : Hp), V G m_M_lays 55 [(0, .ref (ad G 31)), (2, .int x2), (4, .int x4), (5, .int x5)] [] h κv (l_M_lays_55 n x2 x4 x5 h) := by
  intro n
  induction n with
  | zero => intros; exact v_none
  | succ n ih =>
    intro x2 x4 x5 h
    rw [l_M_lays_55]
    refine v_iload 3 d_M_lays_55 rfl ?_
    refine v_iconst (-1) d_M_lays_57 rfl ?_
    refine v_icmp_eq 182 d_M_lays_58 (by decide) (fun c2 => ?_) (fun c2 => ?_)
    · exact v_vret rfl d_M_lays_182
    · refine v_aload_n 0 d_M_lays_61 rfl rfl ?_
      refine v_geti fl_M_123 o_31 rfl d_M_lays_62 ?_
      refine v_aload_n 0 d_M_lays_65 rfl rfl ?_
      refine v_aload_n 0 d_M_lays_66 rfl rfl ?_
      refine v_getr 35 fl_M_19 o_31 rfl rfl d_M_lays_67 ?_
      refine v_aload_n 0 d_M_lays_70 rfl rfl ?_
      refine v_geti fl_M_117 o_31 rfl d_M_lays_71 ?_
      refine v_iconst 1 d_M_lays_74 rfl ?_
      refine v_isub d_M_lays_75 ?_
      refine v_iald ar_35 d_M_lays_76 ?_
      refine v_iload 3 d_M_lays_77 rfl ?_
      refine v_callVi (As := [.int (h 35 (ix ((h 31 10) - 1))), .int x5]) (rest := [.int (h 31 12)]) (c_M_farOf G (h 35 (ix ((h 31 10) - 1))) x5 h) co_M_107 io_M_farOf o_31 ⟨by decide, by decide⟩ rfl rfl (Nat.le_of_ble_eq_true rfl) d_M_lays_79 (fun r3 h3 _ => ?_)
      refine v_aload_n 0 d_M_lays_82 rfl rfl ?_
      refine v_geti fl_M_95 o_31 rfl d_M_lays_83 ?_
      refine v_iadd d_M_lays_86 ?_
      refine v_icmp_lt 182 d_M_lays_87 (by decide) (fun c4 => ?_) (fun c4 => ?_)
      · exact v_vret rfl d_M_lays_182
      · refine v_aload_n 0 d_M_lays_90 rfl rfl ?_
        refine v_aload_n 0 d_M_lays_91 rfl rfl ?_
        refine v_getr 35 fl_M_19 o_31 rfl rfl d_M_lays_92 ?_
        refine v_aload_n 0 d_M_lays_95 rfl rfl ?_
        refine v_geti fl_M_117 o_31 rfl d_M_lays_96 ?_
        refine v_iconst 1 d_M_lays_99 rfl ?_
        refine v_isub d_M_lays_100 ?_
        refine v_iald ar_35 d_M_lays_101 ?_
        refine v_iload 3 d_M_lays_102 rfl ?_
        refine v_callVi (As := [.int (h3 35 (ix ((h3 31 10) - 1))), .int x5]) (rest := []) (c_M_farOf G (h3 35 (ix ((h3 31 10) - 1))) x5 h3) co_M_107 io_M_farOf o_31 ⟨by decide, by decide⟩ rfl rfl (Nat.le_of_ble_eq_true rfl) d_M_lays_104 (fun r5 h5 _ => ?_)
        refine v_istore [(6, .int r5), (0, .ref (ad G 31)), (2, .int x2), (4, .int x4), (5, .int x5)] d_M_lays_107 (by decide) rfl ?_
        refine v_aload_n 1 d_M_lays_109 rfl rfl ?_
        refine v_dup d_M_lays_110 rfl ?_
        refine v_geti fl_M_120 o_31 rfl d_M_lays_111 ?_
        refine v_iload 0 d_M_lays_114 rfl ?_
        refine v_iadd d_M_lays_116 ?_
        refine v_puti fl_M_120 ft_6_11 rfl rfl o_31 rfl d_M_lays_117 ?_
        refine v_aload_n 1 d_M_lays_120 rfl rfl ?_
        refine v_dup d_M_lays_121 rfl ?_
        refine v_geti fl_M_123 o_31 rfl d_M_lays_122 ?_
        refine v_iload 0 d_M_lays_125 rfl ?_
        refine v_aload_n 1 d_M_lays_127 rfl rfl ?_
        refine v_geti fl_M_95 o_31 rfl d_M_lays_128 ?_
        refine v_iadd d_M_lays_131 ?_
        refine v_isub d_M_lays_132 ?_
        refine v_puti fl_M_123 ft_6_12 rfl rfl o_31 rfl d_M_lays_133 ?_
        refine v_aload_n 1 d_M_lays_136 rfl rfl ?_
        refine v_getr 35 fl_M_19 o_31 rfl rfl d_M_lays_137 ?_
        refine v_aload_n 1 d_M_lays_140 rfl rfl ?_
        refine v_geti fl_M_117 o_31 rfl d_M_lays_141 ?_
        refine v_iload 4 d_M_lays_144 rfl ?_
        refine v_iast ar_35 d_M_lays_146 ?_
        refine v_aload_n 1 d_M_lays_147 rfl rfl ?_
        refine v_dup d_M_lays_148 rfl ?_
        refine v_geti fl_M_117 o_31 rfl d_M_lays_149 ?_
        refine v_iconst 1 d_M_lays_152 rfl ?_
        refine v_iadd d_M_lays_153 ?_
        refine v_puti fl_M_117 ft_6_10 rfl rfl o_31 rfl d_M_lays_154 ?_
        refine v_iload 3 d_M_lays_157 rfl ?_
        refine v_iconst 1 d_M_lays_159 rfl ?_
        refine v_iload 4 d_M_lays_160 rfl ?_
        refine v_ishl d_M_lays_162 ?_
        refine v_iconst (-1) d_M_lays_163 rfl ?_
        refine v_ixor d_M_lays_164 ?_
        refine v_iand d_M_lays_165 ?_
        refine v_istore [(4, .int (x4 &&& (((1 : Int32) <<< (x5 &&& 31)) ^^^ (-1)))), (6, .int r5), (0, .ref (ad G 31)), (2, .int x2), (5, .int x5)] d_M_lays_166 (by decide) rfl ?_
        refine v_aload_n 2 d_M_lays_168 rfl rfl ?_
        refine v_iload 4 d_M_lays_169 rfl ?_
        refine v_iload_n 3 d_M_lays_171 rfl rfl ?_
        refine v_iload 0 d_M_lays_172 rfl ?_
        refine v_callVi (As := [.int x5, .int x2, .int (x4 &&& (((1 : Int32) <<< (x5 &&& 31)) ^^^ (-1)))]) (rest := []) (c_M_nextOf G x5 x2 (x4 &&& (((1 : Int32) <<< (x5 &&& 31)) ^^^ (-1))) (hset (hset (hset (hset h5 31 11 ((h5 31 11) + r5)) 31 12 (((hset h5 31 11 ((h5 31 11) + r5)) 31 12) - (r5 + ((hset h5 31 11 ((h5 31 11) + r5)) 31 7)))) 35 (ix ((hset (hset h5 31 11 ((h5 31 11) + r5)) 31 12 (((hset h5 31 11 ((h5 31 11) + r5)) 31 12) - (r5 + ((hset h5 31 11 ((h5 31 11) + r5)) 31 7)))) 31 10)) x5) 31 10 (((hset (hset (hset h5 31 11 ((h5 31 11) + r5)) 31 12 (((hset h5 31 11 ((h5 31 11) + r5)) 31 12) - (r5 + ((hset h5 31 11 ((h5 31 11) + r5)) 31 7)))) 35 (ix ((hset (hset h5 31 11 ((h5 31 11) + r5)) 31 12 (((hset h5 31 11 ((h5 31 11) + r5)) 31 12) - (r5 + ((hset h5 31 11 ((h5 31 11) + r5)) 31 7)))) 31 10)) x5) 31 10) + 1))) co_M_126 io_M_nextOf o_31 ⟨by decide, by decide⟩ rfl rfl (Nat.le_of_ble_eq_true rfl) d_M_lays_174 (fun r6 h6 _ => ?_)
        refine v_istore [(5, .int r6), (4, .int (x4 &&& (((1 : Int32) <<< (x5 &&& 31)) ^^^ (-1)))), (6, .int r5), (0, .ref (ad G 31)), (2, .int x2)] d_M_lays_177 (by decide) rfl ?_
        refine v_goto 55 d_M_lays_179 (by decide) ?_
        exact v_sub [3, 4, 1, 0] rfl (ih x2 (x4 &&& (((1 : Int32) <<< (x5 &&& 31)) ^^^ (-1))) r6 h6)
set_option maxHeartbeats 4000000 in
set_option maxRecDepth 20000 in
theorem c_M_lays (G : Gt) (x1 : Int32) (x2 : Int32) (x3 : Int32) (h : Hp) : Cn G m_M_lays [.ref (ad G 31), .int x1, .int x2, .int x3] h κv (f_M_lays x1 x2 x3 h) := by
  refine entryV (by decide) (Nat.le_of_ble_eq_true rfl) rfl ?_
  show V G m_M_lays 0 [(0, .ref (ad G 31)), (1, .int x1), (2, .int x2), (3, .int x3)] [] h κv _
  unfold f_M_lays
  refine v_iconst 1 d_M_lays_0 rfl ?_
  refine v_aload_n 0 d_M_lays_1 rfl rfl ?_
  refine v_geti fl_M_67 o_31 rfl d_M_lays_2 ?_
  refine v_ishl d_M_lays_5 ?_
  refine v_iconst 1 d_M_lays_6 rfl ?_
  refine v_isub d_M_lays_7 ?_
  refine v_iload_n 3 d_M_lays_8 rfl rfl ?_
  refine v_iconst (-1) d_M_lays_9 rfl ?_
  refine v_ixor d_M_lays_10 ?_
  refine v_iand d_M_lays_11 ?_
  refine v_iconst 1 d_M_lays_12 rfl ?_
  refine v_iload_n 1 d_M_lays_13 rfl rfl ?_
  refine v_ishl d_M_lays_14 ?_
  refine v_iconst (-1) d_M_lays_15 rfl ?_
  refine v_ixor d_M_lays_16 ?_
  refine v_iand d_M_lays_17 ?_
  refine v_istore [(4, .int (((((1 : Int32) <<< ((h 31 2) &&& 31)) - 1) &&& (x3 ^^^ (-1))) &&& (((1 : Int32) <<< (x1 &&& 31)) ^^^ (-1)))), (0, .ref (ad G 31)), (1, .int x1), (2, .int x2), (3, .int x3)] d_M_lays_18 (by decide) rfl ?_
  refine v_aload_n 1 d_M_lays_20 rfl rfl ?_
  refine v_getr 35 fl_M_19 o_31 rfl rfl d_M_lays_21 ?_
  refine v_iconst 0 d_M_lays_24 rfl ?_
  refine v_iload_n 2 d_M_lays_25 rfl rfl ?_
  refine v_iast ar_35 d_M_lays_26 ?_
  refine v_aload_n 1 d_M_lays_27 rfl rfl ?_
  refine v_iconst 1 d_M_lays_28 rfl ?_
  refine v_puti fl_M_117 ft_6_10 rfl rfl o_31 rfl d_M_lays_29 ?_
  refine v_aload_n 1 d_M_lays_32 rfl rfl ?_
  refine v_iconst 0 d_M_lays_33 rfl ?_
  refine v_puti fl_M_120 ft_6_11 rfl rfl o_31 rfl d_M_lays_34 ?_
  refine v_aload_n 1 d_M_lays_37 rfl rfl ?_
  refine v_aload_n 1 d_M_lays_38 rfl rfl ?_
  refine v_geti fl_M_53 o_31 rfl d_M_lays_39 ?_
  refine v_puti fl_M_123 ft_6_12 rfl rfl o_31 rfl d_M_lays_42 ?_
  refine v_aload_n 1 d_M_lays_45 rfl rfl ?_
  refine v_iload_n 2 d_M_lays_46 rfl rfl ?_
  refine v_iload_n 3 d_M_lays_47 rfl rfl ?_
  refine v_iload 0 d_M_lays_48 rfl ?_
  refine v_callVi (As := [.int x1, .int x2, .int (((((1 : Int32) <<< ((h 31 2) &&& 31)) - 1) &&& (x3 ^^^ (-1))) &&& (((1 : Int32) <<< (x1 &&& 31)) ^^^ (-1)))]) (rest := []) (c_M_nextOf G x1 x2 (((((1 : Int32) <<< ((h 31 2) &&& 31)) - 1) &&& (x3 ^^^ (-1))) &&& (((1 : Int32) <<< (x1 &&& 31)) ^^^ (-1))) (hset (hset (hset (hset h 35 (ix 0) x1) 31 10 1) 31 11 0) 31 12 ((hset (hset (hset h 35 (ix 0) x1) 31 10 1) 31 11 0) 31 6))) co_M_126 io_M_nextOf o_31 ⟨by decide, by decide⟩ rfl rfl (Nat.le_of_ble_eq_true rfl) d_M_lays_50 (fun r1 h1 _ => ?_)
  refine v_istore [(5, .int r1), (4, .int (((((1 : Int32) <<< ((h 31 2) &&& 31)) - 1) &&& (x3 ^^^ (-1))) &&& (((1 : Int32) <<< (x1 &&& 31)) ^^^ (-1)))), (0, .ref (ad G 31)), (1, .int x1), (2, .int x2), (3, .int x3)] d_M_lays_53 (by decide) rfl ?_
  exact v_sub [2, 4, 1, 0] rfl (Vl_M_lays_55 G FUEL x2 (((((1 : Int32) <<< ((h 31 2) &&& 31)) - 1) &&& (x3 ^^^ (-1))) &&& (((1 : Int32) <<< (x1 &&& 31)) ^^^ (-1))) r1 h1)
theorem d_M_webOf_0 : decode m_M_webOf.2.1 0 = .ok (.aload_n 0, 1) := by decide +kernel
theorem d_M_webOf_1 : decode m_M_webOf.2.1 1 = .ok (.iload_n 1, 1) := by decide +kernel
theorem d_M_webOf_2 : decode m_M_webOf.2.1 2 = .ok (.invokevirtual 133, 3) := by decide +kernel
theorem d_M_webOf_5 : decode m_M_webOf.2.1 5 = .ok (.ifCond .eq 6, 3) := by decide +kernel
theorem d_M_webOf_8 : decode m_M_webOf.2.1 8 = .ok (.bipush (-3), 2) := by decide +kernel
theorem d_M_webOf_10 : decode m_M_webOf.2.1 10 = .ok (.ireturn, 1) := by decide +kernel
theorem d_M_webOf_11 : decode m_M_webOf.2.1 11 = .ok (.aload_n 0, 1) := by decide +kernel
theorem d_M_webOf_12 : decode m_M_webOf.2.1 12 = .ok (.iload_n 1, 1) := by decide +kernel
theorem d_M_webOf_13 : decode m_M_webOf.2.1 13 = .ok (.iload_n 2, 1) := by decide +kernel
theorem d_M_webOf_14 : decode m_M_webOf.2.1 14 = .ok (.aload_n 0, 1) := by decide +kernel
theorem d_M_webOf_15 : decode m_M_webOf.2.1 15 = .ok (.getfield 81, 3) := by decide +kernel
theorem d_M_webOf_18 : decode m_M_webOf.2.1 18 = .ok (.invokevirtual 136, 3) := by decide +kernel
theorem d_M_webOf_21 : decode m_M_webOf.2.1 21 = .ok (.iload_n 3, 1) := by decide +kernel
theorem d_M_webOf_22 : decode m_M_webOf.2.1 22 = .ok (.aload_n 0, 1) := by decide +kernel
theorem d_M_webOf_23 : decode m_M_webOf.2.1 23 = .ok (.getfield 117, 3) := by decide +kernel
theorem d_M_webOf_26 : decode m_M_webOf.2.1 26 = .ok (.if_icmp .ge 12, 3) := by decide +kernel
theorem d_M_webOf_29 : decode m_M_webOf.2.1 29 = .ok (.aload_n 0, 1) := by decide +kernel
theorem d_M_webOf_30 : decode m_M_webOf.2.1 30 = .ok (.getfield 19, 3) := by decide +kernel
theorem d_M_webOf_33 : decode m_M_webOf.2.1 33 = .ok (.iload_n 3, 1) := by decide +kernel
theorem d_M_webOf_34 : decode m_M_webOf.2.1 34 = .ok (.iaload, 1) := by decide +kernel
theorem d_M_webOf_35 : decode m_M_webOf.2.1 35 = .ok (.goto 4, 3) := by decide +kernel
theorem d_M_webOf_38 : decode m_M_webOf.2.1 38 = .ok (.iconst (-1), 1) := by decide +kernel
theorem d_M_webOf_39 : decode m_M_webOf.2.1 39 = .ok (.ireturn, 1) := by decide +kernel
set_option maxHeartbeats 4000000 in
set_option maxRecDepth 20000 in
theorem c_M_webOf (G : Gt) (x1 : Int32) (x2 : Int32) (x3 : Int32) (h : Hp) : Cn G m_M_webOf [.ref (ad G 31), .int x1, .int x2, .int x3] h κi (f_M_webOf x1 x2 x3 h) := by
  refine entryV (by decide) (Nat.le_of_ble_eq_true rfl) rfl ?_
  show V G m_M_webOf 0 [(0, .ref (ad G 31)), (1, .int x1), (2, .int x2), (3, .int x3)] [] h κi _
  unfold f_M_webOf
  refine v_aload_n 0 d_M_webOf_0 rfl rfl ?_
  refine v_iload_n 1 d_M_webOf_1 rfl rfl ?_
  refine v_callVi (As := [.int x1]) (rest := []) (c_M_isHidden G x1 h) co_M_133 io_M_isHidden o_31 ⟨by decide, by decide⟩ rfl rfl (Nat.le_of_ble_eq_true rfl) d_M_webOf_2 (fun r1 h1 _ => ?_)
  refine v_if_eq 11 d_M_webOf_5 (by decide) (fun c2 => ?_) (fun c2 => ?_)
  · refine v_aload_n 0 d_M_webOf_11 rfl rfl ?_
    refine v_iload_n 1 d_M_webOf_12 rfl rfl ?_
    refine v_iload_n 2 d_M_webOf_13 rfl rfl ?_
    refine v_aload_n 0 d_M_webOf_14 rfl rfl ?_
    refine v_geti fl_M_81 o_31 rfl d_M_webOf_15 ?_
    refine v_callVv (As := [.int x1, .int x2, .int (h1 31 5)]) (rest := []) (c_M_lays G x1 x2 (h1 31 5) h1) co_M_136 io_M_lays o_31 ⟨by decide, by decide⟩ rfl rfl (Nat.le_of_ble_eq_true rfl) d_M_webOf_18 (fun _ h3 _ => ?_)
    refine v_iload_n 3 d_M_webOf_21 rfl rfl ?_
    refine v_aload_n 0 d_M_webOf_22 rfl rfl ?_
    refine v_geti fl_M_117 o_31 rfl d_M_webOf_23 ?_
    refine v_icmp_ge 38 d_M_webOf_26 (by decide) (fun c4 => ?_) (fun c4 => ?_)
    · refine v_iconst (-1) d_M_webOf_38 rfl ?_
      exact v_iret rfl d_M_webOf_39
    · refine v_aload_n 0 d_M_webOf_29 rfl rfl ?_
      refine v_getr 35 fl_M_19 o_31 rfl rfl d_M_webOf_30 ?_
      refine v_iload_n 3 d_M_webOf_33 rfl rfl ?_
      refine v_iald ar_35 d_M_webOf_34 ?_
      refine v_goto 39 d_M_webOf_35 (by decide) ?_
      exact v_iret rfl d_M_webOf_39
  · refine v_bipush (-3) d_M_webOf_8 rfl ?_
    exact v_iret rfl d_M_webOf_10
theorem d_M_web_0 : decode m_M_web.2.1 0 = .ok (.aload_n 0, 1) := by decide +kernel
theorem d_M_web_1 : decode m_M_web.2.1 1 = .ok (.iload_n 1, 1) := by decide +kernel
theorem d_M_web_2 : decode m_M_web.2.1 2 = .ok (.iload_n 2, 1) := by decide +kernel
theorem d_M_web_3 : decode m_M_web.2.1 3 = .ok (.invokevirtual 140, 3) := by decide +kernel
theorem d_M_web_6 : decode m_M_web.2.1 6 = .ok (.ifCond .eq 20, 3) := by decide +kernel
theorem d_M_web_9 : decode m_M_web.2.1 9 = .ok (.iload_n 3, 1) := by decide +kernel
theorem d_M_web_10 : decode m_M_web.2.1 10 = .ok (.invokestatic 92, 3) := by decide +kernel
theorem d_M_web_13 : decode m_M_web.2.1 13 = .ok (.ifCond .eq 13, 3) := by decide +kernel
theorem d_M_web_16 : decode m_M_web.2.1 16 = .ok (.aload_n 0, 1) := by decide +kernel
theorem d_M_web_17 : decode m_M_web.2.1 17 = .ok (.iload_n 1, 1) := by decide +kernel
theorem d_M_web_18 : decode m_M_web.2.1 18 = .ok (.iload_n 2, 1) := by decide +kernel
theorem d_M_web_19 : decode m_M_web.2.1 19 = .ok (.iload_n 3, 1) := by decide +kernel
theorem d_M_web_20 : decode m_M_web.2.1 20 = .ok (.invokevirtual 143, 3) := by decide +kernel
theorem d_M_web_23 : decode m_M_web.2.1 23 = .ok (.goto 5, 3) := by decide +kernel
theorem d_M_web_26 : decode m_M_web.2.1 26 = .ok (.bipush (-2), 2) := by decide +kernel
theorem d_M_web_28 : decode m_M_web.2.1 28 = .ok (.ireturn, 1) := by decide +kernel
set_option maxHeartbeats 4000000 in
set_option maxRecDepth 20000 in
theorem c_M_web (G : Gt) (x1 : Int32) (x2 : Int32) (x3 : Int32) (h : Hp) : Cn G m_M_web [.ref (ad G 31), .int x1, .int x2, .int x3] h κi (f_M_web x1 x2 x3 h) := by
  refine entryV (by decide) (Nat.le_of_ble_eq_true rfl) rfl ?_
  show V G m_M_web 0 [(0, .ref (ad G 31)), (1, .int x1), (2, .int x2), (3, .int x3)] [] h κi _
  unfold f_M_web
  refine v_aload_n 0 d_M_web_0 rfl rfl ?_
  refine v_iload_n 1 d_M_web_1 rfl rfl ?_
  refine v_iload_n 2 d_M_web_2 rfl rfl ?_
  refine v_callVi (As := [.int x1, .int x2]) (rest := []) (c_M_isWeb G x1 x2 h) co_M_140 io_M_isWeb o_31 ⟨by decide, by decide⟩ rfl rfl (Nat.le_of_ble_eq_true rfl) d_M_web_3 (fun r1 h1 _ => ?_)
  refine v_if_eq 26 d_M_web_6 (by decide) (fun c2 => ?_) (fun c2 => ?_)
  · refine v_bipush (-2) d_M_web_26 rfl ?_
    exact v_iret rfl d_M_web_28
  · refine v_iload_n 3 d_M_web_9 rfl rfl ?_
    refine v_callSi (As := [.int x3]) (rest := []) (c_M_isTen G x3 h1) co_M_92 so_M_isTen ⟨by decide, by decide⟩ rfl rfl (Nat.le_of_ble_eq_true rfl) d_M_web_10 (fun r3 h3 _ => ?_)
    refine v_if_eq 26 d_M_web_13 (by decide) (fun c4 => ?_) (fun c4 => ?_)
    · refine v_bipush (-2) d_M_web_26 rfl ?_
      exact v_iret rfl d_M_web_28
    · refine v_aload_n 0 d_M_web_16 rfl rfl ?_
      refine v_iload_n 1 d_M_web_17 rfl rfl ?_
      refine v_iload_n 2 d_M_web_18 rfl rfl ?_
      refine v_iload_n 3 d_M_web_19 rfl rfl ?_
      refine v_callVi (As := [.int x1, .int x2, .int x3]) (rest := []) (c_M_webOf G x1 x2 x3 h3) co_M_143 io_M_webOf o_31 ⟨by decide, by decide⟩ rfl rfl (Nat.le_of_ble_eq_true rfl) d_M_web_20 (fun r5 h5 _ => ?_)
      refine v_goto 28 d_M_web_23 (by decide) ?_
      exact v_iret rfl d_M_web_28
theorem d_M_lengthOf_0 : decode m_M_lengthOf.2.1 0 = .ok (.aload_n 0, 1) := by decide +kernel
theorem d_M_lengthOf_1 : decode m_M_lengthOf.2.1 1 = .ok (.iload_n 1, 1) := by decide +kernel
theorem d_M_lengthOf_2 : decode m_M_lengthOf.2.1 2 = .ok (.invokevirtual 133, 3) := by decide +kernel
theorem d_M_lengthOf_5 : decode m_M_lengthOf.2.1 5 = .ok (.ifCond .eq 6, 3) := by decide +kernel
theorem d_M_lengthOf_8 : decode m_M_lengthOf.2.1 8 = .ok (.bipush (-3), 2) := by decide +kernel
theorem d_M_lengthOf_10 : decode m_M_lengthOf.2.1 10 = .ok (.ireturn, 1) := by decide +kernel
theorem d_M_lengthOf_11 : decode m_M_lengthOf.2.1 11 = .ok (.aload_n 0, 1) := by decide +kernel
theorem d_M_lengthOf_12 : decode m_M_lengthOf.2.1 12 = .ok (.iload_n 1, 1) := by decide +kernel
theorem d_M_lengthOf_13 : decode m_M_lengthOf.2.1 13 = .ok (.iload_n 2, 1) := by decide +kernel
theorem d_M_lengthOf_14 : decode m_M_lengthOf.2.1 14 = .ok (.aload_n 0, 1) := by decide +kernel
theorem d_M_lengthOf_15 : decode m_M_lengthOf.2.1 15 = .ok (.getfield 81, 3) := by decide +kernel
theorem d_M_lengthOf_18 : decode m_M_lengthOf.2.1 18 = .ok (.invokevirtual 136, 3) := by decide +kernel
theorem d_M_lengthOf_21 : decode m_M_lengthOf.2.1 21 = .ok (.iload_n 3, 1) := by decide +kernel
theorem d_M_lengthOf_22 : decode m_M_lengthOf.2.1 22 = .ok (.ifCond .ne 10, 3) := by decide +kernel
theorem d_M_lengthOf_25 : decode m_M_lengthOf.2.1 25 = .ok (.aload_n 0, 1) := by decide +kernel
theorem d_M_lengthOf_26 : decode m_M_lengthOf.2.1 26 = .ok (.getfield 120, 3) := by decide +kernel
theorem d_M_lengthOf_29 : decode m_M_lengthOf.2.1 29 = .ok (.goto 19, 3) := by decide +kernel
theorem d_M_lengthOf_32 : decode m_M_lengthOf.2.1 32 = .ok (.iload_n 3, 1) := by decide +kernel
theorem d_M_lengthOf_33 : decode m_M_lengthOf.2.1 33 = .ok (.iconst 1, 1) := by decide +kernel
theorem d_M_lengthOf_34 : decode m_M_lengthOf.2.1 34 = .ok (.if_icmp .ne 10, 3) := by decide +kernel
theorem d_M_lengthOf_37 : decode m_M_lengthOf.2.1 37 = .ok (.aload_n 0, 1) := by decide +kernel
theorem d_M_lengthOf_38 : decode m_M_lengthOf.2.1 38 = .ok (.getfield 117, 3) := by decide +kernel
theorem d_M_lengthOf_41 : decode m_M_lengthOf.2.1 41 = .ok (.goto 7, 3) := by decide +kernel
theorem d_M_lengthOf_44 : decode m_M_lengthOf.2.1 44 = .ok (.aload_n 0, 1) := by decide +kernel
theorem d_M_lengthOf_45 : decode m_M_lengthOf.2.1 45 = .ok (.getfield 123, 3) := by decide +kernel
theorem d_M_lengthOf_48 : decode m_M_lengthOf.2.1 48 = .ok (.ireturn, 1) := by decide +kernel
set_option maxHeartbeats 4000000 in
set_option maxRecDepth 20000 in
theorem c_M_lengthOf (G : Gt) (x1 : Int32) (x2 : Int32) (x3 : Int32) (h : Hp) : Cn G m_M_lengthOf [.ref (ad G 31), .int x1, .int x2, .int x3] h κi (f_M_lengthOf x1 x2 x3 h) := by
  refine entryV (by decide) (Nat.le_of_ble_eq_true rfl) rfl ?_
  show V G m_M_lengthOf 0 [(0, .ref (ad G 31)), (1, .int x1), (2, .int x2), (3, .int x3)] [] h κi _
  unfold f_M_lengthOf
  refine v_aload_n 0 d_M_lengthOf_0 rfl rfl ?_
  refine v_iload_n 1 d_M_lengthOf_1 rfl rfl ?_
  refine v_callVi (As := [.int x1]) (rest := []) (c_M_isHidden G x1 h) co_M_133 io_M_isHidden o_31 ⟨by decide, by decide⟩ rfl rfl (Nat.le_of_ble_eq_true rfl) d_M_lengthOf_2 (fun r1 h1 _ => ?_)
  refine v_if_eq 11 d_M_lengthOf_5 (by decide) (fun c2 => ?_) (fun c2 => ?_)
  · refine v_aload_n 0 d_M_lengthOf_11 rfl rfl ?_
    refine v_iload_n 1 d_M_lengthOf_12 rfl rfl ?_
    refine v_iload_n 2 d_M_lengthOf_13 rfl rfl ?_
    refine v_aload_n 0 d_M_lengthOf_14 rfl rfl ?_
    refine v_geti fl_M_81 o_31 rfl d_M_lengthOf_15 ?_
    refine v_callVv (As := [.int x1, .int x2, .int (h1 31 5)]) (rest := []) (c_M_lays G x1 x2 (h1 31 5) h1) co_M_136 io_M_lays o_31 ⟨by decide, by decide⟩ rfl rfl (Nat.le_of_ble_eq_true rfl) d_M_lengthOf_18 (fun _ h3 _ => ?_)
    refine v_iload_n 3 d_M_lengthOf_21 rfl rfl ?_
    refine v_if_ne 32 d_M_lengthOf_22 (by decide) (fun c4 => ?_) (fun c4 => ?_)
    · refine v_aload_n 0 d_M_lengthOf_25 rfl rfl ?_
      refine v_geti fl_M_120 o_31 rfl d_M_lengthOf_26 ?_
      refine v_goto 48 d_M_lengthOf_29 (by decide) ?_
      exact v_iret rfl d_M_lengthOf_48
    · refine v_iload_n 3 d_M_lengthOf_32 rfl rfl ?_
      refine v_iconst 1 d_M_lengthOf_33 rfl ?_
      refine v_icmp_ne 44 d_M_lengthOf_34 (by decide) (fun c5 => ?_) (fun c5 => ?_)
      · refine v_aload_n 0 d_M_lengthOf_37 rfl rfl ?_
        refine v_geti fl_M_117 o_31 rfl d_M_lengthOf_38 ?_
        refine v_goto 48 d_M_lengthOf_41 (by decide) ?_
        exact v_iret rfl d_M_lengthOf_48
      · refine v_aload_n 0 d_M_lengthOf_44 rfl rfl ?_
        refine v_geti fl_M_123 o_31 rfl d_M_lengthOf_45 ?_
        exact v_iret rfl d_M_lengthOf_48
  · refine v_bipush (-3) d_M_lengthOf_8 rfl ?_
    exact v_iret rfl d_M_lengthOf_10
theorem d_M_length_0 : decode m_M_length.2.1 0 = .ok (.aload_n 0, 1) := by decide +kernel
theorem d_M_length_1 : decode m_M_length.2.1 1 = .ok (.iload_n 1, 1) := by decide +kernel
theorem d_M_length_2 : decode m_M_length.2.1 2 = .ok (.iload_n 2, 1) := by decide +kernel
theorem d_M_length_3 : decode m_M_length.2.1 3 = .ok (.invokevirtual 140, 3) := by decide +kernel
theorem d_M_length_6 : decode m_M_length.2.1 6 = .ok (.ifCond .eq 22, 3) := by decide +kernel
theorem d_M_length_9 : decode m_M_length.2.1 9 = .ok (.iload_n 3, 1) := by decide +kernel
theorem d_M_length_10 : decode m_M_length.2.1 10 = .ok (.iconst 0, 1) := by decide +kernel
theorem d_M_length_11 : decode m_M_length.2.1 11 = .ok (.iconst 2, 1) := by decide +kernel
theorem d_M_length_12 : decode m_M_length.2.1 12 = .ok (.invokestatic 60, 3) := by decide +kernel
theorem d_M_length_15 : decode m_M_length.2.1 15 = .ok (.ifCond .eq 13, 3) := by decide +kernel
theorem d_M_length_18 : decode m_M_length.2.1 18 = .ok (.aload_n 0, 1) := by decide +kernel
theorem d_M_length_19 : decode m_M_length.2.1 19 = .ok (.iload_n 1, 1) := by decide +kernel
theorem d_M_length_20 : decode m_M_length.2.1 20 = .ok (.iload_n 2, 1) := by decide +kernel
theorem d_M_length_21 : decode m_M_length.2.1 21 = .ok (.iload_n 3, 1) := by decide +kernel
theorem d_M_length_22 : decode m_M_length.2.1 22 = .ok (.invokevirtual 146, 3) := by decide +kernel
theorem d_M_length_25 : decode m_M_length.2.1 25 = .ok (.goto 5, 3) := by decide +kernel
theorem d_M_length_28 : decode m_M_length.2.1 28 = .ok (.bipush (-2), 2) := by decide +kernel
theorem d_M_length_30 : decode m_M_length.2.1 30 = .ok (.ireturn, 1) := by decide +kernel
set_option maxHeartbeats 4000000 in
set_option maxRecDepth 20000 in
theorem c_M_length (G : Gt) (x1 : Int32) (x2 : Int32) (x3 : Int32) (h : Hp) : Cn G m_M_length [.ref (ad G 31), .int x1, .int x2, .int x3] h κi (f_M_length x1 x2 x3 h) := by
  refine entryV (by decide) (Nat.le_of_ble_eq_true rfl) rfl ?_
  show V G m_M_length 0 [(0, .ref (ad G 31)), (1, .int x1), (2, .int x2), (3, .int x3)] [] h κi _
  unfold f_M_length
  refine v_aload_n 0 d_M_length_0 rfl rfl ?_
  refine v_iload_n 1 d_M_length_1 rfl rfl ?_
  refine v_iload_n 2 d_M_length_2 rfl rfl ?_
  refine v_callVi (As := [.int x1, .int x2]) (rest := []) (c_M_isWeb G x1 x2 h) co_M_140 io_M_isWeb o_31 ⟨by decide, by decide⟩ rfl rfl (Nat.le_of_ble_eq_true rfl) d_M_length_3 (fun r1 h1 _ => ?_)
  refine v_if_eq 28 d_M_length_6 (by decide) (fun c2 => ?_) (fun c2 => ?_)
  · refine v_bipush (-2) d_M_length_28 rfl ?_
    exact v_iret rfl d_M_length_30
  · refine v_iload_n 3 d_M_length_9 rfl rfl ?_
    refine v_iconst 0 d_M_length_10 rfl ?_
    refine v_iconst 2 d_M_length_11 rfl ?_
    refine v_callSi (As := [.int x3, .int 0, .int 2]) (rest := []) (c_M_in G x3 0 2 h1) co_M_60 so_M_in ⟨by decide, by decide⟩ rfl rfl (Nat.le_of_ble_eq_true rfl) d_M_length_12 (fun r3 h3 _ => ?_)
    refine v_if_eq 28 d_M_length_15 (by decide) (fun c4 => ?_) (fun c4 => ?_)
    · refine v_bipush (-2) d_M_length_28 rfl ?_
      exact v_iret rfl d_M_length_30
    · refine v_aload_n 0 d_M_length_18 rfl rfl ?_
      refine v_iload_n 1 d_M_length_19 rfl rfl ?_
      refine v_iload_n 2 d_M_length_20 rfl rfl ?_
      refine v_iload_n 3 d_M_length_21 rfl rfl ?_
      refine v_callVi (As := [.int x1, .int x2, .int x3]) (rest := []) (c_M_lengthOf G x1 x2 x3 h3) co_M_146 io_M_lengthOf o_31 ⟨by decide, by decide⟩ rfl rfl (Nat.le_of_ble_eq_true rfl) d_M_length_22 (fun r5 h5 _ => ?_)
      refine v_goto 30 d_M_length_25 (by decide) ?_
      exact v_iret rfl d_M_length_30
theorem d_M_hand_0 : decode m_M_hand.2.1 0 = .ok (.aload_n 0, 1) := by decide +kernel
theorem d_M_hand_1 : decode m_M_hand.2.1 1 = .ok (.getfield 13, 3) := by decide +kernel
theorem d_M_hand_4 : decode m_M_hand.2.1 4 = .ok (.iload_n 2, 1) := by decide +kernel
theorem d_M_hand_5 : decode m_M_hand.2.1 5 = .ok (.iaload, 1) := by decide +kernel
theorem d_M_hand_6 : decode m_M_hand.2.1 6 = .ok (.aload_n 0, 1) := by decide +kernel
theorem d_M_hand_7 : decode m_M_hand.2.1 7 = .ok (.getfield 13, 3) := by decide +kernel
theorem d_M_hand_10 : decode m_M_hand.2.1 10 = .ok (.iload_n 1, 1) := by decide +kernel
theorem d_M_hand_11 : decode m_M_hand.2.1 11 = .ok (.iaload, 1) := by decide +kernel
theorem d_M_hand_12 : decode m_M_hand.2.1 12 = .ok (.isub, 1) := by decide +kernel
theorem d_M_hand_13 : decode m_M_hand.2.1 13 = .ok (.aload_n 0, 1) := by decide +kernel
theorem d_M_hand_14 : decode m_M_hand.2.1 14 = .ok (.getfield 16, 3) := by decide +kernel
theorem d_M_hand_17 : decode m_M_hand.2.1 17 = .ok (.iload_n 3, 1) := by decide +kernel
theorem d_M_hand_18 : decode m_M_hand.2.1 18 = .ok (.iaload, 1) := by decide +kernel
theorem d_M_hand_19 : decode m_M_hand.2.1 19 = .ok (.aload_n 0, 1) := by decide +kernel
theorem d_M_hand_20 : decode m_M_hand.2.1 20 = .ok (.getfield 16, 3) := by decide +kernel
theorem d_M_hand_23 : decode m_M_hand.2.1 23 = .ok (.iload_n 1, 1) := by decide +kernel
theorem d_M_hand_24 : decode m_M_hand.2.1 24 = .ok (.iaload, 1) := by decide +kernel
theorem d_M_hand_25 : decode m_M_hand.2.1 25 = .ok (.isub, 1) := by decide +kernel
theorem d_M_hand_26 : decode m_M_hand.2.1 26 = .ok (.imul, 1) := by decide +kernel
theorem d_M_hand_27 : decode m_M_hand.2.1 27 = .ok (.aload_n 0, 1) := by decide +kernel
theorem d_M_hand_28 : decode m_M_hand.2.1 28 = .ok (.getfield 16, 3) := by decide +kernel
theorem d_M_hand_31 : decode m_M_hand.2.1 31 = .ok (.iload_n 2, 1) := by decide +kernel
theorem d_M_hand_32 : decode m_M_hand.2.1 32 = .ok (.iaload, 1) := by decide +kernel
theorem d_M_hand_33 : decode m_M_hand.2.1 33 = .ok (.aload_n 0, 1) := by decide +kernel
theorem d_M_hand_34 : decode m_M_hand.2.1 34 = .ok (.getfield 16, 3) := by decide +kernel
theorem d_M_hand_37 : decode m_M_hand.2.1 37 = .ok (.iload_n 1, 1) := by decide +kernel
theorem d_M_hand_38 : decode m_M_hand.2.1 38 = .ok (.iaload, 1) := by decide +kernel
theorem d_M_hand_39 : decode m_M_hand.2.1 39 = .ok (.isub, 1) := by decide +kernel
theorem d_M_hand_40 : decode m_M_hand.2.1 40 = .ok (.aload_n 0, 1) := by decide +kernel
theorem d_M_hand_41 : decode m_M_hand.2.1 41 = .ok (.getfield 13, 3) := by decide +kernel
theorem d_M_hand_44 : decode m_M_hand.2.1 44 = .ok (.iload_n 3, 1) := by decide +kernel
theorem d_M_hand_45 : decode m_M_hand.2.1 45 = .ok (.iaload, 1) := by decide +kernel
theorem d_M_hand_46 : decode m_M_hand.2.1 46 = .ok (.aload_n 0, 1) := by decide +kernel
theorem d_M_hand_47 : decode m_M_hand.2.1 47 = .ok (.getfield 13, 3) := by decide +kernel
theorem d_M_hand_50 : decode m_M_hand.2.1 50 = .ok (.iload_n 1, 1) := by decide +kernel
theorem d_M_hand_51 : decode m_M_hand.2.1 51 = .ok (.iaload, 1) := by decide +kernel
theorem d_M_hand_52 : decode m_M_hand.2.1 52 = .ok (.isub, 1) := by decide +kernel
theorem d_M_hand_53 : decode m_M_hand.2.1 53 = .ok (.imul, 1) := by decide +kernel
theorem d_M_hand_54 : decode m_M_hand.2.1 54 = .ok (.isub, 1) := by decide +kernel
theorem d_M_hand_55 : decode m_M_hand.2.1 55 = .ok (.istore 4, 2) := by decide +kernel
theorem d_M_hand_57 : decode m_M_hand.2.1 57 = .ok (.iload 4, 2) := by decide +kernel
theorem d_M_hand_59 : decode m_M_hand.2.1 59 = .ok (.ifCond .le 7, 3) := by decide +kernel
theorem d_M_hand_62 : decode m_M_hand.2.1 62 = .ok (.iconst 1, 1) := by decide +kernel
theorem d_M_hand_63 : decode m_M_hand.2.1 63 = .ok (.goto 13, 3) := by decide +kernel
theorem d_M_hand_66 : decode m_M_hand.2.1 66 = .ok (.iload 4, 2) := by decide +kernel
theorem d_M_hand_68 : decode m_M_hand.2.1 68 = .ok (.ifCond .ge 7, 3) := by decide +kernel
theorem d_M_hand_71 : decode m_M_hand.2.1 71 = .ok (.iconst (-1), 1) := by decide +kernel
theorem d_M_hand_72 : decode m_M_hand.2.1 72 = .ok (.goto 4, 3) := by decide +kernel
theorem d_M_hand_75 : decode m_M_hand.2.1 75 = .ok (.iconst 0, 1) := by decide +kernel
theorem d_M_hand_76 : decode m_M_hand.2.1 76 = .ok (.ireturn, 1) := by decide +kernel
set_option maxHeartbeats 4000000 in
set_option maxRecDepth 20000 in
theorem c_M_hand (G : Gt) (x1 : Int32) (x2 : Int32) (x3 : Int32) (h : Hp) : Cn G m_M_hand [.ref (ad G 31), .int x1, .int x2, .int x3] h κi (f_M_hand x1 x2 x3 h) := by
  refine entryV (by decide) (Nat.le_of_ble_eq_true rfl) rfl ?_
  show V G m_M_hand 0 [(0, .ref (ad G 31)), (1, .int x1), (2, .int x2), (3, .int x3)] [] h κi _
  unfold f_M_hand
  refine v_aload_n 0 d_M_hand_0 rfl rfl ?_
  refine v_getr 33 fl_M_13 o_31 rfl rfl d_M_hand_1 ?_
  refine v_iload_n 2 d_M_hand_4 rfl rfl ?_
  refine v_iald ar_33 d_M_hand_5 ?_
  refine v_aload_n 0 d_M_hand_6 rfl rfl ?_
  refine v_getr 33 fl_M_13 o_31 rfl rfl d_M_hand_7 ?_
  refine v_iload_n 1 d_M_hand_10 rfl rfl ?_
  refine v_iald ar_33 d_M_hand_11 ?_
  refine v_isub d_M_hand_12 ?_
  refine v_aload_n 0 d_M_hand_13 rfl rfl ?_
  refine v_getr 34 fl_M_16 o_31 rfl rfl d_M_hand_14 ?_
  refine v_iload_n 3 d_M_hand_17 rfl rfl ?_
  refine v_iald ar_34 d_M_hand_18 ?_
  refine v_aload_n 0 d_M_hand_19 rfl rfl ?_
  refine v_getr 34 fl_M_16 o_31 rfl rfl d_M_hand_20 ?_
  refine v_iload_n 1 d_M_hand_23 rfl rfl ?_
  refine v_iald ar_34 d_M_hand_24 ?_
  refine v_isub d_M_hand_25 ?_
  refine v_imul d_M_hand_26 ?_
  refine v_aload_n 0 d_M_hand_27 rfl rfl ?_
  refine v_getr 34 fl_M_16 o_31 rfl rfl d_M_hand_28 ?_
  refine v_iload_n 2 d_M_hand_31 rfl rfl ?_
  refine v_iald ar_34 d_M_hand_32 ?_
  refine v_aload_n 0 d_M_hand_33 rfl rfl ?_
  refine v_getr 34 fl_M_16 o_31 rfl rfl d_M_hand_34 ?_
  refine v_iload_n 1 d_M_hand_37 rfl rfl ?_
  refine v_iald ar_34 d_M_hand_38 ?_
  refine v_isub d_M_hand_39 ?_
  refine v_aload_n 0 d_M_hand_40 rfl rfl ?_
  refine v_getr 33 fl_M_13 o_31 rfl rfl d_M_hand_41 ?_
  refine v_iload_n 3 d_M_hand_44 rfl rfl ?_
  refine v_iald ar_33 d_M_hand_45 ?_
  refine v_aload_n 0 d_M_hand_46 rfl rfl ?_
  refine v_getr 33 fl_M_13 o_31 rfl rfl d_M_hand_47 ?_
  refine v_iload_n 1 d_M_hand_50 rfl rfl ?_
  refine v_iald ar_33 d_M_hand_51 ?_
  refine v_isub d_M_hand_52 ?_
  refine v_imul d_M_hand_53 ?_
  refine v_isub d_M_hand_54 ?_
  refine v_istore [(4, .int ((((h 33 (ix x2)) - (h 33 (ix x1))) * ((h 34 (ix x3)) - (h 34 (ix x1)))) - (((h 34 (ix x2)) - (h 34 (ix x1))) * ((h 33 (ix x3)) - (h 33 (ix x1)))))), (0, .ref (ad G 31)), (1, .int x1), (2, .int x2), (3, .int x3)] d_M_hand_55 (by decide) rfl ?_
  refine v_iload 0 d_M_hand_57 rfl ?_
  refine v_if_le 66 d_M_hand_59 (by decide) (fun c1 => ?_) (fun c1 => ?_)
  · refine v_iload 0 d_M_hand_66 rfl ?_
    refine v_if_ge 75 d_M_hand_68 (by decide) (fun c2 => ?_) (fun c2 => ?_)
    · refine v_iconst 0 d_M_hand_75 rfl ?_
      exact v_iret rfl d_M_hand_76
    · refine v_iconst (-1) d_M_hand_71 rfl ?_
      refine v_goto 76 d_M_hand_72 (by decide) ?_
      exact v_iret rfl d_M_hand_76
  · refine v_iconst 1 d_M_hand_62 rfl ?_
    refine v_goto 76 d_M_hand_63 (by decide) ?_
    exact v_iret rfl d_M_hand_76
theorem d_M_isBetween_0 : decode m_M_isBetween.2.1 0 = .ok (.aload_n 0, 1) := by decide +kernel
theorem d_M_isBetween_1 : decode m_M_isBetween.2.1 1 = .ok (.iload_n 1, 1) := by decide +kernel
theorem d_M_isBetween_2 : decode m_M_isBetween.2.1 2 = .ok (.iload_n 3, 1) := by decide +kernel
theorem d_M_isBetween_3 : decode m_M_isBetween.2.1 3 = .ok (.invokevirtual 107, 3) := by decide +kernel
theorem d_M_isBetween_6 : decode m_M_isBetween.2.1 6 = .ok (.aload_n 0, 1) := by decide +kernel
theorem d_M_isBetween_7 : decode m_M_isBetween.2.1 7 = .ok (.iload_n 3, 1) := by decide +kernel
theorem d_M_isBetween_8 : decode m_M_isBetween.2.1 8 = .ok (.iload_n 2, 1) := by decide +kernel
theorem d_M_isBetween_9 : decode m_M_isBetween.2.1 9 = .ok (.invokevirtual 107, 3) := by decide +kernel
theorem d_M_isBetween_12 : decode m_M_isBetween.2.1 12 = .ok (.iadd, 1) := by decide +kernel
theorem d_M_isBetween_13 : decode m_M_isBetween.2.1 13 = .ok (.aload_n 0, 1) := by decide +kernel
theorem d_M_isBetween_14 : decode m_M_isBetween.2.1 14 = .ok (.iload_n 1, 1) := by decide +kernel
theorem d_M_isBetween_15 : decode m_M_isBetween.2.1 15 = .ok (.iload_n 2, 1) := by decide +kernel
theorem d_M_isBetween_16 : decode m_M_isBetween.2.1 16 = .ok (.invokevirtual 107, 3) := by decide +kernel
theorem d_M_isBetween_19 : decode m_M_isBetween.2.1 19 = .ok (.if_icmp .ne 7, 3) := by decide +kernel
theorem d_M_isBetween_22 : decode m_M_isBetween.2.1 22 = .ok (.iconst 1, 1) := by decide +kernel
theorem d_M_isBetween_23 : decode m_M_isBetween.2.1 23 = .ok (.goto 4, 3) := by decide +kernel
theorem d_M_isBetween_26 : decode m_M_isBetween.2.1 26 = .ok (.iconst 0, 1) := by decide +kernel
theorem d_M_isBetween_27 : decode m_M_isBetween.2.1 27 = .ok (.ireturn, 1) := by decide +kernel
set_option maxHeartbeats 4000000 in
set_option maxRecDepth 20000 in
theorem c_M_isBetween (G : Gt) (x1 : Int32) (x2 : Int32) (x3 : Int32) (h : Hp) : Cn G m_M_isBetween [.ref (ad G 31), .int x1, .int x2, .int x3] h κi (f_M_isBetween x1 x2 x3 h) := by
  refine entryV (by decide) (Nat.le_of_ble_eq_true rfl) rfl ?_
  show V G m_M_isBetween 0 [(0, .ref (ad G 31)), (1, .int x1), (2, .int x2), (3, .int x3)] [] h κi _
  unfold f_M_isBetween
  refine v_aload_n 0 d_M_isBetween_0 rfl rfl ?_
  refine v_iload_n 1 d_M_isBetween_1 rfl rfl ?_
  refine v_iload_n 3 d_M_isBetween_2 rfl rfl ?_
  refine v_callVi (As := [.int x1, .int x3]) (rest := []) (c_M_farOf G x1 x3 h) co_M_107 io_M_farOf o_31 ⟨by decide, by decide⟩ rfl rfl (Nat.le_of_ble_eq_true rfl) d_M_isBetween_3 (fun r1 h1 _ => ?_)
  refine v_aload_n 0 d_M_isBetween_6 rfl rfl ?_
  refine v_iload_n 3 d_M_isBetween_7 rfl rfl ?_
  refine v_iload_n 2 d_M_isBetween_8 rfl rfl ?_
  refine v_callVi (As := [.int x3, .int x2]) (rest := [.int r1]) (c_M_farOf G x3 x2 h1) co_M_107 io_M_farOf o_31 ⟨by decide, by decide⟩ rfl rfl (Nat.le_of_ble_eq_true rfl) d_M_isBetween_9 (fun r2 h2 _ => ?_)
  refine v_iadd d_M_isBetween_12 ?_
  refine v_aload_n 0 d_M_isBetween_13 rfl rfl ?_
  refine v_iload_n 1 d_M_isBetween_14 rfl rfl ?_
  refine v_iload_n 2 d_M_isBetween_15 rfl rfl ?_
  refine v_callVi (As := [.int x1, .int x2]) (rest := [.int (r1 + r2)]) (c_M_farOf G x1 x2 h2) co_M_107 io_M_farOf o_31 ⟨by decide, by decide⟩ rfl rfl (Nat.le_of_ble_eq_true rfl) d_M_isBetween_16 (fun r3 h3 _ => ?_)
  refine v_icmp_ne 26 d_M_isBetween_19 (by decide) (fun c4 => ?_) (fun c4 => ?_)
  · refine v_iconst 1 d_M_isBetween_22 rfl ?_
    refine v_goto 27 d_M_isBetween_23 (by decide) ?_
    exact v_zretL rfl rfl d_M_isBetween_27
  · refine v_iconst 0 d_M_isBetween_26 rfl ?_
    exact v_zretL rfl rfl d_M_isBetween_27
theorem d_M_doMeet_0 : decode m_M_doMeet.2.1 0 = .ok (.aload_n 0, 1) := by decide +kernel
theorem d_M_doMeet_1 : decode m_M_doMeet.2.1 1 = .ok (.iload_n 1, 1) := by decide +kernel
theorem d_M_doMeet_2 : decode m_M_doMeet.2.1 2 = .ok (.iload_n 2, 1) := by decide +kernel
theorem d_M_doMeet_3 : decode m_M_doMeet.2.1 3 = .ok (.iload_n 3, 1) := by decide +kernel
theorem d_M_doMeet_4 : decode m_M_doMeet.2.1 4 = .ok (.invokevirtual 149, 3) := by decide +kernel
theorem d_M_doMeet_7 : decode m_M_doMeet.2.1 7 = .ok (.istore 5, 2) := by decide +kernel
theorem d_M_doMeet_9 : decode m_M_doMeet.2.1 9 = .ok (.aload_n 0, 1) := by decide +kernel
theorem d_M_doMeet_10 : decode m_M_doMeet.2.1 10 = .ok (.iload_n 1, 1) := by decide +kernel
theorem d_M_doMeet_11 : decode m_M_doMeet.2.1 11 = .ok (.iload_n 2, 1) := by decide +kernel
theorem d_M_doMeet_12 : decode m_M_doMeet.2.1 12 = .ok (.iload 4, 2) := by decide +kernel
theorem d_M_doMeet_14 : decode m_M_doMeet.2.1 14 = .ok (.invokevirtual 149, 3) := by decide +kernel
theorem d_M_doMeet_17 : decode m_M_doMeet.2.1 17 = .ok (.istore 6, 2) := by decide +kernel
theorem d_M_doMeet_19 : decode m_M_doMeet.2.1 19 = .ok (.aload_n 0, 1) := by decide +kernel
theorem d_M_doMeet_20 : decode m_M_doMeet.2.1 20 = .ok (.iload_n 3, 1) := by decide +kernel
theorem d_M_doMeet_21 : decode m_M_doMeet.2.1 21 = .ok (.iload 4, 2) := by decide +kernel
theorem d_M_doMeet_23 : decode m_M_doMeet.2.1 23 = .ok (.iload_n 1, 1) := by decide +kernel
theorem d_M_doMeet_24 : decode m_M_doMeet.2.1 24 = .ok (.invokevirtual 149, 3) := by decide +kernel
theorem d_M_doMeet_27 : decode m_M_doMeet.2.1 27 = .ok (.istore 7, 2) := by decide +kernel
theorem d_M_doMeet_29 : decode m_M_doMeet.2.1 29 = .ok (.aload_n 0, 1) := by decide +kernel
theorem d_M_doMeet_30 : decode m_M_doMeet.2.1 30 = .ok (.iload_n 3, 1) := by decide +kernel
theorem d_M_doMeet_31 : decode m_M_doMeet.2.1 31 = .ok (.iload 4, 2) := by decide +kernel
theorem d_M_doMeet_33 : decode m_M_doMeet.2.1 33 = .ok (.iload_n 2, 1) := by decide +kernel
theorem d_M_doMeet_34 : decode m_M_doMeet.2.1 34 = .ok (.invokevirtual 149, 3) := by decide +kernel
theorem d_M_doMeet_37 : decode m_M_doMeet.2.1 37 = .ok (.istore 8, 2) := by decide +kernel
theorem d_M_doMeet_39 : decode m_M_doMeet.2.1 39 = .ok (.iload 5, 2) := by decide +kernel
theorem d_M_doMeet_41 : decode m_M_doMeet.2.1 41 = .ok (.ifCond .ne 13, 3) := by decide +kernel
theorem d_M_doMeet_44 : decode m_M_doMeet.2.1 44 = .ok (.aload_n 0, 1) := by decide +kernel
theorem d_M_doMeet_45 : decode m_M_doMeet.2.1 45 = .ok (.iload_n 1, 1) := by decide +kernel
theorem d_M_doMeet_46 : decode m_M_doMeet.2.1 46 = .ok (.iload_n 2, 1) := by decide +kernel
theorem d_M_doMeet_47 : decode m_M_doMeet.2.1 47 = .ok (.iload_n 3, 1) := by decide +kernel
theorem d_M_doMeet_48 : decode m_M_doMeet.2.1 48 = .ok (.invokevirtual 152, 3) := by decide +kernel
theorem d_M_doMeet_51 : decode m_M_doMeet.2.1 51 = .ok (.ifCond .ne 51, 3) := by decide +kernel
theorem d_M_doMeet_54 : decode m_M_doMeet.2.1 54 = .ok (.iload 6, 2) := by decide +kernel
theorem d_M_doMeet_56 : decode m_M_doMeet.2.1 56 = .ok (.ifCond .ne 14, 3) := by decide +kernel
theorem d_M_doMeet_59 : decode m_M_doMeet.2.1 59 = .ok (.aload_n 0, 1) := by decide +kernel
theorem d_M_doMeet_60 : decode m_M_doMeet.2.1 60 = .ok (.iload_n 1, 1) := by decide +kernel
theorem d_M_doMeet_61 : decode m_M_doMeet.2.1 61 = .ok (.iload_n 2, 1) := by decide +kernel
theorem d_M_doMeet_62 : decode m_M_doMeet.2.1 62 = .ok (.iload 4, 2) := by decide +kernel
theorem d_M_doMeet_64 : decode m_M_doMeet.2.1 64 = .ok (.invokevirtual 152, 3) := by decide +kernel
theorem d_M_doMeet_67 : decode m_M_doMeet.2.1 67 = .ok (.ifCond .ne 35, 3) := by decide +kernel
theorem d_M_doMeet_70 : decode m_M_doMeet.2.1 70 = .ok (.iload 7, 2) := by decide +kernel
theorem d_M_doMeet_72 : decode m_M_doMeet.2.1 72 = .ok (.ifCond .ne 14, 3) := by decide +kernel
theorem d_M_doMeet_75 : decode m_M_doMeet.2.1 75 = .ok (.aload_n 0, 1) := by decide +kernel
theorem d_M_doMeet_76 : decode m_M_doMeet.2.1 76 = .ok (.iload_n 3, 1) := by decide +kernel
theorem d_M_doMeet_77 : decode m_M_doMeet.2.1 77 = .ok (.iload 4, 2) := by decide +kernel
theorem d_M_doMeet_79 : decode m_M_doMeet.2.1 79 = .ok (.iload_n 1, 1) := by decide +kernel
theorem d_M_doMeet_80 : decode m_M_doMeet.2.1 80 = .ok (.invokevirtual 152, 3) := by decide +kernel
theorem d_M_doMeet_83 : decode m_M_doMeet.2.1 83 = .ok (.ifCond .ne 19, 3) := by decide +kernel
theorem d_M_doMeet_86 : decode m_M_doMeet.2.1 86 = .ok (.iload 8, 2) := by decide +kernel
theorem d_M_doMeet_88 : decode m_M_doMeet.2.1 88 = .ok (.ifCond .ne 18, 3) := by decide +kernel
theorem d_M_doMeet_91 : decode m_M_doMeet.2.1 91 = .ok (.aload_n 0, 1) := by decide +kernel
theorem d_M_doMeet_92 : decode m_M_doMeet.2.1 92 = .ok (.iload_n 3, 1) := by decide +kernel
theorem d_M_doMeet_93 : decode m_M_doMeet.2.1 93 = .ok (.iload 4, 2) := by decide +kernel
theorem d_M_doMeet_95 : decode m_M_doMeet.2.1 95 = .ok (.iload_n 2, 1) := by decide +kernel
theorem d_M_doMeet_96 : decode m_M_doMeet.2.1 96 = .ok (.invokevirtual 152, 3) := by decide +kernel
theorem d_M_doMeet_99 : decode m_M_doMeet.2.1 99 = .ok (.ifCond .eq 7, 3) := by decide +kernel
theorem d_M_doMeet_102 : decode m_M_doMeet.2.1 102 = .ok (.iconst 1, 1) := by decide +kernel
theorem d_M_doMeet_103 : decode m_M_doMeet.2.1 103 = .ok (.goto 4, 3) := by decide +kernel
theorem d_M_doMeet_106 : decode m_M_doMeet.2.1 106 = .ok (.iconst 0, 1) := by decide +kernel
theorem d_M_doMeet_107 : decode m_M_doMeet.2.1 107 = .ok (.istore 9, 2) := by decide +kernel
theorem d_M_doMeet_109 : decode m_M_doMeet.2.1 109 = .ok (.iload 9, 2) := by decide +kernel
theorem d_M_doMeet_111 : decode m_M_doMeet.2.1 111 = .ok (.ifCond .ne 19, 3) := by decide +kernel
theorem d_M_doMeet_114 : decode m_M_doMeet.2.1 114 = .ok (.iload 5, 2) := by decide +kernel
theorem d_M_doMeet_116 : decode m_M_doMeet.2.1 116 = .ok (.iload 6, 2) := by decide +kernel
theorem d_M_doMeet_118 : decode m_M_doMeet.2.1 118 = .ok (.imul, 1) := by decide +kernel
theorem d_M_doMeet_119 : decode m_M_doMeet.2.1 119 = .ok (.ifCond .ge 15, 3) := by decide +kernel
theorem d_M_doMeet_122 : decode m_M_doMeet.2.1 122 = .ok (.iload 7, 2) := by decide +kernel
theorem d_M_doMeet_124 : decode m_M_doMeet.2.1 124 = .ok (.iload 8, 2) := by decide +kernel
theorem d_M_doMeet_126 : decode m_M_doMeet.2.1 126 = .ok (.imul, 1) := by decide +kernel
theorem d_M_doMeet_127 : decode m_M_doMeet.2.1 127 = .ok (.ifCond .ge 7, 3) := by decide +kernel
theorem d_M_doMeet_130 : decode m_M_doMeet.2.1 130 = .ok (.iconst 1, 1) := by decide +kernel
theorem d_M_doMeet_131 : decode m_M_doMeet.2.1 131 = .ok (.goto 4, 3) := by decide +kernel
theorem d_M_doMeet_134 : decode m_M_doMeet.2.1 134 = .ok (.iconst 0, 1) := by decide +kernel
theorem d_M_doMeet_135 : decode m_M_doMeet.2.1 135 = .ok (.ireturn, 1) := by decide +kernel
set_option maxHeartbeats 4000000 in
set_option maxRecDepth 20000 in
theorem c_M_doMeet (G : Gt) (x1 : Int32) (x2 : Int32) (x3 : Int32) (x4 : Int32) (h : Hp) : Cn G m_M_doMeet [.ref (ad G 31), .int x1, .int x2, .int x3, .int x4] h κi (f_M_doMeet x1 x2 x3 x4 h) := by
  refine entryV (by decide) (Nat.le_of_ble_eq_true rfl) rfl ?_
  show V G m_M_doMeet 0 [(0, .ref (ad G 31)), (1, .int x1), (2, .int x2), (3, .int x3), (4, .int x4)] [] h κi _
  unfold f_M_doMeet
  refine v_aload_n 0 d_M_doMeet_0 rfl rfl ?_
  refine v_iload_n 1 d_M_doMeet_1 rfl rfl ?_
  refine v_iload_n 2 d_M_doMeet_2 rfl rfl ?_
  refine v_iload_n 3 d_M_doMeet_3 rfl rfl ?_
  refine v_callVi (As := [.int x1, .int x2, .int x3]) (rest := []) (c_M_hand G x1 x2 x3 h) co_M_149 io_M_hand o_31 ⟨by decide, by decide⟩ rfl rfl (Nat.le_of_ble_eq_true rfl) d_M_doMeet_4 (fun r1 h1 _ => ?_)
  refine v_istore [(5, .int r1), (0, .ref (ad G 31)), (1, .int x1), (2, .int x2), (3, .int x3), (4, .int x4)] d_M_doMeet_7 (by decide) rfl ?_
  refine v_aload_n 1 d_M_doMeet_9 rfl rfl ?_
  refine v_iload_n 2 d_M_doMeet_10 rfl rfl ?_
  refine v_iload_n 3 d_M_doMeet_11 rfl rfl ?_
  refine v_iload 5 d_M_doMeet_12 rfl ?_
  refine v_callVi (As := [.int x1, .int x2, .int x4]) (rest := []) (c_M_hand G x1 x2 x4 h1) co_M_149 io_M_hand o_31 ⟨by decide, by decide⟩ rfl rfl (Nat.le_of_ble_eq_true rfl) d_M_doMeet_14 (fun r2 h2 _ => ?_)
  refine v_istore [(6, .int r2), (5, .int r1), (0, .ref (ad G 31)), (1, .int x1), (2, .int x2), (3, .int x3), (4, .int x4)] d_M_doMeet_17 (by decide) rfl ?_
  refine v_aload_n 2 d_M_doMeet_19 rfl rfl ?_
  refine v_iload_n 5 d_M_doMeet_20 rfl rfl ?_
  refine v_iload 6 d_M_doMeet_21 rfl ?_
  refine v_iload_n 3 d_M_doMeet_23 rfl rfl ?_
  refine v_callVi (As := [.int x3, .int x4, .int x1]) (rest := []) (c_M_hand G x3 x4 x1 h2) co_M_149 io_M_hand o_31 ⟨by decide, by decide⟩ rfl rfl (Nat.le_of_ble_eq_true rfl) d_M_doMeet_24 (fun r3 h3 _ => ?_)
  refine v_istore [(7, .int r3), (6, .int r2), (5, .int r1), (0, .ref (ad G 31)), (1, .int x1), (2, .int x2), (3, .int x3), (4, .int x4)] d_M_doMeet_27 (by decide) rfl ?_
  refine v_aload_n 3 d_M_doMeet_29 rfl rfl ?_
  refine v_iload_n 6 d_M_doMeet_30 rfl rfl ?_
  refine v_iload 7 d_M_doMeet_31 rfl ?_
  refine v_iload_n 5 d_M_doMeet_33 rfl rfl ?_
  refine v_callVi (As := [.int x3, .int x4, .int x2]) (rest := []) (c_M_hand G x3 x4 x2 h3) co_M_149 io_M_hand o_31 ⟨by decide, by decide⟩ rfl rfl (Nat.le_of_ble_eq_true rfl) d_M_doMeet_34 (fun r4 h4 _ => ?_)
  refine v_istore [(8, .int r4), (7, .int r3), (6, .int r2), (5, .int r1), (0, .ref (ad G 31)), (1, .int x1), (2, .int x2), (3, .int x3), (4, .int x4)] d_M_doMeet_37 (by decide) rfl ?_
  refine v_iload 3 d_M_doMeet_39 rfl ?_
  refine v_if_ne 54 d_M_doMeet_41 (by decide) (fun c5 => ?_) (fun c5 => ?_)
  · refine v_aload_n 4 d_M_doMeet_44 rfl rfl ?_
    refine v_iload_n 5 d_M_doMeet_45 rfl rfl ?_
    refine v_iload_n 6 d_M_doMeet_46 rfl rfl ?_
    refine v_iload_n 7 d_M_doMeet_47 rfl rfl ?_
    refine v_callVi (As := [.int x1, .int x2, .int x3]) (rest := []) (c_M_isBetween G x1 x2 x3 h4) co_M_152 io_M_isBetween o_31 ⟨by decide, by decide⟩ rfl rfl (Nat.le_of_ble_eq_true rfl) d_M_doMeet_48 (fun r6 h6 _ => ?_)
    refine v_if_ne 102 d_M_doMeet_51 (by decide) (fun c7 => ?_) (fun c7 => ?_)
    · refine v_iload 2 d_M_doMeet_54 rfl ?_
      refine v_if_ne 70 d_M_doMeet_56 (by decide) (fun c8 => ?_) (fun c8 => ?_)
      · refine v_aload_n 4 d_M_doMeet_59 rfl rfl ?_
        refine v_iload_n 5 d_M_doMeet_60 rfl rfl ?_
        refine v_iload_n 6 d_M_doMeet_61 rfl rfl ?_
        refine v_iload 8 d_M_doMeet_62 rfl ?_
        refine v_callVi (As := [.int x1, .int x2, .int x4]) (rest := []) (c_M_isBetween G x1 x2 x4 h6) co_M_152 io_M_isBetween o_31 ⟨by decide, by decide⟩ rfl rfl (Nat.le_of_ble_eq_true rfl) d_M_doMeet_64 (fun r9 h9 _ => ?_)
        refine v_if_ne 102 d_M_doMeet_67 (by decide) (fun c10 => ?_) (fun c10 => ?_)
        · refine v_iload 1 d_M_doMeet_70 rfl ?_
          refine v_if_ne 86 d_M_doMeet_72 (by decide) (fun c11 => ?_) (fun c11 => ?_)
          · refine v_aload_n 4 d_M_doMeet_75 rfl rfl ?_
            refine v_iload_n 7 d_M_doMeet_76 rfl rfl ?_
            refine v_iload 8 d_M_doMeet_77 rfl ?_
            refine v_iload_n 5 d_M_doMeet_79 rfl rfl ?_
            refine v_callVi (As := [.int x3, .int x4, .int x1]) (rest := []) (c_M_isBetween G x3 x4 x1 h9) co_M_152 io_M_isBetween o_31 ⟨by decide, by decide⟩ rfl rfl (Nat.le_of_ble_eq_true rfl) d_M_doMeet_80 (fun r12 h12 _ => ?_)
            refine v_if_ne 102 d_M_doMeet_83 (by decide) (fun c13 => ?_) (fun c13 => ?_)
            · refine v_iload 0 d_M_doMeet_86 rfl ?_
              refine v_if_ne 106 d_M_doMeet_88 (by decide) (fun c14 => ?_) (fun c14 => ?_)
              · refine v_aload_n 4 d_M_doMeet_91 rfl rfl ?_
                refine v_iload_n 7 d_M_doMeet_92 rfl rfl ?_
                refine v_iload 8 d_M_doMeet_93 rfl ?_
                refine v_iload_n 6 d_M_doMeet_95 rfl rfl ?_
                refine v_callVi (As := [.int x3, .int x4, .int x2]) (rest := []) (c_M_isBetween G x3 x4 x2 h12) co_M_152 io_M_isBetween o_31 ⟨by decide, by decide⟩ rfl rfl (Nat.le_of_ble_eq_true rfl) d_M_doMeet_96 (fun r15 h15 _ => ?_)
                refine v_if_eq 106 d_M_doMeet_99 (by decide) (fun c16 => ?_) (fun c16 => ?_)
                · refine v_iconst 0 d_M_doMeet_106 rfl ?_
                  refine v_istore [(9, .int 0), (8, .int r4), (7, .int r3), (6, .int r2), (5, .int r1), (0, .ref (ad G 31)), (1, .int x1), (2, .int x2), (3, .int x3), (4, .int x4)] d_M_doMeet_107 (by decide) rfl ?_
                  refine v_iload 0 d_M_doMeet_109 rfl ?_
                  refine v_if_ne_t 130 d_M_doMeet_111 (by decide) (by decide) ?_
                  refine v_iload 4 d_M_doMeet_114 rfl ?_
                  refine v_iload 3 d_M_doMeet_116 rfl ?_
                  refine v_imul d_M_doMeet_118 ?_
                  refine v_if_ge 134 d_M_doMeet_119 (by decide) (fun c17 => ?_) (fun c17 => ?_)
                  · refine v_iconst 0 d_M_doMeet_134 rfl ?_
                    exact v_zretL rfl rfl d_M_doMeet_135
                  · refine v_iload 2 d_M_doMeet_122 rfl ?_
                    refine v_iload 1 d_M_doMeet_124 rfl ?_
                    refine v_imul d_M_doMeet_126 ?_
                    refine v_if_ge 134 d_M_doMeet_127 (by decide) (fun c18 => ?_) (fun c18 => ?_)
                    · refine v_iconst 0 d_M_doMeet_134 rfl ?_
                      exact v_zretL rfl rfl d_M_doMeet_135
                    · refine v_iconst 1 d_M_doMeet_130 rfl ?_
                      refine v_goto 135 d_M_doMeet_131 (by decide) ?_
                      exact v_zretL rfl rfl d_M_doMeet_135
                · refine v_iconst 1 d_M_doMeet_102 rfl ?_
                  refine v_goto 107 d_M_doMeet_103 (by decide) ?_
                  refine v_istore [(9, .int 1), (8, .int r4), (7, .int r3), (6, .int r2), (5, .int r1), (0, .ref (ad G 31)), (1, .int x1), (2, .int x2), (3, .int x3), (4, .int x4)] d_M_doMeet_107 (by decide) rfl ?_
                  refine v_iload 0 d_M_doMeet_109 rfl ?_
                  refine v_if_ne_f 130 d_M_doMeet_111 (by decide) (by decide) ?_
                  refine v_iconst 1 d_M_doMeet_130 rfl ?_
                  refine v_goto 135 d_M_doMeet_131 (by decide) ?_
                  exact v_zretL rfl rfl d_M_doMeet_135
              · refine v_iconst 0 d_M_doMeet_106 rfl ?_
                refine v_istore [(9, .int 0), (8, .int r4), (7, .int r3), (6, .int r2), (5, .int r1), (0, .ref (ad G 31)), (1, .int x1), (2, .int x2), (3, .int x3), (4, .int x4)] d_M_doMeet_107 (by decide) rfl ?_
                refine v_iload 0 d_M_doMeet_109 rfl ?_
                refine v_if_ne_t 130 d_M_doMeet_111 (by decide) (by decide) ?_
                refine v_iload 4 d_M_doMeet_114 rfl ?_
                refine v_iload 3 d_M_doMeet_116 rfl ?_
                refine v_imul d_M_doMeet_118 ?_
                refine v_if_ge 134 d_M_doMeet_119 (by decide) (fun c19 => ?_) (fun c19 => ?_)
                · refine v_iconst 0 d_M_doMeet_134 rfl ?_
                  exact v_zretL rfl rfl d_M_doMeet_135
                · refine v_iload 2 d_M_doMeet_122 rfl ?_
                  refine v_iload 1 d_M_doMeet_124 rfl ?_
                  refine v_imul d_M_doMeet_126 ?_
                  refine v_if_ge 134 d_M_doMeet_127 (by decide) (fun c20 => ?_) (fun c20 => ?_)
                  · refine v_iconst 0 d_M_doMeet_134 rfl ?_
                    exact v_zretL rfl rfl d_M_doMeet_135
                  · refine v_iconst 1 d_M_doMeet_130 rfl ?_
                    refine v_goto 135 d_M_doMeet_131 (by decide) ?_
                    exact v_zretL rfl rfl d_M_doMeet_135
            · refine v_iconst 1 d_M_doMeet_102 rfl ?_
              refine v_goto 107 d_M_doMeet_103 (by decide) ?_
              refine v_istore [(9, .int 1), (8, .int r4), (7, .int r3), (6, .int r2), (5, .int r1), (0, .ref (ad G 31)), (1, .int x1), (2, .int x2), (3, .int x3), (4, .int x4)] d_M_doMeet_107 (by decide) rfl ?_
              refine v_iload 0 d_M_doMeet_109 rfl ?_
              refine v_if_ne_f 130 d_M_doMeet_111 (by decide) (by decide) ?_
              refine v_iconst 1 d_M_doMeet_130 rfl ?_
              refine v_goto 135 d_M_doMeet_131 (by decide) ?_
              exact v_zretL rfl rfl d_M_doMeet_135
          · refine v_iload 0 d_M_doMeet_86 rfl ?_
            refine v_if_ne 106 d_M_doMeet_88 (by decide) (fun c21 => ?_) (fun c21 => ?_)
            · refine v_aload_n 4 d_M_doMeet_91 rfl rfl ?_
              refine v_iload_n 7 d_M_doMeet_92 rfl rfl ?_
              refine v_iload 8 d_M_doMeet_93 rfl ?_
              refine v_iload_n 6 d_M_doMeet_95 rfl rfl ?_
              refine v_callVi (As := [.int x3, .int x4, .int x2]) (rest := []) (c_M_isBetween G x3 x4 x2 h9) co_M_152 io_M_isBetween o_31 ⟨by decide, by decide⟩ rfl rfl (Nat.le_of_ble_eq_true rfl) d_M_doMeet_96 (fun r22 h22 _ => ?_)
              refine v_if_eq 106 d_M_doMeet_99 (by decide) (fun c23 => ?_) (fun c23 => ?_)
              · refine v_iconst 0 d_M_doMeet_106 rfl ?_
                refine v_istore [(9, .int 0), (8, .int r4), (7, .int r3), (6, .int r2), (5, .int r1), (0, .ref (ad G 31)), (1, .int x1), (2, .int x2), (3, .int x3), (4, .int x4)] d_M_doMeet_107 (by decide) rfl ?_
                refine v_iload 0 d_M_doMeet_109 rfl ?_
                refine v_if_ne_t 130 d_M_doMeet_111 (by decide) (by decide) ?_
                refine v_iload 4 d_M_doMeet_114 rfl ?_
                refine v_iload 3 d_M_doMeet_116 rfl ?_
                refine v_imul d_M_doMeet_118 ?_
                refine v_if_ge 134 d_M_doMeet_119 (by decide) (fun c24 => ?_) (fun c24 => ?_)
                · refine v_iconst 0 d_M_doMeet_134 rfl ?_
                  exact v_zretL rfl rfl d_M_doMeet_135
                · refine v_iload 2 d_M_doMeet_122 rfl ?_
                  refine v_iload 1 d_M_doMeet_124 rfl ?_
                  refine v_imul d_M_doMeet_126 ?_
                  refine v_if_ge 134 d_M_doMeet_127 (by decide) (fun c25 => ?_) (fun c25 => ?_)
                  · refine v_iconst 0 d_M_doMeet_134 rfl ?_
                    exact v_zretL rfl rfl d_M_doMeet_135
                  · refine v_iconst 1 d_M_doMeet_130 rfl ?_
                    refine v_goto 135 d_M_doMeet_131 (by decide) ?_
                    exact v_zretL rfl rfl d_M_doMeet_135
              · refine v_iconst 1 d_M_doMeet_102 rfl ?_
                refine v_goto 107 d_M_doMeet_103 (by decide) ?_
                refine v_istore [(9, .int 1), (8, .int r4), (7, .int r3), (6, .int r2), (5, .int r1), (0, .ref (ad G 31)), (1, .int x1), (2, .int x2), (3, .int x3), (4, .int x4)] d_M_doMeet_107 (by decide) rfl ?_
                refine v_iload 0 d_M_doMeet_109 rfl ?_
                refine v_if_ne_f 130 d_M_doMeet_111 (by decide) (by decide) ?_
                refine v_iconst 1 d_M_doMeet_130 rfl ?_
                refine v_goto 135 d_M_doMeet_131 (by decide) ?_
                exact v_zretL rfl rfl d_M_doMeet_135
            · refine v_iconst 0 d_M_doMeet_106 rfl ?_
              refine v_istore [(9, .int 0), (8, .int r4), (7, .int r3), (6, .int r2), (5, .int r1), (0, .ref (ad G 31)), (1, .int x1), (2, .int x2), (3, .int x3), (4, .int x4)] d_M_doMeet_107 (by decide) rfl ?_
              refine v_iload 0 d_M_doMeet_109 rfl ?_
              refine v_if_ne_t 130 d_M_doMeet_111 (by decide) (by decide) ?_
              refine v_iload 4 d_M_doMeet_114 rfl ?_
              refine v_iload 3 d_M_doMeet_116 rfl ?_
              refine v_imul d_M_doMeet_118 ?_
              refine v_if_ge 134 d_M_doMeet_119 (by decide) (fun c26 => ?_) (fun c26 => ?_)
              · refine v_iconst 0 d_M_doMeet_134 rfl ?_
                exact v_zretL rfl rfl d_M_doMeet_135
              · refine v_iload 2 d_M_doMeet_122 rfl ?_
                refine v_iload 1 d_M_doMeet_124 rfl ?_
                refine v_imul d_M_doMeet_126 ?_
                refine v_if_ge 134 d_M_doMeet_127 (by decide) (fun c27 => ?_) (fun c27 => ?_)
                · refine v_iconst 0 d_M_doMeet_134 rfl ?_
                  exact v_zretL rfl rfl d_M_doMeet_135
                · refine v_iconst 1 d_M_doMeet_130 rfl ?_
                  refine v_goto 135 d_M_doMeet_131 (by decide) ?_
                  exact v_zretL rfl rfl d_M_doMeet_135
        · refine v_iconst 1 d_M_doMeet_102 rfl ?_
          refine v_goto 107 d_M_doMeet_103 (by decide) ?_
          refine v_istore [(9, .int 1), (8, .int r4), (7, .int r3), (6, .int r2), (5, .int r1), (0, .ref (ad G 31)), (1, .int x1), (2, .int x2), (3, .int x3), (4, .int x4)] d_M_doMeet_107 (by decide) rfl ?_
          refine v_iload 0 d_M_doMeet_109 rfl ?_
          refine v_if_ne_f 130 d_M_doMeet_111 (by decide) (by decide) ?_
          refine v_iconst 1 d_M_doMeet_130 rfl ?_
          refine v_goto 135 d_M_doMeet_131 (by decide) ?_
          exact v_zretL rfl rfl d_M_doMeet_135
      · refine v_iload 1 d_M_doMeet_70 rfl ?_
        refine v_if_ne 86 d_M_doMeet_72 (by decide) (fun c28 => ?_) (fun c28 => ?_)
        · refine v_aload_n 4 d_M_doMeet_75 rfl rfl ?_
          refine v_iload_n 7 d_M_doMeet_76 rfl rfl ?_
          refine v_iload 8 d_M_doMeet_77 rfl ?_
          refine v_iload_n 5 d_M_doMeet_79 rfl rfl ?_
          refine v_callVi (As := [.int x3, .int x4, .int x1]) (rest := []) (c_M_isBetween G x3 x4 x1 h6) co_M_152 io_M_isBetween o_31 ⟨by decide, by decide⟩ rfl rfl (Nat.le_of_ble_eq_true rfl) d_M_doMeet_80 (fun r29 h29 _ => ?_)
          refine v_if_ne 102 d_M_doMeet_83 (by decide) (fun c30 => ?_) (fun c30 => ?_)
          · refine v_iload 0 d_M_doMeet_86 rfl ?_
            refine v_if_ne 106 d_M_doMeet_88 (by decide) (fun c31 => ?_) (fun c31 => ?_)
            · refine v_aload_n 4 d_M_doMeet_91 rfl rfl ?_
              refine v_iload_n 7 d_M_doMeet_92 rfl rfl ?_
              refine v_iload 8 d_M_doMeet_93 rfl ?_
              refine v_iload_n 6 d_M_doMeet_95 rfl rfl ?_
              refine v_callVi (As := [.int x3, .int x4, .int x2]) (rest := []) (c_M_isBetween G x3 x4 x2 h29) co_M_152 io_M_isBetween o_31 ⟨by decide, by decide⟩ rfl rfl (Nat.le_of_ble_eq_true rfl) d_M_doMeet_96 (fun r32 h32 _ => ?_)
              refine v_if_eq 106 d_M_doMeet_99 (by decide) (fun c33 => ?_) (fun c33 => ?_)
              · refine v_iconst 0 d_M_doMeet_106 rfl ?_
                refine v_istore [(9, .int 0), (8, .int r4), (7, .int r3), (6, .int r2), (5, .int r1), (0, .ref (ad G 31)), (1, .int x1), (2, .int x2), (3, .int x3), (4, .int x4)] d_M_doMeet_107 (by decide) rfl ?_
                refine v_iload 0 d_M_doMeet_109 rfl ?_
                refine v_if_ne_t 130 d_M_doMeet_111 (by decide) (by decide) ?_
                refine v_iload 4 d_M_doMeet_114 rfl ?_
                refine v_iload 3 d_M_doMeet_116 rfl ?_
                refine v_imul d_M_doMeet_118 ?_
                refine v_if_ge 134 d_M_doMeet_119 (by decide) (fun c34 => ?_) (fun c34 => ?_)
                · refine v_iconst 0 d_M_doMeet_134 rfl ?_
                  exact v_zretL rfl rfl d_M_doMeet_135
                · refine v_iload 2 d_M_doMeet_122 rfl ?_
                  refine v_iload 1 d_M_doMeet_124 rfl ?_
                  refine v_imul d_M_doMeet_126 ?_
                  refine v_if_ge 134 d_M_doMeet_127 (by decide) (fun c35 => ?_) (fun c35 => ?_)
                  · refine v_iconst 0 d_M_doMeet_134 rfl ?_
                    exact v_zretL rfl rfl d_M_doMeet_135
                  · refine v_iconst 1 d_M_doMeet_130 rfl ?_
                    refine v_goto 135 d_M_doMeet_131 (by decide) ?_
                    exact v_zretL rfl rfl d_M_doMeet_135
              · refine v_iconst 1 d_M_doMeet_102 rfl ?_
                refine v_goto 107 d_M_doMeet_103 (by decide) ?_
                refine v_istore [(9, .int 1), (8, .int r4), (7, .int r3), (6, .int r2), (5, .int r1), (0, .ref (ad G 31)), (1, .int x1), (2, .int x2), (3, .int x3), (4, .int x4)] d_M_doMeet_107 (by decide) rfl ?_
                refine v_iload 0 d_M_doMeet_109 rfl ?_
                refine v_if_ne_f 130 d_M_doMeet_111 (by decide) (by decide) ?_
                refine v_iconst 1 d_M_doMeet_130 rfl ?_
                refine v_goto 135 d_M_doMeet_131 (by decide) ?_
                exact v_zretL rfl rfl d_M_doMeet_135
            · refine v_iconst 0 d_M_doMeet_106 rfl ?_
              refine v_istore [(9, .int 0), (8, .int r4), (7, .int r3), (6, .int r2), (5, .int r1), (0, .ref (ad G 31)), (1, .int x1), (2, .int x2), (3, .int x3), (4, .int x4)] d_M_doMeet_107 (by decide) rfl ?_
              refine v_iload 0 d_M_doMeet_109 rfl ?_
              refine v_if_ne_t 130 d_M_doMeet_111 (by decide) (by decide) ?_
              refine v_iload 4 d_M_doMeet_114 rfl ?_
              refine v_iload 3 d_M_doMeet_116 rfl ?_
              refine v_imul d_M_doMeet_118 ?_
              refine v_if_ge 134 d_M_doMeet_119 (by decide) (fun c36 => ?_) (fun c36 => ?_)
              · refine v_iconst 0 d_M_doMeet_134 rfl ?_
                exact v_zretL rfl rfl d_M_doMeet_135
              · refine v_iload 2 d_M_doMeet_122 rfl ?_
                refine v_iload 1 d_M_doMeet_124 rfl ?_
                refine v_imul d_M_doMeet_126 ?_
                refine v_if_ge 134 d_M_doMeet_127 (by decide) (fun c37 => ?_) (fun c37 => ?_)
                · refine v_iconst 0 d_M_doMeet_134 rfl ?_
                  exact v_zretL rfl rfl d_M_doMeet_135
                · refine v_iconst 1 d_M_doMeet_130 rfl ?_
                  refine v_goto 135 d_M_doMeet_131 (by decide) ?_
                  exact v_zretL rfl rfl d_M_doMeet_135
          · refine v_iconst 1 d_M_doMeet_102 rfl ?_
            refine v_goto 107 d_M_doMeet_103 (by decide) ?_
            refine v_istore [(9, .int 1), (8, .int r4), (7, .int r3), (6, .int r2), (5, .int r1), (0, .ref (ad G 31)), (1, .int x1), (2, .int x2), (3, .int x3), (4, .int x4)] d_M_doMeet_107 (by decide) rfl ?_
            refine v_iload 0 d_M_doMeet_109 rfl ?_
            refine v_if_ne_f 130 d_M_doMeet_111 (by decide) (by decide) ?_
            refine v_iconst 1 d_M_doMeet_130 rfl ?_
            refine v_goto 135 d_M_doMeet_131 (by decide) ?_
            exact v_zretL rfl rfl d_M_doMeet_135
        · refine v_iload 0 d_M_doMeet_86 rfl ?_
          refine v_if_ne 106 d_M_doMeet_88 (by decide) (fun c38 => ?_) (fun c38 => ?_)
          · refine v_aload_n 4 d_M_doMeet_91 rfl rfl ?_
            refine v_iload_n 7 d_M_doMeet_92 rfl rfl ?_
            refine v_iload 8 d_M_doMeet_93 rfl ?_
            refine v_iload_n 6 d_M_doMeet_95 rfl rfl ?_
            refine v_callVi (As := [.int x3, .int x4, .int x2]) (rest := []) (c_M_isBetween G x3 x4 x2 h6) co_M_152 io_M_isBetween o_31 ⟨by decide, by decide⟩ rfl rfl (Nat.le_of_ble_eq_true rfl) d_M_doMeet_96 (fun r39 h39 _ => ?_)
            refine v_if_eq 106 d_M_doMeet_99 (by decide) (fun c40 => ?_) (fun c40 => ?_)
            · refine v_iconst 0 d_M_doMeet_106 rfl ?_
              refine v_istore [(9, .int 0), (8, .int r4), (7, .int r3), (6, .int r2), (5, .int r1), (0, .ref (ad G 31)), (1, .int x1), (2, .int x2), (3, .int x3), (4, .int x4)] d_M_doMeet_107 (by decide) rfl ?_
              refine v_iload 0 d_M_doMeet_109 rfl ?_
              refine v_if_ne_t 130 d_M_doMeet_111 (by decide) (by decide) ?_
              refine v_iload 4 d_M_doMeet_114 rfl ?_
              refine v_iload 3 d_M_doMeet_116 rfl ?_
              refine v_imul d_M_doMeet_118 ?_
              refine v_if_ge 134 d_M_doMeet_119 (by decide) (fun c41 => ?_) (fun c41 => ?_)
              · refine v_iconst 0 d_M_doMeet_134 rfl ?_
                exact v_zretL rfl rfl d_M_doMeet_135
              · refine v_iload 2 d_M_doMeet_122 rfl ?_
                refine v_iload 1 d_M_doMeet_124 rfl ?_
                refine v_imul d_M_doMeet_126 ?_
                refine v_if_ge 134 d_M_doMeet_127 (by decide) (fun c42 => ?_) (fun c42 => ?_)
                · refine v_iconst 0 d_M_doMeet_134 rfl ?_
                  exact v_zretL rfl rfl d_M_doMeet_135
                · refine v_iconst 1 d_M_doMeet_130 rfl ?_
                  refine v_goto 135 d_M_doMeet_131 (by decide) ?_
                  exact v_zretL rfl rfl d_M_doMeet_135
            · refine v_iconst 1 d_M_doMeet_102 rfl ?_
              refine v_goto 107 d_M_doMeet_103 (by decide) ?_
              refine v_istore [(9, .int 1), (8, .int r4), (7, .int r3), (6, .int r2), (5, .int r1), (0, .ref (ad G 31)), (1, .int x1), (2, .int x2), (3, .int x3), (4, .int x4)] d_M_doMeet_107 (by decide) rfl ?_
              refine v_iload 0 d_M_doMeet_109 rfl ?_
              refine v_if_ne_f 130 d_M_doMeet_111 (by decide) (by decide) ?_
              refine v_iconst 1 d_M_doMeet_130 rfl ?_
              refine v_goto 135 d_M_doMeet_131 (by decide) ?_
              exact v_zretL rfl rfl d_M_doMeet_135
          · refine v_iconst 0 d_M_doMeet_106 rfl ?_
            refine v_istore [(9, .int 0), (8, .int r4), (7, .int r3), (6, .int r2), (5, .int r1), (0, .ref (ad G 31)), (1, .int x1), (2, .int x2), (3, .int x3), (4, .int x4)] d_M_doMeet_107 (by decide) rfl ?_
            refine v_iload 0 d_M_doMeet_109 rfl ?_
            refine v_if_ne_t 130 d_M_doMeet_111 (by decide) (by decide) ?_
            refine v_iload 4 d_M_doMeet_114 rfl ?_
            refine v_iload 3 d_M_doMeet_116 rfl ?_
            refine v_imul d_M_doMeet_118 ?_
            refine v_if_ge 134 d_M_doMeet_119 (by decide) (fun c43 => ?_) (fun c43 => ?_)
            · refine v_iconst 0 d_M_doMeet_134 rfl ?_
              exact v_zretL rfl rfl d_M_doMeet_135
            · refine v_iload 2 d_M_doMeet_122 rfl ?_
              refine v_iload 1 d_M_doMeet_124 rfl ?_
              refine v_imul d_M_doMeet_126 ?_
              refine v_if_ge 134 d_M_doMeet_127 (by decide) (fun c44 => ?_) (fun c44 => ?_)
              · refine v_iconst 0 d_M_doMeet_134 rfl ?_
                exact v_zretL rfl rfl d_M_doMeet_135
              · refine v_iconst 1 d_M_doMeet_130 rfl ?_
                refine v_goto 135 d_M_doMeet_131 (by decide) ?_
                exact v_zretL rfl rfl d_M_doMeet_135
    · refine v_iconst 1 d_M_doMeet_102 rfl ?_
      refine v_goto 107 d_M_doMeet_103 (by decide) ?_
      refine v_istore [(9, .int 1), (8, .int r4), (7, .int r3), (6, .int r2), (5, .int r1), (0, .ref (ad G 31)), (1, .int x1), (2, .int x2), (3, .int x3), (4, .int x4)] d_M_doMeet_107 (by decide) rfl ?_
      refine v_iload 0 d_M_doMeet_109 rfl ?_
      refine v_if_ne_f 130 d_M_doMeet_111 (by decide) (by decide) ?_
      refine v_iconst 1 d_M_doMeet_130 rfl ?_
      refine v_goto 135 d_M_doMeet_131 (by decide) ?_
      exact v_zretL rfl rfl d_M_doMeet_135
  · refine v_iload 2 d_M_doMeet_54 rfl ?_
    refine v_if_ne 70 d_M_doMeet_56 (by decide) (fun c45 => ?_) (fun c45 => ?_)
    · refine v_aload_n 4 d_M_doMeet_59 rfl rfl ?_
      refine v_iload_n 5 d_M_doMeet_60 rfl rfl ?_
      refine v_iload_n 6 d_M_doMeet_61 rfl rfl ?_
      refine v_iload 8 d_M_doMeet_62 rfl ?_
      refine v_callVi (As := [.int x1, .int x2, .int x4]) (rest := []) (c_M_isBetween G x1 x2 x4 h4) co_M_152 io_M_isBetween o_31 ⟨by decide, by decide⟩ rfl rfl (Nat.le_of_ble_eq_true rfl) d_M_doMeet_64 (fun r46 h46 _ => ?_)
      refine v_if_ne 102 d_M_doMeet_67 (by decide) (fun c47 => ?_) (fun c47 => ?_)
      · refine v_iload 1 d_M_doMeet_70 rfl ?_
        refine v_if_ne 86 d_M_doMeet_72 (by decide) (fun c48 => ?_) (fun c48 => ?_)
        · refine v_aload_n 4 d_M_doMeet_75 rfl rfl ?_
          refine v_iload_n 7 d_M_doMeet_76 rfl rfl ?_
          refine v_iload 8 d_M_doMeet_77 rfl ?_
          refine v_iload_n 5 d_M_doMeet_79 rfl rfl ?_
          refine v_callVi (As := [.int x3, .int x4, .int x1]) (rest := []) (c_M_isBetween G x3 x4 x1 h46) co_M_152 io_M_isBetween o_31 ⟨by decide, by decide⟩ rfl rfl (Nat.le_of_ble_eq_true rfl) d_M_doMeet_80 (fun r49 h49 _ => ?_)
          refine v_if_ne 102 d_M_doMeet_83 (by decide) (fun c50 => ?_) (fun c50 => ?_)
          · refine v_iload 0 d_M_doMeet_86 rfl ?_
            refine v_if_ne 106 d_M_doMeet_88 (by decide) (fun c51 => ?_) (fun c51 => ?_)
            · refine v_aload_n 4 d_M_doMeet_91 rfl rfl ?_
              refine v_iload_n 7 d_M_doMeet_92 rfl rfl ?_
              refine v_iload 8 d_M_doMeet_93 rfl ?_
              refine v_iload_n 6 d_M_doMeet_95 rfl rfl ?_
              refine v_callVi (As := [.int x3, .int x4, .int x2]) (rest := []) (c_M_isBetween G x3 x4 x2 h49) co_M_152 io_M_isBetween o_31 ⟨by decide, by decide⟩ rfl rfl (Nat.le_of_ble_eq_true rfl) d_M_doMeet_96 (fun r52 h52 _ => ?_)
              refine v_if_eq 106 d_M_doMeet_99 (by decide) (fun c53 => ?_) (fun c53 => ?_)
              · refine v_iconst 0 d_M_doMeet_106 rfl ?_
                refine v_istore [(9, .int 0), (8, .int r4), (7, .int r3), (6, .int r2), (5, .int r1), (0, .ref (ad G 31)), (1, .int x1), (2, .int x2), (3, .int x3), (4, .int x4)] d_M_doMeet_107 (by decide) rfl ?_
                refine v_iload 0 d_M_doMeet_109 rfl ?_
                refine v_if_ne_t 130 d_M_doMeet_111 (by decide) (by decide) ?_
                refine v_iload 4 d_M_doMeet_114 rfl ?_
                refine v_iload 3 d_M_doMeet_116 rfl ?_
                refine v_imul d_M_doMeet_118 ?_
                refine v_if_ge 134 d_M_doMeet_119 (by decide) (fun c54 => ?_) (fun c54 => ?_)
                · refine v_iconst 0 d_M_doMeet_134 rfl ?_
                  exact v_zretL rfl rfl d_M_doMeet_135
                · refine v_iload 2 d_M_doMeet_122 rfl ?_
                  refine v_iload 1 d_M_doMeet_124 rfl ?_
                  refine v_imul d_M_doMeet_126 ?_
                  refine v_if_ge 134 d_M_doMeet_127 (by decide) (fun c55 => ?_) (fun c55 => ?_)
                  · refine v_iconst 0 d_M_doMeet_134 rfl ?_
                    exact v_zretL rfl rfl d_M_doMeet_135
                  · refine v_iconst 1 d_M_doMeet_130 rfl ?_
                    refine v_goto 135 d_M_doMeet_131 (by decide) ?_
                    exact v_zretL rfl rfl d_M_doMeet_135
              · refine v_iconst 1 d_M_doMeet_102 rfl ?_
                refine v_goto 107 d_M_doMeet_103 (by decide) ?_
                refine v_istore [(9, .int 1), (8, .int r4), (7, .int r3), (6, .int r2), (5, .int r1), (0, .ref (ad G 31)), (1, .int x1), (2, .int x2), (3, .int x3), (4, .int x4)] d_M_doMeet_107 (by decide) rfl ?_
                refine v_iload 0 d_M_doMeet_109 rfl ?_
                refine v_if_ne_f 130 d_M_doMeet_111 (by decide) (by decide) ?_
                refine v_iconst 1 d_M_doMeet_130 rfl ?_
                refine v_goto 135 d_M_doMeet_131 (by decide) ?_
                exact v_zretL rfl rfl d_M_doMeet_135
            · refine v_iconst 0 d_M_doMeet_106 rfl ?_
              refine v_istore [(9, .int 0), (8, .int r4), (7, .int r3), (6, .int r2), (5, .int r1), (0, .ref (ad G 31)), (1, .int x1), (2, .int x2), (3, .int x3), (4, .int x4)] d_M_doMeet_107 (by decide) rfl ?_
              refine v_iload 0 d_M_doMeet_109 rfl ?_
              refine v_if_ne_t 130 d_M_doMeet_111 (by decide) (by decide) ?_
              refine v_iload 4 d_M_doMeet_114 rfl ?_
              refine v_iload 3 d_M_doMeet_116 rfl ?_
              refine v_imul d_M_doMeet_118 ?_
              refine v_if_ge 134 d_M_doMeet_119 (by decide) (fun c56 => ?_) (fun c56 => ?_)
              · refine v_iconst 0 d_M_doMeet_134 rfl ?_
                exact v_zretL rfl rfl d_M_doMeet_135
              · refine v_iload 2 d_M_doMeet_122 rfl ?_
                refine v_iload 1 d_M_doMeet_124 rfl ?_
                refine v_imul d_M_doMeet_126 ?_
                refine v_if_ge 134 d_M_doMeet_127 (by decide) (fun c57 => ?_) (fun c57 => ?_)
                · refine v_iconst 0 d_M_doMeet_134 rfl ?_
                  exact v_zretL rfl rfl d_M_doMeet_135
                · refine v_iconst 1 d_M_doMeet_130 rfl ?_
                  refine v_goto 135 d_M_doMeet_131 (by decide) ?_
                  exact v_zretL rfl rfl d_M_doMeet_135
          · refine v_iconst 1 d_M_doMeet_102 rfl ?_
            refine v_goto 107 d_M_doMeet_103 (by decide) ?_
            refine v_istore [(9, .int 1), (8, .int r4), (7, .int r3), (6, .int r2), (5, .int r1), (0, .ref (ad G 31)), (1, .int x1), (2, .int x2), (3, .int x3), (4, .int x4)] d_M_doMeet_107 (by decide) rfl ?_
            refine v_iload 0 d_M_doMeet_109 rfl ?_
            refine v_if_ne_f 130 d_M_doMeet_111 (by decide) (by decide) ?_
            refine v_iconst 1 d_M_doMeet_130 rfl ?_
            refine v_goto 135 d_M_doMeet_131 (by decide) ?_
            exact v_zretL rfl rfl d_M_doMeet_135
        · refine v_iload 0 d_M_doMeet_86 rfl ?_
          refine v_if_ne 106 d_M_doMeet_88 (by decide) (fun c58 => ?_) (fun c58 => ?_)
          · refine v_aload_n 4 d_M_doMeet_91 rfl rfl ?_
            refine v_iload_n 7 d_M_doMeet_92 rfl rfl ?_
            refine v_iload 8 d_M_doMeet_93 rfl ?_
            refine v_iload_n 6 d_M_doMeet_95 rfl rfl ?_
            refine v_callVi (As := [.int x3, .int x4, .int x2]) (rest := []) (c_M_isBetween G x3 x4 x2 h46) co_M_152 io_M_isBetween o_31 ⟨by decide, by decide⟩ rfl rfl (Nat.le_of_ble_eq_true rfl) d_M_doMeet_96 (fun r59 h59 _ => ?_)
            refine v_if_eq 106 d_M_doMeet_99 (by decide) (fun c60 => ?_) (fun c60 => ?_)
            · refine v_iconst 0 d_M_doMeet_106 rfl ?_
              refine v_istore [(9, .int 0), (8, .int r4), (7, .int r3), (6, .int r2), (5, .int r1), (0, .ref (ad G 31)), (1, .int x1), (2, .int x2), (3, .int x3), (4, .int x4)] d_M_doMeet_107 (by decide) rfl ?_
              refine v_iload 0 d_M_doMeet_109 rfl ?_
              refine v_if_ne_t 130 d_M_doMeet_111 (by decide) (by decide) ?_
              refine v_iload 4 d_M_doMeet_114 rfl ?_
              refine v_iload 3 d_M_doMeet_116 rfl ?_
              refine v_imul d_M_doMeet_118 ?_
              refine v_if_ge 134 d_M_doMeet_119 (by decide) (fun c61 => ?_) (fun c61 => ?_)
              · refine v_iconst 0 d_M_doMeet_134 rfl ?_
                exact v_zretL rfl rfl d_M_doMeet_135
              · refine v_iload 2 d_M_doMeet_122 rfl ?_
                refine v_iload 1 d_M_doMeet_124 rfl ?_
                refine v_imul d_M_doMeet_126 ?_
                refine v_if_ge 134 d_M_doMeet_127 (by decide) (fun c62 => ?_) (fun c62 => ?_)
                · refine v_iconst 0 d_M_doMeet_134 rfl ?_
                  exact v_zretL rfl rfl d_M_doMeet_135
                · refine v_iconst 1 d_M_doMeet_130 rfl ?_
                  refine v_goto 135 d_M_doMeet_131 (by decide) ?_
                  exact v_zretL rfl rfl d_M_doMeet_135
            · refine v_iconst 1 d_M_doMeet_102 rfl ?_
              refine v_goto 107 d_M_doMeet_103 (by decide) ?_
              refine v_istore [(9, .int 1), (8, .int r4), (7, .int r3), (6, .int r2), (5, .int r1), (0, .ref (ad G 31)), (1, .int x1), (2, .int x2), (3, .int x3), (4, .int x4)] d_M_doMeet_107 (by decide) rfl ?_
              refine v_iload 0 d_M_doMeet_109 rfl ?_
              refine v_if_ne_f 130 d_M_doMeet_111 (by decide) (by decide) ?_
              refine v_iconst 1 d_M_doMeet_130 rfl ?_
              refine v_goto 135 d_M_doMeet_131 (by decide) ?_
              exact v_zretL rfl rfl d_M_doMeet_135
          · refine v_iconst 0 d_M_doMeet_106 rfl ?_
            refine v_istore [(9, .int 0), (8, .int r4), (7, .int r3), (6, .int r2), (5, .int r1), (0, .ref (ad G 31)), (1, .int x1), (2, .int x2), (3, .int x3), (4, .int x4)] d_M_doMeet_107 (by decide) rfl ?_
            refine v_iload 0 d_M_doMeet_109 rfl ?_
            refine v_if_ne_t 130 d_M_doMeet_111 (by decide) (by decide) ?_
            refine v_iload 4 d_M_doMeet_114 rfl ?_
            refine v_iload 3 d_M_doMeet_116 rfl ?_
            refine v_imul d_M_doMeet_118 ?_
            refine v_if_ge 134 d_M_doMeet_119 (by decide) (fun c63 => ?_) (fun c63 => ?_)
            · refine v_iconst 0 d_M_doMeet_134 rfl ?_
              exact v_zretL rfl rfl d_M_doMeet_135
            · refine v_iload 2 d_M_doMeet_122 rfl ?_
              refine v_iload 1 d_M_doMeet_124 rfl ?_
              refine v_imul d_M_doMeet_126 ?_
              refine v_if_ge 134 d_M_doMeet_127 (by decide) (fun c64 => ?_) (fun c64 => ?_)
              · refine v_iconst 0 d_M_doMeet_134 rfl ?_
                exact v_zretL rfl rfl d_M_doMeet_135
              · refine v_iconst 1 d_M_doMeet_130 rfl ?_
                refine v_goto 135 d_M_doMeet_131 (by decide) ?_
                exact v_zretL rfl rfl d_M_doMeet_135
      · refine v_iconst 1 d_M_doMeet_102 rfl ?_
        refine v_goto 107 d_M_doMeet_103 (by decide) ?_
        refine v_istore [(9, .int 1), (8, .int r4), (7, .int r3), (6, .int r2), (5, .int r1), (0, .ref (ad G 31)), (1, .int x1), (2, .int x2), (3, .int x3), (4, .int x4)] d_M_doMeet_107 (by decide) rfl ?_
        refine v_iload 0 d_M_doMeet_109 rfl ?_
        refine v_if_ne_f 130 d_M_doMeet_111 (by decide) (by decide) ?_
        refine v_iconst 1 d_M_doMeet_130 rfl ?_
        refine v_goto 135 d_M_doMeet_131 (by decide) ?_
        exact v_zretL rfl rfl d_M_doMeet_135
    · refine v_iload 1 d_M_doMeet_70 rfl ?_
      refine v_if_ne 86 d_M_doMeet_72 (by decide) (fun c65 => ?_) (fun c65 => ?_)
      · refine v_aload_n 4 d_M_doMeet_75 rfl rfl ?_
        refine v_iload_n 7 d_M_doMeet_76 rfl rfl ?_
        refine v_iload 8 d_M_doMeet_77 rfl ?_
        refine v_iload_n 5 d_M_doMeet_79 rfl rfl ?_
        refine v_callVi (As := [.int x3, .int x4, .int x1]) (rest := []) (c_M_isBetween G x3 x4 x1 h4) co_M_152 io_M_isBetween o_31 ⟨by decide, by decide⟩ rfl rfl (Nat.le_of_ble_eq_true rfl) d_M_doMeet_80 (fun r66 h66 _ => ?_)
        refine v_if_ne 102 d_M_doMeet_83 (by decide) (fun c67 => ?_) (fun c67 => ?_)
        · refine v_iload 0 d_M_doMeet_86 rfl ?_
          refine v_if_ne 106 d_M_doMeet_88 (by decide) (fun c68 => ?_) (fun c68 => ?_)
          · refine v_aload_n 4 d_M_doMeet_91 rfl rfl ?_
            refine v_iload_n 7 d_M_doMeet_92 rfl rfl ?_
            refine v_iload 8 d_M_doMeet_93 rfl ?_
            refine v_iload_n 6 d_M_doMeet_95 rfl rfl ?_
            refine v_callVi (As := [.int x3, .int x4, .int x2]) (rest := []) (c_M_isBetween G x3 x4 x2 h66) co_M_152 io_M_isBetween o_31 ⟨by decide, by decide⟩ rfl rfl (Nat.le_of_ble_eq_true rfl) d_M_doMeet_96 (fun r69 h69 _ => ?_)
            refine v_if_eq 106 d_M_doMeet_99 (by decide) (fun c70 => ?_) (fun c70 => ?_)
            · refine v_iconst 0 d_M_doMeet_106 rfl ?_
              refine v_istore [(9, .int 0), (8, .int r4), (7, .int r3), (6, .int r2), (5, .int r1), (0, .ref (ad G 31)), (1, .int x1), (2, .int x2), (3, .int x3), (4, .int x4)] d_M_doMeet_107 (by decide) rfl ?_
              refine v_iload 0 d_M_doMeet_109 rfl ?_
              refine v_if_ne_t 130 d_M_doMeet_111 (by decide) (by decide) ?_
              refine v_iload 4 d_M_doMeet_114 rfl ?_
              refine v_iload 3 d_M_doMeet_116 rfl ?_
              refine v_imul d_M_doMeet_118 ?_
              refine v_if_ge 134 d_M_doMeet_119 (by decide) (fun c71 => ?_) (fun c71 => ?_)
              · refine v_iconst 0 d_M_doMeet_134 rfl ?_
                exact v_zretL rfl rfl d_M_doMeet_135
              · refine v_iload 2 d_M_doMeet_122 rfl ?_
                refine v_iload 1 d_M_doMeet_124 rfl ?_
                refine v_imul d_M_doMeet_126 ?_
                refine v_if_ge 134 d_M_doMeet_127 (by decide) (fun c72 => ?_) (fun c72 => ?_)
                · refine v_iconst 0 d_M_doMeet_134 rfl ?_
                  exact v_zretL rfl rfl d_M_doMeet_135
                · refine v_iconst 1 d_M_doMeet_130 rfl ?_
                  refine v_goto 135 d_M_doMeet_131 (by decide) ?_
                  exact v_zretL rfl rfl d_M_doMeet_135
            · refine v_iconst 1 d_M_doMeet_102 rfl ?_
              refine v_goto 107 d_M_doMeet_103 (by decide) ?_
              refine v_istore [(9, .int 1), (8, .int r4), (7, .int r3), (6, .int r2), (5, .int r1), (0, .ref (ad G 31)), (1, .int x1), (2, .int x2), (3, .int x3), (4, .int x4)] d_M_doMeet_107 (by decide) rfl ?_
              refine v_iload 0 d_M_doMeet_109 rfl ?_
              refine v_if_ne_f 130 d_M_doMeet_111 (by decide) (by decide) ?_
              refine v_iconst 1 d_M_doMeet_130 rfl ?_
              refine v_goto 135 d_M_doMeet_131 (by decide) ?_
              exact v_zretL rfl rfl d_M_doMeet_135
          · refine v_iconst 0 d_M_doMeet_106 rfl ?_
            refine v_istore [(9, .int 0), (8, .int r4), (7, .int r3), (6, .int r2), (5, .int r1), (0, .ref (ad G 31)), (1, .int x1), (2, .int x2), (3, .int x3), (4, .int x4)] d_M_doMeet_107 (by decide) rfl ?_
            refine v_iload 0 d_M_doMeet_109 rfl ?_
            refine v_if_ne_t 130 d_M_doMeet_111 (by decide) (by decide) ?_
            refine v_iload 4 d_M_doMeet_114 rfl ?_
            refine v_iload 3 d_M_doMeet_116 rfl ?_
            refine v_imul d_M_doMeet_118 ?_
            refine v_if_ge 134 d_M_doMeet_119 (by decide) (fun c73 => ?_) (fun c73 => ?_)
            · refine v_iconst 0 d_M_doMeet_134 rfl ?_
              exact v_zretL rfl rfl d_M_doMeet_135
            · refine v_iload 2 d_M_doMeet_122 rfl ?_
              refine v_iload 1 d_M_doMeet_124 rfl ?_
              refine v_imul d_M_doMeet_126 ?_
              refine v_if_ge 134 d_M_doMeet_127 (by decide) (fun c74 => ?_) (fun c74 => ?_)
              · refine v_iconst 0 d_M_doMeet_134 rfl ?_
                exact v_zretL rfl rfl d_M_doMeet_135
              · refine v_iconst 1 d_M_doMeet_130 rfl ?_
                refine v_goto 135 d_M_doMeet_131 (by decide) ?_
                exact v_zretL rfl rfl d_M_doMeet_135
        · refine v_iconst 1 d_M_doMeet_102 rfl ?_
          refine v_goto 107 d_M_doMeet_103 (by decide) ?_
          refine v_istore [(9, .int 1), (8, .int r4), (7, .int r3), (6, .int r2), (5, .int r1), (0, .ref (ad G 31)), (1, .int x1), (2, .int x2), (3, .int x3), (4, .int x4)] d_M_doMeet_107 (by decide) rfl ?_
          refine v_iload 0 d_M_doMeet_109 rfl ?_
          refine v_if_ne_f 130 d_M_doMeet_111 (by decide) (by decide) ?_
          refine v_iconst 1 d_M_doMeet_130 rfl ?_
          refine v_goto 135 d_M_doMeet_131 (by decide) ?_
          exact v_zretL rfl rfl d_M_doMeet_135
      · refine v_iload 0 d_M_doMeet_86 rfl ?_
        refine v_if_ne 106 d_M_doMeet_88 (by decide) (fun c75 => ?_) (fun c75 => ?_)
        · refine v_aload_n 4 d_M_doMeet_91 rfl rfl ?_
          refine v_iload_n 7 d_M_doMeet_92 rfl rfl ?_
          refine v_iload 8 d_M_doMeet_93 rfl ?_
          refine v_iload_n 6 d_M_doMeet_95 rfl rfl ?_
          refine v_callVi (As := [.int x3, .int x4, .int x2]) (rest := []) (c_M_isBetween G x3 x4 x2 h4) co_M_152 io_M_isBetween o_31 ⟨by decide, by decide⟩ rfl rfl (Nat.le_of_ble_eq_true rfl) d_M_doMeet_96 (fun r76 h76 _ => ?_)
          refine v_if_eq 106 d_M_doMeet_99 (by decide) (fun c77 => ?_) (fun c77 => ?_)
          · refine v_iconst 0 d_M_doMeet_106 rfl ?_
            refine v_istore [(9, .int 0), (8, .int r4), (7, .int r3), (6, .int r2), (5, .int r1), (0, .ref (ad G 31)), (1, .int x1), (2, .int x2), (3, .int x3), (4, .int x4)] d_M_doMeet_107 (by decide) rfl ?_
            refine v_iload 0 d_M_doMeet_109 rfl ?_
            refine v_if_ne_t 130 d_M_doMeet_111 (by decide) (by decide) ?_
            refine v_iload 4 d_M_doMeet_114 rfl ?_
            refine v_iload 3 d_M_doMeet_116 rfl ?_
            refine v_imul d_M_doMeet_118 ?_
            refine v_if_ge 134 d_M_doMeet_119 (by decide) (fun c78 => ?_) (fun c78 => ?_)
            · refine v_iconst 0 d_M_doMeet_134 rfl ?_
              exact v_zretL rfl rfl d_M_doMeet_135
            · refine v_iload 2 d_M_doMeet_122 rfl ?_
              refine v_iload 1 d_M_doMeet_124 rfl ?_
              refine v_imul d_M_doMeet_126 ?_
              refine v_if_ge 134 d_M_doMeet_127 (by decide) (fun c79 => ?_) (fun c79 => ?_)
              · refine v_iconst 0 d_M_doMeet_134 rfl ?_
                exact v_zretL rfl rfl d_M_doMeet_135
              · refine v_iconst 1 d_M_doMeet_130 rfl ?_
                refine v_goto 135 d_M_doMeet_131 (by decide) ?_
                exact v_zretL rfl rfl d_M_doMeet_135
          · refine v_iconst 1 d_M_doMeet_102 rfl ?_
            refine v_goto 107 d_M_doMeet_103 (by decide) ?_
            refine v_istore [(9, .int 1), (8, .int r4), (7, .int r3), (6, .int r2), (5, .int r1), (0, .ref (ad G 31)), (1, .int x1), (2, .int x2), (3, .int x3), (4, .int x4)] d_M_doMeet_107 (by decide) rfl ?_
            refine v_iload 0 d_M_doMeet_109 rfl ?_
            refine v_if_ne_f 130 d_M_doMeet_111 (by decide) (by decide) ?_
            refine v_iconst 1 d_M_doMeet_130 rfl ?_
            refine v_goto 135 d_M_doMeet_131 (by decide) ?_
            exact v_zretL rfl rfl d_M_doMeet_135
        · refine v_iconst 0 d_M_doMeet_106 rfl ?_
          refine v_istore [(9, .int 0), (8, .int r4), (7, .int r3), (6, .int r2), (5, .int r1), (0, .ref (ad G 31)), (1, .int x1), (2, .int x2), (3, .int x3), (4, .int x4)] d_M_doMeet_107 (by decide) rfl ?_
          refine v_iload 0 d_M_doMeet_109 rfl ?_
          refine v_if_ne_t 130 d_M_doMeet_111 (by decide) (by decide) ?_
          refine v_iload 4 d_M_doMeet_114 rfl ?_
          refine v_iload 3 d_M_doMeet_116 rfl ?_
          refine v_imul d_M_doMeet_118 ?_
          refine v_if_ge 134 d_M_doMeet_119 (by decide) (fun c80 => ?_) (fun c80 => ?_)
          · refine v_iconst 0 d_M_doMeet_134 rfl ?_
            exact v_zretL rfl rfl d_M_doMeet_135
          · refine v_iload 2 d_M_doMeet_122 rfl ?_
            refine v_iload 1 d_M_doMeet_124 rfl ?_
            refine v_imul d_M_doMeet_126 ?_
            refine v_if_ge 134 d_M_doMeet_127 (by decide) (fun c81 => ?_) (fun c81 => ?_)
            · refine v_iconst 0 d_M_doMeet_134 rfl ?_
              exact v_zretL rfl rfl d_M_doMeet_135
            · refine v_iconst 1 d_M_doMeet_130 rfl ?_
              refine v_goto 135 d_M_doMeet_131 (by decide) ?_
              exact v_zretL rfl rfl d_M_doMeet_135
theorem d_M_crossesOf_0 : decode m_M_crossesOf.2.1 0 = .ok (.aload_n 0, 1) := by decide +kernel
theorem d_M_crossesOf_1 : decode m_M_crossesOf.2.1 1 = .ok (.iload_n 1, 1) := by decide +kernel
theorem d_M_crossesOf_2 : decode m_M_crossesOf.2.1 2 = .ok (.invokevirtual 133, 3) := by decide +kernel
theorem d_M_crossesOf_5 : decode m_M_crossesOf.2.1 5 = .ok (.ifCond .eq 6, 3) := by decide +kernel
theorem d_M_crossesOf_8 : decode m_M_crossesOf.2.1 8 = .ok (.bipush (-3), 2) := by decide +kernel
theorem d_M_crossesOf_10 : decode m_M_crossesOf.2.1 10 = .ok (.ireturn, 1) := by decide +kernel
theorem d_M_crossesOf_11 : decode m_M_crossesOf.2.1 11 = .ok (.aload_n 0, 1) := by decide +kernel
theorem d_M_crossesOf_12 : decode m_M_crossesOf.2.1 12 = .ok (.iload_n 1, 1) := by decide +kernel
theorem d_M_crossesOf_13 : decode m_M_crossesOf.2.1 13 = .ok (.iload_n 2, 1) := by decide +kernel
theorem d_M_crossesOf_14 : decode m_M_crossesOf.2.1 14 = .ok (.aload_n 0, 1) := by decide +kernel
theorem d_M_crossesOf_15 : decode m_M_crossesOf.2.1 15 = .ok (.getfield 81, 3) := by decide +kernel
theorem d_M_crossesOf_18 : decode m_M_crossesOf.2.1 18 = .ok (.invokevirtual 136, 3) := by decide +kernel
theorem d_M_crossesOf_21 : decode m_M_crossesOf.2.1 21 = .ok (.iconst 0, 1) := by decide +kernel
theorem d_M_crossesOf_22 : decode m_M_crossesOf.2.1 22 = .ok (.istore_n 3, 1) := by decide +kernel
theorem d_M_crossesOf_23 : decode m_M_crossesOf.2.1 23 = .ok (.iconst 0, 1) := by decide +kernel
theorem d_M_crossesOf_24 : decode m_M_crossesOf.2.1 24 = .ok (.istore 4, 2) := by decide +kernel
theorem d_M_crossesOf_26 : decode m_M_crossesOf.2.1 26 = .ok (.iload 4, 2) := by decide +kernel
theorem d_M_crossesOf_28 : decode m_M_crossesOf.2.1 28 = .ok (.iconst 1, 1) := by decide +kernel
theorem d_M_crossesOf_29 : decode m_M_crossesOf.2.1 29 = .ok (.iadd, 1) := by decide +kernel
theorem d_M_crossesOf_30 : decode m_M_crossesOf.2.1 30 = .ok (.aload_n 0, 1) := by decide +kernel
theorem d_M_crossesOf_31 : decode m_M_crossesOf.2.1 31 = .ok (.getfield 117, 3) := by decide +kernel
theorem d_M_crossesOf_34 : decode m_M_crossesOf.2.1 34 = .ok (.if_icmp .ge 79, 3) := by decide +kernel
theorem d_M_crossesOf_37 : decode m_M_crossesOf.2.1 37 = .ok (.iload 4, 2) := by decide +kernel
theorem d_M_crossesOf_39 : decode m_M_crossesOf.2.1 39 = .ok (.iconst 2, 1) := by decide +kernel
theorem d_M_crossesOf_40 : decode m_M_crossesOf.2.1 40 = .ok (.iadd, 1) := by decide +kernel
theorem d_M_crossesOf_41 : decode m_M_crossesOf.2.1 41 = .ok (.istore 5, 2) := by decide +kernel
theorem d_M_crossesOf_43 : decode m_M_crossesOf.2.1 43 = .ok (.iload 5, 2) := by decide +kernel
theorem d_M_crossesOf_45 : decode m_M_crossesOf.2.1 45 = .ok (.iconst 1, 1) := by decide +kernel
theorem d_M_crossesOf_46 : decode m_M_crossesOf.2.1 46 = .ok (.iadd, 1) := by decide +kernel
theorem d_M_crossesOf_47 : decode m_M_crossesOf.2.1 47 = .ok (.aload_n 0, 1) := by decide +kernel
theorem d_M_crossesOf_48 : decode m_M_crossesOf.2.1 48 = .ok (.getfield 117, 3) := by decide +kernel
theorem d_M_crossesOf_51 : decode m_M_crossesOf.2.1 51 = .ok (.if_icmp .ge 56, 3) := by decide +kernel
theorem d_M_crossesOf_54 : decode m_M_crossesOf.2.1 54 = .ok (.iload_n 3, 1) := by decide +kernel
theorem d_M_crossesOf_55 : decode m_M_crossesOf.2.1 55 = .ok (.aload_n 0, 1) := by decide +kernel
theorem d_M_crossesOf_56 : decode m_M_crossesOf.2.1 56 = .ok (.aload_n 0, 1) := by decide +kernel
theorem d_M_crossesOf_57 : decode m_M_crossesOf.2.1 57 = .ok (.getfield 19, 3) := by decide +kernel
theorem d_M_crossesOf_60 : decode m_M_crossesOf.2.1 60 = .ok (.iload 4, 2) := by decide +kernel
theorem d_M_crossesOf_62 : decode m_M_crossesOf.2.1 62 = .ok (.iaload, 1) := by decide +kernel
theorem d_M_crossesOf_63 : decode m_M_crossesOf.2.1 63 = .ok (.aload_n 0, 1) := by decide +kernel
theorem d_M_crossesOf_64 : decode m_M_crossesOf.2.1 64 = .ok (.getfield 19, 3) := by decide +kernel
theorem d_M_crossesOf_67 : decode m_M_crossesOf.2.1 67 = .ok (.iload 4, 2) := by decide +kernel
theorem d_M_crossesOf_69 : decode m_M_crossesOf.2.1 69 = .ok (.iconst 1, 1) := by decide +kernel
theorem d_M_crossesOf_70 : decode m_M_crossesOf.2.1 70 = .ok (.iadd, 1) := by decide +kernel
theorem d_M_crossesOf_71 : decode m_M_crossesOf.2.1 71 = .ok (.iaload, 1) := by decide +kernel
theorem d_M_crossesOf_72 : decode m_M_crossesOf.2.1 72 = .ok (.aload_n 0, 1) := by decide +kernel
theorem d_M_crossesOf_73 : decode m_M_crossesOf.2.1 73 = .ok (.getfield 19, 3) := by decide +kernel
theorem d_M_crossesOf_76 : decode m_M_crossesOf.2.1 76 = .ok (.iload 5, 2) := by decide +kernel
theorem d_M_crossesOf_78 : decode m_M_crossesOf.2.1 78 = .ok (.iaload, 1) := by decide +kernel
theorem d_M_crossesOf_79 : decode m_M_crossesOf.2.1 79 = .ok (.aload_n 0, 1) := by decide +kernel
theorem d_M_crossesOf_80 : decode m_M_crossesOf.2.1 80 = .ok (.getfield 19, 3) := by decide +kernel
theorem d_M_crossesOf_83 : decode m_M_crossesOf.2.1 83 = .ok (.iload 5, 2) := by decide +kernel
theorem d_M_crossesOf_85 : decode m_M_crossesOf.2.1 85 = .ok (.iconst 1, 1) := by decide +kernel
theorem d_M_crossesOf_86 : decode m_M_crossesOf.2.1 86 = .ok (.iadd, 1) := by decide +kernel
theorem d_M_crossesOf_87 : decode m_M_crossesOf.2.1 87 = .ok (.iaload, 1) := by decide +kernel
theorem d_M_crossesOf_88 : decode m_M_crossesOf.2.1 88 = .ok (.invokevirtual 155, 3) := by decide +kernel
theorem d_M_crossesOf_91 : decode m_M_crossesOf.2.1 91 = .ok (.ifCond .eq 7, 3) := by decide +kernel
theorem d_M_crossesOf_94 : decode m_M_crossesOf.2.1 94 = .ok (.iconst 1, 1) := by decide +kernel
theorem d_M_crossesOf_95 : decode m_M_crossesOf.2.1 95 = .ok (.goto 4, 3) := by decide +kernel
theorem d_M_crossesOf_98 : decode m_M_crossesOf.2.1 98 = .ok (.iconst 0, 1) := by decide +kernel
theorem d_M_crossesOf_99 : decode m_M_crossesOf.2.1 99 = .ok (.iadd, 1) := by decide +kernel
theorem d_M_crossesOf_100 : decode m_M_crossesOf.2.1 100 = .ok (.istore_n 3, 1) := by decide +kernel
theorem d_M_crossesOf_101 : decode m_M_crossesOf.2.1 101 = .ok (.iinc 5 1, 3) := by decide +kernel
theorem d_M_crossesOf_104 : decode m_M_crossesOf.2.1 104 = .ok (.goto (-61), 3) := by decide +kernel
theorem d_M_crossesOf_107 : decode m_M_crossesOf.2.1 107 = .ok (.iinc 4 1, 3) := by decide +kernel
theorem d_M_crossesOf_110 : decode m_M_crossesOf.2.1 110 = .ok (.goto (-84), 3) := by decide +kernel
theorem d_M_crossesOf_113 : decode m_M_crossesOf.2.1 113 = .ok (.iload_n 3, 1) := by decide +kernel
theorem d_M_crossesOf_114 : decode m_M_crossesOf.2.1 114 = .ok (.ireturn, 1) := by decide +kernel
set_option maxHeartbeats 4000000 in
set_option maxRecDepth 20000 in
theorem Vl_M_crossesOf_43 (G : Gt) (K26 : Int32 → Int32 → Hp → Option (Int32 × Hp)) (hK26 : ∀ (x3 : Int32) (x4 : Int32) (h : Hp), V G m_M_crossesOf 26 [(0, .ref (ad G 31)), (3, .int x3), (4, .int x4)] [] h κi (K26 x3 x4 h)) : ∀ (n : Nat) (x3 : Int32) (x4 : Int32) (x5 : Int32) (h : Hp), V G m_M_crossesOf 43 [(0, .ref (ad G 31)), (3, .int x3), (4, .int x4), (5, .int x5)] [] h κi (l_M_crossesOf_43 K26 n x3 x4 x5 h) := by
  intro n
  induction n with
  | zero => intros; exact v_none
  | succ n ih =>
    intro x3 x4 x5 h
    rw [l_M_crossesOf_43]
    refine v_iload 3 d_M_crossesOf_43 rfl ?_
    refine v_iconst 1 d_M_crossesOf_45 rfl ?_
    refine v_iadd d_M_crossesOf_46 ?_
    refine v_aload_n 0 d_M_crossesOf_47 rfl rfl ?_
    refine v_geti fl_M_117 o_31 rfl d_M_crossesOf_48 ?_
    refine v_icmp_ge 107 d_M_crossesOf_51 (by decide) (fun c5 => ?_) (fun c5 => ?_)
    · refine v_iinc (x4 + 1) 2 [(4, .int (x4 + 1)), (0, .ref (ad G 31)), (3, .int x3), (5, .int x5)] d_M_crossesOf_107 rfl rfl (by decide) rfl ?_
      refine v_goto 26 d_M_crossesOf_110 (by decide) ?_
      exact v_sub [1, 2, 0] rfl (hK26 x3 (x4 + 1) h)
    · refine v_iload_n 1 d_M_crossesOf_54 rfl rfl ?_
      refine v_aload_n 0 d_M_crossesOf_55 rfl rfl ?_
      refine v_aload_n 0 d_M_crossesOf_56 rfl rfl ?_
      refine v_getr 35 fl_M_19 o_31 rfl rfl d_M_crossesOf_57 ?_
      refine v_iload 2 d_M_crossesOf_60 rfl ?_
      refine v_iald ar_35 d_M_crossesOf_62 ?_
      refine v_aload_n 0 d_M_crossesOf_63 rfl rfl ?_
      refine v_getr 35 fl_M_19 o_31 rfl rfl d_M_crossesOf_64 ?_
      refine v_iload 2 d_M_crossesOf_67 rfl ?_
      refine v_iconst 1 d_M_crossesOf_69 rfl ?_
      refine v_iadd d_M_crossesOf_70 ?_
      refine v_iald ar_35 d_M_crossesOf_71 ?_
      refine v_aload_n 0 d_M_crossesOf_72 rfl rfl ?_
      refine v_getr 35 fl_M_19 o_31 rfl rfl d_M_crossesOf_73 ?_
      refine v_iload 3 d_M_crossesOf_76 rfl ?_
      refine v_iald ar_35 d_M_crossesOf_78 ?_
      refine v_aload_n 0 d_M_crossesOf_79 rfl rfl ?_
      refine v_getr 35 fl_M_19 o_31 rfl rfl d_M_crossesOf_80 ?_
      refine v_iload 3 d_M_crossesOf_83 rfl ?_
      refine v_iconst 1 d_M_crossesOf_85 rfl ?_
      refine v_iadd d_M_crossesOf_86 ?_
      refine v_iald ar_35 d_M_crossesOf_87 ?_
      refine v_callVi (As := [.int (h 35 (ix x4)), .int (h 35 (ix (x4 + 1))), .int (h 35 (ix x5)), .int (h 35 (ix (x5 + 1)))]) (rest := [.int x3]) (c_M_doMeet G (h 35 (ix x4)) (h 35 (ix (x4 + 1))) (h 35 (ix x5)) (h 35 (ix (x5 + 1))) h) co_M_155 io_M_doMeet o_31 ⟨by decide, by decide⟩ rfl rfl (Nat.le_of_ble_eq_true rfl) d_M_crossesOf_88 (fun r6 h6 _ => ?_)
      refine v_if_eq 98 d_M_crossesOf_91 (by decide) (fun c7 => ?_) (fun c7 => ?_)
      · refine v_iconst 0 d_M_crossesOf_98 rfl ?_
        refine v_iadd d_M_crossesOf_99 ?_
        refine v_istore_n [(3, .int (x3 + 0)), (0, .ref (ad G 31)), (4, .int x4), (5, .int x5)] d_M_crossesOf_100 rfl (by decide) rfl ?_
        refine v_iinc (x5 + 1) 3 [(5, .int (x5 + 1)), (3, .int (x3 + 0)), (0, .ref (ad G 31)), (4, .int x4)] d_M_crossesOf_101 rfl rfl (by decide) rfl ?_
        refine v_goto 43 d_M_crossesOf_104 (by decide) ?_
        exact v_sub [2, 1, 3, 0] rfl (ih (x3 + 0) x4 (x5 + 1) h6)
      · refine v_iconst 1 d_M_crossesOf_94 rfl ?_
        refine v_goto 99 d_M_crossesOf_95 (by decide) ?_
        refine v_iadd d_M_crossesOf_99 ?_
        refine v_istore_n [(3, .int (x3 + 1)), (0, .ref (ad G 31)), (4, .int x4), (5, .int x5)] d_M_crossesOf_100 rfl (by decide) rfl ?_
        refine v_iinc (x5 + 1) 3 [(5, .int (x5 + 1)), (3, .int (x3 + 1)), (0, .ref (ad G 31)), (4, .int x4)] d_M_crossesOf_101 rfl rfl (by decide) rfl ?_
        refine v_goto 43 d_M_crossesOf_104 (by decide) ?_
        exact v_sub [2, 1, 3, 0] rfl (ih (x3 + 1) x4 (x5 + 1) h6)
set_option maxHeartbeats 4000000 in
set_option maxRecDepth 20000 in
theorem Vl_M_crossesOf_26 (G : Gt) : ∀ (n : Nat) (x3 : Int32) (x4 : Int32) (h : Hp), V G m_M_crossesOf 26 [(0, .ref (ad G 31)), (3, .int x3), (4, .int x4)] [] h κi (l_M_crossesOf_26 n x3 x4 h) := by
  intro n
  induction n with
  | zero => intros; exact v_none
  | succ n ih =>
    intro x3 x4 h
    rw [l_M_crossesOf_26]
    refine v_iload 2 d_M_crossesOf_26 rfl ?_
    refine v_iconst 1 d_M_crossesOf_28 rfl ?_
    refine v_iadd d_M_crossesOf_29 ?_
    refine v_aload_n 0 d_M_crossesOf_30 rfl rfl ?_
    refine v_geti fl_M_117 o_31 rfl d_M_crossesOf_31 ?_
    refine v_icmp_ge 113 d_M_crossesOf_34 (by decide) (fun c4 => ?_) (fun c4 => ?_)
    · refine v_iload_n 1 d_M_crossesOf_113 rfl rfl ?_
      exact v_iret rfl d_M_crossesOf_114
    · refine v_iload 2 d_M_crossesOf_37 rfl ?_
      refine v_iconst 2 d_M_crossesOf_39 rfl ?_
      refine v_iadd d_M_crossesOf_40 ?_
      refine v_istore [(5, .int (x4 + 2)), (0, .ref (ad G 31)), (3, .int x3), (4, .int x4)] d_M_crossesOf_41 (by decide) rfl ?_
      exact v_sub [1, 2, 3, 0] rfl (Vl_M_crossesOf_43 G (l_M_crossesOf_26 n) ih FUEL x3 x4 (x4 + 2) h)
set_option maxHeartbeats 4000000 in
set_option maxRecDepth 20000 in
theorem c_M_crossesOf (G : Gt) (x1 : Int32) (x2 : Int32) (h : Hp) : Cn G m_M_crossesOf [.ref (ad G 31), .int x1, .int x2] h κi (f_M_crossesOf x1 x2 h) := by
  refine entryV (by decide) (Nat.le_of_ble_eq_true rfl) rfl ?_
  show V G m_M_crossesOf 0 [(0, .ref (ad G 31)), (1, .int x1), (2, .int x2)] [] h κi _
  unfold f_M_crossesOf
  refine v_aload_n 0 d_M_crossesOf_0 rfl rfl ?_
  refine v_iload_n 1 d_M_crossesOf_1 rfl rfl ?_
  refine v_callVi (As := [.int x1]) (rest := []) (c_M_isHidden G x1 h) co_M_133 io_M_isHidden o_31 ⟨by decide, by decide⟩ rfl rfl (Nat.le_of_ble_eq_true rfl) d_M_crossesOf_2 (fun r1 h1 _ => ?_)
  refine v_if_eq 11 d_M_crossesOf_5 (by decide) (fun c2 => ?_) (fun c2 => ?_)
  · refine v_aload_n 0 d_M_crossesOf_11 rfl rfl ?_
    refine v_iload_n 1 d_M_crossesOf_12 rfl rfl ?_
    refine v_iload_n 2 d_M_crossesOf_13 rfl rfl ?_
    refine v_aload_n 0 d_M_crossesOf_14 rfl rfl ?_
    refine v_geti fl_M_81 o_31 rfl d_M_crossesOf_15 ?_
    refine v_callVv (As := [.int x1, .int x2, .int (h1 31 5)]) (rest := []) (c_M_lays G x1 x2 (h1 31 5) h1) co_M_136 io_M_lays o_31 ⟨by decide, by decide⟩ rfl rfl (Nat.le_of_ble_eq_true rfl) d_M_crossesOf_18 (fun _ h3 _ => ?_)
    refine v_iconst 0 d_M_crossesOf_21 rfl ?_
    refine v_istore_n [(3, .int 0), (0, .ref (ad G 31)), (1, .int x1), (2, .int x2)] d_M_crossesOf_22 rfl (by decide) rfl ?_
    refine v_iconst 0 d_M_crossesOf_23 rfl ?_
    refine v_istore [(4, .int 0), (3, .int 0), (0, .ref (ad G 31)), (1, .int x1), (2, .int x2)] d_M_crossesOf_24 (by decide) rfl ?_
    exact v_sub [2, 1, 0] rfl (Vl_M_crossesOf_26 G FUEL 0 0 h3)
  · refine v_bipush (-3) d_M_crossesOf_8 rfl ?_
    exact v_iret rfl d_M_crossesOf_10
theorem d_M_crosses_0 : decode m_M_crosses.2.1 0 = .ok (.aload_n 0, 1) := by decide +kernel
theorem d_M_crosses_1 : decode m_M_crosses.2.1 1 = .ok (.iload_n 1, 1) := by decide +kernel
theorem d_M_crosses_2 : decode m_M_crosses.2.1 2 = .ok (.iload_n 2, 1) := by decide +kernel
theorem d_M_crosses_3 : decode m_M_crosses.2.1 3 = .ok (.invokevirtual 140, 3) := by decide +kernel
theorem d_M_crosses_6 : decode m_M_crosses.2.1 6 = .ok (.ifCond .eq 12, 3) := by decide +kernel
theorem d_M_crosses_9 : decode m_M_crosses.2.1 9 = .ok (.aload_n 0, 1) := by decide +kernel
theorem d_M_crosses_10 : decode m_M_crosses.2.1 10 = .ok (.iload_n 1, 1) := by decide +kernel
theorem d_M_crosses_11 : decode m_M_crosses.2.1 11 = .ok (.iload_n 2, 1) := by decide +kernel
theorem d_M_crosses_12 : decode m_M_crosses.2.1 12 = .ok (.invokevirtual 159, 3) := by decide +kernel
theorem d_M_crosses_15 : decode m_M_crosses.2.1 15 = .ok (.goto 5, 3) := by decide +kernel
theorem d_M_crosses_18 : decode m_M_crosses.2.1 18 = .ok (.bipush (-2), 2) := by decide +kernel
theorem d_M_crosses_20 : decode m_M_crosses.2.1 20 = .ok (.ireturn, 1) := by decide +kernel
set_option maxHeartbeats 4000000 in
set_option maxRecDepth 20000 in
theorem c_M_crosses (G : Gt) (x1 : Int32) (x2 : Int32) (h : Hp) : Cn G m_M_crosses [.ref (ad G 31), .int x1, .int x2] h κi (f_M_crosses x1 x2 h) := by
  refine entryV (by decide) (Nat.le_of_ble_eq_true rfl) rfl ?_
  show V G m_M_crosses 0 [(0, .ref (ad G 31)), (1, .int x1), (2, .int x2)] [] h κi _
  unfold f_M_crosses
  refine v_aload_n 0 d_M_crosses_0 rfl rfl ?_
  refine v_iload_n 1 d_M_crosses_1 rfl rfl ?_
  refine v_iload_n 2 d_M_crosses_2 rfl rfl ?_
  refine v_callVi (As := [.int x1, .int x2]) (rest := []) (c_M_isWeb G x1 x2 h) co_M_140 io_M_isWeb o_31 ⟨by decide, by decide⟩ rfl rfl (Nat.le_of_ble_eq_true rfl) d_M_crosses_3 (fun r1 h1 _ => ?_)
  refine v_if_eq 18 d_M_crosses_6 (by decide) (fun c2 => ?_) (fun c2 => ?_)
  · refine v_bipush (-2) d_M_crosses_18 rfl ?_
    exact v_iret rfl d_M_crosses_20
  · refine v_aload_n 0 d_M_crosses_9 rfl rfl ?_
    refine v_iload_n 1 d_M_crosses_10 rfl rfl ?_
    refine v_iload_n 2 d_M_crosses_11 rfl rfl ?_
    refine v_callVi (As := [.int x1, .int x2]) (rest := []) (c_M_crossesOf G x1 x2 h1) co_M_159 io_M_crossesOf o_31 ⟨by decide, by decide⟩ rfl rfl (Nat.le_of_ble_eq_true rfl) d_M_crosses_12 (fun r3 h3 _ => ?_)
    refine v_goto 20 d_M_crosses_15 (by decide) ?_
    exact v_iret rfl d_M_crosses_20
theorem d_M_indexOf_0 : decode m_M_indexOf.2.1 0 = .ok (.iconst 0, 1) := by decide +kernel
theorem d_M_indexOf_1 : decode m_M_indexOf.2.1 1 = .ok (.istore_n 2, 1) := by decide +kernel
theorem d_M_indexOf_2 : decode m_M_indexOf.2.1 2 = .ok (.iload_n 2, 1) := by decide +kernel
theorem d_M_indexOf_3 : decode m_M_indexOf.2.1 3 = .ok (.aload_n 0, 1) := by decide +kernel
theorem d_M_indexOf_4 : decode m_M_indexOf.2.1 4 = .ok (.getfield 117, 3) := by decide +kernel
theorem d_M_indexOf_7 : decode m_M_indexOf.2.1 7 = .ok (.if_icmp .ge 21, 3) := by decide +kernel
theorem d_M_indexOf_10 : decode m_M_indexOf.2.1 10 = .ok (.aload_n 0, 1) := by decide +kernel
theorem d_M_indexOf_11 : decode m_M_indexOf.2.1 11 = .ok (.getfield 19, 3) := by decide +kernel
theorem d_M_indexOf_14 : decode m_M_indexOf.2.1 14 = .ok (.iload_n 2, 1) := by decide +kernel
theorem d_M_indexOf_15 : decode m_M_indexOf.2.1 15 = .ok (.iaload, 1) := by decide +kernel
theorem d_M_indexOf_16 : decode m_M_indexOf.2.1 16 = .ok (.iload_n 1, 1) := by decide +kernel
theorem d_M_indexOf_17 : decode m_M_indexOf.2.1 17 = .ok (.if_icmp .ne 5, 3) := by decide +kernel
theorem d_M_indexOf_20 : decode m_M_indexOf.2.1 20 = .ok (.iload_n 2, 1) := by decide +kernel
theorem d_M_indexOf_21 : decode m_M_indexOf.2.1 21 = .ok (.ireturn, 1) := by decide +kernel
theorem d_M_indexOf_22 : decode m_M_indexOf.2.1 22 = .ok (.iinc 2 1, 3) := by decide +kernel
theorem d_M_indexOf_25 : decode m_M_indexOf.2.1 25 = .ok (.goto (-23), 3) := by decide +kernel
theorem d_M_indexOf_28 : decode m_M_indexOf.2.1 28 = .ok (.iconst (-1), 1) := by decide +kernel
theorem d_M_indexOf_29 : decode m_M_indexOf.2.1 29 = .ok (.ireturn, 1) := by decide +kernel
set_option maxHeartbeats 4000000 in
set_option maxRecDepth 20000 in
theorem Vl_M_indexOf_2 (G : Gt) : ∀ (n : Nat) (x1 : Int32) (x2 : Int32) (h : Hp), V G m_M_indexOf 2 [(0, .ref (ad G 31)), (1, .int x1), (2, .int x2)] [] h κi (l_M_indexOf_2 n x1 x2 h) := by
  intro n
  induction n with
  | zero => intros; exact v_none
  | succ n ih =>
    intro x1 x2 h
    rw [l_M_indexOf_2]
    refine v_iload_n 2 d_M_indexOf_2 rfl rfl ?_
    refine v_aload_n 0 d_M_indexOf_3 rfl rfl ?_
    refine v_geti fl_M_117 o_31 rfl d_M_indexOf_4 ?_
    refine v_icmp_ge 28 d_M_indexOf_7 (by decide) (fun c1 => ?_) (fun c1 => ?_)
    · refine v_iconst (-1) d_M_indexOf_28 rfl ?_
      exact v_iret rfl d_M_indexOf_29
    · refine v_aload_n 0 d_M_indexOf_10 rfl rfl ?_
      refine v_getr 35 fl_M_19 o_31 rfl rfl d_M_indexOf_11 ?_
      refine v_iload_n 2 d_M_indexOf_14 rfl rfl ?_
      refine v_iald ar_35 d_M_indexOf_15 ?_
      refine v_iload_n 1 d_M_indexOf_16 rfl rfl ?_
      refine v_icmp_ne 22 d_M_indexOf_17 (by decide) (fun c2 => ?_) (fun c2 => ?_)
      · refine v_iload_n 2 d_M_indexOf_20 rfl rfl ?_
        exact v_iret rfl d_M_indexOf_21
      · refine v_iinc (x2 + 1) 2 [(2, .int (x2 + 1)), (0, .ref (ad G 31)), (1, .int x1)] d_M_indexOf_22 rfl rfl (by decide) rfl ?_
        refine v_goto 2 d_M_indexOf_25 (by decide) ?_
        exact v_sub [1, 2, 0] rfl (ih x1 (x2 + 1) h)
set_option maxHeartbeats 4000000 in
set_option maxRecDepth 20000 in
theorem c_M_indexOf (G : Gt) (x1 : Int32) (h : Hp) : Cn G m_M_indexOf [.ref (ad G 31), .int x1] h κi (f_M_indexOf x1 h) := by
  refine entryV (by decide) (Nat.le_of_ble_eq_true rfl) rfl ?_
  show V G m_M_indexOf 0 [(0, .ref (ad G 31)), (1, .int x1)] [] h κi _
  unfold f_M_indexOf
  refine v_iconst 0 d_M_indexOf_0 rfl ?_
  refine v_istore_n [(2, .int 0), (0, .ref (ad G 31)), (1, .int x1)] d_M_indexOf_1 rfl (by decide) rfl ?_
  exact v_sub [1, 2, 0] rfl (Vl_M_indexOf_2 G FUEL x1 0 h)
theorem d_M_hangsOf_0 : decode m_M_hangsOf.2.1 0 = .ok (.aload_n 0, 1) := by decide +kernel
theorem d_M_hangsOf_1 : decode m_M_hangsOf.2.1 1 = .ok (.iload_n 1, 1) := by decide +kernel
theorem d_M_hangsOf_2 : decode m_M_hangsOf.2.1 2 = .ok (.invokevirtual 133, 3) := by decide +kernel
theorem d_M_hangsOf_5 : decode m_M_hangsOf.2.1 5 = .ok (.ifCond .eq 6, 3) := by decide +kernel
theorem d_M_hangsOf_8 : decode m_M_hangsOf.2.1 8 = .ok (.bipush (-3), 2) := by decide +kernel
theorem d_M_hangsOf_10 : decode m_M_hangsOf.2.1 10 = .ok (.ireturn, 1) := by decide +kernel
theorem d_M_hangsOf_11 : decode m_M_hangsOf.2.1 11 = .ok (.aload_n 0, 1) := by decide +kernel
theorem d_M_hangsOf_12 : decode m_M_hangsOf.2.1 12 = .ok (.iload_n 1, 1) := by decide +kernel
theorem d_M_hangsOf_13 : decode m_M_hangsOf.2.1 13 = .ok (.iload_n 2, 1) := by decide +kernel
theorem d_M_hangsOf_14 : decode m_M_hangsOf.2.1 14 = .ok (.aload_n 0, 1) := by decide +kernel
theorem d_M_hangsOf_15 : decode m_M_hangsOf.2.1 15 = .ok (.getfield 81, 3) := by decide +kernel
theorem d_M_hangsOf_18 : decode m_M_hangsOf.2.1 18 = .ok (.invokevirtual 136, 3) := by decide +kernel
theorem d_M_hangsOf_21 : decode m_M_hangsOf.2.1 21 = .ok (.aload_n 0, 1) := by decide +kernel
theorem d_M_hangsOf_22 : decode m_M_hangsOf.2.1 22 = .ok (.iload_n 3, 1) := by decide +kernel
theorem d_M_hangsOf_23 : decode m_M_hangsOf.2.1 23 = .ok (.invokevirtual 162, 3) := by decide +kernel
theorem d_M_hangsOf_26 : decode m_M_hangsOf.2.1 26 = .ok (.istore 4, 2) := by decide +kernel
theorem d_M_hangsOf_28 : decode m_M_hangsOf.2.1 28 = .ok (.iload 4, 2) := by decide +kernel
theorem d_M_hangsOf_30 : decode m_M_hangsOf.2.1 30 = .ok (.iconst (-1), 1) := by decide +kernel
theorem d_M_hangsOf_31 : decode m_M_hangsOf.2.1 31 = .ok (.if_icmp .ne 7, 3) := by decide +kernel
theorem d_M_hangsOf_34 : decode m_M_hangsOf.2.1 34 = .ok (.iconst 0, 1) := by decide +kernel
theorem d_M_hangsOf_35 : decode m_M_hangsOf.2.1 35 = .ok (.goto 30, 3) := by decide +kernel
theorem d_M_hangsOf_38 : decode m_M_hangsOf.2.1 38 = .ok (.iload 4, 2) := by decide +kernel
theorem d_M_hangsOf_40 : decode m_M_hangsOf.2.1 40 = .ok (.ifCond .le 7, 3) := by decide +kernel
theorem d_M_hangsOf_43 : decode m_M_hangsOf.2.1 43 = .ok (.iconst 1, 1) := by decide +kernel
theorem d_M_hangsOf_44 : decode m_M_hangsOf.2.1 44 = .ok (.goto 4, 3) := by decide +kernel
theorem d_M_hangsOf_47 : decode m_M_hangsOf.2.1 47 = .ok (.iconst 0, 1) := by decide +kernel
theorem d_M_hangsOf_48 : decode m_M_hangsOf.2.1 48 = .ok (.iload 4, 2) := by decide +kernel
theorem d_M_hangsOf_50 : decode m_M_hangsOf.2.1 50 = .ok (.iconst 1, 1) := by decide +kernel
theorem d_M_hangsOf_51 : decode m_M_hangsOf.2.1 51 = .ok (.iadd, 1) := by decide +kernel
theorem d_M_hangsOf_52 : decode m_M_hangsOf.2.1 52 = .ok (.aload_n 0, 1) := by decide +kernel
theorem d_M_hangsOf_53 : decode m_M_hangsOf.2.1 53 = .ok (.getfield 117, 3) := by decide +kernel
theorem d_M_hangsOf_56 : decode m_M_hangsOf.2.1 56 = .ok (.if_icmp .ge 7, 3) := by decide +kernel
theorem d_M_hangsOf_59 : decode m_M_hangsOf.2.1 59 = .ok (.iconst 1, 1) := by decide +kernel
theorem d_M_hangsOf_60 : decode m_M_hangsOf.2.1 60 = .ok (.goto 4, 3) := by decide +kernel
theorem d_M_hangsOf_63 : decode m_M_hangsOf.2.1 63 = .ok (.iconst 0, 1) := by decide +kernel
theorem d_M_hangsOf_64 : decode m_M_hangsOf.2.1 64 = .ok (.iadd, 1) := by decide +kernel
theorem d_M_hangsOf_65 : decode m_M_hangsOf.2.1 65 = .ok (.ireturn, 1) := by decide +kernel
set_option maxHeartbeats 4000000 in
set_option maxRecDepth 20000 in
theorem c_M_hangsOf (G : Gt) (x1 : Int32) (x2 : Int32) (x3 : Int32) (h : Hp) : Cn G m_M_hangsOf [.ref (ad G 31), .int x1, .int x2, .int x3] h κi (f_M_hangsOf x1 x2 x3 h) := by
  refine entryV (by decide) (Nat.le_of_ble_eq_true rfl) rfl ?_
  show V G m_M_hangsOf 0 [(0, .ref (ad G 31)), (1, .int x1), (2, .int x2), (3, .int x3)] [] h κi _
  unfold f_M_hangsOf
  refine v_aload_n 0 d_M_hangsOf_0 rfl rfl ?_
  refine v_iload_n 1 d_M_hangsOf_1 rfl rfl ?_
  refine v_callVi (As := [.int x1]) (rest := []) (c_M_isHidden G x1 h) co_M_133 io_M_isHidden o_31 ⟨by decide, by decide⟩ rfl rfl (Nat.le_of_ble_eq_true rfl) d_M_hangsOf_2 (fun r1 h1 _ => ?_)
  refine v_if_eq 11 d_M_hangsOf_5 (by decide) (fun c2 => ?_) (fun c2 => ?_)
  · refine v_aload_n 0 d_M_hangsOf_11 rfl rfl ?_
    refine v_iload_n 1 d_M_hangsOf_12 rfl rfl ?_
    refine v_iload_n 2 d_M_hangsOf_13 rfl rfl ?_
    refine v_aload_n 0 d_M_hangsOf_14 rfl rfl ?_
    refine v_geti fl_M_81 o_31 rfl d_M_hangsOf_15 ?_
    refine v_callVv (As := [.int x1, .int x2, .int (h1 31 5)]) (rest := []) (c_M_lays G x1 x2 (h1 31 5) h1) co_M_136 io_M_lays o_31 ⟨by decide, by decide⟩ rfl rfl (Nat.le_of_ble_eq_true rfl) d_M_hangsOf_18 (fun _ h3 _ => ?_)
    refine v_aload_n 0 d_M_hangsOf_21 rfl rfl ?_
    refine v_iload_n 3 d_M_hangsOf_22 rfl rfl ?_
    refine v_callVi (As := [.int x3]) (rest := []) (c_M_indexOf G x3 h3) co_M_162 io_M_indexOf o_31 ⟨by decide, by decide⟩ rfl rfl (Nat.le_of_ble_eq_true rfl) d_M_hangsOf_23 (fun r4 h4 _ => ?_)
    refine v_istore [(4, .int r4), (0, .ref (ad G 31)), (1, .int x1), (2, .int x2), (3, .int x3)] d_M_hangsOf_26 (by decide) rfl ?_
    refine v_iload 0 d_M_hangsOf_28 rfl ?_
    refine v_iconst (-1) d_M_hangsOf_30 rfl ?_
    refine v_icmp_ne 38 d_M_hangsOf_31 (by decide) (fun c5 => ?_) (fun c5 => ?_)
    · refine v_iconst 0 d_M_hangsOf_34 rfl ?_
      refine v_goto 65 d_M_hangsOf_35 (by decide) ?_
      exact v_iret rfl d_M_hangsOf_65
    · refine v_iload 0 d_M_hangsOf_38 rfl ?_
      refine v_if_le 47 d_M_hangsOf_40 (by decide) (fun c6 => ?_) (fun c6 => ?_)
      · refine v_iconst 0 d_M_hangsOf_47 rfl ?_
        refine v_iload 0 d_M_hangsOf_48 rfl ?_
        refine v_iconst 1 d_M_hangsOf_50 rfl ?_
        refine v_iadd d_M_hangsOf_51 ?_
        refine v_aload_n 1 d_M_hangsOf_52 rfl rfl ?_
        refine v_geti fl_M_117 o_31 rfl d_M_hangsOf_53 ?_
        refine v_icmp_ge 63 d_M_hangsOf_56 (by decide) (fun c7 => ?_) (fun c7 => ?_)
        · refine v_iconst 0 d_M_hangsOf_63 rfl ?_
          refine v_iadd d_M_hangsOf_64 ?_
          exact v_iret rfl d_M_hangsOf_65
        · refine v_iconst 1 d_M_hangsOf_59 rfl ?_
          refine v_goto 64 d_M_hangsOf_60 (by decide) ?_
          refine v_iadd d_M_hangsOf_64 ?_
          exact v_iret rfl d_M_hangsOf_65
      · refine v_iconst 1 d_M_hangsOf_43 rfl ?_
        refine v_goto 48 d_M_hangsOf_44 (by decide) ?_
        refine v_iload 0 d_M_hangsOf_48 rfl ?_
        refine v_iconst 1 d_M_hangsOf_50 rfl ?_
        refine v_iadd d_M_hangsOf_51 ?_
        refine v_aload_n 1 d_M_hangsOf_52 rfl rfl ?_
        refine v_geti fl_M_117 o_31 rfl d_M_hangsOf_53 ?_
        refine v_icmp_ge 63 d_M_hangsOf_56 (by decide) (fun c8 => ?_) (fun c8 => ?_)
        · refine v_iconst 0 d_M_hangsOf_63 rfl ?_
          refine v_iadd d_M_hangsOf_64 ?_
          exact v_iret rfl d_M_hangsOf_65
        · refine v_iconst 1 d_M_hangsOf_59 rfl ?_
          refine v_goto 64 d_M_hangsOf_60 (by decide) ?_
          refine v_iadd d_M_hangsOf_64 ?_
          exact v_iret rfl d_M_hangsOf_65
  · refine v_bipush (-3) d_M_hangsOf_8 rfl ?_
    exact v_iret rfl d_M_hangsOf_10
theorem d_M_hangs_0 : decode m_M_hangs.2.1 0 = .ok (.aload_n 0, 1) := by decide +kernel
theorem d_M_hangs_1 : decode m_M_hangs.2.1 1 = .ok (.iload_n 1, 1) := by decide +kernel
theorem d_M_hangs_2 : decode m_M_hangs.2.1 2 = .ok (.iload_n 2, 1) := by decide +kernel
theorem d_M_hangs_3 : decode m_M_hangs.2.1 3 = .ok (.invokevirtual 140, 3) := by decide +kernel
theorem d_M_hangs_6 : decode m_M_hangs.2.1 6 = .ok (.ifCond .eq 21, 3) := by decide +kernel
theorem d_M_hangs_9 : decode m_M_hangs.2.1 9 = .ok (.aload_n 0, 1) := by decide +kernel
theorem d_M_hangs_10 : decode m_M_hangs.2.1 10 = .ok (.iload_n 3, 1) := by decide +kernel
theorem d_M_hangs_11 : decode m_M_hangs.2.1 11 = .ok (.invokevirtual 84, 3) := by decide +kernel
theorem d_M_hangs_14 : decode m_M_hangs.2.1 14 = .ok (.ifCond .eq 13, 3) := by decide +kernel
theorem d_M_hangs_17 : decode m_M_hangs.2.1 17 = .ok (.aload_n 0, 1) := by decide +kernel
theorem d_M_hangs_18 : decode m_M_hangs.2.1 18 = .ok (.iload_n 1, 1) := by decide +kernel
theorem d_M_hangs_19 : decode m_M_hangs.2.1 19 = .ok (.iload_n 2, 1) := by decide +kernel
theorem d_M_hangs_20 : decode m_M_hangs.2.1 20 = .ok (.iload_n 3, 1) := by decide +kernel
theorem d_M_hangs_21 : decode m_M_hangs.2.1 21 = .ok (.invokevirtual 165, 3) := by decide +kernel
theorem d_M_hangs_24 : decode m_M_hangs.2.1 24 = .ok (.goto 5, 3) := by decide +kernel
theorem d_M_hangs_27 : decode m_M_hangs.2.1 27 = .ok (.bipush (-2), 2) := by decide +kernel
theorem d_M_hangs_29 : decode m_M_hangs.2.1 29 = .ok (.ireturn, 1) := by decide +kernel
set_option maxHeartbeats 4000000 in
set_option maxRecDepth 20000 in
theorem c_M_hangs (G : Gt) (x1 : Int32) (x2 : Int32) (x3 : Int32) (h : Hp) : Cn G m_M_hangs [.ref (ad G 31), .int x1, .int x2, .int x3] h κi (f_M_hangs x1 x2 x3 h) := by
  refine entryV (by decide) (Nat.le_of_ble_eq_true rfl) rfl ?_
  show V G m_M_hangs 0 [(0, .ref (ad G 31)), (1, .int x1), (2, .int x2), (3, .int x3)] [] h κi _
  unfold f_M_hangs
  refine v_aload_n 0 d_M_hangs_0 rfl rfl ?_
  refine v_iload_n 1 d_M_hangs_1 rfl rfl ?_
  refine v_iload_n 2 d_M_hangs_2 rfl rfl ?_
  refine v_callVi (As := [.int x1, .int x2]) (rest := []) (c_M_isWeb G x1 x2 h) co_M_140 io_M_isWeb o_31 ⟨by decide, by decide⟩ rfl rfl (Nat.le_of_ble_eq_true rfl) d_M_hangs_3 (fun r1 h1 _ => ?_)
  refine v_if_eq 27 d_M_hangs_6 (by decide) (fun c2 => ?_) (fun c2 => ?_)
  · refine v_bipush (-2) d_M_hangs_27 rfl ?_
    exact v_iret rfl d_M_hangs_29
  · refine v_aload_n 0 d_M_hangs_9 rfl rfl ?_
    refine v_iload_n 3 d_M_hangs_10 rfl rfl ?_
    refine v_callVi (As := [.int x3]) (rest := []) (c_M_isPeg G x3 h1) co_M_84 io_M_isPeg o_31 ⟨by decide, by decide⟩ rfl rfl (Nat.le_of_ble_eq_true rfl) d_M_hangs_11 (fun r3 h3 _ => ?_)
    refine v_if_eq 27 d_M_hangs_14 (by decide) (fun c4 => ?_) (fun c4 => ?_)
    · refine v_bipush (-2) d_M_hangs_27 rfl ?_
      exact v_iret rfl d_M_hangs_29
    · refine v_aload_n 0 d_M_hangs_17 rfl rfl ?_
      refine v_iload_n 1 d_M_hangs_18 rfl rfl ?_
      refine v_iload_n 2 d_M_hangs_19 rfl rfl ?_
      refine v_iload_n 3 d_M_hangs_20 rfl rfl ?_
      refine v_callVi (As := [.int x1, .int x2, .int x3]) (rest := []) (c_M_hangsOf G x1 x2 x3 h3) co_M_165 io_M_hangsOf o_31 ⟨by decide, by decide⟩ rfl rfl (Nat.le_of_ble_eq_true rfl) d_M_hangs_21 (fun r5 h5 _ => ?_)
      refine v_goto 29 d_M_hangs_24 (by decide) ?_
      exact v_iret rfl d_M_hangs_29
theorem d_M_piecesOf_0 : decode m_M_piecesOf.2.1 0 = .ok (.aload_n 0, 1) := by decide +kernel
theorem d_M_piecesOf_1 : decode m_M_piecesOf.2.1 1 = .ok (.iload_n 1, 1) := by decide +kernel
theorem d_M_piecesOf_2 : decode m_M_piecesOf.2.1 2 = .ok (.iload_n 2, 1) := by decide +kernel
theorem d_M_piecesOf_3 : decode m_M_piecesOf.2.1 3 = .ok (.iload_n 3, 1) := by decide +kernel
theorem d_M_piecesOf_4 : decode m_M_piecesOf.2.1 4 = .ok (.invokevirtual 165, 3) := by decide +kernel
theorem d_M_piecesOf_7 : decode m_M_piecesOf.2.1 7 = .ok (.istore 4, 2) := by decide +kernel
theorem d_M_piecesOf_9 : decode m_M_piecesOf.2.1 9 = .ok (.iload 4, 2) := by decide +kernel
theorem d_M_piecesOf_11 : decode m_M_piecesOf.2.1 11 = .ok (.bipush (-3), 2) := by decide +kernel
theorem d_M_piecesOf_13 : decode m_M_piecesOf.2.1 13 = .ok (.if_icmp .eq 12, 3) := by decide +kernel
theorem d_M_piecesOf_16 : decode m_M_piecesOf.2.1 16 = .ok (.aload_n 0, 1) := by decide +kernel
theorem d_M_piecesOf_17 : decode m_M_piecesOf.2.1 17 = .ok (.iload_n 3, 1) := by decide +kernel
theorem d_M_piecesOf_18 : decode m_M_piecesOf.2.1 18 = .ok (.invokevirtual 162, 3) := by decide +kernel
theorem d_M_piecesOf_21 : decode m_M_piecesOf.2.1 21 = .ok (.iconst (-1), 1) := by decide +kernel
theorem d_M_piecesOf_22 : decode m_M_piecesOf.2.1 22 = .ok (.if_icmp .eq 8, 3) := by decide +kernel
theorem d_M_piecesOf_25 : decode m_M_piecesOf.2.1 25 = .ok (.iload 4, 2) := by decide +kernel
theorem d_M_piecesOf_27 : decode m_M_piecesOf.2.1 27 = .ok (.goto 4, 3) := by decide +kernel
theorem d_M_piecesOf_30 : decode m_M_piecesOf.2.1 30 = .ok (.iconst 1, 1) := by decide +kernel
theorem d_M_piecesOf_31 : decode m_M_piecesOf.2.1 31 = .ok (.ireturn, 1) := by decide +kernel
set_option maxHeartbeats 4000000 in
set_option maxRecDepth 20000 in
theorem c_M_piecesOf (G : Gt) (x1 : Int32) (x2 : Int32) (x3 : Int32) (h : Hp) : Cn G m_M_piecesOf [.ref (ad G 31), .int x1, .int x2, .int x3] h κi (f_M_piecesOf x1 x2 x3 h) := by
  refine entryV (by decide) (Nat.le_of_ble_eq_true rfl) rfl ?_
  show V G m_M_piecesOf 0 [(0, .ref (ad G 31)), (1, .int x1), (2, .int x2), (3, .int x3)] [] h κi _
  unfold f_M_piecesOf
  refine v_aload_n 0 d_M_piecesOf_0 rfl rfl ?_
  refine v_iload_n 1 d_M_piecesOf_1 rfl rfl ?_
  refine v_iload_n 2 d_M_piecesOf_2 rfl rfl ?_
  refine v_iload_n 3 d_M_piecesOf_3 rfl rfl ?_
  refine v_callVi (As := [.int x1, .int x2, .int x3]) (rest := []) (c_M_hangsOf G x1 x2 x3 h) co_M_165 io_M_hangsOf o_31 ⟨by decide, by decide⟩ rfl rfl (Nat.le_of_ble_eq_true rfl) d_M_piecesOf_4 (fun r1 h1 _ => ?_)
  refine v_istore [(4, .int r1), (0, .ref (ad G 31)), (1, .int x1), (2, .int x2), (3, .int x3)] d_M_piecesOf_7 (by decide) rfl ?_
  refine v_iload 0 d_M_piecesOf_9 rfl ?_
  refine v_bipush (-3) d_M_piecesOf_11 rfl ?_
  refine v_icmp_eq 25 d_M_piecesOf_13 (by decide) (fun c2 => ?_) (fun c2 => ?_)
  · refine v_iload 0 d_M_piecesOf_25 rfl ?_
    refine v_goto 31 d_M_piecesOf_27 (by decide) ?_
    exact v_iret rfl d_M_piecesOf_31
  · refine v_aload_n 1 d_M_piecesOf_16 rfl rfl ?_
    refine v_iload_n 4 d_M_piecesOf_17 rfl rfl ?_
    refine v_callVi (As := [.int x3]) (rest := []) (c_M_indexOf G x3 h1) co_M_162 io_M_indexOf o_31 ⟨by decide, by decide⟩ rfl rfl (Nat.le_of_ble_eq_true rfl) d_M_piecesOf_18 (fun r3 h3 _ => ?_)
    refine v_iconst (-1) d_M_piecesOf_21 rfl ?_
    refine v_icmp_eq 30 d_M_piecesOf_22 (by decide) (fun c4 => ?_) (fun c4 => ?_)
    · refine v_iconst 1 d_M_piecesOf_30 rfl ?_
      exact v_iret rfl d_M_piecesOf_31
    · refine v_iload 0 d_M_piecesOf_25 rfl ?_
      refine v_goto 31 d_M_piecesOf_27 (by decide) ?_
      exact v_iret rfl d_M_piecesOf_31
theorem d_M_pieces_0 : decode m_M_pieces.2.1 0 = .ok (.aload_n 0, 1) := by decide +kernel
theorem d_M_pieces_1 : decode m_M_pieces.2.1 1 = .ok (.iload_n 1, 1) := by decide +kernel
theorem d_M_pieces_2 : decode m_M_pieces.2.1 2 = .ok (.iload_n 2, 1) := by decide +kernel
theorem d_M_pieces_3 : decode m_M_pieces.2.1 3 = .ok (.invokevirtual 140, 3) := by decide +kernel
theorem d_M_pieces_6 : decode m_M_pieces.2.1 6 = .ok (.ifCond .eq 21, 3) := by decide +kernel
theorem d_M_pieces_9 : decode m_M_pieces.2.1 9 = .ok (.aload_n 0, 1) := by decide +kernel
theorem d_M_pieces_10 : decode m_M_pieces.2.1 10 = .ok (.iload_n 3, 1) := by decide +kernel
theorem d_M_pieces_11 : decode m_M_pieces.2.1 11 = .ok (.invokevirtual 84, 3) := by decide +kernel
theorem d_M_pieces_14 : decode m_M_pieces.2.1 14 = .ok (.ifCond .eq 13, 3) := by decide +kernel
theorem d_M_pieces_17 : decode m_M_pieces.2.1 17 = .ok (.aload_n 0, 1) := by decide +kernel
theorem d_M_pieces_18 : decode m_M_pieces.2.1 18 = .ok (.iload_n 1, 1) := by decide +kernel
theorem d_M_pieces_19 : decode m_M_pieces.2.1 19 = .ok (.iload_n 2, 1) := by decide +kernel
theorem d_M_pieces_20 : decode m_M_pieces.2.1 20 = .ok (.iload_n 3, 1) := by decide +kernel
theorem d_M_pieces_21 : decode m_M_pieces.2.1 21 = .ok (.invokevirtual 168, 3) := by decide +kernel
theorem d_M_pieces_24 : decode m_M_pieces.2.1 24 = .ok (.goto 5, 3) := by decide +kernel
theorem d_M_pieces_27 : decode m_M_pieces.2.1 27 = .ok (.bipush (-2), 2) := by decide +kernel
theorem d_M_pieces_29 : decode m_M_pieces.2.1 29 = .ok (.ireturn, 1) := by decide +kernel
set_option maxHeartbeats 4000000 in
set_option maxRecDepth 20000 in
theorem c_M_pieces (G : Gt) (x1 : Int32) (x2 : Int32) (x3 : Int32) (h : Hp) : Cn G m_M_pieces [.ref (ad G 31), .int x1, .int x2, .int x3] h κi (f_M_pieces x1 x2 x3 h) := by
  refine entryV (by decide) (Nat.le_of_ble_eq_true rfl) rfl ?_
  show V G m_M_pieces 0 [(0, .ref (ad G 31)), (1, .int x1), (2, .int x2), (3, .int x3)] [] h κi _
  unfold f_M_pieces
  refine v_aload_n 0 d_M_pieces_0 rfl rfl ?_
  refine v_iload_n 1 d_M_pieces_1 rfl rfl ?_
  refine v_iload_n 2 d_M_pieces_2 rfl rfl ?_
  refine v_callVi (As := [.int x1, .int x2]) (rest := []) (c_M_isWeb G x1 x2 h) co_M_140 io_M_isWeb o_31 ⟨by decide, by decide⟩ rfl rfl (Nat.le_of_ble_eq_true rfl) d_M_pieces_3 (fun r1 h1 _ => ?_)
  refine v_if_eq 27 d_M_pieces_6 (by decide) (fun c2 => ?_) (fun c2 => ?_)
  · refine v_bipush (-2) d_M_pieces_27 rfl ?_
    exact v_iret rfl d_M_pieces_29
  · refine v_aload_n 0 d_M_pieces_9 rfl rfl ?_
    refine v_iload_n 3 d_M_pieces_10 rfl rfl ?_
    refine v_callVi (As := [.int x3]) (rest := []) (c_M_isPeg G x3 h1) co_M_84 io_M_isPeg o_31 ⟨by decide, by decide⟩ rfl rfl (Nat.le_of_ble_eq_true rfl) d_M_pieces_11 (fun r3 h3 _ => ?_)
    refine v_if_eq 27 d_M_pieces_14 (by decide) (fun c4 => ?_) (fun c4 => ?_)
    · refine v_bipush (-2) d_M_pieces_27 rfl ?_
      exact v_iret rfl d_M_pieces_29
    · refine v_aload_n 0 d_M_pieces_17 rfl rfl ?_
      refine v_iload_n 1 d_M_pieces_18 rfl rfl ?_
      refine v_iload_n 2 d_M_pieces_19 rfl rfl ?_
      refine v_iload_n 3 d_M_pieces_20 rfl rfl ?_
      refine v_callVi (As := [.int x1, .int x2, .int x3]) (rest := []) (c_M_piecesOf G x1 x2 x3 h3) co_M_168 io_M_piecesOf o_31 ⟨by decide, by decide⟩ rfl rfl (Nat.le_of_ble_eq_true rfl) d_M_pieces_21 (fun r5 h5 _ => ?_)
      refine v_goto 29 d_M_pieces_24 (by decide) ?_
      exact v_iret rfl d_M_pieces_29
theorem d_M_turns_0 : decode m_M_turns.2.1 0 = .ok (.iconst 0, 1) := by decide +kernel
theorem d_M_turns_1 : decode m_M_turns.2.1 1 = .ok (.istore_n 2, 1) := by decide +kernel
theorem d_M_turns_2 : decode m_M_turns.2.1 2 = .ok (.iload_n 2, 1) := by decide +kernel
theorem d_M_turns_3 : decode m_M_turns.2.1 3 = .ok (.iload_n 1, 1) := by decide +kernel
theorem d_M_turns_4 : decode m_M_turns.2.1 4 = .ok (.if_icmp .ge 56, 3) := by decide +kernel
theorem d_M_turns_7 : decode m_M_turns.2.1 7 = .ok (.iconst 0, 1) := by decide +kernel
theorem d_M_turns_8 : decode m_M_turns.2.1 8 = .ok (.istore_n 3, 1) := by decide +kernel
theorem d_M_turns_9 : decode m_M_turns.2.1 9 = .ok (.iload_n 3, 1) := by decide +kernel
theorem d_M_turns_10 : decode m_M_turns.2.1 10 = .ok (.aload_n 0, 1) := by decide +kernel
theorem d_M_turns_11 : decode m_M_turns.2.1 11 = .ok (.getfield 67, 3) := by decide +kernel
theorem d_M_turns_14 : decode m_M_turns.2.1 14 = .ok (.if_icmp .ge 40, 3) := by decide +kernel
theorem d_M_turns_17 : decode m_M_turns.2.1 17 = .ok (.aload_n 0, 1) := by decide +kernel
theorem d_M_turns_18 : decode m_M_turns.2.1 18 = .ok (.getfield 13, 3) := by decide +kernel
theorem d_M_turns_21 : decode m_M_turns.2.1 21 = .ok (.iload_n 3, 1) := by decide +kernel
theorem d_M_turns_22 : decode m_M_turns.2.1 22 = .ok (.iaload, 1) := by decide +kernel
theorem d_M_turns_23 : decode m_M_turns.2.1 23 = .ok (.istore 4, 2) := by decide +kernel
theorem d_M_turns_25 : decode m_M_turns.2.1 25 = .ok (.aload_n 0, 1) := by decide +kernel
theorem d_M_turns_26 : decode m_M_turns.2.1 26 = .ok (.getfield 13, 3) := by decide +kernel
theorem d_M_turns_29 : decode m_M_turns.2.1 29 = .ok (.iload_n 3, 1) := by decide +kernel
theorem d_M_turns_30 : decode m_M_turns.2.1 30 = .ok (.bipush 9, 2) := by decide +kernel
theorem d_M_turns_32 : decode m_M_turns.2.1 32 = .ok (.aload_n 0, 1) := by decide +kernel
theorem d_M_turns_33 : decode m_M_turns.2.1 33 = .ok (.getfield 16, 3) := by decide +kernel
theorem d_M_turns_36 : decode m_M_turns.2.1 36 = .ok (.iload_n 3, 1) := by decide +kernel
theorem d_M_turns_37 : decode m_M_turns.2.1 37 = .ok (.iaload, 1) := by decide +kernel
theorem d_M_turns_38 : decode m_M_turns.2.1 38 = .ok (.isub, 1) := by decide +kernel
theorem d_M_turns_39 : decode m_M_turns.2.1 39 = .ok (.iastore, 1) := by decide +kernel
theorem d_M_turns_40 : decode m_M_turns.2.1 40 = .ok (.aload_n 0, 1) := by decide +kernel
theorem d_M_turns_41 : decode m_M_turns.2.1 41 = .ok (.getfield 16, 3) := by decide +kernel
theorem d_M_turns_44 : decode m_M_turns.2.1 44 = .ok (.iload_n 3, 1) := by decide +kernel
theorem d_M_turns_45 : decode m_M_turns.2.1 45 = .ok (.iload 4, 2) := by decide +kernel
theorem d_M_turns_47 : decode m_M_turns.2.1 47 = .ok (.iastore, 1) := by decide +kernel
theorem d_M_turns_48 : decode m_M_turns.2.1 48 = .ok (.iinc 3 1, 3) := by decide +kernel
theorem d_M_turns_51 : decode m_M_turns.2.1 51 = .ok (.goto (-42), 3) := by decide +kernel
theorem d_M_turns_54 : decode m_M_turns.2.1 54 = .ok (.iinc 2 1, 3) := by decide +kernel
theorem d_M_turns_57 : decode m_M_turns.2.1 57 = .ok (.goto (-55), 3) := by decide +kernel
theorem d_M_turns_60 : decode m_M_turns.2.1 60 = .ok (.return_, 1) := by decide +kernel
set_option maxHeartbeats 4000000 in
set_option maxRecDepth 20000 in
theorem Vl_M_turns_9 (G : Gt) (K2 : Int32 → Int32 → Hp → Option (Unit × Hp)) (hK2 : ∀ (x1 : Int32) (x2 : Int32) (h : Hp), V G m_M_turns 2 [(0, .ref (ad G 31)), (1, .int x1), (2, .int x2)] [] h κv (K2 x1 x2 h)) : ∀ (n : Nat) (x1 : Int32) (x2 : Int32) (x3 : Int32) (h : Hp), V G m_M_turns 9 [(0, .ref (ad G 31)), (1, .int x1), (2, .int x2), (3, .int x3)] [] h κv (l_M_turns_9 K2 n x1 x2 x3 h) := by
  intro n
  induction n with
  | zero => intros; exact v_none
  | succ n ih =>
    intro x1 x2 x3 h
    rw [l_M_turns_9]
    refine v_iload_n 3 d_M_turns_9 rfl rfl ?_
    refine v_aload_n 0 d_M_turns_10 rfl rfl ?_
    refine v_geti fl_M_67 o_31 rfl d_M_turns_11 ?_
    refine v_icmp_ge 54 d_M_turns_14 (by decide) (fun c2 => ?_) (fun c2 => ?_)
    · refine v_iinc (x2 + 1) 2 [(2, .int (x2 + 1)), (0, .ref (ad G 31)), (1, .int x1), (3, .int x3)] d_M_turns_54 rfl rfl (by decide) rfl ?_
      refine v_goto 2 d_M_turns_57 (by decide) ?_
      exact v_sub [1, 2, 0] rfl (hK2 x1 (x2 + 1) h)
    · refine v_aload_n 0 d_M_turns_17 rfl rfl ?_
      refine v_getr 33 fl_M_13 o_31 rfl rfl d_M_turns_18 ?_
      refine v_iload_n 3 d_M_turns_21 rfl rfl ?_
      refine v_iald ar_33 d_M_turns_22 ?_
      refine v_istore [(4, .int (h 33 (ix x3))), (0, .ref (ad G 31)), (1, .int x1), (2, .int x2), (3, .int x3)] d_M_turns_23 (by decide) rfl ?_
      refine v_aload_n 1 d_M_turns_25 rfl rfl ?_
      refine v_getr 33 fl_M_13 o_31 rfl rfl d_M_turns_26 ?_
      refine v_iload_n 4 d_M_turns_29 rfl rfl ?_
      refine v_bipush 9 d_M_turns_30 rfl ?_
      refine v_aload_n 1 d_M_turns_32 rfl rfl ?_
      refine v_getr 34 fl_M_16 o_31 rfl rfl d_M_turns_33 ?_
      refine v_iload_n 4 d_M_turns_36 rfl rfl ?_
      refine v_iald ar_34 d_M_turns_37 ?_
      refine v_isub d_M_turns_38 ?_
      refine v_iast ar_33 d_M_turns_39 ?_
      refine v_aload_n 1 d_M_turns_40 rfl rfl ?_
      refine v_getr 34 fl_M_16 o_31 rfl rfl d_M_turns_41 ?_
      refine v_iload_n 4 d_M_turns_44 rfl rfl ?_
      refine v_iload 0 d_M_turns_45 rfl ?_
      refine v_iast ar_34 d_M_turns_47 ?_
      refine v_iinc (x3 + 1) 4 [(3, .int (x3 + 1)), (4, .int (h 33 (ix x3))), (0, .ref (ad G 31)), (1, .int x1), (2, .int x2)] d_M_turns_48 rfl rfl (by decide) rfl ?_
      refine v_goto 9 d_M_turns_51 (by decide) ?_
      exact v_sub [2, 3, 4, 0] rfl (ih x1 x2 (x3 + 1) (hset (hset h 33 (ix x3) (9 - (h 34 (ix x3)))) 34 (ix x3) (h 33 (ix x3))))
set_option maxHeartbeats 4000000 in
set_option maxRecDepth 20000 in
theorem Vl_M_turns_2 (G : Gt) : ∀ (n : Nat) (x1 : Int32) (x2 : Int32) (h : Hp), V G m_M_turns 2 [(0, .ref (ad G 31)), (1, .int x1), (2, .int x2)] [] h κv (l_M_turns_2 n x1 x2 h) := by
  intro n
  induction n with
  | zero => intros; exact v_none
  | succ n ih =>
    intro x1 x2 h
    rw [l_M_turns_2]
    refine v_iload_n 2 d_M_turns_2 rfl rfl ?_
    refine v_iload_n 1 d_M_turns_3 rfl rfl ?_
    refine v_icmp_ge 60 d_M_turns_4 (by decide) (fun c1 => ?_) (fun c1 => ?_)
    · exact v_vret rfl d_M_turns_60
    · refine v_iconst 0 d_M_turns_7 rfl ?_
      refine v_istore_n [(3, .int 0), (0, .ref (ad G 31)), (1, .int x1), (2, .int x2)] d_M_turns_8 rfl (by decide) rfl ?_
      exact v_sub [1, 2, 3, 0] rfl (Vl_M_turns_9 G (l_M_turns_2 n) ih FUEL x1 x2 0 h)
set_option maxHeartbeats 4000000 in
set_option maxRecDepth 20000 in
theorem c_M_turns (G : Gt) (x1 : Int32) (h : Hp) : Cn G m_M_turns [.ref (ad G 31), .int x1] h κv (f_M_turns x1 h) := by
  refine entryV (by decide) (Nat.le_of_ble_eq_true rfl) rfl ?_
  show V G m_M_turns 0 [(0, .ref (ad G 31)), (1, .int x1)] [] h κv _
  unfold f_M_turns
  refine v_iconst 0 d_M_turns_0 rfl ?_
  refine v_istore_n [(2, .int 0), (0, .ref (ad G 31)), (1, .int x1)] d_M_turns_1 rfl (by decide) rfl ?_
  exact v_sub [1, 2, 0] rfl (Vl_M_turns_2 G FUEL x1 0 h)
theorem d_M_turnedOf_0 : decode m_M_turnedOf.2.1 0 = .ok (.aload_n 0, 1) := by decide +kernel
theorem d_M_turnedOf_1 : decode m_M_turnedOf.2.1 1 = .ok (.iload_n 1, 1) := by decide +kernel
theorem d_M_turnedOf_2 : decode m_M_turnedOf.2.1 2 = .ok (.invokevirtual 133, 3) := by decide +kernel
theorem d_M_turnedOf_5 : decode m_M_turnedOf.2.1 5 = .ok (.ifCond .eq 6, 3) := by decide +kernel
theorem d_M_turnedOf_8 : decode m_M_turnedOf.2.1 8 = .ok (.bipush (-3), 2) := by decide +kernel
theorem d_M_turnedOf_10 : decode m_M_turnedOf.2.1 10 = .ok (.ireturn, 1) := by decide +kernel
theorem d_M_turnedOf_11 : decode m_M_turnedOf.2.1 11 = .ok (.aload_n 0, 1) := by decide +kernel
theorem d_M_turnedOf_12 : decode m_M_turnedOf.2.1 12 = .ok (.iload_n 1, 1) := by decide +kernel
theorem d_M_turnedOf_13 : decode m_M_turnedOf.2.1 13 = .ok (.iload_n 2, 1) := by decide +kernel
theorem d_M_turnedOf_14 : decode m_M_turnedOf.2.1 14 = .ok (.aload_n 0, 1) := by decide +kernel
theorem d_M_turnedOf_15 : decode m_M_turnedOf.2.1 15 = .ok (.getfield 81, 3) := by decide +kernel
theorem d_M_turnedOf_18 : decode m_M_turnedOf.2.1 18 = .ok (.invokevirtual 136, 3) := by decide +kernel
theorem d_M_turnedOf_21 : decode m_M_turnedOf.2.1 21 = .ok (.aload_n 0, 1) := by decide +kernel
theorem d_M_turnedOf_22 : decode m_M_turnedOf.2.1 22 = .ok (.getfield 117, 3) := by decide +kernel
theorem d_M_turnedOf_25 : decode m_M_turnedOf.2.1 25 = .ok (.istore_n 3, 1) := by decide +kernel
theorem d_M_turnedOf_26 : decode m_M_turnedOf.2.1 26 = .ok (.iconst 0, 1) := by decide +kernel
theorem d_M_turnedOf_27 : decode m_M_turnedOf.2.1 27 = .ok (.istore 4, 2) := by decide +kernel
theorem d_M_turnedOf_29 : decode m_M_turnedOf.2.1 29 = .ok (.iload 4, 2) := by decide +kernel
theorem d_M_turnedOf_31 : decode m_M_turnedOf.2.1 31 = .ok (.iload_n 3, 1) := by decide +kernel
theorem d_M_turnedOf_32 : decode m_M_turnedOf.2.1 32 = .ok (.if_icmp .ge 23, 3) := by decide +kernel
theorem d_M_turnedOf_35 : decode m_M_turnedOf.2.1 35 = .ok (.aload_n 0, 1) := by decide +kernel
theorem d_M_turnedOf_36 : decode m_M_turnedOf.2.1 36 = .ok (.getfield 22, 3) := by decide +kernel
theorem d_M_turnedOf_39 : decode m_M_turnedOf.2.1 39 = .ok (.iload 4, 2) := by decide +kernel
theorem d_M_turnedOf_41 : decode m_M_turnedOf.2.1 41 = .ok (.aload_n 0, 1) := by decide +kernel
theorem d_M_turnedOf_42 : decode m_M_turnedOf.2.1 42 = .ok (.getfield 19, 3) := by decide +kernel
theorem d_M_turnedOf_45 : decode m_M_turnedOf.2.1 45 = .ok (.iload 4, 2) := by decide +kernel
theorem d_M_turnedOf_47 : decode m_M_turnedOf.2.1 47 = .ok (.iaload, 1) := by decide +kernel
theorem d_M_turnedOf_48 : decode m_M_turnedOf.2.1 48 = .ok (.iastore, 1) := by decide +kernel
theorem d_M_turnedOf_49 : decode m_M_turnedOf.2.1 49 = .ok (.iinc 4 1, 3) := by decide +kernel
theorem d_M_turnedOf_52 : decode m_M_turnedOf.2.1 52 = .ok (.goto (-23), 3) := by decide +kernel
theorem d_M_turnedOf_55 : decode m_M_turnedOf.2.1 55 = .ok (.aload_n 0, 1) := by decide +kernel
theorem d_M_turnedOf_56 : decode m_M_turnedOf.2.1 56 = .ok (.iconst 1, 1) := by decide +kernel
theorem d_M_turnedOf_57 : decode m_M_turnedOf.2.1 57 = .ok (.invokevirtual 171, 3) := by decide +kernel
theorem d_M_turnedOf_60 : decode m_M_turnedOf.2.1 60 = .ok (.aload_n 0, 1) := by decide +kernel
theorem d_M_turnedOf_61 : decode m_M_turnedOf.2.1 61 = .ok (.iload_n 1, 1) := by decide +kernel
theorem d_M_turnedOf_62 : decode m_M_turnedOf.2.1 62 = .ok (.iload_n 2, 1) := by decide +kernel
theorem d_M_turnedOf_63 : decode m_M_turnedOf.2.1 63 = .ok (.aload_n 0, 1) := by decide +kernel
theorem d_M_turnedOf_64 : decode m_M_turnedOf.2.1 64 = .ok (.getfield 81, 3) := by decide +kernel
theorem d_M_turnedOf_67 : decode m_M_turnedOf.2.1 67 = .ok (.invokevirtual 136, 3) := by decide +kernel
theorem d_M_turnedOf_70 : decode m_M_turnedOf.2.1 70 = .ok (.aload_n 0, 1) := by decide +kernel
theorem d_M_turnedOf_71 : decode m_M_turnedOf.2.1 71 = .ok (.iconst 3, 1) := by decide +kernel
theorem d_M_turnedOf_72 : decode m_M_turnedOf.2.1 72 = .ok (.invokevirtual 171, 3) := by decide +kernel
theorem d_M_turnedOf_75 : decode m_M_turnedOf.2.1 75 = .ok (.aload_n 0, 1) := by decide +kernel
theorem d_M_turnedOf_76 : decode m_M_turnedOf.2.1 76 = .ok (.getfield 117, 3) := by decide +kernel
theorem d_M_turnedOf_79 : decode m_M_turnedOf.2.1 79 = .ok (.iload_n 3, 1) := by decide +kernel
theorem d_M_turnedOf_80 : decode m_M_turnedOf.2.1 80 = .ok (.if_icmp .ne 7, 3) := by decide +kernel
theorem d_M_turnedOf_83 : decode m_M_turnedOf.2.1 83 = .ok (.iconst 1, 1) := by decide +kernel
theorem d_M_turnedOf_84 : decode m_M_turnedOf.2.1 84 = .ok (.goto 4, 3) := by decide +kernel
theorem d_M_turnedOf_87 : decode m_M_turnedOf.2.1 87 = .ok (.iconst 0, 1) := by decide +kernel
theorem d_M_turnedOf_88 : decode m_M_turnedOf.2.1 88 = .ok (.istore 4, 2) := by decide +kernel
theorem d_M_turnedOf_90 : decode m_M_turnedOf.2.1 90 = .ok (.iconst 0, 1) := by decide +kernel
theorem d_M_turnedOf_91 : decode m_M_turnedOf.2.1 91 = .ok (.istore 5, 2) := by decide +kernel
theorem d_M_turnedOf_93 : decode m_M_turnedOf.2.1 93 = .ok (.iload 5, 2) := by decide +kernel
theorem d_M_turnedOf_95 : decode m_M_turnedOf.2.1 95 = .ok (.iload_n 3, 1) := by decide +kernel
theorem d_M_turnedOf_96 : decode m_M_turnedOf.2.1 96 = .ok (.if_icmp .ge 38, 3) := by decide +kernel
theorem d_M_turnedOf_99 : decode m_M_turnedOf.2.1 99 = .ok (.iload 4, 2) := by decide +kernel
theorem d_M_turnedOf_101 : decode m_M_turnedOf.2.1 101 = .ok (.ifCond .eq 33, 3) := by decide +kernel
theorem d_M_turnedOf_104 : decode m_M_turnedOf.2.1 104 = .ok (.aload_n 0, 1) := by decide +kernel
theorem d_M_turnedOf_105 : decode m_M_turnedOf.2.1 105 = .ok (.getfield 19, 3) := by decide +kernel
theorem d_M_turnedOf_108 : decode m_M_turnedOf.2.1 108 = .ok (.iload 5, 2) := by decide +kernel
theorem d_M_turnedOf_110 : decode m_M_turnedOf.2.1 110 = .ok (.iaload, 1) := by decide +kernel
theorem d_M_turnedOf_111 : decode m_M_turnedOf.2.1 111 = .ok (.aload_n 0, 1) := by decide +kernel
theorem d_M_turnedOf_112 : decode m_M_turnedOf.2.1 112 = .ok (.getfield 22, 3) := by decide +kernel
theorem d_M_turnedOf_115 : decode m_M_turnedOf.2.1 115 = .ok (.iload 5, 2) := by decide +kernel
theorem d_M_turnedOf_117 : decode m_M_turnedOf.2.1 117 = .ok (.iaload, 1) := by decide +kernel
theorem d_M_turnedOf_118 : decode m_M_turnedOf.2.1 118 = .ok (.if_icmp .ne 7, 3) := by decide +kernel
theorem d_M_turnedOf_121 : decode m_M_turnedOf.2.1 121 = .ok (.iconst 1, 1) := by decide +kernel
theorem d_M_turnedOf_122 : decode m_M_turnedOf.2.1 122 = .ok (.goto 4, 3) := by decide +kernel
theorem d_M_turnedOf_125 : decode m_M_turnedOf.2.1 125 = .ok (.iconst 0, 1) := by decide +kernel
theorem d_M_turnedOf_126 : decode m_M_turnedOf.2.1 126 = .ok (.istore 4, 2) := by decide +kernel
theorem d_M_turnedOf_128 : decode m_M_turnedOf.2.1 128 = .ok (.iinc 5 1, 3) := by decide +kernel
theorem d_M_turnedOf_131 : decode m_M_turnedOf.2.1 131 = .ok (.goto (-38), 3) := by decide +kernel
theorem d_M_turnedOf_134 : decode m_M_turnedOf.2.1 134 = .ok (.iload 4, 2) := by decide +kernel
theorem d_M_turnedOf_136 : decode m_M_turnedOf.2.1 136 = .ok (.ifCond .eq 7, 3) := by decide +kernel
theorem d_M_turnedOf_139 : decode m_M_turnedOf.2.1 139 = .ok (.iconst 1, 1) := by decide +kernel
theorem d_M_turnedOf_140 : decode m_M_turnedOf.2.1 140 = .ok (.goto 4, 3) := by decide +kernel
theorem d_M_turnedOf_143 : decode m_M_turnedOf.2.1 143 = .ok (.iconst 0, 1) := by decide +kernel
theorem d_M_turnedOf_144 : decode m_M_turnedOf.2.1 144 = .ok (.ireturn, 1) := by decide +kernel
set_option maxHeartbeats 4000000 in
set_option maxRecDepth 20000 in
theorem Vl_M_turnedOf_93 (G : Gt) : ∀ (n : Nat) (x3 : Int32) (x4 : Int32) (x5 : Int32) (h : Hp), V G m_M_turnedOf 93 [(0, .ref (ad G 31)), (3, .int x3), (4, .int x4), (5, .int x5)] [] h κi (l_M_turnedOf_93 n x3 x4 x5 h) := by
  intro n
  induction n with
  | zero => intros; exact v_none
  | succ n ih =>
    intro x3 x4 x5 h
    rw [l_M_turnedOf_93]
    refine v_iload 3 d_M_turnedOf_93 rfl ?_
    refine v_iload_n 1 d_M_turnedOf_95 rfl rfl ?_
    refine v_icmp_ge 134 d_M_turnedOf_96 (by decide) (fun c9 => ?_) (fun c9 => ?_)
    · refine v_iload 2 d_M_turnedOf_134 rfl ?_
      refine v_if_eq 143 d_M_turnedOf_136 (by decide) (fun c10 => ?_) (fun c10 => ?_)
      · refine v_iconst 0 d_M_turnedOf_143 rfl ?_
        exact v_iret rfl d_M_turnedOf_144
      · refine v_iconst 1 d_M_turnedOf_139 rfl ?_
        refine v_goto 144 d_M_turnedOf_140 (by decide) ?_
        exact v_iret rfl d_M_turnedOf_144
    · refine v_iload 2 d_M_turnedOf_99 rfl ?_
      refine v_if_eq 134 d_M_turnedOf_101 (by decide) (fun c11 => ?_) (fun c11 => ?_)
      · refine v_iload 2 d_M_turnedOf_134 rfl ?_
        refine v_if_eq_t 143 d_M_turnedOf_136 (by decide) c11 ?_
        refine v_iconst 0 d_M_turnedOf_143 rfl ?_
        exact v_iret rfl d_M_turnedOf_144
      · refine v_aload_n 0 d_M_turnedOf_104 rfl rfl ?_
        refine v_getr 35 fl_M_19 o_31 rfl rfl d_M_turnedOf_105 ?_
        refine v_iload 3 d_M_turnedOf_108 rfl ?_
        refine v_iald ar_35 d_M_turnedOf_110 ?_
        refine v_aload_n 0 d_M_turnedOf_111 rfl rfl ?_
        refine v_getr 36 fl_M_22 o_31 rfl rfl d_M_turnedOf_112 ?_
        refine v_iload 3 d_M_turnedOf_115 rfl ?_
        refine v_iald ar_36 d_M_turnedOf_117 ?_
        refine v_icmp_ne 125 d_M_turnedOf_118 (by decide) (fun c12 => ?_) (fun c12 => ?_)
        · refine v_iconst 1 d_M_turnedOf_121 rfl ?_
          refine v_goto 126 d_M_turnedOf_122 (by decide) ?_
          refine v_istore [(4, .int 1), (0, .ref (ad G 31)), (3, .int x3), (5, .int x5)] d_M_turnedOf_126 (by decide) rfl ?_
          refine v_iinc (x5 + 1) 3 [(5, .int (x5 + 1)), (4, .int 1), (0, .ref (ad G 31)), (3, .int x3)] d_M_turnedOf_128 rfl rfl (by decide) rfl ?_
          refine v_goto 93 d_M_turnedOf_131 (by decide) ?_
          exact v_sub [2, 3, 1, 0] rfl (ih x3 1 (x5 + 1) h)
        · refine v_iconst 0 d_M_turnedOf_125 rfl ?_
          refine v_istore [(4, .int 0), (0, .ref (ad G 31)), (3, .int x3), (5, .int x5)] d_M_turnedOf_126 (by decide) rfl ?_
          refine v_iinc (x5 + 1) 3 [(5, .int (x5 + 1)), (4, .int 0), (0, .ref (ad G 31)), (3, .int x3)] d_M_turnedOf_128 rfl rfl (by decide) rfl ?_
          refine v_goto 93 d_M_turnedOf_131 (by decide) ?_
          exact v_sub [2, 3, 1, 0] rfl (ih x3 0 (x5 + 1) h)
set_option maxHeartbeats 4000000 in
set_option maxRecDepth 20000 in
theorem Vl_M_turnedOf_29 (G : Gt) : ∀ (n : Nat) (x1 : Int32) (x2 : Int32) (x3 : Int32) (x4 : Int32) (h : Hp), V G m_M_turnedOf 29 [(0, .ref (ad G 31)), (1, .int x1), (2, .int x2), (3, .int x3), (4, .int x4)] [] h κi (l_M_turnedOf_29 n x1 x2 x3 x4 h) := by
  intro n
  induction n with
  | zero => intros; exact v_none
  | succ n ih =>
    intro x1 x2 x3 x4 h
    rw [l_M_turnedOf_29]
    refine v_iload 4 d_M_turnedOf_29 rfl ?_
    refine v_iload_n 3 d_M_turnedOf_31 rfl rfl ?_
    refine v_icmp_ge 55 d_M_turnedOf_32 (by decide) (fun c4 => ?_) (fun c4 => ?_)
    · refine v_aload_n 0 d_M_turnedOf_55 rfl rfl ?_
      refine v_iconst 1 d_M_turnedOf_56 rfl ?_
      refine v_callVv (As := [.int 1]) (rest := []) (c_M_turns G 1 h) co_M_171 io_M_turns o_31 ⟨by decide, by decide⟩ rfl rfl (Nat.le_of_ble_eq_true rfl) d_M_turnedOf_57 (fun _ h5 _ => ?_)
      refine v_aload_n 0 d_M_turnedOf_60 rfl rfl ?_
      refine v_iload_n 1 d_M_turnedOf_61 rfl rfl ?_
      refine v_iload_n 2 d_M_turnedOf_62 rfl rfl ?_
      refine v_aload_n 0 d_M_turnedOf_63 rfl rfl ?_
      refine v_geti fl_M_81 o_31 rfl d_M_turnedOf_64 ?_
      refine v_callVv (As := [.int x1, .int x2, .int (h5 31 5)]) (rest := []) (c_M_lays G x1 x2 (h5 31 5) h5) co_M_136 io_M_lays o_31 ⟨by decide, by decide⟩ rfl rfl (Nat.le_of_ble_eq_true rfl) d_M_turnedOf_67 (fun _ h6 _ => ?_)
      refine v_aload_n 0 d_M_turnedOf_70 rfl rfl ?_
      refine v_iconst 3 d_M_turnedOf_71 rfl ?_
      refine v_callVv (As := [.int 3]) (rest := []) (c_M_turns G 3 h6) co_M_171 io_M_turns o_31 ⟨by decide, by decide⟩ rfl rfl (Nat.le_of_ble_eq_true rfl) d_M_turnedOf_72 (fun _ h7 _ => ?_)
      refine v_aload_n 0 d_M_turnedOf_75 rfl rfl ?_
      refine v_geti fl_M_117 o_31 rfl d_M_turnedOf_76 ?_
      refine v_iload_n 3 d_M_turnedOf_79 rfl rfl ?_
      refine v_icmp_ne 87 d_M_turnedOf_80 (by decide) (fun c8 => ?_) (fun c8 => ?_)
      · refine v_iconst 1 d_M_turnedOf_83 rfl ?_
        refine v_goto 88 d_M_turnedOf_84 (by decide) ?_
        refine v_istore [(4, .int 1), (0, .ref (ad G 31)), (1, .int x1), (2, .int x2), (3, .int x3)] d_M_turnedOf_88 (by decide) rfl ?_
        refine v_iconst 0 d_M_turnedOf_90 rfl ?_
        refine v_istore [(5, .int 0), (4, .int 1), (0, .ref (ad G 31)), (1, .int x1), (2, .int x2), (3, .int x3)] d_M_turnedOf_91 (by decide) rfl ?_
        exact v_sub [2, 5, 1, 0] rfl (Vl_M_turnedOf_93 G FUEL x3 1 0 h7)
      · refine v_iconst 0 d_M_turnedOf_87 rfl ?_
        refine v_istore [(4, .int 0), (0, .ref (ad G 31)), (1, .int x1), (2, .int x2), (3, .int x3)] d_M_turnedOf_88 (by decide) rfl ?_
        refine v_iconst 0 d_M_turnedOf_90 rfl ?_
        refine v_istore [(5, .int 0), (4, .int 0), (0, .ref (ad G 31)), (1, .int x1), (2, .int x2), (3, .int x3)] d_M_turnedOf_91 (by decide) rfl ?_
        exact v_sub [2, 5, 1, 0] rfl (Vl_M_turnedOf_93 G FUEL x3 0 0 h7)
    · refine v_aload_n 0 d_M_turnedOf_35 rfl rfl ?_
      refine v_getr 36 fl_M_22 o_31 rfl rfl d_M_turnedOf_36 ?_
      refine v_iload 4 d_M_turnedOf_39 rfl ?_
      refine v_aload_n 0 d_M_turnedOf_41 rfl rfl ?_
      refine v_getr 35 fl_M_19 o_31 rfl rfl d_M_turnedOf_42 ?_
      refine v_iload 4 d_M_turnedOf_45 rfl ?_
      refine v_iald ar_35 d_M_turnedOf_47 ?_
      refine v_iast ar_36 d_M_turnedOf_48 ?_
      refine v_iinc (x4 + 1) 4 [(4, .int (x4 + 1)), (0, .ref (ad G 31)), (1, .int x1), (2, .int x2), (3, .int x3)] d_M_turnedOf_49 rfl rfl (by decide) rfl ?_
      refine v_goto 29 d_M_turnedOf_52 (by decide) ?_
      exact v_sub [1, 2, 3, 4, 0] rfl (ih x1 x2 x3 (x4 + 1) (hset h 36 (ix x4) (h 35 (ix x4))))
set_option maxHeartbeats 4000000 in
set_option maxRecDepth 20000 in
theorem c_M_turnedOf (G : Gt) (x1 : Int32) (x2 : Int32) (h : Hp) : Cn G m_M_turnedOf [.ref (ad G 31), .int x1, .int x2] h κi (f_M_turnedOf x1 x2 h) := by
  refine entryV (by decide) (Nat.le_of_ble_eq_true rfl) rfl ?_
  show V G m_M_turnedOf 0 [(0, .ref (ad G 31)), (1, .int x1), (2, .int x2)] [] h κi _
  unfold f_M_turnedOf
  refine v_aload_n 0 d_M_turnedOf_0 rfl rfl ?_
  refine v_iload_n 1 d_M_turnedOf_1 rfl rfl ?_
  refine v_callVi (As := [.int x1]) (rest := []) (c_M_isHidden G x1 h) co_M_133 io_M_isHidden o_31 ⟨by decide, by decide⟩ rfl rfl (Nat.le_of_ble_eq_true rfl) d_M_turnedOf_2 (fun r1 h1 _ => ?_)
  refine v_if_eq 11 d_M_turnedOf_5 (by decide) (fun c2 => ?_) (fun c2 => ?_)
  · refine v_aload_n 0 d_M_turnedOf_11 rfl rfl ?_
    refine v_iload_n 1 d_M_turnedOf_12 rfl rfl ?_
    refine v_iload_n 2 d_M_turnedOf_13 rfl rfl ?_
    refine v_aload_n 0 d_M_turnedOf_14 rfl rfl ?_
    refine v_geti fl_M_81 o_31 rfl d_M_turnedOf_15 ?_
    refine v_callVv (As := [.int x1, .int x2, .int (h1 31 5)]) (rest := []) (c_M_lays G x1 x2 (h1 31 5) h1) co_M_136 io_M_lays o_31 ⟨by decide, by decide⟩ rfl rfl (Nat.le_of_ble_eq_true rfl) d_M_turnedOf_18 (fun _ h3 _ => ?_)
    refine v_aload_n 0 d_M_turnedOf_21 rfl rfl ?_
    refine v_geti fl_M_117 o_31 rfl d_M_turnedOf_22 ?_
    refine v_istore_n [(3, .int (h3 31 10)), (0, .ref (ad G 31)), (1, .int x1), (2, .int x2)] d_M_turnedOf_25 rfl (by decide) rfl ?_
    refine v_iconst 0 d_M_turnedOf_26 rfl ?_
    refine v_istore [(4, .int 0), (3, .int (h3 31 10)), (0, .ref (ad G 31)), (1, .int x1), (2, .int x2)] d_M_turnedOf_27 (by decide) rfl ?_
    exact v_sub [2, 3, 4, 1, 0] rfl (Vl_M_turnedOf_29 G FUEL x1 x2 (h3 31 10) 0 h3)
  · refine v_bipush (-3) d_M_turnedOf_8 rfl ?_
    exact v_iret rfl d_M_turnedOf_10
theorem d_M_turned_0 : decode m_M_turned.2.1 0 = .ok (.aload_n 0, 1) := by decide +kernel
theorem d_M_turned_1 : decode m_M_turned.2.1 1 = .ok (.iload_n 1, 1) := by decide +kernel
theorem d_M_turned_2 : decode m_M_turned.2.1 2 = .ok (.iload_n 2, 1) := by decide +kernel
theorem d_M_turned_3 : decode m_M_turned.2.1 3 = .ok (.invokevirtual 140, 3) := by decide +kernel
theorem d_M_turned_6 : decode m_M_turned.2.1 6 = .ok (.ifCond .eq 12, 3) := by decide +kernel
theorem d_M_turned_9 : decode m_M_turned.2.1 9 = .ok (.aload_n 0, 1) := by decide +kernel
theorem d_M_turned_10 : decode m_M_turned.2.1 10 = .ok (.iload_n 1, 1) := by decide +kernel
theorem d_M_turned_11 : decode m_M_turned.2.1 11 = .ok (.iload_n 2, 1) := by decide +kernel
theorem d_M_turned_12 : decode m_M_turned.2.1 12 = .ok (.invokevirtual 175, 3) := by decide +kernel
theorem d_M_turned_15 : decode m_M_turned.2.1 15 = .ok (.goto 5, 3) := by decide +kernel
theorem d_M_turned_18 : decode m_M_turned.2.1 18 = .ok (.bipush (-2), 2) := by decide +kernel
theorem d_M_turned_20 : decode m_M_turned.2.1 20 = .ok (.ireturn, 1) := by decide +kernel
set_option maxHeartbeats 4000000 in
set_option maxRecDepth 20000 in
theorem c_M_turned (G : Gt) (x1 : Int32) (x2 : Int32) (h : Hp) : Cn G m_M_turned [.ref (ad G 31), .int x1, .int x2] h κi (f_M_turned x1 x2 h) := by
  refine entryV (by decide) (Nat.le_of_ble_eq_true rfl) rfl ?_
  show V G m_M_turned 0 [(0, .ref (ad G 31)), (1, .int x1), (2, .int x2)] [] h κi _
  unfold f_M_turned
  refine v_aload_n 0 d_M_turned_0 rfl rfl ?_
  refine v_iload_n 1 d_M_turned_1 rfl rfl ?_
  refine v_iload_n 2 d_M_turned_2 rfl rfl ?_
  refine v_callVi (As := [.int x1, .int x2]) (rest := []) (c_M_isWeb G x1 x2 h) co_M_140 io_M_isWeb o_31 ⟨by decide, by decide⟩ rfl rfl (Nat.le_of_ble_eq_true rfl) d_M_turned_3 (fun r1 h1 _ => ?_)
  refine v_if_eq 18 d_M_turned_6 (by decide) (fun c2 => ?_) (fun c2 => ?_)
  · refine v_bipush (-2) d_M_turned_18 rfl ?_
    exact v_iret rfl d_M_turned_20
  · refine v_aload_n 0 d_M_turned_9 rfl rfl ?_
    refine v_iload_n 1 d_M_turned_10 rfl rfl ?_
    refine v_iload_n 2 d_M_turned_11 rfl rfl ?_
    refine v_callVi (As := [.int x1, .int x2]) (rest := []) (c_M_turnedOf G x1 x2 h1) co_M_175 io_M_turnedOf o_31 ⟨by decide, by decide⟩ rfl rfl (Nat.le_of_ble_eq_true rfl) d_M_turned_12 (fun r3 h3 _ => ?_)
    refine v_goto 20 d_M_turned_15 (by decide) ?_
    exact v_iret rfl d_M_turned_20
theorem d_M_moreOf_0 : decode m_M_moreOf.2.1 0 = .ok (.aload_n 0, 1) := by decide +kernel
theorem d_M_moreOf_1 : decode m_M_moreOf.2.1 1 = .ok (.iload_n 1, 1) := by decide +kernel
theorem d_M_moreOf_2 : decode m_M_moreOf.2.1 2 = .ok (.invokevirtual 133, 3) := by decide +kernel
theorem d_M_moreOf_5 : decode m_M_moreOf.2.1 5 = .ok (.ifCond .ne 26, 3) := by decide +kernel
theorem d_M_moreOf_8 : decode m_M_moreOf.2.1 8 = .ok (.aload_n 0, 1) := by decide +kernel
theorem d_M_moreOf_9 : decode m_M_moreOf.2.1 9 = .ok (.getfield 67, 3) := by decide +kernel
theorem d_M_moreOf_12 : decode m_M_moreOf.2.1 12 = .ok (.bipush 10, 2) := by decide +kernel
theorem d_M_moreOf_14 : decode m_M_moreOf.2.1 14 = .ok (.if_icmp .eq 17, 3) := by decide +kernel
theorem d_M_moreOf_17 : decode m_M_moreOf.2.1 17 = .ok (.aload_n 0, 1) := by decide +kernel
theorem d_M_moreOf_18 : decode m_M_moreOf.2.1 18 = .ok (.iload_n 3, 1) := by decide +kernel
theorem d_M_moreOf_19 : decode m_M_moreOf.2.1 19 = .ok (.iload 4, 2) := by decide +kernel
theorem d_M_moreOf_21 : decode m_M_moreOf.2.1 21 = .ok (.aload_n 0, 1) := by decide +kernel
theorem d_M_moreOf_22 : decode m_M_moreOf.2.1 22 = .ok (.getfield 67, 3) := by decide +kernel
theorem d_M_moreOf_25 : decode m_M_moreOf.2.1 25 = .ok (.invokevirtual 74, 3) := by decide +kernel
theorem d_M_moreOf_28 : decode m_M_moreOf.2.1 28 = .ok (.ifCond .eq 6, 3) := by decide +kernel
theorem d_M_moreOf_31 : decode m_M_moreOf.2.1 31 = .ok (.bipush (-3), 2) := by decide +kernel
theorem d_M_moreOf_33 : decode m_M_moreOf.2.1 33 = .ok (.ireturn, 1) := by decide +kernel
theorem d_M_moreOf_34 : decode m_M_moreOf.2.1 34 = .ok (.aload_n 0, 1) := by decide +kernel
theorem d_M_moreOf_35 : decode m_M_moreOf.2.1 35 = .ok (.getfield 13, 3) := by decide +kernel
theorem d_M_moreOf_38 : decode m_M_moreOf.2.1 38 = .ok (.aload_n 0, 1) := by decide +kernel
theorem d_M_moreOf_39 : decode m_M_moreOf.2.1 39 = .ok (.getfield 67, 3) := by decide +kernel
theorem d_M_moreOf_42 : decode m_M_moreOf.2.1 42 = .ok (.iload_n 3, 1) := by decide +kernel
theorem d_M_moreOf_43 : decode m_M_moreOf.2.1 43 = .ok (.iastore, 1) := by decide +kernel
theorem d_M_moreOf_44 : decode m_M_moreOf.2.1 44 = .ok (.aload_n 0, 1) := by decide +kernel
theorem d_M_moreOf_45 : decode m_M_moreOf.2.1 45 = .ok (.getfield 16, 3) := by decide +kernel
theorem d_M_moreOf_48 : decode m_M_moreOf.2.1 48 = .ok (.aload_n 0, 1) := by decide +kernel
theorem d_M_moreOf_49 : decode m_M_moreOf.2.1 49 = .ok (.getfield 67, 3) := by decide +kernel
theorem d_M_moreOf_52 : decode m_M_moreOf.2.1 52 = .ok (.iload 4, 2) := by decide +kernel
theorem d_M_moreOf_54 : decode m_M_moreOf.2.1 54 = .ok (.iastore, 1) := by decide +kernel
theorem d_M_moreOf_55 : decode m_M_moreOf.2.1 55 = .ok (.aload_n 0, 1) := by decide +kernel
theorem d_M_moreOf_56 : decode m_M_moreOf.2.1 56 = .ok (.dup, 1) := by decide +kernel
theorem d_M_moreOf_57 : decode m_M_moreOf.2.1 57 = .ok (.getfield 67, 3) := by decide +kernel
theorem d_M_moreOf_60 : decode m_M_moreOf.2.1 60 = .ok (.iconst 1, 1) := by decide +kernel
theorem d_M_moreOf_61 : decode m_M_moreOf.2.1 61 = .ok (.iadd, 1) := by decide +kernel
theorem d_M_moreOf_62 : decode m_M_moreOf.2.1 62 = .ok (.putfield 67, 3) := by decide +kernel
theorem d_M_moreOf_65 : decode m_M_moreOf.2.1 65 = .ok (.aload_n 0, 1) := by decide +kernel
theorem d_M_moreOf_66 : decode m_M_moreOf.2.1 66 = .ok (.iload_n 1, 1) := by decide +kernel
theorem d_M_moreOf_67 : decode m_M_moreOf.2.1 67 = .ok (.iload_n 2, 1) := by decide +kernel
theorem d_M_moreOf_68 : decode m_M_moreOf.2.1 68 = .ok (.aload_n 0, 1) := by decide +kernel
theorem d_M_moreOf_69 : decode m_M_moreOf.2.1 69 = .ok (.getfield 81, 3) := by decide +kernel
theorem d_M_moreOf_72 : decode m_M_moreOf.2.1 72 = .ok (.invokevirtual 136, 3) := by decide +kernel
theorem d_M_moreOf_75 : decode m_M_moreOf.2.1 75 = .ok (.aload_n 0, 1) := by decide +kernel
theorem d_M_moreOf_76 : decode m_M_moreOf.2.1 76 = .ok (.dup, 1) := by decide +kernel
theorem d_M_moreOf_77 : decode m_M_moreOf.2.1 77 = .ok (.getfield 67, 3) := by decide +kernel
theorem d_M_moreOf_80 : decode m_M_moreOf.2.1 80 = .ok (.iconst 1, 1) := by decide +kernel
theorem d_M_moreOf_81 : decode m_M_moreOf.2.1 81 = .ok (.isub, 1) := by decide +kernel
theorem d_M_moreOf_82 : decode m_M_moreOf.2.1 82 = .ok (.putfield 67, 3) := by decide +kernel
theorem d_M_moreOf_85 : decode m_M_moreOf.2.1 85 = .ok (.aload_n 0, 1) := by decide +kernel
theorem d_M_moreOf_86 : decode m_M_moreOf.2.1 86 = .ok (.getfield 120, 3) := by decide +kernel
theorem d_M_moreOf_89 : decode m_M_moreOf.2.1 89 = .ok (.ireturn, 1) := by decide +kernel
set_option maxHeartbeats 4000000 in
set_option maxRecDepth 20000 in
theorem c_M_moreOf (G : Gt) (x1 : Int32) (x2 : Int32) (x3 : Int32) (x4 : Int32) (h : Hp) : Cn G m_M_moreOf [.ref (ad G 31), .int x1, .int x2, .int x3, .int x4] h κi (f_M_moreOf x1 x2 x3 x4 h) := by
  refine entryV (by decide) (Nat.le_of_ble_eq_true rfl) rfl ?_
  show V G m_M_moreOf 0 [(0, .ref (ad G 31)), (1, .int x1), (2, .int x2), (3, .int x3), (4, .int x4)] [] h κi _
  unfold f_M_moreOf
  refine v_aload_n 0 d_M_moreOf_0 rfl rfl ?_
  refine v_iload_n 1 d_M_moreOf_1 rfl rfl ?_
  refine v_callVi (As := [.int x1]) (rest := []) (c_M_isHidden G x1 h) co_M_133 io_M_isHidden o_31 ⟨by decide, by decide⟩ rfl rfl (Nat.le_of_ble_eq_true rfl) d_M_moreOf_2 (fun r1 h1 _ => ?_)
  refine v_if_ne 31 d_M_moreOf_5 (by decide) (fun c2 => ?_) (fun c2 => ?_)
  · refine v_aload_n 0 d_M_moreOf_8 rfl rfl ?_
    refine v_geti fl_M_67 o_31 rfl d_M_moreOf_9 ?_
    refine v_bipush 10 d_M_moreOf_12 rfl ?_
    refine v_icmp_eq 31 d_M_moreOf_14 (by decide) (fun c3 => ?_) (fun c3 => ?_)
    · refine v_bipush (-3) d_M_moreOf_31 rfl ?_
      exact v_iret rfl d_M_moreOf_33
    · refine v_aload_n 0 d_M_moreOf_17 rfl rfl ?_
      refine v_iload_n 3 d_M_moreOf_18 rfl rfl ?_
      refine v_iload 4 d_M_moreOf_19 rfl ?_
      refine v_aload_n 0 d_M_moreOf_21 rfl rfl ?_
      refine v_geti fl_M_67 o_31 rfl d_M_moreOf_22 ?_
      refine v_callVi (As := [.int x3, .int x4, .int (h1 31 2)]) (rest := []) (c_M_isTaken G x3 x4 (h1 31 2) h1) co_M_74 io_M_isTaken o_31 ⟨by decide, by decide⟩ rfl rfl (Nat.le_of_ble_eq_true rfl) d_M_moreOf_25 (fun r4 h4 _ => ?_)
      refine v_if_eq 34 d_M_moreOf_28 (by decide) (fun c5 => ?_) (fun c5 => ?_)
      · refine v_aload_n 0 d_M_moreOf_34 rfl rfl ?_
        refine v_getr 33 fl_M_13 o_31 rfl rfl d_M_moreOf_35 ?_
        refine v_aload_n 0 d_M_moreOf_38 rfl rfl ?_
        refine v_geti fl_M_67 o_31 rfl d_M_moreOf_39 ?_
        refine v_iload_n 3 d_M_moreOf_42 rfl rfl ?_
        refine v_iast ar_33 d_M_moreOf_43 ?_
        refine v_aload_n 0 d_M_moreOf_44 rfl rfl ?_
        refine v_getr 34 fl_M_16 o_31 rfl rfl d_M_moreOf_45 ?_
        refine v_aload_n 0 d_M_moreOf_48 rfl rfl ?_
        refine v_geti fl_M_67 o_31 rfl d_M_moreOf_49 ?_
        refine v_iload 4 d_M_moreOf_52 rfl ?_
        refine v_iast ar_34 d_M_moreOf_54 ?_
        refine v_aload_n 0 d_M_moreOf_55 rfl rfl ?_
        refine v_dup d_M_moreOf_56 rfl ?_
        refine v_geti fl_M_67 o_31 rfl d_M_moreOf_57 ?_
        refine v_iconst 1 d_M_moreOf_60 rfl ?_
        refine v_iadd d_M_moreOf_61 ?_
        refine v_puti fl_M_67 ft_6_2 rfl rfl o_31 rfl d_M_moreOf_62 ?_
        refine v_aload_n 0 d_M_moreOf_65 rfl rfl ?_
        refine v_iload_n 1 d_M_moreOf_66 rfl rfl ?_
        refine v_iload_n 2 d_M_moreOf_67 rfl rfl ?_
        refine v_aload_n 0 d_M_moreOf_68 rfl rfl ?_
        refine v_geti fl_M_81 o_31 rfl d_M_moreOf_69 ?_
        refine v_callVv (As := [.int x1, .int x2, .int ((hset (hset (hset h4 33 (ix (h4 31 2)) x3) 34 (ix ((hset h4 33 (ix (h4 31 2)) x3) 31 2)) x4) 31 2 (((hset (hset h4 33 (ix (h4 31 2)) x3) 34 (ix ((hset h4 33 (ix (h4 31 2)) x3) 31 2)) x4) 31 2) + 1)) 31 5)]) (rest := []) (c_M_lays G x1 x2 ((hset (hset (hset h4 33 (ix (h4 31 2)) x3) 34 (ix ((hset h4 33 (ix (h4 31 2)) x3) 31 2)) x4) 31 2 (((hset (hset h4 33 (ix (h4 31 2)) x3) 34 (ix ((hset h4 33 (ix (h4 31 2)) x3) 31 2)) x4) 31 2) + 1)) 31 5) (hset (hset (hset h4 33 (ix (h4 31 2)) x3) 34 (ix ((hset h4 33 (ix (h4 31 2)) x3) 31 2)) x4) 31 2 (((hset (hset h4 33 (ix (h4 31 2)) x3) 34 (ix ((hset h4 33 (ix (h4 31 2)) x3) 31 2)) x4) 31 2) + 1))) co_M_136 io_M_lays o_31 ⟨by decide, by decide⟩ rfl rfl (Nat.le_of_ble_eq_true rfl) d_M_moreOf_72 (fun _ h6 _ => ?_)
        refine v_aload_n 0 d_M_moreOf_75 rfl rfl ?_
        refine v_dup d_M_moreOf_76 rfl ?_
        refine v_geti fl_M_67 o_31 rfl d_M_moreOf_77 ?_
        refine v_iconst 1 d_M_moreOf_80 rfl ?_
        refine v_isub d_M_moreOf_81 ?_
        refine v_puti fl_M_67 ft_6_2 rfl rfl o_31 rfl d_M_moreOf_82 ?_
        refine v_aload_n 0 d_M_moreOf_85 rfl rfl ?_
        refine v_geti fl_M_120 o_31 rfl d_M_moreOf_86 ?_
        exact v_iret rfl d_M_moreOf_89
      · refine v_bipush (-3) d_M_moreOf_31 rfl ?_
        exact v_iret rfl d_M_moreOf_33
  · refine v_bipush (-3) d_M_moreOf_31 rfl ?_
    exact v_iret rfl d_M_moreOf_33
theorem d_M_more_0 : decode m_M_more.2.1 0 = .ok (.aload_n 0, 1) := by decide +kernel
theorem d_M_more_1 : decode m_M_more.2.1 1 = .ok (.iload_n 1, 1) := by decide +kernel
theorem d_M_more_2 : decode m_M_more.2.1 2 = .ok (.iload_n 2, 1) := by decide +kernel
theorem d_M_more_3 : decode m_M_more.2.1 3 = .ok (.invokevirtual 140, 3) := by decide +kernel
theorem d_M_more_6 : decode m_M_more.2.1 6 = .ok (.ifCond .eq 30, 3) := by decide +kernel
theorem d_M_more_9 : decode m_M_more.2.1 9 = .ok (.iload_n 3, 1) := by decide +kernel
theorem d_M_more_10 : decode m_M_more.2.1 10 = .ok (.invokestatic 92, 3) := by decide +kernel
theorem d_M_more_13 : decode m_M_more.2.1 13 = .ok (.ifCond .eq 23, 3) := by decide +kernel
theorem d_M_more_16 : decode m_M_more.2.1 16 = .ok (.iload 4, 2) := by decide +kernel
theorem d_M_more_18 : decode m_M_more.2.1 18 = .ok (.invokestatic 92, 3) := by decide +kernel
theorem d_M_more_21 : decode m_M_more.2.1 21 = .ok (.ifCond .eq 15, 3) := by decide +kernel
theorem d_M_more_24 : decode m_M_more.2.1 24 = .ok (.aload_n 0, 1) := by decide +kernel
theorem d_M_more_25 : decode m_M_more.2.1 25 = .ok (.iload_n 1, 1) := by decide +kernel
theorem d_M_more_26 : decode m_M_more.2.1 26 = .ok (.iload_n 2, 1) := by decide +kernel
theorem d_M_more_27 : decode m_M_more.2.1 27 = .ok (.iload_n 3, 1) := by decide +kernel
theorem d_M_more_28 : decode m_M_more.2.1 28 = .ok (.iload 4, 2) := by decide +kernel
theorem d_M_more_30 : decode m_M_more.2.1 30 = .ok (.invokevirtual 178, 3) := by decide +kernel
theorem d_M_more_33 : decode m_M_more.2.1 33 = .ok (.goto 5, 3) := by decide +kernel
theorem d_M_more_36 : decode m_M_more.2.1 36 = .ok (.bipush (-2), 2) := by decide +kernel
theorem d_M_more_38 : decode m_M_more.2.1 38 = .ok (.ireturn, 1) := by decide +kernel
set_option maxHeartbeats 4000000 in
set_option maxRecDepth 20000 in
theorem c_M_more (G : Gt) (x1 : Int32) (x2 : Int32) (x3 : Int32) (x4 : Int32) (h : Hp) : Cn G m_M_more [.ref (ad G 31), .int x1, .int x2, .int x3, .int x4] h κi (f_M_more x1 x2 x3 x4 h) := by
  refine entryV (by decide) (Nat.le_of_ble_eq_true rfl) rfl ?_
  show V G m_M_more 0 [(0, .ref (ad G 31)), (1, .int x1), (2, .int x2), (3, .int x3), (4, .int x4)] [] h κi _
  unfold f_M_more
  refine v_aload_n 0 d_M_more_0 rfl rfl ?_
  refine v_iload_n 1 d_M_more_1 rfl rfl ?_
  refine v_iload_n 2 d_M_more_2 rfl rfl ?_
  refine v_callVi (As := [.int x1, .int x2]) (rest := []) (c_M_isWeb G x1 x2 h) co_M_140 io_M_isWeb o_31 ⟨by decide, by decide⟩ rfl rfl (Nat.le_of_ble_eq_true rfl) d_M_more_3 (fun r1 h1 _ => ?_)
  refine v_if_eq 36 d_M_more_6 (by decide) (fun c2 => ?_) (fun c2 => ?_)
  · refine v_bipush (-2) d_M_more_36 rfl ?_
    exact v_iret rfl d_M_more_38
  · refine v_iload_n 3 d_M_more_9 rfl rfl ?_
    refine v_callSi (As := [.int x3]) (rest := []) (c_M_isTen G x3 h1) co_M_92 so_M_isTen ⟨by decide, by decide⟩ rfl rfl (Nat.le_of_ble_eq_true rfl) d_M_more_10 (fun r3 h3 _ => ?_)
    refine v_if_eq 36 d_M_more_13 (by decide) (fun c4 => ?_) (fun c4 => ?_)
    · refine v_bipush (-2) d_M_more_36 rfl ?_
      exact v_iret rfl d_M_more_38
    · refine v_iload 4 d_M_more_16 rfl ?_
      refine v_callSi (As := [.int x4]) (rest := []) (c_M_isTen G x4 h3) co_M_92 so_M_isTen ⟨by decide, by decide⟩ rfl rfl (Nat.le_of_ble_eq_true rfl) d_M_more_18 (fun r5 h5 _ => ?_)
      refine v_if_eq 36 d_M_more_21 (by decide) (fun c6 => ?_) (fun c6 => ?_)
      · refine v_bipush (-2) d_M_more_36 rfl ?_
        exact v_iret rfl d_M_more_38
      · refine v_aload_n 0 d_M_more_24 rfl rfl ?_
        refine v_iload_n 1 d_M_more_25 rfl rfl ?_
        refine v_iload_n 2 d_M_more_26 rfl rfl ?_
        refine v_iload_n 3 d_M_more_27 rfl rfl ?_
        refine v_iload 4 d_M_more_28 rfl ?_
        refine v_callVi (As := [.int x1, .int x2, .int x3, .int x4]) (rest := []) (c_M_moreOf G x1 x2 x3 x4 h5) co_M_178 io_M_moreOf o_31 ⟨by decide, by decide⟩ rfl rfl (Nat.le_of_ble_eq_true rfl) d_M_more_30 (fun r7 h7 _ => ?_)
        refine v_goto 38 d_M_more_33 (by decide) ?_
        exact v_iret rfl d_M_more_38
theorem d_M_beginOf_0 : decode m_M_beginOf.2.1 0 = .ok (.aload_n 0, 1) := by decide +kernel
theorem d_M_beginOf_1 : decode m_M_beginOf.2.1 1 = .ok (.invokevirtual 77, 3) := by decide +kernel
theorem d_M_beginOf_4 : decode m_M_beginOf.2.1 4 = .ok (.istore_n 2, 1) := by decide +kernel
theorem d_M_beginOf_5 : decode m_M_beginOf.2.1 5 = .ok (.iconst (-1), 1) := by decide +kernel
theorem d_M_beginOf_6 : decode m_M_beginOf.2.1 6 = .ok (.istore_n 3, 1) := by decide +kernel
theorem d_M_beginOf_7 : decode m_M_beginOf.2.1 7 = .ok (.iconst 0, 1) := by decide +kernel
theorem d_M_beginOf_8 : decode m_M_beginOf.2.1 8 = .ok (.istore 4, 2) := by decide +kernel
theorem d_M_beginOf_10 : decode m_M_beginOf.2.1 10 = .ok (.iconst 0, 1) := by decide +kernel
theorem d_M_beginOf_11 : decode m_M_beginOf.2.1 11 = .ok (.istore 5, 2) := by decide +kernel
theorem d_M_beginOf_13 : decode m_M_beginOf.2.1 13 = .ok (.iconst 0, 1) := by decide +kernel
theorem d_M_beginOf_14 : decode m_M_beginOf.2.1 14 = .ok (.istore 6, 2) := by decide +kernel
theorem d_M_beginOf_16 : decode m_M_beginOf.2.1 16 = .ok (.iload 6, 2) := by decide +kernel
theorem d_M_beginOf_18 : decode m_M_beginOf.2.1 18 = .ok (.aload_n 0, 1) := by decide +kernel
theorem d_M_beginOf_19 : decode m_M_beginOf.2.1 19 = .ok (.getfield 67, 3) := by decide +kernel
theorem d_M_beginOf_22 : decode m_M_beginOf.2.1 22 = .ok (.if_icmp .ge 107, 3) := by decide +kernel
theorem d_M_beginOf_25 : decode m_M_beginOf.2.1 25 = .ok (.aload_n 0, 1) := by decide +kernel
theorem d_M_beginOf_26 : decode m_M_beginOf.2.1 26 = .ok (.iload 6, 2) := by decide +kernel
theorem d_M_beginOf_28 : decode m_M_beginOf.2.1 28 = .ok (.invokevirtual 133, 3) := by decide +kernel
theorem d_M_beginOf_31 : decode m_M_beginOf.2.1 31 = .ok (.ifCond .ne 92, 3) := by decide +kernel
theorem d_M_beginOf_34 : decode m_M_beginOf.2.1 34 = .ok (.aload_n 0, 1) := by decide +kernel
theorem d_M_beginOf_35 : decode m_M_beginOf.2.1 35 = .ok (.iload 6, 2) := by decide +kernel
theorem d_M_beginOf_37 : decode m_M_beginOf.2.1 37 = .ok (.iload_n 1, 1) := by decide +kernel
theorem d_M_beginOf_38 : decode m_M_beginOf.2.1 38 = .ok (.aload_n 0, 1) := by decide +kernel
theorem d_M_beginOf_39 : decode m_M_beginOf.2.1 39 = .ok (.getfield 81, 3) := by decide +kernel
theorem d_M_beginOf_42 : decode m_M_beginOf.2.1 42 = .ok (.invokevirtual 136, 3) := by decide +kernel
theorem d_M_beginOf_45 : decode m_M_beginOf.2.1 45 = .ok (.aload_n 0, 1) := by decide +kernel
theorem d_M_beginOf_46 : decode m_M_beginOf.2.1 46 = .ok (.getfield 117, 3) := by decide +kernel
theorem d_M_beginOf_49 : decode m_M_beginOf.2.1 49 = .ok (.iload 4, 2) := by decide +kernel
theorem d_M_beginOf_51 : decode m_M_beginOf.2.1 51 = .ok (.if_icmp .gt 21, 3) := by decide +kernel
theorem d_M_beginOf_54 : decode m_M_beginOf.2.1 54 = .ok (.aload_n 0, 1) := by decide +kernel
theorem d_M_beginOf_55 : decode m_M_beginOf.2.1 55 = .ok (.getfield 117, 3) := by decide +kernel
theorem d_M_beginOf_58 : decode m_M_beginOf.2.1 58 = .ok (.iload 4, 2) := by decide +kernel
theorem d_M_beginOf_60 : decode m_M_beginOf.2.1 60 = .ok (.if_icmp .ne 16, 3) := by decide +kernel
theorem d_M_beginOf_63 : decode m_M_beginOf.2.1 63 = .ok (.aload_n 0, 1) := by decide +kernel
theorem d_M_beginOf_64 : decode m_M_beginOf.2.1 64 = .ok (.getfield 120, 3) := by decide +kernel
theorem d_M_beginOf_67 : decode m_M_beginOf.2.1 67 = .ok (.iload 5, 2) := by decide +kernel
theorem d_M_beginOf_69 : decode m_M_beginOf.2.1 69 = .ok (.if_icmp .ge 7, 3) := by decide +kernel
theorem d_M_beginOf_72 : decode m_M_beginOf.2.1 72 = .ok (.iconst 1, 1) := by decide +kernel
theorem d_M_beginOf_73 : decode m_M_beginOf.2.1 73 = .ok (.goto 4, 3) := by decide +kernel
theorem d_M_beginOf_76 : decode m_M_beginOf.2.1 76 = .ok (.iconst 0, 1) := by decide +kernel
theorem d_M_beginOf_77 : decode m_M_beginOf.2.1 77 = .ok (.istore 7, 2) := by decide +kernel
theorem d_M_beginOf_79 : decode m_M_beginOf.2.1 79 = .ok (.iload 7, 2) := by decide +kernel
theorem d_M_beginOf_81 : decode m_M_beginOf.2.1 81 = .ok (.ifCond .eq 8, 3) := by decide +kernel
theorem d_M_beginOf_84 : decode m_M_beginOf.2.1 84 = .ok (.iload 6, 2) := by decide +kernel
theorem d_M_beginOf_86 : decode m_M_beginOf.2.1 86 = .ok (.goto 4, 3) := by decide +kernel
theorem d_M_beginOf_89 : decode m_M_beginOf.2.1 89 = .ok (.iload_n 3, 1) := by decide +kernel
theorem d_M_beginOf_90 : decode m_M_beginOf.2.1 90 = .ok (.istore_n 3, 1) := by decide +kernel
theorem d_M_beginOf_91 : decode m_M_beginOf.2.1 91 = .ok (.iload 7, 2) := by decide +kernel
theorem d_M_beginOf_93 : decode m_M_beginOf.2.1 93 = .ok (.ifCond .eq 10, 3) := by decide +kernel
theorem d_M_beginOf_96 : decode m_M_beginOf.2.1 96 = .ok (.aload_n 0, 1) := by decide +kernel
theorem d_M_beginOf_97 : decode m_M_beginOf.2.1 97 = .ok (.getfield 120, 3) := by decide +kernel
theorem d_M_beginOf_100 : decode m_M_beginOf.2.1 100 = .ok (.goto 5, 3) := by decide +kernel
theorem d_M_beginOf_103 : decode m_M_beginOf.2.1 103 = .ok (.iload 5, 2) := by decide +kernel
theorem d_M_beginOf_105 : decode m_M_beginOf.2.1 105 = .ok (.istore 5, 2) := by decide +kernel
theorem d_M_beginOf_107 : decode m_M_beginOf.2.1 107 = .ok (.iload 7, 2) := by decide +kernel
theorem d_M_beginOf_109 : decode m_M_beginOf.2.1 109 = .ok (.ifCond .eq 10, 3) := by decide +kernel
theorem d_M_beginOf_112 : decode m_M_beginOf.2.1 112 = .ok (.aload_n 0, 1) := by decide +kernel
theorem d_M_beginOf_113 : decode m_M_beginOf.2.1 113 = .ok (.getfield 117, 3) := by decide +kernel
theorem d_M_beginOf_116 : decode m_M_beginOf.2.1 116 = .ok (.goto 5, 3) := by decide +kernel
theorem d_M_beginOf_119 : decode m_M_beginOf.2.1 119 = .ok (.iload 4, 2) := by decide +kernel
theorem d_M_beginOf_121 : decode m_M_beginOf.2.1 121 = .ok (.istore 4, 2) := by decide +kernel
theorem d_M_beginOf_123 : decode m_M_beginOf.2.1 123 = .ok (.iinc 6 1, 3) := by decide +kernel
theorem d_M_beginOf_126 : decode m_M_beginOf.2.1 126 = .ok (.goto (-110), 3) := by decide +kernel
theorem d_M_beginOf_129 : decode m_M_beginOf.2.1 129 = .ok (.iload_n 3, 1) := by decide +kernel
theorem d_M_beginOf_130 : decode m_M_beginOf.2.1 130 = .ok (.ireturn, 1) := by decide +kernel
set_option maxHeartbeats 4000000 in
set_option maxRecDepth 20000 in
theorem Vl_M_beginOf_16 (G : Gt) : ∀ (n : Nat) (x1 : Int32) (x3 : Int32) (x4 : Int32) (x5 : Int32) (x6 : Int32) (h : Hp), V G m_M_beginOf 16 [(0, .ref (ad G 31)), (1, .int x1), (3, .int x3), (4, .int x4), (5, .int x5), (6, .int x6)] [] h κi (l_M_beginOf_16 n x1 x3 x4 x5 x6 h) := by
  intro n
  induction n with
  | zero => intros; exact v_none
  | succ n ih =>
    intro x1 x3 x4 x5 x6 h
    rw [l_M_beginOf_16]
    refine v_iload 5 d_M_beginOf_16 rfl ?_
    refine v_aload_n 0 d_M_beginOf_18 rfl rfl ?_
    refine v_geti fl_M_67 o_31 rfl d_M_beginOf_19 ?_
    refine v_icmp_ge 129 d_M_beginOf_22 (by decide) (fun c2 => ?_) (fun c2 => ?_)
    · refine v_iload_n 2 d_M_beginOf_129 rfl rfl ?_
      exact v_iret rfl d_M_beginOf_130
    · refine v_aload_n 0 d_M_beginOf_25 rfl rfl ?_
      refine v_iload 5 d_M_beginOf_26 rfl ?_
      refine v_callVi (As := [.int x6]) (rest := []) (c_M_isHidden G x6 h) co_M_133 io_M_isHidden o_31 ⟨by decide, by decide⟩ rfl rfl (Nat.le_of_ble_eq_true rfl) d_M_beginOf_28 (fun r3 h3 _ => ?_)
      refine v_if_ne 123 d_M_beginOf_31 (by decide) (fun c4 => ?_) (fun c4 => ?_)
      · refine v_aload_n 0 d_M_beginOf_34 rfl rfl ?_
        refine v_iload 5 d_M_beginOf_35 rfl ?_
        refine v_iload_n 1 d_M_beginOf_37 rfl rfl ?_
        refine v_aload_n 0 d_M_beginOf_38 rfl rfl ?_
        refine v_geti fl_M_81 o_31 rfl d_M_beginOf_39 ?_
        refine v_callVv (As := [.int x6, .int x1, .int (h3 31 5)]) (rest := []) (c_M_lays G x6 x1 (h3 31 5) h3) co_M_136 io_M_lays o_31 ⟨by decide, by decide⟩ rfl rfl (Nat.le_of_ble_eq_true rfl) d_M_beginOf_42 (fun _ h5 _ => ?_)
        refine v_aload_n 0 d_M_beginOf_45 rfl rfl ?_
        refine v_geti fl_M_117 o_31 rfl d_M_beginOf_46 ?_
        refine v_iload 3 d_M_beginOf_49 rfl ?_
        refine v_icmp_gt 72 d_M_beginOf_51 (by decide) (fun c6 => ?_) (fun c6 => ?_)
        · refine v_iconst 1 d_M_beginOf_72 rfl ?_
          refine v_goto 77 d_M_beginOf_73 (by decide) ?_
          refine v_istore [(7, .int 1), (0, .ref (ad G 31)), (1, .int x1), (3, .int x3), (4, .int x4), (5, .int x5), (6, .int x6)] d_M_beginOf_77 (by decide) rfl ?_
          refine v_iload 0 d_M_beginOf_79 rfl ?_
          refine v_if_eq_f 89 d_M_beginOf_81 (by decide) (by decide) ?_
          refine v_iload 6 d_M_beginOf_84 rfl ?_
          refine v_goto 90 d_M_beginOf_86 (by decide) ?_
          refine v_istore_n [(3, .int x6), (7, .int 1), (0, .ref (ad G 31)), (1, .int x1), (4, .int x4), (5, .int x5), (6, .int x6)] d_M_beginOf_90 rfl (by decide) rfl ?_
          refine v_iload 1 d_M_beginOf_91 rfl ?_
          refine v_if_eq_f 103 d_M_beginOf_93 (by decide) (by decide) ?_
          refine v_aload_n 2 d_M_beginOf_96 rfl rfl ?_
          refine v_geti fl_M_120 o_31 rfl d_M_beginOf_97 ?_
          refine v_goto 105 d_M_beginOf_100 (by decide) ?_
          refine v_istore [(5, .int (h5 31 11)), (3, .int x6), (7, .int 1), (0, .ref (ad G 31)), (1, .int x1), (4, .int x4), (6, .int x6)] d_M_beginOf_105 (by decide) rfl ?_
          refine v_iload 2 d_M_beginOf_107 rfl ?_
          refine v_if_eq_f 119 d_M_beginOf_109 (by decide) (by decide) ?_
          refine v_aload_n 3 d_M_beginOf_112 rfl rfl ?_
          refine v_geti fl_M_117 o_31 rfl d_M_beginOf_113 ?_
          refine v_goto 121 d_M_beginOf_116 (by decide) ?_
          refine v_istore [(4, .int (h5 31 10)), (5, .int (h5 31 11)), (3, .int x6), (7, .int 1), (0, .ref (ad G 31)), (1, .int x1), (6, .int x6)] d_M_beginOf_121 (by decide) rfl ?_
          refine v_iinc (x6 + 1) 6 [(6, .int (x6 + 1)), (4, .int (h5 31 10)), (5, .int (h5 31 11)), (3, .int x6), (7, .int 1), (0, .ref (ad G 31)), (1, .int x1)] d_M_beginOf_123 rfl rfl (by decide) rfl ?_
          refine v_goto 16 d_M_beginOf_126 (by decide) ?_
          exact v_sub [5, 6, 3, 1, 2, 0] rfl (ih x1 x6 (h5 31 10) (h5 31 11) (x6 + 1) h5)
        · refine v_aload_n 0 d_M_beginOf_54 rfl rfl ?_
          refine v_geti fl_M_117 o_31 rfl d_M_beginOf_55 ?_
          refine v_iload 3 d_M_beginOf_58 rfl ?_
          refine v_icmp_ne 76 d_M_beginOf_60 (by decide) (fun c7 => ?_) (fun c7 => ?_)
          · refine v_aload_n 0 d_M_beginOf_63 rfl rfl ?_
            refine v_geti fl_M_120 o_31 rfl d_M_beginOf_64 ?_
            refine v_iload 4 d_M_beginOf_67 rfl ?_
            refine v_icmp_ge 76 d_M_beginOf_69 (by decide) (fun c8 => ?_) (fun c8 => ?_)
            · refine v_iconst 0 d_M_beginOf_76 rfl ?_
              refine v_istore [(7, .int 0), (0, .ref (ad G 31)), (1, .int x1), (3, .int x3), (4, .int x4), (5, .int x5), (6, .int x6)] d_M_beginOf_77 (by decide) rfl ?_
              refine v_iload 0 d_M_beginOf_79 rfl ?_
              refine v_if_eq_t 89 d_M_beginOf_81 (by decide) (by decide) ?_
              refine v_iload_n 3 d_M_beginOf_89 rfl rfl ?_
              refine v_istore_n [(3, .int x3), (7, .int 0), (0, .ref (ad G 31)), (1, .int x1), (4, .int x4), (5, .int x5), (6, .int x6)] d_M_beginOf_90 rfl (by decide) rfl ?_
              refine v_iload 1 d_M_beginOf_91 rfl ?_
              refine v_if_eq_t 103 d_M_beginOf_93 (by decide) (by decide) ?_
              refine v_iload 5 d_M_beginOf_103 rfl ?_
              refine v_istore [(5, .int x5), (3, .int x3), (7, .int 0), (0, .ref (ad G 31)), (1, .int x1), (4, .int x4), (6, .int x6)] d_M_beginOf_105 (by decide) rfl ?_
              refine v_iload 2 d_M_beginOf_107 rfl ?_
              refine v_if_eq_t 119 d_M_beginOf_109 (by decide) (by decide) ?_
              refine v_iload 5 d_M_beginOf_119 rfl ?_
              refine v_istore [(4, .int x4), (5, .int x5), (3, .int x3), (7, .int 0), (0, .ref (ad G 31)), (1, .int x1), (6, .int x6)] d_M_beginOf_121 (by decide) rfl ?_
              refine v_iinc (x6 + 1) 6 [(6, .int (x6 + 1)), (4, .int x4), (5, .int x5), (3, .int x3), (7, .int 0), (0, .ref (ad G 31)), (1, .int x1)] d_M_beginOf_123 rfl rfl (by decide) rfl ?_
              refine v_goto 16 d_M_beginOf_126 (by decide) ?_
              exact v_sub [5, 6, 3, 1, 2, 0] rfl (ih x1 x3 x4 x5 (x6 + 1) h5)
            · refine v_iconst 1 d_M_beginOf_72 rfl ?_
              refine v_goto 77 d_M_beginOf_73 (by decide) ?_
              refine v_istore [(7, .int 1), (0, .ref (ad G 31)), (1, .int x1), (3, .int x3), (4, .int x4), (5, .int x5), (6, .int x6)] d_M_beginOf_77 (by decide) rfl ?_
              refine v_iload 0 d_M_beginOf_79 rfl ?_
              refine v_if_eq_f 89 d_M_beginOf_81 (by decide) (by decide) ?_
              refine v_iload 6 d_M_beginOf_84 rfl ?_
              refine v_goto 90 d_M_beginOf_86 (by decide) ?_
              refine v_istore_n [(3, .int x6), (7, .int 1), (0, .ref (ad G 31)), (1, .int x1), (4, .int x4), (5, .int x5), (6, .int x6)] d_M_beginOf_90 rfl (by decide) rfl ?_
              refine v_iload 1 d_M_beginOf_91 rfl ?_
              refine v_if_eq_f 103 d_M_beginOf_93 (by decide) (by decide) ?_
              refine v_aload_n 2 d_M_beginOf_96 rfl rfl ?_
              refine v_geti fl_M_120 o_31 rfl d_M_beginOf_97 ?_
              refine v_goto 105 d_M_beginOf_100 (by decide) ?_
              refine v_istore [(5, .int (h5 31 11)), (3, .int x6), (7, .int 1), (0, .ref (ad G 31)), (1, .int x1), (4, .int x4), (6, .int x6)] d_M_beginOf_105 (by decide) rfl ?_
              refine v_iload 2 d_M_beginOf_107 rfl ?_
              refine v_if_eq_f 119 d_M_beginOf_109 (by decide) (by decide) ?_
              refine v_aload_n 3 d_M_beginOf_112 rfl rfl ?_
              refine v_geti fl_M_117 o_31 rfl d_M_beginOf_113 ?_
              refine v_goto 121 d_M_beginOf_116 (by decide) ?_
              refine v_istore [(4, .int (h5 31 10)), (5, .int (h5 31 11)), (3, .int x6), (7, .int 1), (0, .ref (ad G 31)), (1, .int x1), (6, .int x6)] d_M_beginOf_121 (by decide) rfl ?_
              refine v_iinc (x6 + 1) 6 [(6, .int (x6 + 1)), (4, .int (h5 31 10)), (5, .int (h5 31 11)), (3, .int x6), (7, .int 1), (0, .ref (ad G 31)), (1, .int x1)] d_M_beginOf_123 rfl rfl (by decide) rfl ?_
              refine v_goto 16 d_M_beginOf_126 (by decide) ?_
              exact v_sub [5, 6, 3, 1, 2, 0] rfl (ih x1 x6 (h5 31 10) (h5 31 11) (x6 + 1) h5)
          · refine v_iconst 0 d_M_beginOf_76 rfl ?_
            refine v_istore [(7, .int 0), (0, .ref (ad G 31)), (1, .int x1), (3, .int x3), (4, .int x4), (5, .int x5), (6, .int x6)] d_M_beginOf_77 (by decide) rfl ?_
            refine v_iload 0 d_M_beginOf_79 rfl ?_
            refine v_if_eq_t 89 d_M_beginOf_81 (by decide) (by decide) ?_
            refine v_iload_n 3 d_M_beginOf_89 rfl rfl ?_
            refine v_istore_n [(3, .int x3), (7, .int 0), (0, .ref (ad G 31)), (1, .int x1), (4, .int x4), (5, .int x5), (6, .int x6)] d_M_beginOf_90 rfl (by decide) rfl ?_
            refine v_iload 1 d_M_beginOf_91 rfl ?_
            refine v_if_eq_t 103 d_M_beginOf_93 (by decide) (by decide) ?_
            refine v_iload 5 d_M_beginOf_103 rfl ?_
            refine v_istore [(5, .int x5), (3, .int x3), (7, .int 0), (0, .ref (ad G 31)), (1, .int x1), (4, .int x4), (6, .int x6)] d_M_beginOf_105 (by decide) rfl ?_
            refine v_iload 2 d_M_beginOf_107 rfl ?_
            refine v_if_eq_t 119 d_M_beginOf_109 (by decide) (by decide) ?_
            refine v_iload 5 d_M_beginOf_119 rfl ?_
            refine v_istore [(4, .int x4), (5, .int x5), (3, .int x3), (7, .int 0), (0, .ref (ad G 31)), (1, .int x1), (6, .int x6)] d_M_beginOf_121 (by decide) rfl ?_
            refine v_iinc (x6 + 1) 6 [(6, .int (x6 + 1)), (4, .int x4), (5, .int x5), (3, .int x3), (7, .int 0), (0, .ref (ad G 31)), (1, .int x1)] d_M_beginOf_123 rfl rfl (by decide) rfl ?_
            refine v_goto 16 d_M_beginOf_126 (by decide) ?_
            exact v_sub [5, 6, 3, 1, 2, 0] rfl (ih x1 x3 x4 x5 (x6 + 1) h5)
      · refine v_iinc (x6 + 1) 5 [(6, .int (x6 + 1)), (0, .ref (ad G 31)), (1, .int x1), (3, .int x3), (4, .int x4), (5, .int x5)] d_M_beginOf_123 rfl rfl (by decide) rfl ?_
        refine v_goto 16 d_M_beginOf_126 (by decide) ?_
        exact v_sub [1, 2, 3, 4, 5, 0] rfl (ih x1 x3 x4 x5 (x6 + 1) h3)
set_option maxHeartbeats 4000000 in
set_option maxRecDepth 20000 in
theorem c_M_beginOf (G : Gt) (x1 : Int32) (h : Hp) : Cn G m_M_beginOf [.ref (ad G 31), .int x1] h κi (f_M_beginOf x1 h) := by
  refine entryV (by decide) (Nat.le_of_ble_eq_true rfl) rfl ?_
  show V G m_M_beginOf 0 [(0, .ref (ad G 31)), (1, .int x1)] [] h κi _
  unfold f_M_beginOf
  refine v_aload_n 0 d_M_beginOf_0 rfl rfl ?_
  refine v_callVi (As := []) (rest := []) (c_M_faultNow G h) co_M_77 io_M_faultNow o_31 ⟨by decide, by decide⟩ rfl rfl (Nat.le_of_ble_eq_true rfl) d_M_beginOf_1 (fun r1 h1 _ => ?_)
  refine v_istore_n [(2, .int r1), (0, .ref (ad G 31)), (1, .int x1)] d_M_beginOf_4 rfl (by decide) rfl ?_
  refine v_iconst (-1) d_M_beginOf_5 rfl ?_
  refine v_istore_n [(3, .int (-1)), (2, .int r1), (0, .ref (ad G 31)), (1, .int x1)] d_M_beginOf_6 rfl (by decide) rfl ?_
  refine v_iconst 0 d_M_beginOf_7 rfl ?_
  refine v_istore [(4, .int 0), (3, .int (-1)), (2, .int r1), (0, .ref (ad G 31)), (1, .int x1)] d_M_beginOf_8 (by decide) rfl ?_
  refine v_iconst 0 d_M_beginOf_10 rfl ?_
  refine v_istore [(5, .int 0), (4, .int 0), (3, .int (-1)), (2, .int r1), (0, .ref (ad G 31)), (1, .int x1)] d_M_beginOf_11 (by decide) rfl ?_
  refine v_iconst 0 d_M_beginOf_13 rfl ?_
  refine v_istore [(6, .int 0), (5, .int 0), (4, .int 0), (3, .int (-1)), (2, .int r1), (0, .ref (ad G 31)), (1, .int x1)] d_M_beginOf_14 (by decide) rfl ?_
  exact v_sub [5, 6, 3, 2, 1, 0] rfl (Vl_M_beginOf_16 G FUEL x1 (-1) 0 0 0 h1)
theorem d_M_begin_0 : decode m_M_begin.2.1 0 = .ok (.iload_n 1, 1) := by decide +kernel
theorem d_M_begin_1 : decode m_M_begin.2.1 1 = .ok (.invokestatic 130, 3) := by decide +kernel
theorem d_M_begin_4 : decode m_M_begin.2.1 4 = .ok (.ifCond .eq 11, 3) := by decide +kernel
theorem d_M_begin_7 : decode m_M_begin.2.1 7 = .ok (.aload_n 0, 1) := by decide +kernel
theorem d_M_begin_8 : decode m_M_begin.2.1 8 = .ok (.iload_n 1, 1) := by decide +kernel
theorem d_M_begin_9 : decode m_M_begin.2.1 9 = .ok (.invokevirtual 182, 3) := by decide +kernel
theorem d_M_begin_12 : decode m_M_begin.2.1 12 = .ok (.goto 5, 3) := by decide +kernel
theorem d_M_begin_15 : decode m_M_begin.2.1 15 = .ok (.bipush (-2), 2) := by decide +kernel
theorem d_M_begin_17 : decode m_M_begin.2.1 17 = .ok (.ireturn, 1) := by decide +kernel
set_option maxHeartbeats 4000000 in
set_option maxRecDepth 20000 in
theorem c_M_begin (G : Gt) (x1 : Int32) (h : Hp) : Cn G m_M_begin [.ref (ad G 31), .int x1] h κi (f_M_begin x1 h) := by
  refine entryV (by decide) (Nat.le_of_ble_eq_true rfl) rfl ?_
  show V G m_M_begin 0 [(0, .ref (ad G 31)), (1, .int x1)] [] h κi _
  unfold f_M_begin
  refine v_iload_n 1 d_M_begin_0 rfl rfl ?_
  refine v_callSi (As := [.int x1]) (rest := []) (c_M_isLaw G x1 h) co_M_130 so_M_isLaw ⟨by decide, by decide⟩ rfl rfl (Nat.le_of_ble_eq_true rfl) d_M_begin_1 (fun r1 h1 _ => ?_)
  refine v_if_eq 15 d_M_begin_4 (by decide) (fun c2 => ?_) (fun c2 => ?_)
  · refine v_bipush (-2) d_M_begin_15 rfl ?_
    exact v_iret rfl d_M_begin_17
  · refine v_aload_n 0 d_M_begin_7 rfl rfl ?_
    refine v_iload_n 1 d_M_begin_8 rfl rfl ?_
    refine v_callVi (As := [.int x1]) (rest := []) (c_M_beginOf G x1 h1) co_M_182 io_M_beginOf o_31 ⟨by decide, by decide⟩ rfl rfl (Nat.le_of_ble_eq_true rfl) d_M_begin_9 (fun r3 h3 _ => ?_)
    refine v_goto 17 d_M_begin_12 (by decide) ?_
    exact v_iret rfl d_M_begin_17
theorem d_M_ones_0 : decode m_M_ones.2.1 0 = .ok (.iconst 0, 1) := by decide +kernel
theorem d_M_ones_1 : decode m_M_ones.2.1 1 = .ok (.istore_n 1, 1) := by decide +kernel
theorem d_M_ones_2 : decode m_M_ones.2.1 2 = .ok (.iconst 0, 1) := by decide +kernel
theorem d_M_ones_3 : decode m_M_ones.2.1 3 = .ok (.istore_n 2, 1) := by decide +kernel
theorem d_M_ones_4 : decode m_M_ones.2.1 4 = .ok (.iload_n 2, 1) := by decide +kernel
theorem d_M_ones_5 : decode m_M_ones.2.1 5 = .ok (.bipush 10, 2) := by decide +kernel
theorem d_M_ones_7 : decode m_M_ones.2.1 7 = .ok (.if_icmp .ge 17, 3) := by decide +kernel
theorem d_M_ones_10 : decode m_M_ones.2.1 10 = .ok (.iload_n 1, 1) := by decide +kernel
theorem d_M_ones_11 : decode m_M_ones.2.1 11 = .ok (.iload_n 0, 1) := by decide +kernel
theorem d_M_ones_12 : decode m_M_ones.2.1 12 = .ok (.iload_n 2, 1) := by decide +kernel
theorem d_M_ones_13 : decode m_M_ones.2.1 13 = .ok (.ishr, 1) := by decide +kernel
theorem d_M_ones_14 : decode m_M_ones.2.1 14 = .ok (.iconst 1, 1) := by decide +kernel
theorem d_M_ones_15 : decode m_M_ones.2.1 15 = .ok (.iand, 1) := by decide +kernel
theorem d_M_ones_16 : decode m_M_ones.2.1 16 = .ok (.iadd, 1) := by decide +kernel
theorem d_M_ones_17 : decode m_M_ones.2.1 17 = .ok (.istore_n 1, 1) := by decide +kernel
theorem d_M_ones_18 : decode m_M_ones.2.1 18 = .ok (.iinc 2 1, 3) := by decide +kernel
theorem d_M_ones_21 : decode m_M_ones.2.1 21 = .ok (.goto (-17), 3) := by decide +kernel
theorem d_M_ones_24 : decode m_M_ones.2.1 24 = .ok (.iload_n 1, 1) := by decide +kernel
theorem d_M_ones_25 : decode m_M_ones.2.1 25 = .ok (.ireturn, 1) := by decide +kernel
set_option maxHeartbeats 4000000 in
set_option maxRecDepth 20000 in
theorem Vl_M_ones_4 (G : Gt) : ∀ (n : Nat) (x0 : Int32) (x1 : Int32) (x2 : Int32) (h : Hp), V G m_M_ones 4 [(0, .int x0), (1, .int x1), (2, .int x2)] [] h κi (l_M_ones_4 n x0 x1 x2 h) := by
  intro n
  induction n with
  | zero => intros; exact v_none
  | succ n ih =>
    intro x0 x1 x2 h
    rw [l_M_ones_4]
    refine v_iload_n 2 d_M_ones_4 rfl rfl ?_
    refine v_bipush 10 d_M_ones_5 rfl ?_
    refine v_icmp_ge 24 d_M_ones_7 (by decide) (fun c1 => ?_) (fun c1 => ?_)
    · refine v_iload_n 1 d_M_ones_24 rfl rfl ?_
      exact v_iret rfl d_M_ones_25
    · refine v_iload_n 1 d_M_ones_10 rfl rfl ?_
      refine v_iload_n 0 d_M_ones_11 rfl rfl ?_
      refine v_iload_n 2 d_M_ones_12 rfl rfl ?_
      refine v_ishr d_M_ones_13 ?_
      refine v_iconst 1 d_M_ones_14 rfl ?_
      refine v_iand d_M_ones_15 ?_
      refine v_iadd d_M_ones_16 ?_
      refine v_istore_n [(1, .int (x1 + ((x0 >>> (x2 &&& 31)) &&& 1))), (0, .int x0), (2, .int x2)] d_M_ones_17 rfl (by decide) rfl ?_
      refine v_iinc (x2 + 1) 2 [(2, .int (x2 + 1)), (1, .int (x1 + ((x0 >>> (x2 &&& 31)) &&& 1))), (0, .int x0)] d_M_ones_18 rfl rfl (by decide) rfl ?_
      refine v_goto 4 d_M_ones_21 (by decide) ?_
      exact v_sub [2, 1, 0] rfl (ih x0 (x1 + ((x0 >>> (x2 &&& 31)) &&& 1)) (x2 + 1) h)
set_option maxHeartbeats 4000000 in
set_option maxRecDepth 20000 in
theorem c_M_ones (G : Gt) (x0 : Int32) (h : Hp) : Cn G m_M_ones [.int x0] h κi (f_M_ones x0 h) := by
  refine entryV (by decide) (Nat.le_of_ble_eq_true rfl) rfl ?_
  show V G m_M_ones 0 [(0, .int x0)] [] h κi _
  unfold f_M_ones
  refine v_iconst 0 d_M_ones_0 rfl ?_
  refine v_istore_n [(1, .int 0), (0, .int x0)] d_M_ones_1 rfl (by decide) rfl ?_
  refine v_iconst 0 d_M_ones_2 rfl ?_
  refine v_istore_n [(2, .int 0), (1, .int 0), (0, .int x0)] d_M_ones_3 rfl (by decide) rfl ?_
  exact v_sub [2, 1, 0] rfl (Vl_M_ones_4 G FUEL x0 0 0 h)
theorem d_M_lastOf_0 : decode m_M_lastOf.2.1 0 = .ok (.aload_n 0, 1) := by decide +kernel
theorem d_M_lastOf_1 : decode m_M_lastOf.2.1 1 = .ok (.iload_n 1, 1) := by decide +kernel
theorem d_M_lastOf_2 : decode m_M_lastOf.2.1 2 = .ok (.invokevirtual 133, 3) := by decide +kernel
theorem d_M_lastOf_5 : decode m_M_lastOf.2.1 5 = .ok (.ifCond .ne 11, 3) := by decide +kernel
theorem d_M_lastOf_8 : decode m_M_lastOf.2.1 8 = .ok (.aload_n 0, 1) := by decide +kernel
theorem d_M_lastOf_9 : decode m_M_lastOf.2.1 9 = .ok (.iload_n 3, 1) := by decide +kernel
theorem d_M_lastOf_10 : decode m_M_lastOf.2.1 10 = .ok (.invokevirtual 133, 3) := by decide +kernel
theorem d_M_lastOf_13 : decode m_M_lastOf.2.1 13 = .ok (.ifCond .eq 6, 3) := by decide +kernel
theorem d_M_lastOf_16 : decode m_M_lastOf.2.1 16 = .ok (.bipush (-3), 2) := by decide +kernel
theorem d_M_lastOf_18 : decode m_M_lastOf.2.1 18 = .ok (.ireturn, 1) := by decide +kernel
theorem d_M_lastOf_19 : decode m_M_lastOf.2.1 19 = .ok (.iconst 1, 1) := by decide +kernel
theorem d_M_lastOf_20 : decode m_M_lastOf.2.1 20 = .ok (.aload_n 0, 1) := by decide +kernel
theorem d_M_lastOf_21 : decode m_M_lastOf.2.1 21 = .ok (.getfield 67, 3) := by decide +kernel
theorem d_M_lastOf_24 : decode m_M_lastOf.2.1 24 = .ok (.ishl, 1) := by decide +kernel
theorem d_M_lastOf_25 : decode m_M_lastOf.2.1 25 = .ok (.iconst 1, 1) := by decide +kernel
theorem d_M_lastOf_26 : decode m_M_lastOf.2.1 26 = .ok (.isub, 1) := by decide +kernel
theorem d_M_lastOf_27 : decode m_M_lastOf.2.1 27 = .ok (.aload_n 0, 1) := by decide +kernel
theorem d_M_lastOf_28 : decode m_M_lastOf.2.1 28 = .ok (.getfield 81, 3) := by decide +kernel
theorem d_M_lastOf_31 : decode m_M_lastOf.2.1 31 = .ok (.iconst (-1), 1) := by decide +kernel
theorem d_M_lastOf_32 : decode m_M_lastOf.2.1 32 = .ok (.ixor, 1) := by decide +kernel
theorem d_M_lastOf_33 : decode m_M_lastOf.2.1 33 = .ok (.iand, 1) := by decide +kernel
theorem d_M_lastOf_34 : decode m_M_lastOf.2.1 34 = .ok (.iconst 1, 1) := by decide +kernel
theorem d_M_lastOf_35 : decode m_M_lastOf.2.1 35 = .ok (.iload_n 1, 1) := by decide +kernel
theorem d_M_lastOf_36 : decode m_M_lastOf.2.1 36 = .ok (.ishl, 1) := by decide +kernel
theorem d_M_lastOf_37 : decode m_M_lastOf.2.1 37 = .ok (.iconst (-1), 1) := by decide +kernel
theorem d_M_lastOf_38 : decode m_M_lastOf.2.1 38 = .ok (.ixor, 1) := by decide +kernel
theorem d_M_lastOf_39 : decode m_M_lastOf.2.1 39 = .ok (.iand, 1) := by decide +kernel
theorem d_M_lastOf_40 : decode m_M_lastOf.2.1 40 = .ok (.iconst 1, 1) := by decide +kernel
theorem d_M_lastOf_41 : decode m_M_lastOf.2.1 41 = .ok (.iload_n 3, 1) := by decide +kernel
theorem d_M_lastOf_42 : decode m_M_lastOf.2.1 42 = .ok (.ishl, 1) := by decide +kernel
theorem d_M_lastOf_43 : decode m_M_lastOf.2.1 43 = .ok (.iconst (-1), 1) := by decide +kernel
theorem d_M_lastOf_44 : decode m_M_lastOf.2.1 44 = .ok (.ixor, 1) := by decide +kernel
theorem d_M_lastOf_45 : decode m_M_lastOf.2.1 45 = .ok (.iand, 1) := by decide +kernel
theorem d_M_lastOf_46 : decode m_M_lastOf.2.1 46 = .ok (.istore 5, 2) := by decide +kernel
theorem d_M_lastOf_48 : decode m_M_lastOf.2.1 48 = .ok (.iconst (-1), 1) := by decide +kernel
theorem d_M_lastOf_49 : decode m_M_lastOf.2.1 49 = .ok (.istore 6, 2) := by decide +kernel
theorem d_M_lastOf_51 : decode m_M_lastOf.2.1 51 = .ok (.iconst 0, 1) := by decide +kernel
theorem d_M_lastOf_52 : decode m_M_lastOf.2.1 52 = .ok (.istore 7, 2) := by decide +kernel
theorem d_M_lastOf_54 : decode m_M_lastOf.2.1 54 = .ok (.iload 7, 2) := by decide +kernel
theorem d_M_lastOf_56 : decode m_M_lastOf.2.1 56 = .ok (.iconst 1, 1) := by decide +kernel
theorem d_M_lastOf_57 : decode m_M_lastOf.2.1 57 = .ok (.aload_n 0, 1) := by decide +kernel
theorem d_M_lastOf_58 : decode m_M_lastOf.2.1 58 = .ok (.getfield 67, 3) := by decide +kernel
theorem d_M_lastOf_61 : decode m_M_lastOf.2.1 61 = .ok (.ishl, 1) := by decide +kernel
theorem d_M_lastOf_62 : decode m_M_lastOf.2.1 62 = .ok (.if_icmp .ge 75, 3) := by decide +kernel
theorem d_M_lastOf_65 : decode m_M_lastOf.2.1 65 = .ok (.iload 7, 2) := by decide +kernel
theorem d_M_lastOf_67 : decode m_M_lastOf.2.1 67 = .ok (.iload 5, 2) := by decide +kernel
theorem d_M_lastOf_69 : decode m_M_lastOf.2.1 69 = .ok (.iconst (-1), 1) := by decide +kernel
theorem d_M_lastOf_70 : decode m_M_lastOf.2.1 70 = .ok (.ixor, 1) := by decide +kernel
theorem d_M_lastOf_71 : decode m_M_lastOf.2.1 71 = .ok (.iand, 1) := by decide +kernel
theorem d_M_lastOf_72 : decode m_M_lastOf.2.1 72 = .ok (.ifCond .ne 59, 3) := by decide +kernel
theorem d_M_lastOf_75 : decode m_M_lastOf.2.1 75 = .ok (.iload 6, 2) := by decide +kernel
theorem d_M_lastOf_77 : decode m_M_lastOf.2.1 77 = .ok (.iconst (-1), 1) := by decide +kernel
theorem d_M_lastOf_78 : decode m_M_lastOf.2.1 78 = .ok (.if_icmp .eq 16, 3) := by decide +kernel
theorem d_M_lastOf_81 : decode m_M_lastOf.2.1 81 = .ok (.iload 7, 2) := by decide +kernel
theorem d_M_lastOf_83 : decode m_M_lastOf.2.1 83 = .ok (.invokestatic 185, 3) := by decide +kernel
theorem d_M_lastOf_86 : decode m_M_lastOf.2.1 86 = .ok (.iload 6, 2) := by decide +kernel
theorem d_M_lastOf_88 : decode m_M_lastOf.2.1 88 = .ok (.invokestatic 185, 3) := by decide +kernel
theorem d_M_lastOf_91 : decode m_M_lastOf.2.1 91 = .ok (.if_icmp .ge 40, 3) := by decide +kernel
theorem d_M_lastOf_94 : decode m_M_lastOf.2.1 94 = .ok (.aload_n 0, 1) := by decide +kernel
theorem d_M_lastOf_95 : decode m_M_lastOf.2.1 95 = .ok (.iload_n 1, 1) := by decide +kernel
theorem d_M_lastOf_96 : decode m_M_lastOf.2.1 96 = .ok (.iload_n 2, 1) := by decide +kernel
theorem d_M_lastOf_97 : decode m_M_lastOf.2.1 97 = .ok (.aload_n 0, 1) := by decide +kernel
theorem d_M_lastOf_98 : decode m_M_lastOf.2.1 98 = .ok (.getfield 81, 3) := by decide +kernel
theorem d_M_lastOf_101 : decode m_M_lastOf.2.1 101 = .ok (.iload 7, 2) := by decide +kernel
theorem d_M_lastOf_103 : decode m_M_lastOf.2.1 103 = .ok (.ior, 1) := by decide +kernel
theorem d_M_lastOf_104 : decode m_M_lastOf.2.1 104 = .ok (.invokevirtual 136, 3) := by decide +kernel
theorem d_M_lastOf_107 : decode m_M_lastOf.2.1 107 = .ok (.aload_n 0, 1) := by decide +kernel
theorem d_M_lastOf_108 : decode m_M_lastOf.2.1 108 = .ok (.getfield 19, 3) := by decide +kernel
theorem d_M_lastOf_111 : decode m_M_lastOf.2.1 111 = .ok (.aload_n 0, 1) := by decide +kernel
theorem d_M_lastOf_112 : decode m_M_lastOf.2.1 112 = .ok (.getfield 117, 3) := by decide +kernel
theorem d_M_lastOf_115 : decode m_M_lastOf.2.1 115 = .ok (.iconst 1, 1) := by decide +kernel
theorem d_M_lastOf_116 : decode m_M_lastOf.2.1 116 = .ok (.isub, 1) := by decide +kernel
theorem d_M_lastOf_117 : decode m_M_lastOf.2.1 117 = .ok (.iaload, 1) := by decide +kernel
theorem d_M_lastOf_118 : decode m_M_lastOf.2.1 118 = .ok (.iload_n 3, 1) := by decide +kernel
theorem d_M_lastOf_119 : decode m_M_lastOf.2.1 119 = .ok (.if_icmp .ne 8, 3) := by decide +kernel
theorem d_M_lastOf_122 : decode m_M_lastOf.2.1 122 = .ok (.iload 7, 2) := by decide +kernel
theorem d_M_lastOf_124 : decode m_M_lastOf.2.1 124 = .ok (.goto 5, 3) := by decide +kernel
theorem d_M_lastOf_127 : decode m_M_lastOf.2.1 127 = .ok (.iload 6, 2) := by decide +kernel
theorem d_M_lastOf_129 : decode m_M_lastOf.2.1 129 = .ok (.istore 6, 2) := by decide +kernel
theorem d_M_lastOf_131 : decode m_M_lastOf.2.1 131 = .ok (.iinc 7 1, 3) := by decide +kernel
theorem d_M_lastOf_134 : decode m_M_lastOf.2.1 134 = .ok (.goto (-80), 3) := by decide +kernel
theorem d_M_lastOf_137 : decode m_M_lastOf.2.1 137 = .ok (.iload 6, 2) := by decide +kernel
theorem d_M_lastOf_139 : decode m_M_lastOf.2.1 139 = .ok (.iconst (-1), 1) := by decide +kernel
theorem d_M_lastOf_140 : decode m_M_lastOf.2.1 140 = .ok (.if_icmp .eq 9, 3) := by decide +kernel
theorem d_M_lastOf_143 : decode m_M_lastOf.2.1 143 = .ok (.iload 4, 2) := by decide +kernel
theorem d_M_lastOf_145 : decode m_M_lastOf.2.1 145 = .ok (.iconst 1, 1) := by decide +kernel
theorem d_M_lastOf_146 : decode m_M_lastOf.2.1 146 = .ok (.if_icmp .ne 8, 3) := by decide +kernel
theorem d_M_lastOf_149 : decode m_M_lastOf.2.1 149 = .ok (.iload 6, 2) := by decide +kernel
theorem d_M_lastOf_151 : decode m_M_lastOf.2.1 151 = .ok (.goto 8, 3) := by decide +kernel
theorem d_M_lastOf_154 : decode m_M_lastOf.2.1 154 = .ok (.iload 6, 2) := by decide +kernel
theorem d_M_lastOf_156 : decode m_M_lastOf.2.1 156 = .ok (.invokestatic 185, 3) := by decide +kernel
theorem d_M_lastOf_159 : decode m_M_lastOf.2.1 159 = .ok (.ireturn, 1) := by decide +kernel
set_option maxHeartbeats 4000000 in
set_option maxRecDepth 20000 in
theorem Vl_M_lastOf_54 (G : Gt) : ∀ (n : Nat) (x1 : Int32) (x2 : Int32) (x3 : Int32) (x4 : Int32) (x5 : Int32) (x6 : Int32) (x7 : Int32) (h : Hp), V G m_M_lastOf 54 [(0, .ref (ad G 31)), (1, .int x1), (2, .int x2), (3, .int x3), (4, .int x4), (5, .int x5), (6, .int x6), (7, .int x7)] [] h κi (l_M_lastOf_54 n x1 x2 x3 x4 x5 x6 x7 h) := by
  intro n
  induction n with
  | zero => intros; exact v_none
  | succ n ih =>
    intro x1 x2 x3 x4 x5 x6 x7 h
    rw [l_M_lastOf_54]
    refine v_iload 7 d_M_lastOf_54 rfl ?_
    refine v_iconst 1 d_M_lastOf_56 rfl ?_
    refine v_aload_n 0 d_M_lastOf_57 rfl rfl ?_
    refine v_geti fl_M_67 o_31 rfl d_M_lastOf_58 ?_
    refine v_ishl d_M_lastOf_61 ?_
    refine v_icmp_ge 137 d_M_lastOf_62 (by decide) (fun c5 => ?_) (fun c5 => ?_)
    · refine v_iload 6 d_M_lastOf_137 rfl ?_
      refine v_iconst (-1) d_M_lastOf_139 rfl ?_
      refine v_icmp_eq 149 d_M_lastOf_140 (by decide) (fun c6 => ?_) (fun c6 => ?_)
      · refine v_iload 6 d_M_lastOf_149 rfl ?_
        refine v_goto 159 d_M_lastOf_151 (by decide) ?_
        exact v_iret rfl d_M_lastOf_159
      · refine v_iload 4 d_M_lastOf_143 rfl ?_
        refine v_iconst 1 d_M_lastOf_145 rfl ?_
        refine v_icmp_ne 154 d_M_lastOf_146 (by decide) (fun c7 => ?_) (fun c7 => ?_)
        · refine v_iload 6 d_M_lastOf_149 rfl ?_
          refine v_goto 159 d_M_lastOf_151 (by decide) ?_
          exact v_iret rfl d_M_lastOf_159
        · refine v_iload 6 d_M_lastOf_154 rfl ?_
          refine v_callSi (As := [.int x6]) (rest := []) (c_M_ones G x6 h) co_M_185 so_M_ones ⟨by decide, by decide⟩ rfl rfl (Nat.le_of_ble_eq_true rfl) d_M_lastOf_156 (fun r8 h8 _ => ?_)
          exact v_iret rfl d_M_lastOf_159
    · refine v_iload 7 d_M_lastOf_65 rfl ?_
      refine v_iload 5 d_M_lastOf_67 rfl ?_
      refine v_iconst (-1) d_M_lastOf_69 rfl ?_
      refine v_ixor d_M_lastOf_70 ?_
      refine v_iand d_M_lastOf_71 ?_
      refine v_if_ne 131 d_M_lastOf_72 (by decide) (fun c9 => ?_) (fun c9 => ?_)
      · refine v_iload 6 d_M_lastOf_75 rfl ?_
        refine v_iconst (-1) d_M_lastOf_77 rfl ?_
        refine v_icmp_eq 94 d_M_lastOf_78 (by decide) (fun c10 => ?_) (fun c10 => ?_)
        · refine v_aload_n 0 d_M_lastOf_94 rfl rfl ?_
          refine v_iload_n 1 d_M_lastOf_95 rfl rfl ?_
          refine v_iload_n 2 d_M_lastOf_96 rfl rfl ?_
          refine v_aload_n 0 d_M_lastOf_97 rfl rfl ?_
          refine v_geti fl_M_81 o_31 rfl d_M_lastOf_98 ?_
          refine v_iload 7 d_M_lastOf_101 rfl ?_
          refine v_ior d_M_lastOf_103 ?_
          refine v_callVv (As := [.int x1, .int x2, .int ((h 31 5) ||| x7)]) (rest := []) (c_M_lays G x1 x2 ((h 31 5) ||| x7) h) co_M_136 io_M_lays o_31 ⟨by decide, by decide⟩ rfl rfl (Nat.le_of_ble_eq_true rfl) d_M_lastOf_104 (fun _ h11 _ => ?_)
          refine v_aload_n 0 d_M_lastOf_107 rfl rfl ?_
          refine v_getr 35 fl_M_19 o_31 rfl rfl d_M_lastOf_108 ?_
          refine v_aload_n 0 d_M_lastOf_111 rfl rfl ?_
          refine v_geti fl_M_117 o_31 rfl d_M_lastOf_112 ?_
          refine v_iconst 1 d_M_lastOf_115 rfl ?_
          refine v_isub d_M_lastOf_116 ?_
          refine v_iald ar_35 d_M_lastOf_117 ?_
          refine v_iload_n 3 d_M_lastOf_118 rfl rfl ?_
          refine v_icmp_ne 127 d_M_lastOf_119 (by decide) (fun c12 => ?_) (fun c12 => ?_)
          · refine v_iload 7 d_M_lastOf_122 rfl ?_
            refine v_goto 129 d_M_lastOf_124 (by decide) ?_
            refine v_istore [(6, .int x7), (0, .ref (ad G 31)), (1, .int x1), (2, .int x2), (3, .int x3), (4, .int x4), (5, .int x5), (7, .int x7)] d_M_lastOf_129 (by decide) rfl ?_
            refine v_iinc (x7 + 1) 7 [(7, .int (x7 + 1)), (6, .int x7), (0, .ref (ad G 31)), (1, .int x1), (2, .int x2), (3, .int x3), (4, .int x4), (5, .int x5)] d_M_lastOf_131 rfl rfl (by decide) rfl ?_
            refine v_goto 54 d_M_lastOf_134 (by decide) ?_
            exact v_sub [2, 3, 4, 5, 6, 7, 1, 0] rfl (ih x1 x2 x3 x4 x5 x7 (x7 + 1) h11)
          · refine v_iload 6 d_M_lastOf_127 rfl ?_
            refine v_istore [(6, .int x6), (0, .ref (ad G 31)), (1, .int x1), (2, .int x2), (3, .int x3), (4, .int x4), (5, .int x5), (7, .int x7)] d_M_lastOf_129 (by decide) rfl ?_
            refine v_iinc (x7 + 1) 7 [(7, .int (x7 + 1)), (6, .int x6), (0, .ref (ad G 31)), (1, .int x1), (2, .int x2), (3, .int x3), (4, .int x4), (5, .int x5)] d_M_lastOf_131 rfl rfl (by decide) rfl ?_
            refine v_goto 54 d_M_lastOf_134 (by decide) ?_
            exact v_sub [2, 3, 4, 5, 6, 7, 1, 0] rfl (ih x1 x2 x3 x4 x5 x6 (x7 + 1) h11)
        · refine v_iload 7 d_M_lastOf_81 rfl ?_
          refine v_callSi (As := [.int x7]) (rest := []) (c_M_ones G x7 h) co_M_185 so_M_ones ⟨by decide, by decide⟩ rfl rfl (Nat.le_of_ble_eq_true rfl) d_M_lastOf_83 (fun r13 h13 _ => ?_)
          refine v_iload 6 d_M_lastOf_86 rfl ?_
          refine v_callSi (As := [.int x6]) (rest := [.int r13]) (c_M_ones G x6 h13) co_M_185 so_M_ones ⟨by decide, by decide⟩ rfl rfl (Nat.le_of_ble_eq_true rfl) d_M_lastOf_88 (fun r14 h14 _ => ?_)
          refine v_icmp_ge 131 d_M_lastOf_91 (by decide) (fun c15 => ?_) (fun c15 => ?_)
          · refine v_iinc (x7 + 1) 7 [(7, .int (x7 + 1)), (0, .ref (ad G 31)), (1, .int x1), (2, .int x2), (3, .int x3), (4, .int x4), (5, .int x5), (6, .int x6)] d_M_lastOf_131 rfl rfl (by decide) rfl ?_
            refine v_goto 54 d_M_lastOf_134 (by decide) ?_
            exact v_sub [1, 2, 3, 4, 5, 6, 7, 0] rfl (ih x1 x2 x3 x4 x5 x6 (x7 + 1) h14)
          · refine v_aload_n 0 d_M_lastOf_94 rfl rfl ?_
            refine v_iload_n 1 d_M_lastOf_95 rfl rfl ?_
            refine v_iload_n 2 d_M_lastOf_96 rfl rfl ?_
            refine v_aload_n 0 d_M_lastOf_97 rfl rfl ?_
            refine v_geti fl_M_81 o_31 rfl d_M_lastOf_98 ?_
            refine v_iload 7 d_M_lastOf_101 rfl ?_
            refine v_ior d_M_lastOf_103 ?_
            refine v_callVv (As := [.int x1, .int x2, .int ((h14 31 5) ||| x7)]) (rest := []) (c_M_lays G x1 x2 ((h14 31 5) ||| x7) h14) co_M_136 io_M_lays o_31 ⟨by decide, by decide⟩ rfl rfl (Nat.le_of_ble_eq_true rfl) d_M_lastOf_104 (fun _ h16 _ => ?_)
            refine v_aload_n 0 d_M_lastOf_107 rfl rfl ?_
            refine v_getr 35 fl_M_19 o_31 rfl rfl d_M_lastOf_108 ?_
            refine v_aload_n 0 d_M_lastOf_111 rfl rfl ?_
            refine v_geti fl_M_117 o_31 rfl d_M_lastOf_112 ?_
            refine v_iconst 1 d_M_lastOf_115 rfl ?_
            refine v_isub d_M_lastOf_116 ?_
            refine v_iald ar_35 d_M_lastOf_117 ?_
            refine v_iload_n 3 d_M_lastOf_118 rfl rfl ?_
            refine v_icmp_ne 127 d_M_lastOf_119 (by decide) (fun c17 => ?_) (fun c17 => ?_)
            · refine v_iload 7 d_M_lastOf_122 rfl ?_
              refine v_goto 129 d_M_lastOf_124 (by decide) ?_
              refine v_istore [(6, .int x7), (0, .ref (ad G 31)), (1, .int x1), (2, .int x2), (3, .int x3), (4, .int x4), (5, .int x5), (7, .int x7)] d_M_lastOf_129 (by decide) rfl ?_
              refine v_iinc (x7 + 1) 7 [(7, .int (x7 + 1)), (6, .int x7), (0, .ref (ad G 31)), (1, .int x1), (2, .int x2), (3, .int x3), (4, .int x4), (5, .int x5)] d_M_lastOf_131 rfl rfl (by decide) rfl ?_
              refine v_goto 54 d_M_lastOf_134 (by decide) ?_
              exact v_sub [2, 3, 4, 5, 6, 7, 1, 0] rfl (ih x1 x2 x3 x4 x5 x7 (x7 + 1) h16)
            · refine v_iload 6 d_M_lastOf_127 rfl ?_
              refine v_istore [(6, .int x6), (0, .ref (ad G 31)), (1, .int x1), (2, .int x2), (3, .int x3), (4, .int x4), (5, .int x5), (7, .int x7)] d_M_lastOf_129 (by decide) rfl ?_
              refine v_iinc (x7 + 1) 7 [(7, .int (x7 + 1)), (6, .int x6), (0, .ref (ad G 31)), (1, .int x1), (2, .int x2), (3, .int x3), (4, .int x4), (5, .int x5)] d_M_lastOf_131 rfl rfl (by decide) rfl ?_
              refine v_goto 54 d_M_lastOf_134 (by decide) ?_
              exact v_sub [2, 3, 4, 5, 6, 7, 1, 0] rfl (ih x1 x2 x3 x4 x5 x6 (x7 + 1) h16)
      · refine v_iinc (x7 + 1) 7 [(7, .int (x7 + 1)), (0, .ref (ad G 31)), (1, .int x1), (2, .int x2), (3, .int x3), (4, .int x4), (5, .int x5), (6, .int x6)] d_M_lastOf_131 rfl rfl (by decide) rfl ?_
        refine v_goto 54 d_M_lastOf_134 (by decide) ?_
        exact v_sub [1, 2, 3, 4, 5, 6, 7, 0] rfl (ih x1 x2 x3 x4 x5 x6 (x7 + 1) h)
set_option maxHeartbeats 4000000 in
set_option maxRecDepth 20000 in
theorem c_M_lastOf (G : Gt) (x1 : Int32) (x2 : Int32) (x3 : Int32) (x4 : Int32) (h : Hp) : Cn G m_M_lastOf [.ref (ad G 31), .int x1, .int x2, .int x3, .int x4] h κi (f_M_lastOf x1 x2 x3 x4 h) := by
  refine entryV (by decide) (Nat.le_of_ble_eq_true rfl) rfl ?_
  show V G m_M_lastOf 0 [(0, .ref (ad G 31)), (1, .int x1), (2, .int x2), (3, .int x3), (4, .int x4)] [] h κi _
  unfold f_M_lastOf
  refine v_aload_n 0 d_M_lastOf_0 rfl rfl ?_
  refine v_iload_n 1 d_M_lastOf_1 rfl rfl ?_
  refine v_callVi (As := [.int x1]) (rest := []) (c_M_isHidden G x1 h) co_M_133 io_M_isHidden o_31 ⟨by decide, by decide⟩ rfl rfl (Nat.le_of_ble_eq_true rfl) d_M_lastOf_2 (fun r1 h1 _ => ?_)
  refine v_if_ne 16 d_M_lastOf_5 (by decide) (fun c2 => ?_) (fun c2 => ?_)
  · refine v_aload_n 0 d_M_lastOf_8 rfl rfl ?_
    refine v_iload_n 3 d_M_lastOf_9 rfl rfl ?_
    refine v_callVi (As := [.int x3]) (rest := []) (c_M_isHidden G x3 h1) co_M_133 io_M_isHidden o_31 ⟨by decide, by decide⟩ rfl rfl (Nat.le_of_ble_eq_true rfl) d_M_lastOf_10 (fun r3 h3 _ => ?_)
    refine v_if_eq 19 d_M_lastOf_13 (by decide) (fun c4 => ?_) (fun c4 => ?_)
    · refine v_iconst 1 d_M_lastOf_19 rfl ?_
      refine v_aload_n 0 d_M_lastOf_20 rfl rfl ?_
      refine v_geti fl_M_67 o_31 rfl d_M_lastOf_21 ?_
      refine v_ishl d_M_lastOf_24 ?_
      refine v_iconst 1 d_M_lastOf_25 rfl ?_
      refine v_isub d_M_lastOf_26 ?_
      refine v_aload_n 0 d_M_lastOf_27 rfl rfl ?_
      refine v_geti fl_M_81 o_31 rfl d_M_lastOf_28 ?_
      refine v_iconst (-1) d_M_lastOf_31 rfl ?_
      refine v_ixor d_M_lastOf_32 ?_
      refine v_iand d_M_lastOf_33 ?_
      refine v_iconst 1 d_M_lastOf_34 rfl ?_
      refine v_iload_n 1 d_M_lastOf_35 rfl rfl ?_
      refine v_ishl d_M_lastOf_36 ?_
      refine v_iconst (-1) d_M_lastOf_37 rfl ?_
      refine v_ixor d_M_lastOf_38 ?_
      refine v_iand d_M_lastOf_39 ?_
      refine v_iconst 1 d_M_lastOf_40 rfl ?_
      refine v_iload_n 3 d_M_lastOf_41 rfl rfl ?_
      refine v_ishl d_M_lastOf_42 ?_
      refine v_iconst (-1) d_M_lastOf_43 rfl ?_
      refine v_ixor d_M_lastOf_44 ?_
      refine v_iand d_M_lastOf_45 ?_
      refine v_istore [(5, .int ((((((1 : Int32) <<< ((h3 31 2) &&& 31)) - 1) &&& ((h3 31 5) ^^^ (-1))) &&& (((1 : Int32) <<< (x1 &&& 31)) ^^^ (-1))) &&& (((1 : Int32) <<< (x3 &&& 31)) ^^^ (-1)))), (0, .ref (ad G 31)), (1, .int x1), (2, .int x2), (3, .int x3), (4, .int x4)] d_M_lastOf_46 (by decide) rfl ?_
      refine v_iconst (-1) d_M_lastOf_48 rfl ?_
      refine v_istore [(6, .int (-1)), (5, .int ((((((1 : Int32) <<< ((h3 31 2) &&& 31)) - 1) &&& ((h3 31 5) ^^^ (-1))) &&& (((1 : Int32) <<< (x1 &&& 31)) ^^^ (-1))) &&& (((1 : Int32) <<< (x3 &&& 31)) ^^^ (-1)))), (0, .ref (ad G 31)), (1, .int x1), (2, .int x2), (3, .int x3), (4, .int x4)] d_M_lastOf_49 (by decide) rfl ?_
      refine v_iconst 0 d_M_lastOf_51 rfl ?_
      refine v_istore [(7, .int 0), (6, .int (-1)), (5, .int ((((((1 : Int32) <<< ((h3 31 2) &&& 31)) - 1) &&& ((h3 31 5) ^^^ (-1))) &&& (((1 : Int32) <<< (x1 &&& 31)) ^^^ (-1))) &&& (((1 : Int32) <<< (x3 &&& 31)) ^^^ (-1)))), (0, .ref (ad G 31)), (1, .int x1), (2, .int x2), (3, .int x3), (4, .int x4)] d_M_lastOf_52 (by decide) rfl ?_
      exact v_sub [3, 4, 5, 6, 7, 2, 1, 0] rfl (Vl_M_lastOf_54 G FUEL x1 x2 x3 x4 ((((((1 : Int32) <<< ((h3 31 2) &&& 31)) - 1) &&& ((h3 31 5) ^^^ (-1))) &&& (((1 : Int32) <<< (x1 &&& 31)) ^^^ (-1))) &&& (((1 : Int32) <<< (x3 &&& 31)) ^^^ (-1))) (-1) 0 h3)
    · refine v_bipush (-3) d_M_lastOf_16 rfl ?_
      exact v_iret rfl d_M_lastOf_18
  · refine v_bipush (-3) d_M_lastOf_16 rfl ?_
    exact v_iret rfl d_M_lastOf_18
