theorem d_M_write_0 : decode m_M_write.2.1 0 = .ok (.aload_n 0, 1) := by decide +kernel
theorem d_M_write_1 : decode m_M_write.2.1 1 = .ok (.iload_n 1, 1) := by decide +kernel
theorem d_M_write_2 : decode m_M_write.2.1 2 = .ok (.iload_n 2, 1) := by decide +kernel
theorem d_M_write_3 : decode m_M_write.2.1 3 = .ok (.invokevirtual 140, 3) := by decide +kernel
theorem d_M_write_6 : decode m_M_write.2.1 6 = .ok (.ifCond .eq 10, 3) := by decide +kernel
theorem d_M_write_9 : decode m_M_write.2.1 9 = .ok (.iload_n 3, 1) := by decide +kernel
theorem d_M_write_10 : decode m_M_write.2.1 10 = .ok (.invokestatic 98, 3) := by decide +kernel
theorem d_M_write_13 : decode m_M_write.2.1 13 = .ok (.ifCond .ne 6, 3) := by decide +kernel
theorem d_M_write_16 : decode m_M_write.2.1 16 = .ok (.bipush (-2), 2) := by decide +kernel
theorem d_M_write_18 : decode m_M_write.2.1 18 = .ok (.ireturn, 1) := by decide +kernel
theorem d_M_write_19 : decode m_M_write.2.1 19 = .ok (.aload_n 0, 1) := by decide +kernel
theorem d_M_write_20 : decode m_M_write.2.1 20 = .ok (.getfield 37, 3) := by decide +kernel
theorem d_M_write_23 : decode m_M_write.2.1 23 = .ok (.iload_n 3, 1) := by decide +kernel
theorem d_M_write_24 : decode m_M_write.2.1 24 = .ok (.baload, 1) := by decide +kernel
theorem d_M_write_25 : decode m_M_write.2.1 25 = .ok (.ifCond .ne 9, 3) := by decide +kernel
theorem d_M_write_28 : decode m_M_write.2.1 28 = .ok (.aload_n 0, 1) := by decide +kernel
theorem d_M_write_29 : decode m_M_write.2.1 29 = .ok (.iconst 1, 1) := by decide +kernel
theorem d_M_write_30 : decode m_M_write.2.1 30 = .ok (.invokevirtual 101, 3) := by decide +kernel
theorem d_M_write_33 : decode m_M_write.2.1 33 = .ok (.ireturn, 1) := by decide +kernel
theorem d_M_write_34 : decode m_M_write.2.1 34 = .ok (.aload_n 0, 1) := by decide +kernel
theorem d_M_write_35 : decode m_M_write.2.1 35 = .ok (.iload_n 1, 1) := by decide +kernel
theorem d_M_write_36 : decode m_M_write.2.1 36 = .ok (.invokevirtual 133, 3) := by decide +kernel
theorem d_M_write_39 : decode m_M_write.2.1 39 = .ok (.ifCond .eq 6, 3) := by decide +kernel
theorem d_M_write_42 : decode m_M_write.2.1 42 = .ok (.bipush (-3), 2) := by decide +kernel
theorem d_M_write_44 : decode m_M_write.2.1 44 = .ok (.ireturn, 1) := by decide +kernel
theorem d_M_write_45 : decode m_M_write.2.1 45 = .ok (.aload_n 0, 1) := by decide +kernel
theorem d_M_write_46 : decode m_M_write.2.1 46 = .ok (.iload_n 1, 1) := by decide +kernel
theorem d_M_write_47 : decode m_M_write.2.1 47 = .ok (.iload_n 2, 1) := by decide +kernel
theorem d_M_write_48 : decode m_M_write.2.1 48 = .ok (.aload_n 0, 1) := by decide +kernel
theorem d_M_write_49 : decode m_M_write.2.1 49 = .ok (.getfield 81, 3) := by decide +kernel
theorem d_M_write_52 : decode m_M_write.2.1 52 = .ok (.invokevirtual 136, 3) := by decide +kernel
theorem d_M_write_55 : decode m_M_write.2.1 55 = .ok (.iconst 0, 1) := by decide +kernel
theorem d_M_write_56 : decode m_M_write.2.1 56 = .ok (.istore 4, 2) := by decide +kernel
theorem d_M_write_58 : decode m_M_write.2.1 58 = .ok (.iload 4, 2) := by decide +kernel
theorem d_M_write_60 : decode m_M_write.2.1 60 = .ok (.aload_n 0, 1) := by decide +kernel
theorem d_M_write_61 : decode m_M_write.2.1 61 = .ok (.getfield 44, 3) := by decide +kernel
theorem d_M_write_64 : decode m_M_write.2.1 64 = .ok (.iload_n 3, 1) := by decide +kernel
theorem d_M_write_65 : decode m_M_write.2.1 65 = .ok (.iaload, 1) := by decide +kernel
theorem d_M_write_66 : decode m_M_write.2.1 66 = .ok (.if_icmp .ge 32, 3) := by decide +kernel
theorem d_M_write_69 : decode m_M_write.2.1 69 = .ok (.iload 4, 2) := by decide +kernel
theorem d_M_write_71 : decode m_M_write.2.1 71 = .ok (.aload_n 0, 1) := by decide +kernel
theorem d_M_write_72 : decode m_M_write.2.1 72 = .ok (.getfield 117, 3) := by decide +kernel
theorem d_M_write_75 : decode m_M_write.2.1 75 = .ok (.if_icmp .ge 23, 3) := by decide +kernel
theorem d_M_write_78 : decode m_M_write.2.1 78 = .ok (.aload_n 0, 1) := by decide +kernel
theorem d_M_write_79 : decode m_M_write.2.1 79 = .ok (.iload_n 3, 1) := by decide +kernel
theorem d_M_write_80 : decode m_M_write.2.1 80 = .ok (.iload 4, 2) := by decide +kernel
theorem d_M_write_82 : decode m_M_write.2.1 82 = .ok (.aload_n 0, 1) := by decide +kernel
theorem d_M_write_83 : decode m_M_write.2.1 83 = .ok (.getfield 19, 3) := by decide +kernel
theorem d_M_write_86 : decode m_M_write.2.1 86 = .ok (.iload 4, 2) := by decide +kernel
theorem d_M_write_88 : decode m_M_write.2.1 88 = .ok (.iaload, 1) := by decide +kernel
theorem d_M_write_89 : decode m_M_write.2.1 89 = .ok (.invokevirtual 223, 3) := by decide +kernel
theorem d_M_write_92 : decode m_M_write.2.1 92 = .ok (.iinc 4 1, 3) := by decide +kernel
theorem d_M_write_95 : decode m_M_write.2.1 95 = .ok (.goto (-37), 3) := by decide +kernel
theorem d_M_write_98 : decode m_M_write.2.1 98 = .ok (.iload 4, 2) := by decide +kernel
theorem d_M_write_100 : decode m_M_write.2.1 100 = .ok (.ireturn, 1) := by decide +kernel
set_option maxHeartbeats 4000000 in
set_option maxRecDepth 20000 in
theorem Vl_M_write_58 (G : Gt) : ∀ (n : Nat) (x3 : Int32) (x4 : Int32) (h : Hp), V G m_M_write 58 [(0, .ref (ad G 31)), (3, .int x3), (4, .int x4)] [] h κi (l_M_write_58 n x3 x4 h) := by
  intro n
  induction n with
  | zero => intros; exact v_none
  | succ n ih =>
    intro x3 x4 h
    rw [l_M_write_58]
    refine v_iload 2 d_M_write_58 rfl ?_
    refine v_aload_n 0 d_M_write_60 rfl rfl ?_
    refine v_getr 43 fl_M_44 o_31 rfl rfl d_M_write_61 ?_
    refine v_iload_n 1 d_M_write_64 rfl rfl ?_
    refine v_iald ar_43 d_M_write_65 ?_
    refine v_icmp_ge 98 d_M_write_66 (by decide) (fun c10 => ?_) (fun c10 => ?_)
    · refine v_iload 2 d_M_write_98 rfl ?_
      exact v_iret rfl d_M_write_100
    · refine v_iload 2 d_M_write_69 rfl ?_
      refine v_aload_n 0 d_M_write_71 rfl rfl ?_
      refine v_geti fl_M_117 o_31 rfl d_M_write_72 ?_
      refine v_icmp_ge 98 d_M_write_75 (by decide) (fun c11 => ?_) (fun c11 => ?_)
      · refine v_iload 2 d_M_write_98 rfl ?_
        exact v_iret rfl d_M_write_100
      · refine v_aload_n 0 d_M_write_78 rfl rfl ?_
        refine v_iload_n 1 d_M_write_79 rfl rfl ?_
        refine v_iload 2 d_M_write_80 rfl ?_
        refine v_aload_n 0 d_M_write_82 rfl rfl ?_
        refine v_getr 35 fl_M_19 o_31 rfl rfl d_M_write_83 ?_
        refine v_iload 2 d_M_write_86 rfl ?_
        refine v_iald ar_35 d_M_write_88 ?_
        refine v_callVv (As := [.int x3, .int x4, .int (h 35 (ix x4))]) (rest := []) (c_M_keep G x3 x4 (h 35 (ix x4)) h) co_M_223 io_M_keep o_31 ⟨by decide, by decide⟩ rfl rfl (Nat.le_of_ble_eq_true rfl) d_M_write_89 (fun _ h12 _ => ?_)
        refine v_iinc (x4 + 1) 2 [(4, .int (x4 + 1)), (0, .ref (ad G 31)), (3, .int x3)] d_M_write_92 rfl rfl (by decide) rfl ?_
        refine v_goto 58 d_M_write_95 (by decide) ?_
        exact v_sub [1, 2, 0] rfl (ih x3 (x4 + 1) h12)
set_option maxHeartbeats 4000000 in
set_option maxRecDepth 20000 in
theorem c_M_write (G : Gt) (x1 : Int32) (x2 : Int32) (x3 : Int32) (h : Hp) : Cn G m_M_write [.ref (ad G 31), .int x1, .int x2, .int x3] h κi (f_M_write x1 x2 x3 h) := by
  refine entryV (by decide) (Nat.le_of_ble_eq_true rfl) rfl ?_
  show V G m_M_write 0 [(0, .ref (ad G 31)), (1, .int x1), (2, .int x2), (3, .int x3)] [] h κi _
  unfold f_M_write
  refine v_aload_n 0 d_M_write_0 rfl rfl ?_
  refine v_iload_n 1 d_M_write_1 rfl rfl ?_
  refine v_iload_n 2 d_M_write_2 rfl rfl ?_
  refine v_callVi (As := [.int x1, .int x2]) (rest := []) (c_M_isWeb G x1 x2 h) co_M_140 io_M_isWeb o_31 ⟨by decide, by decide⟩ rfl rfl (Nat.le_of_ble_eq_true rfl) d_M_write_3 (fun r1 h1 _ => ?_)
  refine v_if_eq 16 d_M_write_6 (by decide) (fun c2 => ?_) (fun c2 => ?_)
  · refine v_bipush (-2) d_M_write_16 rfl ?_
    exact v_iret rfl d_M_write_18
  · refine v_iload_n 3 d_M_write_9 rfl rfl ?_
    refine v_callSi (As := [.int x3]) (rest := []) (c_M_isSheet G x3 h1) co_M_98 so_M_isSheet ⟨by decide, by decide⟩ rfl rfl (Nat.le_of_ble_eq_true rfl) d_M_write_10 (fun r3 h3 _ => ?_)
    refine v_if_ne 19 d_M_write_13 (by decide) (fun c4 => ?_) (fun c4 => ?_)
    · refine v_bipush (-2) d_M_write_16 rfl ?_
      exact v_iret rfl d_M_write_18
    · refine v_aload_n 0 d_M_write_19 rfl rfl ?_
      refine v_getr 41 fl_M_37 o_31 rfl rfl d_M_write_20 ?_
      refine v_iload_n 3 d_M_write_23 rfl rfl ?_
      refine v_zald ar_41 d_M_write_24 ?_
      refine v_if_ne 34 d_M_write_25 (by decide) (fun c5 => ?_) (fun c5 => ?_)
      · refine v_aload_n 0 d_M_write_28 rfl rfl ?_
        refine v_iconst 1 d_M_write_29 rfl ?_
        refine v_callVi (As := [.int 1]) (rest := []) (c_M_meets G 1 h3) co_M_101 io_M_meets o_31 ⟨by decide, by decide⟩ rfl rfl (Nat.le_of_ble_eq_true rfl) d_M_write_30 (fun r6 h6 _ => ?_)
        exact v_iret rfl d_M_write_33
      · refine v_aload_n 0 d_M_write_34 rfl rfl ?_
        refine v_iload_n 1 d_M_write_35 rfl rfl ?_
        refine v_callVi (As := [.int x1]) (rest := []) (c_M_isHidden G x1 h3) co_M_133 io_M_isHidden o_31 ⟨by decide, by decide⟩ rfl rfl (Nat.le_of_ble_eq_true rfl) d_M_write_36 (fun r7 h7 _ => ?_)
        refine v_if_eq 45 d_M_write_39 (by decide) (fun c8 => ?_) (fun c8 => ?_)
        · refine v_aload_n 0 d_M_write_45 rfl rfl ?_
          refine v_iload_n 1 d_M_write_46 rfl rfl ?_
          refine v_iload_n 2 d_M_write_47 rfl rfl ?_
          refine v_aload_n 0 d_M_write_48 rfl rfl ?_
          refine v_geti fl_M_81 o_31 rfl d_M_write_49 ?_
          refine v_callVv (As := [.int x1, .int x2, .int (h7 31 5)]) (rest := []) (c_M_lays G x1 x2 (h7 31 5) h7) co_M_136 io_M_lays o_31 ⟨by decide, by decide⟩ rfl rfl (Nat.le_of_ble_eq_true rfl) d_M_write_52 (fun _ h9 _ => ?_)
          refine v_iconst 0 d_M_write_55 rfl ?_
          refine v_istore [(4, .int 0), (0, .ref (ad G 31)), (1, .int x1), (2, .int x2), (3, .int x3)] d_M_write_56 (by decide) rfl ?_
          exact v_sub [1, 4, 0] rfl (Vl_M_write_58 G FUEL x3 0 h9)
        · refine v_bipush (-3) d_M_write_42 rfl ?_
          exact v_iret rfl d_M_write_44
theorem d_M_sumOf_0 : decode m_M_sumOf.2.1 0 = .ok (.aload_n 0, 1) := by decide +kernel
theorem d_M_sumOf_1 : decode m_M_sumOf.2.1 1 = .ok (.invokevirtual 77, 3) := by decide +kernel
theorem d_M_sumOf_4 : decode m_M_sumOf.2.1 4 = .ok (.istore_n 2, 1) := by decide +kernel
theorem d_M_sumOf_5 : decode m_M_sumOf.2.1 5 = .ok (.iconst 0, 1) := by decide +kernel
theorem d_M_sumOf_6 : decode m_M_sumOf.2.1 6 = .ok (.istore_n 3, 1) := by decide +kernel
theorem d_M_sumOf_7 : decode m_M_sumOf.2.1 7 = .ok (.iconst 0, 1) := by decide +kernel
theorem d_M_sumOf_8 : decode m_M_sumOf.2.1 8 = .ok (.istore 4, 2) := by decide +kernel
theorem d_M_sumOf_10 : decode m_M_sumOf.2.1 10 = .ok (.iload 4, 2) := by decide +kernel
theorem d_M_sumOf_12 : decode m_M_sumOf.2.1 12 = .ok (.aload_n 0, 1) := by decide +kernel
theorem d_M_sumOf_13 : decode m_M_sumOf.2.1 13 = .ok (.getfield 67, 3) := by decide +kernel
theorem d_M_sumOf_16 : decode m_M_sumOf.2.1 16 = .ok (.if_icmp .ge 63, 3) := by decide +kernel
theorem d_M_sumOf_19 : decode m_M_sumOf.2.1 19 = .ok (.iload_n 3, 1) := by decide +kernel
theorem d_M_sumOf_20 : decode m_M_sumOf.2.1 20 = .ok (.iload_n 1, 1) := by decide +kernel
theorem d_M_sumOf_21 : decode m_M_sumOf.2.1 21 = .ok (.iconst 2, 1) := by decide +kernel
theorem d_M_sumOf_22 : decode m_M_sumOf.2.1 22 = .ok (.if_icmp .ne 15, 3) := by decide +kernel
theorem d_M_sumOf_25 : decode m_M_sumOf.2.1 25 = .ok (.aload_n 0, 1) := by decide +kernel
theorem d_M_sumOf_26 : decode m_M_sumOf.2.1 26 = .ok (.getfield 81, 3) := by decide +kernel
theorem d_M_sumOf_29 : decode m_M_sumOf.2.1 29 = .ok (.iload 4, 2) := by decide +kernel
theorem d_M_sumOf_31 : decode m_M_sumOf.2.1 31 = .ok (.ishr, 1) := by decide +kernel
theorem d_M_sumOf_32 : decode m_M_sumOf.2.1 32 = .ok (.iconst 1, 1) := by decide +kernel
theorem d_M_sumOf_33 : decode m_M_sumOf.2.1 33 = .ok (.iand, 1) := by decide +kernel
theorem d_M_sumOf_34 : decode m_M_sumOf.2.1 34 = .ok (.goto 4, 3) := by decide +kernel
theorem d_M_sumOf_37 : decode m_M_sumOf.2.1 37 = .ok (.iconst 0, 1) := by decide +kernel
theorem d_M_sumOf_38 : decode m_M_sumOf.2.1 38 = .ok (.iadd, 1) := by decide +kernel
theorem d_M_sumOf_39 : decode m_M_sumOf.2.1 39 = .ok (.istore_n 3, 1) := by decide +kernel
theorem d_M_sumOf_40 : decode m_M_sumOf.2.1 40 = .ok (.iconst 0, 1) := by decide +kernel
theorem d_M_sumOf_41 : decode m_M_sumOf.2.1 41 = .ok (.istore 5, 2) := by decide +kernel
theorem d_M_sumOf_43 : decode m_M_sumOf.2.1 43 = .ok (.iload 5, 2) := by decide +kernel
theorem d_M_sumOf_45 : decode m_M_sumOf.2.1 45 = .ok (.iload 4, 2) := by decide +kernel
theorem d_M_sumOf_47 : decode m_M_sumOf.2.1 47 = .ok (.if_icmp .ge 26, 3) := by decide +kernel
theorem d_M_sumOf_50 : decode m_M_sumOf.2.1 50 = .ok (.iload_n 1, 1) := by decide +kernel
theorem d_M_sumOf_51 : decode m_M_sumOf.2.1 51 = .ok (.bipush 7, 2) := by decide +kernel
theorem d_M_sumOf_53 : decode m_M_sumOf.2.1 53 = .ok (.if_icmp .ne 20, 3) := by decide +kernel
theorem d_M_sumOf_56 : decode m_M_sumOf.2.1 56 = .ok (.iload_n 3, 1) := by decide +kernel
theorem d_M_sumOf_57 : decode m_M_sumOf.2.1 57 = .ok (.aload_n 0, 1) := by decide +kernel
theorem d_M_sumOf_58 : decode m_M_sumOf.2.1 58 = .ok (.iload 4, 2) := by decide +kernel
theorem d_M_sumOf_60 : decode m_M_sumOf.2.1 60 = .ok (.iload 5, 2) := by decide +kernel
theorem d_M_sumOf_62 : decode m_M_sumOf.2.1 62 = .ok (.invokevirtual 107, 3) := by decide +kernel
theorem d_M_sumOf_65 : decode m_M_sumOf.2.1 65 = .ok (.iadd, 1) := by decide +kernel
theorem d_M_sumOf_66 : decode m_M_sumOf.2.1 66 = .ok (.istore_n 3, 1) := by decide +kernel
theorem d_M_sumOf_67 : decode m_M_sumOf.2.1 67 = .ok (.iinc 5 1, 3) := by decide +kernel
theorem d_M_sumOf_70 : decode m_M_sumOf.2.1 70 = .ok (.goto (-27), 3) := by decide +kernel
theorem d_M_sumOf_73 : decode m_M_sumOf.2.1 73 = .ok (.iinc 4 1, 3) := by decide +kernel
theorem d_M_sumOf_76 : decode m_M_sumOf.2.1 76 = .ok (.goto (-66), 3) := by decide +kernel
theorem d_M_sumOf_79 : decode m_M_sumOf.2.1 79 = .ok (.iload_n 1, 1) := by decide +kernel
theorem d_M_sumOf_80 : decode m_M_sumOf.2.1 80 = .ok (.ifCond .ne 10, 3) := by decide +kernel
theorem d_M_sumOf_83 : decode m_M_sumOf.2.1 83 = .ok (.aload_n 0, 1) := by decide +kernel
theorem d_M_sumOf_84 : decode m_M_sumOf.2.1 84 = .ok (.getfield 67, 3) := by decide +kernel
theorem d_M_sumOf_87 : decode m_M_sumOf.2.1 87 = .ok (.goto 4, 3) := by decide +kernel
theorem d_M_sumOf_90 : decode m_M_sumOf.2.1 90 = .ok (.iload_n 3, 1) := by decide +kernel
theorem d_M_sumOf_91 : decode m_M_sumOf.2.1 91 = .ok (.ireturn, 1) := by decide +kernel
set_option maxHeartbeats 4000000 in
set_option maxRecDepth 20000 in
theorem Vl_M_sumOf_43 (G : Gt) (K10 : Int32 → Int32 → Int32 → Hp → Option (Int32 × Hp)) (hK10 : ∀ (x1 : Int32) (x3 : Int32) (x4 : Int32) (h : Hp), V G m_M_sumOf 10 [(0, .ref (ad G 31)), (1, .int x1), (3, .int x3), (4, .int x4)] [] h κi (K10 x1 x3 x4 h)) : ∀ (n : Nat) (x1 : Int32) (x3 : Int32) (x4 : Int32) (x5 : Int32) (h : Hp), V G m_M_sumOf 43 [(0, .ref (ad G 31)), (1, .int x1), (3, .int x3), (4, .int x4), (5, .int x5)] [] h κi (l_M_sumOf_43 K10 n x1 x3 x4 x5 h) := by
  intro n
  induction n with
  | zero => intros; exact v_none
  | succ n ih =>
    intro x1 x3 x4 x5 h
    rw [l_M_sumOf_43]
    refine v_iload 4 d_M_sumOf_43 rfl ?_
    refine v_iload 3 d_M_sumOf_45 rfl ?_
    refine v_icmp_ge 73 d_M_sumOf_47 (by decide) (fun c5 => ?_) (fun c5 => ?_)
    · refine v_iinc (x4 + 1) 3 [(4, .int (x4 + 1)), (0, .ref (ad G 31)), (1, .int x1), (3, .int x3), (5, .int x5)] d_M_sumOf_73 rfl rfl (by decide) rfl ?_
      refine v_goto 10 d_M_sumOf_76 (by decide) ?_
      exact v_sub [1, 2, 3, 0] rfl (hK10 x1 x3 (x4 + 1) h)
    · refine v_iload_n 1 d_M_sumOf_50 rfl rfl ?_
      refine v_bipush 7 d_M_sumOf_51 rfl ?_
      refine v_icmp_ne 73 d_M_sumOf_53 (by decide) (fun c6 => ?_) (fun c6 => ?_)
      · refine v_iload_n 2 d_M_sumOf_56 rfl rfl ?_
        refine v_aload_n 0 d_M_sumOf_57 rfl rfl ?_
        refine v_iload 3 d_M_sumOf_58 rfl ?_
        refine v_iload 4 d_M_sumOf_60 rfl ?_
        refine v_callVi (As := [.int x4, .int x5]) (rest := [.int x3]) (c_M_farOf G x4 x5 h) co_M_107 io_M_farOf o_31 ⟨by decide, by decide⟩ rfl rfl (Nat.le_of_ble_eq_true rfl) d_M_sumOf_62 (fun r7 h7 _ => ?_)
        refine v_iadd d_M_sumOf_65 ?_
        refine v_istore_n [(3, .int (x3 + r7)), (0, .ref (ad G 31)), (1, .int x1), (4, .int x4), (5, .int x5)] d_M_sumOf_66 rfl (by decide) rfl ?_
        refine v_iinc (x5 + 1) 4 [(5, .int (x5 + 1)), (3, .int (x3 + r7)), (0, .ref (ad G 31)), (1, .int x1), (4, .int x4)] d_M_sumOf_67 rfl rfl (by decide) rfl ?_
        refine v_goto 43 d_M_sumOf_70 (by decide) ?_
        exact v_sub [2, 3, 1, 4, 0] rfl (ih x1 (x3 + r7) x4 (x5 + 1) h7)
      · refine v_iinc (x4 + 1) 3 [(4, .int (x4 + 1)), (0, .ref (ad G 31)), (1, .int x1), (3, .int x3), (5, .int x5)] d_M_sumOf_73 rfl rfl (by decide) rfl ?_
        refine v_goto 10 d_M_sumOf_76 (by decide) ?_
        exact v_sub [1, 2, 3, 0] rfl (hK10 x1 x3 (x4 + 1) h)
set_option maxHeartbeats 4000000 in
set_option maxRecDepth 20000 in
theorem Vl_M_sumOf_10 (G : Gt) : ∀ (n : Nat) (x1 : Int32) (x3 : Int32) (x4 : Int32) (h : Hp), V G m_M_sumOf 10 [(0, .ref (ad G 31)), (1, .int x1), (3, .int x3), (4, .int x4)] [] h κi (l_M_sumOf_10 n x1 x3 x4 h) := by
  intro n
  induction n with
  | zero => intros; exact v_none
  | succ n ih =>
    intro x1 x3 x4 h
    rw [l_M_sumOf_10]
    refine v_iload 3 d_M_sumOf_10 rfl ?_
    refine v_aload_n 0 d_M_sumOf_12 rfl rfl ?_
    refine v_geti fl_M_67 o_31 rfl d_M_sumOf_13 ?_
    refine v_icmp_ge 79 d_M_sumOf_16 (by decide) (fun c2 => ?_) (fun c2 => ?_)
    · refine v_iload_n 1 d_M_sumOf_79 rfl rfl ?_
      refine v_if_ne 90 d_M_sumOf_80 (by decide) (fun c3 => ?_) (fun c3 => ?_)
      · refine v_aload_n 0 d_M_sumOf_83 rfl rfl ?_
        refine v_geti fl_M_67 o_31 rfl d_M_sumOf_84 ?_
        refine v_goto 91 d_M_sumOf_87 (by decide) ?_
        exact v_iret rfl d_M_sumOf_91
      · refine v_iload_n 2 d_M_sumOf_90 rfl rfl ?_
        exact v_iret rfl d_M_sumOf_91
    · refine v_iload_n 2 d_M_sumOf_19 rfl rfl ?_
      refine v_iload_n 1 d_M_sumOf_20 rfl rfl ?_
      refine v_iconst 2 d_M_sumOf_21 rfl ?_
      refine v_icmp_ne 37 d_M_sumOf_22 (by decide) (fun c4 => ?_) (fun c4 => ?_)
      · refine v_aload_n 0 d_M_sumOf_25 rfl rfl ?_
        refine v_geti fl_M_81 o_31 rfl d_M_sumOf_26 ?_
        refine v_iload 3 d_M_sumOf_29 rfl ?_
        refine v_ishr d_M_sumOf_31 ?_
        refine v_iconst 1 d_M_sumOf_32 rfl ?_
        refine v_iand d_M_sumOf_33 ?_
        refine v_goto 38 d_M_sumOf_34 (by decide) ?_
        refine v_iadd d_M_sumOf_38 ?_
        refine v_istore_n [(3, .int (x3 + (((h 31 5) >>> (x4 &&& 31)) &&& 1))), (0, .ref (ad G 31)), (1, .int x1), (4, .int x4)] d_M_sumOf_39 rfl (by decide) rfl ?_
        refine v_iconst 0 d_M_sumOf_40 rfl ?_
        refine v_istore [(5, .int 0), (3, .int (x3 + (((h 31 5) >>> (x4 &&& 31)) &&& 1))), (0, .ref (ad G 31)), (1, .int x1), (4, .int x4)] d_M_sumOf_41 (by decide) rfl ?_
        exact v_sub [2, 3, 1, 4, 0] rfl (Vl_M_sumOf_43 G (l_M_sumOf_10 n) ih FUEL x1 (x3 + (((h 31 5) >>> (x4 &&& 31)) &&& 1)) x4 0 h)
      · refine v_iconst 0 d_M_sumOf_37 rfl ?_
        refine v_iadd d_M_sumOf_38 ?_
        refine v_istore_n [(3, .int (x3 + 0)), (0, .ref (ad G 31)), (1, .int x1), (4, .int x4)] d_M_sumOf_39 rfl (by decide) rfl ?_
        refine v_iconst 0 d_M_sumOf_40 rfl ?_
        refine v_istore [(5, .int 0), (3, .int (x3 + 0)), (0, .ref (ad G 31)), (1, .int x1), (4, .int x4)] d_M_sumOf_41 (by decide) rfl ?_
        exact v_sub [2, 3, 1, 4, 0] rfl (Vl_M_sumOf_43 G (l_M_sumOf_10 n) ih FUEL x1 (x3 + 0) x4 0 h)
set_option maxHeartbeats 4000000 in
set_option maxRecDepth 20000 in
theorem c_M_sumOf (G : Gt) (x1 : Int32) (h : Hp) : Cn G m_M_sumOf [.ref (ad G 31), .int x1] h κi (f_M_sumOf x1 h) := by
  refine entryV (by decide) (Nat.le_of_ble_eq_true rfl) rfl ?_
  show V G m_M_sumOf 0 [(0, .ref (ad G 31)), (1, .int x1)] [] h κi _
  unfold f_M_sumOf
  refine v_aload_n 0 d_M_sumOf_0 rfl rfl ?_
  refine v_callVi (As := []) (rest := []) (c_M_faultNow G h) co_M_77 io_M_faultNow o_31 ⟨by decide, by decide⟩ rfl rfl (Nat.le_of_ble_eq_true rfl) d_M_sumOf_1 (fun r1 h1 _ => ?_)
  refine v_istore_n [(2, .int r1), (0, .ref (ad G 31)), (1, .int x1)] d_M_sumOf_4 rfl (by decide) rfl ?_
  refine v_iconst 0 d_M_sumOf_5 rfl ?_
  refine v_istore_n [(3, .int 0), (2, .int r1), (0, .ref (ad G 31)), (1, .int x1)] d_M_sumOf_6 rfl (by decide) rfl ?_
  refine v_iconst 0 d_M_sumOf_7 rfl ?_
  refine v_istore [(4, .int 0), (3, .int 0), (2, .int r1), (0, .ref (ad G 31)), (1, .int x1)] d_M_sumOf_8 (by decide) rfl ?_
  exact v_sub [3, 4, 1, 0] rfl (Vl_M_sumOf_10 G FUEL x1 0 0 h1)
theorem d_M_count_0 : decode m_M_count.2.1 0 = .ok (.iload_n 1, 1) := by decide +kernel
theorem d_M_count_1 : decode m_M_count.2.1 1 = .ok (.tableswitch 87 0 8 #[51, 57, 51, 62, 67, 72, 77, 51, 82], 51) := by decide +kernel
theorem d_M_count_52 : decode m_M_count.2.1 52 = .ok (.aload_n 0, 1) := by decide +kernel
theorem d_M_count_53 : decode m_M_count.2.1 53 = .ok (.iload_n 1, 1) := by decide +kernel
theorem d_M_count_54 : decode m_M_count.2.1 54 = .ok (.invokevirtual 227, 3) := by decide +kernel
theorem d_M_count_57 : decode m_M_count.2.1 57 = .ok (.ireturn, 1) := by decide +kernel
theorem d_M_count_58 : decode m_M_count.2.1 58 = .ok (.aload_n 0, 1) := by decide +kernel
theorem d_M_count_59 : decode m_M_count.2.1 59 = .ok (.getfield 64, 3) := by decide +kernel
theorem d_M_count_62 : decode m_M_count.2.1 62 = .ok (.ireturn, 1) := by decide +kernel
theorem d_M_count_63 : decode m_M_count.2.1 63 = .ok (.aload_n 0, 1) := by decide +kernel
theorem d_M_count_64 : decode m_M_count.2.1 64 = .ok (.getfield 53, 3) := by decide +kernel
theorem d_M_count_67 : decode m_M_count.2.1 67 = .ok (.ireturn, 1) := by decide +kernel
theorem d_M_count_68 : decode m_M_count.2.1 68 = .ok (.aload_n 0, 1) := by decide +kernel
theorem d_M_count_69 : decode m_M_count.2.1 69 = .ok (.getfield 95, 3) := by decide +kernel
theorem d_M_count_72 : decode m_M_count.2.1 72 = .ok (.ireturn, 1) := by decide +kernel
theorem d_M_count_73 : decode m_M_count.2.1 73 = .ok (.aload_n 0, 1) := by decide +kernel
theorem d_M_count_74 : decode m_M_count.2.1 74 = .ok (.getfield 57, 3) := by decide +kernel
theorem d_M_count_77 : decode m_M_count.2.1 77 = .ok (.ireturn, 1) := by decide +kernel
theorem d_M_count_78 : decode m_M_count.2.1 78 = .ok (.aload_n 0, 1) := by decide +kernel
theorem d_M_count_79 : decode m_M_count.2.1 79 = .ok (.getfield 195, 3) := by decide +kernel
theorem d_M_count_82 : decode m_M_count.2.1 82 = .ok (.ireturn, 1) := by decide +kernel
theorem d_M_count_83 : decode m_M_count.2.1 83 = .ok (.aload_n 0, 1) := by decide +kernel
theorem d_M_count_84 : decode m_M_count.2.1 84 = .ok (.getfield 217, 3) := by decide +kernel
theorem d_M_count_87 : decode m_M_count.2.1 87 = .ok (.ireturn, 1) := by decide +kernel
theorem d_M_count_88 : decode m_M_count.2.1 88 = .ok (.bipush (-2), 2) := by decide +kernel
theorem d_M_count_90 : decode m_M_count.2.1 90 = .ok (.ireturn, 1) := by decide +kernel
set_option maxHeartbeats 4000000 in
set_option maxRecDepth 20000 in
theorem c_M_count (G : Gt) (x1 : Int32) (h : Hp) : Cn G m_M_count [.ref (ad G 31), .int x1] h κi (f_M_count x1 h) := by
  refine entryV (by decide) (Nat.le_of_ble_eq_true rfl) rfl ?_
  show V G m_M_count 0 [(0, .ref (ad G 31)), (1, .int x1)] [] h κi _
  unfold f_M_count
  refine v_iload_n 1 d_M_count_0 rfl rfl ?_
  refine v_ite (fun c1 => ?_) (fun c1 => ?_)
  · refine v_tabIn (off := 51) 52 d_M_count_1 (by rw [c1]; decide) (by rw [c1]; decide) (by rw [c1]; rfl) (by decide) ?_
    refine v_aload_n 0 d_M_count_52 rfl rfl ?_
    refine v_iload_n 1 d_M_count_53 rfl rfl ?_
    refine v_callVi (As := [.int x1]) (rest := []) (c_M_sumOf G x1 h) co_M_227 io_M_sumOf o_31 ⟨by decide, by decide⟩ rfl rfl (Nat.le_of_ble_eq_true rfl) d_M_count_54 (fun r2 h2 _ => ?_)
    exact v_iret rfl d_M_count_57
  · refine v_ite (fun c3 => ?_) (fun c3 => ?_)
    · refine v_tabIn (off := 57) 58 d_M_count_1 (by rw [c3]; decide) (by rw [c3]; decide) (by rw [c3]; rfl) (by decide) ?_
      refine v_aload_n 0 d_M_count_58 rfl rfl ?_
      refine v_geti fl_M_64 o_31 rfl d_M_count_59 ?_
      exact v_iret rfl d_M_count_62
    · refine v_ite (fun c4 => ?_) (fun c4 => ?_)
      · refine v_tabIn (off := 51) 52 d_M_count_1 (by rw [c4]; decide) (by rw [c4]; decide) (by rw [c4]; rfl) (by decide) ?_
        refine v_aload_n 0 d_M_count_52 rfl rfl ?_
        refine v_iload_n 1 d_M_count_53 rfl rfl ?_
        refine v_callVi (As := [.int x1]) (rest := []) (c_M_sumOf G x1 h) co_M_227 io_M_sumOf o_31 ⟨by decide, by decide⟩ rfl rfl (Nat.le_of_ble_eq_true rfl) d_M_count_54 (fun r5 h5 _ => ?_)
        exact v_iret rfl d_M_count_57
      · refine v_ite (fun c6 => ?_) (fun c6 => ?_)
        · refine v_tabIn (off := 62) 63 d_M_count_1 (by rw [c6]; decide) (by rw [c6]; decide) (by rw [c6]; rfl) (by decide) ?_
          refine v_aload_n 0 d_M_count_63 rfl rfl ?_
          refine v_geti fl_M_53 o_31 rfl d_M_count_64 ?_
          exact v_iret rfl d_M_count_67
        · refine v_ite (fun c7 => ?_) (fun c7 => ?_)
          · refine v_tabIn (off := 67) 68 d_M_count_1 (by rw [c7]; decide) (by rw [c7]; decide) (by rw [c7]; rfl) (by decide) ?_
            refine v_aload_n 0 d_M_count_68 rfl rfl ?_
            refine v_geti fl_M_95 o_31 rfl d_M_count_69 ?_
            exact v_iret rfl d_M_count_72
          · refine v_ite (fun c8 => ?_) (fun c8 => ?_)
            · refine v_tabIn (off := 72) 73 d_M_count_1 (by rw [c8]; decide) (by rw [c8]; decide) (by rw [c8]; rfl) (by decide) ?_
              refine v_aload_n 0 d_M_count_73 rfl rfl ?_
              refine v_geti fl_M_57 o_31 rfl d_M_count_74 ?_
              exact v_iret rfl d_M_count_77
            · refine v_ite (fun c9 => ?_) (fun c9 => ?_)
              · refine v_tabIn (off := 77) 78 d_M_count_1 (by rw [c9]; decide) (by rw [c9]; decide) (by rw [c9]; rfl) (by decide) ?_
                refine v_aload_n 0 d_M_count_78 rfl rfl ?_
                refine v_geti fl_M_195 o_31 rfl d_M_count_79 ?_
                exact v_iret rfl d_M_count_82
              · refine v_ite (fun c10 => ?_) (fun c10 => ?_)
                · refine v_tabIn (off := 51) 52 d_M_count_1 (by rw [c10]; decide) (by rw [c10]; decide) (by rw [c10]; rfl) (by decide) ?_
                  refine v_aload_n 0 d_M_count_52 rfl rfl ?_
                  refine v_iload_n 1 d_M_count_53 rfl rfl ?_
                  refine v_callVi (As := [.int x1]) (rest := []) (c_M_sumOf G x1 h) co_M_227 io_M_sumOf o_31 ⟨by decide, by decide⟩ rfl rfl (Nat.le_of_ble_eq_true rfl) d_M_count_54 (fun r11 h11 _ => ?_)
                  exact v_iret rfl d_M_count_57
                · refine v_ite (fun c12 => ?_) (fun c12 => ?_)
                  · refine v_tabIn (off := 82) 83 d_M_count_1 (by rw [c12]; decide) (by rw [c12]; decide) (by rw [c12]; rfl) (by decide) ?_
                    refine v_aload_n 0 d_M_count_83 rfl rfl ?_
                    refine v_geti fl_M_217 o_31 rfl d_M_count_84 ?_
                    exact v_iret rfl d_M_count_87
                  · refine v_tabOut 88 d_M_count_1 (by have q0 := lv_neT (a := 0) c1 rfl; have q1 := lv_neT (a := 1) c3 rfl; have q2 := lv_neT (a := 2) c4 rfl; have q3 := lv_neT (a := 3) c6 rfl; have q4 := lv_neT (a := 4) c7 rfl; have q5 := lv_neT (a := 5) c8 rfl; have q6 := lv_neT (a := 6) c9 rfl; have q7 := lv_neT (a := 7) c10 rfl; have q8 := lv_neT (a := 8) c12 rfl; omega) (by decide) ?_
                    refine v_bipush (-2) d_M_count_88 rfl ?_
                    exact v_iret rfl d_M_count_90
theorem d_M_digest_0 : decode m_M_digest.2.1 0 = .ok (.ldc2_w 230, 3) := by decide +kernel
theorem d_M_digest_3 : decode m_M_digest.2.1 3 = .ok (.lstore_n 1, 1) := by decide +kernel
theorem d_M_digest_4 : decode m_M_digest.2.1 4 = .ok (.iconst 0, 1) := by decide +kernel
theorem d_M_digest_5 : decode m_M_digest.2.1 5 = .ok (.istore_n 3, 1) := by decide +kernel
theorem d_M_digest_6 : decode m_M_digest.2.1 6 = .ok (.iload_n 3, 1) := by decide +kernel
theorem d_M_digest_7 : decode m_M_digest.2.1 7 = .ok (.bipush 8, 2) := by decide +kernel
theorem d_M_digest_9 : decode m_M_digest.2.1 9 = .ok (.if_icmp .ge 22, 3) := by decide +kernel
theorem d_M_digest_12 : decode m_M_digest.2.1 12 = .ok (.ldc2_w 232, 3) := by decide +kernel
theorem d_M_digest_15 : decode m_M_digest.2.1 15 = .ok (.lload_n 1, 1) := by decide +kernel
theorem d_M_digest_16 : decode m_M_digest.2.1 16 = .ok (.lmul, 1) := by decide +kernel
theorem d_M_digest_17 : decode m_M_digest.2.1 17 = .ok (.aload_n 0, 1) := by decide +kernel
theorem d_M_digest_18 : decode m_M_digest.2.1 18 = .ok (.iload_n 3, 1) := by decide +kernel
theorem d_M_digest_19 : decode m_M_digest.2.1 19 = .ok (.invokevirtual 234, 3) := by decide +kernel
theorem d_M_digest_22 : decode m_M_digest.2.1 22 = .ok (.i2l, 1) := by decide +kernel
theorem d_M_digest_23 : decode m_M_digest.2.1 23 = .ok (.ladd, 1) := by decide +kernel
theorem d_M_digest_24 : decode m_M_digest.2.1 24 = .ok (.lstore_n 1, 1) := by decide +kernel
theorem d_M_digest_25 : decode m_M_digest.2.1 25 = .ok (.iinc 3 1, 3) := by decide +kernel
theorem d_M_digest_28 : decode m_M_digest.2.1 28 = .ok (.goto (-22), 3) := by decide +kernel
theorem d_M_digest_31 : decode m_M_digest.2.1 31 = .ok (.ldc2_w 232, 3) := by decide +kernel
theorem d_M_digest_34 : decode m_M_digest.2.1 34 = .ok (.lload_n 1, 1) := by decide +kernel
theorem d_M_digest_35 : decode m_M_digest.2.1 35 = .ok (.lmul, 1) := by decide +kernel
theorem d_M_digest_36 : decode m_M_digest.2.1 36 = .ok (.aload_n 0, 1) := by decide +kernel
theorem d_M_digest_37 : decode m_M_digest.2.1 37 = .ok (.invokevirtual 77, 3) := by decide +kernel
theorem d_M_digest_40 : decode m_M_digest.2.1 40 = .ok (.i2l, 1) := by decide +kernel
theorem d_M_digest_41 : decode m_M_digest.2.1 41 = .ok (.ladd, 1) := by decide +kernel
theorem d_M_digest_42 : decode m_M_digest.2.1 42 = .ok (.lstore_n 1, 1) := by decide +kernel
theorem d_M_digest_43 : decode m_M_digest.2.1 43 = .ok (.iconst 0, 1) := by decide +kernel
theorem d_M_digest_44 : decode m_M_digest.2.1 44 = .ok (.istore_n 3, 1) := by decide +kernel
theorem d_M_digest_45 : decode m_M_digest.2.1 45 = .ok (.iload_n 3, 1) := by decide +kernel
theorem d_M_digest_46 : decode m_M_digest.2.1 46 = .ok (.aload_n 0, 1) := by decide +kernel
theorem d_M_digest_47 : decode m_M_digest.2.1 47 = .ok (.getfield 67, 3) := by decide +kernel
theorem d_M_digest_50 : decode m_M_digest.2.1 50 = .ok (.if_icmp .ge 153, 3) := by decide +kernel
theorem d_M_digest_53 : decode m_M_digest.2.1 53 = .ok (.iconst 0, 1) := by decide +kernel
theorem d_M_digest_54 : decode m_M_digest.2.1 54 = .ok (.istore 4, 2) := by decide +kernel
theorem d_M_digest_56 : decode m_M_digest.2.1 56 = .ok (.iload 4, 2) := by decide +kernel
theorem d_M_digest_58 : decode m_M_digest.2.1 58 = .ok (.iconst 4, 1) := by decide +kernel
theorem d_M_digest_59 : decode m_M_digest.2.1 59 = .ok (.if_icmp .ge 138, 3) := by decide +kernel
theorem d_M_digest_62 : decode m_M_digest.2.1 62 = .ok (.iconst 0, 1) := by decide +kernel
theorem d_M_digest_63 : decode m_M_digest.2.1 63 = .ok (.istore 5, 2) := by decide +kernel
theorem d_M_digest_65 : decode m_M_digest.2.1 65 = .ok (.iload 5, 2) := by decide +kernel
theorem d_M_digest_67 : decode m_M_digest.2.1 67 = .ok (.iconst 3, 1) := by decide +kernel
theorem d_M_digest_68 : decode m_M_digest.2.1 68 = .ok (.if_icmp .ge 26, 3) := by decide +kernel
theorem d_M_digest_71 : decode m_M_digest.2.1 71 = .ok (.ldc2_w 232, 3) := by decide +kernel
theorem d_M_digest_74 : decode m_M_digest.2.1 74 = .ok (.lload_n 1, 1) := by decide +kernel
theorem d_M_digest_75 : decode m_M_digest.2.1 75 = .ok (.lmul, 1) := by decide +kernel
theorem d_M_digest_76 : decode m_M_digest.2.1 76 = .ok (.aload_n 0, 1) := by decide +kernel
theorem d_M_digest_77 : decode m_M_digest.2.1 77 = .ok (.iload_n 3, 1) := by decide +kernel
theorem d_M_digest_78 : decode m_M_digest.2.1 78 = .ok (.iload 4, 2) := by decide +kernel
theorem d_M_digest_80 : decode m_M_digest.2.1 80 = .ok (.iload 5, 2) := by decide +kernel
theorem d_M_digest_82 : decode m_M_digest.2.1 82 = .ok (.invokevirtual 146, 3) := by decide +kernel
theorem d_M_digest_85 : decode m_M_digest.2.1 85 = .ok (.i2l, 1) := by decide +kernel
theorem d_M_digest_86 : decode m_M_digest.2.1 86 = .ok (.ladd, 1) := by decide +kernel
theorem d_M_digest_87 : decode m_M_digest.2.1 87 = .ok (.lstore_n 1, 1) := by decide +kernel
theorem d_M_digest_88 : decode m_M_digest.2.1 88 = .ok (.iinc 5 1, 3) := by decide +kernel
theorem d_M_digest_91 : decode m_M_digest.2.1 91 = .ok (.goto (-26), 3) := by decide +kernel
theorem d_M_digest_94 : decode m_M_digest.2.1 94 = .ok (.ldc2_w 232, 3) := by decide +kernel
theorem d_M_digest_97 : decode m_M_digest.2.1 97 = .ok (.lload_n 1, 1) := by decide +kernel
theorem d_M_digest_98 : decode m_M_digest.2.1 98 = .ok (.lmul, 1) := by decide +kernel
theorem d_M_digest_99 : decode m_M_digest.2.1 99 = .ok (.aload_n 0, 1) := by decide +kernel
theorem d_M_digest_100 : decode m_M_digest.2.1 100 = .ok (.iload_n 3, 1) := by decide +kernel
theorem d_M_digest_101 : decode m_M_digest.2.1 101 = .ok (.iload 4, 2) := by decide +kernel
theorem d_M_digest_103 : decode m_M_digest.2.1 103 = .ok (.invokevirtual 159, 3) := by decide +kernel
theorem d_M_digest_106 : decode m_M_digest.2.1 106 = .ok (.i2l, 1) := by decide +kernel
theorem d_M_digest_107 : decode m_M_digest.2.1 107 = .ok (.ladd, 1) := by decide +kernel
theorem d_M_digest_108 : decode m_M_digest.2.1 108 = .ok (.lstore_n 1, 1) := by decide +kernel
theorem d_M_digest_109 : decode m_M_digest.2.1 109 = .ok (.ldc2_w 232, 3) := by decide +kernel
theorem d_M_digest_112 : decode m_M_digest.2.1 112 = .ok (.lload_n 1, 1) := by decide +kernel
theorem d_M_digest_113 : decode m_M_digest.2.1 113 = .ok (.lmul, 1) := by decide +kernel
theorem d_M_digest_114 : decode m_M_digest.2.1 114 = .ok (.aload_n 0, 1) := by decide +kernel
theorem d_M_digest_115 : decode m_M_digest.2.1 115 = .ok (.iload_n 3, 1) := by decide +kernel
theorem d_M_digest_116 : decode m_M_digest.2.1 116 = .ok (.iload 4, 2) := by decide +kernel
theorem d_M_digest_118 : decode m_M_digest.2.1 118 = .ok (.invokevirtual 175, 3) := by decide +kernel
theorem d_M_digest_121 : decode m_M_digest.2.1 121 = .ok (.i2l, 1) := by decide +kernel
theorem d_M_digest_122 : decode m_M_digest.2.1 122 = .ok (.ladd, 1) := by decide +kernel
theorem d_M_digest_123 : decode m_M_digest.2.1 123 = .ok (.lstore_n 1, 1) := by decide +kernel
theorem d_M_digest_124 : decode m_M_digest.2.1 124 = .ok (.ldc2_w 232, 3) := by decide +kernel
theorem d_M_digest_127 : decode m_M_digest.2.1 127 = .ok (.lload_n 1, 1) := by decide +kernel
theorem d_M_digest_128 : decode m_M_digest.2.1 128 = .ok (.lmul, 1) := by decide +kernel
theorem d_M_digest_129 : decode m_M_digest.2.1 129 = .ok (.aload_n 0, 1) := by decide +kernel
theorem d_M_digest_130 : decode m_M_digest.2.1 130 = .ok (.iload_n 3, 1) := by decide +kernel
theorem d_M_digest_131 : decode m_M_digest.2.1 131 = .ok (.iload 4, 2) := by decide +kernel
theorem d_M_digest_133 : decode m_M_digest.2.1 133 = .ok (.iconst 1, 1) := by decide +kernel
theorem d_M_digest_134 : decode m_M_digest.2.1 134 = .ok (.invokevirtual 143, 3) := by decide +kernel
theorem d_M_digest_137 : decode m_M_digest.2.1 137 = .ok (.i2l, 1) := by decide +kernel
theorem d_M_digest_138 : decode m_M_digest.2.1 138 = .ok (.ladd, 1) := by decide +kernel
theorem d_M_digest_139 : decode m_M_digest.2.1 139 = .ok (.lstore_n 1, 1) := by decide +kernel
theorem d_M_digest_140 : decode m_M_digest.2.1 140 = .ok (.ldc2_w 232, 3) := by decide +kernel
theorem d_M_digest_143 : decode m_M_digest.2.1 143 = .ok (.lload_n 1, 1) := by decide +kernel
theorem d_M_digest_144 : decode m_M_digest.2.1 144 = .ok (.lmul, 1) := by decide +kernel
theorem d_M_digest_145 : decode m_M_digest.2.1 145 = .ok (.aload_n 0, 1) := by decide +kernel
theorem d_M_digest_146 : decode m_M_digest.2.1 146 = .ok (.iload_n 3, 1) := by decide +kernel
theorem d_M_digest_147 : decode m_M_digest.2.1 147 = .ok (.iload 4, 2) := by decide +kernel
theorem d_M_digest_149 : decode m_M_digest.2.1 149 = .ok (.iconst 0, 1) := by decide +kernel
theorem d_M_digest_150 : decode m_M_digest.2.1 150 = .ok (.invokevirtual 165, 3) := by decide +kernel
theorem d_M_digest_153 : decode m_M_digest.2.1 153 = .ok (.i2l, 1) := by decide +kernel
theorem d_M_digest_154 : decode m_M_digest.2.1 154 = .ok (.ladd, 1) := by decide +kernel
theorem d_M_digest_155 : decode m_M_digest.2.1 155 = .ok (.lstore_n 1, 1) := by decide +kernel
theorem d_M_digest_156 : decode m_M_digest.2.1 156 = .ok (.ldc2_w 232, 3) := by decide +kernel
theorem d_M_digest_159 : decode m_M_digest.2.1 159 = .ok (.lload_n 1, 1) := by decide +kernel
theorem d_M_digest_160 : decode m_M_digest.2.1 160 = .ok (.lmul, 1) := by decide +kernel
theorem d_M_digest_161 : decode m_M_digest.2.1 161 = .ok (.aload_n 0, 1) := by decide +kernel
theorem d_M_digest_162 : decode m_M_digest.2.1 162 = .ok (.iload_n 3, 1) := by decide +kernel
theorem d_M_digest_163 : decode m_M_digest.2.1 163 = .ok (.iload 4, 2) := by decide +kernel
theorem d_M_digest_165 : decode m_M_digest.2.1 165 = .ok (.iconst 1, 1) := by decide +kernel
theorem d_M_digest_166 : decode m_M_digest.2.1 166 = .ok (.invokevirtual 237, 3) := by decide +kernel
theorem d_M_digest_169 : decode m_M_digest.2.1 169 = .ok (.i2l, 1) := by decide +kernel
theorem d_M_digest_170 : decode m_M_digest.2.1 170 = .ok (.ladd, 1) := by decide +kernel
theorem d_M_digest_171 : decode m_M_digest.2.1 171 = .ok (.lstore_n 1, 1) := by decide +kernel
theorem d_M_digest_172 : decode m_M_digest.2.1 172 = .ok (.ldc2_w 232, 3) := by decide +kernel
theorem d_M_digest_175 : decode m_M_digest.2.1 175 = .ok (.lload_n 1, 1) := by decide +kernel
theorem d_M_digest_176 : decode m_M_digest.2.1 176 = .ok (.lmul, 1) := by decide +kernel
theorem d_M_digest_177 : decode m_M_digest.2.1 177 = .ok (.aload_n 0, 1) := by decide +kernel
theorem d_M_digest_178 : decode m_M_digest.2.1 178 = .ok (.iload_n 3, 1) := by decide +kernel
theorem d_M_digest_179 : decode m_M_digest.2.1 179 = .ok (.iload 4, 2) := by decide +kernel
theorem d_M_digest_181 : decode m_M_digest.2.1 181 = .ok (.bipush 7, 2) := by decide +kernel
theorem d_M_digest_183 : decode m_M_digest.2.1 183 = .ok (.bipush 9, 2) := by decide +kernel
theorem d_M_digest_185 : decode m_M_digest.2.1 185 = .ok (.invokevirtual 211, 3) := by decide +kernel
theorem d_M_digest_188 : decode m_M_digest.2.1 188 = .ok (.i2l, 1) := by decide +kernel
theorem d_M_digest_189 : decode m_M_digest.2.1 189 = .ok (.ladd, 1) := by decide +kernel
theorem d_M_digest_190 : decode m_M_digest.2.1 190 = .ok (.lstore_n 1, 1) := by decide +kernel
theorem d_M_digest_191 : decode m_M_digest.2.1 191 = .ok (.iinc 4 1, 3) := by decide +kernel
theorem d_M_digest_194 : decode m_M_digest.2.1 194 = .ok (.goto (-138), 3) := by decide +kernel
theorem d_M_digest_197 : decode m_M_digest.2.1 197 = .ok (.iinc 3 1, 3) := by decide +kernel
theorem d_M_digest_200 : decode m_M_digest.2.1 200 = .ok (.goto (-155), 3) := by decide +kernel
theorem d_M_digest_203 : decode m_M_digest.2.1 203 = .ok (.iconst 0, 1) := by decide +kernel
theorem d_M_digest_204 : decode m_M_digest.2.1 204 = .ok (.istore_n 3, 1) := by decide +kernel
theorem d_M_digest_205 : decode m_M_digest.2.1 205 = .ok (.iload_n 3, 1) := by decide +kernel
theorem d_M_digest_206 : decode m_M_digest.2.1 206 = .ok (.iconst 4, 1) := by decide +kernel
theorem d_M_digest_207 : decode m_M_digest.2.1 207 = .ok (.if_icmp .ge 22, 3) := by decide +kernel
theorem d_M_digest_210 : decode m_M_digest.2.1 210 = .ok (.ldc2_w 232, 3) := by decide +kernel
theorem d_M_digest_213 : decode m_M_digest.2.1 213 = .ok (.lload_n 1, 1) := by decide +kernel
theorem d_M_digest_214 : decode m_M_digest.2.1 214 = .ok (.lmul, 1) := by decide +kernel
theorem d_M_digest_215 : decode m_M_digest.2.1 215 = .ok (.aload_n 0, 1) := by decide +kernel
theorem d_M_digest_216 : decode m_M_digest.2.1 216 = .ok (.iload_n 3, 1) := by decide +kernel
theorem d_M_digest_217 : decode m_M_digest.2.1 217 = .ok (.invokevirtual 182, 3) := by decide +kernel
theorem d_M_digest_220 : decode m_M_digest.2.1 220 = .ok (.i2l, 1) := by decide +kernel
theorem d_M_digest_221 : decode m_M_digest.2.1 221 = .ok (.ladd, 1) := by decide +kernel
theorem d_M_digest_222 : decode m_M_digest.2.1 222 = .ok (.lstore_n 1, 1) := by decide +kernel
theorem d_M_digest_223 : decode m_M_digest.2.1 223 = .ok (.iinc 3 1, 3) := by decide +kernel
theorem d_M_digest_226 : decode m_M_digest.2.1 226 = .ok (.goto (-21), 3) := by decide +kernel
theorem d_M_digest_229 : decode m_M_digest.2.1 229 = .ok (.ldc2_w 232, 3) := by decide +kernel
theorem d_M_digest_232 : decode m_M_digest.2.1 232 = .ok (.lload_n 1, 1) := by decide +kernel
theorem d_M_digest_233 : decode m_M_digest.2.1 233 = .ok (.lmul, 1) := by decide +kernel
theorem d_M_digest_234 : decode m_M_digest.2.1 234 = .ok (.aload_n 0, 1) := by decide +kernel
theorem d_M_digest_235 : decode m_M_digest.2.1 235 = .ok (.iconst 0, 1) := by decide +kernel
theorem d_M_digest_236 : decode m_M_digest.2.1 236 = .ok (.iconst 0, 1) := by decide +kernel
theorem d_M_digest_237 : decode m_M_digest.2.1 237 = .ok (.iconst 1, 1) := by decide +kernel
theorem d_M_digest_238 : decode m_M_digest.2.1 238 = .ok (.iconst 0, 1) := by decide +kernel
theorem d_M_digest_239 : decode m_M_digest.2.1 239 = .ok (.invokevirtual 240, 3) := by decide +kernel
theorem d_M_digest_242 : decode m_M_digest.2.1 242 = .ok (.i2l, 1) := by decide +kernel
theorem d_M_digest_243 : decode m_M_digest.2.1 243 = .ok (.ladd, 1) := by decide +kernel
theorem d_M_digest_244 : decode m_M_digest.2.1 244 = .ok (.lstore_n 1, 1) := by decide +kernel
theorem d_M_digest_245 : decode m_M_digest.2.1 245 = .ok (.ldc2_w 232, 3) := by decide +kernel
theorem d_M_digest_248 : decode m_M_digest.2.1 248 = .ok (.lload_n 1, 1) := by decide +kernel
theorem d_M_digest_249 : decode m_M_digest.2.1 249 = .ok (.lmul, 1) := by decide +kernel
theorem d_M_digest_250 : decode m_M_digest.2.1 250 = .ok (.aload_n 0, 1) := by decide +kernel
theorem d_M_digest_251 : decode m_M_digest.2.1 251 = .ok (.iconst 0, 1) := by decide +kernel
theorem d_M_digest_252 : decode m_M_digest.2.1 252 = .ok (.iconst 0, 1) := by decide +kernel
theorem d_M_digest_253 : decode m_M_digest.2.1 253 = .ok (.iconst 1, 1) := by decide +kernel
theorem d_M_digest_254 : decode m_M_digest.2.1 254 = .ok (.iconst 1, 1) := by decide +kernel
theorem d_M_digest_255 : decode m_M_digest.2.1 255 = .ok (.invokevirtual 240, 3) := by decide +kernel
theorem d_M_digest_258 : decode m_M_digest.2.1 258 = .ok (.i2l, 1) := by decide +kernel
theorem d_M_digest_259 : decode m_M_digest.2.1 259 = .ok (.ladd, 1) := by decide +kernel
theorem d_M_digest_260 : decode m_M_digest.2.1 260 = .ok (.lstore_n 1, 1) := by decide +kernel
theorem d_M_digest_261 : decode m_M_digest.2.1 261 = .ok (.iconst 0, 1) := by decide +kernel
theorem d_M_digest_262 : decode m_M_digest.2.1 262 = .ok (.istore_n 3, 1) := by decide +kernel
theorem d_M_digest_263 : decode m_M_digest.2.1 263 = .ok (.iload_n 3, 1) := by decide +kernel
theorem d_M_digest_264 : decode m_M_digest.2.1 264 = .ok (.iconst 3, 1) := by decide +kernel
theorem d_M_digest_265 : decode m_M_digest.2.1 265 = .ok (.if_icmp .ge 26, 3) := by decide +kernel
theorem d_M_digest_268 : decode m_M_digest.2.1 268 = .ok (.ldc2_w 232, 3) := by decide +kernel
theorem d_M_digest_271 : decode m_M_digest.2.1 271 = .ok (.lload_n 1, 1) := by decide +kernel
theorem d_M_digest_272 : decode m_M_digest.2.1 272 = .ok (.lmul, 1) := by decide +kernel
theorem d_M_digest_273 : decode m_M_digest.2.1 273 = .ok (.aload_n 0, 1) := by decide +kernel
theorem d_M_digest_274 : decode m_M_digest.2.1 274 = .ok (.iconst 0, 1) := by decide +kernel
theorem d_M_digest_275 : decode m_M_digest.2.1 275 = .ok (.iconst 0, 1) := by decide +kernel
theorem d_M_digest_276 : decode m_M_digest.2.1 276 = .ok (.iconst 1, 1) := by decide +kernel
theorem d_M_digest_277 : decode m_M_digest.2.1 277 = .ok (.iconst 1, 1) := by decide +kernel
theorem d_M_digest_278 : decode m_M_digest.2.1 278 = .ok (.iload_n 3, 1) := by decide +kernel
theorem d_M_digest_279 : decode m_M_digest.2.1 279 = .ok (.invokevirtual 243, 3) := by decide +kernel
theorem d_M_digest_282 : decode m_M_digest.2.1 282 = .ok (.i2l, 1) := by decide +kernel
theorem d_M_digest_283 : decode m_M_digest.2.1 283 = .ok (.ladd, 1) := by decide +kernel
theorem d_M_digest_284 : decode m_M_digest.2.1 284 = .ok (.lstore_n 1, 1) := by decide +kernel
theorem d_M_digest_285 : decode m_M_digest.2.1 285 = .ok (.iinc 3 1, 3) := by decide +kernel
theorem d_M_digest_288 : decode m_M_digest.2.1 288 = .ok (.goto (-25), 3) := by decide +kernel
theorem d_M_digest_291 : decode m_M_digest.2.1 291 = .ok (.ldc2_w 232, 3) := by decide +kernel
theorem d_M_digest_294 : decode m_M_digest.2.1 294 = .ok (.lload_n 1, 1) := by decide +kernel
theorem d_M_digest_295 : decode m_M_digest.2.1 295 = .ok (.lmul, 1) := by decide +kernel
theorem d_M_digest_296 : decode m_M_digest.2.1 296 = .ok (.aload_n 0, 1) := by decide +kernel
theorem d_M_digest_297 : decode m_M_digest.2.1 297 = .ok (.iconst 0, 1) := by decide +kernel
theorem d_M_digest_298 : decode m_M_digest.2.1 298 = .ok (.iconst 0, 1) := by decide +kernel
theorem d_M_digest_299 : decode m_M_digest.2.1 299 = .ok (.iconst 5, 1) := by decide +kernel
theorem d_M_digest_300 : decode m_M_digest.2.1 300 = .ok (.iconst 5, 1) := by decide +kernel
theorem d_M_digest_301 : decode m_M_digest.2.1 301 = .ok (.invokevirtual 246, 3) := by decide +kernel
theorem d_M_digest_304 : decode m_M_digest.2.1 304 = .ok (.i2l, 1) := by decide +kernel
theorem d_M_digest_305 : decode m_M_digest.2.1 305 = .ok (.ladd, 1) := by decide +kernel
theorem d_M_digest_306 : decode m_M_digest.2.1 306 = .ok (.lstore_n 1, 1) := by decide +kernel
theorem d_M_digest_307 : decode m_M_digest.2.1 307 = .ok (.ldc2_w 232, 3) := by decide +kernel
theorem d_M_digest_310 : decode m_M_digest.2.1 310 = .ok (.lload_n 1, 1) := by decide +kernel
theorem d_M_digest_311 : decode m_M_digest.2.1 311 = .ok (.lmul, 1) := by decide +kernel
theorem d_M_digest_312 : decode m_M_digest.2.1 312 = .ok (.aload_n 0, 1) := by decide +kernel
theorem d_M_digest_313 : decode m_M_digest.2.1 313 = .ok (.invokevirtual 198, 3) := by decide +kernel
theorem d_M_digest_316 : decode m_M_digest.2.1 316 = .ok (.i2l, 1) := by decide +kernel
theorem d_M_digest_317 : decode m_M_digest.2.1 317 = .ok (.ladd, 1) := by decide +kernel
theorem d_M_digest_318 : decode m_M_digest.2.1 318 = .ok (.lstore_n 1, 1) := by decide +kernel
theorem d_M_digest_319 : decode m_M_digest.2.1 319 = .ok (.ldc2_w 232, 3) := by decide +kernel
theorem d_M_digest_322 : decode m_M_digest.2.1 322 = .ok (.lload_n 1, 1) := by decide +kernel
theorem d_M_digest_323 : decode m_M_digest.2.1 323 = .ok (.lmul, 1) := by decide +kernel
theorem d_M_digest_324 : decode m_M_digest.2.1 324 = .ok (.aload_n 0, 1) := by decide +kernel
theorem d_M_digest_325 : decode m_M_digest.2.1 325 = .ok (.invokevirtual 207, 3) := by decide +kernel
theorem d_M_digest_328 : decode m_M_digest.2.1 328 = .ok (.i2l, 1) := by decide +kernel
theorem d_M_digest_329 : decode m_M_digest.2.1 329 = .ok (.ladd, 1) := by decide +kernel
theorem d_M_digest_330 : decode m_M_digest.2.1 330 = .ok (.lreturn, 1) := by decide +kernel
set_option maxHeartbeats 4000000 in
set_option maxRecDepth 20000 in
theorem Vl_M_digest_263 (G : Gt) : ∀ (n : Nat) (l1 : Int64) (x3 : Int32) (h : Hp), V G m_M_digest 263 [(0, .ref (ad G 31)), (1, .long l1), (3, .int x3)] [] h κl (l_M_digest_263 n l1 x3 h) := by
  intro n
  induction n with
  | zero => intros; exact v_none
  | succ n ih =>
    intro l1 x3 h
    rw [l_M_digest_263]
    refine v_iload_n 2 d_M_digest_263 rfl rfl ?_
    refine v_iconst 3 d_M_digest_264 rfl ?_
    refine v_icmp_ge 291 d_M_digest_265 (by decide) (fun c7 => ?_) (fun c7 => ?_)
    · refine v_ldc2 (v := 31) (mem_t 900 (by decide +kernel) rfl) d_M_digest_291 ?_
      refine v_lload_n 1 d_M_digest_294 rfl rfl ?_
      refine v_lmul d_M_digest_295 ?_
      refine v_aload_n 0 d_M_digest_296 rfl rfl ?_
      refine v_iconst 0 d_M_digest_297 rfl ?_
      refine v_iconst 0 d_M_digest_298 rfl ?_
      refine v_iconst 5 d_M_digest_299 rfl ?_
      refine v_iconst 5 d_M_digest_300 rfl ?_
      refine v_callVi (As := [.int 0, .int 0, .int 5, .int 5]) (rest := [.long (31 * l1)]) (c_M_more G 0 0 5 5 h) co_M_246 io_M_more o_31 ⟨by decide, by decide⟩ rfl rfl (Nat.le_of_ble_eq_true rfl) d_M_digest_301 (fun r8 h8 _ => ?_)
      refine v_i2l d_M_digest_304 ?_
      refine v_ladd d_M_digest_305 ?_
      refine v_lstore_n [(1, .long ((31 * l1) + (Int32.toInt64 r8))), (0, .ref (ad G 31)), (3, .int x3)] d_M_digest_306 rfl (by decide) rfl ?_
      refine v_ldc2 (v := 31) (mem_t 900 (by decide +kernel) rfl) d_M_digest_307 ?_
      refine v_lload_n 0 d_M_digest_310 rfl rfl ?_
      refine v_lmul d_M_digest_311 ?_
      refine v_aload_n 1 d_M_digest_312 rfl rfl ?_
      refine v_callVi (As := []) (rest := [.long (31 * ((31 * l1) + (Int32.toInt64 r8)))]) (c_M_fitsNow G h8) co_M_198 io_M_fitsNow o_31 ⟨by decide, by decide⟩ rfl rfl (Nat.le_of_ble_eq_true rfl) d_M_digest_313 (fun r9 h9 _ => ?_)
      refine v_i2l d_M_digest_316 ?_
      refine v_ladd d_M_digest_317 ?_
      refine v_lstore_n [(1, .long ((31 * ((31 * l1) + (Int32.toInt64 r8))) + (Int32.toInt64 r9))), (0, .ref (ad G 31)), (3, .int x3)] d_M_digest_318 rfl (by decide) rfl ?_
      refine v_ldc2 (v := 31) (mem_t 900 (by decide +kernel) rfl) d_M_digest_319 ?_
      refine v_lload_n 0 d_M_digest_322 rfl rfl ?_
      refine v_lmul d_M_digest_323 ?_
      refine v_aload_n 1 d_M_digest_324 rfl rfl ?_
      refine v_callVi (As := []) (rest := [.long (31 * ((31 * ((31 * l1) + (Int32.toInt64 r8))) + (Int32.toInt64 r9)))]) (c_M_tellsNow G h9) co_M_207 io_M_tellsNow o_31 ⟨by decide, by decide⟩ rfl rfl (Nat.le_of_ble_eq_true rfl) d_M_digest_325 (fun r10 h10 _ => ?_)
      refine v_i2l d_M_digest_328 ?_
      refine v_ladd d_M_digest_329 ?_
      exact v_lret rfl d_M_digest_330
    · refine v_ldc2 (v := 31) (mem_t 900 (by decide +kernel) rfl) d_M_digest_268 ?_
      refine v_lload_n 1 d_M_digest_271 rfl rfl ?_
      refine v_lmul d_M_digest_272 ?_
      refine v_aload_n 0 d_M_digest_273 rfl rfl ?_
      refine v_iconst 0 d_M_digest_274 rfl ?_
      refine v_iconst 0 d_M_digest_275 rfl ?_
      refine v_iconst 1 d_M_digest_276 rfl ?_
      refine v_iconst 1 d_M_digest_277 rfl ?_
      refine v_iload_n 2 d_M_digest_278 rfl rfl ?_
      refine v_callVi (As := [.int 0, .int 0, .int 1, .int 1, .int x3]) (rest := [.long (31 * l1)]) (c_M_two G 0 0 1 1 x3 h) co_M_243 io_M_two o_31 ⟨by decide, by decide⟩ rfl rfl (Nat.le_of_ble_eq_true rfl) d_M_digest_279 (fun r11 h11 _ => ?_)
      refine v_i2l d_M_digest_282 ?_
      refine v_ladd d_M_digest_283 ?_
      refine v_lstore_n [(1, .long ((31 * l1) + (Int32.toInt64 r11))), (0, .ref (ad G 31)), (3, .int x3)] d_M_digest_284 rfl (by decide) rfl ?_
      refine v_iinc (x3 + 1) 2 [(3, .int (x3 + 1)), (1, .long ((31 * l1) + (Int32.toInt64 r11))), (0, .ref (ad G 31))] d_M_digest_285 rfl rfl (by decide) rfl ?_
      refine v_goto 263 d_M_digest_288 (by decide) ?_
      exact v_sub [2, 1, 0] rfl (ih ((31 * l1) + (Int32.toInt64 r11)) (x3 + 1) h11)
set_option maxHeartbeats 4000000 in
set_option maxRecDepth 20000 in
theorem Vl_M_digest_205 (G : Gt) : ∀ (n : Nat) (l1 : Int64) (x3 : Int32) (h : Hp), V G m_M_digest 205 [(0, .ref (ad G 31)), (1, .long l1), (3, .int x3)] [] h κl (l_M_digest_205 n l1 x3 h) := by
  intro n
  induction n with
  | zero => intros; exact v_none
  | succ n ih =>
    intro l1 x3 h
    rw [l_M_digest_205]
    refine v_iload_n 2 d_M_digest_205 rfl rfl ?_
    refine v_iconst 4 d_M_digest_206 rfl ?_
    refine v_icmp_ge 229 d_M_digest_207 (by decide) (fun c4 => ?_) (fun c4 => ?_)
    · refine v_ldc2 (v := 31) (mem_t 900 (by decide +kernel) rfl) d_M_digest_229 ?_
      refine v_lload_n 1 d_M_digest_232 rfl rfl ?_
      refine v_lmul d_M_digest_233 ?_
      refine v_aload_n 0 d_M_digest_234 rfl rfl ?_
      refine v_iconst 0 d_M_digest_235 rfl ?_
      refine v_iconst 0 d_M_digest_236 rfl ?_
      refine v_iconst 1 d_M_digest_237 rfl ?_
      refine v_iconst 0 d_M_digest_238 rfl ?_
      refine v_callVi (As := [.int 0, .int 0, .int 1, .int 0]) (rest := [.long (31 * l1)]) (c_M_last G 0 0 1 0 h) co_M_240 io_M_last o_31 ⟨by decide, by decide⟩ rfl rfl (Nat.le_of_ble_eq_true rfl) d_M_digest_239 (fun r5 h5 _ => ?_)
      refine v_i2l d_M_digest_242 ?_
      refine v_ladd d_M_digest_243 ?_
      refine v_lstore_n [(1, .long ((31 * l1) + (Int32.toInt64 r5))), (0, .ref (ad G 31)), (3, .int x3)] d_M_digest_244 rfl (by decide) rfl ?_
      refine v_ldc2 (v := 31) (mem_t 900 (by decide +kernel) rfl) d_M_digest_245 ?_
      refine v_lload_n 0 d_M_digest_248 rfl rfl ?_
      refine v_lmul d_M_digest_249 ?_
      refine v_aload_n 1 d_M_digest_250 rfl rfl ?_
      refine v_iconst 0 d_M_digest_251 rfl ?_
      refine v_iconst 0 d_M_digest_252 rfl ?_
      refine v_iconst 1 d_M_digest_253 rfl ?_
      refine v_iconst 1 d_M_digest_254 rfl ?_
      refine v_callVi (As := [.int 0, .int 0, .int 1, .int 1]) (rest := [.long (31 * ((31 * l1) + (Int32.toInt64 r5)))]) (c_M_last G 0 0 1 1 h5) co_M_240 io_M_last o_31 ⟨by decide, by decide⟩ rfl rfl (Nat.le_of_ble_eq_true rfl) d_M_digest_255 (fun r6 h6 _ => ?_)
      refine v_i2l d_M_digest_258 ?_
      refine v_ladd d_M_digest_259 ?_
      refine v_lstore_n [(1, .long ((31 * ((31 * l1) + (Int32.toInt64 r5))) + (Int32.toInt64 r6))), (0, .ref (ad G 31)), (3, .int x3)] d_M_digest_260 rfl (by decide) rfl ?_
      refine v_iconst 0 d_M_digest_261 rfl ?_
      refine v_istore_n [(3, .int 0), (1, .long ((31 * ((31 * l1) + (Int32.toInt64 r5))) + (Int32.toInt64 r6))), (0, .ref (ad G 31))] d_M_digest_262 rfl (by decide) rfl ?_
      exact v_sub [2, 1, 0] rfl (Vl_M_digest_263 G FUEL ((31 * ((31 * l1) + (Int32.toInt64 r5))) + (Int32.toInt64 r6)) 0 h6)
    · refine v_ldc2 (v := 31) (mem_t 900 (by decide +kernel) rfl) d_M_digest_210 ?_
      refine v_lload_n 1 d_M_digest_213 rfl rfl ?_
      refine v_lmul d_M_digest_214 ?_
      refine v_aload_n 0 d_M_digest_215 rfl rfl ?_
      refine v_iload_n 2 d_M_digest_216 rfl rfl ?_
      refine v_callVi (As := [.int x3]) (rest := [.long (31 * l1)]) (c_M_beginOf G x3 h) co_M_182 io_M_beginOf o_31 ⟨by decide, by decide⟩ rfl rfl (Nat.le_of_ble_eq_true rfl) d_M_digest_217 (fun r12 h12 _ => ?_)
      refine v_i2l d_M_digest_220 ?_
      refine v_ladd d_M_digest_221 ?_
      refine v_lstore_n [(1, .long ((31 * l1) + (Int32.toInt64 r12))), (0, .ref (ad G 31)), (3, .int x3)] d_M_digest_222 rfl (by decide) rfl ?_
      refine v_iinc (x3 + 1) 2 [(3, .int (x3 + 1)), (1, .long ((31 * l1) + (Int32.toInt64 r12))), (0, .ref (ad G 31))] d_M_digest_223 rfl rfl (by decide) rfl ?_
      refine v_goto 205 d_M_digest_226 (by decide) ?_
      exact v_sub [2, 1, 0] rfl (ih ((31 * l1) + (Int32.toInt64 r12)) (x3 + 1) h12)
set_option maxHeartbeats 4000000 in
set_option maxRecDepth 20000 in
theorem Vl_M_digest_65 (G : Gt) (K45 : Int64 → Int32 → Hp → Option (Int64 × Hp)) (K56 : Int64 → Int32 → Int32 → Hp → Option (Int64 × Hp)) (hK45 : ∀ (l1 : Int64) (x3 : Int32) (h : Hp), V G m_M_digest 45 [(0, .ref (ad G 31)), (1, .long l1), (3, .int x3)] [] h κl (K45 l1 x3 h)) (hK56 : ∀ (l1 : Int64) (x3 : Int32) (x4 : Int32) (h : Hp), V G m_M_digest 56 [(0, .ref (ad G 31)), (1, .long l1), (3, .int x3), (4, .int x4)] [] h κl (K56 l1 x3 x4 h)) : ∀ (n : Nat) (l1 : Int64) (x3 : Int32) (x4 : Int32) (x5 : Int32) (h : Hp), V G m_M_digest 65 [(0, .ref (ad G 31)), (1, .long l1), (3, .int x3), (4, .int x4), (5, .int x5)] [] h κl (l_M_digest_65 K45 K56 n l1 x3 x4 x5 h) := by
  intro n
  induction n with
  | zero => intros; exact v_none
  | succ n ih =>
    intro l1 x3 x4 x5 h
    rw [l_M_digest_65]
    refine v_iload 4 d_M_digest_65 rfl ?_
    refine v_iconst 3 d_M_digest_67 rfl ?_
    refine v_icmp_ge 94 d_M_digest_68 (by decide) (fun c14 => ?_) (fun c14 => ?_)
    · refine v_ldc2 (v := 31) (mem_t 900 (by decide +kernel) rfl) d_M_digest_94 ?_
      refine v_lload_n 1 d_M_digest_97 rfl rfl ?_
      refine v_lmul d_M_digest_98 ?_
      refine v_aload_n 0 d_M_digest_99 rfl rfl ?_
      refine v_iload_n 2 d_M_digest_100 rfl rfl ?_
      refine v_iload 3 d_M_digest_101 rfl ?_
      refine v_callVi (As := [.int x3, .int x4]) (rest := [.long (31 * l1)]) (c_M_crossesOf G x3 x4 h) co_M_159 io_M_crossesOf o_31 ⟨by decide, by decide⟩ rfl rfl (Nat.le_of_ble_eq_true rfl) d_M_digest_103 (fun r15 h15 _ => ?_)
      refine v_i2l d_M_digest_106 ?_
      refine v_ladd d_M_digest_107 ?_
      refine v_lstore_n [(1, .long ((31 * l1) + (Int32.toInt64 r15))), (0, .ref (ad G 31)), (3, .int x3), (4, .int x4), (5, .int x5)] d_M_digest_108 rfl (by decide) rfl ?_
      refine v_ldc2 (v := 31) (mem_t 900 (by decide +kernel) rfl) d_M_digest_109 ?_
      refine v_lload_n 0 d_M_digest_112 rfl rfl ?_
      refine v_lmul d_M_digest_113 ?_
      refine v_aload_n 1 d_M_digest_114 rfl rfl ?_
      refine v_iload_n 2 d_M_digest_115 rfl rfl ?_
      refine v_iload 3 d_M_digest_116 rfl ?_
      refine v_callVi (As := [.int x3, .int x4]) (rest := [.long (31 * ((31 * l1) + (Int32.toInt64 r15)))]) (c_M_turnedOf G x3 x4 h15) co_M_175 io_M_turnedOf o_31 ⟨by decide, by decide⟩ rfl rfl (Nat.le_of_ble_eq_true rfl) d_M_digest_118 (fun r16 h16 _ => ?_)
      refine v_i2l d_M_digest_121 ?_
      refine v_ladd d_M_digest_122 ?_
      refine v_lstore_n [(1, .long ((31 * ((31 * l1) + (Int32.toInt64 r15))) + (Int32.toInt64 r16))), (0, .ref (ad G 31)), (3, .int x3), (4, .int x4), (5, .int x5)] d_M_digest_123 rfl (by decide) rfl ?_
      refine v_ldc2 (v := 31) (mem_t 900 (by decide +kernel) rfl) d_M_digest_124 ?_
      refine v_lload_n 0 d_M_digest_127 rfl rfl ?_
      refine v_lmul d_M_digest_128 ?_
      refine v_aload_n 1 d_M_digest_129 rfl rfl ?_
      refine v_iload_n 2 d_M_digest_130 rfl rfl ?_
      refine v_iload 3 d_M_digest_131 rfl ?_
      refine v_iconst 1 d_M_digest_133 rfl ?_
      refine v_callVi (As := [.int x3, .int x4, .int 1]) (rest := [.long (31 * ((31 * ((31 * l1) + (Int32.toInt64 r15))) + (Int32.toInt64 r16)))]) (c_M_webOf G x3 x4 1 h16) co_M_143 io_M_webOf o_31 ⟨by decide, by decide⟩ rfl rfl (Nat.le_of_ble_eq_true rfl) d_M_digest_134 (fun r17 h17 _ => ?_)
      refine v_i2l d_M_digest_137 ?_
      refine v_ladd d_M_digest_138 ?_
      refine v_lstore_n [(1, .long ((31 * ((31 * ((31 * l1) + (Int32.toInt64 r15))) + (Int32.toInt64 r16))) + (Int32.toInt64 r17))), (0, .ref (ad G 31)), (3, .int x3), (4, .int x4), (5, .int x5)] d_M_digest_139 rfl (by decide) rfl ?_
      refine v_ldc2 (v := 31) (mem_t 900 (by decide +kernel) rfl) d_M_digest_140 ?_
      refine v_lload_n 0 d_M_digest_143 rfl rfl ?_
      refine v_lmul d_M_digest_144 ?_
      refine v_aload_n 1 d_M_digest_145 rfl rfl ?_
      refine v_iload_n 2 d_M_digest_146 rfl rfl ?_
      refine v_iload 3 d_M_digest_147 rfl ?_
      refine v_iconst 0 d_M_digest_149 rfl ?_
      refine v_callVi (As := [.int x3, .int x4, .int 0]) (rest := [.long (31 * ((31 * ((31 * ((31 * l1) + (Int32.toInt64 r15))) + (Int32.toInt64 r16))) + (Int32.toInt64 r17)))]) (c_M_hangsOf G x3 x4 0 h17) co_M_165 io_M_hangsOf o_31 ⟨by decide, by decide⟩ rfl rfl (Nat.le_of_ble_eq_true rfl) d_M_digest_150 (fun r18 h18 _ => ?_)
      refine v_i2l d_M_digest_153 ?_
      refine v_ladd d_M_digest_154 ?_
      refine v_lstore_n [(1, .long ((31 * ((31 * ((31 * ((31 * l1) + (Int32.toInt64 r15))) + (Int32.toInt64 r16))) + (Int32.toInt64 r17))) + (Int32.toInt64 r18))), (0, .ref (ad G 31)), (3, .int x3), (4, .int x4), (5, .int x5)] d_M_digest_155 rfl (by decide) rfl ?_
      refine v_ldc2 (v := 31) (mem_t 900 (by decide +kernel) rfl) d_M_digest_156 ?_
      refine v_lload_n 0 d_M_digest_159 rfl rfl ?_
      refine v_lmul d_M_digest_160 ?_
      refine v_aload_n 1 d_M_digest_161 rfl rfl ?_
      refine v_iload_n 2 d_M_digest_162 rfl rfl ?_
      refine v_iload 3 d_M_digest_163 rfl ?_
      refine v_iconst 1 d_M_digest_165 rfl ?_
      refine v_callVi (As := [.int x3, .int x4, .int 1]) (rest := [.long (31 * ((31 * ((31 * ((31 * ((31 * l1) + (Int32.toInt64 r15))) + (Int32.toInt64 r16))) + (Int32.toInt64 r17))) + (Int32.toInt64 r18)))]) (c_M_pieces G x3 x4 1 h18) co_M_237 io_M_pieces o_31 ⟨by decide, by decide⟩ rfl rfl (Nat.le_of_ble_eq_true rfl) d_M_digest_166 (fun r19 h19 _ => ?_)
      refine v_i2l d_M_digest_169 ?_
      refine v_ladd d_M_digest_170 ?_
      refine v_lstore_n [(1, .long ((31 * ((31 * ((31 * ((31 * ((31 * l1) + (Int32.toInt64 r15))) + (Int32.toInt64 r16))) + (Int32.toInt64 r17))) + (Int32.toInt64 r18))) + (Int32.toInt64 r19))), (0, .ref (ad G 31)), (3, .int x3), (4, .int x4), (5, .int x5)] d_M_digest_171 rfl (by decide) rfl ?_
      refine v_ldc2 (v := 31) (mem_t 900 (by decide +kernel) rfl) d_M_digest_172 ?_
      refine v_lload_n 0 d_M_digest_175 rfl rfl ?_
      refine v_lmul d_M_digest_176 ?_
      refine v_aload_n 1 d_M_digest_177 rfl rfl ?_
      refine v_iload_n 2 d_M_digest_178 rfl rfl ?_
      refine v_iload 3 d_M_digest_179 rfl ?_
      refine v_bipush 7 d_M_digest_181 rfl ?_
      refine v_bipush 9 d_M_digest_183 rfl ?_
      refine v_callVi (As := [.int x3, .int x4, .int 7, .int 9]) (rest := [.long (31 * ((31 * ((31 * ((31 * ((31 * ((31 * l1) + (Int32.toInt64 r15))) + (Int32.toInt64 r16))) + (Int32.toInt64 r17))) + (Int32.toInt64 r18))) + (Int32.toInt64 r19)))]) (c_M_fliesOf G x3 x4 7 9 h19) co_M_211 io_M_fliesOf o_31 ⟨by decide, by decide⟩ rfl rfl (Nat.le_of_ble_eq_true rfl) d_M_digest_185 (fun r20 h20 _ => ?_)
      refine v_i2l d_M_digest_188 ?_
      refine v_ladd d_M_digest_189 ?_
      refine v_lstore_n [(1, .long ((31 * ((31 * ((31 * ((31 * ((31 * ((31 * l1) + (Int32.toInt64 r15))) + (Int32.toInt64 r16))) + (Int32.toInt64 r17))) + (Int32.toInt64 r18))) + (Int32.toInt64 r19))) + (Int32.toInt64 r20))), (0, .ref (ad G 31)), (3, .int x3), (4, .int x4), (5, .int x5)] d_M_digest_190 rfl (by decide) rfl ?_
      refine v_iinc (x4 + 1) 3 [(4, .int (x4 + 1)), (1, .long ((31 * ((31 * ((31 * ((31 * ((31 * ((31 * l1) + (Int32.toInt64 r15))) + (Int32.toInt64 r16))) + (Int32.toInt64 r17))) + (Int32.toInt64 r18))) + (Int32.toInt64 r19))) + (Int32.toInt64 r20))), (0, .ref (ad G 31)), (3, .int x3), (5, .int x5)] d_M_digest_191 rfl rfl (by decide) rfl ?_
      refine v_goto 56 d_M_digest_194 (by decide) ?_
      exact v_sub [2, 1, 3, 0] rfl (hK56 ((31 * ((31 * ((31 * ((31 * ((31 * ((31 * l1) + (Int32.toInt64 r15))) + (Int32.toInt64 r16))) + (Int32.toInt64 r17))) + (Int32.toInt64 r18))) + (Int32.toInt64 r19))) + (Int32.toInt64 r20)) x3 (x4 + 1) h20)
    · refine v_ldc2 (v := 31) (mem_t 900 (by decide +kernel) rfl) d_M_digest_71 ?_
      refine v_lload_n 1 d_M_digest_74 rfl rfl ?_
      refine v_lmul d_M_digest_75 ?_
      refine v_aload_n 0 d_M_digest_76 rfl rfl ?_
      refine v_iload_n 2 d_M_digest_77 rfl rfl ?_
      refine v_iload 3 d_M_digest_78 rfl ?_
      refine v_iload 4 d_M_digest_80 rfl ?_
      refine v_callVi (As := [.int x3, .int x4, .int x5]) (rest := [.long (31 * l1)]) (c_M_lengthOf G x3 x4 x5 h) co_M_146 io_M_lengthOf o_31 ⟨by decide, by decide⟩ rfl rfl (Nat.le_of_ble_eq_true rfl) d_M_digest_82 (fun r21 h21 _ => ?_)
      refine v_i2l d_M_digest_85 ?_
      refine v_ladd d_M_digest_86 ?_
      refine v_lstore_n [(1, .long ((31 * l1) + (Int32.toInt64 r21))), (0, .ref (ad G 31)), (3, .int x3), (4, .int x4), (5, .int x5)] d_M_digest_87 rfl (by decide) rfl ?_
      refine v_iinc (x5 + 1) 4 [(5, .int (x5 + 1)), (1, .long ((31 * l1) + (Int32.toInt64 r21))), (0, .ref (ad G 31)), (3, .int x3), (4, .int x4)] d_M_digest_88 rfl rfl (by decide) rfl ?_
      refine v_goto 65 d_M_digest_91 (by decide) ?_
      exact v_sub [2, 1, 3, 4, 0] rfl (ih ((31 * l1) + (Int32.toInt64 r21)) x3 x4 (x5 + 1) h21)
set_option maxHeartbeats 4000000 in
set_option maxRecDepth 20000 in
theorem Vl_M_digest_56 (G : Gt) (K45 : Int64 → Int32 → Hp → Option (Int64 × Hp)) (hK45 : ∀ (l1 : Int64) (x3 : Int32) (h : Hp), V G m_M_digest 45 [(0, .ref (ad G 31)), (1, .long l1), (3, .int x3)] [] h κl (K45 l1 x3 h)) : ∀ (n : Nat) (l1 : Int64) (x3 : Int32) (x4 : Int32) (h : Hp), V G m_M_digest 56 [(0, .ref (ad G 31)), (1, .long l1), (3, .int x3), (4, .int x4)] [] h κl (l_M_digest_56 K45 n l1 x3 x4 h) := by
  intro n
  induction n with
  | zero => intros; exact v_none
  | succ n ih =>
    intro l1 x3 x4 h
    rw [l_M_digest_56]
    refine v_iload 3 d_M_digest_56 rfl ?_
    refine v_iconst 4 d_M_digest_58 rfl ?_
    refine v_icmp_ge 197 d_M_digest_59 (by decide) (fun c13 => ?_) (fun c13 => ?_)
    · refine v_iinc (x3 + 1) 2 [(3, .int (x3 + 1)), (0, .ref (ad G 31)), (1, .long l1), (4, .int x4)] d_M_digest_197 rfl rfl (by decide) rfl ?_
      refine v_goto 45 d_M_digest_200 (by decide) ?_
      exact v_sub [1, 2, 0] rfl (hK45 l1 (x3 + 1) h)
    · refine v_iconst 0 d_M_digest_62 rfl ?_
      refine v_istore [(5, .int 0), (0, .ref (ad G 31)), (1, .long l1), (3, .int x3), (4, .int x4)] d_M_digest_63 (by decide) rfl ?_
      exact v_sub [1, 2, 3, 4, 0] rfl (Vl_M_digest_65 G K45 (l_M_digest_56 K45 n) hK45 ih FUEL l1 x3 x4 0 h)
set_option maxHeartbeats 4000000 in
set_option maxRecDepth 20000 in
theorem Vl_M_digest_45 (G : Gt) : ∀ (n : Nat) (l1 : Int64) (x3 : Int32) (h : Hp), V G m_M_digest 45 [(0, .ref (ad G 31)), (1, .long l1), (3, .int x3)] [] h κl (l_M_digest_45 n l1 x3 h) := by
  intro n
  induction n with
  | zero => intros; exact v_none
  | succ n ih =>
    intro l1 x3 h
    rw [l_M_digest_45]
    refine v_iload_n 2 d_M_digest_45 rfl rfl ?_
    refine v_aload_n 0 d_M_digest_46 rfl rfl ?_
    refine v_geti fl_M_67 o_31 rfl d_M_digest_47 ?_
    refine v_icmp_ge 203 d_M_digest_50 (by decide) (fun c3 => ?_) (fun c3 => ?_)
    · refine v_iconst 0 d_M_digest_203 rfl ?_
      refine v_istore_n [(3, .int 0), (0, .ref (ad G 31)), (1, .long l1)] d_M_digest_204 rfl (by decide) rfl ?_
      exact v_sub [1, 2, 0] rfl (Vl_M_digest_205 G FUEL l1 0 h)
    · refine v_iconst 0 d_M_digest_53 rfl ?_
      refine v_istore [(4, .int 0), (0, .ref (ad G 31)), (1, .long l1), (3, .int x3)] d_M_digest_54 (by decide) rfl ?_
      exact v_sub [1, 2, 3, 0] rfl (Vl_M_digest_56 G (l_M_digest_45 n) ih FUEL l1 x3 0 h)
set_option maxHeartbeats 4000000 in
set_option maxRecDepth 20000 in
theorem Vl_M_digest_6 (G : Gt) : ∀ (n : Nat) (l1 : Int64) (x3 : Int32) (h : Hp), V G m_M_digest 6 [(0, .ref (ad G 31)), (1, .long l1), (3, .int x3)] [] h κl (l_M_digest_6 n l1 x3 h) := by
  intro n
  induction n with
  | zero => intros; exact v_none
  | succ n ih =>
    intro l1 x3 h
    rw [l_M_digest_6]
    refine v_iload_n 2 d_M_digest_6 rfl rfl ?_
    refine v_bipush 8 d_M_digest_7 rfl ?_
    refine v_icmp_ge 31 d_M_digest_9 (by decide) (fun c1 => ?_) (fun c1 => ?_)
    · refine v_ldc2 (v := 31) (mem_t 900 (by decide +kernel) rfl) d_M_digest_31 ?_
      refine v_lload_n 1 d_M_digest_34 rfl rfl ?_
      refine v_lmul d_M_digest_35 ?_
      refine v_aload_n 0 d_M_digest_36 rfl rfl ?_
      refine v_callVi (As := []) (rest := [.long (31 * l1)]) (c_M_faultNow G h) co_M_77 io_M_faultNow o_31 ⟨by decide, by decide⟩ rfl rfl (Nat.le_of_ble_eq_true rfl) d_M_digest_37 (fun r2 h2 _ => ?_)
      refine v_i2l d_M_digest_40 ?_
      refine v_ladd d_M_digest_41 ?_
      refine v_lstore_n [(1, .long ((31 * l1) + (Int32.toInt64 r2))), (0, .ref (ad G 31)), (3, .int x3)] d_M_digest_42 rfl (by decide) rfl ?_
      refine v_iconst 0 d_M_digest_43 rfl ?_
      refine v_istore_n [(3, .int 0), (1, .long ((31 * l1) + (Int32.toInt64 r2))), (0, .ref (ad G 31))] d_M_digest_44 rfl (by decide) rfl ?_
      exact v_sub [2, 1, 0] rfl (Vl_M_digest_45 G FUEL ((31 * l1) + (Int32.toInt64 r2)) 0 h2)
    · refine v_ldc2 (v := 31) (mem_t 900 (by decide +kernel) rfl) d_M_digest_12 ?_
      refine v_lload_n 1 d_M_digest_15 rfl rfl ?_
      refine v_lmul d_M_digest_16 ?_
      refine v_aload_n 0 d_M_digest_17 rfl rfl ?_
      refine v_iload_n 2 d_M_digest_18 rfl rfl ?_
      refine v_callVi (As := [.int x3]) (rest := [.long (31 * l1)]) (c_M_count G x3 h) co_M_234 io_M_count o_31 ⟨by decide, by decide⟩ rfl rfl (Nat.le_of_ble_eq_true rfl) d_M_digest_19 (fun r22 h22 _ => ?_)
      refine v_i2l d_M_digest_22 ?_
      refine v_ladd d_M_digest_23 ?_
      refine v_lstore_n [(1, .long ((31 * l1) + (Int32.toInt64 r22))), (0, .ref (ad G 31)), (3, .int x3)] d_M_digest_24 rfl (by decide) rfl ?_
      refine v_iinc (x3 + 1) 2 [(3, .int (x3 + 1)), (1, .long ((31 * l1) + (Int32.toInt64 r22))), (0, .ref (ad G 31))] d_M_digest_25 rfl rfl (by decide) rfl ?_
      refine v_goto 6 d_M_digest_28 (by decide) ?_
      exact v_sub [2, 1, 0] rfl (ih ((31 * l1) + (Int32.toInt64 r22)) (x3 + 1) h22)
set_option maxHeartbeats 4000000 in
set_option maxRecDepth 20000 in
theorem c_M_digest (G : Gt) (h : Hp) : Cn G m_M_digest [.ref (ad G 31)] h κl (f_M_digest h) := by
  refine entryV (by decide) (Nat.le_of_ble_eq_true rfl) rfl ?_
  show V G m_M_digest 0 [(0, .ref (ad G 31))] [] h κl _
  unfold f_M_digest
  refine v_ldc2 (v := 17) (mem_t 899 (by decide +kernel) rfl) d_M_digest_0 ?_
  refine v_lstore_n [(1, .long 17), (0, .ref (ad G 31))] d_M_digest_3 rfl (by decide) rfl ?_
  refine v_iconst 0 d_M_digest_4 rfl ?_
  refine v_istore_n [(3, .int 0), (1, .long 17), (0, .ref (ad G 31))] d_M_digest_5 rfl (by decide) rfl ?_
  exact v_sub [2, 1, 0] rfl (Vl_M_digest_6 G FUEL 17 0 h)
