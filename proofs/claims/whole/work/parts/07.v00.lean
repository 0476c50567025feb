theorem d_Tx_append_0 : decode m_Tx_append.2.1 0 = .ok (.aload_n 0, 1) := by decide +kernel
theorem d_Tx_append_1 : decode m_Tx_append.2.1 1 = .ok (.getfield 15, 3) := by decide +kernel
theorem d_Tx_append_4 : decode m_Tx_append.2.1 4 = .ok (.bipush 40, 2) := by decide +kernel
theorem d_Tx_append_6 : decode m_Tx_append.2.1 6 = .ok (.if_icmp .ge 23, 3) := by decide +kernel
theorem d_Tx_append_9 : decode m_Tx_append.2.1 9 = .ok (.aload_n 0, 1) := by decide +kernel
theorem d_Tx_append_10 : decode m_Tx_append.2.1 10 = .ok (.getfield 9, 3) := by decide +kernel
theorem d_Tx_append_13 : decode m_Tx_append.2.1 13 = .ok (.aload_n 0, 1) := by decide +kernel
theorem d_Tx_append_14 : decode m_Tx_append.2.1 14 = .ok (.getfield 15, 3) := by decide +kernel
theorem d_Tx_append_17 : decode m_Tx_append.2.1 17 = .ok (.iload_n 1, 1) := by decide +kernel
theorem d_Tx_append_18 : decode m_Tx_append.2.1 18 = .ok (.iastore, 1) := by decide +kernel
theorem d_Tx_append_19 : decode m_Tx_append.2.1 19 = .ok (.aload_n 0, 1) := by decide +kernel
theorem d_Tx_append_20 : decode m_Tx_append.2.1 20 = .ok (.dup, 1) := by decide +kernel
theorem d_Tx_append_21 : decode m_Tx_append.2.1 21 = .ok (.getfield 15, 3) := by decide +kernel
theorem d_Tx_append_24 : decode m_Tx_append.2.1 24 = .ok (.iconst 1, 1) := by decide +kernel
theorem d_Tx_append_25 : decode m_Tx_append.2.1 25 = .ok (.iadd, 1) := by decide +kernel
theorem d_Tx_append_26 : decode m_Tx_append.2.1 26 = .ok (.putfield 15, 3) := by decide +kernel
theorem d_Tx_append_29 : decode m_Tx_append.2.1 29 = .ok (.return_, 1) := by decide +kernel
set_option maxHeartbeats 4000000 in
set_option maxRecDepth 20000 in
theorem c_Tx_append (G : Gt) (a0 : Nat) (x1 : Int32) (ha0 : isO 4 a0) (h : Hp) : Cn G m_Tx_append [.ref (ad G a0), .int x1] h κv (f_Tx_append a0 x1 h) := by
  refine entryV (by decide) (Nat.le_of_ble_eq_true rfl) rfl ?_
  show V G m_Tx_append 0 [(0, .ref (ad G a0)), (1, .int x1)] [] h κv _
  unfold f_Tx_append
  refine v_aload_n 0 d_Tx_append_0 rfl rfl ?_
  refine v_geti fl_Tx_15 ha0 rfl d_Tx_append_1 ?_
  refine v_bipush 40 d_Tx_append_4 rfl ?_
  refine v_icmp_ge 29 d_Tx_append_6 (by decide) (fun c1 => ?_) (fun c1 => ?_)
  · exact v_vret rfl d_Tx_append_29
  · refine v_aload_n 0 d_Tx_append_9 rfl rfl ?_
    refine v_getr (a0 + 1) fl_Tx_9 ha0 rfl rfl d_Tx_append_10 ?_
    refine v_aload_n 0 d_Tx_append_13 rfl rfl ?_
    refine v_geti fl_Tx_15 ha0 rfl d_Tx_append_14 ?_
    refine v_iload_n 1 d_Tx_append_17 rfl rfl ?_
    refine v_iast (txA ha0) d_Tx_append_18 ?_
    refine v_aload_n 0 d_Tx_append_19 rfl rfl ?_
    refine v_dup d_Tx_append_20 rfl ?_
    refine v_geti fl_Tx_15 ha0 rfl d_Tx_append_21 ?_
    refine v_iconst 1 d_Tx_append_24 rfl ?_
    refine v_iadd d_Tx_append_25 ?_
    refine v_puti fl_Tx_15 ft_4_1 rfl rfl ha0 rfl d_Tx_append_26 ?_
    exact v_vret rfl d_Tx_append_29
theorem d_Fr_isTaken_0 : decode m_Fr_isTaken.2.1 0 = .ok (.iconst 0, 1) := by decide +kernel
theorem d_Fr_isTaken_1 : decode m_Fr_isTaken.2.1 1 = .ok (.istore_n 3, 1) := by decide +kernel
theorem d_Fr_isTaken_2 : decode m_Fr_isTaken.2.1 2 = .ok (.iload_n 3, 1) := by decide +kernel
theorem d_Fr_isTaken_3 : decode m_Fr_isTaken.2.1 3 = .ok (.aload_n 0, 1) := by decide +kernel
theorem d_Fr_isTaken_4 : decode m_Fr_isTaken.2.1 4 = .ok (.getfield 18, 3) := by decide +kernel
theorem d_Fr_isTaken_7 : decode m_Fr_isTaken.2.1 7 = .ok (.if_icmp .ge 31, 3) := by decide +kernel
theorem d_Fr_isTaken_10 : decode m_Fr_isTaken.2.1 10 = .ok (.aload_n 0, 1) := by decide +kernel
theorem d_Fr_isTaken_11 : decode m_Fr_isTaken.2.1 11 = .ok (.getfield 9, 3) := by decide +kernel
theorem d_Fr_isTaken_14 : decode m_Fr_isTaken.2.1 14 = .ok (.iload_n 3, 1) := by decide +kernel
theorem d_Fr_isTaken_15 : decode m_Fr_isTaken.2.1 15 = .ok (.iaload, 1) := by decide +kernel
theorem d_Fr_isTaken_16 : decode m_Fr_isTaken.2.1 16 = .ok (.iload_n 1, 1) := by decide +kernel
theorem d_Fr_isTaken_17 : decode m_Fr_isTaken.2.1 17 = .ok (.if_icmp .ne 15, 3) := by decide +kernel
theorem d_Fr_isTaken_20 : decode m_Fr_isTaken.2.1 20 = .ok (.aload_n 0, 1) := by decide +kernel
theorem d_Fr_isTaken_21 : decode m_Fr_isTaken.2.1 21 = .ok (.getfield 15, 3) := by decide +kernel
theorem d_Fr_isTaken_24 : decode m_Fr_isTaken.2.1 24 = .ok (.iload_n 3, 1) := by decide +kernel
theorem d_Fr_isTaken_25 : decode m_Fr_isTaken.2.1 25 = .ok (.iaload, 1) := by decide +kernel
theorem d_Fr_isTaken_26 : decode m_Fr_isTaken.2.1 26 = .ok (.iload_n 2, 1) := by decide +kernel
theorem d_Fr_isTaken_27 : decode m_Fr_isTaken.2.1 27 = .ok (.if_icmp .ne 5, 3) := by decide +kernel
theorem d_Fr_isTaken_30 : decode m_Fr_isTaken.2.1 30 = .ok (.iconst 1, 1) := by decide +kernel
theorem d_Fr_isTaken_31 : decode m_Fr_isTaken.2.1 31 = .ok (.ireturn, 1) := by decide +kernel
theorem d_Fr_isTaken_32 : decode m_Fr_isTaken.2.1 32 = .ok (.iinc 3 1, 3) := by decide +kernel
theorem d_Fr_isTaken_35 : decode m_Fr_isTaken.2.1 35 = .ok (.goto (-33), 3) := by decide +kernel
theorem d_Fr_isTaken_38 : decode m_Fr_isTaken.2.1 38 = .ok (.iconst 0, 1) := by decide +kernel
theorem d_Fr_isTaken_39 : decode m_Fr_isTaken.2.1 39 = .ok (.ireturn, 1) := by decide +kernel
set_option maxHeartbeats 4000000 in
set_option maxRecDepth 20000 in
theorem Vl_Fr_isTaken_2 (G : Gt) : ∀ (n : Nat) (a0 : Nat) (x1 : Int32) (x2 : Int32) (x3 : Int32) (ha0 : isO 0 a0) (h : Hp), V G m_Fr_isTaken 2 [(0, .ref (ad G a0)), (1, .int x1), (2, .int x2), (3, .int x3)] [] h κi (l_Fr_isTaken_2 n a0 x1 x2 x3 h) := by
  intro n
  induction n with
  | zero => intros; exact v_none
  | succ n ih =>
    intro a0 x1 x2 x3 ha0 h
    rw [l_Fr_isTaken_2]
    refine v_iload_n 3 d_Fr_isTaken_2 rfl rfl ?_
    refine v_aload_n 0 d_Fr_isTaken_3 rfl rfl ?_
    refine v_geti fl_Fr_18 ha0 rfl d_Fr_isTaken_4 ?_
    refine v_icmp_ge 38 d_Fr_isTaken_7 (by decide) (fun c1 => ?_) (fun c1 => ?_)
    · refine v_iconst 0 d_Fr_isTaken_38 rfl ?_
      exact v_zretL rfl rfl d_Fr_isTaken_39
    · refine v_aload_n 0 d_Fr_isTaken_10 rfl rfl ?_
      refine v_getr (a0 + 1) fl_Fr_9 ha0 rfl rfl d_Fr_isTaken_11 ?_
      refine v_iload_n 3 d_Fr_isTaken_14 rfl rfl ?_
      refine v_iald ((frA ha0).1) d_Fr_isTaken_15 ?_
      refine v_iload_n 1 d_Fr_isTaken_16 rfl rfl ?_
      refine v_icmp_ne 32 d_Fr_isTaken_17 (by decide) (fun c2 => ?_) (fun c2 => ?_)
      · refine v_aload_n 0 d_Fr_isTaken_20 rfl rfl ?_
        refine v_getr (a0 + 2) fl_Fr_15 ha0 rfl rfl d_Fr_isTaken_21 ?_
        refine v_iload_n 3 d_Fr_isTaken_24 rfl rfl ?_
        refine v_iald ((frA ha0).2) d_Fr_isTaken_25 ?_
        refine v_iload_n 2 d_Fr_isTaken_26 rfl rfl ?_
        refine v_icmp_ne 32 d_Fr_isTaken_27 (by decide) (fun c3 => ?_) (fun c3 => ?_)
        · refine v_iconst 1 d_Fr_isTaken_30 rfl ?_
          exact v_zretL rfl rfl d_Fr_isTaken_31
        · refine v_iinc (x3 + 1) 3 [(3, .int (x3 + 1)), (0, .ref (ad G a0)), (1, .int x1), (2, .int x2)] d_Fr_isTaken_32 rfl rfl (by decide) rfl ?_
          refine v_goto 2 d_Fr_isTaken_35 (by decide) ?_
          exact v_sub [1, 2, 3, 0] rfl (ih a0 x1 x2 (x3 + 1) ha0 h)
      · refine v_iinc (x3 + 1) 3 [(3, .int (x3 + 1)), (0, .ref (ad G a0)), (1, .int x1), (2, .int x2)] d_Fr_isTaken_32 rfl rfl (by decide) rfl ?_
        refine v_goto 2 d_Fr_isTaken_35 (by decide) ?_
        exact v_sub [1, 2, 3, 0] rfl (ih a0 x1 x2 (x3 + 1) ha0 h)
set_option maxHeartbeats 4000000 in
set_option maxRecDepth 20000 in
theorem c_Fr_isTaken (G : Gt) (a0 : Nat) (x1 : Int32) (x2 : Int32) (ha0 : isO 0 a0) (h : Hp) : Cn G m_Fr_isTaken [.ref (ad G a0), .int x1, .int x2] h κi (f_Fr_isTaken a0 x1 x2 h) := by
  refine entryV (by decide) (Nat.le_of_ble_eq_true rfl) rfl ?_
  show V G m_Fr_isTaken 0 [(0, .ref (ad G a0)), (1, .int x1), (2, .int x2)] [] h κi _
  unfold f_Fr_isTaken
  refine v_iconst 0 d_Fr_isTaken_0 rfl ?_
  refine v_istore_n [(3, .int 0), (0, .ref (ad G a0)), (1, .int x1), (2, .int x2)] d_Fr_isTaken_1 rfl (by decide) rfl ?_
  exact v_sub [1, 2, 3, 0] rfl (Vl_Fr_isTaken_2 G FUEL a0 x1 x2 0 ha0 h)
theorem d_Tx_goesOn_0 : decode m_Tx_goesOn.2.1 0 = .ok (.aload_n 0, 1) := by decide +kernel
theorem d_Tx_goesOn_1 : decode m_Tx_goesOn.2.1 1 = .ok (.getfield 9, 3) := by decide +kernel
theorem d_Tx_goesOn_4 : decode m_Tx_goesOn.2.1 4 = .ok (.iload_n 2, 1) := by decide +kernel
theorem d_Tx_goesOn_5 : decode m_Tx_goesOn.2.1 5 = .ok (.iaload, 1) := by decide +kernel
theorem d_Tx_goesOn_6 : decode m_Tx_goesOn.2.1 6 = .ok (.istore_n 3, 1) := by decide +kernel
theorem d_Tx_goesOn_7 : decode m_Tx_goesOn.2.1 7 = .ok (.iload_n 2, 1) := by decide +kernel
theorem d_Tx_goesOn_8 : decode m_Tx_goesOn.2.1 8 = .ok (.iconst 3, 1) := by decide +kernel
theorem d_Tx_goesOn_9 : decode m_Tx_goesOn.2.1 9 = .ok (.irem, 1) := by decide +kernel
theorem d_Tx_goesOn_10 : decode m_Tx_goesOn.2.1 10 = .ok (.iconst 2, 1) := by decide +kernel
theorem d_Tx_goesOn_11 : decode m_Tx_goesOn.2.1 11 = .ok (.if_icmp .ne 15, 3) := by decide +kernel
theorem d_Tx_goesOn_14 : decode m_Tx_goesOn.2.1 14 = .ok (.iload_n 3, 1) := by decide +kernel
theorem d_Tx_goesOn_15 : decode m_Tx_goesOn.2.1 15 = .ok (.bipush 59, 2) := by decide +kernel
theorem d_Tx_goesOn_17 : decode m_Tx_goesOn.2.1 17 = .ok (.if_icmp .ne 7, 3) := by decide +kernel
theorem d_Tx_goesOn_20 : decode m_Tx_goesOn.2.1 20 = .ok (.iconst 1, 1) := by decide +kernel
theorem d_Tx_goesOn_21 : decode m_Tx_goesOn.2.1 21 = .ok (.goto 4, 3) := by decide +kernel
theorem d_Tx_goesOn_24 : decode m_Tx_goesOn.2.1 24 = .ok (.iconst 0, 1) := by decide +kernel
theorem d_Tx_goesOn_25 : decode m_Tx_goesOn.2.1 25 = .ok (.ireturn, 1) := by decide +kernel
theorem d_Tx_goesOn_26 : decode m_Tx_goesOn.2.1 26 = .ok (.iload_n 3, 1) := by decide +kernel
theorem d_Tx_goesOn_27 : decode m_Tx_goesOn.2.1 27 = .ok (.bipush 48, 2) := by decide +kernel
theorem d_Tx_goesOn_29 : decode m_Tx_goesOn.2.1 29 = .ok (.if_icmp .lt 18, 3) := by decide +kernel
theorem d_Tx_goesOn_32 : decode m_Tx_goesOn.2.1 32 = .ok (.iload_n 3, 1) := by decide +kernel
theorem d_Tx_goesOn_33 : decode m_Tx_goesOn.2.1 33 = .ok (.bipush 57, 2) := by decide +kernel
theorem d_Tx_goesOn_35 : decode m_Tx_goesOn.2.1 35 = .ok (.if_icmp .gt 12, 3) := by decide +kernel
theorem d_Tx_goesOn_38 : decode m_Tx_goesOn.2.1 38 = .ok (.aload_n 1, 1) := by decide +kernel
theorem d_Tx_goesOn_39 : decode m_Tx_goesOn.2.1 39 = .ok (.getfield 19, 3) := by decide +kernel
theorem d_Tx_goesOn_42 : decode m_Tx_goesOn.2.1 42 = .ok (.bipush 10, 2) := by decide +kernel
theorem d_Tx_goesOn_44 : decode m_Tx_goesOn.2.1 44 = .ok (.if_icmp .lt 5, 3) := by decide +kernel
theorem d_Tx_goesOn_47 : decode m_Tx_goesOn.2.1 47 = .ok (.iconst 0, 1) := by decide +kernel
theorem d_Tx_goesOn_48 : decode m_Tx_goesOn.2.1 48 = .ok (.ireturn, 1) := by decide +kernel
theorem d_Tx_goesOn_49 : decode m_Tx_goesOn.2.1 49 = .ok (.iload_n 2, 1) := by decide +kernel
theorem d_Tx_goesOn_50 : decode m_Tx_goesOn.2.1 50 = .ok (.iconst 3, 1) := by decide +kernel
theorem d_Tx_goesOn_51 : decode m_Tx_goesOn.2.1 51 = .ok (.irem, 1) := by decide +kernel
theorem d_Tx_goesOn_52 : decode m_Tx_goesOn.2.1 52 = .ok (.ifCond .eq 25, 3) := by decide +kernel
theorem d_Tx_goesOn_55 : decode m_Tx_goesOn.2.1 55 = .ok (.aload_n 1, 1) := by decide +kernel
theorem d_Tx_goesOn_56 : decode m_Tx_goesOn.2.1 56 = .ok (.aload_n 0, 1) := by decide +kernel
theorem d_Tx_goesOn_57 : decode m_Tx_goesOn.2.1 57 = .ok (.getfield 9, 3) := by decide +kernel
theorem d_Tx_goesOn_60 : decode m_Tx_goesOn.2.1 60 = .ok (.iload_n 2, 1) := by decide +kernel
theorem d_Tx_goesOn_61 : decode m_Tx_goesOn.2.1 61 = .ok (.iconst 1, 1) := by decide +kernel
theorem d_Tx_goesOn_62 : decode m_Tx_goesOn.2.1 62 = .ok (.isub, 1) := by decide +kernel
theorem d_Tx_goesOn_63 : decode m_Tx_goesOn.2.1 63 = .ok (.iaload, 1) := by decide +kernel
theorem d_Tx_goesOn_64 : decode m_Tx_goesOn.2.1 64 = .ok (.bipush 48, 2) := by decide +kernel
theorem d_Tx_goesOn_66 : decode m_Tx_goesOn.2.1 66 = .ok (.isub, 1) := by decide +kernel
theorem d_Tx_goesOn_67 : decode m_Tx_goesOn.2.1 67 = .ok (.iload_n 3, 1) := by decide +kernel
theorem d_Tx_goesOn_68 : decode m_Tx_goesOn.2.1 68 = .ok (.bipush 48, 2) := by decide +kernel
theorem d_Tx_goesOn_70 : decode m_Tx_goesOn.2.1 70 = .ok (.isub, 1) := by decide +kernel
theorem d_Tx_goesOn_71 : decode m_Tx_goesOn.2.1 71 = .ok (.invokevirtual 30, 3) := by decide +kernel
theorem d_Tx_goesOn_74 : decode m_Tx_goesOn.2.1 74 = .ok (.ifCond .ne 7, 3) := by decide +kernel
theorem d_Tx_goesOn_77 : decode m_Tx_goesOn.2.1 77 = .ok (.iconst 1, 1) := by decide +kernel
theorem d_Tx_goesOn_78 : decode m_Tx_goesOn.2.1 78 = .ok (.goto 4, 3) := by decide +kernel
theorem d_Tx_goesOn_81 : decode m_Tx_goesOn.2.1 81 = .ok (.iconst 0, 1) := by decide +kernel
theorem d_Tx_goesOn_82 : decode m_Tx_goesOn.2.1 82 = .ok (.ireturn, 1) := by decide +kernel
set_option maxHeartbeats 4000000 in
set_option maxRecDepth 20000 in
theorem c_Tx_goesOn (G : Gt) (a0 : Nat) (a1 : Nat) (x2 : Int32) (ha0 : isO 4 a0) (ha1 : isO 0 a1) (h : Hp) : Cn G m_Tx_goesOn [.ref (ad G a0), .ref (ad G a1), .int x2] h κi (f_Tx_goesOn a0 a1 x2 h) := by
  refine entryV (by decide) (Nat.le_of_ble_eq_true rfl) rfl ?_
  show V G m_Tx_goesOn 0 [(0, .ref (ad G a0)), (1, .ref (ad G a1)), (2, .int x2)] [] h κi _
  unfold f_Tx_goesOn
  refine v_aload_n 0 d_Tx_goesOn_0 rfl rfl ?_
  refine v_getr (a0 + 1) fl_Tx_9 ha0 rfl rfl d_Tx_goesOn_1 ?_
  refine v_iload_n 2 d_Tx_goesOn_4 rfl rfl ?_
  refine v_iald (txA ha0) d_Tx_goesOn_5 ?_
  refine v_istore_n [(3, .int (h (a0 + 1) (ix x2))), (0, .ref (ad G a0)), (1, .ref (ad G a1)), (2, .int x2)] d_Tx_goesOn_6 rfl (by decide) rfl ?_
  refine v_iload_n 3 d_Tx_goesOn_7 rfl rfl ?_
  refine v_iconst 3 d_Tx_goesOn_8 rfl ?_
  refine v_irem (by decide) d_Tx_goesOn_9 ?_
  refine v_iconst 2 d_Tx_goesOn_10 rfl ?_
  refine v_icmp_ne 26 d_Tx_goesOn_11 (by decide) (fun c1 => ?_) (fun c1 => ?_)
  · refine v_iload_n 0 d_Tx_goesOn_14 rfl rfl ?_
    refine v_bipush 59 d_Tx_goesOn_15 rfl ?_
    refine v_icmp_ne 24 d_Tx_goesOn_17 (by decide) (fun c2 => ?_) (fun c2 => ?_)
    · refine v_iconst 1 d_Tx_goesOn_20 rfl ?_
      refine v_goto 25 d_Tx_goesOn_21 (by decide) ?_
      exact v_zretL rfl rfl d_Tx_goesOn_25
    · refine v_iconst 0 d_Tx_goesOn_24 rfl ?_
      exact v_zretL rfl rfl d_Tx_goesOn_25
  · refine v_iload_n 0 d_Tx_goesOn_26 rfl rfl ?_
    refine v_bipush 48 d_Tx_goesOn_27 rfl ?_
    refine v_icmp_lt 47 d_Tx_goesOn_29 (by decide) (fun c3 => ?_) (fun c3 => ?_)
    · refine v_iconst 0 d_Tx_goesOn_47 rfl ?_
      exact v_zretL rfl rfl d_Tx_goesOn_48
    · refine v_iload_n 0 d_Tx_goesOn_32 rfl rfl ?_
      refine v_bipush 57 d_Tx_goesOn_33 rfl ?_
      refine v_icmp_gt 47 d_Tx_goesOn_35 (by decide) (fun c4 => ?_) (fun c4 => ?_)
      · refine v_iconst 0 d_Tx_goesOn_47 rfl ?_
        exact v_zretL rfl rfl d_Tx_goesOn_48
      · refine v_aload_n 2 d_Tx_goesOn_38 rfl rfl ?_
        refine v_geti fl_Tx_19 ha1 rfl d_Tx_goesOn_39 ?_
        refine v_bipush 10 d_Tx_goesOn_42 rfl ?_
        refine v_icmp_lt 49 d_Tx_goesOn_44 (by decide) (fun c5 => ?_) (fun c5 => ?_)
        · refine v_iload_n 3 d_Tx_goesOn_49 rfl rfl ?_
          refine v_iconst 3 d_Tx_goesOn_50 rfl ?_
          refine v_irem (by decide) d_Tx_goesOn_51 ?_
          refine v_if_eq 77 d_Tx_goesOn_52 (by decide) (fun c6 => ?_) (fun c6 => ?_)
          · refine v_iconst 1 d_Tx_goesOn_77 rfl ?_
            refine v_goto 82 d_Tx_goesOn_78 (by decide) ?_
            exact v_zretL rfl rfl d_Tx_goesOn_82
          · refine v_aload_n 2 d_Tx_goesOn_55 rfl rfl ?_
            refine v_aload_n 1 d_Tx_goesOn_56 rfl rfl ?_
            refine v_getr (a0 + 1) fl_Tx_9 ha0 rfl rfl d_Tx_goesOn_57 ?_
            refine v_iload_n 3 d_Tx_goesOn_60 rfl rfl ?_
            refine v_iconst 1 d_Tx_goesOn_61 rfl ?_
            refine v_isub d_Tx_goesOn_62 ?_
            refine v_iald (txA ha0) d_Tx_goesOn_63 ?_
            refine v_bipush 48 d_Tx_goesOn_64 rfl ?_
            refine v_isub d_Tx_goesOn_66 ?_
            refine v_iload_n 0 d_Tx_goesOn_67 rfl rfl ?_
            refine v_bipush 48 d_Tx_goesOn_68 rfl ?_
            refine v_isub d_Tx_goesOn_70 ?_
            refine v_callVi (As := [.int ((h (a0 + 1) (ix (x2 - 1))) - 48), .int ((h (a0 + 1) (ix x2)) - 48)]) (rest := []) (c_Fr_isTaken G a1 ((h (a0 + 1) (ix (x2 - 1))) - 48) ((h (a0 + 1) (ix x2)) - 48) ha1 h) co_Tx_30 io_Fr_isTaken ha1 ⟨by decide, by decide⟩ rfl rfl (Nat.le_of_ble_eq_true rfl) d_Tx_goesOn_71 (fun r7 h7 _ => ?_)
            refine v_if_ne 81 d_Tx_goesOn_74 (by decide) (fun c8 => ?_) (fun c8 => ?_)
            · refine v_iconst 1 d_Tx_goesOn_77 rfl ?_
              refine v_goto 82 d_Tx_goesOn_78 (by decide) ?_
              exact v_zretL rfl rfl d_Tx_goesOn_82
            · refine v_iconst 0 d_Tx_goesOn_81 rfl ?_
              exact v_zretL rfl rfl d_Tx_goesOn_82
        · refine v_iconst 0 d_Tx_goesOn_47 rfl ?_
          exact v_zretL rfl rfl d_Tx_goesOn_48
theorem d_Fr_add_0 : decode m_Fr_add.2.1 0 = .ok (.aload_n 0, 1) := by decide +kernel
theorem d_Fr_add_1 : decode m_Fr_add.2.1 1 = .ok (.getfield 18, 3) := by decide +kernel
theorem d_Fr_add_4 : decode m_Fr_add.2.1 4 = .ok (.bipush 10, 2) := by decide +kernel
theorem d_Fr_add_6 : decode m_Fr_add.2.1 6 = .ok (.if_icmp .ge 33, 3) := by decide +kernel
theorem d_Fr_add_9 : decode m_Fr_add.2.1 9 = .ok (.aload_n 0, 1) := by decide +kernel
theorem d_Fr_add_10 : decode m_Fr_add.2.1 10 = .ok (.getfield 9, 3) := by decide +kernel
theorem d_Fr_add_13 : decode m_Fr_add.2.1 13 = .ok (.aload_n 0, 1) := by decide +kernel
theorem d_Fr_add_14 : decode m_Fr_add.2.1 14 = .ok (.getfield 18, 3) := by decide +kernel
theorem d_Fr_add_17 : decode m_Fr_add.2.1 17 = .ok (.iload_n 1, 1) := by decide +kernel
theorem d_Fr_add_18 : decode m_Fr_add.2.1 18 = .ok (.iastore, 1) := by decide +kernel
theorem d_Fr_add_19 : decode m_Fr_add.2.1 19 = .ok (.aload_n 0, 1) := by decide +kernel
theorem d_Fr_add_20 : decode m_Fr_add.2.1 20 = .ok (.getfield 15, 3) := by decide +kernel
theorem d_Fr_add_23 : decode m_Fr_add.2.1 23 = .ok (.aload_n 0, 1) := by decide +kernel
theorem d_Fr_add_24 : decode m_Fr_add.2.1 24 = .ok (.getfield 18, 3) := by decide +kernel
theorem d_Fr_add_27 : decode m_Fr_add.2.1 27 = .ok (.iload_n 2, 1) := by decide +kernel
theorem d_Fr_add_28 : decode m_Fr_add.2.1 28 = .ok (.iastore, 1) := by decide +kernel
theorem d_Fr_add_29 : decode m_Fr_add.2.1 29 = .ok (.aload_n 0, 1) := by decide +kernel
theorem d_Fr_add_30 : decode m_Fr_add.2.1 30 = .ok (.dup, 1) := by decide +kernel
theorem d_Fr_add_31 : decode m_Fr_add.2.1 31 = .ok (.getfield 18, 3) := by decide +kernel
theorem d_Fr_add_34 : decode m_Fr_add.2.1 34 = .ok (.iconst 1, 1) := by decide +kernel
theorem d_Fr_add_35 : decode m_Fr_add.2.1 35 = .ok (.iadd, 1) := by decide +kernel
theorem d_Fr_add_36 : decode m_Fr_add.2.1 36 = .ok (.putfield 18, 3) := by decide +kernel
theorem d_Fr_add_39 : decode m_Fr_add.2.1 39 = .ok (.return_, 1) := by decide +kernel
set_option maxHeartbeats 4000000 in
set_option maxRecDepth 20000 in
theorem c_Fr_add (G : Gt) (a0 : Nat) (x1 : Int32) (x2 : Int32) (ha0 : isO 0 a0) (h : Hp) : Cn G m_Fr_add [.ref (ad G a0), .int x1, .int x2] h κv (f_Fr_add a0 x1 x2 h) := by
  refine entryV (by decide) (Nat.le_of_ble_eq_true rfl) rfl ?_
  show V G m_Fr_add 0 [(0, .ref (ad G a0)), (1, .int x1), (2, .int x2)] [] h κv _
  unfold f_Fr_add
  refine v_aload_n 0 d_Fr_add_0 rfl rfl ?_
  refine v_geti fl_Fr_18 ha0 rfl d_Fr_add_1 ?_
  refine v_bipush 10 d_Fr_add_4 rfl ?_
  refine v_icmp_ge 39 d_Fr_add_6 (by decide) (fun c1 => ?_) (fun c1 => ?_)
  · exact v_vret rfl d_Fr_add_39
  · refine v_aload_n 0 d_Fr_add_9 rfl rfl ?_
    refine v_getr (a0 + 1) fl_Fr_9 ha0 rfl rfl d_Fr_add_10 ?_
    refine v_aload_n 0 d_Fr_add_13 rfl rfl ?_
    refine v_geti fl_Fr_18 ha0 rfl d_Fr_add_14 ?_
    refine v_iload_n 1 d_Fr_add_17 rfl rfl ?_
    refine v_iast ((frA ha0).1) d_Fr_add_18 ?_
    refine v_aload_n 0 d_Fr_add_19 rfl rfl ?_
    refine v_getr (a0 + 2) fl_Fr_15 ha0 rfl rfl d_Fr_add_20 ?_
    refine v_aload_n 0 d_Fr_add_23 rfl rfl ?_
    refine v_geti fl_Fr_18 ha0 rfl d_Fr_add_24 ?_
    refine v_iload_n 2 d_Fr_add_27 rfl rfl ?_
    refine v_iast ((frA ha0).2) d_Fr_add_28 ?_
    refine v_aload_n 0 d_Fr_add_29 rfl rfl ?_
    refine v_dup d_Fr_add_30 rfl ?_
    refine v_geti fl_Fr_18 ha0 rfl d_Fr_add_31 ?_
    refine v_iconst 1 d_Fr_add_34 rfl ?_
    refine v_iadd d_Fr_add_35 ?_
    refine v_puti fl_Fr_18 ft_0_2 rfl rfl ha0 rfl d_Fr_add_36 ?_
    exact v_vret rfl d_Fr_add_39
theorem d_Tx_pegsTo_0 : decode m_Tx_pegsTo.2.1 0 = .ok (.aload_n 1, 1) := by decide +kernel
theorem d_Tx_pegsTo_1 : decode m_Tx_pegsTo.2.1 1 = .ok (.iconst 0, 1) := by decide +kernel
theorem d_Tx_pegsTo_2 : decode m_Tx_pegsTo.2.1 2 = .ok (.putfield 19, 3) := by decide +kernel
theorem d_Tx_pegsTo_5 : decode m_Tx_pegsTo.2.1 5 = .ok (.iconst 0, 1) := by decide +kernel
theorem d_Tx_pegsTo_6 : decode m_Tx_pegsTo.2.1 6 = .ok (.istore_n 2, 1) := by decide +kernel
theorem d_Tx_pegsTo_7 : decode m_Tx_pegsTo.2.1 7 = .ok (.iload_n 2, 1) := by decide +kernel
theorem d_Tx_pegsTo_8 : decode m_Tx_pegsTo.2.1 8 = .ok (.aload_n 0, 1) := by decide +kernel
theorem d_Tx_pegsTo_9 : decode m_Tx_pegsTo.2.1 9 = .ok (.getfield 15, 3) := by decide +kernel
theorem d_Tx_pegsTo_12 : decode m_Tx_pegsTo.2.1 12 = .ok (.if_icmp .ge 49, 3) := by decide +kernel
theorem d_Tx_pegsTo_15 : decode m_Tx_pegsTo.2.1 15 = .ok (.aload_n 0, 1) := by decide +kernel
theorem d_Tx_pegsTo_16 : decode m_Tx_pegsTo.2.1 16 = .ok (.aload_n 1, 1) := by decide +kernel
theorem d_Tx_pegsTo_17 : decode m_Tx_pegsTo.2.1 17 = .ok (.iload_n 2, 1) := by decide +kernel
theorem d_Tx_pegsTo_18 : decode m_Tx_pegsTo.2.1 18 = .ok (.invokevirtual 22, 3) := by decide +kernel
theorem d_Tx_pegsTo_21 : decode m_Tx_pegsTo.2.1 21 = .ok (.ifCond .eq 40, 3) := by decide +kernel
theorem d_Tx_pegsTo_24 : decode m_Tx_pegsTo.2.1 24 = .ok (.iload_n 2, 1) := by decide +kernel
theorem d_Tx_pegsTo_25 : decode m_Tx_pegsTo.2.1 25 = .ok (.iconst 3, 1) := by decide +kernel
theorem d_Tx_pegsTo_26 : decode m_Tx_pegsTo.2.1 26 = .ok (.irem, 1) := by decide +kernel
theorem d_Tx_pegsTo_27 : decode m_Tx_pegsTo.2.1 27 = .ok (.iconst 1, 1) := by decide +kernel
theorem d_Tx_pegsTo_28 : decode m_Tx_pegsTo.2.1 28 = .ok (.if_icmp .ne 27, 3) := by decide +kernel
theorem d_Tx_pegsTo_31 : decode m_Tx_pegsTo.2.1 31 = .ok (.aload_n 1, 1) := by decide +kernel
theorem d_Tx_pegsTo_32 : decode m_Tx_pegsTo.2.1 32 = .ok (.aload_n 0, 1) := by decide +kernel
theorem d_Tx_pegsTo_33 : decode m_Tx_pegsTo.2.1 33 = .ok (.getfield 9, 3) := by decide +kernel
theorem d_Tx_pegsTo_36 : decode m_Tx_pegsTo.2.1 36 = .ok (.iload_n 2, 1) := by decide +kernel
theorem d_Tx_pegsTo_37 : decode m_Tx_pegsTo.2.1 37 = .ok (.iconst 1, 1) := by decide +kernel
theorem d_Tx_pegsTo_38 : decode m_Tx_pegsTo.2.1 38 = .ok (.isub, 1) := by decide +kernel
theorem d_Tx_pegsTo_39 : decode m_Tx_pegsTo.2.1 39 = .ok (.iaload, 1) := by decide +kernel
theorem d_Tx_pegsTo_40 : decode m_Tx_pegsTo.2.1 40 = .ok (.bipush 48, 2) := by decide +kernel
theorem d_Tx_pegsTo_42 : decode m_Tx_pegsTo.2.1 42 = .ok (.isub, 1) := by decide +kernel
theorem d_Tx_pegsTo_43 : decode m_Tx_pegsTo.2.1 43 = .ok (.aload_n 0, 1) := by decide +kernel
theorem d_Tx_pegsTo_44 : decode m_Tx_pegsTo.2.1 44 = .ok (.getfield 9, 3) := by decide +kernel
theorem d_Tx_pegsTo_47 : decode m_Tx_pegsTo.2.1 47 = .ok (.iload_n 2, 1) := by decide +kernel
theorem d_Tx_pegsTo_48 : decode m_Tx_pegsTo.2.1 48 = .ok (.iaload, 1) := by decide +kernel
theorem d_Tx_pegsTo_49 : decode m_Tx_pegsTo.2.1 49 = .ok (.bipush 48, 2) := by decide +kernel
theorem d_Tx_pegsTo_51 : decode m_Tx_pegsTo.2.1 51 = .ok (.isub, 1) := by decide +kernel
theorem d_Tx_pegsTo_52 : decode m_Tx_pegsTo.2.1 52 = .ok (.invokevirtual 26, 3) := by decide +kernel
theorem d_Tx_pegsTo_55 : decode m_Tx_pegsTo.2.1 55 = .ok (.iinc 2 1, 3) := by decide +kernel
theorem d_Tx_pegsTo_58 : decode m_Tx_pegsTo.2.1 58 = .ok (.goto (-51), 3) := by decide +kernel
theorem d_Tx_pegsTo_61 : decode m_Tx_pegsTo.2.1 61 = .ok (.iload_n 2, 1) := by decide +kernel
theorem d_Tx_pegsTo_62 : decode m_Tx_pegsTo.2.1 62 = .ok (.aload_n 0, 1) := by decide +kernel
theorem d_Tx_pegsTo_63 : decode m_Tx_pegsTo.2.1 63 = .ok (.getfield 15, 3) := by decide +kernel
theorem d_Tx_pegsTo_66 : decode m_Tx_pegsTo.2.1 66 = .ok (.if_icmp .ne 22, 3) := by decide +kernel
theorem d_Tx_pegsTo_69 : decode m_Tx_pegsTo.2.1 69 = .ok (.aload_n 0, 1) := by decide +kernel
theorem d_Tx_pegsTo_70 : decode m_Tx_pegsTo.2.1 70 = .ok (.getfield 15, 3) := by decide +kernel
theorem d_Tx_pegsTo_73 : decode m_Tx_pegsTo.2.1 73 = .ok (.ifCond .eq 13, 3) := by decide +kernel
theorem d_Tx_pegsTo_76 : decode m_Tx_pegsTo.2.1 76 = .ok (.aload_n 0, 1) := by decide +kernel
theorem d_Tx_pegsTo_77 : decode m_Tx_pegsTo.2.1 77 = .ok (.getfield 15, 3) := by decide +kernel
theorem d_Tx_pegsTo_80 : decode m_Tx_pegsTo.2.1 80 = .ok (.iconst 3, 1) := by decide +kernel
theorem d_Tx_pegsTo_81 : decode m_Tx_pegsTo.2.1 81 = .ok (.irem, 1) := by decide +kernel
theorem d_Tx_pegsTo_82 : decode m_Tx_pegsTo.2.1 82 = .ok (.iconst 2, 1) := by decide +kernel
theorem d_Tx_pegsTo_83 : decode m_Tx_pegsTo.2.1 83 = .ok (.if_icmp .ne 5, 3) := by decide +kernel
theorem d_Tx_pegsTo_86 : decode m_Tx_pegsTo.2.1 86 = .ok (.iconst (-1), 1) := by decide +kernel
theorem d_Tx_pegsTo_87 : decode m_Tx_pegsTo.2.1 87 = .ok (.ireturn, 1) := by decide +kernel
theorem d_Tx_pegsTo_88 : decode m_Tx_pegsTo.2.1 88 = .ok (.aload_n 1, 1) := by decide +kernel
theorem d_Tx_pegsTo_89 : decode m_Tx_pegsTo.2.1 89 = .ok (.iconst 0, 1) := by decide +kernel
theorem d_Tx_pegsTo_90 : decode m_Tx_pegsTo.2.1 90 = .ok (.putfield 19, 3) := by decide +kernel
theorem d_Tx_pegsTo_93 : decode m_Tx_pegsTo.2.1 93 = .ok (.iload_n 2, 1) := by decide +kernel
theorem d_Tx_pegsTo_94 : decode m_Tx_pegsTo.2.1 94 = .ok (.ireturn, 1) := by decide +kernel
set_option maxHeartbeats 4000000 in
set_option maxRecDepth 20000 in
theorem Vl_Tx_pegsTo_7 (G : Gt) : ∀ (n : Nat) (a0 : Nat) (a1 : Nat) (x2 : Int32) (ha0 : isO 4 a0) (ha1 : isO 0 a1) (h : Hp), V G m_Tx_pegsTo 7 [(0, .ref (ad G a0)), (1, .ref (ad G a1)), (2, .int x2)] [] h κi (l_Tx_pegsTo_7 n a0 a1 x2 h) := by
  intro n
  induction n with
  | zero => intros; exact v_none
  | succ n ih =>
    intro a0 a1 x2 ha0 ha1 h
    rw [l_Tx_pegsTo_7]
    refine v_iload_n 2 d_Tx_pegsTo_7 rfl rfl ?_
    refine v_aload_n 0 d_Tx_pegsTo_8 rfl rfl ?_
    refine v_geti fl_Tx_15 ha0 rfl d_Tx_pegsTo_9 ?_
    refine v_icmp_ge 61 d_Tx_pegsTo_12 (by decide) (fun c1 => ?_) (fun c1 => ?_)
    · refine v_iload_n 2 d_Tx_pegsTo_61 rfl rfl ?_
      refine v_aload_n 0 d_Tx_pegsTo_62 rfl rfl ?_
      refine v_geti fl_Tx_15 ha0 rfl d_Tx_pegsTo_63 ?_
      refine v_icmp_ne 88 d_Tx_pegsTo_66 (by decide) (fun c2 => ?_) (fun c2 => ?_)
      · refine v_aload_n 0 d_Tx_pegsTo_69 rfl rfl ?_
        refine v_geti fl_Tx_15 ha0 rfl d_Tx_pegsTo_70 ?_
        refine v_if_eq 86 d_Tx_pegsTo_73 (by decide) (fun c3 => ?_) (fun c3 => ?_)
        · refine v_iconst (-1) d_Tx_pegsTo_86 rfl ?_
          exact v_iret rfl d_Tx_pegsTo_87
        · refine v_aload_n 0 d_Tx_pegsTo_76 rfl rfl ?_
          refine v_geti fl_Tx_15 ha0 rfl d_Tx_pegsTo_77 ?_
          refine v_iconst 3 d_Tx_pegsTo_80 rfl ?_
          refine v_irem (by decide) d_Tx_pegsTo_81 ?_
          refine v_iconst 2 d_Tx_pegsTo_82 rfl ?_
          refine v_icmp_ne 88 d_Tx_pegsTo_83 (by decide) (fun c4 => ?_) (fun c4 => ?_)
          · refine v_iconst (-1) d_Tx_pegsTo_86 rfl ?_
            exact v_iret rfl d_Tx_pegsTo_87
          · refine v_aload_n 1 d_Tx_pegsTo_88 rfl rfl ?_
            refine v_iconst 0 d_Tx_pegsTo_89 rfl ?_
            refine v_puti fl_Tx_19 ft_0_2 rfl rfl ha1 rfl d_Tx_pegsTo_90 ?_
            refine v_iload_n 2 d_Tx_pegsTo_93 rfl rfl ?_
            exact v_iret rfl d_Tx_pegsTo_94
      · refine v_aload_n 1 d_Tx_pegsTo_88 rfl rfl ?_
        refine v_iconst 0 d_Tx_pegsTo_89 rfl ?_
        refine v_puti fl_Tx_19 ft_0_2 rfl rfl ha1 rfl d_Tx_pegsTo_90 ?_
        refine v_iload_n 2 d_Tx_pegsTo_93 rfl rfl ?_
        exact v_iret rfl d_Tx_pegsTo_94
    · refine v_aload_n 0 d_Tx_pegsTo_15 rfl rfl ?_
      refine v_aload_n 1 d_Tx_pegsTo_16 rfl rfl ?_
      refine v_iload_n 2 d_Tx_pegsTo_17 rfl rfl ?_
      refine v_callVi (As := [.ref (ad G a1), .int x2]) (rest := []) (c_Tx_goesOn G a0 a1 x2 ha0 ha1 h) co_Tx_22 io_Tx_goesOn ha0 ⟨by decide, by decide⟩ rfl rfl (Nat.le_of_ble_eq_true rfl) d_Tx_pegsTo_18 (fun r5 h5 _ => ?_)
      refine v_if_eq 61 d_Tx_pegsTo_21 (by decide) (fun c6 => ?_) (fun c6 => ?_)
      · refine v_iload_n 2 d_Tx_pegsTo_61 rfl rfl ?_
        refine v_aload_n 0 d_Tx_pegsTo_62 rfl rfl ?_
        refine v_geti fl_Tx_15 ha0 rfl d_Tx_pegsTo_63 ?_
        refine v_icmp_ne 88 d_Tx_pegsTo_66 (by decide) (fun c7 => ?_) (fun c7 => ?_)
        · refine v_aload_n 0 d_Tx_pegsTo_69 rfl rfl ?_
          refine v_geti fl_Tx_15 ha0 rfl d_Tx_pegsTo_70 ?_
          refine v_if_eq 86 d_Tx_pegsTo_73 (by decide) (fun c8 => ?_) (fun c8 => ?_)
          · refine v_iconst (-1) d_Tx_pegsTo_86 rfl ?_
            exact v_iret rfl d_Tx_pegsTo_87
          · refine v_aload_n 0 d_Tx_pegsTo_76 rfl rfl ?_
            refine v_geti fl_Tx_15 ha0 rfl d_Tx_pegsTo_77 ?_
            refine v_iconst 3 d_Tx_pegsTo_80 rfl ?_
            refine v_irem (by decide) d_Tx_pegsTo_81 ?_
            refine v_iconst 2 d_Tx_pegsTo_82 rfl ?_
            refine v_icmp_ne 88 d_Tx_pegsTo_83 (by decide) (fun c9 => ?_) (fun c9 => ?_)
            · refine v_iconst (-1) d_Tx_pegsTo_86 rfl ?_
              exact v_iret rfl d_Tx_pegsTo_87
            · refine v_aload_n 1 d_Tx_pegsTo_88 rfl rfl ?_
              refine v_iconst 0 d_Tx_pegsTo_89 rfl ?_
              refine v_puti fl_Tx_19 ft_0_2 rfl rfl ha1 rfl d_Tx_pegsTo_90 ?_
              refine v_iload_n 2 d_Tx_pegsTo_93 rfl rfl ?_
              exact v_iret rfl d_Tx_pegsTo_94
        · refine v_aload_n 1 d_Tx_pegsTo_88 rfl rfl ?_
          refine v_iconst 0 d_Tx_pegsTo_89 rfl ?_
          refine v_puti fl_Tx_19 ft_0_2 rfl rfl ha1 rfl d_Tx_pegsTo_90 ?_
          refine v_iload_n 2 d_Tx_pegsTo_93 rfl rfl ?_
          exact v_iret rfl d_Tx_pegsTo_94
      · refine v_iload_n 2 d_Tx_pegsTo_24 rfl rfl ?_
        refine v_iconst 3 d_Tx_pegsTo_25 rfl ?_
        refine v_irem (by decide) d_Tx_pegsTo_26 ?_
        refine v_iconst 1 d_Tx_pegsTo_27 rfl ?_
        refine v_icmp_ne 55 d_Tx_pegsTo_28 (by decide) (fun c10 => ?_) (fun c10 => ?_)
        · refine v_aload_n 1 d_Tx_pegsTo_31 rfl rfl ?_
          refine v_aload_n 0 d_Tx_pegsTo_32 rfl rfl ?_
          refine v_getr (a0 + 1) fl_Tx_9 ha0 rfl rfl d_Tx_pegsTo_33 ?_
          refine v_iload_n 2 d_Tx_pegsTo_36 rfl rfl ?_
          refine v_iconst 1 d_Tx_pegsTo_37 rfl ?_
          refine v_isub d_Tx_pegsTo_38 ?_
          refine v_iald (txA ha0) d_Tx_pegsTo_39 ?_
          refine v_bipush 48 d_Tx_pegsTo_40 rfl ?_
          refine v_isub d_Tx_pegsTo_42 ?_
          refine v_aload_n 0 d_Tx_pegsTo_43 rfl rfl ?_
          refine v_getr (a0 + 1) fl_Tx_9 ha0 rfl rfl d_Tx_pegsTo_44 ?_
          refine v_iload_n 2 d_Tx_pegsTo_47 rfl rfl ?_
          refine v_iald (txA ha0) d_Tx_pegsTo_48 ?_
          refine v_bipush 48 d_Tx_pegsTo_49 rfl ?_
          refine v_isub d_Tx_pegsTo_51 ?_
          refine v_callVv (As := [.int ((h5 (a0 + 1) (ix (x2 - 1))) - 48), .int ((h5 (a0 + 1) (ix x2)) - 48)]) (rest := []) (c_Fr_add G a1 ((h5 (a0 + 1) (ix (x2 - 1))) - 48) ((h5 (a0 + 1) (ix x2)) - 48) ha1 h5) co_Tx_26 io_Fr_add ha1 ⟨by decide, by decide⟩ rfl rfl (Nat.le_of_ble_eq_true rfl) d_Tx_pegsTo_52 (fun _ h11 _ => ?_)
          refine v_iinc (x2 + 1) 2 [(2, .int (x2 + 1)), (0, .ref (ad G a0)), (1, .ref (ad G a1))] d_Tx_pegsTo_55 rfl rfl (by decide) rfl ?_
          refine v_goto 7 d_Tx_pegsTo_58 (by decide) ?_
          exact v_sub [1, 2, 0] rfl (ih a0 a1 (x2 + 1) ha0 ha1 h11)
        · refine v_iinc (x2 + 1) 2 [(2, .int (x2 + 1)), (0, .ref (ad G a0)), (1, .ref (ad G a1))] d_Tx_pegsTo_55 rfl rfl (by decide) rfl ?_
          refine v_goto 7 d_Tx_pegsTo_58 (by decide) ?_
          exact v_sub [1, 2, 0] rfl (ih a0 a1 (x2 + 1) ha0 ha1 h5)
set_option maxHeartbeats 4000000 in
set_option maxRecDepth 20000 in
theorem c_Tx_pegsTo (G : Gt) (a0 : Nat) (a1 : Nat) (ha0 : isO 4 a0) (ha1 : isO 0 a1) (h : Hp) : Cn G m_Tx_pegsTo [.ref (ad G a0), .ref (ad G a1)] h κi (f_Tx_pegsTo a0 a1 h) := by
  refine entryV (by decide) (Nat.le_of_ble_eq_true rfl) rfl ?_
  show V G m_Tx_pegsTo 0 [(0, .ref (ad G a0)), (1, .ref (ad G a1))] [] h κi _
  unfold f_Tx_pegsTo
  refine v_aload_n 1 d_Tx_pegsTo_0 rfl rfl ?_
  refine v_iconst 0 d_Tx_pegsTo_1 rfl ?_
  refine v_puti fl_Tx_19 ft_0_2 rfl rfl ha1 rfl d_Tx_pegsTo_2 ?_
  refine v_iconst 0 d_Tx_pegsTo_5 rfl ?_
  refine v_istore_n [(2, .int 0), (0, .ref (ad G a0)), (1, .ref (ad G a1))] d_Tx_pegsTo_6 rfl (by decide) rfl ?_
  exact v_sub [1, 2, 0] rfl (Vl_Tx_pegsTo_7 G FUEL a0 a1 0 ha0 ha1 (hset h a1 2 0))
theorem d_C_type_0 : decode m_C_type.2.1 0 = .ok (.iload_n 1, 1) := by decide +kernel
theorem d_C_type_1 : decode m_C_type.2.1 1 = .ok (.ifCond .lt 10, 3) := by decide +kernel
theorem d_C_type_4 : decode m_C_type.2.1 4 = .ok (.iload_n 1, 1) := by decide +kernel
theorem d_C_type_5 : decode m_C_type.2.1 5 = .ok (.sipush 255, 3) := by decide +kernel
theorem d_C_type_8 : decode m_C_type.2.1 8 = .ok (.if_icmp .le 6, 3) := by decide +kernel
theorem d_C_type_11 : decode m_C_type.2.1 11 = .ok (.bipush (-2), 2) := by decide +kernel
theorem d_C_type_13 : decode m_C_type.2.1 13 = .ok (.ireturn, 1) := by decide +kernel
theorem d_C_type_14 : decode m_C_type.2.1 14 = .ok (.aload_n 0, 1) := by decide +kernel
theorem d_C_type_15 : decode m_C_type.2.1 15 = .ok (.getfield 10, 3) := by decide +kernel
theorem d_C_type_18 : decode m_C_type.2.1 18 = .ok (.getfield 66, 3) := by decide +kernel
theorem d_C_type_21 : decode m_C_type.2.1 21 = .ok (.bipush 40, 2) := by decide +kernel
theorem d_C_type_23 : decode m_C_type.2.1 23 = .ok (.if_icmp .lt 6, 3) := by decide +kernel
theorem d_C_type_26 : decode m_C_type.2.1 26 = .ok (.bipush (-4), 2) := by decide +kernel
theorem d_C_type_28 : decode m_C_type.2.1 28 = .ok (.ireturn, 1) := by decide +kernel
theorem d_C_type_29 : decode m_C_type.2.1 29 = .ok (.aload_n 0, 1) := by decide +kernel
theorem d_C_type_30 : decode m_C_type.2.1 30 = .ok (.getfield 10, 3) := by decide +kernel
theorem d_C_type_33 : decode m_C_type.2.1 33 = .ok (.iload_n 1, 1) := by decide +kernel
theorem d_C_type_34 : decode m_C_type.2.1 34 = .ok (.invokevirtual 69, 3) := by decide +kernel
theorem d_C_type_37 : decode m_C_type.2.1 37 = .ok (.aload_n 0, 1) := by decide +kernel
theorem d_C_type_38 : decode m_C_type.2.1 38 = .ok (.aload_n 0, 1) := by decide +kernel
theorem d_C_type_39 : decode m_C_type.2.1 39 = .ok (.getfield 10, 3) := by decide +kernel
theorem d_C_type_42 : decode m_C_type.2.1 42 = .ok (.aload_n 0, 1) := by decide +kernel
theorem d_C_type_43 : decode m_C_type.2.1 43 = .ok (.getfield 19, 3) := by decide +kernel
theorem d_C_type_46 : decode m_C_type.2.1 46 = .ok (.invokevirtual 73, 3) := by decide +kernel
theorem d_C_type_49 : decode m_C_type.2.1 49 = .ok (.putfield 45, 3) := by decide +kernel
theorem d_C_type_52 : decode m_C_type.2.1 52 = .ok (.aload_n 0, 1) := by decide +kernel
theorem d_C_type_53 : decode m_C_type.2.1 53 = .ok (.getfield 10, 3) := by decide +kernel
theorem d_C_type_56 : decode m_C_type.2.1 56 = .ok (.getfield 66, 3) := by decide +kernel
theorem d_C_type_59 : decode m_C_type.2.1 59 = .ok (.ireturn, 1) := by decide +kernel
set_option maxHeartbeats 4000000 in
set_option maxRecDepth 20000 in
theorem c_C_type (G : Gt) (x1 : Int32) (h : Hp) : Cn G m_C_type [.ref (ad G 0), .int x1] h κi (f_C_type x1 h) := by
  refine entryV (by decide) (Nat.le_of_ble_eq_true rfl) rfl ?_
  show V G m_C_type 0 [(0, .ref (ad G 0)), (1, .int x1)] [] h κi _
  unfold f_C_type
  refine v_iload_n 1 d_C_type_0 rfl rfl ?_
  refine v_if_lt 11 d_C_type_1 (by decide) (fun c1 => ?_) (fun c1 => ?_)
  · refine v_bipush (-2) d_C_type_11 rfl ?_
    exact v_iret rfl d_C_type_13
  · refine v_iload_n 1 d_C_type_4 rfl rfl ?_
    refine v_sipush 255 d_C_type_5 rfl ?_
    refine v_icmp_le 14 d_C_type_8 (by decide) (fun c2 => ?_) (fun c2 => ?_)
    · refine v_aload_n 0 d_C_type_14 rfl rfl ?_
      refine v_getr 1 fl_C_10 o_0 rfl rfl d_C_type_15 ?_
      refine v_geti fl_C_66 o_1 rfl d_C_type_18 ?_
      refine v_bipush 40 d_C_type_21 rfl ?_
      refine v_icmp_lt 29 d_C_type_23 (by decide) (fun c3 => ?_) (fun c3 => ?_)
      · refine v_aload_n 0 d_C_type_29 rfl rfl ?_
        refine v_getr 1 fl_C_10 o_0 rfl rfl d_C_type_30 ?_
        refine v_iload_n 1 d_C_type_33 rfl rfl ?_
        refine v_callVv (As := [.int x1]) (rest := []) (c_Tx_append G 1 x1 o_1 h) co_C_69 io_Tx_append o_1 ⟨by decide, by decide⟩ rfl rfl (Nat.le_of_ble_eq_true rfl) d_C_type_34 (fun _ h4 _ => ?_)
        refine v_aload_n 0 d_C_type_37 rfl rfl ?_
        refine v_aload_n 0 d_C_type_38 rfl rfl ?_
        refine v_getr 1 fl_C_10 o_0 rfl rfl d_C_type_39 ?_
        refine v_aload_n 0 d_C_type_42 rfl rfl ?_
        refine v_getr 3 fl_C_19 o_0 rfl rfl d_C_type_43 ?_
        refine v_callVi (As := [.ref (ad G 3)]) (rest := [.ref (ad G 0)]) (c_Tx_pegsTo G 1 3 o_1 o_3 h4) co_C_73 io_Tx_pegsTo o_1 ⟨by decide, by decide⟩ rfl rfl (Nat.le_of_ble_eq_true rfl) d_C_type_46 (fun r5 h5 _ => ?_)
        refine v_puti fl_C_45 ft_5_6 rfl rfl o_0 rfl d_C_type_49 ?_
        refine v_aload_n 0 d_C_type_52 rfl rfl ?_
        refine v_getr 1 fl_C_10 o_0 rfl rfl d_C_type_53 ?_
        refine v_geti fl_C_66 o_1 rfl d_C_type_56 ?_
        exact v_iret rfl d_C_type_59
      · refine v_bipush (-4) d_C_type_26 rfl ?_
        exact v_iret rfl d_C_type_28
    · refine v_bipush (-2) d_C_type_11 rfl ?_
      exact v_iret rfl d_C_type_13
theorem d_Tx_shorten_0 : decode m_Tx_shorten.2.1 0 = .ok (.iload_n 1, 1) := by decide +kernel
theorem d_Tx_shorten_1 : decode m_Tx_shorten.2.1 1 = .ok (.ifCond .lt 16, 3) := by decide +kernel
theorem d_Tx_shorten_4 : decode m_Tx_shorten.2.1 4 = .ok (.iload_n 1, 1) := by decide +kernel
theorem d_Tx_shorten_5 : decode m_Tx_shorten.2.1 5 = .ok (.aload_n 0, 1) := by decide +kernel
theorem d_Tx_shorten_6 : decode m_Tx_shorten.2.1 6 = .ok (.getfield 15, 3) := by decide +kernel
theorem d_Tx_shorten_9 : decode m_Tx_shorten.2.1 9 = .ok (.if_icmp .ge 8, 3) := by decide +kernel
theorem d_Tx_shorten_12 : decode m_Tx_shorten.2.1 12 = .ok (.aload_n 0, 1) := by decide +kernel
theorem d_Tx_shorten_13 : decode m_Tx_shorten.2.1 13 = .ok (.iload_n 1, 1) := by decide +kernel
theorem d_Tx_shorten_14 : decode m_Tx_shorten.2.1 14 = .ok (.putfield 15, 3) := by decide +kernel
theorem d_Tx_shorten_17 : decode m_Tx_shorten.2.1 17 = .ok (.return_, 1) := by decide +kernel
set_option maxHeartbeats 4000000 in
set_option maxRecDepth 20000 in
theorem c_Tx_shorten (G : Gt) (a0 : Nat) (x1 : Int32) (ha0 : isO 4 a0) (h : Hp) : Cn G m_Tx_shorten [.ref (ad G a0), .int x1] h κv (f_Tx_shorten a0 x1 h) := by
  refine entryV (by decide) (Nat.le_of_ble_eq_true rfl) rfl ?_
  show V G m_Tx_shorten 0 [(0, .ref (ad G a0)), (1, .int x1)] [] h κv _
  unfold f_Tx_shorten
  refine v_iload_n 1 d_Tx_shorten_0 rfl rfl ?_
  refine v_if_lt 17 d_Tx_shorten_1 (by decide) (fun c1 => ?_) (fun c1 => ?_)
  · exact v_vret rfl d_Tx_shorten_17
  · refine v_iload_n 1 d_Tx_shorten_4 rfl rfl ?_
    refine v_aload_n 0 d_Tx_shorten_5 rfl rfl ?_
    refine v_geti fl_Tx_15 ha0 rfl d_Tx_shorten_6 ?_
    refine v_icmp_ge 17 d_Tx_shorten_9 (by decide) (fun c2 => ?_) (fun c2 => ?_)
    · exact v_vret rfl d_Tx_shorten_17
    · refine v_aload_n 0 d_Tx_shorten_12 rfl rfl ?_
      refine v_iload_n 1 d_Tx_shorten_13 rfl rfl ?_
      refine v_puti fl_Tx_15 ft_4_1 rfl rfl ha0 rfl d_Tx_shorten_14 ?_
      exact v_vret rfl d_Tx_shorten_17
theorem d_C_wipe_0 : decode m_C_wipe.2.1 0 = .ok (.aload_n 0, 1) := by decide +kernel
theorem d_C_wipe_1 : decode m_C_wipe.2.1 1 = .ok (.getfield 10, 3) := by decide +kernel
theorem d_C_wipe_4 : decode m_C_wipe.2.1 4 = .ok (.getfield 66, 3) := by decide +kernel
theorem d_C_wipe_7 : decode m_C_wipe.2.1 7 = .ok (.istore_n 1, 1) := by decide +kernel
theorem d_C_wipe_8 : decode m_C_wipe.2.1 8 = .ok (.aload_n 0, 1) := by decide +kernel
theorem d_C_wipe_9 : decode m_C_wipe.2.1 9 = .ok (.getfield 10, 3) := by decide +kernel
theorem d_C_wipe_12 : decode m_C_wipe.2.1 12 = .ok (.iconst 0, 1) := by decide +kernel
theorem d_C_wipe_13 : decode m_C_wipe.2.1 13 = .ok (.invokevirtual 77, 3) := by decide +kernel
theorem d_C_wipe_16 : decode m_C_wipe.2.1 16 = .ok (.aload_n 0, 1) := by decide +kernel
theorem d_C_wipe_17 : decode m_C_wipe.2.1 17 = .ok (.aload_n 0, 1) := by decide +kernel
theorem d_C_wipe_18 : decode m_C_wipe.2.1 18 = .ok (.getfield 10, 3) := by decide +kernel
theorem d_C_wipe_21 : decode m_C_wipe.2.1 21 = .ok (.aload_n 0, 1) := by decide +kernel
theorem d_C_wipe_22 : decode m_C_wipe.2.1 22 = .ok (.getfield 19, 3) := by decide +kernel
theorem d_C_wipe_25 : decode m_C_wipe.2.1 25 = .ok (.invokevirtual 73, 3) := by decide +kernel
theorem d_C_wipe_28 : decode m_C_wipe.2.1 28 = .ok (.putfield 45, 3) := by decide +kernel
theorem d_C_wipe_31 : decode m_C_wipe.2.1 31 = .ok (.iload_n 1, 1) := by decide +kernel
theorem d_C_wipe_32 : decode m_C_wipe.2.1 32 = .ok (.ireturn, 1) := by decide +kernel
set_option maxHeartbeats 4000000 in
set_option maxRecDepth 20000 in
theorem c_C_wipe (G : Gt) (h : Hp) : Cn G m_C_wipe [.ref (ad G 0)] h κi (f_C_wipe h) := by
  refine entryV (by decide) (Nat.le_of_ble_eq_true rfl) rfl ?_
  show V G m_C_wipe 0 [(0, .ref (ad G 0))] [] h κi _
  unfold f_C_wipe
  refine v_aload_n 0 d_C_wipe_0 rfl rfl ?_
  refine v_getr 1 fl_C_10 o_0 rfl rfl d_C_wipe_1 ?_
  refine v_geti fl_C_66 o_1 rfl d_C_wipe_4 ?_
  refine v_istore_n [(1, .int (h 1 1)), (0, .ref (ad G 0))] d_C_wipe_7 rfl (by decide) rfl ?_
  refine v_aload_n 1 d_C_wipe_8 rfl rfl ?_
  refine v_getr 1 fl_C_10 o_0 rfl rfl d_C_wipe_9 ?_
  refine v_iconst 0 d_C_wipe_12 rfl ?_
  refine v_callVv (As := [.int 0]) (rest := []) (c_Tx_shorten G 1 0 o_1 h) co_C_77 io_Tx_shorten o_1 ⟨by decide, by decide⟩ rfl rfl (Nat.le_of_ble_eq_true rfl) d_C_wipe_13 (fun _ h1 _ => ?_)
  refine v_aload_n 1 d_C_wipe_16 rfl rfl ?_
  refine v_aload_n 1 d_C_wipe_17 rfl rfl ?_
  refine v_getr 1 fl_C_10 o_0 rfl rfl d_C_wipe_18 ?_
  refine v_aload_n 1 d_C_wipe_21 rfl rfl ?_
  refine v_getr 3 fl_C_19 o_0 rfl rfl d_C_wipe_22 ?_
  refine v_callVi (As := [.ref (ad G 3)]) (rest := [.ref (ad G 0)]) (c_Tx_pegsTo G 1 3 o_1 o_3 h1) co_C_73 io_Tx_pegsTo o_1 ⟨by decide, by decide⟩ rfl rfl (Nat.le_of_ble_eq_true rfl) d_C_wipe_25 (fun r2 h2 _ => ?_)
  refine v_puti fl_C_45 ft_5_6 rfl rfl o_0 rfl d_C_wipe_28 ?_
  refine v_iload_n 0 d_C_wipe_31 rfl rfl ?_
  exact v_iret rfl d_C_wipe_32
theorem d_C_undo_0 : decode m_C_undo.2.1 0 = .ok (.aload_n 0, 1) := by decide +kernel
theorem d_C_undo_1 : decode m_C_undo.2.1 1 = .ok (.getfield 10, 3) := by decide +kernel
theorem d_C_undo_4 : decode m_C_undo.2.1 4 = .ok (.getfield 66, 3) := by decide +kernel
theorem d_C_undo_7 : decode m_C_undo.2.1 7 = .ok (.ifCond .gt 6, 3) := by decide +kernel
theorem d_C_undo_10 : decode m_C_undo.2.1 10 = .ok (.bipush (-3), 2) := by decide +kernel
theorem d_C_undo_12 : decode m_C_undo.2.1 12 = .ok (.ireturn, 1) := by decide +kernel
theorem d_C_undo_13 : decode m_C_undo.2.1 13 = .ok (.aload_n 0, 1) := by decide +kernel
theorem d_C_undo_14 : decode m_C_undo.2.1 14 = .ok (.getfield 10, 3) := by decide +kernel
theorem d_C_undo_17 : decode m_C_undo.2.1 17 = .ok (.aload_n 0, 1) := by decide +kernel
theorem d_C_undo_18 : decode m_C_undo.2.1 18 = .ok (.getfield 10, 3) := by decide +kernel
theorem d_C_undo_21 : decode m_C_undo.2.1 21 = .ok (.getfield 66, 3) := by decide +kernel
theorem d_C_undo_24 : decode m_C_undo.2.1 24 = .ok (.iconst 1, 1) := by decide +kernel
theorem d_C_undo_25 : decode m_C_undo.2.1 25 = .ok (.isub, 1) := by decide +kernel
theorem d_C_undo_26 : decode m_C_undo.2.1 26 = .ok (.invokevirtual 77, 3) := by decide +kernel
theorem d_C_undo_29 : decode m_C_undo.2.1 29 = .ok (.aload_n 0, 1) := by decide +kernel
theorem d_C_undo_30 : decode m_C_undo.2.1 30 = .ok (.aload_n 0, 1) := by decide +kernel
theorem d_C_undo_31 : decode m_C_undo.2.1 31 = .ok (.getfield 10, 3) := by decide +kernel
theorem d_C_undo_34 : decode m_C_undo.2.1 34 = .ok (.aload_n 0, 1) := by decide +kernel
theorem d_C_undo_35 : decode m_C_undo.2.1 35 = .ok (.getfield 19, 3) := by decide +kernel
theorem d_C_undo_38 : decode m_C_undo.2.1 38 = .ok (.invokevirtual 73, 3) := by decide +kernel
theorem d_C_undo_41 : decode m_C_undo.2.1 41 = .ok (.putfield 45, 3) := by decide +kernel
theorem d_C_undo_44 : decode m_C_undo.2.1 44 = .ok (.aload_n 0, 1) := by decide +kernel
theorem d_C_undo_45 : decode m_C_undo.2.1 45 = .ok (.getfield 10, 3) := by decide +kernel
theorem d_C_undo_48 : decode m_C_undo.2.1 48 = .ok (.getfield 66, 3) := by decide +kernel
theorem d_C_undo_51 : decode m_C_undo.2.1 51 = .ok (.ireturn, 1) := by decide +kernel
set_option maxHeartbeats 4000000 in
set_option maxRecDepth 20000 in
theorem c_C_undo (G : Gt) (h : Hp) : Cn G m_C_undo [.ref (ad G 0)] h κi (f_C_undo h) := by
  refine entryV (by decide) (Nat.le_of_ble_eq_true rfl) rfl ?_
  show V G m_C_undo 0 [(0, .ref (ad G 0))] [] h κi _
  unfold f_C_undo
  refine v_aload_n 0 d_C_undo_0 rfl rfl ?_
  refine v_getr 1 fl_C_10 o_0 rfl rfl d_C_undo_1 ?_
  refine v_geti fl_C_66 o_1 rfl d_C_undo_4 ?_
  refine v_if_gt 13 d_C_undo_7 (by decide) (fun c1 => ?_) (fun c1 => ?_)
  · refine v_aload_n 0 d_C_undo_13 rfl rfl ?_
    refine v_getr 1 fl_C_10 o_0 rfl rfl d_C_undo_14 ?_
    refine v_aload_n 0 d_C_undo_17 rfl rfl ?_
    refine v_getr 1 fl_C_10 o_0 rfl rfl d_C_undo_18 ?_
    refine v_geti fl_C_66 o_1 rfl d_C_undo_21 ?_
    refine v_iconst 1 d_C_undo_24 rfl ?_
    refine v_isub d_C_undo_25 ?_
    refine v_callVv (As := [.int ((h 1 1) - 1)]) (rest := []) (c_Tx_shorten G 1 ((h 1 1) - 1) o_1 h) co_C_77 io_Tx_shorten o_1 ⟨by decide, by decide⟩ rfl rfl (Nat.le_of_ble_eq_true rfl) d_C_undo_26 (fun _ h2 _ => ?_)
    refine v_aload_n 0 d_C_undo_29 rfl rfl ?_
    refine v_aload_n 0 d_C_undo_30 rfl rfl ?_
    refine v_getr 1 fl_C_10 o_0 rfl rfl d_C_undo_31 ?_
    refine v_aload_n 0 d_C_undo_34 rfl rfl ?_
    refine v_getr 3 fl_C_19 o_0 rfl rfl d_C_undo_35 ?_
    refine v_callVi (As := [.ref (ad G 3)]) (rest := [.ref (ad G 0)]) (c_Tx_pegsTo G 1 3 o_1 o_3 h2) co_C_73 io_Tx_pegsTo o_1 ⟨by decide, by decide⟩ rfl rfl (Nat.le_of_ble_eq_true rfl) d_C_undo_38 (fun r3 h3 _ => ?_)
    refine v_puti fl_C_45 ft_5_6 rfl rfl o_0 rfl d_C_undo_41 ?_
    refine v_aload_n 0 d_C_undo_44 rfl rfl ?_
    refine v_getr 1 fl_C_10 o_0 rfl rfl d_C_undo_45 ?_
    refine v_geti fl_C_66 o_1 rfl d_C_undo_48 ?_
    exact v_iret rfl d_C_undo_51
  · refine v_bipush (-3) d_C_undo_10 rfl ?_
    exact v_iret rfl d_C_undo_12
theorem d_C_fault_0 : decode m_C_fault.2.1 0 = .ok (.aload_n 0, 1) := by decide +kernel
theorem d_C_fault_1 : decode m_C_fault.2.1 1 = .ok (.getfield 45, 3) := by decide +kernel
theorem d_C_fault_4 : decode m_C_fault.2.1 4 = .ok (.ireturn, 1) := by decide +kernel
set_option maxHeartbeats 4000000 in
set_option maxRecDepth 20000 in
theorem c_C_fault (G : Gt) (h : Hp) : Cn G m_C_fault [.ref (ad G 0)] h κi (f_C_fault h) := by
  refine entryV (by decide) (Nat.le_of_ble_eq_true rfl) rfl ?_
  show V G m_C_fault 0 [(0, .ref (ad G 0))] [] h κi _
  unfold f_C_fault
  refine v_aload_n 0 d_C_fault_0 rfl rfl ?_
  refine v_geti fl_C_45 o_0 rfl d_C_fault_1 ?_
  exact v_iret rfl d_C_fault_4
theorem d_Fr_has_0 : decode m_Fr_has.2.1 0 = .ok (.iload_n 1, 1) := by decide +kernel
theorem d_Fr_has_1 : decode m_Fr_has.2.1 1 = .ok (.ifCond .lt 15, 3) := by decide +kernel
theorem d_Fr_has_4 : decode m_Fr_has.2.1 4 = .ok (.iload_n 1, 1) := by decide +kernel
theorem d_Fr_has_5 : decode m_Fr_has.2.1 5 = .ok (.aload_n 0, 1) := by decide +kernel
theorem d_Fr_has_6 : decode m_Fr_has.2.1 6 = .ok (.getfield 18, 3) := by decide +kernel
theorem d_Fr_has_9 : decode m_Fr_has.2.1 9 = .ok (.if_icmp .ge 7, 3) := by decide +kernel
theorem d_Fr_has_12 : decode m_Fr_has.2.1 12 = .ok (.iconst 1, 1) := by decide +kernel
theorem d_Fr_has_13 : decode m_Fr_has.2.1 13 = .ok (.goto 4, 3) := by decide +kernel
theorem d_Fr_has_16 : decode m_Fr_has.2.1 16 = .ok (.iconst 0, 1) := by decide +kernel
theorem d_Fr_has_17 : decode m_Fr_has.2.1 17 = .ok (.ireturn, 1) := by decide +kernel
set_option maxHeartbeats 4000000 in
set_option maxRecDepth 20000 in
theorem c_Fr_has (G : Gt) (a0 : Nat) (x1 : Int32) (ha0 : isO 0 a0) (h : Hp) : Cn G m_Fr_has [.ref (ad G a0), .int x1] h κi (f_Fr_has a0 x1 h) := by
  refine entryV (by decide) (Nat.le_of_ble_eq_true rfl) rfl ?_
  show V G m_Fr_has 0 [(0, .ref (ad G a0)), (1, .int x1)] [] h κi _
  unfold f_Fr_has
  refine v_iload_n 1 d_Fr_has_0 rfl rfl ?_
  refine v_if_lt 16 d_Fr_has_1 (by decide) (fun c1 => ?_) (fun c1 => ?_)
  · refine v_iconst 0 d_Fr_has_16 rfl ?_
    exact v_zretL rfl rfl d_Fr_has_17
  · refine v_iload_n 1 d_Fr_has_4 rfl rfl ?_
    refine v_aload_n 0 d_Fr_has_5 rfl rfl ?_
    refine v_geti fl_Fr_18 ha0 rfl d_Fr_has_6 ?_
    refine v_icmp_ge 16 d_Fr_has_9 (by decide) (fun c2 => ?_) (fun c2 => ?_)
    · refine v_iconst 0 d_Fr_has_16 rfl ?_
      exact v_zretL rfl rfl d_Fr_has_17
    · refine v_iconst 1 d_Fr_has_12 rfl ?_
      refine v_goto 17 d_Fr_has_13 (by decide) ?_
      exact v_zretL rfl rfl d_Fr_has_17
theorem d_C_isHidden_0 : decode m_C_isHidden.2.1 0 = .ok (.aload_n 0, 1) := by decide +kernel
theorem d_C_isHidden_1 : decode m_C_isHidden.2.1 1 = .ok (.getfield 49, 3) := by decide +kernel
theorem d_C_isHidden_4 : decode m_C_isHidden.2.1 4 = .ok (.iload_n 1, 1) := by decide +kernel
theorem d_C_isHidden_5 : decode m_C_isHidden.2.1 5 = .ok (.ishr, 1) := by decide +kernel
theorem d_C_isHidden_6 : decode m_C_isHidden.2.1 6 = .ok (.iconst 1, 1) := by decide +kernel
theorem d_C_isHidden_7 : decode m_C_isHidden.2.1 7 = .ok (.iand, 1) := by decide +kernel
theorem d_C_isHidden_8 : decode m_C_isHidden.2.1 8 = .ok (.iconst 1, 1) := by decide +kernel
theorem d_C_isHidden_9 : decode m_C_isHidden.2.1 9 = .ok (.if_icmp .ne 7, 3) := by decide +kernel
theorem d_C_isHidden_12 : decode m_C_isHidden.2.1 12 = .ok (.iconst 1, 1) := by decide +kernel
theorem d_C_isHidden_13 : decode m_C_isHidden.2.1 13 = .ok (.goto 4, 3) := by decide +kernel
theorem d_C_isHidden_16 : decode m_C_isHidden.2.1 16 = .ok (.iconst 0, 1) := by decide +kernel
theorem d_C_isHidden_17 : decode m_C_isHidden.2.1 17 = .ok (.ireturn, 1) := by decide +kernel
set_option maxHeartbeats 4000000 in
set_option maxRecDepth 20000 in
theorem c_C_isHidden (G : Gt) (x1 : Int32) (h : Hp) : Cn G m_C_isHidden [.ref (ad G 0), .int x1] h κi (f_C_isHidden x1 h) := by
  refine entryV (by decide) (Nat.le_of_ble_eq_true rfl) rfl ?_
  show V G m_C_isHidden 0 [(0, .ref (ad G 0)), (1, .int x1)] [] h κi _
  unfold f_C_isHidden
  refine v_aload_n 0 d_C_isHidden_0 rfl rfl ?_
  refine v_geti fl_C_49 o_0 rfl d_C_isHidden_1 ?_
  refine v_iload_n 1 d_C_isHidden_4 rfl rfl ?_
  refine v_ishr d_C_isHidden_5 ?_
  refine v_iconst 1 d_C_isHidden_6 rfl ?_
  refine v_iand d_C_isHidden_7 ?_
  refine v_iconst 1 d_C_isHidden_8 rfl ?_
  refine v_icmp_ne 16 d_C_isHidden_9 (by decide) (fun c1 => ?_) (fun c1 => ?_)
  · refine v_iconst 1 d_C_isHidden_12 rfl ?_
    refine v_goto 17 d_C_isHidden_13 (by decide) ?_
    exact v_zretL rfl rfl d_C_isHidden_17
  · refine v_iconst 0 d_C_isHidden_16 rfl ?_
    exact v_zretL rfl rfl d_C_isHidden_17
theorem d_C_peg_0 : decode m_C_peg.2.1 0 = .ok (.aload_n 0, 1) := by decide +kernel
theorem d_C_peg_1 : decode m_C_peg.2.1 1 = .ok (.getfield 19, 3) := by decide +kernel
theorem d_C_peg_4 : decode m_C_peg.2.1 4 = .ok (.iload_n 1, 1) := by decide +kernel
theorem d_C_peg_5 : decode m_C_peg.2.1 5 = .ok (.invokevirtual 80, 3) := by decide +kernel
theorem d_C_peg_8 : decode m_C_peg.2.1 8 = .ok (.ifCond .ne 6, 3) := by decide +kernel
theorem d_C_peg_11 : decode m_C_peg.2.1 11 = .ok (.bipush (-2), 2) := by decide +kernel
theorem d_C_peg_13 : decode m_C_peg.2.1 13 = .ok (.ireturn, 1) := by decide +kernel
theorem d_C_peg_14 : decode m_C_peg.2.1 14 = .ok (.iload_n 2, 1) := by decide +kernel
theorem d_C_peg_15 : decode m_C_peg.2.1 15 = .ok (.tableswitch 59 0 2 #[25, 35, 45], 25) := by decide +kernel
theorem d_C_peg_40 : decode m_C_peg.2.1 40 = .ok (.aload_n 0, 1) := by decide +kernel
theorem d_C_peg_41 : decode m_C_peg.2.1 41 = .ok (.getfield 19, 3) := by decide +kernel
theorem d_C_peg_44 : decode m_C_peg.2.1 44 = .ok (.getfield 84, 3) := by decide +kernel
theorem d_C_peg_47 : decode m_C_peg.2.1 47 = .ok (.iload_n 1, 1) := by decide +kernel
theorem d_C_peg_48 : decode m_C_peg.2.1 48 = .ok (.iaload, 1) := by decide +kernel
theorem d_C_peg_49 : decode m_C_peg.2.1 49 = .ok (.ireturn, 1) := by decide +kernel
theorem d_C_peg_50 : decode m_C_peg.2.1 50 = .ok (.aload_n 0, 1) := by decide +kernel
theorem d_C_peg_51 : decode m_C_peg.2.1 51 = .ok (.getfield 19, 3) := by decide +kernel
theorem d_C_peg_54 : decode m_C_peg.2.1 54 = .ok (.getfield 88, 3) := by decide +kernel
theorem d_C_peg_57 : decode m_C_peg.2.1 57 = .ok (.iload_n 1, 1) := by decide +kernel
theorem d_C_peg_58 : decode m_C_peg.2.1 58 = .ok (.iaload, 1) := by decide +kernel
theorem d_C_peg_59 : decode m_C_peg.2.1 59 = .ok (.ireturn, 1) := by decide +kernel
theorem d_C_peg_60 : decode m_C_peg.2.1 60 = .ok (.aload_n 0, 1) := by decide +kernel
theorem d_C_peg_61 : decode m_C_peg.2.1 61 = .ok (.iload_n 1, 1) := by decide +kernel
theorem d_C_peg_62 : decode m_C_peg.2.1 62 = .ok (.invokevirtual 91, 3) := by decide +kernel
theorem d_C_peg_65 : decode m_C_peg.2.1 65 = .ok (.ifCond .eq 7, 3) := by decide +kernel
theorem d_C_peg_68 : decode m_C_peg.2.1 68 = .ok (.iconst 1, 1) := by decide +kernel
theorem d_C_peg_69 : decode m_C_peg.2.1 69 = .ok (.goto 4, 3) := by decide +kernel
theorem d_C_peg_72 : decode m_C_peg.2.1 72 = .ok (.iconst 0, 1) := by decide +kernel
theorem d_C_peg_73 : decode m_C_peg.2.1 73 = .ok (.ireturn, 1) := by decide +kernel
theorem d_C_peg_74 : decode m_C_peg.2.1 74 = .ok (.bipush (-2), 2) := by decide +kernel
theorem d_C_peg_76 : decode m_C_peg.2.1 76 = .ok (.ireturn, 1) := by decide +kernel
set_option maxHeartbeats 4000000 in
set_option maxRecDepth 20000 in
theorem c_C_peg (G : Gt) (x1 : Int32) (x2 : Int32) (h : Hp) : Cn G m_C_peg [.ref (ad G 0), .int x1, .int x2] h κi (f_C_peg x1 x2 h) := by
  refine entryV (by decide) (Nat.le_of_ble_eq_true rfl) rfl ?_
  show V G m_C_peg 0 [(0, .ref (ad G 0)), (1, .int x1), (2, .int x2)] [] h κi _
  unfold f_C_peg
  refine v_aload_n 0 d_C_peg_0 rfl rfl ?_
  refine v_getr 3 fl_C_19 o_0 rfl rfl d_C_peg_1 ?_
  refine v_iload_n 1 d_C_peg_4 rfl rfl ?_
  refine v_callVi (As := [.int x1]) (rest := []) (c_Fr_has G 3 x1 o_3 h) co_C_80 io_Fr_has o_3 ⟨by decide, by decide⟩ rfl rfl (Nat.le_of_ble_eq_true rfl) d_C_peg_5 (fun r1 h1 _ => ?_)
  refine v_if_ne 14 d_C_peg_8 (by decide) (fun c2 => ?_) (fun c2 => ?_)
  · refine v_bipush (-2) d_C_peg_11 rfl ?_
    exact v_iret rfl d_C_peg_13
  · refine v_iload_n 2 d_C_peg_14 rfl rfl ?_
    refine v_ite (fun c3 => ?_) (fun c3 => ?_)
    · refine v_tabIn (off := 25) 40 d_C_peg_15 (by rw [c3]; decide) (by rw [c3]; decide) (by rw [c3]; rfl) (by decide) ?_
      refine v_aload_n 0 d_C_peg_40 rfl rfl ?_
      refine v_getr 3 fl_C_19 o_0 rfl rfl d_C_peg_41 ?_
      refine v_getr 4 fl_C_84 o_3 rfl rfl d_C_peg_44 ?_
      refine v_iload_n 1 d_C_peg_47 rfl rfl ?_
      refine v_iald ar_4 d_C_peg_48 ?_
      exact v_iret rfl d_C_peg_49
    · refine v_ite (fun c4 => ?_) (fun c4 => ?_)
      · refine v_tabIn (off := 35) 50 d_C_peg_15 (by rw [c4]; decide) (by rw [c4]; decide) (by rw [c4]; rfl) (by decide) ?_
        refine v_aload_n 0 d_C_peg_50 rfl rfl ?_
        refine v_getr 3 fl_C_19 o_0 rfl rfl d_C_peg_51 ?_
        refine v_getr 5 fl_C_88 o_3 rfl rfl d_C_peg_54 ?_
        refine v_iload_n 1 d_C_peg_57 rfl rfl ?_
        refine v_iald ar_5 d_C_peg_58 ?_
        exact v_iret rfl d_C_peg_59
      · refine v_ite (fun c5 => ?_) (fun c5 => ?_)
        · refine v_tabIn (off := 45) 60 d_C_peg_15 (by rw [c5]; decide) (by rw [c5]; decide) (by rw [c5]; rfl) (by decide) ?_
          refine v_aload_n 0 d_C_peg_60 rfl rfl ?_
          refine v_iload_n 1 d_C_peg_61 rfl rfl ?_
          refine v_callVi (As := [.int x1]) (rest := []) (c_C_isHidden G x1 h1) co_C_91 io_C_isHidden o_0 ⟨by decide, by decide⟩ rfl rfl (Nat.le_of_ble_eq_true rfl) d_C_peg_62 (fun r6 h6 _ => ?_)
          refine v_if_eq 72 d_C_peg_65 (by decide) (fun c7 => ?_) (fun c7 => ?_)
          · refine v_iconst 0 d_C_peg_72 rfl ?_
            exact v_iret rfl d_C_peg_73
          · refine v_iconst 1 d_C_peg_68 rfl ?_
            refine v_goto 73 d_C_peg_69 (by decide) ?_
            exact v_iret rfl d_C_peg_73
        · refine v_tabOut 74 d_C_peg_15 (by have q0 := lv_neT (a := 0) c3 rfl; have q1 := lv_neT (a := 1) c4 rfl; have q2 := lv_neT (a := 2) c5 rfl; omega) (by decide) ?_
          refine v_bipush (-2) d_C_peg_74 rfl ?_
          exact v_iret rfl d_C_peg_76
theorem d_C_setHidden_0 : decode m_C_setHidden.2.1 0 = .ok (.aload_n 0, 1) := by decide +kernel
theorem d_C_setHidden_1 : decode m_C_setHidden.2.1 1 = .ok (.aload_n 0, 1) := by decide +kernel
theorem d_C_setHidden_2 : decode m_C_setHidden.2.1 2 = .ok (.getfield 49, 3) := by decide +kernel
theorem d_C_setHidden_5 : decode m_C_setHidden.2.1 5 = .ok (.iconst 1, 1) := by decide +kernel
theorem d_C_setHidden_6 : decode m_C_setHidden.2.1 6 = .ok (.iload_n 1, 1) := by decide +kernel
theorem d_C_setHidden_7 : decode m_C_setHidden.2.1 7 = .ok (.ishl, 1) := by decide +kernel
theorem d_C_setHidden_8 : decode m_C_setHidden.2.1 8 = .ok (.iconst (-1), 1) := by decide +kernel
theorem d_C_setHidden_9 : decode m_C_setHidden.2.1 9 = .ok (.ixor, 1) := by decide +kernel
theorem d_C_setHidden_10 : decode m_C_setHidden.2.1 10 = .ok (.iand, 1) := by decide +kernel
theorem d_C_setHidden_11 : decode m_C_setHidden.2.1 11 = .ok (.iload_n 2, 1) := by decide +kernel
theorem d_C_setHidden_12 : decode m_C_setHidden.2.1 12 = .ok (.iload_n 1, 1) := by decide +kernel
theorem d_C_setHidden_13 : decode m_C_setHidden.2.1 13 = .ok (.ishl, 1) := by decide +kernel
theorem d_C_setHidden_14 : decode m_C_setHidden.2.1 14 = .ok (.ior, 1) := by decide +kernel
theorem d_C_setHidden_15 : decode m_C_setHidden.2.1 15 = .ok (.putfield 49, 3) := by decide +kernel
theorem d_C_setHidden_18 : decode m_C_setHidden.2.1 18 = .ok (.return_, 1) := by decide +kernel
set_option maxHeartbeats 4000000 in
set_option maxRecDepth 20000 in
theorem c_C_setHidden (G : Gt) (x1 : Int32) (x2 : Int32) (h : Hp) : Cn G m_C_setHidden [.ref (ad G 0), .int x1, .int x2] h κv (f_C_setHidden x1 x2 h) := by
  refine entryV (by decide) (Nat.le_of_ble_eq_true rfl) rfl ?_
  show V G m_C_setHidden 0 [(0, .ref (ad G 0)), (1, .int x1), (2, .int x2)] [] h κv _
  unfold f_C_setHidden
  refine v_aload_n 0 d_C_setHidden_0 rfl rfl ?_
  refine v_aload_n 0 d_C_setHidden_1 rfl rfl ?_
  refine v_geti fl_C_49 o_0 rfl d_C_setHidden_2 ?_
  refine v_iconst 1 d_C_setHidden_5 rfl ?_
  refine v_iload_n 1 d_C_setHidden_6 rfl rfl ?_
  refine v_ishl d_C_setHidden_7 ?_
  refine v_iconst (-1) d_C_setHidden_8 rfl ?_
  refine v_ixor d_C_setHidden_9 ?_
  refine v_iand d_C_setHidden_10 ?_
  refine v_iload_n 2 d_C_setHidden_11 rfl rfl ?_
  refine v_iload_n 1 d_C_setHidden_12 rfl rfl ?_
  refine v_ishl d_C_setHidden_13 ?_
  refine v_ior d_C_setHidden_14 ?_
  refine v_puti fl_C_49 ft_5_7 rfl rfl o_0 rfl d_C_setHidden_15 ?_
  exact v_vret rfl d_C_setHidden_18
theorem d_C_hide_0 : decode m_C_hide.2.1 0 = .ok (.iload_n 1, 1) := by decide +kernel
theorem d_C_hide_1 : decode m_C_hide.2.1 1 = .ok (.ifCond .lt 18, 3) := by decide +kernel
theorem d_C_hide_4 : decode m_C_hide.2.1 4 = .ok (.iload_n 1, 1) := by decide +kernel
theorem d_C_hide_5 : decode m_C_hide.2.1 5 = .ok (.bipush 10, 2) := by decide +kernel
theorem d_C_hide_7 : decode m_C_hide.2.1 7 = .ok (.if_icmp .ge 12, 3) := by decide +kernel
theorem d_C_hide_10 : decode m_C_hide.2.1 10 = .ok (.iload_n 2, 1) := by decide +kernel
theorem d_C_hide_11 : decode m_C_hide.2.1 11 = .ok (.ifCond .lt 8, 3) := by decide +kernel
theorem d_C_hide_14 : decode m_C_hide.2.1 14 = .ok (.iload_n 2, 1) := by decide +kernel
theorem d_C_hide_15 : decode m_C_hide.2.1 15 = .ok (.iconst 1, 1) := by decide +kernel
theorem d_C_hide_16 : decode m_C_hide.2.1 16 = .ok (.if_icmp .le 6, 3) := by decide +kernel
theorem d_C_hide_19 : decode m_C_hide.2.1 19 = .ok (.bipush (-2), 2) := by decide +kernel
theorem d_C_hide_21 : decode m_C_hide.2.1 21 = .ok (.ireturn, 1) := by decide +kernel
theorem d_C_hide_22 : decode m_C_hide.2.1 22 = .ok (.aload_n 0, 1) := by decide +kernel
theorem d_C_hide_23 : decode m_C_hide.2.1 23 = .ok (.iload_n 1, 1) := by decide +kernel
theorem d_C_hide_24 : decode m_C_hide.2.1 24 = .ok (.invokevirtual 91, 3) := by decide +kernel
theorem d_C_hide_27 : decode m_C_hide.2.1 27 = .ok (.ifCond .eq 7, 3) := by decide +kernel
theorem d_C_hide_30 : decode m_C_hide.2.1 30 = .ok (.iconst 1, 1) := by decide +kernel
theorem d_C_hide_31 : decode m_C_hide.2.1 31 = .ok (.goto 4, 3) := by decide +kernel
theorem d_C_hide_34 : decode m_C_hide.2.1 34 = .ok (.iconst 0, 1) := by decide +kernel
theorem d_C_hide_35 : decode m_C_hide.2.1 35 = .ok (.istore_n 3, 1) := by decide +kernel
theorem d_C_hide_36 : decode m_C_hide.2.1 36 = .ok (.aload_n 0, 1) := by decide +kernel
theorem d_C_hide_37 : decode m_C_hide.2.1 37 = .ok (.iload_n 1, 1) := by decide +kernel
theorem d_C_hide_38 : decode m_C_hide.2.1 38 = .ok (.iload_n 2, 1) := by decide +kernel
theorem d_C_hide_39 : decode m_C_hide.2.1 39 = .ok (.invokevirtual 94, 3) := by decide +kernel
theorem d_C_hide_42 : decode m_C_hide.2.1 42 = .ok (.iload_n 3, 1) := by decide +kernel
theorem d_C_hide_43 : decode m_C_hide.2.1 43 = .ok (.ireturn, 1) := by decide +kernel
set_option maxHeartbeats 4000000 in
set_option maxRecDepth 20000 in
theorem c_C_hide (G : Gt) (x1 : Int32) (x2 : Int32) (h : Hp) : Cn G m_C_hide [.ref (ad G 0), .int x1, .int x2] h κi (f_C_hide x1 x2 h) := by
  refine entryV (by decide) (Nat.le_of_ble_eq_true rfl) rfl ?_
  show V G m_C_hide 0 [(0, .ref (ad G 0)), (1, .int x1), (2, .int x2)] [] h κi _
  unfold f_C_hide
  refine v_iload_n 1 d_C_hide_0 rfl rfl ?_
  refine v_if_lt 19 d_C_hide_1 (by decide) (fun c1 => ?_) (fun c1 => ?_)
  · refine v_bipush (-2) d_C_hide_19 rfl ?_
    exact v_iret rfl d_C_hide_21
  · refine v_iload_n 1 d_C_hide_4 rfl rfl ?_
    refine v_bipush 10 d_C_hide_5 rfl ?_
    refine v_icmp_ge 19 d_C_hide_7 (by decide) (fun c2 => ?_) (fun c2 => ?_)
    · refine v_bipush (-2) d_C_hide_19 rfl ?_
      exact v_iret rfl d_C_hide_21
    · refine v_iload_n 2 d_C_hide_10 rfl rfl ?_
      refine v_if_lt 19 d_C_hide_11 (by decide) (fun c3 => ?_) (fun c3 => ?_)
      · refine v_bipush (-2) d_C_hide_19 rfl ?_
        exact v_iret rfl d_C_hide_21
      · refine v_iload_n 2 d_C_hide_14 rfl rfl ?_
        refine v_iconst 1 d_C_hide_15 rfl ?_
        refine v_icmp_le 22 d_C_hide_16 (by decide) (fun c4 => ?_) (fun c4 => ?_)
        · refine v_aload_n 0 d_C_hide_22 rfl rfl ?_
          refine v_iload_n 1 d_C_hide_23 rfl rfl ?_
          refine v_callVi (As := [.int x1]) (rest := []) (c_C_isHidden G x1 h) co_C_91 io_C_isHidden o_0 ⟨by decide, by decide⟩ rfl rfl (Nat.le_of_ble_eq_true rfl) d_C_hide_24 (fun r5 h5 _ => ?_)
          refine v_if_eq 34 d_C_hide_27 (by decide) (fun c6 => ?_) (fun c6 => ?_)
          · refine v_iconst 0 d_C_hide_34 rfl ?_
            refine v_istore_n [(3, .int 0), (0, .ref (ad G 0)), (1, .int x1), (2, .int x2)] d_C_hide_35 rfl (by decide) rfl ?_
            refine v_aload_n 1 d_C_hide_36 rfl rfl ?_
            refine v_iload_n 2 d_C_hide_37 rfl rfl ?_
            refine v_iload_n 3 d_C_hide_38 rfl rfl ?_
            refine v_callVv (As := [.int x1, .int x2]) (rest := []) (c_C_setHidden G x1 x2 h5) co_C_94 io_C_setHidden o_0 ⟨by decide, by decide⟩ rfl rfl (Nat.le_of_ble_eq_true rfl) d_C_hide_39 (fun _ h7 _ => ?_)
            refine v_iload_n 0 d_C_hide_42 rfl rfl ?_
            exact v_iret rfl d_C_hide_43
          · refine v_iconst 1 d_C_hide_30 rfl ?_
            refine v_goto 35 d_C_hide_31 (by decide) ?_
            refine v_istore_n [(3, .int 1), (0, .ref (ad G 0)), (1, .int x1), (2, .int x2)] d_C_hide_35 rfl (by decide) rfl ?_
            refine v_aload_n 1 d_C_hide_36 rfl rfl ?_
            refine v_iload_n 2 d_C_hide_37 rfl rfl ?_
            refine v_iload_n 3 d_C_hide_38 rfl rfl ?_
            refine v_callVv (As := [.int x1, .int x2]) (rest := []) (c_C_setHidden G x1 x2 h5) co_C_94 io_C_setHidden o_0 ⟨by decide, by decide⟩ rfl rfl (Nat.le_of_ble_eq_true rfl) d_C_hide_39 (fun _ h8 _ => ?_)
            refine v_iload_n 0 d_C_hide_42 rfl rfl ?_
            exact v_iret rfl d_C_hide_43
        · refine v_bipush (-2) d_C_hide_19 rfl ?_
          exact v_iret rfl d_C_hide_21
theorem d_C_set_0 : decode m_C_set.2.1 0 = .ok (.iload_n 2, 1) := by decide +kernel
theorem d_C_set_1 : decode m_C_set.2.1 1 = .ok (.ifCond .ge 6, 3) := by decide +kernel
theorem d_C_set_4 : decode m_C_set.2.1 4 = .ok (.bipush (-2), 2) := by decide +kernel
theorem d_C_set_6 : decode m_C_set.2.1 6 = .ok (.ireturn, 1) := by decide +kernel
theorem d_C_set_7 : decode m_C_set.2.1 7 = .ok (.bipush (-2), 2) := by decide +kernel
theorem d_C_set_9 : decode m_C_set.2.1 9 = .ok (.istore_n 3, 1) := by decide +kernel
theorem d_C_set_10 : decode m_C_set.2.1 10 = .ok (.iload_n 1, 1) := by decide +kernel
theorem d_C_set_11 : decode m_C_set.2.1 11 = .ok (.ifCond .ne 23, 3) := by decide +kernel
theorem d_C_set_14 : decode m_C_set.2.1 14 = .ok (.iload_n 2, 1) := by decide +kernel
theorem d_C_set_15 : decode m_C_set.2.1 15 = .ok (.sipush 200, 3) := by decide +kernel
theorem d_C_set_18 : decode m_C_set.2.1 18 = .ok (.if_icmp .gt 16, 3) := by decide +kernel
theorem d_C_set_21 : decode m_C_set.2.1 21 = .ok (.aload_n 0, 1) := by decide +kernel
theorem d_C_set_22 : decode m_C_set.2.1 22 = .ok (.getfield 52, 3) := by decide +kernel
theorem d_C_set_25 : decode m_C_set.2.1 25 = .ok (.istore_n 3, 1) := by decide +kernel
theorem d_C_set_26 : decode m_C_set.2.1 26 = .ok (.aload_n 0, 1) := by decide +kernel
theorem d_C_set_27 : decode m_C_set.2.1 27 = .ok (.iload_n 2, 1) := by decide +kernel
theorem d_C_set_28 : decode m_C_set.2.1 28 = .ok (.putfield 52, 3) := by decide +kernel
theorem d_C_set_31 : decode m_C_set.2.1 31 = .ok (.goto 48, 3) := by decide +kernel
theorem d_C_set_34 : decode m_C_set.2.1 34 = .ok (.iload_n 1, 1) := by decide +kernel
theorem d_C_set_35 : decode m_C_set.2.1 35 = .ok (.iconst 1, 1) := by decide +kernel
theorem d_C_set_36 : decode m_C_set.2.1 36 = .ok (.if_icmp .ne 22, 3) := by decide +kernel
theorem d_C_set_39 : decode m_C_set.2.1 39 = .ok (.iload_n 2, 1) := by decide +kernel
theorem d_C_set_40 : decode m_C_set.2.1 40 = .ok (.bipush 9, 2) := by decide +kernel
theorem d_C_set_42 : decode m_C_set.2.1 42 = .ok (.if_icmp .gt 16, 3) := by decide +kernel
theorem d_C_set_45 : decode m_C_set.2.1 45 = .ok (.aload_n 0, 1) := by decide +kernel
theorem d_C_set_46 : decode m_C_set.2.1 46 = .ok (.getfield 55, 3) := by decide +kernel
theorem d_C_set_49 : decode m_C_set.2.1 49 = .ok (.istore_n 3, 1) := by decide +kernel
theorem d_C_set_50 : decode m_C_set.2.1 50 = .ok (.aload_n 0, 1) := by decide +kernel
theorem d_C_set_51 : decode m_C_set.2.1 51 = .ok (.iload_n 2, 1) := by decide +kernel
theorem d_C_set_52 : decode m_C_set.2.1 52 = .ok (.putfield 55, 3) := by decide +kernel
theorem d_C_set_55 : decode m_C_set.2.1 55 = .ok (.goto 24, 3) := by decide +kernel
theorem d_C_set_58 : decode m_C_set.2.1 58 = .ok (.iload_n 1, 1) := by decide +kernel
theorem d_C_set_59 : decode m_C_set.2.1 59 = .ok (.iconst 2, 1) := by decide +kernel
theorem d_C_set_60 : decode m_C_set.2.1 60 = .ok (.if_icmp .ne 19, 3) := by decide +kernel
theorem d_C_set_63 : decode m_C_set.2.1 63 = .ok (.iload_n 2, 1) := by decide +kernel
theorem d_C_set_64 : decode m_C_set.2.1 64 = .ok (.bipush 9, 2) := by decide +kernel
theorem d_C_set_66 : decode m_C_set.2.1 66 = .ok (.if_icmp .gt 13, 3) := by decide +kernel
theorem d_C_set_69 : decode m_C_set.2.1 69 = .ok (.aload_n 0, 1) := by decide +kernel
theorem d_C_set_70 : decode m_C_set.2.1 70 = .ok (.getfield 58, 3) := by decide +kernel
theorem d_C_set_73 : decode m_C_set.2.1 73 = .ok (.istore_n 3, 1) := by decide +kernel
theorem d_C_set_74 : decode m_C_set.2.1 74 = .ok (.aload_n 0, 1) := by decide +kernel
theorem d_C_set_75 : decode m_C_set.2.1 75 = .ok (.iload_n 2, 1) := by decide +kernel
theorem d_C_set_76 : decode m_C_set.2.1 76 = .ok (.putfield 58, 3) := by decide +kernel
theorem d_C_set_79 : decode m_C_set.2.1 79 = .ok (.iload_n 3, 1) := by decide +kernel
theorem d_C_set_80 : decode m_C_set.2.1 80 = .ok (.ireturn, 1) := by decide +kernel
set_option maxHeartbeats 4000000 in
set_option maxRecDepth 20000 in
theorem c_C_set (G : Gt) (x1 : Int32) (x2 : Int32) (h : Hp) : Cn G m_C_set [.ref (ad G 0), .int x1, .int x2] h κi (f_C_set x1 x2 h) := by
  refine entryV (by decide) (Nat.le_of_ble_eq_true rfl) rfl ?_
  show V G m_C_set 0 [(0, .ref (ad G 0)), (1, .int x1), (2, .int x2)] [] h κi _
  unfold f_C_set
  refine v_iload_n 2 d_C_set_0 rfl rfl ?_
  refine v_if_ge 7 d_C_set_1 (by decide) (fun c1 => ?_) (fun c1 => ?_)
  · refine v_bipush (-2) d_C_set_7 rfl ?_
    refine v_istore_n [(3, .int (-2)), (0, .ref (ad G 0)), (1, .int x1), (2, .int x2)] d_C_set_9 rfl (by decide) rfl ?_
    refine v_iload_n 2 d_C_set_10 rfl rfl ?_
    refine v_if_ne 34 d_C_set_11 (by decide) (fun c2 => ?_) (fun c2 => ?_)
    · refine v_iload_n 3 d_C_set_14 rfl rfl ?_
      refine v_sipush 200 d_C_set_15 rfl ?_
      refine v_icmp_gt 34 d_C_set_18 (by decide) (fun c3 => ?_) (fun c3 => ?_)
      · refine v_iload_n 2 d_C_set_34 rfl rfl ?_
        refine v_iconst 1 d_C_set_35 rfl ?_
        refine v_icmp_ne 58 d_C_set_36 (by decide) (fun c4 => ?_) (fun c4 => ?_)
        · refine v_iload_n 3 d_C_set_39 rfl rfl ?_
          refine v_bipush 9 d_C_set_40 rfl ?_
          refine v_icmp_gt 58 d_C_set_42 (by decide) (fun c5 => ?_) (fun c5 => ?_)
          · refine v_iload_n 2 d_C_set_58 rfl rfl ?_
            refine v_iconst 2 d_C_set_59 rfl ?_
            refine v_icmp_ne 79 d_C_set_60 (by decide) (fun c6 => ?_) (fun c6 => ?_)
            · refine v_iload_n 3 d_C_set_63 rfl rfl ?_
              refine v_bipush 9 d_C_set_64 rfl ?_
              refine v_icmp_gt_t 79 d_C_set_66 (by decide) c5 ?_
              refine v_iload_n 0 d_C_set_79 rfl rfl ?_
              exact v_iret rfl d_C_set_80
            · refine v_iload_n 0 d_C_set_79 rfl rfl ?_
              exact v_iret rfl d_C_set_80
          · refine v_aload_n 1 d_C_set_45 rfl rfl ?_
            refine v_geti fl_C_55 o_0 rfl d_C_set_46 ?_
            refine v_istore_n [(3, .int (h 0 9)), (0, .ref (ad G 0)), (1, .int x1), (2, .int x2)] d_C_set_49 rfl (by decide) rfl ?_
            refine v_aload_n 1 d_C_set_50 rfl rfl ?_
            refine v_iload_n 3 d_C_set_51 rfl rfl ?_
            refine v_puti fl_C_55 ft_5_9 rfl rfl o_0 rfl d_C_set_52 ?_
            refine v_goto 79 d_C_set_55 (by decide) ?_
            refine v_iload_n 0 d_C_set_79 rfl rfl ?_
            exact v_iret rfl d_C_set_80
        · refine v_iload_n 2 d_C_set_58 rfl rfl ?_
          refine v_iconst 2 d_C_set_59 rfl ?_
          refine v_icmp_ne 79 d_C_set_60 (by decide) (fun c7 => ?_) (fun c7 => ?_)
          · refine v_iload_n 3 d_C_set_63 rfl rfl ?_
            refine v_bipush 9 d_C_set_64 rfl ?_
            refine v_icmp_gt 79 d_C_set_66 (by decide) (fun c8 => ?_) (fun c8 => ?_)
            · refine v_iload_n 0 d_C_set_79 rfl rfl ?_
              exact v_iret rfl d_C_set_80
            · refine v_aload_n 1 d_C_set_69 rfl rfl ?_
              refine v_geti fl_C_58 o_0 rfl d_C_set_70 ?_
              refine v_istore_n [(3, .int (h 0 10)), (0, .ref (ad G 0)), (1, .int x1), (2, .int x2)] d_C_set_73 rfl (by decide) rfl ?_
              refine v_aload_n 1 d_C_set_74 rfl rfl ?_
              refine v_iload_n 3 d_C_set_75 rfl rfl ?_
              refine v_puti fl_C_58 ft_5_10 rfl rfl o_0 rfl d_C_set_76 ?_
              refine v_iload_n 0 d_C_set_79 rfl rfl ?_
              exact v_iret rfl d_C_set_80
          · refine v_iload_n 0 d_C_set_79 rfl rfl ?_
            exact v_iret rfl d_C_set_80
      · refine v_aload_n 1 d_C_set_21 rfl rfl ?_
        refine v_geti fl_C_52 o_0 rfl d_C_set_22 ?_
        refine v_istore_n [(3, .int (h 0 8)), (0, .ref (ad G 0)), (1, .int x1), (2, .int x2)] d_C_set_25 rfl (by decide) rfl ?_
        refine v_aload_n 1 d_C_set_26 rfl rfl ?_
        refine v_iload_n 3 d_C_set_27 rfl rfl ?_
        refine v_puti fl_C_52 ft_5_8 rfl rfl o_0 rfl d_C_set_28 ?_
        refine v_goto 79 d_C_set_31 (by decide) ?_
        refine v_iload_n 0 d_C_set_79 rfl rfl ?_
        exact v_iret rfl d_C_set_80
    · refine v_iload_n 2 d_C_set_34 rfl rfl ?_
      refine v_iconst 1 d_C_set_35 rfl ?_
      refine v_icmp_ne 58 d_C_set_36 (by decide) (fun c9 => ?_) (fun c9 => ?_)
      · refine v_iload_n 3 d_C_set_39 rfl rfl ?_
        refine v_bipush 9 d_C_set_40 rfl ?_
        refine v_icmp_gt 58 d_C_set_42 (by decide) (fun c10 => ?_) (fun c10 => ?_)
        · refine v_iload_n 2 d_C_set_58 rfl rfl ?_
          refine v_iconst 2 d_C_set_59 rfl ?_
          refine v_icmp_ne 79 d_C_set_60 (by decide) (fun c11 => ?_) (fun c11 => ?_)
          · refine v_iload_n 3 d_C_set_63 rfl rfl ?_
            refine v_bipush 9 d_C_set_64 rfl ?_
            refine v_icmp_gt_t 79 d_C_set_66 (by decide) c10 ?_
            refine v_iload_n 0 d_C_set_79 rfl rfl ?_
            exact v_iret rfl d_C_set_80
          · refine v_iload_n 0 d_C_set_79 rfl rfl ?_
            exact v_iret rfl d_C_set_80
        · refine v_aload_n 1 d_C_set_45 rfl rfl ?_
          refine v_geti fl_C_55 o_0 rfl d_C_set_46 ?_
          refine v_istore_n [(3, .int (h 0 9)), (0, .ref (ad G 0)), (1, .int x1), (2, .int x2)] d_C_set_49 rfl (by decide) rfl ?_
          refine v_aload_n 1 d_C_set_50 rfl rfl ?_
          refine v_iload_n 3 d_C_set_51 rfl rfl ?_
          refine v_puti fl_C_55 ft_5_9 rfl rfl o_0 rfl d_C_set_52 ?_
          refine v_goto 79 d_C_set_55 (by decide) ?_
          refine v_iload_n 0 d_C_set_79 rfl rfl ?_
          exact v_iret rfl d_C_set_80
      · refine v_iload_n 2 d_C_set_58 rfl rfl ?_
        refine v_iconst 2 d_C_set_59 rfl ?_
        refine v_icmp_ne 79 d_C_set_60 (by decide) (fun c12 => ?_) (fun c12 => ?_)
        · refine v_iload_n 3 d_C_set_63 rfl rfl ?_
          refine v_bipush 9 d_C_set_64 rfl ?_
          refine v_icmp_gt 79 d_C_set_66 (by decide) (fun c13 => ?_) (fun c13 => ?_)
          · refine v_iload_n 0 d_C_set_79 rfl rfl ?_
            exact v_iret rfl d_C_set_80
          · refine v_aload_n 1 d_C_set_69 rfl rfl ?_
            refine v_geti fl_C_58 o_0 rfl d_C_set_70 ?_
            refine v_istore_n [(3, .int (h 0 10)), (0, .ref (ad G 0)), (1, .int x1), (2, .int x2)] d_C_set_73 rfl (by decide) rfl ?_
            refine v_aload_n 1 d_C_set_74 rfl rfl ?_
            refine v_iload_n 3 d_C_set_75 rfl rfl ?_
            refine v_puti fl_C_58 ft_5_10 rfl rfl o_0 rfl d_C_set_76 ?_
            refine v_iload_n 0 d_C_set_79 rfl rfl ?_
            exact v_iret rfl d_C_set_80
        · refine v_iload_n 0 d_C_set_79 rfl rfl ?_
          exact v_iret rfl d_C_set_80
  · refine v_bipush (-2) d_C_set_4 rfl ?_
    exact v_iret rfl d_C_set_6
theorem d_C_isSheet_0 : decode m_C_isSheet.2.1 0 = .ok (.iload_n 0, 1) := by decide +kernel
theorem d_C_isSheet_1 : decode m_C_isSheet.2.1 1 = .ok (.ifCond .lt 12, 3) := by decide +kernel
theorem d_C_isSheet_4 : decode m_C_isSheet.2.1 4 = .ok (.iload_n 0, 1) := by decide +kernel
theorem d_C_isSheet_5 : decode m_C_isSheet.2.1 5 = .ok (.iconst 4, 1) := by decide +kernel
theorem d_C_isSheet_6 : decode m_C_isSheet.2.1 6 = .ok (.if_icmp .ge 7, 3) := by decide +kernel
theorem d_C_isSheet_9 : decode m_C_isSheet.2.1 9 = .ok (.iconst 1, 1) := by decide +kernel
theorem d_C_isSheet_10 : decode m_C_isSheet.2.1 10 = .ok (.goto 4, 3) := by decide +kernel
theorem d_C_isSheet_13 : decode m_C_isSheet.2.1 13 = .ok (.iconst 0, 1) := by decide +kernel
theorem d_C_isSheet_14 : decode m_C_isSheet.2.1 14 = .ok (.ireturn, 1) := by decide +kernel
set_option maxHeartbeats 4000000 in
set_option maxRecDepth 20000 in
theorem c_C_isSheet (G : Gt) (x0 : Int32) (h : Hp) : Cn G m_C_isSheet [.int x0] h κi (f_C_isSheet x0 h) := by
  refine entryV (by decide) (Nat.le_of_ble_eq_true rfl) rfl ?_
  show V G m_C_isSheet 0 [(0, .int x0)] [] h κi _
  unfold f_C_isSheet
  refine v_iload_n 0 d_C_isSheet_0 rfl rfl ?_
  refine v_if_lt 13 d_C_isSheet_1 (by decide) (fun c1 => ?_) (fun c1 => ?_)
  · refine v_iconst 0 d_C_isSheet_13 rfl ?_
    exact v_zretL rfl rfl d_C_isSheet_14
  · refine v_iload_n 0 d_C_isSheet_4 rfl rfl ?_
    refine v_iconst 4 d_C_isSheet_5 rfl ?_
    refine v_icmp_ge 13 d_C_isSheet_6 (by decide) (fun c2 => ?_) (fun c2 => ?_)
    · refine v_iconst 0 d_C_isSheet_13 rfl ?_
      exact v_zretL rfl rfl d_C_isSheet_14
    · refine v_iconst 1 d_C_isSheet_9 rfl ?_
      refine v_goto 14 d_C_isSheet_10 (by decide) ?_
      exact v_zretL rfl rfl d_C_isSheet_14
theorem d_C_found_0 : decode m_C_found.2.1 0 = .ok (.aload_n 0, 1) := by decide +kernel
theorem d_C_found_1 : decode m_C_found.2.1 1 = .ok (.iload_n 1, 1) := by decide +kernel
theorem d_C_found_2 : decode m_C_found.2.1 2 = .ok (.putfield 61, 3) := by decide +kernel
theorem d_C_found_5 : decode m_C_found.2.1 5 = .ok (.bipush (-10), 2) := by decide +kernel
theorem d_C_found_7 : decode m_C_found.2.1 7 = .ok (.iload_n 1, 1) := by decide +kernel
theorem d_C_found_8 : decode m_C_found.2.1 8 = .ok (.isub, 1) := by decide +kernel
theorem d_C_found_9 : decode m_C_found.2.1 9 = .ok (.ireturn, 1) := by decide +kernel
set_option maxHeartbeats 4000000 in
set_option maxRecDepth 20000 in
theorem c_C_found (G : Gt) (x1 : Int32) (h : Hp) : Cn G m_C_found [.ref (ad G 0), .int x1] h κi (f_C_found x1 h) := by
  refine entryV (by decide) (Nat.le_of_ble_eq_true rfl) rfl ?_
  show V G m_C_found 0 [(0, .ref (ad G 0)), (1, .int x1)] [] h κi _
  unfold f_C_found
  refine v_aload_n 0 d_C_found_0 rfl rfl ?_
  refine v_iload_n 1 d_C_found_1 rfl rfl ?_
  refine v_puti fl_C_61 ft_5_11 rfl rfl o_0 rfl d_C_found_2 ?_
  refine v_bipush (-10) d_C_found_5 rfl ?_
  refine v_iload_n 1 d_C_found_7 rfl rfl ?_
  refine v_isub d_C_found_8 ?_
  exact v_iret rfl d_C_found_9
theorem d_C_read_0 : decode m_C_read.2.1 0 = .ok (.iload_n 1, 1) := by decide +kernel
theorem d_C_read_1 : decode m_C_read.2.1 1 = .ok (.invokestatic 98, 3) := by decide +kernel
theorem d_C_read_4 : decode m_C_read.2.1 4 = .ok (.ifCond .ne 6, 3) := by decide +kernel
theorem d_C_read_7 : decode m_C_read.2.1 7 = .ok (.bipush (-2), 2) := by decide +kernel
theorem d_C_read_9 : decode m_C_read.2.1 9 = .ok (.ireturn, 1) := by decide +kernel
theorem d_C_read_10 : decode m_C_read.2.1 10 = .ok (.aload_n 0, 1) := by decide +kernel
theorem d_C_read_11 : decode m_C_read.2.1 11 = .ok (.getfield 41, 3) := by decide +kernel
theorem d_C_read_14 : decode m_C_read.2.1 14 = .ok (.iload_n 1, 1) := by decide +kernel
theorem d_C_read_15 : decode m_C_read.2.1 15 = .ok (.aaload, 1) := by decide +kernel
theorem d_C_read_16 : decode m_C_read.2.1 16 = .ok (.astore_n 2, 1) := by decide +kernel
theorem d_C_read_17 : decode m_C_read.2.1 17 = .ok (.aload_n 2, 1) := by decide +kernel
theorem d_C_read_18 : decode m_C_read.2.1 18 = .ok (.getfield 101, 3) := by decide +kernel
theorem d_C_read_21 : decode m_C_read.2.1 21 = .ok (.ifCond .eq 9, 3) := by decide +kernel
theorem d_C_read_24 : decode m_C_read.2.1 24 = .ok (.aload_n 0, 1) := by decide +kernel
theorem d_C_read_25 : decode m_C_read.2.1 25 = .ok (.iconst 1, 1) := by decide +kernel
theorem d_C_read_26 : decode m_C_read.2.1 26 = .ok (.invokevirtual 105, 3) := by decide +kernel
theorem d_C_read_29 : decode m_C_read.2.1 29 = .ok (.ireturn, 1) := by decide +kernel
theorem d_C_read_30 : decode m_C_read.2.1 30 = .ok (.aload_n 2, 1) := by decide +kernel
theorem d_C_read_31 : decode m_C_read.2.1 31 = .ok (.getfield 109, 3) := by decide +kernel
theorem d_C_read_34 : decode m_C_read.2.1 34 = .ok (.bipush 10, 2) := by decide +kernel
theorem d_C_read_36 : decode m_C_read.2.1 36 = .ok (.invokestatic 110, 3) := by decide +kernel
theorem d_C_read_39 : decode m_C_read.2.1 39 = .ok (.istore_n 3, 1) := by decide +kernel
theorem d_C_read_40 : decode m_C_read.2.1 40 = .ok (.iconst 0, 1) := by decide +kernel
theorem d_C_read_41 : decode m_C_read.2.1 41 = .ok (.istore 4, 2) := by decide +kernel
theorem d_C_read_43 : decode m_C_read.2.1 43 = .ok (.iload 4, 2) := by decide +kernel
theorem d_C_read_45 : decode m_C_read.2.1 45 = .ok (.iload_n 3, 1) := by decide +kernel
theorem d_C_read_46 : decode m_C_read.2.1 46 = .ok (.if_icmp .ge 40, 3) := by decide +kernel
theorem d_C_read_49 : decode m_C_read.2.1 49 = .ok (.aload_n 2, 1) := by decide +kernel
theorem d_C_read_50 : decode m_C_read.2.1 50 = .ok (.getfield 116, 3) := by decide +kernel
theorem d_C_read_53 : decode m_C_read.2.1 53 = .ok (.iload 4, 2) := by decide +kernel
theorem d_C_read_55 : decode m_C_read.2.1 55 = .ok (.iaload, 1) := by decide +kernel
theorem d_C_read_56 : decode m_C_read.2.1 56 = .ok (.istore 5, 2) := by decide +kernel
theorem d_C_read_58 : decode m_C_read.2.1 58 = .ok (.iload 5, 2) := by decide +kernel
theorem d_C_read_60 : decode m_C_read.2.1 60 = .ok (.ifCond .eq 12, 3) := by decide +kernel
theorem d_C_read_63 : decode m_C_read.2.1 63 = .ok (.iload 5, 2) := by decide +kernel
theorem d_C_read_65 : decode m_C_read.2.1 65 = .ok (.iconst 1, 1) := by decide +kernel
theorem d_C_read_66 : decode m_C_read.2.1 66 = .ok (.if_icmp .eq 6, 3) := by decide +kernel
theorem d_C_read_69 : decode m_C_read.2.1 69 = .ok (.iload 4, 2) := by decide +kernel
theorem d_C_read_71 : decode m_C_read.2.1 71 = .ok (.ireturn, 1) := by decide +kernel
theorem d_C_read_72 : decode m_C_read.2.1 72 = .ok (.aload_n 0, 1) := by decide +kernel
theorem d_C_read_73 : decode m_C_read.2.1 73 = .ok (.iload 4, 2) := by decide +kernel
theorem d_C_read_75 : decode m_C_read.2.1 75 = .ok (.iload 5, 2) := by decide +kernel
theorem d_C_read_77 : decode m_C_read.2.1 77 = .ok (.invokevirtual 94, 3) := by decide +kernel
theorem d_C_read_80 : decode m_C_read.2.1 80 = .ok (.iinc 4 1, 3) := by decide +kernel
theorem d_C_read_83 : decode m_C_read.2.1 83 = .ok (.goto (-40), 3) := by decide +kernel
theorem d_C_read_86 : decode m_C_read.2.1 86 = .ok (.iload_n 3, 1) := by decide +kernel
theorem d_C_read_87 : decode m_C_read.2.1 87 = .ok (.ireturn, 1) := by decide +kernel
set_option maxHeartbeats 4000000 in
set_option maxRecDepth 20000 in
theorem Vl_C_read_43 (G : Gt) : ∀ (n : Nat) (a2 : Nat) (x3 : Int32) (x4 : Int32) (ha2 : isO 2 a2) (h : Hp), V G m_C_read 43 [(0, .ref (ad G 0)), (2, .ref (ad G a2)), (3, .int x3), (4, .int x4)] [] h κi (l_C_read_43 n a2 x3 x4 h) := by
  intro n
  induction n with
  | zero => intros; exact v_none
  | succ n ih =>
    intro a2 x3 x4 ha2 h
    rw [l_C_read_43]
    refine v_iload 3 d_C_read_43 rfl ?_
    refine v_iload_n 2 d_C_read_45 rfl rfl ?_
    refine v_icmp_ge 86 d_C_read_46 (by decide) (fun c6 => ?_) (fun c6 => ?_)
    · refine v_iload_n 2 d_C_read_86 rfl rfl ?_
      exact v_iret rfl d_C_read_87
    · refine v_aload_n 1 d_C_read_49 rfl rfl ?_
      refine v_getr (a2 + 1) fl_C_116 ha2 rfl rfl d_C_read_50 ?_
      refine v_iload 3 d_C_read_53 rfl ?_
      refine v_iald (shA ha2) d_C_read_55 ?_
      refine v_istore [(5, .int (h (a2 + 1) (ix x4))), (0, .ref (ad G 0)), (2, .ref (ad G a2)), (3, .int x3), (4, .int x4)] d_C_read_56 (by decide) rfl ?_
      refine v_iload 0 d_C_read_58 rfl ?_
      refine v_if_eq 72 d_C_read_60 (by decide) (fun c7 => ?_) (fun c7 => ?_)
      · refine v_aload_n 1 d_C_read_72 rfl rfl ?_
        refine v_iload 4 d_C_read_73 rfl ?_
        refine v_iload 0 d_C_read_75 rfl ?_
        refine v_callVv (As := [.int x4, .int (h (a2 + 1) (ix x4))]) (rest := []) (c_C_setHidden G x4 (h (a2 + 1) (ix x4)) h) co_C_94 io_C_setHidden o_0 ⟨by decide, by decide⟩ rfl rfl (Nat.le_of_ble_eq_true rfl) d_C_read_77 (fun _ h8 _ => ?_)
        refine v_iinc (x4 + 1) 4 [(4, .int (x4 + 1)), (5, .int (h (a2 + 1) (ix x4))), (0, .ref (ad G 0)), (2, .ref (ad G a2)), (3, .int x3)] d_C_read_80 rfl rfl (by decide) rfl ?_
        refine v_goto 43 d_C_read_83 (by decide) ?_
        exact v_sub [2, 3, 4, 0] rfl (ih a2 x3 (x4 + 1) ha2 h8)
      · refine v_iload 0 d_C_read_63 rfl ?_
        refine v_iconst 1 d_C_read_65 rfl ?_
        refine v_icmp_eq 72 d_C_read_66 (by decide) (fun c9 => ?_) (fun c9 => ?_)
        · refine v_aload_n 1 d_C_read_72 rfl rfl ?_
          refine v_iload 4 d_C_read_73 rfl ?_
          refine v_iload 0 d_C_read_75 rfl ?_
          refine v_callVv (As := [.int x4, .int (h (a2 + 1) (ix x4))]) (rest := []) (c_C_setHidden G x4 (h (a2 + 1) (ix x4)) h) co_C_94 io_C_setHidden o_0 ⟨by decide, by decide⟩ rfl rfl (Nat.le_of_ble_eq_true rfl) d_C_read_77 (fun _ h10 _ => ?_)
          refine v_iinc (x4 + 1) 4 [(4, .int (x4 + 1)), (5, .int (h (a2 + 1) (ix x4))), (0, .ref (ad G 0)), (2, .ref (ad G a2)), (3, .int x3)] d_C_read_80 rfl rfl (by decide) rfl ?_
          refine v_goto 43 d_C_read_83 (by decide) ?_
          exact v_sub [2, 3, 4, 0] rfl (ih a2 x3 (x4 + 1) ha2 h10)
        · refine v_iload 4 d_C_read_69 rfl ?_
          exact v_iret rfl d_C_read_71
set_option maxHeartbeats 4000000 in
set_option maxRecDepth 20000 in
theorem c_C_read (G : Gt) (x1 : Int32) (h : Hp) : Cn G m_C_read [.ref (ad G 0), .int x1] h κi (f_C_read x1 h) := by
  refine entryV (by decide) (Nat.le_of_ble_eq_true rfl) rfl ?_
  show V G m_C_read 0 [(0, .ref (ad G 0)), (1, .int x1)] [] h κi _
  unfold f_C_read
  refine v_iload_n 1 d_C_read_0 rfl rfl ?_
  refine v_callSi (As := [.int x1]) (rest := []) (c_C_isSheet G x1 h) co_C_98 so_C_isSheet ⟨by decide, by decide⟩ rfl rfl (Nat.le_of_ble_eq_true rfl) d_C_read_1 (fun r1 h1 _ => ?_)
  refine v_if_ne 10 d_C_read_4 (by decide) (fun c2 => ?_) (fun c2 => ?_)
  · refine v_bipush (-2) d_C_read_7 rfl ?_
    exact v_iret rfl d_C_read_9
  · refine v_aload_n 0 d_C_read_10 rfl rfl ?_
    refine v_getr 14 fl_C_41 o_0 rfl rfl d_C_read_11 ?_
    refine v_iload_n 1 d_C_read_14 rfl rfl ?_
    refine v_aald3 (23 + 2 * ix x1) rfl ar_14 d_C_read_15 (fun b3 => ?_)
    refine v_astore_n [(2, .ref (ad G (23 + 2 * ix x1))), (0, .ref (ad G 0)), (1, .int x1)] d_C_read_16 rfl (by decide) rfl ?_
    refine v_aload_n 0 d_C_read_17 rfl rfl ?_
    refine v_geti fl_C_101 (sh_o b3) rfl d_C_read_18 ?_
    refine v_if_eq 30 d_C_read_21 (by decide) (fun c4 => ?_) (fun c4 => ?_)
    · refine v_aload_n 0 d_C_read_30 rfl rfl ?_
      refine v_geti fl_C_109 (sh_o b3) rfl d_C_read_31 ?_
      refine v_bipush 10 d_C_read_34 rfl ?_
      refine v_mmin (mem_t 241 (by decide +kernel) rfl) ⟨by decide, by decide⟩ (Nat.le_of_ble_eq_true rfl) d_C_read_36 ?_
      refine v_istore_n [(3, .int (jmin (h1 (23 + 2 * ix x1) 3) 10)), (2, .ref (ad G (23 + 2 * ix x1))), (0, .ref (ad G 0)), (1, .int x1)] d_C_read_39 rfl (by decide) rfl ?_
      refine v_iconst 0 d_C_read_40 rfl ?_
      refine v_istore [(4, .int 0), (3, .int (jmin (h1 (23 + 2 * ix x1) 3) 10)), (2, .ref (ad G (23 + 2 * ix x1))), (0, .ref (ad G 0)), (1, .int x1)] d_C_read_41 (by decide) rfl ?_
      exact v_sub [3, 2, 1, 0] rfl (Vl_C_read_43 G FUEL (23 + 2 * ix x1) (jmin (h1 (23 + 2 * ix x1) 3) 10) 0 (sh_o b3) h1)
    · refine v_aload_n 1 d_C_read_24 rfl rfl ?_
      refine v_iconst 1 d_C_read_25 rfl ?_
      refine v_callVi (As := [.int 1]) (rest := []) (c_C_found G 1 h1) co_C_105 io_C_found o_0 ⟨by decide, by decide⟩ rfl rfl (Nat.le_of_ble_eq_true rfl) d_C_read_26 (fun r11 h11 _ => ?_)
      exact v_iret rfl d_C_read_29
theorem d_Fr_apart_0 : decode m_Fr_apart.2.1 0 = .ok (.aload_n 0, 1) := by decide +kernel
theorem d_Fr_apart_1 : decode m_Fr_apart.2.1 1 = .ok (.getfield 9, 3) := by decide +kernel
theorem d_Fr_apart_4 : decode m_Fr_apart.2.1 4 = .ok (.iload_n 1, 1) := by decide +kernel
theorem d_Fr_apart_5 : decode m_Fr_apart.2.1 5 = .ok (.iaload, 1) := by decide +kernel
theorem d_Fr_apart_6 : decode m_Fr_apart.2.1 6 = .ok (.aload_n 0, 1) := by decide +kernel
theorem d_Fr_apart_7 : decode m_Fr_apart.2.1 7 = .ok (.getfield 9, 3) := by decide +kernel
theorem d_Fr_apart_10 : decode m_Fr_apart.2.1 10 = .ok (.iload_n 2, 1) := by decide +kernel
theorem d_Fr_apart_11 : decode m_Fr_apart.2.1 11 = .ok (.iaload, 1) := by decide +kernel
theorem d_Fr_apart_12 : decode m_Fr_apart.2.1 12 = .ok (.isub, 1) := by decide +kernel
theorem d_Fr_apart_13 : decode m_Fr_apart.2.1 13 = .ok (.invokestatic 26, 3) := by decide +kernel
theorem d_Fr_apart_16 : decode m_Fr_apart.2.1 16 = .ok (.aload_n 0, 1) := by decide +kernel
theorem d_Fr_apart_17 : decode m_Fr_apart.2.1 17 = .ok (.getfield 15, 3) := by decide +kernel
theorem d_Fr_apart_20 : decode m_Fr_apart.2.1 20 = .ok (.iload_n 1, 1) := by decide +kernel
theorem d_Fr_apart_21 : decode m_Fr_apart.2.1 21 = .ok (.iaload, 1) := by decide +kernel
theorem d_Fr_apart_22 : decode m_Fr_apart.2.1 22 = .ok (.aload_n 0, 1) := by decide +kernel
theorem d_Fr_apart_23 : decode m_Fr_apart.2.1 23 = .ok (.getfield 15, 3) := by decide +kernel
theorem d_Fr_apart_26 : decode m_Fr_apart.2.1 26 = .ok (.iload_n 2, 1) := by decide +kernel
theorem d_Fr_apart_27 : decode m_Fr_apart.2.1 27 = .ok (.iaload, 1) := by decide +kernel
theorem d_Fr_apart_28 : decode m_Fr_apart.2.1 28 = .ok (.isub, 1) := by decide +kernel
theorem d_Fr_apart_29 : decode m_Fr_apart.2.1 29 = .ok (.invokestatic 26, 3) := by decide +kernel
theorem d_Fr_apart_32 : decode m_Fr_apart.2.1 32 = .ok (.iadd, 1) := by decide +kernel
theorem d_Fr_apart_33 : decode m_Fr_apart.2.1 33 = .ok (.ireturn, 1) := by decide +kernel
set_option maxHeartbeats 4000000 in
set_option maxRecDepth 20000 in
theorem c_Fr_apart (G : Gt) (a0 : Nat) (x1 : Int32) (x2 : Int32) (ha0 : isO 0 a0) (h : Hp) : Cn G m_Fr_apart [.ref (ad G a0), .int x1, .int x2] h κi (f_Fr_apart a0 x1 x2 h) := by
  refine entryV (by decide) (Nat.le_of_ble_eq_true rfl) rfl ?_
  show V G m_Fr_apart 0 [(0, .ref (ad G a0)), (1, .int x1), (2, .int x2)] [] h κi _
  unfold f_Fr_apart
  refine v_aload_n 0 d_Fr_apart_0 rfl rfl ?_
  refine v_getr (a0 + 1) fl_Fr_9 ha0 rfl rfl d_Fr_apart_1 ?_
  refine v_iload_n 1 d_Fr_apart_4 rfl rfl ?_
  refine v_iald ((frA ha0).1) d_Fr_apart_5 ?_
  refine v_aload_n 0 d_Fr_apart_6 rfl rfl ?_
  refine v_getr (a0 + 1) fl_Fr_9 ha0 rfl rfl d_Fr_apart_7 ?_
  refine v_iload_n 2 d_Fr_apart_10 rfl rfl ?_
  refine v_iald ((frA ha0).1) d_Fr_apart_11 ?_
  refine v_isub d_Fr_apart_12 ?_
  refine v_mabs (mem_t 252 (by decide +kernel) rfl) ⟨by decide, by decide⟩ (Nat.le_of_ble_eq_true rfl) d_Fr_apart_13 ?_
  refine v_aload_n 0 d_Fr_apart_16 rfl rfl ?_
  refine v_getr (a0 + 2) fl_Fr_15 ha0 rfl rfl d_Fr_apart_17 ?_
  refine v_iload_n 1 d_Fr_apart_20 rfl rfl ?_
  refine v_iald ((frA ha0).2) d_Fr_apart_21 ?_
  refine v_aload_n 0 d_Fr_apart_22 rfl rfl ?_
  refine v_getr (a0 + 2) fl_Fr_15 ha0 rfl rfl d_Fr_apart_23 ?_
  refine v_iload_n 2 d_Fr_apart_26 rfl rfl ?_
  refine v_iald ((frA ha0).2) d_Fr_apart_27 ?_
  refine v_isub d_Fr_apart_28 ?_
  refine v_mabs (mem_t 252 (by decide +kernel) rfl) ⟨by decide, by decide⟩ (Nat.le_of_ble_eq_true rfl) d_Fr_apart_29 ?_
  refine v_iadd d_Fr_apart_32 ?_
  exact v_iret rfl d_Fr_apart_33
theorem d_C_far_0 : decode m_C_far.2.1 0 = .ok (.aload_n 0, 1) := by decide +kernel
theorem d_C_far_1 : decode m_C_far.2.1 1 = .ok (.getfield 19, 3) := by decide +kernel
theorem d_C_far_4 : decode m_C_far.2.1 4 = .ok (.iload_n 1, 1) := by decide +kernel
theorem d_C_far_5 : decode m_C_far.2.1 5 = .ok (.invokevirtual 80, 3) := by decide +kernel
theorem d_C_far_8 : decode m_C_far.2.1 8 = .ok (.ifCond .eq 14, 3) := by decide +kernel
theorem d_C_far_11 : decode m_C_far.2.1 11 = .ok (.aload_n 0, 1) := by decide +kernel
theorem d_C_far_12 : decode m_C_far.2.1 12 = .ok (.getfield 19, 3) := by decide +kernel
theorem d_C_far_15 : decode m_C_far.2.1 15 = .ok (.iload_n 2, 1) := by decide +kernel
theorem d_C_far_16 : decode m_C_far.2.1 16 = .ok (.invokevirtual 80, 3) := by decide +kernel
theorem d_C_far_19 : decode m_C_far.2.1 19 = .ok (.ifCond .ne 6, 3) := by decide +kernel
theorem d_C_far_22 : decode m_C_far.2.1 22 = .ok (.bipush (-2), 2) := by decide +kernel
theorem d_C_far_24 : decode m_C_far.2.1 24 = .ok (.ireturn, 1) := by decide +kernel
theorem d_C_far_25 : decode m_C_far.2.1 25 = .ok (.aload_n 0, 1) := by decide +kernel
theorem d_C_far_26 : decode m_C_far.2.1 26 = .ok (.getfield 19, 3) := by decide +kernel
theorem d_C_far_29 : decode m_C_far.2.1 29 = .ok (.iload_n 1, 1) := by decide +kernel
theorem d_C_far_30 : decode m_C_far.2.1 30 = .ok (.iload_n 2, 1) := by decide +kernel
theorem d_C_far_31 : decode m_C_far.2.1 31 = .ok (.invokevirtual 119, 3) := by decide +kernel
theorem d_C_far_34 : decode m_C_far.2.1 34 = .ok (.ireturn, 1) := by decide +kernel
set_option maxHeartbeats 4000000 in
set_option maxRecDepth 20000 in
theorem c_C_far (G : Gt) (x1 : Int32) (x2 : Int32) (h : Hp) : Cn G m_C_far [.ref (ad G 0), .int x1, .int x2] h κi (f_C_far x1 x2 h) := by
  refine entryV (by decide) (Nat.le_of_ble_eq_true rfl) rfl ?_
  show V G m_C_far 0 [(0, .ref (ad G 0)), (1, .int x1), (2, .int x2)] [] h κi _
  unfold f_C_far
  refine v_aload_n 0 d_C_far_0 rfl rfl ?_
  refine v_getr 3 fl_C_19 o_0 rfl rfl d_C_far_1 ?_
  refine v_iload_n 1 d_C_far_4 rfl rfl ?_
  refine v_callVi (As := [.int x1]) (rest := []) (c_Fr_has G 3 x1 o_3 h) co_C_80 io_Fr_has o_3 ⟨by decide, by decide⟩ rfl rfl (Nat.le_of_ble_eq_true rfl) d_C_far_5 (fun r1 h1 _ => ?_)
  refine v_if_eq 22 d_C_far_8 (by decide) (fun c2 => ?_) (fun c2 => ?_)
  · refine v_bipush (-2) d_C_far_22 rfl ?_
    exact v_iret rfl d_C_far_24
  · refine v_aload_n 0 d_C_far_11 rfl rfl ?_
    refine v_getr 3 fl_C_19 o_0 rfl rfl d_C_far_12 ?_
    refine v_iload_n 2 d_C_far_15 rfl rfl ?_
    refine v_callVi (As := [.int x2]) (rest := []) (c_Fr_has G 3 x2 o_3 h1) co_C_80 io_Fr_has o_3 ⟨by decide, by decide⟩ rfl rfl (Nat.le_of_ble_eq_true rfl) d_C_far_16 (fun r3 h3 _ => ?_)
    refine v_if_ne 25 d_C_far_19 (by decide) (fun c4 => ?_) (fun c4 => ?_)
    · refine v_bipush (-2) d_C_far_22 rfl ?_
      exact v_iret rfl d_C_far_24
    · refine v_aload_n 0 d_C_far_25 rfl rfl ?_
      refine v_getr 3 fl_C_19 o_0 rfl rfl d_C_far_26 ?_
      refine v_iload_n 1 d_C_far_29 rfl rfl ?_
      refine v_iload_n 2 d_C_far_30 rfl rfl ?_
      refine v_callVi (As := [.int x1, .int x2]) (rest := []) (c_Fr_apart G 3 x1 x2 o_3 h3) co_C_119 io_Fr_apart o_3 ⟨by decide, by decide⟩ rfl rfl (Nat.le_of_ble_eq_true rfl) d_C_far_31 (fun r5 h5 _ => ?_)
      exact v_iret rfl d_C_far_34
theorem d_C_isLaw_0 : decode m_C_isLaw.2.1 0 = .ok (.iload_n 0, 1) := by decide +kernel
theorem d_C_isLaw_1 : decode m_C_isLaw.2.1 1 = .ok (.ifCond .lt 12, 3) := by decide +kernel
theorem d_C_isLaw_4 : decode m_C_isLaw.2.1 4 = .ok (.iload_n 0, 1) := by decide +kernel
theorem d_C_isLaw_5 : decode m_C_isLaw.2.1 5 = .ok (.iconst 4, 1) := by decide +kernel
theorem d_C_isLaw_6 : decode m_C_isLaw.2.1 6 = .ok (.if_icmp .ge 7, 3) := by decide +kernel
theorem d_C_isLaw_9 : decode m_C_isLaw.2.1 9 = .ok (.iconst 1, 1) := by decide +kernel
theorem d_C_isLaw_10 : decode m_C_isLaw.2.1 10 = .ok (.goto 4, 3) := by decide +kernel
theorem d_C_isLaw_13 : decode m_C_isLaw.2.1 13 = .ok (.iconst 0, 1) := by decide +kernel
theorem d_C_isLaw_14 : decode m_C_isLaw.2.1 14 = .ok (.ireturn, 1) := by decide +kernel
set_option maxHeartbeats 4000000 in
set_option maxRecDepth 20000 in
theorem c_C_isLaw (G : Gt) (x0 : Int32) (h : Hp) : Cn G m_C_isLaw [.int x0] h κi (f_C_isLaw x0 h) := by
  refine entryV (by decide) (Nat.le_of_ble_eq_true rfl) rfl ?_
  show V G m_C_isLaw 0 [(0, .int x0)] [] h κi _
  unfold f_C_isLaw
  refine v_iload_n 0 d_C_isLaw_0 rfl rfl ?_
  refine v_if_lt 13 d_C_isLaw_1 (by decide) (fun c1 => ?_) (fun c1 => ?_)
  · refine v_iconst 0 d_C_isLaw_13 rfl ?_
    exact v_zretL rfl rfl d_C_isLaw_14
  · refine v_iload_n 0 d_C_isLaw_4 rfl rfl ?_
    refine v_iconst 4 d_C_isLaw_5 rfl ?_
    refine v_icmp_ge 13 d_C_isLaw_6 (by decide) (fun c2 => ?_) (fun c2 => ?_)
    · refine v_iconst 0 d_C_isLaw_13 rfl ?_
      exact v_zretL rfl rfl d_C_isLaw_14
    · refine v_iconst 1 d_C_isLaw_9 rfl ?_
      refine v_goto 14 d_C_isLaw_10 (by decide) ?_
      exact v_zretL rfl rfl d_C_isLaw_14
theorem d_C_canBeTold_0 : decode m_C_canBeTold.2.1 0 = .ok (.aload_n 0, 1) := by decide +kernel
theorem d_C_canBeTold_1 : decode m_C_canBeTold.2.1 1 = .ok (.getfield 19, 3) := by decide +kernel
theorem d_C_canBeTold_4 : decode m_C_canBeTold.2.1 4 = .ok (.iload_n 1, 1) := by decide +kernel
theorem d_C_canBeTold_5 : decode m_C_canBeTold.2.1 5 = .ok (.invokevirtual 80, 3) := by decide +kernel
theorem d_C_canBeTold_8 : decode m_C_canBeTold.2.1 8 = .ok (.ifCond .eq 14, 3) := by decide +kernel
theorem d_C_canBeTold_11 : decode m_C_canBeTold.2.1 11 = .ok (.iload_n 2, 1) := by decide +kernel
theorem d_C_canBeTold_12 : decode m_C_canBeTold.2.1 12 = .ok (.invokestatic 169, 3) := by decide +kernel
theorem d_C_canBeTold_15 : decode m_C_canBeTold.2.1 15 = .ok (.ifCond .eq 7, 3) := by decide +kernel
theorem d_C_canBeTold_18 : decode m_C_canBeTold.2.1 18 = .ok (.iconst 1, 1) := by decide +kernel
theorem d_C_canBeTold_19 : decode m_C_canBeTold.2.1 19 = .ok (.goto 4, 3) := by decide +kernel
theorem d_C_canBeTold_22 : decode m_C_canBeTold.2.1 22 = .ok (.iconst 0, 1) := by decide +kernel
theorem d_C_canBeTold_23 : decode m_C_canBeTold.2.1 23 = .ok (.ireturn, 1) := by decide +kernel
set_option maxHeartbeats 4000000 in
set_option maxRecDepth 20000 in
theorem c_C_canBeTold (G : Gt) (x1 : Int32) (x2 : Int32) (h : Hp) : Cn G m_C_canBeTold [.ref (ad G 0), .int x1, .int x2] h κi (f_C_canBeTold x1 x2 h) := by
  refine entryV (by decide) (Nat.le_of_ble_eq_true rfl) rfl ?_
  show V G m_C_canBeTold 0 [(0, .ref (ad G 0)), (1, .int x1), (2, .int x2)] [] h κi _
  unfold f_C_canBeTold
  refine v_aload_n 0 d_C_canBeTold_0 rfl rfl ?_
  refine v_getr 3 fl_C_19 o_0 rfl rfl d_C_canBeTold_1 ?_
  refine v_iload_n 1 d_C_canBeTold_4 rfl rfl ?_
  refine v_callVi (As := [.int x1]) (rest := []) (c_Fr_has G 3 x1 o_3 h) co_C_80 io_Fr_has o_3 ⟨by decide, by decide⟩ rfl rfl (Nat.le_of_ble_eq_true rfl) d_C_canBeTold_5 (fun r1 h1 _ => ?_)
  refine v_if_eq 22 d_C_canBeTold_8 (by decide) (fun c2 => ?_) (fun c2 => ?_)
  · refine v_iconst 0 d_C_canBeTold_22 rfl ?_
    exact v_zretL rfl rfl d_C_canBeTold_23
  · refine v_iload_n 2 d_C_canBeTold_11 rfl rfl ?_
    refine v_callSi (As := [.int x2]) (rest := []) (c_C_isLaw G x2 h1) co_C_169 so_C_isLaw ⟨by decide, by decide⟩ rfl rfl (Nat.le_of_ble_eq_true rfl) d_C_canBeTold_12 (fun r3 h3 _ => ?_)
    refine v_if_eq 22 d_C_canBeTold_15 (by decide) (fun c4 => ?_) (fun c4 => ?_)
    · refine v_iconst 0 d_C_canBeTold_22 rfl ?_
      exact v_zretL rfl rfl d_C_canBeTold_23
    · refine v_iconst 1 d_C_canBeTold_18 rfl ?_
      refine v_goto 23 d_C_canBeTold_19 (by decide) ?_
      exact v_zretL rfl rfl d_C_canBeTold_23
theorem d_Sp_startAt_0 : decode m_Sp_startAt.2.1 0 = .ok (.aload_n 0, 1) := by decide +kernel
theorem d_Sp_startAt_1 : decode m_Sp_startAt.2.1 1 = .ok (.getfield 9, 3) := by decide +kernel
theorem d_Sp_startAt_4 : decode m_Sp_startAt.2.1 4 = .ok (.iconst 0, 1) := by decide +kernel
theorem d_Sp_startAt_5 : decode m_Sp_startAt.2.1 5 = .ok (.iload_n 1, 1) := by decide +kernel
theorem d_Sp_startAt_6 : decode m_Sp_startAt.2.1 6 = .ok (.iastore, 1) := by decide +kernel
theorem d_Sp_startAt_7 : decode m_Sp_startAt.2.1 7 = .ok (.aload_n 0, 1) := by decide +kernel
theorem d_Sp_startAt_8 : decode m_Sp_startAt.2.1 8 = .ok (.iconst 1, 1) := by decide +kernel
theorem d_Sp_startAt_9 : decode m_Sp_startAt.2.1 9 = .ok (.putfield 15, 3) := by decide +kernel
theorem d_Sp_startAt_12 : decode m_Sp_startAt.2.1 12 = .ok (.aload_n 0, 1) := by decide +kernel
theorem d_Sp_startAt_13 : decode m_Sp_startAt.2.1 13 = .ok (.iload_n 2, 1) := by decide +kernel
theorem d_Sp_startAt_14 : decode m_Sp_startAt.2.1 14 = .ok (.putfield 19, 3) := by decide +kernel
theorem d_Sp_startAt_17 : decode m_Sp_startAt.2.1 17 = .ok (.aload_n 0, 1) := by decide +kernel
theorem d_Sp_startAt_18 : decode m_Sp_startAt.2.1 18 = .ok (.iconst 0, 1) := by decide +kernel
theorem d_Sp_startAt_19 : decode m_Sp_startAt.2.1 19 = .ok (.putfield 22, 3) := by decide +kernel
theorem d_Sp_startAt_22 : decode m_Sp_startAt.2.1 22 = .ok (.aload_n 0, 1) := by decide +kernel
theorem d_Sp_startAt_23 : decode m_Sp_startAt.2.1 23 = .ok (.iload_n 3, 1) := by decide +kernel
theorem d_Sp_startAt_24 : decode m_Sp_startAt.2.1 24 = .ok (.putfield 25, 3) := by decide +kernel
theorem d_Sp_startAt_27 : decode m_Sp_startAt.2.1 27 = .ok (.return_, 1) := by decide +kernel
set_option maxHeartbeats 4000000 in
set_option maxRecDepth 20000 in
theorem c_Sp_startAt (G : Gt) (a0 : Nat) (x1 : Int32) (x2 : Int32) (x3 : Int32) (ha0 : isO 3 a0) (h : Hp) : Cn G m_Sp_startAt [.ref (ad G a0), .int x1, .int x2, .int x3] h κv (f_Sp_startAt a0 x1 x2 x3 h) := by
  refine entryV (by decide) (Nat.le_of_ble_eq_true rfl) rfl ?_
  show V G m_Sp_startAt 0 [(0, .ref (ad G a0)), (1, .int x1), (2, .int x2), (3, .int x3)] [] h κv _
  unfold f_Sp_startAt
  refine v_aload_n 0 d_Sp_startAt_0 rfl rfl ?_
  refine v_getr (a0 + 1) fl_Sp_9 ha0 rfl rfl d_Sp_startAt_1 ?_
  refine v_iconst 0 d_Sp_startAt_4 rfl ?_
  refine v_iload_n 1 d_Sp_startAt_5 rfl rfl ?_
  refine v_iast (spA ha0) d_Sp_startAt_6 ?_
  refine v_aload_n 0 d_Sp_startAt_7 rfl rfl ?_
  refine v_iconst 1 d_Sp_startAt_8 rfl ?_
  refine v_puti fl_Sp_15 ft_3_1 rfl rfl ha0 rfl d_Sp_startAt_9 ?_
  refine v_aload_n 0 d_Sp_startAt_12 rfl rfl ?_
  refine v_iload_n 2 d_Sp_startAt_13 rfl rfl ?_
  refine v_puti fl_Sp_19 ft_3_2 rfl rfl ha0 rfl d_Sp_startAt_14 ?_
  refine v_aload_n 0 d_Sp_startAt_17 rfl rfl ?_
  refine v_iconst 0 d_Sp_startAt_18 rfl ?_
  refine v_puti fl_Sp_22 ft_3_3 rfl rfl ha0 rfl d_Sp_startAt_19 ?_
  refine v_aload_n 0 d_Sp_startAt_22 rfl rfl ?_
  refine v_iload_n 3 d_Sp_startAt_23 rfl rfl ?_
  refine v_puti fl_Sp_25 ft_3_4 rfl rfl ha0 rfl d_Sp_startAt_24 ?_
  exact v_vret rfl d_Sp_startAt_27
theorem d_Fr_all_0 : decode m_Fr_all.2.1 0 = .ok (.iconst 1, 1) := by decide +kernel
theorem d_Fr_all_1 : decode m_Fr_all.2.1 1 = .ok (.aload_n 0, 1) := by decide +kernel
theorem d_Fr_all_2 : decode m_Fr_all.2.1 2 = .ok (.getfield 18, 3) := by decide +kernel
theorem d_Fr_all_5 : decode m_Fr_all.2.1 5 = .ok (.ishl, 1) := by decide +kernel
theorem d_Fr_all_6 : decode m_Fr_all.2.1 6 = .ok (.iconst 1, 1) := by decide +kernel
theorem d_Fr_all_7 : decode m_Fr_all.2.1 7 = .ok (.isub, 1) := by decide +kernel
theorem d_Fr_all_8 : decode m_Fr_all.2.1 8 = .ok (.ireturn, 1) := by decide +kernel
set_option maxHeartbeats 4000000 in
set_option maxRecDepth 20000 in
theorem c_Fr_all (G : Gt) (a0 : Nat) (ha0 : isO 0 a0) (h : Hp) : Cn G m_Fr_all [.ref (ad G a0)] h κi (f_Fr_all a0 h) := by
  refine entryV (by decide) (Nat.le_of_ble_eq_true rfl) rfl ?_
  show V G m_Fr_all 0 [(0, .ref (ad G a0))] [] h κi _
  unfold f_Fr_all
  refine v_iconst 1 d_Fr_all_0 rfl ?_
  refine v_aload_n 0 d_Fr_all_1 rfl rfl ?_
  refine v_geti fl_Fr_18 ha0 rfl d_Fr_all_2 ?_
  refine v_ishl d_Fr_all_5 ?_
  refine v_iconst 1 d_Fr_all_6 rfl ?_
  refine v_isub d_Fr_all_7 ?_
  exact v_iret rfl d_Fr_all_8
theorem d_Sp_here_0 : decode m_Sp_here.2.1 0 = .ok (.aload_n 0, 1) := by decide +kernel
theorem d_Sp_here_1 : decode m_Sp_here.2.1 1 = .ok (.getfield 15, 3) := by decide +kernel
theorem d_Sp_here_4 : decode m_Sp_here.2.1 4 = .ok (.ifCond .le 17, 3) := by decide +kernel
theorem d_Sp_here_7 : decode m_Sp_here.2.1 7 = .ok (.aload_n 0, 1) := by decide +kernel
theorem d_Sp_here_8 : decode m_Sp_here.2.1 8 = .ok (.getfield 9, 3) := by decide +kernel
theorem d_Sp_here_11 : decode m_Sp_here.2.1 11 = .ok (.aload_n 0, 1) := by decide +kernel
theorem d_Sp_here_12 : decode m_Sp_here.2.1 12 = .ok (.getfield 15, 3) := by decide +kernel
theorem d_Sp_here_15 : decode m_Sp_here.2.1 15 = .ok (.iconst 1, 1) := by decide +kernel
theorem d_Sp_here_16 : decode m_Sp_here.2.1 16 = .ok (.isub, 1) := by decide +kernel
theorem d_Sp_here_17 : decode m_Sp_here.2.1 17 = .ok (.iaload, 1) := by decide +kernel
theorem d_Sp_here_18 : decode m_Sp_here.2.1 18 = .ok (.goto 4, 3) := by decide +kernel
theorem d_Sp_here_21 : decode m_Sp_here.2.1 21 = .ok (.iconst 0, 1) := by decide +kernel
theorem d_Sp_here_22 : decode m_Sp_here.2.1 22 = .ok (.ireturn, 1) := by decide +kernel
set_option maxHeartbeats 4000000 in
set_option maxRecDepth 20000 in
theorem c_Sp_here (G : Gt) (a0 : Nat) (ha0 : isO 3 a0) (h : Hp) : Cn G m_Sp_here [.ref (ad G a0)] h κi (f_Sp_here a0 h) := by
  refine entryV (by decide) (Nat.le_of_ble_eq_true rfl) rfl ?_
  show V G m_Sp_here 0 [(0, .ref (ad G a0))] [] h κi _
  unfold f_Sp_here
  refine v_aload_n 0 d_Sp_here_0 rfl rfl ?_
  refine v_geti fl_Sp_15 ha0 rfl d_Sp_here_1 ?_
  refine v_if_le 21 d_Sp_here_4 (by decide) (fun c1 => ?_) (fun c1 => ?_)
  · refine v_iconst 0 d_Sp_here_21 rfl ?_
    exact v_iret rfl d_Sp_here_22
  · refine v_aload_n 0 d_Sp_here_7 rfl rfl ?_
    refine v_getr (a0 + 1) fl_Sp_9 ha0 rfl rfl d_Sp_here_8 ?_
    refine v_aload_n 0 d_Sp_here_11 rfl rfl ?_
    refine v_geti fl_Sp_15 ha0 rfl d_Sp_here_12 ?_
    refine v_iconst 1 d_Sp_here_15 rfl ?_
    refine v_isub d_Sp_here_16 ?_
    refine v_iald (spA ha0) d_Sp_here_17 ?_
    refine v_goto 22 d_Sp_here_18 (by decide) ?_
    exact v_iret rfl d_Sp_here_22
theorem d_Fr_behindByNumbers_0 : decode m_Fr_behindByNumbers.2.1 0 = .ok (.iload_n 1, 1) := by decide +kernel
theorem d_Fr_behindByNumbers_1 : decode m_Fr_behindByNumbers.2.1 1 = .ok (.iload_n 0, 1) := by decide +kernel
theorem d_Fr_behindByNumbers_2 : decode m_Fr_behindByNumbers.2.1 2 = .ok (.if_icmp .le 9, 3) := by decide +kernel
theorem d_Fr_behindByNumbers_5 : decode m_Fr_behindByNumbers.2.1 5 = .ok (.iload_n 1, 1) := by decide +kernel
theorem d_Fr_behindByNumbers_6 : decode m_Fr_behindByNumbers.2.1 6 = .ok (.iload_n 0, 1) := by decide +kernel
theorem d_Fr_behindByNumbers_7 : decode m_Fr_behindByNumbers.2.1 7 = .ok (.isub, 1) := by decide +kernel
theorem d_Fr_behindByNumbers_8 : decode m_Fr_behindByNumbers.2.1 8 = .ok (.goto 9, 3) := by decide +kernel
theorem d_Fr_behindByNumbers_11 : decode m_Fr_behindByNumbers.2.1 11 = .ok (.iload_n 1, 1) := by decide +kernel
theorem d_Fr_behindByNumbers_12 : decode m_Fr_behindByNumbers.2.1 12 = .ok (.iload_n 0, 1) := by decide +kernel
theorem d_Fr_behindByNumbers_13 : decode m_Fr_behindByNumbers.2.1 13 = .ok (.isub, 1) := by decide +kernel
theorem d_Fr_behindByNumbers_14 : decode m_Fr_behindByNumbers.2.1 14 = .ok (.bipush 10, 2) := by decide +kernel
theorem d_Fr_behindByNumbers_16 : decode m_Fr_behindByNumbers.2.1 16 = .ok (.iadd, 1) := by decide +kernel
theorem d_Fr_behindByNumbers_17 : decode m_Fr_behindByNumbers.2.1 17 = .ok (.ireturn, 1) := by decide +kernel
set_option maxHeartbeats 4000000 in
set_option maxRecDepth 20000 in
theorem c_Fr_behindByNumbers (G : Gt) (x0 : Int32) (x1 : Int32) (h : Hp) : Cn G m_Fr_behindByNumbers [.int x0, .int x1] h κi (f_Fr_behindByNumbers x0 x1 h) := by
  refine entryV (by decide) (Nat.le_of_ble_eq_true rfl) rfl ?_
  show V G m_Fr_behindByNumbers 0 [(0, .int x0), (1, .int x1)] [] h κi _
  unfold f_Fr_behindByNumbers
  refine v_iload_n 1 d_Fr_behindByNumbers_0 rfl rfl ?_
  refine v_iload_n 0 d_Fr_behindByNumbers_1 rfl rfl ?_
  refine v_icmp_le 11 d_Fr_behindByNumbers_2 (by decide) (fun c1 => ?_) (fun c1 => ?_)
  · refine v_iload_n 1 d_Fr_behindByNumbers_11 rfl rfl ?_
    refine v_iload_n 0 d_Fr_behindByNumbers_12 rfl rfl ?_
    refine v_isub d_Fr_behindByNumbers_13 ?_
    refine v_bipush 10 d_Fr_behindByNumbers_14 rfl ?_
    refine v_iadd d_Fr_behindByNumbers_16 ?_
    exact v_iret rfl d_Fr_behindByNumbers_17
  · refine v_iload_n 1 d_Fr_behindByNumbers_5 rfl rfl ?_
    refine v_iload_n 0 d_Fr_behindByNumbers_6 rfl rfl ?_
    refine v_isub d_Fr_behindByNumbers_7 ?_
    refine v_goto 17 d_Fr_behindByNumbers_8 (by decide) ?_
    exact v_iret rfl d_Fr_behindByNumbers_17
theorem d_Fr_behindByRows_0 : decode m_Fr_behindByRows.2.1 0 = .ok (.aload_n 0, 1) := by decide +kernel
theorem d_Fr_behindByRows_1 : decode m_Fr_behindByRows.2.1 1 = .ok (.getfield 15, 3) := by decide +kernel
theorem d_Fr_behindByRows_4 : decode m_Fr_behindByRows.2.1 4 = .ok (.iload_n 2, 1) := by decide +kernel
theorem d_Fr_behindByRows_5 : decode m_Fr_behindByRows.2.1 5 = .ok (.iaload, 1) := by decide +kernel
theorem d_Fr_behindByRows_6 : decode m_Fr_behindByRows.2.1 6 = .ok (.aload_n 0, 1) := by decide +kernel
theorem d_Fr_behindByRows_7 : decode m_Fr_behindByRows.2.1 7 = .ok (.getfield 15, 3) := by decide +kernel
theorem d_Fr_behindByRows_10 : decode m_Fr_behindByRows.2.1 10 = .ok (.iload_n 1, 1) := by decide +kernel
theorem d_Fr_behindByRows_11 : decode m_Fr_behindByRows.2.1 11 = .ok (.iaload, 1) := by decide +kernel
theorem d_Fr_behindByRows_12 : decode m_Fr_behindByRows.2.1 12 = .ok (.isub, 1) := by decide +kernel
theorem d_Fr_behindByRows_13 : decode m_Fr_behindByRows.2.1 13 = .ok (.bipush 10, 2) := by decide +kernel
theorem d_Fr_behindByRows_15 : decode m_Fr_behindByRows.2.1 15 = .ok (.imul, 1) := by decide +kernel
theorem d_Fr_behindByRows_16 : decode m_Fr_behindByRows.2.1 16 = .ok (.aload_n 0, 1) := by decide +kernel
theorem d_Fr_behindByRows_17 : decode m_Fr_behindByRows.2.1 17 = .ok (.getfield 9, 3) := by decide +kernel
theorem d_Fr_behindByRows_20 : decode m_Fr_behindByRows.2.1 20 = .ok (.iload_n 2, 1) := by decide +kernel
theorem d_Fr_behindByRows_21 : decode m_Fr_behindByRows.2.1 21 = .ok (.iaload, 1) := by decide +kernel
theorem d_Fr_behindByRows_22 : decode m_Fr_behindByRows.2.1 22 = .ok (.iadd, 1) := by decide +kernel
theorem d_Fr_behindByRows_23 : decode m_Fr_behindByRows.2.1 23 = .ok (.aload_n 0, 1) := by decide +kernel
theorem d_Fr_behindByRows_24 : decode m_Fr_behindByRows.2.1 24 = .ok (.getfield 9, 3) := by decide +kernel
theorem d_Fr_behindByRows_27 : decode m_Fr_behindByRows.2.1 27 = .ok (.iload_n 1, 1) := by decide +kernel
theorem d_Fr_behindByRows_28 : decode m_Fr_behindByRows.2.1 28 = .ok (.iaload, 1) := by decide +kernel
theorem d_Fr_behindByRows_29 : decode m_Fr_behindByRows.2.1 29 = .ok (.isub, 1) := by decide +kernel
theorem d_Fr_behindByRows_30 : decode m_Fr_behindByRows.2.1 30 = .ok (.istore_n 3, 1) := by decide +kernel
theorem d_Fr_behindByRows_31 : decode m_Fr_behindByRows.2.1 31 = .ok (.iload_n 3, 1) := by decide +kernel
theorem d_Fr_behindByRows_32 : decode m_Fr_behindByRows.2.1 32 = .ok (.ifCond .le 7, 3) := by decide +kernel
theorem d_Fr_behindByRows_35 : decode m_Fr_behindByRows.2.1 35 = .ok (.iload_n 3, 1) := by decide +kernel
theorem d_Fr_behindByRows_36 : decode m_Fr_behindByRows.2.1 36 = .ok (.goto 7, 3) := by decide +kernel
theorem d_Fr_behindByRows_39 : decode m_Fr_behindByRows.2.1 39 = .ok (.iload_n 3, 1) := by decide +kernel
theorem d_Fr_behindByRows_40 : decode m_Fr_behindByRows.2.1 40 = .ok (.bipush 100, 2) := by decide +kernel
theorem d_Fr_behindByRows_42 : decode m_Fr_behindByRows.2.1 42 = .ok (.iadd, 1) := by decide +kernel
theorem d_Fr_behindByRows_43 : decode m_Fr_behindByRows.2.1 43 = .ok (.ireturn, 1) := by decide +kernel
set_option maxHeartbeats 4000000 in
set_option maxRecDepth 20000 in
theorem c_Fr_behindByRows (G : Gt) (a0 : Nat) (x1 : Int32) (x2 : Int32) (ha0 : isO 0 a0) (h : Hp) : Cn G m_Fr_behindByRows [.ref (ad G a0), .int x1, .int x2] h κi (f_Fr_behindByRows a0 x1 x2 h) := by
  refine entryV (by decide) (Nat.le_of_ble_eq_true rfl) rfl ?_
  show V G m_Fr_behindByRows 0 [(0, .ref (ad G a0)), (1, .int x1), (2, .int x2)] [] h κi _
  unfold f_Fr_behindByRows
  refine v_aload_n 0 d_Fr_behindByRows_0 rfl rfl ?_
  refine v_getr (a0 + 2) fl_Fr_15 ha0 rfl rfl d_Fr_behindByRows_1 ?_
  refine v_iload_n 2 d_Fr_behindByRows_4 rfl rfl ?_
  refine v_iald ((frA ha0).2) d_Fr_behindByRows_5 ?_
  refine v_aload_n 0 d_Fr_behindByRows_6 rfl rfl ?_
  refine v_getr (a0 + 2) fl_Fr_15 ha0 rfl rfl d_Fr_behindByRows_7 ?_
  refine v_iload_n 1 d_Fr_behindByRows_10 rfl rfl ?_
  refine v_iald ((frA ha0).2) d_Fr_behindByRows_11 ?_
  refine v_isub d_Fr_behindByRows_12 ?_
  refine v_bipush 10 d_Fr_behindByRows_13 rfl ?_
  refine v_imul d_Fr_behindByRows_15 ?_
  refine v_aload_n 0 d_Fr_behindByRows_16 rfl rfl ?_
  refine v_getr (a0 + 1) fl_Fr_9 ha0 rfl rfl d_Fr_behindByRows_17 ?_
  refine v_iload_n 2 d_Fr_behindByRows_20 rfl rfl ?_
  refine v_iald ((frA ha0).1) d_Fr_behindByRows_21 ?_
  refine v_iadd d_Fr_behindByRows_22 ?_
  refine v_aload_n 0 d_Fr_behindByRows_23 rfl rfl ?_
  refine v_getr (a0 + 1) fl_Fr_9 ha0 rfl rfl d_Fr_behindByRows_24 ?_
  refine v_iload_n 1 d_Fr_behindByRows_27 rfl rfl ?_
  refine v_iald ((frA ha0).1) d_Fr_behindByRows_28 ?_
  refine v_isub d_Fr_behindByRows_29 ?_
  refine v_istore_n [(3, .int (((((h (a0 + 2) (ix x2)) - (h (a0 + 2) (ix x1))) * 10) + (h (a0 + 1) (ix x2))) - (h (a0 + 1) (ix x1)))), (0, .ref (ad G a0)), (1, .int x1), (2, .int x2)] d_Fr_behindByRows_30 rfl (by decide) rfl ?_
  refine v_iload_n 0 d_Fr_behindByRows_31 rfl rfl ?_
  refine v_if_le 39 d_Fr_behindByRows_32 (by decide) (fun c1 => ?_) (fun c1 => ?_)
  · refine v_iload_n 0 d_Fr_behindByRows_39 rfl rfl ?_
    refine v_bipush 100 d_Fr_behindByRows_40 rfl ?_
    refine v_iadd d_Fr_behindByRows_42 ?_
    exact v_iret rfl d_Fr_behindByRows_43
  · refine v_iload_n 0 d_Fr_behindByRows_35 rfl rfl ?_
    refine v_goto 43 d_Fr_behindByRows_36 (by decide) ?_
    exact v_iret rfl d_Fr_behindByRows_43
theorem d_Fr_choose_0 : decode m_Fr_choose.2.1 0 = .ok (.iconst (-1), 1) := by decide +kernel
theorem d_Fr_choose_1 : decode m_Fr_choose.2.1 1 = .ok (.istore 4, 2) := by decide +kernel
theorem d_Fr_choose_3 : decode m_Fr_choose.2.1 3 = .ok (.iconst 0, 1) := by decide +kernel
theorem d_Fr_choose_4 : decode m_Fr_choose.2.1 4 = .ok (.istore 5, 2) := by decide +kernel
theorem d_Fr_choose_6 : decode m_Fr_choose.2.1 6 = .ok (.iconst 0, 1) := by decide +kernel
theorem d_Fr_choose_7 : decode m_Fr_choose.2.1 7 = .ok (.istore 6, 2) := by decide +kernel
theorem d_Fr_choose_9 : decode m_Fr_choose.2.1 9 = .ok (.iload 6, 2) := by decide +kernel
theorem d_Fr_choose_11 : decode m_Fr_choose.2.1 11 = .ok (.aload_n 0, 1) := by decide +kernel
theorem d_Fr_choose_12 : decode m_Fr_choose.2.1 12 = .ok (.getfield 18, 3) := by decide +kernel
theorem d_Fr_choose_15 : decode m_Fr_choose.2.1 15 = .ok (.if_icmp .ge 95, 3) := by decide +kernel
theorem d_Fr_choose_18 : decode m_Fr_choose.2.1 18 = .ok (.iload_n 3, 1) := by decide +kernel
theorem d_Fr_choose_19 : decode m_Fr_choose.2.1 19 = .ok (.iload 6, 2) := by decide +kernel
theorem d_Fr_choose_21 : decode m_Fr_choose.2.1 21 = .ok (.ishr, 1) := by decide +kernel
theorem d_Fr_choose_22 : decode m_Fr_choose.2.1 22 = .ok (.iconst 1, 1) := by decide +kernel
theorem d_Fr_choose_23 : decode m_Fr_choose.2.1 23 = .ok (.iand, 1) := by decide +kernel
theorem d_Fr_choose_24 : decode m_Fr_choose.2.1 24 = .ok (.ifCond .ne 6, 3) := by decide +kernel
theorem d_Fr_choose_27 : decode m_Fr_choose.2.1 27 = .ok (.goto 77, 3) := by decide +kernel
theorem d_Fr_choose_30 : decode m_Fr_choose.2.1 30 = .ok (.iload_n 1, 1) := by decide +kernel
theorem d_Fr_choose_31 : decode m_Fr_choose.2.1 31 = .ok (.ifCond .ne 13, 3) := by decide +kernel
theorem d_Fr_choose_34 : decode m_Fr_choose.2.1 34 = .ok (.aload_n 0, 1) := by decide +kernel
theorem d_Fr_choose_35 : decode m_Fr_choose.2.1 35 = .ok (.iload_n 2, 1) := by decide +kernel
theorem d_Fr_choose_36 : decode m_Fr_choose.2.1 36 = .ok (.iload 6, 2) := by decide +kernel
theorem d_Fr_choose_38 : decode m_Fr_choose.2.1 38 = .ok (.invokevirtual 32, 3) := by decide +kernel
theorem d_Fr_choose_41 : decode m_Fr_choose.2.1 41 = .ok (.goto 40, 3) := by decide +kernel
theorem d_Fr_choose_44 : decode m_Fr_choose.2.1 44 = .ok (.iload_n 1, 1) := by decide +kernel
theorem d_Fr_choose_45 : decode m_Fr_choose.2.1 45 = .ok (.iconst 1, 1) := by decide +kernel
theorem d_Fr_choose_46 : decode m_Fr_choose.2.1 46 = .ok (.if_icmp .ne 14, 3) := by decide +kernel
theorem d_Fr_choose_49 : decode m_Fr_choose.2.1 49 = .ok (.aload_n 0, 1) := by decide +kernel
theorem d_Fr_choose_50 : decode m_Fr_choose.2.1 50 = .ok (.iload_n 2, 1) := by decide +kernel
theorem d_Fr_choose_51 : decode m_Fr_choose.2.1 51 = .ok (.iload 6, 2) := by decide +kernel
theorem d_Fr_choose_53 : decode m_Fr_choose.2.1 53 = .ok (.invokevirtual 32, 3) := by decide +kernel
theorem d_Fr_choose_56 : decode m_Fr_choose.2.1 56 = .ok (.ineg, 1) := by decide +kernel
theorem d_Fr_choose_57 : decode m_Fr_choose.2.1 57 = .ok (.goto 24, 3) := by decide +kernel
theorem d_Fr_choose_60 : decode m_Fr_choose.2.1 60 = .ok (.iload_n 1, 1) := by decide +kernel
theorem d_Fr_choose_61 : decode m_Fr_choose.2.1 61 = .ok (.iconst 2, 1) := by decide +kernel
theorem d_Fr_choose_62 : decode m_Fr_choose.2.1 62 = .ok (.if_icmp .ne 12, 3) := by decide +kernel
theorem d_Fr_choose_65 : decode m_Fr_choose.2.1 65 = .ok (.iload_n 2, 1) := by decide +kernel
theorem d_Fr_choose_66 : decode m_Fr_choose.2.1 66 = .ok (.iload 6, 2) := by decide +kernel
theorem d_Fr_choose_68 : decode m_Fr_choose.2.1 68 = .ok (.invokestatic 36, 3) := by decide +kernel
theorem d_Fr_choose_71 : decode m_Fr_choose.2.1 71 = .ok (.goto 10, 3) := by decide +kernel
theorem d_Fr_choose_74 : decode m_Fr_choose.2.1 74 = .ok (.aload_n 0, 1) := by decide +kernel
theorem d_Fr_choose_75 : decode m_Fr_choose.2.1 75 = .ok (.iload_n 2, 1) := by decide +kernel
theorem d_Fr_choose_76 : decode m_Fr_choose.2.1 76 = .ok (.iload 6, 2) := by decide +kernel
theorem d_Fr_choose_78 : decode m_Fr_choose.2.1 78 = .ok (.invokevirtual 39, 3) := by decide +kernel
theorem d_Fr_choose_81 : decode m_Fr_choose.2.1 81 = .ok (.istore 7, 2) := by decide +kernel
theorem d_Fr_choose_83 : decode m_Fr_choose.2.1 83 = .ok (.iload 4, 2) := by decide +kernel
theorem d_Fr_choose_85 : decode m_Fr_choose.2.1 85 = .ok (.iconst (-1), 1) := by decide +kernel
theorem d_Fr_choose_86 : decode m_Fr_choose.2.1 86 = .ok (.if_icmp .eq 10, 3) := by decide +kernel
theorem d_Fr_choose_89 : decode m_Fr_choose.2.1 89 = .ok (.iload 7, 2) := by decide +kernel
theorem d_Fr_choose_91 : decode m_Fr_choose.2.1 91 = .ok (.iload 5, 2) := by decide +kernel
theorem d_Fr_choose_93 : decode m_Fr_choose.2.1 93 = .ok (.if_icmp .ge 11, 3) := by decide +kernel
theorem d_Fr_choose_96 : decode m_Fr_choose.2.1 96 = .ok (.iload 6, 2) := by decide +kernel
theorem d_Fr_choose_98 : decode m_Fr_choose.2.1 98 = .ok (.istore 4, 2) := by decide +kernel
theorem d_Fr_choose_100 : decode m_Fr_choose.2.1 100 = .ok (.iload 7, 2) := by decide +kernel
theorem d_Fr_choose_102 : decode m_Fr_choose.2.1 102 = .ok (.istore 5, 2) := by decide +kernel
theorem d_Fr_choose_104 : decode m_Fr_choose.2.1 104 = .ok (.iinc 6 1, 3) := by decide +kernel
theorem d_Fr_choose_107 : decode m_Fr_choose.2.1 107 = .ok (.goto (-98), 3) := by decide +kernel
theorem d_Fr_choose_110 : decode m_Fr_choose.2.1 110 = .ok (.iload 4, 2) := by decide +kernel
theorem d_Fr_choose_112 : decode m_Fr_choose.2.1 112 = .ok (.ireturn, 1) := by decide +kernel
set_option maxHeartbeats 4000000 in
set_option maxRecDepth 20000 in
theorem Vl_Fr_choose_9 (G : Gt) : ∀ (n : Nat) (a0 : Nat) (x1 : Int32) (x2 : Int32) (x3 : Int32) (x4 : Int32) (x5 : Int32) (x6 : Int32) (ha0 : isO 0 a0) (h : Hp), V G m_Fr_choose 9 [(0, .ref (ad G a0)), (1, .int x1), (2, .int x2), (3, .int x3), (4, .int x4), (5, .int x5), (6, .int x6)] [] h κi (l_Fr_choose_9 n a0 x1 x2 x3 x4 x5 x6 h) := by
  intro n
  induction n with
  | zero => intros; exact v_none
  | succ n ih =>
    intro a0 x1 x2 x3 x4 x5 x6 ha0 h
    rw [l_Fr_choose_9]
    refine v_iload 6 d_Fr_choose_9 rfl ?_
    refine v_aload_n 0 d_Fr_choose_11 rfl rfl ?_
    refine v_geti fl_Fr_18 ha0 rfl d_Fr_choose_12 ?_
    refine v_icmp_ge 110 d_Fr_choose_15 (by decide) (fun c1 => ?_) (fun c1 => ?_)
    · refine v_iload 4 d_Fr_choose_110 rfl ?_
      exact v_iret rfl d_Fr_choose_112
    · refine v_iload_n 3 d_Fr_choose_18 rfl rfl ?_
      refine v_iload 6 d_Fr_choose_19 rfl ?_
      refine v_ishr d_Fr_choose_21 ?_
      refine v_iconst 1 d_Fr_choose_22 rfl ?_
      refine v_iand d_Fr_choose_23 ?_
      refine v_if_ne 30 d_Fr_choose_24 (by decide) (fun c2 => ?_) (fun c2 => ?_)
      · refine v_goto 104 d_Fr_choose_27 (by decide) ?_
        refine v_iinc (x6 + 1) 6 [(6, .int (x6 + 1)), (0, .ref (ad G a0)), (1, .int x1), (2, .int x2), (3, .int x3), (4, .int x4), (5, .int x5)] d_Fr_choose_104 rfl rfl (by decide) rfl ?_
        refine v_goto 9 d_Fr_choose_107 (by decide) ?_
        exact v_sub [1, 2, 3, 4, 5, 6, 0] rfl (ih a0 x1 x2 x3 x4 x5 (x6 + 1) ha0 h)
      · refine v_iload_n 1 d_Fr_choose_30 rfl rfl ?_
        refine v_if_ne 44 d_Fr_choose_31 (by decide) (fun c3 => ?_) (fun c3 => ?_)
        · refine v_aload_n 0 d_Fr_choose_34 rfl rfl ?_
          refine v_iload_n 2 d_Fr_choose_35 rfl rfl ?_
          refine v_iload 6 d_Fr_choose_36 rfl ?_
          refine v_callVi (As := [.int x2, .int x6]) (rest := []) (c_Fr_apart G a0 x2 x6 ha0 h) co_Fr_32 io_Fr_apart ha0 ⟨by decide, by decide⟩ rfl rfl (Nat.le_of_ble_eq_true rfl) d_Fr_choose_38 (fun r4 h4 _ => ?_)
          refine v_goto 81 d_Fr_choose_41 (by decide) ?_
          refine v_istore [(7, .int r4), (0, .ref (ad G a0)), (1, .int x1), (2, .int x2), (3, .int x3), (4, .int x4), (5, .int x5), (6, .int x6)] d_Fr_choose_81 (by decide) rfl ?_
          refine v_iload 5 d_Fr_choose_83 rfl ?_
          refine v_iconst (-1) d_Fr_choose_85 rfl ?_
          refine v_icmp_eq 96 d_Fr_choose_86 (by decide) (fun c5 => ?_) (fun c5 => ?_)
          · refine v_iload 7 d_Fr_choose_96 rfl ?_
            refine v_istore [(4, .int x6), (7, .int r4), (0, .ref (ad G a0)), (1, .int x1), (2, .int x2), (3, .int x3), (5, .int x5), (6, .int x6)] d_Fr_choose_98 (by decide) rfl ?_
            refine v_iload 1 d_Fr_choose_100 rfl ?_
            refine v_istore [(5, .int r4), (4, .int x6), (7, .int r4), (0, .ref (ad G a0)), (1, .int x1), (2, .int x2), (3, .int x3), (6, .int x6)] d_Fr_choose_102 (by decide) rfl ?_
            refine v_iinc (x6 + 1) 7 [(6, .int (x6 + 1)), (5, .int r4), (4, .int x6), (7, .int r4), (0, .ref (ad G a0)), (1, .int x1), (2, .int x2), (3, .int x3)] d_Fr_choose_104 rfl rfl (by decide) rfl ?_
            refine v_goto 9 d_Fr_choose_107 (by decide) ?_
            exact v_sub [4, 5, 6, 7, 2, 1, 0] rfl (ih a0 x1 x2 x3 x6 r4 (x6 + 1) ha0 h4)
          · refine v_iload 0 d_Fr_choose_89 rfl ?_
            refine v_iload 6 d_Fr_choose_91 rfl ?_
            refine v_icmp_ge 104 d_Fr_choose_93 (by decide) (fun c6 => ?_) (fun c6 => ?_)
            · refine v_iinc (x6 + 1) 7 [(6, .int (x6 + 1)), (7, .int r4), (0, .ref (ad G a0)), (1, .int x1), (2, .int x2), (3, .int x3), (4, .int x4), (5, .int x5)] d_Fr_choose_104 rfl rfl (by decide) rfl ?_
              refine v_goto 9 d_Fr_choose_107 (by decide) ?_
              exact v_sub [2, 3, 4, 5, 6, 7, 0] rfl (ih a0 x1 x2 x3 x4 x5 (x6 + 1) ha0 h4)
            · refine v_iload 7 d_Fr_choose_96 rfl ?_
              refine v_istore [(4, .int x6), (7, .int r4), (0, .ref (ad G a0)), (1, .int x1), (2, .int x2), (3, .int x3), (5, .int x5), (6, .int x6)] d_Fr_choose_98 (by decide) rfl ?_
              refine v_iload 1 d_Fr_choose_100 rfl ?_
              refine v_istore [(5, .int r4), (4, .int x6), (7, .int r4), (0, .ref (ad G a0)), (1, .int x1), (2, .int x2), (3, .int x3), (6, .int x6)] d_Fr_choose_102 (by decide) rfl ?_
              refine v_iinc (x6 + 1) 7 [(6, .int (x6 + 1)), (5, .int r4), (4, .int x6), (7, .int r4), (0, .ref (ad G a0)), (1, .int x1), (2, .int x2), (3, .int x3)] d_Fr_choose_104 rfl rfl (by decide) rfl ?_
              refine v_goto 9 d_Fr_choose_107 (by decide) ?_
              exact v_sub [4, 5, 6, 7, 2, 1, 0] rfl (ih a0 x1 x2 x3 x6 r4 (x6 + 1) ha0 h4)
        · refine v_iload_n 1 d_Fr_choose_44 rfl rfl ?_
          refine v_iconst 1 d_Fr_choose_45 rfl ?_
          refine v_icmp_ne 60 d_Fr_choose_46 (by decide) (fun c7 => ?_) (fun c7 => ?_)
          · refine v_aload_n 0 d_Fr_choose_49 rfl rfl ?_
            refine v_iload_n 2 d_Fr_choose_50 rfl rfl ?_
            refine v_iload 6 d_Fr_choose_51 rfl ?_
            refine v_callVi (As := [.int x2, .int x6]) (rest := []) (c_Fr_apart G a0 x2 x6 ha0 h) co_Fr_32 io_Fr_apart ha0 ⟨by decide, by decide⟩ rfl rfl (Nat.le_of_ble_eq_true rfl) d_Fr_choose_53 (fun r8 h8 _ => ?_)
            refine v_ineg d_Fr_choose_56 ?_
            refine v_goto 81 d_Fr_choose_57 (by decide) ?_
            refine v_istore [(7, .int (-r8)), (0, .ref (ad G a0)), (1, .int x1), (2, .int x2), (3, .int x3), (4, .int x4), (5, .int x5), (6, .int x6)] d_Fr_choose_81 (by decide) rfl ?_
            refine v_iload 5 d_Fr_choose_83 rfl ?_
            refine v_iconst (-1) d_Fr_choose_85 rfl ?_
            refine v_icmp_eq 96 d_Fr_choose_86 (by decide) (fun c9 => ?_) (fun c9 => ?_)
            · refine v_iload 7 d_Fr_choose_96 rfl ?_
              refine v_istore [(4, .int x6), (7, .int (-r8)), (0, .ref (ad G a0)), (1, .int x1), (2, .int x2), (3, .int x3), (5, .int x5), (6, .int x6)] d_Fr_choose_98 (by decide) rfl ?_
              refine v_iload 1 d_Fr_choose_100 rfl ?_
              refine v_istore [(5, .int (-r8)), (4, .int x6), (7, .int (-r8)), (0, .ref (ad G a0)), (1, .int x1), (2, .int x2), (3, .int x3), (6, .int x6)] d_Fr_choose_102 (by decide) rfl ?_
              refine v_iinc (x6 + 1) 7 [(6, .int (x6 + 1)), (5, .int (-r8)), (4, .int x6), (7, .int (-r8)), (0, .ref (ad G a0)), (1, .int x1), (2, .int x2), (3, .int x3)] d_Fr_choose_104 rfl rfl (by decide) rfl ?_
              refine v_goto 9 d_Fr_choose_107 (by decide) ?_
              exact v_sub [4, 5, 6, 7, 2, 1, 0] rfl (ih a0 x1 x2 x3 x6 (-r8) (x6 + 1) ha0 h8)
            · refine v_iload 0 d_Fr_choose_89 rfl ?_
              refine v_iload 6 d_Fr_choose_91 rfl ?_
              refine v_icmp_ge 104 d_Fr_choose_93 (by decide) (fun c10 => ?_) (fun c10 => ?_)
              · refine v_iinc (x6 + 1) 7 [(6, .int (x6 + 1)), (7, .int (-r8)), (0, .ref (ad G a0)), (1, .int x1), (2, .int x2), (3, .int x3), (4, .int x4), (5, .int x5)] d_Fr_choose_104 rfl rfl (by decide) rfl ?_
                refine v_goto 9 d_Fr_choose_107 (by decide) ?_
                exact v_sub [2, 3, 4, 5, 6, 7, 0] rfl (ih a0 x1 x2 x3 x4 x5 (x6 + 1) ha0 h8)
              · refine v_iload 7 d_Fr_choose_96 rfl ?_
                refine v_istore [(4, .int x6), (7, .int (-r8)), (0, .ref (ad G a0)), (1, .int x1), (2, .int x2), (3, .int x3), (5, .int x5), (6, .int x6)] d_Fr_choose_98 (by decide) rfl ?_
                refine v_iload 1 d_Fr_choose_100 rfl ?_
                refine v_istore [(5, .int (-r8)), (4, .int x6), (7, .int (-r8)), (0, .ref (ad G a0)), (1, .int x1), (2, .int x2), (3, .int x3), (6, .int x6)] d_Fr_choose_102 (by decide) rfl ?_
                refine v_iinc (x6 + 1) 7 [(6, .int (x6 + 1)), (5, .int (-r8)), (4, .int x6), (7, .int (-r8)), (0, .ref (ad G a0)), (1, .int x1), (2, .int x2), (3, .int x3)] d_Fr_choose_104 rfl rfl (by decide) rfl ?_
                refine v_goto 9 d_Fr_choose_107 (by decide) ?_
                exact v_sub [4, 5, 6, 7, 2, 1, 0] rfl (ih a0 x1 x2 x3 x6 (-r8) (x6 + 1) ha0 h8)
          · refine v_iload_n 1 d_Fr_choose_60 rfl rfl ?_
            refine v_iconst 2 d_Fr_choose_61 rfl ?_
            refine v_icmp_ne 74 d_Fr_choose_62 (by decide) (fun c11 => ?_) (fun c11 => ?_)
            · refine v_iload_n 2 d_Fr_choose_65 rfl rfl ?_
              refine v_iload 6 d_Fr_choose_66 rfl ?_
              refine v_callSi (As := [.int x2, .int x6]) (rest := []) (c_Fr_behindByNumbers G x2 x6 h) co_Fr_36 so_Fr_behindByNumbers ⟨by decide, by decide⟩ rfl rfl (Nat.le_of_ble_eq_true rfl) d_Fr_choose_68 (fun r12 h12 _ => ?_)
              refine v_goto 81 d_Fr_choose_71 (by decide) ?_
              refine v_istore [(7, .int r12), (0, .ref (ad G a0)), (1, .int x1), (2, .int x2), (3, .int x3), (4, .int x4), (5, .int x5), (6, .int x6)] d_Fr_choose_81 (by decide) rfl ?_
              refine v_iload 5 d_Fr_choose_83 rfl ?_
              refine v_iconst (-1) d_Fr_choose_85 rfl ?_
              refine v_icmp_eq 96 d_Fr_choose_86 (by decide) (fun c13 => ?_) (fun c13 => ?_)
              · refine v_iload 7 d_Fr_choose_96 rfl ?_
                refine v_istore [(4, .int x6), (7, .int r12), (0, .ref (ad G a0)), (1, .int x1), (2, .int x2), (3, .int x3), (5, .int x5), (6, .int x6)] d_Fr_choose_98 (by decide) rfl ?_
                refine v_iload 1 d_Fr_choose_100 rfl ?_
                refine v_istore [(5, .int r12), (4, .int x6), (7, .int r12), (0, .ref (ad G a0)), (1, .int x1), (2, .int x2), (3, .int x3), (6, .int x6)] d_Fr_choose_102 (by decide) rfl ?_
                refine v_iinc (x6 + 1) 7 [(6, .int (x6 + 1)), (5, .int r12), (4, .int x6), (7, .int r12), (0, .ref (ad G a0)), (1, .int x1), (2, .int x2), (3, .int x3)] d_Fr_choose_104 rfl rfl (by decide) rfl ?_
                refine v_goto 9 d_Fr_choose_107 (by decide) ?_
                exact v_sub [4, 5, 6, 7, 2, 1, 0] rfl (ih a0 x1 x2 x3 x6 r12 (x6 + 1) ha0 h12)
              · refine v_iload 0 d_Fr_choose_89 rfl ?_
                refine v_iload 6 d_Fr_choose_91 rfl ?_
                refine v_icmp_ge 104 d_Fr_choose_93 (by decide) (fun c14 => ?_) (fun c14 => ?_)
                · refine v_iinc (x6 + 1) 7 [(6, .int (x6 + 1)), (7, .int r12), (0, .ref (ad G a0)), (1, .int x1), (2, .int x2), (3, .int x3), (4, .int x4), (5, .int x5)] d_Fr_choose_104 rfl rfl (by decide) rfl ?_
                  refine v_goto 9 d_Fr_choose_107 (by decide) ?_
                  exact v_sub [2, 3, 4, 5, 6, 7, 0] rfl (ih a0 x1 x2 x3 x4 x5 (x6 + 1) ha0 h12)
                · refine v_iload 7 d_Fr_choose_96 rfl ?_
                  refine v_istore [(4, .int x6), (7, .int r12), (0, .ref (ad G a0)), (1, .int x1), (2, .int x2), (3, .int x3), (5, .int x5), (6, .int x6)] d_Fr_choose_98 (by decide) rfl ?_
                  refine v_iload 1 d_Fr_choose_100 rfl ?_
                  refine v_istore [(5, .int r12), (4, .int x6), (7, .int r12), (0, .ref (ad G a0)), (1, .int x1), (2, .int x2), (3, .int x3), (6, .int x6)] d_Fr_choose_102 (by decide) rfl ?_
                  refine v_iinc (x6 + 1) 7 [(6, .int (x6 + 1)), (5, .int r12), (4, .int x6), (7, .int r12), (0, .ref (ad G a0)), (1, .int x1), (2, .int x2), (3, .int x3)] d_Fr_choose_104 rfl rfl (by decide) rfl ?_
                  refine v_goto 9 d_Fr_choose_107 (by decide) ?_
                  exact v_sub [4, 5, 6, 7, 2, 1, 0] rfl (ih a0 x1 x2 x3 x6 r12 (x6 + 1) ha0 h12)
            · refine v_aload_n 0 d_Fr_choose_74 rfl rfl ?_
              refine v_iload_n 2 d_Fr_choose_75 rfl rfl ?_
              refine v_iload 6 d_Fr_choose_76 rfl ?_
              refine v_callVi (As := [.int x2, .int x6]) (rest := []) (c_Fr_behindByRows G a0 x2 x6 ha0 h) co_Fr_39 io_Fr_behindByRows ha0 ⟨by decide, by decide⟩ rfl rfl (Nat.le_of_ble_eq_true rfl) d_Fr_choose_78 (fun r15 h15 _ => ?_)
              refine v_istore [(7, .int r15), (0, .ref (ad G a0)), (1, .int x1), (2, .int x2), (3, .int x3), (4, .int x4), (5, .int x5), (6, .int x6)] d_Fr_choose_81 (by decide) rfl ?_
              refine v_iload 5 d_Fr_choose_83 rfl ?_
              refine v_iconst (-1) d_Fr_choose_85 rfl ?_
              refine v_icmp_eq 96 d_Fr_choose_86 (by decide) (fun c16 => ?_) (fun c16 => ?_)
              · refine v_iload 7 d_Fr_choose_96 rfl ?_
                refine v_istore [(4, .int x6), (7, .int r15), (0, .ref (ad G a0)), (1, .int x1), (2, .int x2), (3, .int x3), (5, .int x5), (6, .int x6)] d_Fr_choose_98 (by decide) rfl ?_
                refine v_iload 1 d_Fr_choose_100 rfl ?_
                refine v_istore [(5, .int r15), (4, .int x6), (7, .int r15), (0, .ref (ad G a0)), (1, .int x1), (2, .int x2), (3, .int x3), (6, .int x6)] d_Fr_choose_102 (by decide) rfl ?_
                refine v_iinc (x6 + 1) 7 [(6, .int (x6 + 1)), (5, .int r15), (4, .int x6), (7, .int r15), (0, .ref (ad G a0)), (1, .int x1), (2, .int x2), (3, .int x3)] d_Fr_choose_104 rfl rfl (by decide) rfl ?_
                refine v_goto 9 d_Fr_choose_107 (by decide) ?_
                exact v_sub [4, 5, 6, 7, 2, 1, 0] rfl (ih a0 x1 x2 x3 x6 r15 (x6 + 1) ha0 h15)
              · refine v_iload 0 d_Fr_choose_89 rfl ?_
                refine v_iload 6 d_Fr_choose_91 rfl ?_
                refine v_icmp_ge 104 d_Fr_choose_93 (by decide) (fun c17 => ?_) (fun c17 => ?_)
                · refine v_iinc (x6 + 1) 7 [(6, .int (x6 + 1)), (7, .int r15), (0, .ref (ad G a0)), (1, .int x1), (2, .int x2), (3, .int x3), (4, .int x4), (5, .int x5)] d_Fr_choose_104 rfl rfl (by decide) rfl ?_
                  refine v_goto 9 d_Fr_choose_107 (by decide) ?_
                  exact v_sub [2, 3, 4, 5, 6, 7, 0] rfl (ih a0 x1 x2 x3 x4 x5 (x6 + 1) ha0 h15)
                · refine v_iload 7 d_Fr_choose_96 rfl ?_
                  refine v_istore [(4, .int x6), (7, .int r15), (0, .ref (ad G a0)), (1, .int x1), (2, .int x2), (3, .int x3), (5, .int x5), (6, .int x6)] d_Fr_choose_98 (by decide) rfl ?_
                  refine v_iload 1 d_Fr_choose_100 rfl ?_
                  refine v_istore [(5, .int r15), (4, .int x6), (7, .int r15), (0, .ref (ad G a0)), (1, .int x1), (2, .int x2), (3, .int x3), (6, .int x6)] d_Fr_choose_102 (by decide) rfl ?_
                  refine v_iinc (x6 + 1) 7 [(6, .int (x6 + 1)), (5, .int r15), (4, .int x6), (7, .int r15), (0, .ref (ad G a0)), (1, .int x1), (2, .int x2), (3, .int x3)] d_Fr_choose_104 rfl rfl (by decide) rfl ?_
                  refine v_goto 9 d_Fr_choose_107 (by decide) ?_
                  exact v_sub [4, 5, 6, 7, 2, 1, 0] rfl (ih a0 x1 x2 x3 x6 r15 (x6 + 1) ha0 h15)
set_option maxHeartbeats 4000000 in
set_option maxRecDepth 20000 in
theorem c_Fr_choose (G : Gt) (a0 : Nat) (x1 : Int32) (x2 : Int32) (x3 : Int32) (ha0 : isO 0 a0) (h : Hp) : Cn G m_Fr_choose [.ref (ad G a0), .int x1, .int x2, .int x3] h κi (f_Fr_choose a0 x1 x2 x3 h) := by
  refine entryV (by decide) (Nat.le_of_ble_eq_true rfl) rfl ?_
  show V G m_Fr_choose 0 [(0, .ref (ad G a0)), (1, .int x1), (2, .int x2), (3, .int x3)] [] h κi _
  unfold f_Fr_choose
  refine v_iconst (-1) d_Fr_choose_0 rfl ?_
  refine v_istore [(4, .int (-1)), (0, .ref (ad G a0)), (1, .int x1), (2, .int x2), (3, .int x3)] d_Fr_choose_1 (by decide) rfl ?_
  refine v_iconst 0 d_Fr_choose_3 rfl ?_
  refine v_istore [(5, .int 0), (4, .int (-1)), (0, .ref (ad G a0)), (1, .int x1), (2, .int x2), (3, .int x3)] d_Fr_choose_4 (by decide) rfl ?_
  refine v_iconst 0 d_Fr_choose_6 rfl ?_
  refine v_istore [(6, .int 0), (5, .int 0), (4, .int (-1)), (0, .ref (ad G a0)), (1, .int x1), (2, .int x2), (3, .int x3)] d_Fr_choose_7 (by decide) rfl ?_
  exact v_sub [3, 4, 5, 6, 2, 1, 0] rfl (Vl_Fr_choose_9 G FUEL a0 x1 x2 x3 (-1) 0 0 ha0 h)
theorem d_Sp_goOn_0 : decode m_Sp_goOn.2.1 0 = .ok (.aload_n 0, 1) := by decide +kernel
theorem d_Sp_goOn_1 : decode m_Sp_goOn.2.1 1 = .ok (.getfield 15, 3) := by decide +kernel
theorem d_Sp_goOn_4 : decode m_Sp_goOn.2.1 4 = .ok (.bipush 10, 2) := by decide +kernel
theorem d_Sp_goOn_6 : decode m_Sp_goOn.2.1 6 = .ok (.if_icmp .ge 13, 3) := by decide +kernel
theorem d_Sp_goOn_9 : decode m_Sp_goOn.2.1 9 = .ok (.iload_n 2, 1) := by decide +kernel
theorem d_Sp_goOn_10 : decode m_Sp_goOn.2.1 10 = .ok (.iload_n 3, 1) := by decide +kernel
theorem d_Sp_goOn_11 : decode m_Sp_goOn.2.1 11 = .ok (.iadd, 1) := by decide +kernel
theorem d_Sp_goOn_12 : decode m_Sp_goOn.2.1 12 = .ok (.aload_n 0, 1) := by decide +kernel
theorem d_Sp_goOn_13 : decode m_Sp_goOn.2.1 13 = .ok (.getfield 25, 3) := by decide +kernel
theorem d_Sp_goOn_16 : decode m_Sp_goOn.2.1 16 = .ok (.if_icmp .le 5, 3) := by decide +kernel
theorem d_Sp_goOn_19 : decode m_Sp_goOn.2.1 19 = .ok (.iconst 0, 1) := by decide +kernel
theorem d_Sp_goOn_20 : decode m_Sp_goOn.2.1 20 = .ok (.ireturn, 1) := by decide +kernel
theorem d_Sp_goOn_21 : decode m_Sp_goOn.2.1 21 = .ok (.aload_n 0, 1) := by decide +kernel
theorem d_Sp_goOn_22 : decode m_Sp_goOn.2.1 22 = .ok (.getfield 9, 3) := by decide +kernel
theorem d_Sp_goOn_25 : decode m_Sp_goOn.2.1 25 = .ok (.aload_n 0, 1) := by decide +kernel
theorem d_Sp_goOn_26 : decode m_Sp_goOn.2.1 26 = .ok (.getfield 15, 3) := by decide +kernel
theorem d_Sp_goOn_29 : decode m_Sp_goOn.2.1 29 = .ok (.iload_n 1, 1) := by decide +kernel
theorem d_Sp_goOn_30 : decode m_Sp_goOn.2.1 30 = .ok (.iastore, 1) := by decide +kernel
theorem d_Sp_goOn_31 : decode m_Sp_goOn.2.1 31 = .ok (.aload_n 0, 1) := by decide +kernel
theorem d_Sp_goOn_32 : decode m_Sp_goOn.2.1 32 = .ok (.dup, 1) := by decide +kernel
theorem d_Sp_goOn_33 : decode m_Sp_goOn.2.1 33 = .ok (.getfield 15, 3) := by decide +kernel
theorem d_Sp_goOn_36 : decode m_Sp_goOn.2.1 36 = .ok (.iconst 1, 1) := by decide +kernel
theorem d_Sp_goOn_37 : decode m_Sp_goOn.2.1 37 = .ok (.iadd, 1) := by decide +kernel
theorem d_Sp_goOn_38 : decode m_Sp_goOn.2.1 38 = .ok (.putfield 15, 3) := by decide +kernel
theorem d_Sp_goOn_41 : decode m_Sp_goOn.2.1 41 = .ok (.aload_n 0, 1) := by decide +kernel
theorem d_Sp_goOn_42 : decode m_Sp_goOn.2.1 42 = .ok (.dup, 1) := by decide +kernel
theorem d_Sp_goOn_43 : decode m_Sp_goOn.2.1 43 = .ok (.getfield 22, 3) := by decide +kernel
theorem d_Sp_goOn_46 : decode m_Sp_goOn.2.1 46 = .ok (.iload_n 2, 1) := by decide +kernel
theorem d_Sp_goOn_47 : decode m_Sp_goOn.2.1 47 = .ok (.iadd, 1) := by decide +kernel
theorem d_Sp_goOn_48 : decode m_Sp_goOn.2.1 48 = .ok (.putfield 22, 3) := by decide +kernel
theorem d_Sp_goOn_51 : decode m_Sp_goOn.2.1 51 = .ok (.aload_n 0, 1) := by decide +kernel
theorem d_Sp_goOn_52 : decode m_Sp_goOn.2.1 52 = .ok (.dup, 1) := by decide +kernel
theorem d_Sp_goOn_53 : decode m_Sp_goOn.2.1 53 = .ok (.getfield 25, 3) := by decide +kernel
theorem d_Sp_goOn_56 : decode m_Sp_goOn.2.1 56 = .ok (.iload_n 2, 1) := by decide +kernel
theorem d_Sp_goOn_57 : decode m_Sp_goOn.2.1 57 = .ok (.iload_n 3, 1) := by decide +kernel
theorem d_Sp_goOn_58 : decode m_Sp_goOn.2.1 58 = .ok (.iadd, 1) := by decide +kernel
theorem d_Sp_goOn_59 : decode m_Sp_goOn.2.1 59 = .ok (.isub, 1) := by decide +kernel
theorem d_Sp_goOn_60 : decode m_Sp_goOn.2.1 60 = .ok (.putfield 25, 3) := by decide +kernel
theorem d_Sp_goOn_63 : decode m_Sp_goOn.2.1 63 = .ok (.iconst 1, 1) := by decide +kernel
theorem d_Sp_goOn_64 : decode m_Sp_goOn.2.1 64 = .ok (.ireturn, 1) := by decide +kernel
set_option maxHeartbeats 4000000 in
set_option maxRecDepth 20000 in
theorem c_Sp_goOn (G : Gt) (a0 : Nat) (x1 : Int32) (x2 : Int32) (x3 : Int32) (ha0 : isO 3 a0) (h : Hp) : Cn G m_Sp_goOn [.ref (ad G a0), .int x1, .int x2, .int x3] h κi (f_Sp_goOn a0 x1 x2 x3 h) := by
  refine entryV (by decide) (Nat.le_of_ble_eq_true rfl) rfl ?_
  show V G m_Sp_goOn 0 [(0, .ref (ad G a0)), (1, .int x1), (2, .int x2), (3, .int x3)] [] h κi _
  unfold f_Sp_goOn
  refine v_aload_n 0 d_Sp_goOn_0 rfl rfl ?_
  refine v_geti fl_Sp_15 ha0 rfl d_Sp_goOn_1 ?_
  refine v_bipush 10 d_Sp_goOn_4 rfl ?_
  refine v_icmp_ge 19 d_Sp_goOn_6 (by decide) (fun c1 => ?_) (fun c1 => ?_)
  · refine v_iconst 0 d_Sp_goOn_19 rfl ?_
    exact v_zretL rfl rfl d_Sp_goOn_20
  · refine v_iload_n 2 d_Sp_goOn_9 rfl rfl ?_
    refine v_iload_n 3 d_Sp_goOn_10 rfl rfl ?_
    refine v_iadd d_Sp_goOn_11 ?_
    refine v_aload_n 0 d_Sp_goOn_12 rfl rfl ?_
    refine v_geti fl_Sp_25 ha0 rfl d_Sp_goOn_13 ?_
    refine v_icmp_le 21 d_Sp_goOn_16 (by decide) (fun c2 => ?_) (fun c2 => ?_)
    · refine v_aload_n 0 d_Sp_goOn_21 rfl rfl ?_
      refine v_getr (a0 + 1) fl_Sp_9 ha0 rfl rfl d_Sp_goOn_22 ?_
      refine v_aload_n 0 d_Sp_goOn_25 rfl rfl ?_
      refine v_geti fl_Sp_15 ha0 rfl d_Sp_goOn_26 ?_
      refine v_iload_n 1 d_Sp_goOn_29 rfl rfl ?_
      refine v_iast (spA ha0) d_Sp_goOn_30 ?_
      refine v_aload_n 0 d_Sp_goOn_31 rfl rfl ?_
      refine v_dup d_Sp_goOn_32 rfl ?_
      refine v_geti fl_Sp_15 ha0 rfl d_Sp_goOn_33 ?_
      refine v_iconst 1 d_Sp_goOn_36 rfl ?_
      refine v_iadd d_Sp_goOn_37 ?_
      refine v_puti fl_Sp_15 ft_3_1 rfl rfl ha0 rfl d_Sp_goOn_38 ?_
      refine v_aload_n 0 d_Sp_goOn_41 rfl rfl ?_
      refine v_dup d_Sp_goOn_42 rfl ?_
      refine v_geti fl_Sp_22 ha0 rfl d_Sp_goOn_43 ?_
      refine v_iload_n 2 d_Sp_goOn_46 rfl rfl ?_
      refine v_iadd d_Sp_goOn_47 ?_
      refine v_puti fl_Sp_22 ft_3_3 rfl rfl ha0 rfl d_Sp_goOn_48 ?_
      refine v_aload_n 0 d_Sp_goOn_51 rfl rfl ?_
      refine v_dup d_Sp_goOn_52 rfl ?_
      refine v_geti fl_Sp_25 ha0 rfl d_Sp_goOn_53 ?_
      refine v_iload_n 2 d_Sp_goOn_56 rfl rfl ?_
      refine v_iload_n 3 d_Sp_goOn_57 rfl rfl ?_
      refine v_iadd d_Sp_goOn_58 ?_
      refine v_isub d_Sp_goOn_59 ?_
      refine v_puti fl_Sp_25 ft_3_4 rfl rfl ha0 rfl d_Sp_goOn_60 ?_
      refine v_iconst 1 d_Sp_goOn_63 rfl ?_
      exact v_zretL rfl rfl d_Sp_goOn_64
    · refine v_iconst 0 d_Sp_goOn_19 rfl ?_
      exact v_zretL rfl rfl d_Sp_goOn_20
theorem d_C_lay_0 : decode m_C_lay.2.1 0 = .ok (.aload_n 1, 1) := by decide +kernel
theorem d_C_lay_1 : decode m_C_lay.2.1 1 = .ok (.iload_n 3, 1) := by decide +kernel
theorem d_C_lay_2 : decode m_C_lay.2.1 2 = .ok (.iload 4, 2) := by decide +kernel
theorem d_C_lay_4 : decode m_C_lay.2.1 4 = .ok (.aload_n 0, 1) := by decide +kernel
theorem d_C_lay_5 : decode m_C_lay.2.1 5 = .ok (.getfield 52, 3) := by decide +kernel
theorem d_C_lay_8 : decode m_C_lay.2.1 8 = .ok (.invokevirtual 181, 3) := by decide +kernel
theorem d_C_lay_11 : decode m_C_lay.2.1 11 = .ok (.aload_n 2, 1) := by decide +kernel
theorem d_C_lay_12 : decode m_C_lay.2.1 12 = .ok (.invokevirtual 237, 3) := by decide +kernel
theorem d_C_lay_15 : decode m_C_lay.2.1 15 = .ok (.iload 5, 2) := by decide +kernel
theorem d_C_lay_17 : decode m_C_lay.2.1 17 = .ok (.iconst (-1), 1) := by decide +kernel
theorem d_C_lay_18 : decode m_C_lay.2.1 18 = .ok (.ixor, 1) := by decide +kernel
theorem d_C_lay_19 : decode m_C_lay.2.1 19 = .ok (.iand, 1) := by decide +kernel
theorem d_C_lay_20 : decode m_C_lay.2.1 20 = .ok (.iconst 1, 1) := by decide +kernel
theorem d_C_lay_21 : decode m_C_lay.2.1 21 = .ok (.iload_n 3, 1) := by decide +kernel
theorem d_C_lay_22 : decode m_C_lay.2.1 22 = .ok (.ishl, 1) := by decide +kernel
theorem d_C_lay_23 : decode m_C_lay.2.1 23 = .ok (.iconst (-1), 1) := by decide +kernel
theorem d_C_lay_24 : decode m_C_lay.2.1 24 = .ok (.ixor, 1) := by decide +kernel
theorem d_C_lay_25 : decode m_C_lay.2.1 25 = .ok (.iand, 1) := by decide +kernel
theorem d_C_lay_26 : decode m_C_lay.2.1 26 = .ok (.istore 6, 2) := by decide +kernel
theorem d_C_lay_28 : decode m_C_lay.2.1 28 = .ok (.iconst 1, 1) := by decide +kernel
theorem d_C_lay_29 : decode m_C_lay.2.1 29 = .ok (.istore 7, 2) := by decide +kernel
theorem d_C_lay_31 : decode m_C_lay.2.1 31 = .ok (.iload 7, 2) := by decide +kernel
theorem d_C_lay_33 : decode m_C_lay.2.1 33 = .ok (.aload_n 2, 1) := by decide +kernel
theorem d_C_lay_34 : decode m_C_lay.2.1 34 = .ok (.getfield 159, 3) := by decide +kernel
theorem d_C_lay_37 : decode m_C_lay.2.1 37 = .ok (.if_icmp .ge 66, 3) := by decide +kernel
theorem d_C_lay_40 : decode m_C_lay.2.1 40 = .ok (.aload_n 2, 1) := by decide +kernel
theorem d_C_lay_41 : decode m_C_lay.2.1 41 = .ok (.iload 4, 2) := by decide +kernel
theorem d_C_lay_43 : decode m_C_lay.2.1 43 = .ok (.aload_n 1, 1) := by decide +kernel
theorem d_C_lay_44 : decode m_C_lay.2.1 44 = .ok (.invokevirtual 295, 3) := by decide +kernel
theorem d_C_lay_47 : decode m_C_lay.2.1 47 = .ok (.iload 6, 2) := by decide +kernel
theorem d_C_lay_49 : decode m_C_lay.2.1 49 = .ok (.invokevirtual 298, 3) := by decide +kernel
theorem d_C_lay_52 : decode m_C_lay.2.1 52 = .ok (.istore 8, 2) := by decide +kernel
theorem d_C_lay_54 : decode m_C_lay.2.1 54 = .ok (.iload 8, 2) := by decide +kernel
theorem d_C_lay_56 : decode m_C_lay.2.1 56 = .ok (.iconst (-1), 1) := by decide +kernel
theorem d_C_lay_57 : decode m_C_lay.2.1 57 = .ok (.if_icmp .eq 46, 3) := by decide +kernel
theorem d_C_lay_60 : decode m_C_lay.2.1 60 = .ok (.aload_n 1, 1) := by decide +kernel
theorem d_C_lay_61 : decode m_C_lay.2.1 61 = .ok (.iload 8, 2) := by decide +kernel
theorem d_C_lay_63 : decode m_C_lay.2.1 63 = .ok (.aload_n 2, 1) := by decide +kernel
theorem d_C_lay_64 : decode m_C_lay.2.1 64 = .ok (.aload_n 1, 1) := by decide +kernel
theorem d_C_lay_65 : decode m_C_lay.2.1 65 = .ok (.invokevirtual 295, 3) := by decide +kernel
theorem d_C_lay_68 : decode m_C_lay.2.1 68 = .ok (.iload 8, 2) := by decide +kernel
theorem d_C_lay_70 : decode m_C_lay.2.1 70 = .ok (.invokevirtual 119, 3) := by decide +kernel
theorem d_C_lay_73 : decode m_C_lay.2.1 73 = .ok (.aload_n 0, 1) := by decide +kernel
theorem d_C_lay_74 : decode m_C_lay.2.1 74 = .ok (.getfield 55, 3) := by decide +kernel
theorem d_C_lay_77 : decode m_C_lay.2.1 77 = .ok (.invokevirtual 301, 3) := by decide +kernel
theorem d_C_lay_80 : decode m_C_lay.2.1 80 = .ok (.ifCond .ne 6, 3) := by decide +kernel
theorem d_C_lay_83 : decode m_C_lay.2.1 83 = .ok (.goto 20, 3) := by decide +kernel
theorem d_C_lay_86 : decode m_C_lay.2.1 86 = .ok (.iload 6, 2) := by decide +kernel
theorem d_C_lay_88 : decode m_C_lay.2.1 88 = .ok (.iconst 1, 1) := by decide +kernel
theorem d_C_lay_89 : decode m_C_lay.2.1 89 = .ok (.iload 8, 2) := by decide +kernel
theorem d_C_lay_91 : decode m_C_lay.2.1 91 = .ok (.ishl, 1) := by decide +kernel
theorem d_C_lay_92 : decode m_C_lay.2.1 92 = .ok (.iconst (-1), 1) := by decide +kernel
theorem d_C_lay_93 : decode m_C_lay.2.1 93 = .ok (.ixor, 1) := by decide +kernel
theorem d_C_lay_94 : decode m_C_lay.2.1 94 = .ok (.iand, 1) := by decide +kernel
theorem d_C_lay_95 : decode m_C_lay.2.1 95 = .ok (.istore 6, 2) := by decide +kernel
theorem d_C_lay_97 : decode m_C_lay.2.1 97 = .ok (.iinc 7 1, 3) := by decide +kernel
theorem d_C_lay_100 : decode m_C_lay.2.1 100 = .ok (.goto (-69), 3) := by decide +kernel
theorem d_C_lay_103 : decode m_C_lay.2.1 103 = .ok (.aload_n 1, 1) := by decide +kernel
theorem d_C_lay_104 : decode m_C_lay.2.1 104 = .ok (.areturn, 1) := by decide +kernel
set_option maxHeartbeats 4000000 in
set_option maxRecDepth 20000 in
theorem Vl_C_lay_31 (G : Gt) : ∀ (n : Nat) (a1 : Nat) (a2 : Nat) (x4 : Int32) (x6 : Int32) (x7 : Int32) (ha1 : isO 3 a1) (ha2 : isO 0 a2) (h : Hp), V G m_C_lay 31 [(0, .ref (ad G 0)), (1, .ref (ad G a1)), (2, .ref (ad G a2)), (4, .int x4), (6, .int x6), (7, .int x7)] [] h (κr G) (l_C_lay_31 n a1 a2 x4 x6 x7 h) := by
  intro n
  induction n with
  | zero => intros; exact v_none
  | succ n ih =>
    intro a1 a2 x4 x6 x7 ha1 ha2 h
    rw [l_C_lay_31]
    refine v_iload 5 d_C_lay_31 rfl ?_
    refine v_aload_n 2 d_C_lay_33 rfl rfl ?_
    refine v_geti fl_C_159 ha2 rfl d_C_lay_34 ?_
    refine v_icmp_ge 103 d_C_lay_37 (by decide) (fun c3 => ?_) (fun c3 => ?_)
    · refine v_aload_n 1 d_C_lay_103 rfl rfl ?_
      exact v_aret rfl d_C_lay_104
    · refine v_aload_n 2 d_C_lay_40 rfl rfl ?_
      refine v_iload 3 d_C_lay_41 rfl ?_
      refine v_aload_n 1 d_C_lay_43 rfl rfl ?_
      refine v_callVi (As := []) (rest := [.int x4, .ref (ad G a2)]) (c_Sp_here G a1 ha1 h) co_C_295 io_Sp_here ha1 ⟨by decide, by decide⟩ rfl rfl (Nat.le_of_ble_eq_true rfl) d_C_lay_44 (fun r4 h4 _ => ?_)
      refine v_iload 4 d_C_lay_47 rfl ?_
      refine v_callVi (As := [.int x4, .int r4, .int x6]) (rest := []) (c_Fr_choose G a2 x4 r4 x6 ha2 h4) co_C_298 io_Fr_choose ha2 ⟨by decide, by decide⟩ rfl rfl (Nat.le_of_ble_eq_true rfl) d_C_lay_49 (fun r5 h5 _ => ?_)
      refine v_istore [(8, .int r5), (0, .ref (ad G 0)), (1, .ref (ad G a1)), (2, .ref (ad G a2)), (4, .int x4), (6, .int x6), (7, .int x7)] d_C_lay_52 (by decide) rfl ?_
      refine v_iload 0 d_C_lay_54 rfl ?_
      refine v_iconst (-1) d_C_lay_56 rfl ?_
      refine v_icmp_eq 103 d_C_lay_57 (by decide) (fun c6 => ?_) (fun c6 => ?_)
      · refine v_aload_n 2 d_C_lay_103 rfl rfl ?_
        exact v_aret rfl d_C_lay_104
      · refine v_aload_n 2 d_C_lay_60 rfl rfl ?_
        refine v_iload 0 d_C_lay_61 rfl ?_
        refine v_aload_n 3 d_C_lay_63 rfl rfl ?_
        refine v_aload_n 2 d_C_lay_64 rfl rfl ?_
        refine v_callVi (As := []) (rest := [.ref (ad G a2), .int r5, .ref (ad G a1)]) (c_Sp_here G a1 ha1 h5) co_C_295 io_Sp_here ha1 ⟨by decide, by decide⟩ rfl rfl (Nat.le_of_ble_eq_true rfl) d_C_lay_65 (fun r7 h7 _ => ?_)
        refine v_iload 0 d_C_lay_68 rfl ?_
        refine v_callVi (As := [.int r7, .int r5]) (rest := [.int r5, .ref (ad G a1)]) (c_Fr_apart G a2 r7 r5 ha2 h7) co_C_119 io_Fr_apart ha2 ⟨by decide, by decide⟩ rfl rfl (Nat.le_of_ble_eq_true rfl) d_C_lay_70 (fun r8 h8 _ => ?_)
        refine v_aload_n 1 d_C_lay_73 rfl rfl ?_
        refine v_geti fl_C_55 o_0 rfl d_C_lay_74 ?_
        refine v_callVi (As := [.int r5, .int r8, .int (h8 0 9)]) (rest := []) (c_Sp_goOn G a1 r5 r8 (h8 0 9) ha1 h8) co_C_301 io_Sp_goOn ha1 ⟨by decide, by decide⟩ rfl rfl (Nat.le_of_ble_eq_true rfl) d_C_lay_77 (fun r9 h9 _ => ?_)
        refine v_if_ne 86 d_C_lay_80 (by decide) (fun c10 => ?_) (fun c10 => ?_)
        · refine v_goto 103 d_C_lay_83 (by decide) ?_
          refine v_aload_n 2 d_C_lay_103 rfl rfl ?_
          exact v_aret rfl d_C_lay_104
        · refine v_iload 5 d_C_lay_86 rfl ?_
          refine v_iconst 1 d_C_lay_88 rfl ?_
          refine v_iload 0 d_C_lay_89 rfl ?_
          refine v_ishl d_C_lay_91 ?_
          refine v_iconst (-1) d_C_lay_92 rfl ?_
          refine v_ixor d_C_lay_93 ?_
          refine v_iand d_C_lay_94 ?_
          refine v_istore [(6, .int (x6 &&& (((1 : Int32) <<< (r5 &&& 31)) ^^^ (-1)))), (8, .int r5), (0, .ref (ad G 0)), (1, .ref (ad G a1)), (2, .ref (ad G a2)), (4, .int x4), (7, .int x7)] d_C_lay_95 (by decide) rfl ?_
          refine v_iinc (x7 + 1) 6 [(7, .int (x7 + 1)), (6, .int (x6 &&& (((1 : Int32) <<< (r5 &&& 31)) ^^^ (-1)))), (8, .int r5), (0, .ref (ad G 0)), (1, .ref (ad G a1)), (2, .ref (ad G a2)), (4, .int x4)] d_C_lay_97 rfl rfl (by decide) rfl ?_
          refine v_goto 31 d_C_lay_100 (by decide) ?_
          exact v_sub [3, 4, 5, 6, 1, 0] rfl (ih a1 a2 x4 (x6 &&& (((1 : Int32) <<< (r5 &&& 31)) ^^^ (-1))) (x7 + 1) ha1 ha2 h9)
set_option maxHeartbeats 4000000 in
set_option maxRecDepth 20000 in
theorem c_C_lay (G : Gt) (a1 : Nat) (a2 : Nat) (x3 : Int32) (x4 : Int32) (x5 : Int32) (ha1 : isO 3 a1) (ha2 : isO 0 a2) (h : Hp) : Cn G m_C_lay [.ref (ad G 0), .ref (ad G a1), .ref (ad G a2), .int x3, .int x4, .int x5] h (κr G) (f_C_lay a1 a2 x3 x4 x5 h) := by
  refine entryV (by decide) (Nat.le_of_ble_eq_true rfl) rfl ?_
  show V G m_C_lay 0 [(0, .ref (ad G 0)), (1, .ref (ad G a1)), (2, .ref (ad G a2)), (3, .int x3), (4, .int x4), (5, .int x5)] [] h (κr G) _
  unfold f_C_lay
  refine v_aload_n 1 d_C_lay_0 rfl rfl ?_
  refine v_iload_n 3 d_C_lay_1 rfl rfl ?_
  refine v_iload 4 d_C_lay_2 rfl ?_
  refine v_aload_n 0 d_C_lay_4 rfl rfl ?_
  refine v_geti fl_C_52 o_0 rfl d_C_lay_5 ?_
  refine v_callVv (As := [.int x3, .int x4, .int (h 0 8)]) (rest := []) (c_Sp_startAt G a1 x3 x4 (h 0 8) ha1 h) co_C_181 io_Sp_startAt ha1 ⟨by decide, by decide⟩ rfl rfl (Nat.le_of_ble_eq_true rfl) d_C_lay_8 (fun _ h1 _ => ?_)
  refine v_aload_n 2 d_C_lay_11 rfl rfl ?_
  refine v_callVi (As := []) (rest := []) (c_Fr_all G a2 ha2 h1) co_C_237 io_Fr_all ha2 ⟨by decide, by decide⟩ rfl rfl (Nat.le_of_ble_eq_true rfl) d_C_lay_12 (fun r2 h2 _ => ?_)
  refine v_iload 5 d_C_lay_15 rfl ?_
  refine v_iconst (-1) d_C_lay_17 rfl ?_
  refine v_ixor d_C_lay_18 ?_
  refine v_iand d_C_lay_19 ?_
  refine v_iconst 1 d_C_lay_20 rfl ?_
  refine v_iload_n 3 d_C_lay_21 rfl rfl ?_
  refine v_ishl d_C_lay_22 ?_
  refine v_iconst (-1) d_C_lay_23 rfl ?_
  refine v_ixor d_C_lay_24 ?_
  refine v_iand d_C_lay_25 ?_
  refine v_istore [(6, .int ((r2 &&& (x5 ^^^ (-1))) &&& (((1 : Int32) <<< (x3 &&& 31)) ^^^ (-1)))), (0, .ref (ad G 0)), (1, .ref (ad G a1)), (2, .ref (ad G a2)), (3, .int x3), (4, .int x4), (5, .int x5)] d_C_lay_26 (by decide) rfl ?_
  refine v_iconst 1 d_C_lay_28 rfl ?_
  refine v_istore [(7, .int 1), (6, .int ((r2 &&& (x5 ^^^ (-1))) &&& (((1 : Int32) <<< (x3 &&& 31)) ^^^ (-1)))), (0, .ref (ad G 0)), (1, .ref (ad G a1)), (2, .ref (ad G a2)), (3, .int x3), (4, .int x4), (5, .int x5)] d_C_lay_29 (by decide) rfl ?_
  exact v_sub [2, 3, 4, 6, 1, 0] rfl (Vl_C_lay_31 G FUEL a1 a2 x4 ((r2 &&& (x5 ^^^ (-1))) &&& (((1 : Int32) <<< (x3 &&& 31)) ^^^ (-1))) 1 ha1 ha2 h2)
theorem d_C_web_0 : decode m_C_web.2.1 0 = .ok (.aload_n 0, 1) := by decide +kernel
theorem d_C_web_1 : decode m_C_web.2.1 1 = .ok (.iload_n 1, 1) := by decide +kernel
theorem d_C_web_2 : decode m_C_web.2.1 2 = .ok (.iload_n 2, 1) := by decide +kernel
theorem d_C_web_3 : decode m_C_web.2.1 3 = .ok (.invokevirtual 122, 3) := by decide +kernel
theorem d_C_web_6 : decode m_C_web.2.1 6 = .ok (.ifCond .eq 13, 3) := by decide +kernel
theorem d_C_web_9 : decode m_C_web.2.1 9 = .ok (.iload_n 3, 1) := by decide +kernel
theorem d_C_web_10 : decode m_C_web.2.1 10 = .ok (.ifCond .lt 9, 3) := by decide +kernel
theorem d_C_web_13 : decode m_C_web.2.1 13 = .ok (.iload_n 3, 1) := by decide +kernel
theorem d_C_web_14 : decode m_C_web.2.1 14 = .ok (.bipush 10, 2) := by decide +kernel
theorem d_C_web_16 : decode m_C_web.2.1 16 = .ok (.if_icmp .lt 6, 3) := by decide +kernel
theorem d_C_web_19 : decode m_C_web.2.1 19 = .ok (.bipush (-2), 2) := by decide +kernel
theorem d_C_web_21 : decode m_C_web.2.1 21 = .ok (.ireturn, 1) := by decide +kernel
theorem d_C_web_22 : decode m_C_web.2.1 22 = .ok (.aload_n 0, 1) := by decide +kernel
theorem d_C_web_23 : decode m_C_web.2.1 23 = .ok (.iload_n 1, 1) := by decide +kernel
theorem d_C_web_24 : decode m_C_web.2.1 24 = .ok (.invokevirtual 91, 3) := by decide +kernel
theorem d_C_web_27 : decode m_C_web.2.1 27 = .ok (.ifCond .eq 6, 3) := by decide +kernel
theorem d_C_web_30 : decode m_C_web.2.1 30 = .ok (.bipush (-3), 2) := by decide +kernel
theorem d_C_web_32 : decode m_C_web.2.1 32 = .ok (.ireturn, 1) := by decide +kernel
theorem d_C_web_33 : decode m_C_web.2.1 33 = .ok (.aload_n 0, 1) := by decide +kernel
theorem d_C_web_34 : decode m_C_web.2.1 34 = .ok (.aload_n 0, 1) := by decide +kernel
theorem d_C_web_35 : decode m_C_web.2.1 35 = .ok (.getfield 28, 3) := by decide +kernel
theorem d_C_web_38 : decode m_C_web.2.1 38 = .ok (.iconst 0, 1) := by decide +kernel
theorem d_C_web_39 : decode m_C_web.2.1 39 = .ok (.aaload, 1) := by decide +kernel
theorem d_C_web_40 : decode m_C_web.2.1 40 = .ok (.aload_n 0, 1) := by decide +kernel
theorem d_C_web_41 : decode m_C_web.2.1 41 = .ok (.getfield 19, 3) := by decide +kernel
theorem d_C_web_44 : decode m_C_web.2.1 44 = .ok (.iload_n 1, 1) := by decide +kernel
theorem d_C_web_45 : decode m_C_web.2.1 45 = .ok (.iload_n 2, 1) := by decide +kernel
theorem d_C_web_46 : decode m_C_web.2.1 46 = .ok (.aload_n 0, 1) := by decide +kernel
theorem d_C_web_47 : decode m_C_web.2.1 47 = .ok (.getfield 49, 3) := by decide +kernel
theorem d_C_web_50 : decode m_C_web.2.1 50 = .ok (.invokevirtual 126, 3) := by decide +kernel
theorem d_C_web_53 : decode m_C_web.2.1 53 = .ok (.astore 4, 2) := by decide +kernel
theorem d_C_web_55 : decode m_C_web.2.1 55 = .ok (.iload_n 3, 1) := by decide +kernel
theorem d_C_web_56 : decode m_C_web.2.1 56 = .ok (.aload 4, 2) := by decide +kernel
theorem d_C_web_58 : decode m_C_web.2.1 58 = .ok (.getfield 130, 3) := by decide +kernel
theorem d_C_web_61 : decode m_C_web.2.1 61 = .ok (.if_icmp .ge 13, 3) := by decide +kernel
theorem d_C_web_64 : decode m_C_web.2.1 64 = .ok (.aload 4, 2) := by decide +kernel
theorem d_C_web_66 : decode m_C_web.2.1 66 = .ok (.getfield 131, 3) := by decide +kernel
theorem d_C_web_69 : decode m_C_web.2.1 69 = .ok (.iload_n 3, 1) := by decide +kernel
theorem d_C_web_70 : decode m_C_web.2.1 70 = .ok (.iaload, 1) := by decide +kernel
theorem d_C_web_71 : decode m_C_web.2.1 71 = .ok (.goto 4, 3) := by decide +kernel
theorem d_C_web_74 : decode m_C_web.2.1 74 = .ok (.iconst (-1), 1) := by decide +kernel
theorem d_C_web_75 : decode m_C_web.2.1 75 = .ok (.ireturn, 1) := by decide +kernel
set_option maxHeartbeats 4000000 in
set_option maxRecDepth 20000 in
theorem c_C_web (G : Gt) (x1 : Int32) (x2 : Int32) (x3 : Int32) (h : Hp) : Cn G m_C_web [.ref (ad G 0), .int x1, .int x2, .int x3] h κi (f_C_web x1 x2 x3 h) := by
  refine entryV (by decide) (Nat.le_of_ble_eq_true rfl) rfl ?_
  show V G m_C_web 0 [(0, .ref (ad G 0)), (1, .int x1), (2, .int x2), (3, .int x3)] [] h κi _
  unfold f_C_web
  refine v_aload_n 0 d_C_web_0 rfl rfl ?_
  refine v_iload_n 1 d_C_web_1 rfl rfl ?_
  refine v_iload_n 2 d_C_web_2 rfl rfl ?_
  refine v_callVi (As := [.int x1, .int x2]) (rest := []) (c_C_canBeTold G x1 x2 h) co_C_122 io_C_canBeTold o_0 ⟨by decide, by decide⟩ rfl rfl (Nat.le_of_ble_eq_true rfl) d_C_web_3 (fun r1 h1 _ => ?_)
  refine v_if_eq 19 d_C_web_6 (by decide) (fun c2 => ?_) (fun c2 => ?_)
  · refine v_bipush (-2) d_C_web_19 rfl ?_
    exact v_iret rfl d_C_web_21
  · refine v_iload_n 3 d_C_web_9 rfl rfl ?_
    refine v_if_lt 19 d_C_web_10 (by decide) (fun c3 => ?_) (fun c3 => ?_)
    · refine v_bipush (-2) d_C_web_19 rfl ?_
      exact v_iret rfl d_C_web_21
    · refine v_iload_n 3 d_C_web_13 rfl rfl ?_
      refine v_bipush 10 d_C_web_14 rfl ?_
      refine v_icmp_lt 22 d_C_web_16 (by decide) (fun c4 => ?_) (fun c4 => ?_)
      · refine v_aload_n 0 d_C_web_22 rfl rfl ?_
        refine v_iload_n 1 d_C_web_23 rfl rfl ?_
        refine v_callVi (As := [.int x1]) (rest := []) (c_C_isHidden G x1 h1) co_C_91 io_C_isHidden o_0 ⟨by decide, by decide⟩ rfl rfl (Nat.le_of_ble_eq_true rfl) d_C_web_24 (fun r5 h5 _ => ?_)
        refine v_if_eq 33 d_C_web_27 (by decide) (fun c6 => ?_) (fun c6 => ?_)
        · refine v_aload_n 0 d_C_web_33 rfl rfl ?_
          refine v_aload_n 0 d_C_web_34 rfl rfl ?_
          refine v_getr 9 fl_C_28 o_0 rfl rfl d_C_web_35 ?_
          refine v_iconst 0 d_C_web_38 rfl ?_
          refine v_aald2 15 rfl ar_9 d_C_web_39 (fun b7 => ?_)
          refine v_aload_n 0 d_C_web_40 rfl rfl ?_
          refine v_getr 3 fl_C_19 o_0 rfl rfl d_C_web_41 ?_
          refine v_iload_n 1 d_C_web_44 rfl rfl ?_
          refine v_iload_n 2 d_C_web_45 rfl rfl ?_
          refine v_aload_n 0 d_C_web_46 rfl rfl ?_
          refine v_geti fl_C_49 o_0 rfl d_C_web_47 ?_
          refine v_callVr (As := [.ref (ad G 15), .ref (ad G 3), .int x1, .int x2, .int (h5 0 7)]) (rest := []) (c_C_lay G 15 3 x1 x2 (h5 0 7) o_15 o_3 h5) co_C_126 io_C_lay o_0 ⟨by decide, by decide⟩ rfl rfl (Nat.le_of_ble_eq_true rfl) d_C_web_50 (fun r8 h8 z8 => ?_)
          have e8 := lay_isO o_15 z8
          refine v_astore [(4, .ref (ad G r8)), (0, .ref (ad G 0)), (1, .int x1), (2, .int x2), (3, .int x3)] d_C_web_53 (by decide) rfl ?_
          refine v_iload_n 4 d_C_web_55 rfl rfl ?_
          refine v_aload 0 d_C_web_56 rfl ?_
          refine v_geti fl_C_130 e8 rfl d_C_web_58 ?_
          refine v_icmp_ge 74 d_C_web_61 (by decide) (fun c9 => ?_) (fun c9 => ?_)
          · refine v_iconst (-1) d_C_web_74 rfl ?_
            exact v_iret rfl d_C_web_75
          · refine v_aload 0 d_C_web_64 rfl ?_
            refine v_getr (r8 + 1) fl_C_131 e8 rfl rfl d_C_web_66 ?_
            refine v_iload_n 4 d_C_web_69 rfl rfl ?_
            refine v_iald (spA e8) d_C_web_70 ?_
            refine v_goto 75 d_C_web_71 (by decide) ?_
            exact v_iret rfl d_C_web_75
        · refine v_bipush (-3) d_C_web_30 rfl ?_
          exact v_iret rfl d_C_web_32
      · refine v_bipush (-2) d_C_web_19 rfl ?_
        exact v_iret rfl d_C_web_21
theorem d_C_length_0 : decode m_C_length.2.1 0 = .ok (.aload_n 0, 1) := by decide +kernel
theorem d_C_length_1 : decode m_C_length.2.1 1 = .ok (.iload_n 1, 1) := by decide +kernel
theorem d_C_length_2 : decode m_C_length.2.1 2 = .ok (.iload_n 2, 1) := by decide +kernel
theorem d_C_length_3 : decode m_C_length.2.1 3 = .ok (.invokevirtual 122, 3) := by decide +kernel
theorem d_C_length_6 : decode m_C_length.2.1 6 = .ok (.ifCond .eq 12, 3) := by decide +kernel
theorem d_C_length_9 : decode m_C_length.2.1 9 = .ok (.iload_n 3, 1) := by decide +kernel
theorem d_C_length_10 : decode m_C_length.2.1 10 = .ok (.ifCond .lt 8, 3) := by decide +kernel
theorem d_C_length_13 : decode m_C_length.2.1 13 = .ok (.iload_n 3, 1) := by decide +kernel
theorem d_C_length_14 : decode m_C_length.2.1 14 = .ok (.iconst 2, 1) := by decide +kernel
theorem d_C_length_15 : decode m_C_length.2.1 15 = .ok (.if_icmp .le 6, 3) := by decide +kernel
theorem d_C_length_18 : decode m_C_length.2.1 18 = .ok (.bipush (-2), 2) := by decide +kernel
theorem d_C_length_20 : decode m_C_length.2.1 20 = .ok (.ireturn, 1) := by decide +kernel
theorem d_C_length_21 : decode m_C_length.2.1 21 = .ok (.aload_n 0, 1) := by decide +kernel
theorem d_C_length_22 : decode m_C_length.2.1 22 = .ok (.iload_n 1, 1) := by decide +kernel
theorem d_C_length_23 : decode m_C_length.2.1 23 = .ok (.invokevirtual 91, 3) := by decide +kernel
theorem d_C_length_26 : decode m_C_length.2.1 26 = .ok (.ifCond .eq 6, 3) := by decide +kernel
theorem d_C_length_29 : decode m_C_length.2.1 29 = .ok (.bipush (-3), 2) := by decide +kernel
theorem d_C_length_31 : decode m_C_length.2.1 31 = .ok (.ireturn, 1) := by decide +kernel
theorem d_C_length_32 : decode m_C_length.2.1 32 = .ok (.aload_n 0, 1) := by decide +kernel
theorem d_C_length_33 : decode m_C_length.2.1 33 = .ok (.aload_n 0, 1) := by decide +kernel
theorem d_C_length_34 : decode m_C_length.2.1 34 = .ok (.getfield 28, 3) := by decide +kernel
theorem d_C_length_37 : decode m_C_length.2.1 37 = .ok (.iconst 0, 1) := by decide +kernel
theorem d_C_length_38 : decode m_C_length.2.1 38 = .ok (.aaload, 1) := by decide +kernel
theorem d_C_length_39 : decode m_C_length.2.1 39 = .ok (.aload_n 0, 1) := by decide +kernel
theorem d_C_length_40 : decode m_C_length.2.1 40 = .ok (.getfield 19, 3) := by decide +kernel
theorem d_C_length_43 : decode m_C_length.2.1 43 = .ok (.iload_n 1, 1) := by decide +kernel
theorem d_C_length_44 : decode m_C_length.2.1 44 = .ok (.iload_n 2, 1) := by decide +kernel
theorem d_C_length_45 : decode m_C_length.2.1 45 = .ok (.aload_n 0, 1) := by decide +kernel
theorem d_C_length_46 : decode m_C_length.2.1 46 = .ok (.getfield 49, 3) := by decide +kernel
theorem d_C_length_49 : decode m_C_length.2.1 49 = .ok (.invokevirtual 126, 3) := by decide +kernel
theorem d_C_length_52 : decode m_C_length.2.1 52 = .ok (.astore 4, 2) := by decide +kernel
theorem d_C_length_54 : decode m_C_length.2.1 54 = .ok (.iload_n 3, 1) := by decide +kernel
theorem d_C_length_55 : decode m_C_length.2.1 55 = .ok (.lookupswitch 37 #[(0, 25), (1, 31)], 25) := by decide +kernel
theorem d_C_length_80 : decode m_C_length.2.1 80 = .ok (.aload 4, 2) := by decide +kernel
theorem d_C_length_82 : decode m_C_length.2.1 82 = .ok (.getfield 134, 3) := by decide +kernel
theorem d_C_length_85 : decode m_C_length.2.1 85 = .ok (.ireturn, 1) := by decide +kernel
theorem d_C_length_86 : decode m_C_length.2.1 86 = .ok (.aload 4, 2) := by decide +kernel
theorem d_C_length_88 : decode m_C_length.2.1 88 = .ok (.getfield 130, 3) := by decide +kernel
theorem d_C_length_91 : decode m_C_length.2.1 91 = .ok (.ireturn, 1) := by decide +kernel
theorem d_C_length_92 : decode m_C_length.2.1 92 = .ok (.aload 4, 2) := by decide +kernel
theorem d_C_length_94 : decode m_C_length.2.1 94 = .ok (.getfield 137, 3) := by decide +kernel
theorem d_C_length_97 : decode m_C_length.2.1 97 = .ok (.ireturn, 1) := by decide +kernel
set_option maxHeartbeats 4000000 in
set_option maxRecDepth 20000 in
theorem c_C_length (G : Gt) (x1 : Int32) (x2 : Int32) (x3 : Int32) (h : Hp) : Cn G m_C_length [.ref (ad G 0), .int x1, .int x2, .int x3] h κi (f_C_length x1 x2 x3 h) := by
  refine entryV (by decide) (Nat.le_of_ble_eq_true rfl) rfl ?_
  show V G m_C_length 0 [(0, .ref (ad G 0)), (1, .int x1), (2, .int x2), (3, .int x3)] [] h κi _
  unfold f_C_length
  refine v_aload_n 0 d_C_length_0 rfl rfl ?_
  refine v_iload_n 1 d_C_length_1 rfl rfl ?_
  refine v_iload_n 2 d_C_length_2 rfl rfl ?_
  refine v_callVi (As := [.int x1, .int x2]) (rest := []) (c_C_canBeTold G x1 x2 h) co_C_122 io_C_canBeTold o_0 ⟨by decide, by decide⟩ rfl rfl (Nat.le_of_ble_eq_true rfl) d_C_length_3 (fun r1 h1 _ => ?_)
  refine v_if_eq 18 d_C_length_6 (by decide) (fun c2 => ?_) (fun c2 => ?_)
  · refine v_bipush (-2) d_C_length_18 rfl ?_
    exact v_iret rfl d_C_length_20
  · refine v_iload_n 3 d_C_length_9 rfl rfl ?_
    refine v_if_lt 18 d_C_length_10 (by decide) (fun c3 => ?_) (fun c3 => ?_)
    · refine v_bipush (-2) d_C_length_18 rfl ?_
      exact v_iret rfl d_C_length_20
    · refine v_iload_n 3 d_C_length_13 rfl rfl ?_
      refine v_iconst 2 d_C_length_14 rfl ?_
      refine v_icmp_le 21 d_C_length_15 (by decide) (fun c4 => ?_) (fun c4 => ?_)
      · refine v_aload_n 0 d_C_length_21 rfl rfl ?_
        refine v_iload_n 1 d_C_length_22 rfl rfl ?_
        refine v_callVi (As := [.int x1]) (rest := []) (c_C_isHidden G x1 h1) co_C_91 io_C_isHidden o_0 ⟨by decide, by decide⟩ rfl rfl (Nat.le_of_ble_eq_true rfl) d_C_length_23 (fun r5 h5 _ => ?_)
        refine v_if_eq 32 d_C_length_26 (by decide) (fun c6 => ?_) (fun c6 => ?_)
        · refine v_aload_n 0 d_C_length_32 rfl rfl ?_
          refine v_aload_n 0 d_C_length_33 rfl rfl ?_
          refine v_getr 9 fl_C_28 o_0 rfl rfl d_C_length_34 ?_
          refine v_iconst 0 d_C_length_37 rfl ?_
          refine v_aald2 15 rfl ar_9 d_C_length_38 (fun b7 => ?_)
          refine v_aload_n 0 d_C_length_39 rfl rfl ?_
          refine v_getr 3 fl_C_19 o_0 rfl rfl d_C_length_40 ?_
          refine v_iload_n 1 d_C_length_43 rfl rfl ?_
          refine v_iload_n 2 d_C_length_44 rfl rfl ?_
          refine v_aload_n 0 d_C_length_45 rfl rfl ?_
          refine v_geti fl_C_49 o_0 rfl d_C_length_46 ?_
          refine v_callVr (As := [.ref (ad G 15), .ref (ad G 3), .int x1, .int x2, .int (h5 0 7)]) (rest := []) (c_C_lay G 15 3 x1 x2 (h5 0 7) o_15 o_3 h5) co_C_126 io_C_lay o_0 ⟨by decide, by decide⟩ rfl rfl (Nat.le_of_ble_eq_true rfl) d_C_length_49 (fun r8 h8 z8 => ?_)
          have e8 := lay_isO o_15 z8
          refine v_astore [(4, .ref (ad G r8)), (0, .ref (ad G 0)), (1, .int x1), (2, .int x2), (3, .int x3)] d_C_length_52 (by decide) rfl ?_
          refine v_iload_n 4 d_C_length_54 rfl rfl ?_
          refine v_ite (fun c9 => ?_) (fun c9 => ?_)
          · refine v_lookup (off := 25) 80 d_C_length_55 rfl (by rw [c9]; rfl) (by decide) ?_
            refine v_aload 0 d_C_length_80 rfl ?_
            refine v_geti fl_C_134 e8 rfl d_C_length_82 ?_
            exact v_iret rfl d_C_length_85
          · refine v_ite (fun c10 => ?_) (fun c10 => ?_)
            · refine v_lookup (off := 31) 86 d_C_length_55 rfl (by rw [c10]; rfl) (by decide) ?_
              refine v_aload 0 d_C_length_86 rfl ?_
              refine v_geti fl_C_130 e8 rfl d_C_length_88 ?_
              exact v_iret rfl d_C_length_91
            · refine v_lookup (off := 37) 92 d_C_length_55 rfl (by show Op.lookupswitch.offset [(0, 25), (1, 31)] 37 _ = _; rw [lv_osw (a := 0) c9 rfl, lv_osw (a := 1) c10 rfl]; rfl) (by decide) ?_
              refine v_aload 0 d_C_length_92 rfl ?_
              refine v_geti fl_C_137 e8 rfl d_C_length_94 ?_
              exact v_iret rfl d_C_length_97
        · refine v_bipush (-3) d_C_length_29 rfl ?_
          exact v_iret rfl d_C_length_31
      · refine v_bipush (-2) d_C_length_18 rfl ?_
        exact v_iret rfl d_C_length_20
theorem d_Fr_overlap_0 : decode m_Fr_overlap.2.1 0 = .ok (.iload_n 0, 1) := by decide +kernel
theorem d_Fr_overlap_1 : decode m_Fr_overlap.2.1 1 = .ok (.iload_n 1, 1) := by decide +kernel
theorem d_Fr_overlap_2 : decode m_Fr_overlap.2.1 2 = .ok (.invokestatic 50, 3) := by decide +kernel
theorem d_Fr_overlap_5 : decode m_Fr_overlap.2.1 5 = .ok (.iload_n 2, 1) := by decide +kernel
theorem d_Fr_overlap_6 : decode m_Fr_overlap.2.1 6 = .ok (.iload_n 3, 1) := by decide +kernel
theorem d_Fr_overlap_7 : decode m_Fr_overlap.2.1 7 = .ok (.invokestatic 53, 3) := by decide +kernel
theorem d_Fr_overlap_10 : decode m_Fr_overlap.2.1 10 = .ok (.if_icmp .lt 20, 3) := by decide +kernel
theorem d_Fr_overlap_13 : decode m_Fr_overlap.2.1 13 = .ok (.iload_n 2, 1) := by decide +kernel
theorem d_Fr_overlap_14 : decode m_Fr_overlap.2.1 14 = .ok (.iload_n 3, 1) := by decide +kernel
theorem d_Fr_overlap_15 : decode m_Fr_overlap.2.1 15 = .ok (.invokestatic 50, 3) := by decide +kernel
theorem d_Fr_overlap_18 : decode m_Fr_overlap.2.1 18 = .ok (.iload_n 0, 1) := by decide +kernel
theorem d_Fr_overlap_19 : decode m_Fr_overlap.2.1 19 = .ok (.iload_n 1, 1) := by decide +kernel
theorem d_Fr_overlap_20 : decode m_Fr_overlap.2.1 20 = .ok (.invokestatic 53, 3) := by decide +kernel
theorem d_Fr_overlap_23 : decode m_Fr_overlap.2.1 23 = .ok (.if_icmp .lt 7, 3) := by decide +kernel
theorem d_Fr_overlap_26 : decode m_Fr_overlap.2.1 26 = .ok (.iconst 1, 1) := by decide +kernel
theorem d_Fr_overlap_27 : decode m_Fr_overlap.2.1 27 = .ok (.goto 4, 3) := by decide +kernel
theorem d_Fr_overlap_30 : decode m_Fr_overlap.2.1 30 = .ok (.iconst 0, 1) := by decide +kernel
theorem d_Fr_overlap_31 : decode m_Fr_overlap.2.1 31 = .ok (.ireturn, 1) := by decide +kernel
set_option maxHeartbeats 4000000 in
set_option maxRecDepth 20000 in
theorem c_Fr_overlap (G : Gt) (x0 : Int32) (x1 : Int32) (x2 : Int32) (x3 : Int32) (h : Hp) : Cn G m_Fr_overlap [.int x0, .int x1, .int x2, .int x3] h κi (f_Fr_overlap x0 x1 x2 x3 h) := by
  refine entryV (by decide) (Nat.le_of_ble_eq_true rfl) rfl ?_
  show V G m_Fr_overlap 0 [(0, .int x0), (1, .int x1), (2, .int x2), (3, .int x3)] [] h κi _
  unfold f_Fr_overlap
  refine v_iload_n 0 d_Fr_overlap_0 rfl rfl ?_
  refine v_iload_n 1 d_Fr_overlap_1 rfl rfl ?_
  refine v_mmax (mem_t 313 (by decide +kernel) rfl) ⟨by decide, by decide⟩ (Nat.le_of_ble_eq_true rfl) d_Fr_overlap_2 ?_
  refine v_iload_n 2 d_Fr_overlap_5 rfl rfl ?_
  refine v_iload_n 3 d_Fr_overlap_6 rfl rfl ?_
  refine v_mmin (mem_t 316 (by decide +kernel) rfl) ⟨by decide, by decide⟩ (Nat.le_of_ble_eq_true rfl) d_Fr_overlap_7 ?_
  refine v_icmp_lt 30 d_Fr_overlap_10 (by decide) (fun c3 => ?_) (fun c3 => ?_)
  · refine v_iconst 0 d_Fr_overlap_30 rfl ?_
    exact v_zretL rfl rfl d_Fr_overlap_31
  · refine v_iload_n 2 d_Fr_overlap_13 rfl rfl ?_
    refine v_iload_n 3 d_Fr_overlap_14 rfl rfl ?_
    refine v_mmax (mem_t 313 (by decide +kernel) rfl) ⟨by decide, by decide⟩ (Nat.le_of_ble_eq_true rfl) d_Fr_overlap_15 ?_
    refine v_iload_n 0 d_Fr_overlap_18 rfl rfl ?_
    refine v_iload_n 1 d_Fr_overlap_19 rfl rfl ?_
    refine v_mmin (mem_t 316 (by decide +kernel) rfl) ⟨by decide, by decide⟩ (Nat.le_of_ble_eq_true rfl) d_Fr_overlap_20 ?_
    refine v_icmp_lt 30 d_Fr_overlap_23 (by decide) (fun c6 => ?_) (fun c6 => ?_)
    · refine v_iconst 0 d_Fr_overlap_30 rfl ?_
      exact v_zretL rfl rfl d_Fr_overlap_31
    · refine v_iconst 1 d_Fr_overlap_26 rfl ?_
      refine v_goto 31 d_Fr_overlap_27 (by decide) ?_
      exact v_zretL rfl rfl d_Fr_overlap_31
theorem d_Fr_side_0 : decode m_Fr_side.2.1 0 = .ok (.aload_n 0, 1) := by decide +kernel
theorem d_Fr_side_1 : decode m_Fr_side.2.1 1 = .ok (.getfield 9, 3) := by decide +kernel
theorem d_Fr_side_4 : decode m_Fr_side.2.1 4 = .ok (.iload_n 2, 1) := by decide +kernel
theorem d_Fr_side_5 : decode m_Fr_side.2.1 5 = .ok (.iaload, 1) := by decide +kernel
theorem d_Fr_side_6 : decode m_Fr_side.2.1 6 = .ok (.aload_n 0, 1) := by decide +kernel
theorem d_Fr_side_7 : decode m_Fr_side.2.1 7 = .ok (.getfield 9, 3) := by decide +kernel
theorem d_Fr_side_10 : decode m_Fr_side.2.1 10 = .ok (.iload_n 1, 1) := by decide +kernel
theorem d_Fr_side_11 : decode m_Fr_side.2.1 11 = .ok (.iaload, 1) := by decide +kernel
theorem d_Fr_side_12 : decode m_Fr_side.2.1 12 = .ok (.isub, 1) := by decide +kernel
theorem d_Fr_side_13 : decode m_Fr_side.2.1 13 = .ok (.aload_n 0, 1) := by decide +kernel
theorem d_Fr_side_14 : decode m_Fr_side.2.1 14 = .ok (.getfield 15, 3) := by decide +kernel
theorem d_Fr_side_17 : decode m_Fr_side.2.1 17 = .ok (.iload_n 3, 1) := by decide +kernel
theorem d_Fr_side_18 : decode m_Fr_side.2.1 18 = .ok (.iaload, 1) := by decide +kernel
theorem d_Fr_side_19 : decode m_Fr_side.2.1 19 = .ok (.aload_n 0, 1) := by decide +kernel
theorem d_Fr_side_20 : decode m_Fr_side.2.1 20 = .ok (.getfield 15, 3) := by decide +kernel
theorem d_Fr_side_23 : decode m_Fr_side.2.1 23 = .ok (.iload_n 1, 1) := by decide +kernel
theorem d_Fr_side_24 : decode m_Fr_side.2.1 24 = .ok (.iaload, 1) := by decide +kernel
theorem d_Fr_side_25 : decode m_Fr_side.2.1 25 = .ok (.isub, 1) := by decide +kernel
theorem d_Fr_side_26 : decode m_Fr_side.2.1 26 = .ok (.imul, 1) := by decide +kernel
theorem d_Fr_side_27 : decode m_Fr_side.2.1 27 = .ok (.aload_n 0, 1) := by decide +kernel
theorem d_Fr_side_28 : decode m_Fr_side.2.1 28 = .ok (.getfield 15, 3) := by decide +kernel
theorem d_Fr_side_31 : decode m_Fr_side.2.1 31 = .ok (.iload_n 2, 1) := by decide +kernel
theorem d_Fr_side_32 : decode m_Fr_side.2.1 32 = .ok (.iaload, 1) := by decide +kernel
theorem d_Fr_side_33 : decode m_Fr_side.2.1 33 = .ok (.aload_n 0, 1) := by decide +kernel
theorem d_Fr_side_34 : decode m_Fr_side.2.1 34 = .ok (.getfield 15, 3) := by decide +kernel
theorem d_Fr_side_37 : decode m_Fr_side.2.1 37 = .ok (.iload_n 1, 1) := by decide +kernel
theorem d_Fr_side_38 : decode m_Fr_side.2.1 38 = .ok (.iaload, 1) := by decide +kernel
theorem d_Fr_side_39 : decode m_Fr_side.2.1 39 = .ok (.isub, 1) := by decide +kernel
theorem d_Fr_side_40 : decode m_Fr_side.2.1 40 = .ok (.aload_n 0, 1) := by decide +kernel
theorem d_Fr_side_41 : decode m_Fr_side.2.1 41 = .ok (.getfield 9, 3) := by decide +kernel
theorem d_Fr_side_44 : decode m_Fr_side.2.1 44 = .ok (.iload_n 3, 1) := by decide +kernel
theorem d_Fr_side_45 : decode m_Fr_side.2.1 45 = .ok (.iaload, 1) := by decide +kernel
theorem d_Fr_side_46 : decode m_Fr_side.2.1 46 = .ok (.aload_n 0, 1) := by decide +kernel
theorem d_Fr_side_47 : decode m_Fr_side.2.1 47 = .ok (.getfield 9, 3) := by decide +kernel
theorem d_Fr_side_50 : decode m_Fr_side.2.1 50 = .ok (.iload_n 1, 1) := by decide +kernel
theorem d_Fr_side_51 : decode m_Fr_side.2.1 51 = .ok (.iaload, 1) := by decide +kernel
theorem d_Fr_side_52 : decode m_Fr_side.2.1 52 = .ok (.isub, 1) := by decide +kernel
theorem d_Fr_side_53 : decode m_Fr_side.2.1 53 = .ok (.imul, 1) := by decide +kernel
theorem d_Fr_side_54 : decode m_Fr_side.2.1 54 = .ok (.isub, 1) := by decide +kernel
theorem d_Fr_side_55 : decode m_Fr_side.2.1 55 = .ok (.ireturn, 1) := by decide +kernel
set_option maxHeartbeats 4000000 in
set_option maxRecDepth 20000 in
theorem c_Fr_side (G : Gt) (a0 : Nat) (x1 : Int32) (x2 : Int32) (x3 : Int32) (ha0 : isO 0 a0) (h : Hp) : Cn G m_Fr_side [.ref (ad G a0), .int x1, .int x2, .int x3] h κi (f_Fr_side a0 x1 x2 x3 h) := by
  refine entryV (by decide) (Nat.le_of_ble_eq_true rfl) rfl ?_
  show V G m_Fr_side 0 [(0, .ref (ad G a0)), (1, .int x1), (2, .int x2), (3, .int x3)] [] h κi _
  unfold f_Fr_side
  refine v_aload_n 0 d_Fr_side_0 rfl rfl ?_
  refine v_getr (a0 + 1) fl_Fr_9 ha0 rfl rfl d_Fr_side_1 ?_
  refine v_iload_n 2 d_Fr_side_4 rfl rfl ?_
  refine v_iald ((frA ha0).1) d_Fr_side_5 ?_
  refine v_aload_n 0 d_Fr_side_6 rfl rfl ?_
  refine v_getr (a0 + 1) fl_Fr_9 ha0 rfl rfl d_Fr_side_7 ?_
  refine v_iload_n 1 d_Fr_side_10 rfl rfl ?_
  refine v_iald ((frA ha0).1) d_Fr_side_11 ?_
  refine v_isub d_Fr_side_12 ?_
  refine v_aload_n 0 d_Fr_side_13 rfl rfl ?_
  refine v_getr (a0 + 2) fl_Fr_15 ha0 rfl rfl d_Fr_side_14 ?_
  refine v_iload_n 3 d_Fr_side_17 rfl rfl ?_
  refine v_iald ((frA ha0).2) d_Fr_side_18 ?_
  refine v_aload_n 0 d_Fr_side_19 rfl rfl ?_
  refine v_getr (a0 + 2) fl_Fr_15 ha0 rfl rfl d_Fr_side_20 ?_
  refine v_iload_n 1 d_Fr_side_23 rfl rfl ?_
  refine v_iald ((frA ha0).2) d_Fr_side_24 ?_
  refine v_isub d_Fr_side_25 ?_
  refine v_imul d_Fr_side_26 ?_
  refine v_aload_n 0 d_Fr_side_27 rfl rfl ?_
  refine v_getr (a0 + 2) fl_Fr_15 ha0 rfl rfl d_Fr_side_28 ?_
  refine v_iload_n 2 d_Fr_side_31 rfl rfl ?_
  refine v_iald ((frA ha0).2) d_Fr_side_32 ?_
  refine v_aload_n 0 d_Fr_side_33 rfl rfl ?_
  refine v_getr (a0 + 2) fl_Fr_15 ha0 rfl rfl d_Fr_side_34 ?_
  refine v_iload_n 1 d_Fr_side_37 rfl rfl ?_
  refine v_iald ((frA ha0).2) d_Fr_side_38 ?_
  refine v_isub d_Fr_side_39 ?_
  refine v_aload_n 0 d_Fr_side_40 rfl rfl ?_
  refine v_getr (a0 + 1) fl_Fr_9 ha0 rfl rfl d_Fr_side_41 ?_
  refine v_iload_n 3 d_Fr_side_44 rfl rfl ?_
  refine v_iald ((frA ha0).1) d_Fr_side_45 ?_
  refine v_aload_n 0 d_Fr_side_46 rfl rfl ?_
  refine v_getr (a0 + 1) fl_Fr_9 ha0 rfl rfl d_Fr_side_47 ?_
  refine v_iload_n 1 d_Fr_side_50 rfl rfl ?_
  refine v_iald ((frA ha0).1) d_Fr_side_51 ?_
  refine v_isub d_Fr_side_52 ?_
  refine v_imul d_Fr_side_53 ?_
  refine v_isub d_Fr_side_54 ?_
  exact v_iret rfl d_Fr_side_55
theorem d_Fr_meet_0 : decode m_Fr_meet.2.1 0 = .ok (.aload_n 0, 1) := by decide +kernel
theorem d_Fr_meet_1 : decode m_Fr_meet.2.1 1 = .ok (.getfield 9, 3) := by decide +kernel
theorem d_Fr_meet_4 : decode m_Fr_meet.2.1 4 = .ok (.iload_n 1, 1) := by decide +kernel
theorem d_Fr_meet_5 : decode m_Fr_meet.2.1 5 = .ok (.iaload, 1) := by decide +kernel
theorem d_Fr_meet_6 : decode m_Fr_meet.2.1 6 = .ok (.aload_n 0, 1) := by decide +kernel
theorem d_Fr_meet_7 : decode m_Fr_meet.2.1 7 = .ok (.getfield 9, 3) := by decide +kernel
theorem d_Fr_meet_10 : decode m_Fr_meet.2.1 10 = .ok (.iload_n 2, 1) := by decide +kernel
theorem d_Fr_meet_11 : decode m_Fr_meet.2.1 11 = .ok (.iaload, 1) := by decide +kernel
theorem d_Fr_meet_12 : decode m_Fr_meet.2.1 12 = .ok (.aload_n 0, 1) := by decide +kernel
theorem d_Fr_meet_13 : decode m_Fr_meet.2.1 13 = .ok (.getfield 9, 3) := by decide +kernel
theorem d_Fr_meet_16 : decode m_Fr_meet.2.1 16 = .ok (.iload_n 3, 1) := by decide +kernel
theorem d_Fr_meet_17 : decode m_Fr_meet.2.1 17 = .ok (.iaload, 1) := by decide +kernel
theorem d_Fr_meet_18 : decode m_Fr_meet.2.1 18 = .ok (.aload_n 0, 1) := by decide +kernel
theorem d_Fr_meet_19 : decode m_Fr_meet.2.1 19 = .ok (.getfield 9, 3) := by decide +kernel
theorem d_Fr_meet_22 : decode m_Fr_meet.2.1 22 = .ok (.iload 4, 2) := by decide +kernel
theorem d_Fr_meet_24 : decode m_Fr_meet.2.1 24 = .ok (.iaload, 1) := by decide +kernel
theorem d_Fr_meet_25 : decode m_Fr_meet.2.1 25 = .ok (.invokestatic 42, 3) := by decide +kernel
theorem d_Fr_meet_28 : decode m_Fr_meet.2.1 28 = .ok (.ifCond .eq 77, 3) := by decide +kernel
theorem d_Fr_meet_31 : decode m_Fr_meet.2.1 31 = .ok (.aload_n 0, 1) := by decide +kernel
theorem d_Fr_meet_32 : decode m_Fr_meet.2.1 32 = .ok (.getfield 15, 3) := by decide +kernel
theorem d_Fr_meet_35 : decode m_Fr_meet.2.1 35 = .ok (.iload_n 1, 1) := by decide +kernel
theorem d_Fr_meet_36 : decode m_Fr_meet.2.1 36 = .ok (.iaload, 1) := by decide +kernel
theorem d_Fr_meet_37 : decode m_Fr_meet.2.1 37 = .ok (.aload_n 0, 1) := by decide +kernel
theorem d_Fr_meet_38 : decode m_Fr_meet.2.1 38 = .ok (.getfield 15, 3) := by decide +kernel
theorem d_Fr_meet_41 : decode m_Fr_meet.2.1 41 = .ok (.iload_n 2, 1) := by decide +kernel
theorem d_Fr_meet_42 : decode m_Fr_meet.2.1 42 = .ok (.iaload, 1) := by decide +kernel
theorem d_Fr_meet_43 : decode m_Fr_meet.2.1 43 = .ok (.aload_n 0, 1) := by decide +kernel
theorem d_Fr_meet_44 : decode m_Fr_meet.2.1 44 = .ok (.getfield 15, 3) := by decide +kernel
theorem d_Fr_meet_47 : decode m_Fr_meet.2.1 47 = .ok (.iload_n 3, 1) := by decide +kernel
theorem d_Fr_meet_48 : decode m_Fr_meet.2.1 48 = .ok (.iaload, 1) := by decide +kernel
theorem d_Fr_meet_49 : decode m_Fr_meet.2.1 49 = .ok (.aload_n 0, 1) := by decide +kernel
theorem d_Fr_meet_50 : decode m_Fr_meet.2.1 50 = .ok (.getfield 15, 3) := by decide +kernel
theorem d_Fr_meet_53 : decode m_Fr_meet.2.1 53 = .ok (.iload 4, 2) := by decide +kernel
theorem d_Fr_meet_55 : decode m_Fr_meet.2.1 55 = .ok (.iaload, 1) := by decide +kernel
theorem d_Fr_meet_56 : decode m_Fr_meet.2.1 56 = .ok (.invokestatic 42, 3) := by decide +kernel
theorem d_Fr_meet_59 : decode m_Fr_meet.2.1 59 = .ok (.ifCond .eq 46, 3) := by decide +kernel
theorem d_Fr_meet_62 : decode m_Fr_meet.2.1 62 = .ok (.aload_n 0, 1) := by decide +kernel
theorem d_Fr_meet_63 : decode m_Fr_meet.2.1 63 = .ok (.iload_n 1, 1) := by decide +kernel
theorem d_Fr_meet_64 : decode m_Fr_meet.2.1 64 = .ok (.iload_n 2, 1) := by decide +kernel
theorem d_Fr_meet_65 : decode m_Fr_meet.2.1 65 = .ok (.iload_n 3, 1) := by decide +kernel
theorem d_Fr_meet_66 : decode m_Fr_meet.2.1 66 = .ok (.invokevirtual 46, 3) := by decide +kernel
theorem d_Fr_meet_69 : decode m_Fr_meet.2.1 69 = .ok (.aload_n 0, 1) := by decide +kernel
theorem d_Fr_meet_70 : decode m_Fr_meet.2.1 70 = .ok (.iload_n 1, 1) := by decide +kernel
theorem d_Fr_meet_71 : decode m_Fr_meet.2.1 71 = .ok (.iload_n 2, 1) := by decide +kernel
theorem d_Fr_meet_72 : decode m_Fr_meet.2.1 72 = .ok (.iload 4, 2) := by decide +kernel
theorem d_Fr_meet_74 : decode m_Fr_meet.2.1 74 = .ok (.invokevirtual 46, 3) := by decide +kernel
theorem d_Fr_meet_77 : decode m_Fr_meet.2.1 77 = .ok (.imul, 1) := by decide +kernel
theorem d_Fr_meet_78 : decode m_Fr_meet.2.1 78 = .ok (.ifCond .gt 27, 3) := by decide +kernel
theorem d_Fr_meet_81 : decode m_Fr_meet.2.1 81 = .ok (.aload_n 0, 1) := by decide +kernel
theorem d_Fr_meet_82 : decode m_Fr_meet.2.1 82 = .ok (.iload_n 3, 1) := by decide +kernel
theorem d_Fr_meet_83 : decode m_Fr_meet.2.1 83 = .ok (.iload 4, 2) := by decide +kernel
theorem d_Fr_meet_85 : decode m_Fr_meet.2.1 85 = .ok (.iload_n 1, 1) := by decide +kernel
theorem d_Fr_meet_86 : decode m_Fr_meet.2.1 86 = .ok (.invokevirtual 46, 3) := by decide +kernel
theorem d_Fr_meet_89 : decode m_Fr_meet.2.1 89 = .ok (.aload_n 0, 1) := by decide +kernel
theorem d_Fr_meet_90 : decode m_Fr_meet.2.1 90 = .ok (.iload_n 3, 1) := by decide +kernel
theorem d_Fr_meet_91 : decode m_Fr_meet.2.1 91 = .ok (.iload 4, 2) := by decide +kernel
theorem d_Fr_meet_93 : decode m_Fr_meet.2.1 93 = .ok (.iload_n 2, 1) := by decide +kernel
theorem d_Fr_meet_94 : decode m_Fr_meet.2.1 94 = .ok (.invokevirtual 46, 3) := by decide +kernel
theorem d_Fr_meet_97 : decode m_Fr_meet.2.1 97 = .ok (.imul, 1) := by decide +kernel
theorem d_Fr_meet_98 : decode m_Fr_meet.2.1 98 = .ok (.ifCond .gt 7, 3) := by decide +kernel
theorem d_Fr_meet_101 : decode m_Fr_meet.2.1 101 = .ok (.iconst 1, 1) := by decide +kernel
theorem d_Fr_meet_102 : decode m_Fr_meet.2.1 102 = .ok (.goto 4, 3) := by decide +kernel
theorem d_Fr_meet_105 : decode m_Fr_meet.2.1 105 = .ok (.iconst 0, 1) := by decide +kernel
theorem d_Fr_meet_106 : decode m_Fr_meet.2.1 106 = .ok (.ireturn, 1) := by decide +kernel
set_option maxHeartbeats 4000000 in
set_option maxRecDepth 20000 in
theorem c_Fr_meet (G : Gt) (a0 : Nat) (x1 : Int32) (x2 : Int32) (x3 : Int32) (x4 : Int32) (ha0 : isO 0 a0) (h : Hp) : Cn G m_Fr_meet [.ref (ad G a0), .int x1, .int x2, .int x3, .int x4] h κi (f_Fr_meet a0 x1 x2 x3 x4 h) := by
  refine entryV (by decide) (Nat.le_of_ble_eq_true rfl) rfl ?_
  show V G m_Fr_meet 0 [(0, .ref (ad G a0)), (1, .int x1), (2, .int x2), (3, .int x3), (4, .int x4)] [] h κi _
  unfold f_Fr_meet
  refine v_aload_n 0 d_Fr_meet_0 rfl rfl ?_
  refine v_getr (a0 + 1) fl_Fr_9 ha0 rfl rfl d_Fr_meet_1 ?_
  refine v_iload_n 1 d_Fr_meet_4 rfl rfl ?_
  refine v_iald ((frA ha0).1) d_Fr_meet_5 ?_
  refine v_aload_n 0 d_Fr_meet_6 rfl rfl ?_
  refine v_getr (a0 + 1) fl_Fr_9 ha0 rfl rfl d_Fr_meet_7 ?_
  refine v_iload_n 2 d_Fr_meet_10 rfl rfl ?_
  refine v_iald ((frA ha0).1) d_Fr_meet_11 ?_
  refine v_aload_n 0 d_Fr_meet_12 rfl rfl ?_
  refine v_getr (a0 + 1) fl_Fr_9 ha0 rfl rfl d_Fr_meet_13 ?_
  refine v_iload_n 3 d_Fr_meet_16 rfl rfl ?_
  refine v_iald ((frA ha0).1) d_Fr_meet_17 ?_
  refine v_aload_n 0 d_Fr_meet_18 rfl rfl ?_
  refine v_getr (a0 + 1) fl_Fr_9 ha0 rfl rfl d_Fr_meet_19 ?_
  refine v_iload 4 d_Fr_meet_22 rfl ?_
  refine v_iald ((frA ha0).1) d_Fr_meet_24 ?_
  refine v_callSi (As := [.int (h (a0 + 1) (ix x1)), .int (h (a0 + 1) (ix x2)), .int (h (a0 + 1) (ix x3)), .int (h (a0 + 1) (ix x4))]) (rest := []) (c_Fr_overlap G (h (a0 + 1) (ix x1)) (h (a0 + 1) (ix x2)) (h (a0 + 1) (ix x3)) (h (a0 + 1) (ix x4)) h) co_Fr_42 so_Fr_overlap ⟨by decide, by decide⟩ rfl rfl (Nat.le_of_ble_eq_true rfl) d_Fr_meet_25 (fun r1 h1 _ => ?_)
  refine v_if_eq 105 d_Fr_meet_28 (by decide) (fun c2 => ?_) (fun c2 => ?_)
  · refine v_iconst 0 d_Fr_meet_105 rfl ?_
    exact v_zretL rfl rfl d_Fr_meet_106
  · refine v_aload_n 0 d_Fr_meet_31 rfl rfl ?_
    refine v_getr (a0 + 2) fl_Fr_15 ha0 rfl rfl d_Fr_meet_32 ?_
    refine v_iload_n 1 d_Fr_meet_35 rfl rfl ?_
    refine v_iald ((frA ha0).2) d_Fr_meet_36 ?_
    refine v_aload_n 0 d_Fr_meet_37 rfl rfl ?_
    refine v_getr (a0 + 2) fl_Fr_15 ha0 rfl rfl d_Fr_meet_38 ?_
    refine v_iload_n 2 d_Fr_meet_41 rfl rfl ?_
    refine v_iald ((frA ha0).2) d_Fr_meet_42 ?_
    refine v_aload_n 0 d_Fr_meet_43 rfl rfl ?_
    refine v_getr (a0 + 2) fl_Fr_15 ha0 rfl rfl d_Fr_meet_44 ?_
    refine v_iload_n 3 d_Fr_meet_47 rfl rfl ?_
    refine v_iald ((frA ha0).2) d_Fr_meet_48 ?_
    refine v_aload_n 0 d_Fr_meet_49 rfl rfl ?_
    refine v_getr (a0 + 2) fl_Fr_15 ha0 rfl rfl d_Fr_meet_50 ?_
    refine v_iload 4 d_Fr_meet_53 rfl ?_
    refine v_iald ((frA ha0).2) d_Fr_meet_55 ?_
    refine v_callSi (As := [.int (h1 (a0 + 2) (ix x1)), .int (h1 (a0 + 2) (ix x2)), .int (h1 (a0 + 2) (ix x3)), .int (h1 (a0 + 2) (ix x4))]) (rest := []) (c_Fr_overlap G (h1 (a0 + 2) (ix x1)) (h1 (a0 + 2) (ix x2)) (h1 (a0 + 2) (ix x3)) (h1 (a0 + 2) (ix x4)) h1) co_Fr_42 so_Fr_overlap ⟨by decide, by decide⟩ rfl rfl (Nat.le_of_ble_eq_true rfl) d_Fr_meet_56 (fun r3 h3 _ => ?_)
    refine v_if_eq 105 d_Fr_meet_59 (by decide) (fun c4 => ?_) (fun c4 => ?_)
    · refine v_iconst 0 d_Fr_meet_105 rfl ?_
      exact v_zretL rfl rfl d_Fr_meet_106
    · refine v_aload_n 0 d_Fr_meet_62 rfl rfl ?_
      refine v_iload_n 1 d_Fr_meet_63 rfl rfl ?_
      refine v_iload_n 2 d_Fr_meet_64 rfl rfl ?_
      refine v_iload_n 3 d_Fr_meet_65 rfl rfl ?_
      refine v_callVi (As := [.int x1, .int x2, .int x3]) (rest := []) (c_Fr_side G a0 x1 x2 x3 ha0 h3) co_Fr_46 io_Fr_side ha0 ⟨by decide, by decide⟩ rfl rfl (Nat.le_of_ble_eq_true rfl) d_Fr_meet_66 (fun r5 h5 _ => ?_)
      refine v_aload_n 0 d_Fr_meet_69 rfl rfl ?_
      refine v_iload_n 1 d_Fr_meet_70 rfl rfl ?_
      refine v_iload_n 2 d_Fr_meet_71 rfl rfl ?_
      refine v_iload 4 d_Fr_meet_72 rfl ?_
      refine v_callVi (As := [.int x1, .int x2, .int x4]) (rest := [.int r5]) (c_Fr_side G a0 x1 x2 x4 ha0 h5) co_Fr_46 io_Fr_side ha0 ⟨by decide, by decide⟩ rfl rfl (Nat.le_of_ble_eq_true rfl) d_Fr_meet_74 (fun r6 h6 _ => ?_)
      refine v_imul d_Fr_meet_77 ?_
      refine v_if_gt 105 d_Fr_meet_78 (by decide) (fun c7 => ?_) (fun c7 => ?_)
      · refine v_iconst 0 d_Fr_meet_105 rfl ?_
        exact v_zretL rfl rfl d_Fr_meet_106
      · refine v_aload_n 0 d_Fr_meet_81 rfl rfl ?_
        refine v_iload_n 3 d_Fr_meet_82 rfl rfl ?_
        refine v_iload 4 d_Fr_meet_83 rfl ?_
        refine v_iload_n 1 d_Fr_meet_85 rfl rfl ?_
        refine v_callVi (As := [.int x3, .int x4, .int x1]) (rest := []) (c_Fr_side G a0 x3 x4 x1 ha0 h6) co_Fr_46 io_Fr_side ha0 ⟨by decide, by decide⟩ rfl rfl (Nat.le_of_ble_eq_true rfl) d_Fr_meet_86 (fun r8 h8 _ => ?_)
        refine v_aload_n 0 d_Fr_meet_89 rfl rfl ?_
        refine v_iload_n 3 d_Fr_meet_90 rfl rfl ?_
        refine v_iload 4 d_Fr_meet_91 rfl ?_
        refine v_iload_n 2 d_Fr_meet_93 rfl rfl ?_
        refine v_callVi (As := [.int x3, .int x4, .int x2]) (rest := [.int r8]) (c_Fr_side G a0 x3 x4 x2 ha0 h8) co_Fr_46 io_Fr_side ha0 ⟨by decide, by decide⟩ rfl rfl (Nat.le_of_ble_eq_true rfl) d_Fr_meet_94 (fun r9 h9 _ => ?_)
        refine v_imul d_Fr_meet_97 ?_
        refine v_if_gt 105 d_Fr_meet_98 (by decide) (fun c10 => ?_) (fun c10 => ?_)
        · refine v_iconst 0 d_Fr_meet_105 rfl ?_
          exact v_zretL rfl rfl d_Fr_meet_106
        · refine v_iconst 1 d_Fr_meet_101 rfl ?_
          refine v_goto 106 d_Fr_meet_102 (by decide) ?_
          exact v_zretL rfl rfl d_Fr_meet_106
theorem d_C_crosses_0 : decode m_C_crosses.2.1 0 = .ok (.aload_n 0, 1) := by decide +kernel
theorem d_C_crosses_1 : decode m_C_crosses.2.1 1 = .ok (.iload_n 1, 1) := by decide +kernel
theorem d_C_crosses_2 : decode m_C_crosses.2.1 2 = .ok (.iload_n 2, 1) := by decide +kernel
theorem d_C_crosses_3 : decode m_C_crosses.2.1 3 = .ok (.invokevirtual 122, 3) := by decide +kernel
theorem d_C_crosses_6 : decode m_C_crosses.2.1 6 = .ok (.ifCond .ne 6, 3) := by decide +kernel
theorem d_C_crosses_9 : decode m_C_crosses.2.1 9 = .ok (.bipush (-2), 2) := by decide +kernel
theorem d_C_crosses_11 : decode m_C_crosses.2.1 11 = .ok (.ireturn, 1) := by decide +kernel
theorem d_C_crosses_12 : decode m_C_crosses.2.1 12 = .ok (.aload_n 0, 1) := by decide +kernel
theorem d_C_crosses_13 : decode m_C_crosses.2.1 13 = .ok (.iload_n 1, 1) := by decide +kernel
theorem d_C_crosses_14 : decode m_C_crosses.2.1 14 = .ok (.invokevirtual 91, 3) := by decide +kernel
theorem d_C_crosses_17 : decode m_C_crosses.2.1 17 = .ok (.ifCond .eq 6, 3) := by decide +kernel
theorem d_C_crosses_20 : decode m_C_crosses.2.1 20 = .ok (.bipush (-3), 2) := by decide +kernel
theorem d_C_crosses_22 : decode m_C_crosses.2.1 22 = .ok (.ireturn, 1) := by decide +kernel
theorem d_C_crosses_23 : decode m_C_crosses.2.1 23 = .ok (.aload_n 0, 1) := by decide +kernel
theorem d_C_crosses_24 : decode m_C_crosses.2.1 24 = .ok (.aload_n 0, 1) := by decide +kernel
theorem d_C_crosses_25 : decode m_C_crosses.2.1 25 = .ok (.getfield 28, 3) := by decide +kernel
theorem d_C_crosses_28 : decode m_C_crosses.2.1 28 = .ok (.iconst 0, 1) := by decide +kernel
theorem d_C_crosses_29 : decode m_C_crosses.2.1 29 = .ok (.aaload, 1) := by decide +kernel
theorem d_C_crosses_30 : decode m_C_crosses.2.1 30 = .ok (.aload_n 0, 1) := by decide +kernel
theorem d_C_crosses_31 : decode m_C_crosses.2.1 31 = .ok (.getfield 19, 3) := by decide +kernel
theorem d_C_crosses_34 : decode m_C_crosses.2.1 34 = .ok (.iload_n 1, 1) := by decide +kernel
theorem d_C_crosses_35 : decode m_C_crosses.2.1 35 = .ok (.iload_n 2, 1) := by decide +kernel
theorem d_C_crosses_36 : decode m_C_crosses.2.1 36 = .ok (.aload_n 0, 1) := by decide +kernel
theorem d_C_crosses_37 : decode m_C_crosses.2.1 37 = .ok (.getfield 49, 3) := by decide +kernel
theorem d_C_crosses_40 : decode m_C_crosses.2.1 40 = .ok (.invokevirtual 126, 3) := by decide +kernel
theorem d_C_crosses_43 : decode m_C_crosses.2.1 43 = .ok (.astore_n 3, 1) := by decide +kernel
theorem d_C_crosses_44 : decode m_C_crosses.2.1 44 = .ok (.iconst 0, 1) := by decide +kernel
theorem d_C_crosses_45 : decode m_C_crosses.2.1 45 = .ok (.istore 4, 2) := by decide +kernel
theorem d_C_crosses_47 : decode m_C_crosses.2.1 47 = .ok (.iconst 0, 1) := by decide +kernel
theorem d_C_crosses_48 : decode m_C_crosses.2.1 48 = .ok (.istore 5, 2) := by decide +kernel
theorem d_C_crosses_50 : decode m_C_crosses.2.1 50 = .ok (.iload 5, 2) := by decide +kernel
theorem d_C_crosses_52 : decode m_C_crosses.2.1 52 = .ok (.iconst 1, 1) := by decide +kernel
theorem d_C_crosses_53 : decode m_C_crosses.2.1 53 = .ok (.iadd, 1) := by decide +kernel
theorem d_C_crosses_54 : decode m_C_crosses.2.1 54 = .ok (.aload_n 3, 1) := by decide +kernel
theorem d_C_crosses_55 : decode m_C_crosses.2.1 55 = .ok (.getfield 130, 3) := by decide +kernel
theorem d_C_crosses_58 : decode m_C_crosses.2.1 58 = .ok (.if_icmp .ge 77, 3) := by decide +kernel
theorem d_C_crosses_61 : decode m_C_crosses.2.1 61 = .ok (.iload 5, 2) := by decide +kernel
theorem d_C_crosses_63 : decode m_C_crosses.2.1 63 = .ok (.iconst 2, 1) := by decide +kernel
theorem d_C_crosses_64 : decode m_C_crosses.2.1 64 = .ok (.iadd, 1) := by decide +kernel
theorem d_C_crosses_65 : decode m_C_crosses.2.1 65 = .ok (.istore 6, 2) := by decide +kernel
theorem d_C_crosses_67 : decode m_C_crosses.2.1 67 = .ok (.iload 6, 2) := by decide +kernel
theorem d_C_crosses_69 : decode m_C_crosses.2.1 69 = .ok (.iconst 1, 1) := by decide +kernel
theorem d_C_crosses_70 : decode m_C_crosses.2.1 70 = .ok (.iadd, 1) := by decide +kernel
theorem d_C_crosses_71 : decode m_C_crosses.2.1 71 = .ok (.aload_n 3, 1) := by decide +kernel
theorem d_C_crosses_72 : decode m_C_crosses.2.1 72 = .ok (.getfield 130, 3) := by decide +kernel
theorem d_C_crosses_75 : decode m_C_crosses.2.1 75 = .ok (.if_icmp .ge 54, 3) := by decide +kernel
theorem d_C_crosses_78 : decode m_C_crosses.2.1 78 = .ok (.aload_n 0, 1) := by decide +kernel
theorem d_C_crosses_79 : decode m_C_crosses.2.1 79 = .ok (.getfield 19, 3) := by decide +kernel
theorem d_C_crosses_82 : decode m_C_crosses.2.1 82 = .ok (.aload_n 3, 1) := by decide +kernel
theorem d_C_crosses_83 : decode m_C_crosses.2.1 83 = .ok (.getfield 131, 3) := by decide +kernel
theorem d_C_crosses_86 : decode m_C_crosses.2.1 86 = .ok (.iload 5, 2) := by decide +kernel
theorem d_C_crosses_88 : decode m_C_crosses.2.1 88 = .ok (.iaload, 1) := by decide +kernel
theorem d_C_crosses_89 : decode m_C_crosses.2.1 89 = .ok (.aload_n 3, 1) := by decide +kernel
theorem d_C_crosses_90 : decode m_C_crosses.2.1 90 = .ok (.getfield 131, 3) := by decide +kernel
theorem d_C_crosses_93 : decode m_C_crosses.2.1 93 = .ok (.iload 5, 2) := by decide +kernel
theorem d_C_crosses_95 : decode m_C_crosses.2.1 95 = .ok (.iconst 1, 1) := by decide +kernel
theorem d_C_crosses_96 : decode m_C_crosses.2.1 96 = .ok (.iadd, 1) := by decide +kernel
theorem d_C_crosses_97 : decode m_C_crosses.2.1 97 = .ok (.iaload, 1) := by decide +kernel
theorem d_C_crosses_98 : decode m_C_crosses.2.1 98 = .ok (.aload_n 3, 1) := by decide +kernel
theorem d_C_crosses_99 : decode m_C_crosses.2.1 99 = .ok (.getfield 131, 3) := by decide +kernel
theorem d_C_crosses_102 : decode m_C_crosses.2.1 102 = .ok (.iload 6, 2) := by decide +kernel
theorem d_C_crosses_104 : decode m_C_crosses.2.1 104 = .ok (.iaload, 1) := by decide +kernel
theorem d_C_crosses_105 : decode m_C_crosses.2.1 105 = .ok (.aload_n 3, 1) := by decide +kernel
theorem d_C_crosses_106 : decode m_C_crosses.2.1 106 = .ok (.getfield 131, 3) := by decide +kernel
theorem d_C_crosses_109 : decode m_C_crosses.2.1 109 = .ok (.iload 6, 2) := by decide +kernel
theorem d_C_crosses_111 : decode m_C_crosses.2.1 111 = .ok (.iconst 1, 1) := by decide +kernel
theorem d_C_crosses_112 : decode m_C_crosses.2.1 112 = .ok (.iadd, 1) := by decide +kernel
theorem d_C_crosses_113 : decode m_C_crosses.2.1 113 = .ok (.iaload, 1) := by decide +kernel
theorem d_C_crosses_114 : decode m_C_crosses.2.1 114 = .ok (.invokevirtual 140, 3) := by decide +kernel
theorem d_C_crosses_117 : decode m_C_crosses.2.1 117 = .ok (.ifCond .eq 6, 3) := by decide +kernel
theorem d_C_crosses_120 : decode m_C_crosses.2.1 120 = .ok (.iinc 4 1, 3) := by decide +kernel
theorem d_C_crosses_123 : decode m_C_crosses.2.1 123 = .ok (.iinc 6 1, 3) := by decide +kernel
theorem d_C_crosses_126 : decode m_C_crosses.2.1 126 = .ok (.goto (-59), 3) := by decide +kernel
theorem d_C_crosses_129 : decode m_C_crosses.2.1 129 = .ok (.iinc 5 1, 3) := by decide +kernel
theorem d_C_crosses_132 : decode m_C_crosses.2.1 132 = .ok (.goto (-82), 3) := by decide +kernel
theorem d_C_crosses_135 : decode m_C_crosses.2.1 135 = .ok (.iload 4, 2) := by decide +kernel
theorem d_C_crosses_137 : decode m_C_crosses.2.1 137 = .ok (.ireturn, 1) := by decide +kernel
set_option maxHeartbeats 4000000 in
set_option maxRecDepth 20000 in
theorem Vl_C_crosses_67 (G : Gt) (K50 : Nat → Int32 → Int32 → Hp → Option (Int32 × Hp)) (hK50 : ∀ (a3 : Nat) (x4 : Int32) (x5 : Int32) (ha3 : isO 3 a3) (h : Hp), V G m_C_crosses 50 [(0, .ref (ad G 0)), (3, .ref (ad G a3)), (4, .int x4), (5, .int x5)] [] h κi (K50 a3 x4 x5 h)) : ∀ (n : Nat) (a3 : Nat) (x4 : Int32) (x5 : Int32) (x6 : Int32) (ha3 : isO 3 a3) (h : Hp), V G m_C_crosses 67 [(0, .ref (ad G 0)), (3, .ref (ad G a3)), (4, .int x4), (5, .int x5), (6, .int x6)] [] h κi (l_C_crosses_67 K50 n a3 x4 x5 x6 h) := by
  intro n
  induction n with
  | zero => intros; exact v_none
  | succ n ih =>
    intro a3 x4 x5 x6 ha3 h
    rw [l_C_crosses_67]
    refine v_iload 4 d_C_crosses_67 rfl ?_
    refine v_iconst 1 d_C_crosses_69 rfl ?_
    refine v_iadd d_C_crosses_70 ?_
    refine v_aload_n 1 d_C_crosses_71 rfl rfl ?_
    refine v_geti fl_C_130 ha3 rfl d_C_crosses_72 ?_
    refine v_icmp_ge 129 d_C_crosses_75 (by decide) (fun c8 => ?_) (fun c8 => ?_)
    · refine v_iinc (x5 + 1) 3 [(5, .int (x5 + 1)), (0, .ref (ad G 0)), (3, .ref (ad G a3)), (4, .int x4), (6, .int x6)] d_C_crosses_129 rfl rfl (by decide) rfl ?_
      refine v_goto 50 d_C_crosses_132 (by decide) ?_
      exact v_sub [1, 2, 3, 0] rfl (hK50 a3 x4 (x5 + 1) ha3 h)
    · refine v_aload_n 0 d_C_crosses_78 rfl rfl ?_
      refine v_getr 3 fl_C_19 o_0 rfl rfl d_C_crosses_79 ?_
      refine v_aload_n 1 d_C_crosses_82 rfl rfl ?_
      refine v_getr (a3 + 1) fl_C_131 ha3 rfl rfl d_C_crosses_83 ?_
      refine v_iload 3 d_C_crosses_86 rfl ?_
      refine v_iald (spA ha3) d_C_crosses_88 ?_
      refine v_aload_n 1 d_C_crosses_89 rfl rfl ?_
      refine v_getr (a3 + 1) fl_C_131 ha3 rfl rfl d_C_crosses_90 ?_
      refine v_iload 3 d_C_crosses_93 rfl ?_
      refine v_iconst 1 d_C_crosses_95 rfl ?_
      refine v_iadd d_C_crosses_96 ?_
      refine v_iald (spA ha3) d_C_crosses_97 ?_
      refine v_aload_n 1 d_C_crosses_98 rfl rfl ?_
      refine v_getr (a3 + 1) fl_C_131 ha3 rfl rfl d_C_crosses_99 ?_
      refine v_iload 4 d_C_crosses_102 rfl ?_
      refine v_iald (spA ha3) d_C_crosses_104 ?_
      refine v_aload_n 1 d_C_crosses_105 rfl rfl ?_
      refine v_getr (a3 + 1) fl_C_131 ha3 rfl rfl d_C_crosses_106 ?_
      refine v_iload 4 d_C_crosses_109 rfl ?_
      refine v_iconst 1 d_C_crosses_111 rfl ?_
      refine v_iadd d_C_crosses_112 ?_
      refine v_iald (spA ha3) d_C_crosses_113 ?_
      refine v_callVi (As := [.int (h (a3 + 1) (ix x5)), .int (h (a3 + 1) (ix (x5 + 1))), .int (h (a3 + 1) (ix x6)), .int (h (a3 + 1) (ix (x6 + 1)))]) (rest := []) (c_Fr_meet G 3 (h (a3 + 1) (ix x5)) (h (a3 + 1) (ix (x5 + 1))) (h (a3 + 1) (ix x6)) (h (a3 + 1) (ix (x6 + 1))) o_3 h) co_C_140 io_Fr_meet o_3 ⟨by decide, by decide⟩ rfl rfl (Nat.le_of_ble_eq_true rfl) d_C_crosses_114 (fun r9 h9 _ => ?_)
      refine v_if_eq 123 d_C_crosses_117 (by decide) (fun c10 => ?_) (fun c10 => ?_)
      · refine v_iinc (x6 + 1) 4 [(6, .int (x6 + 1)), (0, .ref (ad G 0)), (3, .ref (ad G a3)), (4, .int x4), (5, .int x5)] d_C_crosses_123 rfl rfl (by decide) rfl ?_
        refine v_goto 67 d_C_crosses_126 (by decide) ?_
        exact v_sub [1, 2, 3, 4, 0] rfl (ih a3 x4 x5 (x6 + 1) ha3 h9)
      · refine v_iinc (x4 + 1) 2 [(4, .int (x4 + 1)), (0, .ref (ad G 0)), (3, .ref (ad G a3)), (5, .int x5), (6, .int x6)] d_C_crosses_120 rfl rfl (by decide) rfl ?_
        refine v_iinc (x6 + 1) 4 [(6, .int (x6 + 1)), (4, .int (x4 + 1)), (0, .ref (ad G 0)), (3, .ref (ad G a3)), (5, .int x5)] d_C_crosses_123 rfl rfl (by decide) rfl ?_
        refine v_goto 67 d_C_crosses_126 (by decide) ?_
        exact v_sub [2, 3, 1, 4, 0] rfl (ih a3 (x4 + 1) x5 (x6 + 1) ha3 h9)
set_option maxHeartbeats 4000000 in
set_option maxRecDepth 20000 in
theorem Vl_C_crosses_50 (G : Gt) : ∀ (n : Nat) (a3 : Nat) (x4 : Int32) (x5 : Int32) (ha3 : isO 3 a3) (h : Hp), V G m_C_crosses 50 [(0, .ref (ad G 0)), (3, .ref (ad G a3)), (4, .int x4), (5, .int x5)] [] h κi (l_C_crosses_50 n a3 x4 x5 h) := by
  intro n
  induction n with
  | zero => intros; exact v_none
  | succ n ih =>
    intro a3 x4 x5 ha3 h
    rw [l_C_crosses_50]
    refine v_iload 3 d_C_crosses_50 rfl ?_
    refine v_iconst 1 d_C_crosses_52 rfl ?_
    refine v_iadd d_C_crosses_53 ?_
    refine v_aload_n 1 d_C_crosses_54 rfl rfl ?_
    refine v_geti fl_C_130 ha3 rfl d_C_crosses_55 ?_
    refine v_icmp_ge 135 d_C_crosses_58 (by decide) (fun c7 => ?_) (fun c7 => ?_)
    · refine v_iload 2 d_C_crosses_135 rfl ?_
      exact v_iret rfl d_C_crosses_137
    · refine v_iload 3 d_C_crosses_61 rfl ?_
      refine v_iconst 2 d_C_crosses_63 rfl ?_
      refine v_iadd d_C_crosses_64 ?_
      refine v_istore [(6, .int (x5 + 2)), (0, .ref (ad G 0)), (3, .ref (ad G a3)), (4, .int x4), (5, .int x5)] d_C_crosses_65 (by decide) rfl ?_
      exact v_sub [1, 2, 3, 4, 0] rfl (Vl_C_crosses_67 G (l_C_crosses_50 n) ih FUEL a3 x4 x5 (x5 + 2) ha3 h)
set_option maxHeartbeats 4000000 in
set_option maxRecDepth 20000 in
theorem c_C_crosses (G : Gt) (x1 : Int32) (x2 : Int32) (h : Hp) : Cn G m_C_crosses [.ref (ad G 0), .int x1, .int x2] h κi (f_C_crosses x1 x2 h) := by
  refine entryV (by decide) (Nat.le_of_ble_eq_true rfl) rfl ?_
  show V G m_C_crosses 0 [(0, .ref (ad G 0)), (1, .int x1), (2, .int x2)] [] h κi _
  unfold f_C_crosses
  refine v_aload_n 0 d_C_crosses_0 rfl rfl ?_
  refine v_iload_n 1 d_C_crosses_1 rfl rfl ?_
  refine v_iload_n 2 d_C_crosses_2 rfl rfl ?_
  refine v_callVi (As := [.int x1, .int x2]) (rest := []) (c_C_canBeTold G x1 x2 h) co_C_122 io_C_canBeTold o_0 ⟨by decide, by decide⟩ rfl rfl (Nat.le_of_ble_eq_true rfl) d_C_crosses_3 (fun r1 h1 _ => ?_)
  refine v_if_ne 12 d_C_crosses_6 (by decide) (fun c2 => ?_) (fun c2 => ?_)
  · refine v_bipush (-2) d_C_crosses_9 rfl ?_
    exact v_iret rfl d_C_crosses_11
  · refine v_aload_n 0 d_C_crosses_12 rfl rfl ?_
    refine v_iload_n 1 d_C_crosses_13 rfl rfl ?_
    refine v_callVi (As := [.int x1]) (rest := []) (c_C_isHidden G x1 h1) co_C_91 io_C_isHidden o_0 ⟨by decide, by decide⟩ rfl rfl (Nat.le_of_ble_eq_true rfl) d_C_crosses_14 (fun r3 h3 _ => ?_)
    refine v_if_eq 23 d_C_crosses_17 (by decide) (fun c4 => ?_) (fun c4 => ?_)
    · refine v_aload_n 0 d_C_crosses_23 rfl rfl ?_
      refine v_aload_n 0 d_C_crosses_24 rfl rfl ?_
      refine v_getr 9 fl_C_28 o_0 rfl rfl d_C_crosses_25 ?_
      refine v_iconst 0 d_C_crosses_28 rfl ?_
      refine v_aald2 15 rfl ar_9 d_C_crosses_29 (fun b5 => ?_)
      refine v_aload_n 0 d_C_crosses_30 rfl rfl ?_
      refine v_getr 3 fl_C_19 o_0 rfl rfl d_C_crosses_31 ?_
      refine v_iload_n 1 d_C_crosses_34 rfl rfl ?_
      refine v_iload_n 2 d_C_crosses_35 rfl rfl ?_
      refine v_aload_n 0 d_C_crosses_36 rfl rfl ?_
      refine v_geti fl_C_49 o_0 rfl d_C_crosses_37 ?_
      refine v_callVr (As := [.ref (ad G 15), .ref (ad G 3), .int x1, .int x2, .int (h3 0 7)]) (rest := []) (c_C_lay G 15 3 x1 x2 (h3 0 7) o_15 o_3 h3) co_C_126 io_C_lay o_0 ⟨by decide, by decide⟩ rfl rfl (Nat.le_of_ble_eq_true rfl) d_C_crosses_40 (fun r6 h6 z6 => ?_)
      have e6 := lay_isO o_15 z6
      refine v_astore_n [(3, .ref (ad G r6)), (0, .ref (ad G 0)), (1, .int x1), (2, .int x2)] d_C_crosses_43 rfl (by decide) rfl ?_
      refine v_iconst 0 d_C_crosses_44 rfl ?_
      refine v_istore [(4, .int 0), (3, .ref (ad G r6)), (0, .ref (ad G 0)), (1, .int x1), (2, .int x2)] d_C_crosses_45 (by decide) rfl ?_
      refine v_iconst 0 d_C_crosses_47 rfl ?_
      refine v_istore [(5, .int 0), (4, .int 0), (3, .ref (ad G r6)), (0, .ref (ad G 0)), (1, .int x1), (2, .int x2)] d_C_crosses_48 (by decide) rfl ?_
      exact v_sub [3, 2, 1, 0] rfl (Vl_C_crosses_50 G FUEL r6 0 0 e6 h6)
    · refine v_bipush (-3) d_C_crosses_20 rfl ?_
      exact v_iret rfl d_C_crosses_22
theorem d_Sp_placeOf_0 : decode m_Sp_placeOf.2.1 0 = .ok (.iconst 0, 1) := by decide +kernel
theorem d_Sp_placeOf_1 : decode m_Sp_placeOf.2.1 1 = .ok (.istore_n 2, 1) := by decide +kernel
theorem d_Sp_placeOf_2 : decode m_Sp_placeOf.2.1 2 = .ok (.iload_n 2, 1) := by decide +kernel
theorem d_Sp_placeOf_3 : decode m_Sp_placeOf.2.1 3 = .ok (.aload_n 0, 1) := by decide +kernel
theorem d_Sp_placeOf_4 : decode m_Sp_placeOf.2.1 4 = .ok (.getfield 15, 3) := by decide +kernel
theorem d_Sp_placeOf_7 : decode m_Sp_placeOf.2.1 7 = .ok (.if_icmp .ge 21, 3) := by decide +kernel
theorem d_Sp_placeOf_10 : decode m_Sp_placeOf.2.1 10 = .ok (.aload_n 0, 1) := by decide +kernel
theorem d_Sp_placeOf_11 : decode m_Sp_placeOf.2.1 11 = .ok (.getfield 9, 3) := by decide +kernel
theorem d_Sp_placeOf_14 : decode m_Sp_placeOf.2.1 14 = .ok (.iload_n 2, 1) := by decide +kernel
theorem d_Sp_placeOf_15 : decode m_Sp_placeOf.2.1 15 = .ok (.iaload, 1) := by decide +kernel
theorem d_Sp_placeOf_16 : decode m_Sp_placeOf.2.1 16 = .ok (.iload_n 1, 1) := by decide +kernel
theorem d_Sp_placeOf_17 : decode m_Sp_placeOf.2.1 17 = .ok (.if_icmp .ne 5, 3) := by decide +kernel
theorem d_Sp_placeOf_20 : decode m_Sp_placeOf.2.1 20 = .ok (.iload_n 2, 1) := by decide +kernel
theorem d_Sp_placeOf_21 : decode m_Sp_placeOf.2.1 21 = .ok (.ireturn, 1) := by decide +kernel
theorem d_Sp_placeOf_22 : decode m_Sp_placeOf.2.1 22 = .ok (.iinc 2 1, 3) := by decide +kernel
theorem d_Sp_placeOf_25 : decode m_Sp_placeOf.2.1 25 = .ok (.goto (-23), 3) := by decide +kernel
theorem d_Sp_placeOf_28 : decode m_Sp_placeOf.2.1 28 = .ok (.iconst (-1), 1) := by decide +kernel
theorem d_Sp_placeOf_29 : decode m_Sp_placeOf.2.1 29 = .ok (.ireturn, 1) := by decide +kernel
set_option maxHeartbeats 4000000 in
set_option maxRecDepth 20000 in
theorem Vl_Sp_placeOf_2 (G : Gt) : ∀ (n : Nat) (a0 : Nat) (x1 : Int32) (x2 : Int32) (ha0 : isO 3 a0) (h : Hp), V G m_Sp_placeOf 2 [(0, .ref (ad G a0)), (1, .int x1), (2, .int x2)] [] h κi (l_Sp_placeOf_2 n a0 x1 x2 h) := by
  intro n
  induction n with
  | zero => intros; exact v_none
  | succ n ih =>
    intro a0 x1 x2 ha0 h
    rw [l_Sp_placeOf_2]
    refine v_iload_n 2 d_Sp_placeOf_2 rfl rfl ?_
    refine v_aload_n 0 d_Sp_placeOf_3 rfl rfl ?_
    refine v_geti fl_Sp_15 ha0 rfl d_Sp_placeOf_4 ?_
    refine v_icmp_ge 28 d_Sp_placeOf_7 (by decide) (fun c1 => ?_) (fun c1 => ?_)
    · refine v_iconst (-1) d_Sp_placeOf_28 rfl ?_
      exact v_iret rfl d_Sp_placeOf_29
    · refine v_aload_n 0 d_Sp_placeOf_10 rfl rfl ?_
      refine v_getr (a0 + 1) fl_Sp_9 ha0 rfl rfl d_Sp_placeOf_11 ?_
      refine v_iload_n 2 d_Sp_placeOf_14 rfl rfl ?_
      refine v_iald (spA ha0) d_Sp_placeOf_15 ?_
      refine v_iload_n 1 d_Sp_placeOf_16 rfl rfl ?_
      refine v_icmp_ne 22 d_Sp_placeOf_17 (by decide) (fun c2 => ?_) (fun c2 => ?_)
      · refine v_iload_n 2 d_Sp_placeOf_20 rfl rfl ?_
        exact v_iret rfl d_Sp_placeOf_21
      · refine v_iinc (x2 + 1) 2 [(2, .int (x2 + 1)), (0, .ref (ad G a0)), (1, .int x1)] d_Sp_placeOf_22 rfl rfl (by decide) rfl ?_
        refine v_goto 2 d_Sp_placeOf_25 (by decide) ?_
        exact v_sub [1, 2, 0] rfl (ih a0 x1 (x2 + 1) ha0 h)
set_option maxHeartbeats 4000000 in
set_option maxRecDepth 20000 in
theorem c_Sp_placeOf (G : Gt) (a0 : Nat) (x1 : Int32) (ha0 : isO 3 a0) (h : Hp) : Cn G m_Sp_placeOf [.ref (ad G a0), .int x1] h κi (f_Sp_placeOf a0 x1 h) := by
  refine entryV (by decide) (Nat.le_of_ble_eq_true rfl) rfl ?_
  show V G m_Sp_placeOf 0 [(0, .ref (ad G a0)), (1, .int x1)] [] h κi _
  unfold f_Sp_placeOf
  refine v_iconst 0 d_Sp_placeOf_0 rfl ?_
  refine v_istore_n [(2, .int 0), (0, .ref (ad G a0)), (1, .int x1)] d_Sp_placeOf_1 rfl (by decide) rfl ?_
  exact v_sub [1, 2, 0] rfl (Vl_Sp_placeOf_2 G FUEL a0 x1 0 ha0 h)
theorem d_C_neighbours_0 : decode m_C_neighbours.2.1 0 = .ok (.aload_n 0, 1) := by decide +kernel
theorem d_C_neighbours_1 : decode m_C_neighbours.2.1 1 = .ok (.iload_n 1, 1) := by decide +kernel
theorem d_C_neighbours_2 : decode m_C_neighbours.2.1 2 = .ok (.invokevirtual 148, 3) := by decide +kernel
theorem d_C_neighbours_5 : decode m_C_neighbours.2.1 5 = .ok (.istore_n 2, 1) := by decide +kernel
theorem d_C_neighbours_6 : decode m_C_neighbours.2.1 6 = .ok (.iload_n 2, 1) := by decide +kernel
theorem d_C_neighbours_7 : decode m_C_neighbours.2.1 7 = .ok (.iconst (-1), 1) := by decide +kernel
theorem d_C_neighbours_8 : decode m_C_neighbours.2.1 8 = .ok (.if_icmp .ne 5, 3) := by decide +kernel
theorem d_C_neighbours_11 : decode m_C_neighbours.2.1 11 = .ok (.iconst 0, 1) := by decide +kernel
theorem d_C_neighbours_12 : decode m_C_neighbours.2.1 12 = .ok (.ireturn, 1) := by decide +kernel
theorem d_C_neighbours_13 : decode m_C_neighbours.2.1 13 = .ok (.iload_n 2, 1) := by decide +kernel
theorem d_C_neighbours_14 : decode m_C_neighbours.2.1 14 = .ok (.ifCond .le 7, 3) := by decide +kernel
theorem d_C_neighbours_17 : decode m_C_neighbours.2.1 17 = .ok (.iconst 1, 1) := by decide +kernel
theorem d_C_neighbours_18 : decode m_C_neighbours.2.1 18 = .ok (.goto 4, 3) := by decide +kernel
theorem d_C_neighbours_21 : decode m_C_neighbours.2.1 21 = .ok (.iconst 0, 1) := by decide +kernel
theorem d_C_neighbours_22 : decode m_C_neighbours.2.1 22 = .ok (.iload_n 2, 1) := by decide +kernel
theorem d_C_neighbours_23 : decode m_C_neighbours.2.1 23 = .ok (.iconst 1, 1) := by decide +kernel
theorem d_C_neighbours_24 : decode m_C_neighbours.2.1 24 = .ok (.iadd, 1) := by decide +kernel
theorem d_C_neighbours_25 : decode m_C_neighbours.2.1 25 = .ok (.aload_n 0, 1) := by decide +kernel
theorem d_C_neighbours_26 : decode m_C_neighbours.2.1 26 = .ok (.getfield 130, 3) := by decide +kernel
theorem d_C_neighbours_29 : decode m_C_neighbours.2.1 29 = .ok (.if_icmp .ge 7, 3) := by decide +kernel
theorem d_C_neighbours_32 : decode m_C_neighbours.2.1 32 = .ok (.iconst 1, 1) := by decide +kernel
theorem d_C_neighbours_33 : decode m_C_neighbours.2.1 33 = .ok (.goto 4, 3) := by decide +kernel
theorem d_C_neighbours_36 : decode m_C_neighbours.2.1 36 = .ok (.iconst 0, 1) := by decide +kernel
theorem d_C_neighbours_37 : decode m_C_neighbours.2.1 37 = .ok (.iadd, 1) := by decide +kernel
theorem d_C_neighbours_38 : decode m_C_neighbours.2.1 38 = .ok (.ireturn, 1) := by decide +kernel
set_option maxHeartbeats 4000000 in
set_option maxRecDepth 20000 in
theorem c_C_neighbours (G : Gt) (a0 : Nat) (x1 : Int32) (ha0 : isO 3 a0) (h : Hp) : Cn G m_C_neighbours [.ref (ad G a0), .int x1] h κi (f_C_neighbours a0 x1 h) := by
  refine entryV (by decide) (Nat.le_of_ble_eq_true rfl) rfl ?_
  show V G m_C_neighbours 0 [(0, .ref (ad G a0)), (1, .int x1)] [] h κi _
  unfold f_C_neighbours
  refine v_aload_n 0 d_C_neighbours_0 rfl rfl ?_
  refine v_iload_n 1 d_C_neighbours_1 rfl rfl ?_
  refine v_callVi (As := [.int x1]) (rest := []) (c_Sp_placeOf G a0 x1 ha0 h) co_C_148 io_Sp_placeOf ha0 ⟨by decide, by decide⟩ rfl rfl (Nat.le_of_ble_eq_true rfl) d_C_neighbours_2 (fun r1 h1 _ => ?_)
  refine v_istore_n [(2, .int r1), (0, .ref (ad G a0)), (1, .int x1)] d_C_neighbours_5 rfl (by decide) rfl ?_
  refine v_iload_n 0 d_C_neighbours_6 rfl rfl ?_
  refine v_iconst (-1) d_C_neighbours_7 rfl ?_
  refine v_icmp_ne 13 d_C_neighbours_8 (by decide) (fun c2 => ?_) (fun c2 => ?_)
  · refine v_iconst 0 d_C_neighbours_11 rfl ?_
    exact v_iret rfl d_C_neighbours_12
  · refine v_iload_n 0 d_C_neighbours_13 rfl rfl ?_
    refine v_if_le 21 d_C_neighbours_14 (by decide) (fun c3 => ?_) (fun c3 => ?_)
    · refine v_iconst 0 d_C_neighbours_21 rfl ?_
      refine v_iload_n 0 d_C_neighbours_22 rfl rfl ?_
      refine v_iconst 1 d_C_neighbours_23 rfl ?_
      refine v_iadd d_C_neighbours_24 ?_
      refine v_aload_n 1 d_C_neighbours_25 rfl rfl ?_
      refine v_geti fl_C_130 ha0 rfl d_C_neighbours_26 ?_
      refine v_icmp_ge 36 d_C_neighbours_29 (by decide) (fun c4 => ?_) (fun c4 => ?_)
      · refine v_iconst 0 d_C_neighbours_36 rfl ?_
        refine v_iadd d_C_neighbours_37 ?_
        exact v_iret rfl d_C_neighbours_38
      · refine v_iconst 1 d_C_neighbours_32 rfl ?_
        refine v_goto 37 d_C_neighbours_33 (by decide) ?_
        refine v_iadd d_C_neighbours_37 ?_
        exact v_iret rfl d_C_neighbours_38
    · refine v_iconst 1 d_C_neighbours_17 rfl ?_
      refine v_goto 22 d_C_neighbours_18 (by decide) ?_
      refine v_iload_n 0 d_C_neighbours_22 rfl rfl ?_
      refine v_iconst 1 d_C_neighbours_23 rfl ?_
      refine v_iadd d_C_neighbours_24 ?_
      refine v_aload_n 1 d_C_neighbours_25 rfl rfl ?_
      refine v_geti fl_C_130 ha0 rfl d_C_neighbours_26 ?_
      refine v_icmp_ge 36 d_C_neighbours_29 (by decide) (fun c5 => ?_) (fun c5 => ?_)
      · refine v_iconst 0 d_C_neighbours_36 rfl ?_
        refine v_iadd d_C_neighbours_37 ?_
        exact v_iret rfl d_C_neighbours_38
      · refine v_iconst 1 d_C_neighbours_32 rfl ?_
        refine v_goto 37 d_C_neighbours_33 (by decide) ?_
        refine v_iadd d_C_neighbours_37 ?_
        exact v_iret rfl d_C_neighbours_38
theorem d_C_hangs_0 : decode m_C_hangs.2.1 0 = .ok (.aload_n 0, 1) := by decide +kernel
theorem d_C_hangs_1 : decode m_C_hangs.2.1 1 = .ok (.iload_n 1, 1) := by decide +kernel
theorem d_C_hangs_2 : decode m_C_hangs.2.1 2 = .ok (.iload_n 2, 1) := by decide +kernel
theorem d_C_hangs_3 : decode m_C_hangs.2.1 3 = .ok (.invokevirtual 122, 3) := by decide +kernel
theorem d_C_hangs_6 : decode m_C_hangs.2.1 6 = .ok (.ifCond .eq 14, 3) := by decide +kernel
theorem d_C_hangs_9 : decode m_C_hangs.2.1 9 = .ok (.aload_n 0, 1) := by decide +kernel
theorem d_C_hangs_10 : decode m_C_hangs.2.1 10 = .ok (.getfield 19, 3) := by decide +kernel
theorem d_C_hangs_13 : decode m_C_hangs.2.1 13 = .ok (.iload_n 3, 1) := by decide +kernel
theorem d_C_hangs_14 : decode m_C_hangs.2.1 14 = .ok (.invokevirtual 80, 3) := by decide +kernel
theorem d_C_hangs_17 : decode m_C_hangs.2.1 17 = .ok (.ifCond .ne 6, 3) := by decide +kernel
theorem d_C_hangs_20 : decode m_C_hangs.2.1 20 = .ok (.bipush (-2), 2) := by decide +kernel
theorem d_C_hangs_22 : decode m_C_hangs.2.1 22 = .ok (.ireturn, 1) := by decide +kernel
theorem d_C_hangs_23 : decode m_C_hangs.2.1 23 = .ok (.aload_n 0, 1) := by decide +kernel
theorem d_C_hangs_24 : decode m_C_hangs.2.1 24 = .ok (.iload_n 1, 1) := by decide +kernel
theorem d_C_hangs_25 : decode m_C_hangs.2.1 25 = .ok (.invokevirtual 91, 3) := by decide +kernel
theorem d_C_hangs_28 : decode m_C_hangs.2.1 28 = .ok (.ifCond .eq 6, 3) := by decide +kernel
theorem d_C_hangs_31 : decode m_C_hangs.2.1 31 = .ok (.bipush (-3), 2) := by decide +kernel
theorem d_C_hangs_33 : decode m_C_hangs.2.1 33 = .ok (.ireturn, 1) := by decide +kernel
theorem d_C_hangs_34 : decode m_C_hangs.2.1 34 = .ok (.aload_n 0, 1) := by decide +kernel
theorem d_C_hangs_35 : decode m_C_hangs.2.1 35 = .ok (.aload_n 0, 1) := by decide +kernel
theorem d_C_hangs_36 : decode m_C_hangs.2.1 36 = .ok (.getfield 28, 3) := by decide +kernel
theorem d_C_hangs_39 : decode m_C_hangs.2.1 39 = .ok (.iconst 0, 1) := by decide +kernel
theorem d_C_hangs_40 : decode m_C_hangs.2.1 40 = .ok (.aaload, 1) := by decide +kernel
theorem d_C_hangs_41 : decode m_C_hangs.2.1 41 = .ok (.aload_n 0, 1) := by decide +kernel
theorem d_C_hangs_42 : decode m_C_hangs.2.1 42 = .ok (.getfield 19, 3) := by decide +kernel
theorem d_C_hangs_45 : decode m_C_hangs.2.1 45 = .ok (.iload_n 1, 1) := by decide +kernel
theorem d_C_hangs_46 : decode m_C_hangs.2.1 46 = .ok (.iload_n 2, 1) := by decide +kernel
theorem d_C_hangs_47 : decode m_C_hangs.2.1 47 = .ok (.aload_n 0, 1) := by decide +kernel
theorem d_C_hangs_48 : decode m_C_hangs.2.1 48 = .ok (.getfield 49, 3) := by decide +kernel
theorem d_C_hangs_51 : decode m_C_hangs.2.1 51 = .ok (.invokevirtual 126, 3) := by decide +kernel
theorem d_C_hangs_54 : decode m_C_hangs.2.1 54 = .ok (.iload_n 3, 1) := by decide +kernel
theorem d_C_hangs_55 : decode m_C_hangs.2.1 55 = .ok (.invokestatic 144, 3) := by decide +kernel
theorem d_C_hangs_58 : decode m_C_hangs.2.1 58 = .ok (.ireturn, 1) := by decide +kernel
set_option maxHeartbeats 4000000 in
set_option maxRecDepth 20000 in
theorem c_C_hangs (G : Gt) (x1 : Int32) (x2 : Int32) (x3 : Int32) (h : Hp) : Cn G m_C_hangs [.ref (ad G 0), .int x1, .int x2, .int x3] h κi (f_C_hangs x1 x2 x3 h) := by
  refine entryV (by decide) (Nat.le_of_ble_eq_true rfl) rfl ?_
  show V G m_C_hangs 0 [(0, .ref (ad G 0)), (1, .int x1), (2, .int x2), (3, .int x3)] [] h κi _
  unfold f_C_hangs
  refine v_aload_n 0 d_C_hangs_0 rfl rfl ?_
  refine v_iload_n 1 d_C_hangs_1 rfl rfl ?_
  refine v_iload_n 2 d_C_hangs_2 rfl rfl ?_
  refine v_callVi (As := [.int x1, .int x2]) (rest := []) (c_C_canBeTold G x1 x2 h) co_C_122 io_C_canBeTold o_0 ⟨by decide, by decide⟩ rfl rfl (Nat.le_of_ble_eq_true rfl) d_C_hangs_3 (fun r1 h1 _ => ?_)
  refine v_if_eq 20 d_C_hangs_6 (by decide) (fun c2 => ?_) (fun c2 => ?_)
  · refine v_bipush (-2) d_C_hangs_20 rfl ?_
    exact v_iret rfl d_C_hangs_22
  · refine v_aload_n 0 d_C_hangs_9 rfl rfl ?_
    refine v_getr 3 fl_C_19 o_0 rfl rfl d_C_hangs_10 ?_
    refine v_iload_n 3 d_C_hangs_13 rfl rfl ?_
    refine v_callVi (As := [.int x3]) (rest := []) (c_Fr_has G 3 x3 o_3 h1) co_C_80 io_Fr_has o_3 ⟨by decide, by decide⟩ rfl rfl (Nat.le_of_ble_eq_true rfl) d_C_hangs_14 (fun r3 h3 _ => ?_)
    refine v_if_ne 23 d_C_hangs_17 (by decide) (fun c4 => ?_) (fun c4 => ?_)
    · refine v_bipush (-2) d_C_hangs_20 rfl ?_
      exact v_iret rfl d_C_hangs_22
    · refine v_aload_n 0 d_C_hangs_23 rfl rfl ?_
      refine v_iload_n 1 d_C_hangs_24 rfl rfl ?_
      refine v_callVi (As := [.int x1]) (rest := []) (c_C_isHidden G x1 h3) co_C_91 io_C_isHidden o_0 ⟨by decide, by decide⟩ rfl rfl (Nat.le_of_ble_eq_true rfl) d_C_hangs_25 (fun r5 h5 _ => ?_)
      refine v_if_eq 34 d_C_hangs_28 (by decide) (fun c6 => ?_) (fun c6 => ?_)
      · refine v_aload_n 0 d_C_hangs_34 rfl rfl ?_
        refine v_aload_n 0 d_C_hangs_35 rfl rfl ?_
        refine v_getr 9 fl_C_28 o_0 rfl rfl d_C_hangs_36 ?_
        refine v_iconst 0 d_C_hangs_39 rfl ?_
        refine v_aald2 15 rfl ar_9 d_C_hangs_40 (fun b7 => ?_)
        refine v_aload_n 0 d_C_hangs_41 rfl rfl ?_
        refine v_getr 3 fl_C_19 o_0 rfl rfl d_C_hangs_42 ?_
        refine v_iload_n 1 d_C_hangs_45 rfl rfl ?_
        refine v_iload_n 2 d_C_hangs_46 rfl rfl ?_
        refine v_aload_n 0 d_C_hangs_47 rfl rfl ?_
        refine v_geti fl_C_49 o_0 rfl d_C_hangs_48 ?_
        refine v_callVr (As := [.ref (ad G 15), .ref (ad G 3), .int x1, .int x2, .int (h5 0 7)]) (rest := []) (c_C_lay G 15 3 x1 x2 (h5 0 7) o_15 o_3 h5) co_C_126 io_C_lay o_0 ⟨by decide, by decide⟩ rfl rfl (Nat.le_of_ble_eq_true rfl) d_C_hangs_51 (fun r8 h8 z8 => ?_)
        have e8 := lay_isO o_15 z8
        refine v_iload_n 3 d_C_hangs_54 rfl rfl ?_
        refine v_callSi (As := [.ref (ad G r8), .int x3]) (rest := []) (c_C_neighbours G r8 x3 e8 h8) co_C_144 so_C_neighbours ⟨by decide, by decide⟩ rfl rfl (Nat.le_of_ble_eq_true rfl) d_C_hangs_55 (fun r9 h9 _ => ?_)
        exact v_iret rfl d_C_hangs_58
      · refine v_bipush (-3) d_C_hangs_31 rfl ?_
        exact v_iret rfl d_C_hangs_33
theorem d_C_pieces_0 : decode m_C_pieces.2.1 0 = .ok (.aload_n 0, 1) := by decide +kernel
theorem d_C_pieces_1 : decode m_C_pieces.2.1 1 = .ok (.iload_n 1, 1) := by decide +kernel
theorem d_C_pieces_2 : decode m_C_pieces.2.1 2 = .ok (.iload_n 2, 1) := by decide +kernel
theorem d_C_pieces_3 : decode m_C_pieces.2.1 3 = .ok (.invokevirtual 122, 3) := by decide +kernel
theorem d_C_pieces_6 : decode m_C_pieces.2.1 6 = .ok (.ifCond .eq 14, 3) := by decide +kernel
theorem d_C_pieces_9 : decode m_C_pieces.2.1 9 = .ok (.aload_n 0, 1) := by decide +kernel
theorem d_C_pieces_10 : decode m_C_pieces.2.1 10 = .ok (.getfield 19, 3) := by decide +kernel
theorem d_C_pieces_13 : decode m_C_pieces.2.1 13 = .ok (.iload_n 3, 1) := by decide +kernel
theorem d_C_pieces_14 : decode m_C_pieces.2.1 14 = .ok (.invokevirtual 80, 3) := by decide +kernel
theorem d_C_pieces_17 : decode m_C_pieces.2.1 17 = .ok (.ifCond .ne 6, 3) := by decide +kernel
theorem d_C_pieces_20 : decode m_C_pieces.2.1 20 = .ok (.bipush (-2), 2) := by decide +kernel
theorem d_C_pieces_22 : decode m_C_pieces.2.1 22 = .ok (.ireturn, 1) := by decide +kernel
theorem d_C_pieces_23 : decode m_C_pieces.2.1 23 = .ok (.aload_n 0, 1) := by decide +kernel
theorem d_C_pieces_24 : decode m_C_pieces.2.1 24 = .ok (.iload_n 1, 1) := by decide +kernel
theorem d_C_pieces_25 : decode m_C_pieces.2.1 25 = .ok (.invokevirtual 91, 3) := by decide +kernel
theorem d_C_pieces_28 : decode m_C_pieces.2.1 28 = .ok (.ifCond .eq 6, 3) := by decide +kernel
theorem d_C_pieces_31 : decode m_C_pieces.2.1 31 = .ok (.bipush (-3), 2) := by decide +kernel
theorem d_C_pieces_33 : decode m_C_pieces.2.1 33 = .ok (.ireturn, 1) := by decide +kernel
theorem d_C_pieces_34 : decode m_C_pieces.2.1 34 = .ok (.aload_n 0, 1) := by decide +kernel
theorem d_C_pieces_35 : decode m_C_pieces.2.1 35 = .ok (.aload_n 0, 1) := by decide +kernel
theorem d_C_pieces_36 : decode m_C_pieces.2.1 36 = .ok (.getfield 28, 3) := by decide +kernel
theorem d_C_pieces_39 : decode m_C_pieces.2.1 39 = .ok (.iconst 0, 1) := by decide +kernel
theorem d_C_pieces_40 : decode m_C_pieces.2.1 40 = .ok (.aaload, 1) := by decide +kernel
theorem d_C_pieces_41 : decode m_C_pieces.2.1 41 = .ok (.aload_n 0, 1) := by decide +kernel
theorem d_C_pieces_42 : decode m_C_pieces.2.1 42 = .ok (.getfield 19, 3) := by decide +kernel
theorem d_C_pieces_45 : decode m_C_pieces.2.1 45 = .ok (.iload_n 1, 1) := by decide +kernel
theorem d_C_pieces_46 : decode m_C_pieces.2.1 46 = .ok (.iload_n 2, 1) := by decide +kernel
theorem d_C_pieces_47 : decode m_C_pieces.2.1 47 = .ok (.aload_n 0, 1) := by decide +kernel
theorem d_C_pieces_48 : decode m_C_pieces.2.1 48 = .ok (.getfield 49, 3) := by decide +kernel
theorem d_C_pieces_51 : decode m_C_pieces.2.1 51 = .ok (.invokevirtual 126, 3) := by decide +kernel
theorem d_C_pieces_54 : decode m_C_pieces.2.1 54 = .ok (.astore 4, 2) := by decide +kernel
theorem d_C_pieces_56 : decode m_C_pieces.2.1 56 = .ok (.aload 4, 2) := by decide +kernel
theorem d_C_pieces_58 : decode m_C_pieces.2.1 58 = .ok (.iload_n 3, 1) := by decide +kernel
theorem d_C_pieces_59 : decode m_C_pieces.2.1 59 = .ok (.invokevirtual 148, 3) := by decide +kernel
theorem d_C_pieces_62 : decode m_C_pieces.2.1 62 = .ok (.iconst (-1), 1) := by decide +kernel
theorem d_C_pieces_63 : decode m_C_pieces.2.1 63 = .ok (.if_icmp .ne 7, 3) := by decide +kernel
theorem d_C_pieces_66 : decode m_C_pieces.2.1 66 = .ok (.iconst 1, 1) := by decide +kernel
theorem d_C_pieces_67 : decode m_C_pieces.2.1 67 = .ok (.goto 9, 3) := by decide +kernel
theorem d_C_pieces_70 : decode m_C_pieces.2.1 70 = .ok (.aload 4, 2) := by decide +kernel
theorem d_C_pieces_72 : decode m_C_pieces.2.1 72 = .ok (.iload_n 3, 1) := by decide +kernel
theorem d_C_pieces_73 : decode m_C_pieces.2.1 73 = .ok (.invokestatic 144, 3) := by decide +kernel
theorem d_C_pieces_76 : decode m_C_pieces.2.1 76 = .ok (.ireturn, 1) := by decide +kernel
set_option maxHeartbeats 4000000 in
set_option maxRecDepth 20000 in
theorem c_C_pieces (G : Gt) (x1 : Int32) (x2 : Int32) (x3 : Int32) (h : Hp) : Cn G m_C_pieces [.ref (ad G 0), .int x1, .int x2, .int x3] h κi (f_C_pieces x1 x2 x3 h) := by
  refine entryV (by decide) (Nat.le_of_ble_eq_true rfl) rfl ?_
  show V G m_C_pieces 0 [(0, .ref (ad G 0)), (1, .int x1), (2, .int x2), (3, .int x3)] [] h κi _
  unfold f_C_pieces
  refine v_aload_n 0 d_C_pieces_0 rfl rfl ?_
  refine v_iload_n 1 d_C_pieces_1 rfl rfl ?_
  refine v_iload_n 2 d_C_pieces_2 rfl rfl ?_
  refine v_callVi (As := [.int x1, .int x2]) (rest := []) (c_C_canBeTold G x1 x2 h) co_C_122 io_C_canBeTold o_0 ⟨by decide, by decide⟩ rfl rfl (Nat.le_of_ble_eq_true rfl) d_C_pieces_3 (fun r1 h1 _ => ?_)
  refine v_if_eq 20 d_C_pieces_6 (by decide) (fun c2 => ?_) (fun c2 => ?_)
  · refine v_bipush (-2) d_C_pieces_20 rfl ?_
    exact v_iret rfl d_C_pieces_22
  · refine v_aload_n 0 d_C_pieces_9 rfl rfl ?_
    refine v_getr 3 fl_C_19 o_0 rfl rfl d_C_pieces_10 ?_
    refine v_iload_n 3 d_C_pieces_13 rfl rfl ?_
    refine v_callVi (As := [.int x3]) (rest := []) (c_Fr_has G 3 x3 o_3 h1) co_C_80 io_Fr_has o_3 ⟨by decide, by decide⟩ rfl rfl (Nat.le_of_ble_eq_true rfl) d_C_pieces_14 (fun r3 h3 _ => ?_)
    refine v_if_ne 23 d_C_pieces_17 (by decide) (fun c4 => ?_) (fun c4 => ?_)
    · refine v_bipush (-2) d_C_pieces_20 rfl ?_
      exact v_iret rfl d_C_pieces_22
    · refine v_aload_n 0 d_C_pieces_23 rfl rfl ?_
      refine v_iload_n 1 d_C_pieces_24 rfl rfl ?_
      refine v_callVi (As := [.int x1]) (rest := []) (c_C_isHidden G x1 h3) co_C_91 io_C_isHidden o_0 ⟨by decide, by decide⟩ rfl rfl (Nat.le_of_ble_eq_true rfl) d_C_pieces_25 (fun r5 h5 _ => ?_)
      refine v_if_eq 34 d_C_pieces_28 (by decide) (fun c6 => ?_) (fun c6 => ?_)
      · refine v_aload_n 0 d_C_pieces_34 rfl rfl ?_
        refine v_aload_n 0 d_C_pieces_35 rfl rfl ?_
        refine v_getr 9 fl_C_28 o_0 rfl rfl d_C_pieces_36 ?_
        refine v_iconst 0 d_C_pieces_39 rfl ?_
        refine v_aald2 15 rfl ar_9 d_C_pieces_40 (fun b7 => ?_)
        refine v_aload_n 0 d_C_pieces_41 rfl rfl ?_
        refine v_getr 3 fl_C_19 o_0 rfl rfl d_C_pieces_42 ?_
        refine v_iload_n 1 d_C_pieces_45 rfl rfl ?_
        refine v_iload_n 2 d_C_pieces_46 rfl rfl ?_
        refine v_aload_n 0 d_C_pieces_47 rfl rfl ?_
        refine v_geti fl_C_49 o_0 rfl d_C_pieces_48 ?_
        refine v_callVr (As := [.ref (ad G 15), .ref (ad G 3), .int x1, .int x2, .int (h5 0 7)]) (rest := []) (c_C_lay G 15 3 x1 x2 (h5 0 7) o_15 o_3 h5) co_C_126 io_C_lay o_0 ⟨by decide, by decide⟩ rfl rfl (Nat.le_of_ble_eq_true rfl) d_C_pieces_51 (fun r8 h8 z8 => ?_)
        have e8 := lay_isO o_15 z8
        refine v_astore [(4, .ref (ad G r8)), (0, .ref (ad G 0)), (1, .int x1), (2, .int x2), (3, .int x3)] d_C_pieces_54 (by decide) rfl ?_
        refine v_aload 0 d_C_pieces_56 rfl ?_
        refine v_iload_n 4 d_C_pieces_58 rfl rfl ?_
        refine v_callVi (As := [.int x3]) (rest := []) (c_Sp_placeOf G r8 x3 e8 h8) co_C_148 io_Sp_placeOf e8 ⟨by decide, by decide⟩ rfl rfl (Nat.le_of_ble_eq_true rfl) d_C_pieces_59 (fun r9 h9 _ => ?_)
        refine v_iconst (-1) d_C_pieces_62 rfl ?_
        refine v_icmp_ne 70 d_C_pieces_63 (by decide) (fun c10 => ?_) (fun c10 => ?_)
        · refine v_iconst 1 d_C_pieces_66 rfl ?_
          refine v_goto 76 d_C_pieces_67 (by decide) ?_
          exact v_iret rfl d_C_pieces_76
        · refine v_aload 0 d_C_pieces_70 rfl ?_
          refine v_iload_n 4 d_C_pieces_72 rfl rfl ?_
          refine v_callSi (As := [.ref (ad G r8), .int x3]) (rest := []) (c_C_neighbours G r8 x3 e8 h9) co_C_144 so_C_neighbours ⟨by decide, by decide⟩ rfl rfl (Nat.le_of_ble_eq_true rfl) d_C_pieces_73 (fun r11 h11 _ => ?_)
          exact v_iret rfl d_C_pieces_76
      · refine v_bipush (-3) d_C_pieces_31 rfl ?_
        exact v_iret rfl d_C_pieces_33
theorem d_Fr_becomeTurned_0 : decode m_Fr_becomeTurned.2.1 0 = .ok (.aload_n 0, 1) := by decide +kernel
theorem d_Fr_becomeTurned_1 : decode m_Fr_becomeTurned.2.1 1 = .ok (.iconst 0, 1) := by decide +kernel
theorem d_Fr_becomeTurned_2 : decode m_Fr_becomeTurned.2.1 2 = .ok (.putfield 18, 3) := by decide +kernel
theorem d_Fr_becomeTurned_5 : decode m_Fr_becomeTurned.2.1 5 = .ok (.iconst 0, 1) := by decide +kernel
theorem d_Fr_becomeTurned_6 : decode m_Fr_becomeTurned.2.1 6 = .ok (.istore_n 2, 1) := by decide +kernel
theorem d_Fr_becomeTurned_7 : decode m_Fr_becomeTurned.2.1 7 = .ok (.iload_n 2, 1) := by decide +kernel
theorem d_Fr_becomeTurned_8 : decode m_Fr_becomeTurned.2.1 8 = .ok (.aload_n 1, 1) := by decide +kernel
theorem d_Fr_becomeTurned_9 : decode m_Fr_becomeTurned.2.1 9 = .ok (.getfield 18, 3) := by decide +kernel
theorem d_Fr_becomeTurned_12 : decode m_Fr_becomeTurned.2.1 12 = .ok (.if_icmp .ge 28, 3) := by decide +kernel
theorem d_Fr_becomeTurned_15 : decode m_Fr_becomeTurned.2.1 15 = .ok (.aload_n 0, 1) := by decide +kernel
theorem d_Fr_becomeTurned_16 : decode m_Fr_becomeTurned.2.1 16 = .ok (.bipush 9, 2) := by decide +kernel
theorem d_Fr_becomeTurned_18 : decode m_Fr_becomeTurned.2.1 18 = .ok (.aload_n 1, 1) := by decide +kernel
theorem d_Fr_becomeTurned_19 : decode m_Fr_becomeTurned.2.1 19 = .ok (.getfield 15, 3) := by decide +kernel
theorem d_Fr_becomeTurned_22 : decode m_Fr_becomeTurned.2.1 22 = .ok (.iload_n 2, 1) := by decide +kernel
theorem d_Fr_becomeTurned_23 : decode m_Fr_becomeTurned.2.1 23 = .ok (.iaload, 1) := by decide +kernel
theorem d_Fr_becomeTurned_24 : decode m_Fr_becomeTurned.2.1 24 = .ok (.isub, 1) := by decide +kernel
theorem d_Fr_becomeTurned_25 : decode m_Fr_becomeTurned.2.1 25 = .ok (.aload_n 1, 1) := by decide +kernel
theorem d_Fr_becomeTurned_26 : decode m_Fr_becomeTurned.2.1 26 = .ok (.getfield 9, 3) := by decide +kernel
theorem d_Fr_becomeTurned_29 : decode m_Fr_becomeTurned.2.1 29 = .ok (.iload_n 2, 1) := by decide +kernel
theorem d_Fr_becomeTurned_30 : decode m_Fr_becomeTurned.2.1 30 = .ok (.iaload, 1) := by decide +kernel
theorem d_Fr_becomeTurned_31 : decode m_Fr_becomeTurned.2.1 31 = .ok (.invokevirtual 22, 3) := by decide +kernel
theorem d_Fr_becomeTurned_34 : decode m_Fr_becomeTurned.2.1 34 = .ok (.iinc 2 1, 3) := by decide +kernel
theorem d_Fr_becomeTurned_37 : decode m_Fr_becomeTurned.2.1 37 = .ok (.goto (-30), 3) := by decide +kernel
theorem d_Fr_becomeTurned_40 : decode m_Fr_becomeTurned.2.1 40 = .ok (.return_, 1) := by decide +kernel
set_option maxHeartbeats 4000000 in
set_option maxRecDepth 20000 in
theorem Vl_Fr_becomeTurned_7 (G : Gt) : ∀ (n : Nat) (a0 : Nat) (a1 : Nat) (x2 : Int32) (ha0 : isO 0 a0) (ha1 : isO 0 a1) (h : Hp), V G m_Fr_becomeTurned 7 [(0, .ref (ad G a0)), (1, .ref (ad G a1)), (2, .int x2)] [] h κv (l_Fr_becomeTurned_7 n a0 a1 x2 h) := by
  intro n
  induction n with
  | zero => intros; exact v_none
  | succ n ih =>
    intro a0 a1 x2 ha0 ha1 h
    rw [l_Fr_becomeTurned_7]
    refine v_iload_n 2 d_Fr_becomeTurned_7 rfl rfl ?_
    refine v_aload_n 1 d_Fr_becomeTurned_8 rfl rfl ?_
    refine v_geti fl_Fr_18 ha1 rfl d_Fr_becomeTurned_9 ?_
    refine v_icmp_ge 40 d_Fr_becomeTurned_12 (by decide) (fun c1 => ?_) (fun c1 => ?_)
    · exact v_vret rfl d_Fr_becomeTurned_40
    · refine v_aload_n 0 d_Fr_becomeTurned_15 rfl rfl ?_
      refine v_bipush 9 d_Fr_becomeTurned_16 rfl ?_
      refine v_aload_n 1 d_Fr_becomeTurned_18 rfl rfl ?_
      refine v_getr (a1 + 2) fl_Fr_15 ha1 rfl rfl d_Fr_becomeTurned_19 ?_
      refine v_iload_n 2 d_Fr_becomeTurned_22 rfl rfl ?_
      refine v_iald ((frA ha1).2) d_Fr_becomeTurned_23 ?_
      refine v_isub d_Fr_becomeTurned_24 ?_
      refine v_aload_n 1 d_Fr_becomeTurned_25 rfl rfl ?_
      refine v_getr (a1 + 1) fl_Fr_9 ha1 rfl rfl d_Fr_becomeTurned_26 ?_
      refine v_iload_n 2 d_Fr_becomeTurned_29 rfl rfl ?_
      refine v_iald ((frA ha1).1) d_Fr_becomeTurned_30 ?_
      refine v_callVv (As := [.int (9 - (h (a1 + 2) (ix x2))), .int (h (a1 + 1) (ix x2))]) (rest := []) (c_Fr_add G a0 (9 - (h (a1 + 2) (ix x2))) (h (a1 + 1) (ix x2)) ha0 h) co_Fr_22 io_Fr_add ha0 ⟨by decide, by decide⟩ rfl rfl (Nat.le_of_ble_eq_true rfl) d_Fr_becomeTurned_31 (fun _ h2 _ => ?_)
      refine v_iinc (x2 + 1) 2 [(2, .int (x2 + 1)), (0, .ref (ad G a0)), (1, .ref (ad G a1))] d_Fr_becomeTurned_34 rfl rfl (by decide) rfl ?_
      refine v_goto 7 d_Fr_becomeTurned_37 (by decide) ?_
      exact v_sub [1, 2, 0] rfl (ih a0 a1 (x2 + 1) ha0 ha1 h2)
set_option maxHeartbeats 4000000 in
set_option maxRecDepth 20000 in
theorem c_Fr_becomeTurned (G : Gt) (a0 : Nat) (a1 : Nat) (ha0 : isO 0 a0) (ha1 : isO 0 a1) (h : Hp) : Cn G m_Fr_becomeTurned [.ref (ad G a0), .ref (ad G a1)] h κv (f_Fr_becomeTurned a0 a1 h) := by
  refine entryV (by decide) (Nat.le_of_ble_eq_true rfl) rfl ?_
  show V G m_Fr_becomeTurned 0 [(0, .ref (ad G a0)), (1, .ref (ad G a1))] [] h κv _
  unfold f_Fr_becomeTurned
  refine v_aload_n 0 d_Fr_becomeTurned_0 rfl rfl ?_
  refine v_iconst 0 d_Fr_becomeTurned_1 rfl ?_
  refine v_puti fl_Fr_18 ft_0_2 rfl rfl ha0 rfl d_Fr_becomeTurned_2 ?_
  refine v_iconst 0 d_Fr_becomeTurned_5 rfl ?_
  refine v_istore_n [(2, .int 0), (0, .ref (ad G a0)), (1, .ref (ad G a1))] d_Fr_becomeTurned_6 rfl (by decide) rfl ?_
  exact v_sub [1, 2, 0] rfl (Vl_Fr_becomeTurned_7 G FUEL a0 a1 0 ha0 ha1 (hset h a0 2 0))
