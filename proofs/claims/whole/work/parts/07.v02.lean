theorem d_C_lose_0 : decode m_C_lose.2.1 0 = .ok (.iload_n 1, 1) := by decide +kernel
theorem d_C_lose_1 : decode m_C_lose.2.1 1 = .ok (.invokestatic 98, 3) := by decide +kernel
theorem d_C_lose_4 : decode m_C_lose.2.1 4 = .ok (.ifCond .ne 6, 3) := by decide +kernel
theorem d_C_lose_7 : decode m_C_lose.2.1 7 = .ok (.bipush (-2), 2) := by decide +kernel
theorem d_C_lose_9 : decode m_C_lose.2.1 9 = .ok (.ireturn, 1) := by decide +kernel
theorem d_C_lose_10 : decode m_C_lose.2.1 10 = .ok (.aload_n 0, 1) := by decide +kernel
theorem d_C_lose_11 : decode m_C_lose.2.1 11 = .ok (.getfield 41, 3) := by decide +kernel
theorem d_C_lose_14 : decode m_C_lose.2.1 14 = .ok (.iload_n 1, 1) := by decide +kernel
theorem d_C_lose_15 : decode m_C_lose.2.1 15 = .ok (.aaload, 1) := by decide +kernel
theorem d_C_lose_16 : decode m_C_lose.2.1 16 = .ok (.getfield 101, 3) := by decide +kernel
theorem d_C_lose_19 : decode m_C_lose.2.1 19 = .ok (.ifCond .eq 9, 3) := by decide +kernel
theorem d_C_lose_22 : decode m_C_lose.2.1 22 = .ok (.aload_n 0, 1) := by decide +kernel
theorem d_C_lose_23 : decode m_C_lose.2.1 23 = .ok (.iconst 1, 1) := by decide +kernel
theorem d_C_lose_24 : decode m_C_lose.2.1 24 = .ok (.invokevirtual 105, 3) := by decide +kernel
theorem d_C_lose_27 : decode m_C_lose.2.1 27 = .ok (.ireturn, 1) := by decide +kernel
theorem d_C_lose_28 : decode m_C_lose.2.1 28 = .ok (.aload_n 0, 1) := by decide +kernel
theorem d_C_lose_29 : decode m_C_lose.2.1 29 = .ok (.getfield 41, 3) := by decide +kernel
theorem d_C_lose_32 : decode m_C_lose.2.1 32 = .ok (.iload_n 1, 1) := by decide +kernel
theorem d_C_lose_33 : decode m_C_lose.2.1 33 = .ok (.aaload, 1) := by decide +kernel
theorem d_C_lose_34 : decode m_C_lose.2.1 34 = .ok (.iconst 1, 1) := by decide +kernel
theorem d_C_lose_35 : decode m_C_lose.2.1 35 = .ok (.putfield 101, 3) := by decide +kernel
theorem d_C_lose_38 : decode m_C_lose.2.1 38 = .ok (.aload_n 0, 1) := by decide +kernel
theorem d_C_lose_39 : decode m_C_lose.2.1 39 = .ok (.getfield 41, 3) := by decide +kernel
theorem d_C_lose_42 : decode m_C_lose.2.1 42 = .ok (.iload_n 1, 1) := by decide +kernel
theorem d_C_lose_43 : decode m_C_lose.2.1 43 = .ok (.aaload, 1) := by decide +kernel
theorem d_C_lose_44 : decode m_C_lose.2.1 44 = .ok (.getfield 109, 3) := by decide +kernel
theorem d_C_lose_47 : decode m_C_lose.2.1 47 = .ok (.ireturn, 1) := by decide +kernel
set_option maxHeartbeats 4000000 in
set_option maxRecDepth 20000 in
theorem c_C_lose (G : Gt) (x1 : Int32) (h : Hp) : Cn G m_C_lose [.ref (ad G 0), .int x1] h κi (f_C_lose x1 h) := by
  refine entryV (by decide) (Nat.le_of_ble_eq_true rfl) rfl ?_
  show V G m_C_lose 0 [(0, .ref (ad G 0)), (1, .int x1)] [] h κi _
  unfold f_C_lose
  refine v_iload_n 1 d_C_lose_0 rfl rfl ?_
  refine v_callSi (As := [.int x1]) (rest := []) (c_C_isSheet G x1 h) co_C_98 so_C_isSheet ⟨by decide, by decide⟩ rfl rfl (Nat.le_of_ble_eq_true rfl) d_C_lose_1 (fun r1 h1 _ => ?_)
  refine v_if_ne 10 d_C_lose_4 (by decide) (fun c2 => ?_) (fun c2 => ?_)
  · refine v_bipush (-2) d_C_lose_7 rfl ?_
    exact v_iret rfl d_C_lose_9
  · refine v_aload_n 0 d_C_lose_10 rfl rfl ?_
    refine v_getr 14 fl_C_41 o_0 rfl rfl d_C_lose_11 ?_
    refine v_iload_n 1 d_C_lose_14 rfl rfl ?_
    refine v_aald3 (23 + 2 * ix x1) rfl ar_14 d_C_lose_15 (fun b3 => ?_)
    refine v_geti fl_C_101 (sh_o b3) rfl d_C_lose_16 ?_
    refine v_if_eq 28 d_C_lose_19 (by decide) (fun c4 => ?_) (fun c4 => ?_)
    · refine v_aload_n 0 d_C_lose_28 rfl rfl ?_
      refine v_getr 14 fl_C_41 o_0 rfl rfl d_C_lose_29 ?_
      refine v_iload_n 1 d_C_lose_32 rfl rfl ?_
      refine v_aald3 (23 + 2 * ix x1) rfl ar_14 d_C_lose_33 (fun b5 => ?_)
      refine v_iconst 1 d_C_lose_34 rfl ?_
      refine v_puti fl_C_101 ft_2_1 rfl rfl (sh_o b5) rfl d_C_lose_35 ?_
      refine v_aload_n 0 d_C_lose_38 rfl rfl ?_
      refine v_getr 14 fl_C_41 o_0 rfl rfl d_C_lose_39 ?_
      refine v_iload_n 1 d_C_lose_42 rfl rfl ?_
      refine v_aald3 (23 + 2 * ix x1) rfl ar_14 d_C_lose_43 (fun b6 => ?_)
      refine v_geti fl_C_109 (sh_o b6) rfl d_C_lose_44 ?_
      exact v_iret rfl d_C_lose_47
    · refine v_aload_n 0 d_C_lose_22 rfl rfl ?_
      refine v_iconst 1 d_C_lose_23 rfl ?_
      refine v_callVi (As := [.int 1]) (rest := []) (c_C_found G 1 h1) co_C_105 io_C_found o_0 ⟨by decide, by decide⟩ rfl rfl (Nat.le_of_ble_eq_true rfl) d_C_lose_24 (fun r7 h7 _ => ?_)
      exact v_iret rfl d_C_lose_27
theorem d_C_refusalOfItem_0 : decode m_C_refusalOfItem.2.1 0 = .ok (.iload_n 1, 1) := by decide +kernel
theorem d_C_refusalOfItem_1 : decode m_C_refusalOfItem.2.1 1 = .ok (.invokestatic 98, 3) := by decide +kernel
theorem d_C_refusalOfItem_4 : decode m_C_refusalOfItem.2.1 4 = .ok (.ifCond .eq 10, 3) := by decide +kernel
theorem d_C_refusalOfItem_7 : decode m_C_refusalOfItem.2.1 7 = .ok (.iload_n 2, 1) := by decide +kernel
theorem d_C_refusalOfItem_8 : decode m_C_refusalOfItem.2.1 8 = .ok (.invokestatic 212, 3) := by decide +kernel
theorem d_C_refusalOfItem_11 : decode m_C_refusalOfItem.2.1 11 = .ok (.ifCond .ne 6, 3) := by decide +kernel
theorem d_C_refusalOfItem_14 : decode m_C_refusalOfItem.2.1 14 = .ok (.bipush (-2), 2) := by decide +kernel
theorem d_C_refusalOfItem_16 : decode m_C_refusalOfItem.2.1 16 = .ok (.ireturn, 1) := by decide +kernel
theorem d_C_refusalOfItem_17 : decode m_C_refusalOfItem.2.1 17 = .ok (.aload_n 0, 1) := by decide +kernel
theorem d_C_refusalOfItem_18 : decode m_C_refusalOfItem.2.1 18 = .ok (.getfield 41, 3) := by decide +kernel
theorem d_C_refusalOfItem_21 : decode m_C_refusalOfItem.2.1 21 = .ok (.iload_n 1, 1) := by decide +kernel
theorem d_C_refusalOfItem_22 : decode m_C_refusalOfItem.2.1 22 = .ok (.aaload, 1) := by decide +kernel
theorem d_C_refusalOfItem_23 : decode m_C_refusalOfItem.2.1 23 = .ok (.astore 4, 2) := by decide +kernel
theorem d_C_refusalOfItem_25 : decode m_C_refusalOfItem.2.1 25 = .ok (.aload 4, 2) := by decide +kernel
theorem d_C_refusalOfItem_27 : decode m_C_refusalOfItem.2.1 27 = .ok (.getfield 101, 3) := by decide +kernel
theorem d_C_refusalOfItem_30 : decode m_C_refusalOfItem.2.1 30 = .ok (.ifCond .eq 9, 3) := by decide +kernel
theorem d_C_refusalOfItem_33 : decode m_C_refusalOfItem.2.1 33 = .ok (.aload_n 0, 1) := by decide +kernel
theorem d_C_refusalOfItem_34 : decode m_C_refusalOfItem.2.1 34 = .ok (.iconst 1, 1) := by decide +kernel
theorem d_C_refusalOfItem_35 : decode m_C_refusalOfItem.2.1 35 = .ok (.invokevirtual 105, 3) := by decide +kernel
theorem d_C_refusalOfItem_38 : decode m_C_refusalOfItem.2.1 38 = .ok (.ireturn, 1) := by decide +kernel
theorem d_C_refusalOfItem_39 : decode m_C_refusalOfItem.2.1 39 = .ok (.aload 4, 2) := by decide +kernel
theorem d_C_refusalOfItem_41 : decode m_C_refusalOfItem.2.1 41 = .ok (.getfield 225, 3) := by decide +kernel
theorem d_C_refusalOfItem_44 : decode m_C_refusalOfItem.2.1 44 = .ok (.iload_n 2, 1) := by decide +kernel
theorem d_C_refusalOfItem_45 : decode m_C_refusalOfItem.2.1 45 = .ok (.if_icmp .eq 9, 3) := by decide +kernel
theorem d_C_refusalOfItem_48 : decode m_C_refusalOfItem.2.1 48 = .ok (.aload_n 0, 1) := by decide +kernel
theorem d_C_refusalOfItem_49 : decode m_C_refusalOfItem.2.1 49 = .ok (.iconst 3, 1) := by decide +kernel
theorem d_C_refusalOfItem_50 : decode m_C_refusalOfItem.2.1 50 = .ok (.invokevirtual 105, 3) := by decide +kernel
theorem d_C_refusalOfItem_53 : decode m_C_refusalOfItem.2.1 53 = .ok (.ireturn, 1) := by decide +kernel
theorem d_C_refusalOfItem_54 : decode m_C_refusalOfItem.2.1 54 = .ok (.iload_n 3, 1) := by decide +kernel
theorem d_C_refusalOfItem_55 : decode m_C_refusalOfItem.2.1 55 = .ok (.ifCond .lt 12, 3) := by decide +kernel
theorem d_C_refusalOfItem_58 : decode m_C_refusalOfItem.2.1 58 = .ok (.iload_n 3, 1) := by decide +kernel
theorem d_C_refusalOfItem_59 : decode m_C_refusalOfItem.2.1 59 = .ok (.aload 4, 2) := by decide +kernel
theorem d_C_refusalOfItem_61 : decode m_C_refusalOfItem.2.1 61 = .ok (.getfield 109, 3) := by decide +kernel
theorem d_C_refusalOfItem_64 : decode m_C_refusalOfItem.2.1 64 = .ok (.if_icmp .lt 11, 3) := by decide +kernel
theorem d_C_refusalOfItem_67 : decode m_C_refusalOfItem.2.1 67 = .ok (.aload_n 0, 1) := by decide +kernel
theorem d_C_refusalOfItem_68 : decode m_C_refusalOfItem.2.1 68 = .ok (.iconst 2, 1) := by decide +kernel
theorem d_C_refusalOfItem_69 : decode m_C_refusalOfItem.2.1 69 = .ok (.invokevirtual 105, 3) := by decide +kernel
theorem d_C_refusalOfItem_72 : decode m_C_refusalOfItem.2.1 72 = .ok (.goto 4, 3) := by decide +kernel
theorem d_C_refusalOfItem_75 : decode m_C_refusalOfItem.2.1 75 = .ok (.iconst 0, 1) := by decide +kernel
theorem d_C_refusalOfItem_76 : decode m_C_refusalOfItem.2.1 76 = .ok (.ireturn, 1) := by decide +kernel
set_option maxHeartbeats 4000000 in
set_option maxRecDepth 20000 in
theorem c_C_refusalOfItem (G : Gt) (x1 : Int32) (x2 : Int32) (x3 : Int32) (h : Hp) : Cn G m_C_refusalOfItem [.ref (ad G 0), .int x1, .int x2, .int x3] h κi (f_C_refusalOfItem x1 x2 x3 h) := by
  refine entryV (by decide) (Nat.le_of_ble_eq_true rfl) rfl ?_
  show V G m_C_refusalOfItem 0 [(0, .ref (ad G 0)), (1, .int x1), (2, .int x2), (3, .int x3)] [] h κi _
  unfold f_C_refusalOfItem
  refine v_iload_n 1 d_C_refusalOfItem_0 rfl rfl ?_
  refine v_callSi (As := [.int x1]) (rest := []) (c_C_isSheet G x1 h) co_C_98 so_C_isSheet ⟨by decide, by decide⟩ rfl rfl (Nat.le_of_ble_eq_true rfl) d_C_refusalOfItem_1 (fun r1 h1 _ => ?_)
  refine v_if_eq 14 d_C_refusalOfItem_4 (by decide) (fun c2 => ?_) (fun c2 => ?_)
  · refine v_bipush (-2) d_C_refusalOfItem_14 rfl ?_
    exact v_iret rfl d_C_refusalOfItem_16
  · refine v_iload_n 2 d_C_refusalOfItem_7 rfl rfl ?_
    refine v_callSi (As := [.int x2]) (rest := []) (c_C_isForm G x2 h1) co_C_212 so_C_isForm ⟨by decide, by decide⟩ rfl rfl (Nat.le_of_ble_eq_true rfl) d_C_refusalOfItem_8 (fun r3 h3 _ => ?_)
    refine v_if_ne 17 d_C_refusalOfItem_11 (by decide) (fun c4 => ?_) (fun c4 => ?_)
    · refine v_bipush (-2) d_C_refusalOfItem_14 rfl ?_
      exact v_iret rfl d_C_refusalOfItem_16
    · refine v_aload_n 0 d_C_refusalOfItem_17 rfl rfl ?_
      refine v_getr 14 fl_C_41 o_0 rfl rfl d_C_refusalOfItem_18 ?_
      refine v_iload_n 1 d_C_refusalOfItem_21 rfl rfl ?_
      refine v_aald3 (23 + 2 * ix x1) rfl ar_14 d_C_refusalOfItem_22 (fun b5 => ?_)
      refine v_astore [(4, .ref (ad G (23 + 2 * ix x1))), (0, .ref (ad G 0)), (1, .int x1), (2, .int x2), (3, .int x3)] d_C_refusalOfItem_23 (by decide) rfl ?_
      refine v_aload 0 d_C_refusalOfItem_25 rfl ?_
      refine v_geti fl_C_101 (sh_o b5) rfl d_C_refusalOfItem_27 ?_
      refine v_if_eq 39 d_C_refusalOfItem_30 (by decide) (fun c6 => ?_) (fun c6 => ?_)
      · refine v_aload 0 d_C_refusalOfItem_39 rfl ?_
        refine v_geti fl_C_225 (sh_o b5) rfl d_C_refusalOfItem_41 ?_
        refine v_iload_n 3 d_C_refusalOfItem_44 rfl rfl ?_
        refine v_icmp_eq 54 d_C_refusalOfItem_45 (by decide) (fun c7 => ?_) (fun c7 => ?_)
        · refine v_iload_n 4 d_C_refusalOfItem_54 rfl rfl ?_
          refine v_if_lt 67 d_C_refusalOfItem_55 (by decide) (fun c8 => ?_) (fun c8 => ?_)
          · refine v_aload_n 1 d_C_refusalOfItem_67 rfl rfl ?_
            refine v_iconst 2 d_C_refusalOfItem_68 rfl ?_
            refine v_callVi (As := [.int 2]) (rest := []) (c_C_found G 2 h3) co_C_105 io_C_found o_0 ⟨by decide, by decide⟩ rfl rfl (Nat.le_of_ble_eq_true rfl) d_C_refusalOfItem_69 (fun r9 h9 _ => ?_)
            refine v_goto 76 d_C_refusalOfItem_72 (by decide) ?_
            exact v_iret rfl d_C_refusalOfItem_76
          · refine v_iload_n 4 d_C_refusalOfItem_58 rfl rfl ?_
            refine v_aload 0 d_C_refusalOfItem_59 rfl ?_
            refine v_geti fl_C_109 (sh_o b5) rfl d_C_refusalOfItem_61 ?_
            refine v_icmp_lt 75 d_C_refusalOfItem_64 (by decide) (fun c10 => ?_) (fun c10 => ?_)
            · refine v_iconst 0 d_C_refusalOfItem_75 rfl ?_
              exact v_iret rfl d_C_refusalOfItem_76
            · refine v_aload_n 1 d_C_refusalOfItem_67 rfl rfl ?_
              refine v_iconst 2 d_C_refusalOfItem_68 rfl ?_
              refine v_callVi (As := [.int 2]) (rest := []) (c_C_found G 2 h3) co_C_105 io_C_found o_0 ⟨by decide, by decide⟩ rfl rfl (Nat.le_of_ble_eq_true rfl) d_C_refusalOfItem_69 (fun r11 h11 _ => ?_)
              refine v_goto 76 d_C_refusalOfItem_72 (by decide) ?_
              exact v_iret rfl d_C_refusalOfItem_76
        · refine v_aload_n 1 d_C_refusalOfItem_48 rfl rfl ?_
          refine v_iconst 3 d_C_refusalOfItem_49 rfl ?_
          refine v_callVi (As := [.int 3]) (rest := []) (c_C_found G 3 h3) co_C_105 io_C_found o_0 ⟨by decide, by decide⟩ rfl rfl (Nat.le_of_ble_eq_true rfl) d_C_refusalOfItem_50 (fun r12 h12 _ => ?_)
          exact v_iret rfl d_C_refusalOfItem_53
      · refine v_aload_n 1 d_C_refusalOfItem_33 rfl rfl ?_
        refine v_iconst 1 d_C_refusalOfItem_34 rfl ?_
        refine v_callVi (As := [.int 1]) (rest := []) (c_C_found G 1 h3) co_C_105 io_C_found o_0 ⟨by decide, by decide⟩ rfl rfl (Nat.le_of_ble_eq_true rfl) d_C_refusalOfItem_35 (fun r13 h13 _ => ?_)
        exact v_iret rfl d_C_refusalOfItem_38
theorem d_Sh_store_0 : decode m_Sh_store.2.1 0 = .ok (.iload_n 1, 1) := by decide +kernel
theorem d_Sh_store_1 : decode m_Sh_store.2.1 1 = .ok (.ifCond .lt 11, 3) := by decide +kernel
theorem d_Sh_store_4 : decode m_Sh_store.2.1 4 = .ok (.iload_n 1, 1) := by decide +kernel
theorem d_Sh_store_5 : decode m_Sh_store.2.1 5 = .ok (.aload_n 0, 1) := by decide +kernel
theorem d_Sh_store_6 : decode m_Sh_store.2.1 6 = .ok (.getfield 23, 3) := by decide +kernel
theorem d_Sh_store_9 : decode m_Sh_store.2.1 9 = .ok (.if_icmp .lt 4, 3) := by decide +kernel
theorem d_Sh_store_12 : decode m_Sh_store.2.1 12 = .ok (.return_, 1) := by decide +kernel
theorem d_Sh_store_13 : decode m_Sh_store.2.1 13 = .ok (.aload_n 0, 1) := by decide +kernel
theorem d_Sh_store_14 : decode m_Sh_store.2.1 14 = .ok (.getfield 19, 3) := by decide +kernel
theorem d_Sh_store_17 : decode m_Sh_store.2.1 17 = .ok (.lookupswitch 49 #[(0, 27), (1, 38)], 27) := by decide +kernel
theorem d_Sh_store_44 : decode m_Sh_store.2.1 44 = .ok (.aload_n 0, 1) := by decide +kernel
theorem d_Sh_store_45 : decode m_Sh_store.2.1 45 = .ok (.getfield 9, 3) := by decide +kernel
theorem d_Sh_store_48 : decode m_Sh_store.2.1 48 = .ok (.iload_n 1, 1) := by decide +kernel
theorem d_Sh_store_49 : decode m_Sh_store.2.1 49 = .ok (.iload_n 2, 1) := by decide +kernel
theorem d_Sh_store_50 : decode m_Sh_store.2.1 50 = .ok (.i2b, 1) := by decide +kernel
theorem d_Sh_store_51 : decode m_Sh_store.2.1 51 = .ok (.iastore, 1) := by decide +kernel
theorem d_Sh_store_52 : decode m_Sh_store.2.1 52 = .ok (.goto 21, 3) := by decide +kernel
theorem d_Sh_store_55 : decode m_Sh_store.2.1 55 = .ok (.aload_n 0, 1) := by decide +kernel
theorem d_Sh_store_56 : decode m_Sh_store.2.1 56 = .ok (.getfield 9, 3) := by decide +kernel
theorem d_Sh_store_59 : decode m_Sh_store.2.1 59 = .ok (.iload_n 1, 1) := by decide +kernel
theorem d_Sh_store_60 : decode m_Sh_store.2.1 60 = .ok (.iload_n 2, 1) := by decide +kernel
theorem d_Sh_store_61 : decode m_Sh_store.2.1 61 = .ok (.i2s, 1) := by decide +kernel
theorem d_Sh_store_62 : decode m_Sh_store.2.1 62 = .ok (.iastore, 1) := by decide +kernel
theorem d_Sh_store_63 : decode m_Sh_store.2.1 63 = .ok (.goto 10, 3) := by decide +kernel
theorem d_Sh_store_66 : decode m_Sh_store.2.1 66 = .ok (.aload_n 0, 1) := by decide +kernel
theorem d_Sh_store_67 : decode m_Sh_store.2.1 67 = .ok (.getfield 9, 3) := by decide +kernel
theorem d_Sh_store_70 : decode m_Sh_store.2.1 70 = .ok (.iload_n 1, 1) := by decide +kernel
theorem d_Sh_store_71 : decode m_Sh_store.2.1 71 = .ok (.iload_n 2, 1) := by decide +kernel
theorem d_Sh_store_72 : decode m_Sh_store.2.1 72 = .ok (.iastore, 1) := by decide +kernel
theorem d_Sh_store_73 : decode m_Sh_store.2.1 73 = .ok (.return_, 1) := by decide +kernel
set_option maxHeartbeats 4000000 in
set_option maxRecDepth 20000 in
theorem c_Sh_store (G : Gt) (a0 : Nat) (x1 : Int32) (x2 : Int32) (ha0 : isO 2 a0) (h : Hp) : Cn G m_Sh_store [.ref (ad G a0), .int x1, .int x2] h κv (f_Sh_store a0 x1 x2 h) := by
  refine entryV (by decide) (Nat.le_of_ble_eq_true rfl) rfl ?_
  show V G m_Sh_store 0 [(0, .ref (ad G a0)), (1, .int x1), (2, .int x2)] [] h κv _
  unfold f_Sh_store
  refine v_iload_n 1 d_Sh_store_0 rfl rfl ?_
  refine v_if_lt 12 d_Sh_store_1 (by decide) (fun c1 => ?_) (fun c1 => ?_)
  · exact v_vret rfl d_Sh_store_12
  · refine v_iload_n 1 d_Sh_store_4 rfl rfl ?_
    refine v_aload_n 0 d_Sh_store_5 rfl rfl ?_
    refine v_geti fl_Sh_23 ha0 rfl d_Sh_store_6 ?_
    refine v_icmp_lt 13 d_Sh_store_9 (by decide) (fun c2 => ?_) (fun c2 => ?_)
    · refine v_aload_n 0 d_Sh_store_13 rfl rfl ?_
      refine v_geti fl_Sh_19 ha0 rfl d_Sh_store_14 ?_
      refine v_ite (fun c3 => ?_) (fun c3 => ?_)
      · refine v_lookup (off := 27) 44 d_Sh_store_17 rfl (by rw [c3]; rfl) (by decide) ?_
        refine v_aload_n 0 d_Sh_store_44 rfl rfl ?_
        refine v_getr (a0 + 1) fl_Sh_9 ha0 rfl rfl d_Sh_store_45 ?_
        refine v_iload_n 1 d_Sh_store_48 rfl rfl ?_
        refine v_iload_n 2 d_Sh_store_49 rfl rfl ?_
        refine v_i2b d_Sh_store_50 ?_
        refine v_iast (shA ha0) d_Sh_store_51 ?_
        refine v_goto 73 d_Sh_store_52 (by decide) ?_
        exact v_vret rfl d_Sh_store_73
      · refine v_ite (fun c4 => ?_) (fun c4 => ?_)
        · refine v_lookup (off := 38) 55 d_Sh_store_17 rfl (by rw [c4]; rfl) (by decide) ?_
          refine v_aload_n 0 d_Sh_store_55 rfl rfl ?_
          refine v_getr (a0 + 1) fl_Sh_9 ha0 rfl rfl d_Sh_store_56 ?_
          refine v_iload_n 1 d_Sh_store_59 rfl rfl ?_
          refine v_iload_n 2 d_Sh_store_60 rfl rfl ?_
          refine v_i2s d_Sh_store_61 ?_
          refine v_iast (shA ha0) d_Sh_store_62 ?_
          refine v_goto 73 d_Sh_store_63 (by decide) ?_
          exact v_vret rfl d_Sh_store_73
        · refine v_lookup (off := 49) 66 d_Sh_store_17 rfl (by show Op.lookupswitch.offset [(0, 27), (1, 38)] 49 _ = _; rw [lv_osw (a := 0) c3 rfl, lv_osw (a := 1) c4 rfl]; rfl) (by decide) ?_
          refine v_aload_n 0 d_Sh_store_66 rfl rfl ?_
          refine v_getr (a0 + 1) fl_Sh_9 ha0 rfl rfl d_Sh_store_67 ?_
          refine v_iload_n 1 d_Sh_store_70 rfl rfl ?_
          refine v_iload_n 2 d_Sh_store_71 rfl rfl ?_
          refine v_iast (shA ha0) d_Sh_store_72 ?_
          exact v_vret rfl d_Sh_store_73
    · exact v_vret rfl d_Sh_store_12
theorem d_C_put_0 : decode m_C_put.2.1 0 = .ok (.aload_n 0, 1) := by decide +kernel
theorem d_C_put_1 : decode m_C_put.2.1 1 = .ok (.iload_n 1, 1) := by decide +kernel
theorem d_C_put_2 : decode m_C_put.2.1 2 = .ok (.iload_n 2, 1) := by decide +kernel
theorem d_C_put_3 : decode m_C_put.2.1 3 = .ok (.iload_n 3, 1) := by decide +kernel
theorem d_C_put_4 : decode m_C_put.2.1 4 = .ok (.invokevirtual 218, 3) := by decide +kernel
theorem d_C_put_7 : decode m_C_put.2.1 7 = .ok (.istore 5, 2) := by decide +kernel
theorem d_C_put_9 : decode m_C_put.2.1 9 = .ok (.iload 5, 2) := by decide +kernel
theorem d_C_put_11 : decode m_C_put.2.1 11 = .ok (.ifCond .eq 6, 3) := by decide +kernel
theorem d_C_put_14 : decode m_C_put.2.1 14 = .ok (.iload 5, 2) := by decide +kernel
theorem d_C_put_16 : decode m_C_put.2.1 16 = .ok (.ireturn, 1) := by decide +kernel
theorem d_C_put_17 : decode m_C_put.2.1 17 = .ok (.aload_n 0, 1) := by decide +kernel
theorem d_C_put_18 : decode m_C_put.2.1 18 = .ok (.getfield 41, 3) := by decide +kernel
theorem d_C_put_21 : decode m_C_put.2.1 21 = .ok (.iload_n 1, 1) := by decide +kernel
theorem d_C_put_22 : decode m_C_put.2.1 22 = .ok (.aaload, 1) := by decide +kernel
theorem d_C_put_23 : decode m_C_put.2.1 23 = .ok (.iload_n 3, 1) := by decide +kernel
theorem d_C_put_24 : decode m_C_put.2.1 24 = .ok (.iload 4, 2) := by decide +kernel
theorem d_C_put_26 : decode m_C_put.2.1 26 = .ok (.invokevirtual 221, 3) := by decide +kernel
theorem d_C_put_29 : decode m_C_put.2.1 29 = .ok (.iconst 1, 1) := by decide +kernel
theorem d_C_put_30 : decode m_C_put.2.1 30 = .ok (.ireturn, 1) := by decide +kernel
set_option maxHeartbeats 4000000 in
set_option maxRecDepth 20000 in
theorem c_C_put (G : Gt) (x1 : Int32) (x2 : Int32) (x3 : Int32) (x4 : Int32) (h : Hp) : Cn G m_C_put [.ref (ad G 0), .int x1, .int x2, .int x3, .int x4] h κi (f_C_put x1 x2 x3 x4 h) := by
  refine entryV (by decide) (Nat.le_of_ble_eq_true rfl) rfl ?_
  show V G m_C_put 0 [(0, .ref (ad G 0)), (1, .int x1), (2, .int x2), (3, .int x3), (4, .int x4)] [] h κi _
  unfold f_C_put
  refine v_aload_n 0 d_C_put_0 rfl rfl ?_
  refine v_iload_n 1 d_C_put_1 rfl rfl ?_
  refine v_iload_n 2 d_C_put_2 rfl rfl ?_
  refine v_iload_n 3 d_C_put_3 rfl rfl ?_
  refine v_callVi (As := [.int x1, .int x2, .int x3]) (rest := []) (c_C_refusalOfItem G x1 x2 x3 h) co_C_218 io_C_refusalOfItem o_0 ⟨by decide, by decide⟩ rfl rfl (Nat.le_of_ble_eq_true rfl) d_C_put_4 (fun r1 h1 _ => ?_)
  refine v_istore [(5, .int r1), (0, .ref (ad G 0)), (1, .int x1), (2, .int x2), (3, .int x3), (4, .int x4)] d_C_put_7 (by decide) rfl ?_
  refine v_iload 0 d_C_put_9 rfl ?_
  refine v_if_eq 17 d_C_put_11 (by decide) (fun c2 => ?_) (fun c2 => ?_)
  · refine v_aload_n 1 d_C_put_17 rfl rfl ?_
    refine v_getr 14 fl_C_41 o_0 rfl rfl d_C_put_18 ?_
    refine v_iload_n 2 d_C_put_21 rfl rfl ?_
    refine v_aald3 (23 + 2 * ix x1) rfl ar_14 d_C_put_22 (fun b3 => ?_)
    refine v_iload_n 4 d_C_put_23 rfl rfl ?_
    refine v_iload 5 d_C_put_24 rfl ?_
    refine v_callVv (As := [.int x3, .int x4]) (rest := []) (c_Sh_store G (23 + 2 * ix x1) x3 x4 (sh_o b3) h1) co_C_221 io_Sh_store (sh_o b3) ⟨by decide, by decide⟩ rfl rfl (Nat.le_of_ble_eq_true rfl) d_C_put_26 (fun _ h4 _ => ?_)
    refine v_iconst 1 d_C_put_29 rfl ?_
    exact v_iret rfl d_C_put_30
  · refine v_iload 0 d_C_put_14 rfl ?_
    exact v_iret rfl d_C_put_16
theorem d_C_get_0 : decode m_C_get.2.1 0 = .ok (.aload_n 0, 1) := by decide +kernel
theorem d_C_get_1 : decode m_C_get.2.1 1 = .ok (.iload_n 1, 1) := by decide +kernel
theorem d_C_get_2 : decode m_C_get.2.1 2 = .ok (.iload_n 2, 1) := by decide +kernel
theorem d_C_get_3 : decode m_C_get.2.1 3 = .ok (.iload_n 3, 1) := by decide +kernel
theorem d_C_get_4 : decode m_C_get.2.1 4 = .ok (.invokevirtual 218, 3) := by decide +kernel
theorem d_C_get_7 : decode m_C_get.2.1 7 = .ok (.ifCond .eq 6, 3) := by decide +kernel
theorem d_C_get_10 : decode m_C_get.2.1 10 = .ok (.ldc 224, 2) := by decide +kernel
theorem d_C_get_12 : decode m_C_get.2.1 12 = .ok (.ireturn, 1) := by decide +kernel
theorem d_C_get_13 : decode m_C_get.2.1 13 = .ok (.aload_n 0, 1) := by decide +kernel
theorem d_C_get_14 : decode m_C_get.2.1 14 = .ok (.getfield 41, 3) := by decide +kernel
theorem d_C_get_17 : decode m_C_get.2.1 17 = .ok (.iload_n 1, 1) := by decide +kernel
theorem d_C_get_18 : decode m_C_get.2.1 18 = .ok (.aaload, 1) := by decide +kernel
theorem d_C_get_19 : decode m_C_get.2.1 19 = .ok (.getfield 116, 3) := by decide +kernel
theorem d_C_get_22 : decode m_C_get.2.1 22 = .ok (.iload_n 3, 1) := by decide +kernel
theorem d_C_get_23 : decode m_C_get.2.1 23 = .ok (.iaload, 1) := by decide +kernel
theorem d_C_get_24 : decode m_C_get.2.1 24 = .ok (.ireturn, 1) := by decide +kernel
set_option maxHeartbeats 4000000 in
set_option maxRecDepth 20000 in
theorem c_C_get (G : Gt) (x1 : Int32) (x2 : Int32) (x3 : Int32) (h : Hp) : Cn G m_C_get [.ref (ad G 0), .int x1, .int x2, .int x3] h κi (f_C_get x1 x2 x3 h) := by
  refine entryV (by decide) (Nat.le_of_ble_eq_true rfl) rfl ?_
  show V G m_C_get 0 [(0, .ref (ad G 0)), (1, .int x1), (2, .int x2), (3, .int x3)] [] h κi _
  unfold f_C_get
  refine v_aload_n 0 d_C_get_0 rfl rfl ?_
  refine v_iload_n 1 d_C_get_1 rfl rfl ?_
  refine v_iload_n 2 d_C_get_2 rfl rfl ?_
  refine v_iload_n 3 d_C_get_3 rfl rfl ?_
  refine v_callVi (As := [.int x1, .int x2, .int x3]) (rest := []) (c_C_refusalOfItem G x1 x2 x3 h) co_C_218 io_C_refusalOfItem o_0 ⟨by decide, by decide⟩ rfl rfl (Nat.le_of_ble_eq_true rfl) d_C_get_4 (fun r1 h1 _ => ?_)
  refine v_if_eq 13 d_C_get_7 (by decide) (fun c2 => ?_) (fun c2 => ?_)
  · refine v_aload_n 0 d_C_get_13 rfl rfl ?_
    refine v_getr 14 fl_C_41 o_0 rfl rfl d_C_get_14 ?_
    refine v_iload_n 1 d_C_get_17 rfl rfl ?_
    refine v_aald3 (23 + 2 * ix x1) rfl ar_14 d_C_get_18 (fun b3 => ?_)
    refine v_getr (23 + 2 * ix x1 + 1) fl_C_116 (sh_o b3) rfl rfl d_C_get_19 ?_
    refine v_iload_n 3 d_C_get_22 rfl rfl ?_
    refine v_iald (shA (sh_o b3)) d_C_get_23 ?_
    exact v_iret rfl d_C_get_24
  · refine v_ldc (v := (-2147483648)) (mem_t 469 (by decide +kernel) rfl) d_C_get_10 ?_
    exact v_iret rfl d_C_get_12
theorem d_Sh_hasRun_0 : decode m_Sh_hasRun.2.1 0 = .ok (.iload_n 1, 1) := by decide +kernel
theorem d_Sh_hasRun_1 : decode m_Sh_hasRun.2.1 1 = .ok (.ifCond .lt 29, 3) := by decide +kernel
theorem d_Sh_hasRun_4 : decode m_Sh_hasRun.2.1 4 = .ok (.iload_n 2, 1) := by decide +kernel
theorem d_Sh_hasRun_5 : decode m_Sh_hasRun.2.1 5 = .ok (.ifCond .lt 25, 3) := by decide +kernel
theorem d_Sh_hasRun_8 : decode m_Sh_hasRun.2.1 8 = .ok (.iload_n 1, 1) := by decide +kernel
theorem d_Sh_hasRun_9 : decode m_Sh_hasRun.2.1 9 = .ok (.aload_n 0, 1) := by decide +kernel
theorem d_Sh_hasRun_10 : decode m_Sh_hasRun.2.1 10 = .ok (.getfield 23, 3) := by decide +kernel
theorem d_Sh_hasRun_13 : decode m_Sh_hasRun.2.1 13 = .ok (.if_icmp .gt 17, 3) := by decide +kernel
theorem d_Sh_hasRun_16 : decode m_Sh_hasRun.2.1 16 = .ok (.iload_n 2, 1) := by decide +kernel
theorem d_Sh_hasRun_17 : decode m_Sh_hasRun.2.1 17 = .ok (.aload_n 0, 1) := by decide +kernel
theorem d_Sh_hasRun_18 : decode m_Sh_hasRun.2.1 18 = .ok (.getfield 23, 3) := by decide +kernel
theorem d_Sh_hasRun_21 : decode m_Sh_hasRun.2.1 21 = .ok (.iload_n 1, 1) := by decide +kernel
theorem d_Sh_hasRun_22 : decode m_Sh_hasRun.2.1 22 = .ok (.isub, 1) := by decide +kernel
theorem d_Sh_hasRun_23 : decode m_Sh_hasRun.2.1 23 = .ok (.if_icmp .gt 7, 3) := by decide +kernel
theorem d_Sh_hasRun_26 : decode m_Sh_hasRun.2.1 26 = .ok (.iconst 1, 1) := by decide +kernel
theorem d_Sh_hasRun_27 : decode m_Sh_hasRun.2.1 27 = .ok (.goto 4, 3) := by decide +kernel
theorem d_Sh_hasRun_30 : decode m_Sh_hasRun.2.1 30 = .ok (.iconst 0, 1) := by decide +kernel
theorem d_Sh_hasRun_31 : decode m_Sh_hasRun.2.1 31 = .ok (.ireturn, 1) := by decide +kernel
set_option maxHeartbeats 4000000 in
set_option maxRecDepth 20000 in
theorem c_Sh_hasRun (G : Gt) (a0 : Nat) (x1 : Int32) (x2 : Int32) (ha0 : isO 2 a0) (h : Hp) : Cn G m_Sh_hasRun [.ref (ad G a0), .int x1, .int x2] h κi (f_Sh_hasRun a0 x1 x2 h) := by
  refine entryV (by decide) (Nat.le_of_ble_eq_true rfl) rfl ?_
  show V G m_Sh_hasRun 0 [(0, .ref (ad G a0)), (1, .int x1), (2, .int x2)] [] h κi _
  unfold f_Sh_hasRun
  refine v_iload_n 1 d_Sh_hasRun_0 rfl rfl ?_
  refine v_if_lt 30 d_Sh_hasRun_1 (by decide) (fun c1 => ?_) (fun c1 => ?_)
  · refine v_iconst 0 d_Sh_hasRun_30 rfl ?_
    exact v_zretL rfl rfl d_Sh_hasRun_31
  · refine v_iload_n 2 d_Sh_hasRun_4 rfl rfl ?_
    refine v_if_lt 30 d_Sh_hasRun_5 (by decide) (fun c2 => ?_) (fun c2 => ?_)
    · refine v_iconst 0 d_Sh_hasRun_30 rfl ?_
      exact v_zretL rfl rfl d_Sh_hasRun_31
    · refine v_iload_n 1 d_Sh_hasRun_8 rfl rfl ?_
      refine v_aload_n 0 d_Sh_hasRun_9 rfl rfl ?_
      refine v_geti fl_Sh_23 ha0 rfl d_Sh_hasRun_10 ?_
      refine v_icmp_gt 30 d_Sh_hasRun_13 (by decide) (fun c3 => ?_) (fun c3 => ?_)
      · refine v_iconst 0 d_Sh_hasRun_30 rfl ?_
        exact v_zretL rfl rfl d_Sh_hasRun_31
      · refine v_iload_n 2 d_Sh_hasRun_16 rfl rfl ?_
        refine v_aload_n 0 d_Sh_hasRun_17 rfl rfl ?_
        refine v_geti fl_Sh_23 ha0 rfl d_Sh_hasRun_18 ?_
        refine v_iload_n 1 d_Sh_hasRun_21 rfl rfl ?_
        refine v_isub d_Sh_hasRun_22 ?_
        refine v_icmp_gt 30 d_Sh_hasRun_23 (by decide) (fun c4 => ?_) (fun c4 => ?_)
        · refine v_iconst 0 d_Sh_hasRun_30 rfl ?_
          exact v_zretL rfl rfl d_Sh_hasRun_31
        · refine v_iconst 1 d_Sh_hasRun_26 rfl ?_
          refine v_goto 31 d_Sh_hasRun_27 (by decide) ?_
          exact v_zretL rfl rfl d_Sh_hasRun_31
theorem d_C_copy_0 : decode m_C_copy.2.1 0 = .ok (.iload_n 1, 1) := by decide +kernel
theorem d_C_copy_1 : decode m_C_copy.2.1 1 = .ok (.invokestatic 98, 3) := by decide +kernel
theorem d_C_copy_4 : decode m_C_copy.2.1 4 = .ok (.ifCond .eq 10, 3) := by decide +kernel
theorem d_C_copy_7 : decode m_C_copy.2.1 7 = .ok (.iload_n 3, 1) := by decide +kernel
theorem d_C_copy_8 : decode m_C_copy.2.1 8 = .ok (.invokestatic 98, 3) := by decide +kernel
theorem d_C_copy_11 : decode m_C_copy.2.1 11 = .ok (.ifCond .ne 6, 3) := by decide +kernel
theorem d_C_copy_14 : decode m_C_copy.2.1 14 = .ok (.bipush (-2), 2) := by decide +kernel
theorem d_C_copy_16 : decode m_C_copy.2.1 16 = .ok (.ireturn, 1) := by decide +kernel
theorem d_C_copy_17 : decode m_C_copy.2.1 17 = .ok (.aload_n 0, 1) := by decide +kernel
theorem d_C_copy_18 : decode m_C_copy.2.1 18 = .ok (.getfield 41, 3) := by decide +kernel
theorem d_C_copy_21 : decode m_C_copy.2.1 21 = .ok (.iload_n 1, 1) := by decide +kernel
theorem d_C_copy_22 : decode m_C_copy.2.1 22 = .ok (.aaload, 1) := by decide +kernel
theorem d_C_copy_23 : decode m_C_copy.2.1 23 = .ok (.astore 6, 2) := by decide +kernel
theorem d_C_copy_25 : decode m_C_copy.2.1 25 = .ok (.aload_n 0, 1) := by decide +kernel
theorem d_C_copy_26 : decode m_C_copy.2.1 26 = .ok (.getfield 41, 3) := by decide +kernel
theorem d_C_copy_29 : decode m_C_copy.2.1 29 = .ok (.iload_n 3, 1) := by decide +kernel
theorem d_C_copy_30 : decode m_C_copy.2.1 30 = .ok (.aaload, 1) := by decide +kernel
theorem d_C_copy_31 : decode m_C_copy.2.1 31 = .ok (.astore 7, 2) := by decide +kernel
theorem d_C_copy_33 : decode m_C_copy.2.1 33 = .ok (.aload 6, 2) := by decide +kernel
theorem d_C_copy_35 : decode m_C_copy.2.1 35 = .ok (.getfield 101, 3) := by decide +kernel
theorem d_C_copy_38 : decode m_C_copy.2.1 38 = .ok (.ifCond .ne 11, 3) := by decide +kernel
theorem d_C_copy_41 : decode m_C_copy.2.1 41 = .ok (.aload 7, 2) := by decide +kernel
theorem d_C_copy_43 : decode m_C_copy.2.1 43 = .ok (.getfield 101, 3) := by decide +kernel
theorem d_C_copy_46 : decode m_C_copy.2.1 46 = .ok (.ifCond .eq 9, 3) := by decide +kernel
theorem d_C_copy_49 : decode m_C_copy.2.1 49 = .ok (.aload_n 0, 1) := by decide +kernel
theorem d_C_copy_50 : decode m_C_copy.2.1 50 = .ok (.iconst 1, 1) := by decide +kernel
theorem d_C_copy_51 : decode m_C_copy.2.1 51 = .ok (.invokevirtual 105, 3) := by decide +kernel
theorem d_C_copy_54 : decode m_C_copy.2.1 54 = .ok (.ireturn, 1) := by decide +kernel
theorem d_C_copy_55 : decode m_C_copy.2.1 55 = .ok (.aload 6, 2) := by decide +kernel
theorem d_C_copy_57 : decode m_C_copy.2.1 57 = .ok (.getfield 225, 3) := by decide +kernel
theorem d_C_copy_60 : decode m_C_copy.2.1 60 = .ok (.aload 7, 2) := by decide +kernel
theorem d_C_copy_62 : decode m_C_copy.2.1 62 = .ok (.getfield 225, 3) := by decide +kernel
theorem d_C_copy_65 : decode m_C_copy.2.1 65 = .ok (.if_icmp .eq 9, 3) := by decide +kernel
theorem d_C_copy_68 : decode m_C_copy.2.1 68 = .ok (.aload_n 0, 1) := by decide +kernel
theorem d_C_copy_69 : decode m_C_copy.2.1 69 = .ok (.iconst 4, 1) := by decide +kernel
theorem d_C_copy_70 : decode m_C_copy.2.1 70 = .ok (.invokevirtual 105, 3) := by decide +kernel
theorem d_C_copy_73 : decode m_C_copy.2.1 73 = .ok (.ireturn, 1) := by decide +kernel
theorem d_C_copy_74 : decode m_C_copy.2.1 74 = .ok (.aload 6, 2) := by decide +kernel
theorem d_C_copy_76 : decode m_C_copy.2.1 76 = .ok (.iload_n 2, 1) := by decide +kernel
theorem d_C_copy_77 : decode m_C_copy.2.1 77 = .ok (.iload 5, 2) := by decide +kernel
theorem d_C_copy_79 : decode m_C_copy.2.1 79 = .ok (.invokevirtual 228, 3) := by decide +kernel
theorem d_C_copy_82 : decode m_C_copy.2.1 82 = .ok (.ifCond .eq 15, 3) := by decide +kernel
theorem d_C_copy_85 : decode m_C_copy.2.1 85 = .ok (.aload 7, 2) := by decide +kernel
theorem d_C_copy_87 : decode m_C_copy.2.1 87 = .ok (.iload 4, 2) := by decide +kernel
theorem d_C_copy_89 : decode m_C_copy.2.1 89 = .ok (.iload 5, 2) := by decide +kernel
theorem d_C_copy_91 : decode m_C_copy.2.1 91 = .ok (.invokevirtual 228, 3) := by decide +kernel
theorem d_C_copy_94 : decode m_C_copy.2.1 94 = .ok (.ifCond .ne 9, 3) := by decide +kernel
theorem d_C_copy_97 : decode m_C_copy.2.1 97 = .ok (.aload_n 0, 1) := by decide +kernel
theorem d_C_copy_98 : decode m_C_copy.2.1 98 = .ok (.iconst 2, 1) := by decide +kernel
theorem d_C_copy_99 : decode m_C_copy.2.1 99 = .ok (.invokevirtual 105, 3) := by decide +kernel
theorem d_C_copy_102 : decode m_C_copy.2.1 102 = .ok (.ireturn, 1) := by decide +kernel
theorem d_C_copy_103 : decode m_C_copy.2.1 103 = .ok (.aload 6, 2) := by decide +kernel
theorem d_C_copy_105 : decode m_C_copy.2.1 105 = .ok (.getfield 116, 3) := by decide +kernel
theorem d_C_copy_108 : decode m_C_copy.2.1 108 = .ok (.iload_n 2, 1) := by decide +kernel
theorem d_C_copy_109 : decode m_C_copy.2.1 109 = .ok (.aload 7, 2) := by decide +kernel
theorem d_C_copy_111 : decode m_C_copy.2.1 111 = .ok (.getfield 116, 3) := by decide +kernel
theorem d_C_copy_114 : decode m_C_copy.2.1 114 = .ok (.iload 4, 2) := by decide +kernel
theorem d_C_copy_116 : decode m_C_copy.2.1 116 = .ok (.iload 5, 2) := by decide +kernel
theorem d_C_copy_118 : decode m_C_copy.2.1 118 = .ok (.invokestatic 231, 3) := by decide +kernel
theorem d_C_copy_121 : decode m_C_copy.2.1 121 = .ok (.iconst 1, 1) := by decide +kernel
theorem d_C_copy_122 : decode m_C_copy.2.1 122 = .ok (.ireturn, 1) := by decide +kernel
set_option maxHeartbeats 4000000 in
set_option maxRecDepth 20000 in
theorem c_C_copy (G : Gt) (x1 : Int32) (x2 : Int32) (x3 : Int32) (x4 : Int32) (x5 : Int32) (h : Hp) : Cn G m_C_copy [.ref (ad G 0), .int x1, .int x2, .int x3, .int x4, .int x5] h κi (f_C_copy x1 x2 x3 x4 x5 h) := by
  refine entryV (by decide) (Nat.le_of_ble_eq_true rfl) rfl ?_
  show V G m_C_copy 0 [(0, .ref (ad G 0)), (1, .int x1), (2, .int x2), (3, .int x3), (4, .int x4), (5, .int x5)] [] h κi _
  unfold f_C_copy
  refine v_iload_n 1 d_C_copy_0 rfl rfl ?_
  refine v_callSi (As := [.int x1]) (rest := []) (c_C_isSheet G x1 h) co_C_98 so_C_isSheet ⟨by decide, by decide⟩ rfl rfl (Nat.le_of_ble_eq_true rfl) d_C_copy_1 (fun r1 h1 _ => ?_)
  refine v_if_eq 14 d_C_copy_4 (by decide) (fun c2 => ?_) (fun c2 => ?_)
  · refine v_bipush (-2) d_C_copy_14 rfl ?_
    exact v_iret rfl d_C_copy_16
  · refine v_iload_n 3 d_C_copy_7 rfl rfl ?_
    refine v_callSi (As := [.int x3]) (rest := []) (c_C_isSheet G x3 h1) co_C_98 so_C_isSheet ⟨by decide, by decide⟩ rfl rfl (Nat.le_of_ble_eq_true rfl) d_C_copy_8 (fun r3 h3 _ => ?_)
    refine v_if_ne 17 d_C_copy_11 (by decide) (fun c4 => ?_) (fun c4 => ?_)
    · refine v_bipush (-2) d_C_copy_14 rfl ?_
      exact v_iret rfl d_C_copy_16
    · refine v_aload_n 0 d_C_copy_17 rfl rfl ?_
      refine v_getr 14 fl_C_41 o_0 rfl rfl d_C_copy_18 ?_
      refine v_iload_n 1 d_C_copy_21 rfl rfl ?_
      refine v_aald3 (23 + 2 * ix x1) rfl ar_14 d_C_copy_22 (fun b5 => ?_)
      refine v_astore [(6, .ref (ad G (23 + 2 * ix x1))), (0, .ref (ad G 0)), (1, .int x1), (2, .int x2), (3, .int x3), (4, .int x4), (5, .int x5)] d_C_copy_23 (by decide) rfl ?_
      refine v_aload_n 1 d_C_copy_25 rfl rfl ?_
      refine v_getr 14 fl_C_41 o_0 rfl rfl d_C_copy_26 ?_
      refine v_iload_n 4 d_C_copy_29 rfl rfl ?_
      refine v_aald3 (23 + 2 * ix x3) rfl ar_14 d_C_copy_30 (fun b6 => ?_)
      refine v_astore [(7, .ref (ad G (23 + 2 * ix x3))), (6, .ref (ad G (23 + 2 * ix x1))), (0, .ref (ad G 0)), (1, .int x1), (2, .int x2), (3, .int x3), (4, .int x4), (5, .int x5)] d_C_copy_31 (by decide) rfl ?_
      refine v_aload 1 d_C_copy_33 rfl ?_
      refine v_geti fl_C_101 (sh_o b5) rfl d_C_copy_35 ?_
      refine v_if_ne 49 d_C_copy_38 (by decide) (fun c7 => ?_) (fun c7 => ?_)
      · refine v_aload 0 d_C_copy_41 rfl ?_
        refine v_geti fl_C_101 (sh_o b6) rfl d_C_copy_43 ?_
        refine v_if_eq 55 d_C_copy_46 (by decide) (fun c8 => ?_) (fun c8 => ?_)
        · refine v_aload 1 d_C_copy_55 rfl ?_
          refine v_geti fl_C_225 (sh_o b5) rfl d_C_copy_57 ?_
          refine v_aload 0 d_C_copy_60 rfl ?_
          refine v_geti fl_C_225 (sh_o b6) rfl d_C_copy_62 ?_
          refine v_icmp_eq 74 d_C_copy_65 (by decide) (fun c9 => ?_) (fun c9 => ?_)
          · refine v_aload 1 d_C_copy_74 rfl ?_
            refine v_iload_n 4 d_C_copy_76 rfl rfl ?_
            refine v_iload 7 d_C_copy_77 rfl ?_
            refine v_callVi (As := [.int x2, .int x5]) (rest := []) (c_Sh_hasRun G (23 + 2 * ix x1) x2 x5 (sh_o b5) h3) co_C_228 io_Sh_hasRun (sh_o b5) ⟨by decide, by decide⟩ rfl rfl (Nat.le_of_ble_eq_true rfl) d_C_copy_79 (fun r10 h10 _ => ?_)
            refine v_if_eq 97 d_C_copy_82 (by decide) (fun c11 => ?_) (fun c11 => ?_)
            · refine v_aload_n 2 d_C_copy_97 rfl rfl ?_
              refine v_iconst 2 d_C_copy_98 rfl ?_
              refine v_callVi (As := [.int 2]) (rest := []) (c_C_found G 2 h10) co_C_105 io_C_found o_0 ⟨by decide, by decide⟩ rfl rfl (Nat.le_of_ble_eq_true rfl) d_C_copy_99 (fun r12 h12 _ => ?_)
              exact v_iret rfl d_C_copy_102
            · refine v_aload 0 d_C_copy_85 rfl ?_
              refine v_iload 6 d_C_copy_87 rfl ?_
              refine v_iload 7 d_C_copy_89 rfl ?_
              refine v_callVi (As := [.int x4, .int x5]) (rest := []) (c_Sh_hasRun G (23 + 2 * ix x3) x4 x5 (sh_o b6) h10) co_C_228 io_Sh_hasRun (sh_o b6) ⟨by decide, by decide⟩ rfl rfl (Nat.le_of_ble_eq_true rfl) d_C_copy_91 (fun r13 h13 _ => ?_)
              refine v_if_ne 103 d_C_copy_94 (by decide) (fun c14 => ?_) (fun c14 => ?_)
              · refine v_aload_n 2 d_C_copy_97 rfl rfl ?_
                refine v_iconst 2 d_C_copy_98 rfl ?_
                refine v_callVi (As := [.int 2]) (rest := []) (c_C_found G 2 h13) co_C_105 io_C_found o_0 ⟨by decide, by decide⟩ rfl rfl (Nat.le_of_ble_eq_true rfl) d_C_copy_99 (fun r15 h15 _ => ?_)
                exact v_iret rfl d_C_copy_102
              · refine v_aload 1 d_C_copy_103 rfl ?_
                refine v_getr (23 + 2 * ix x1 + 1) fl_C_116 (sh_o b5) rfl rfl d_C_copy_105 ?_
                refine v_iload_n 4 d_C_copy_108 rfl rfl ?_
                refine v_aload 0 d_C_copy_109 rfl ?_
                refine v_getr (23 + 2 * ix x3 + 1) fl_C_116 (sh_o b6) rfl rfl d_C_copy_111 ?_
                refine v_iload 6 d_C_copy_114 rfl ?_
                refine v_iload 7 d_C_copy_116 rfl ?_
                refine v_acopy (shA (sh_o b5)) (shA (sh_o b6)) (mem_t 478 (by decide +kernel) rfl) (mem_t 480 (by decide +kernel) rfl) (mem_t 479 (by decide +kernel) rfl) (mem_t 10 (by decide +kernel) rfl) ⟨by decide, by decide⟩ (Nat.le_of_ble_eq_true rfl) d_C_copy_118 (fun h16 => ?_)
                refine v_iconst 1 d_C_copy_121 rfl ?_
                exact v_iret rfl d_C_copy_122
          · refine v_aload_n 2 d_C_copy_68 rfl rfl ?_
            refine v_iconst 4 d_C_copy_69 rfl ?_
            refine v_callVi (As := [.int 4]) (rest := []) (c_C_found G 4 h3) co_C_105 io_C_found o_0 ⟨by decide, by decide⟩ rfl rfl (Nat.le_of_ble_eq_true rfl) d_C_copy_70 (fun r17 h17 _ => ?_)
            exact v_iret rfl d_C_copy_73
        · refine v_aload_n 2 d_C_copy_49 rfl rfl ?_
          refine v_iconst 1 d_C_copy_50 rfl ?_
          refine v_callVi (As := [.int 1]) (rest := []) (c_C_found G 1 h3) co_C_105 io_C_found o_0 ⟨by decide, by decide⟩ rfl rfl (Nat.le_of_ble_eq_true rfl) d_C_copy_51 (fun r18 h18 _ => ?_)
          exact v_iret rfl d_C_copy_54
      · refine v_aload_n 2 d_C_copy_49 rfl rfl ?_
        refine v_iconst 1 d_C_copy_50 rfl ?_
        refine v_callVi (As := [.int 1]) (rest := []) (c_C_found G 1 h3) co_C_105 io_C_found o_0 ⟨by decide, by decide⟩ rfl rfl (Nat.le_of_ble_eq_true rfl) d_C_copy_51 (fun r19 h19 _ => ?_)
        exact v_iret rfl d_C_copy_54
theorem d_C_write_0 : decode m_C_write.2.1 0 = .ok (.aload_n 0, 1) := by decide +kernel
theorem d_C_write_1 : decode m_C_write.2.1 1 = .ok (.iload_n 1, 1) := by decide +kernel
theorem d_C_write_2 : decode m_C_write.2.1 2 = .ok (.iload_n 2, 1) := by decide +kernel
theorem d_C_write_3 : decode m_C_write.2.1 3 = .ok (.invokevirtual 122, 3) := by decide +kernel
theorem d_C_write_6 : decode m_C_write.2.1 6 = .ok (.ifCond .eq 10, 3) := by decide +kernel
theorem d_C_write_9 : decode m_C_write.2.1 9 = .ok (.iload_n 3, 1) := by decide +kernel
theorem d_C_write_10 : decode m_C_write.2.1 10 = .ok (.invokestatic 98, 3) := by decide +kernel
theorem d_C_write_13 : decode m_C_write.2.1 13 = .ok (.ifCond .ne 6, 3) := by decide +kernel
theorem d_C_write_16 : decode m_C_write.2.1 16 = .ok (.bipush (-2), 2) := by decide +kernel
theorem d_C_write_18 : decode m_C_write.2.1 18 = .ok (.ireturn, 1) := by decide +kernel
theorem d_C_write_19 : decode m_C_write.2.1 19 = .ok (.aload_n 0, 1) := by decide +kernel
theorem d_C_write_20 : decode m_C_write.2.1 20 = .ok (.getfield 41, 3) := by decide +kernel
theorem d_C_write_23 : decode m_C_write.2.1 23 = .ok (.iload_n 3, 1) := by decide +kernel
theorem d_C_write_24 : decode m_C_write.2.1 24 = .ok (.aaload, 1) := by decide +kernel
theorem d_C_write_25 : decode m_C_write.2.1 25 = .ok (.astore 4, 2) := by decide +kernel
theorem d_C_write_27 : decode m_C_write.2.1 27 = .ok (.aload 4, 2) := by decide +kernel
theorem d_C_write_29 : decode m_C_write.2.1 29 = .ok (.getfield 101, 3) := by decide +kernel
theorem d_C_write_32 : decode m_C_write.2.1 32 = .ok (.ifCond .eq 9, 3) := by decide +kernel
theorem d_C_write_35 : decode m_C_write.2.1 35 = .ok (.aload_n 0, 1) := by decide +kernel
theorem d_C_write_36 : decode m_C_write.2.1 36 = .ok (.iconst 1, 1) := by decide +kernel
theorem d_C_write_37 : decode m_C_write.2.1 37 = .ok (.invokevirtual 105, 3) := by decide +kernel
theorem d_C_write_40 : decode m_C_write.2.1 40 = .ok (.ireturn, 1) := by decide +kernel
theorem d_C_write_41 : decode m_C_write.2.1 41 = .ok (.aload_n 0, 1) := by decide +kernel
theorem d_C_write_42 : decode m_C_write.2.1 42 = .ok (.iload_n 1, 1) := by decide +kernel
theorem d_C_write_43 : decode m_C_write.2.1 43 = .ok (.invokevirtual 91, 3) := by decide +kernel
theorem d_C_write_46 : decode m_C_write.2.1 46 = .ok (.ifCond .eq 6, 3) := by decide +kernel
theorem d_C_write_49 : decode m_C_write.2.1 49 = .ok (.bipush (-3), 2) := by decide +kernel
theorem d_C_write_51 : decode m_C_write.2.1 51 = .ok (.ireturn, 1) := by decide +kernel
theorem d_C_write_52 : decode m_C_write.2.1 52 = .ok (.aload_n 0, 1) := by decide +kernel
theorem d_C_write_53 : decode m_C_write.2.1 53 = .ok (.aload_n 0, 1) := by decide +kernel
theorem d_C_write_54 : decode m_C_write.2.1 54 = .ok (.getfield 28, 3) := by decide +kernel
theorem d_C_write_57 : decode m_C_write.2.1 57 = .ok (.iconst 0, 1) := by decide +kernel
theorem d_C_write_58 : decode m_C_write.2.1 58 = .ok (.aaload, 1) := by decide +kernel
theorem d_C_write_59 : decode m_C_write.2.1 59 = .ok (.aload_n 0, 1) := by decide +kernel
theorem d_C_write_60 : decode m_C_write.2.1 60 = .ok (.getfield 19, 3) := by decide +kernel
theorem d_C_write_63 : decode m_C_write.2.1 63 = .ok (.iload_n 1, 1) := by decide +kernel
theorem d_C_write_64 : decode m_C_write.2.1 64 = .ok (.iload_n 2, 1) := by decide +kernel
theorem d_C_write_65 : decode m_C_write.2.1 65 = .ok (.aload_n 0, 1) := by decide +kernel
theorem d_C_write_66 : decode m_C_write.2.1 66 = .ok (.getfield 49, 3) := by decide +kernel
theorem d_C_write_69 : decode m_C_write.2.1 69 = .ok (.invokevirtual 126, 3) := by decide +kernel
theorem d_C_write_72 : decode m_C_write.2.1 72 = .ok (.astore 5, 2) := by decide +kernel
theorem d_C_write_74 : decode m_C_write.2.1 74 = .ok (.aload 4, 2) := by decide +kernel
theorem d_C_write_76 : decode m_C_write.2.1 76 = .ok (.getfield 109, 3) := by decide +kernel
theorem d_C_write_79 : decode m_C_write.2.1 79 = .ok (.aload 5, 2) := by decide +kernel
theorem d_C_write_81 : decode m_C_write.2.1 81 = .ok (.getfield 130, 3) := by decide +kernel
theorem d_C_write_84 : decode m_C_write.2.1 84 = .ok (.invokestatic 110, 3) := by decide +kernel
theorem d_C_write_87 : decode m_C_write.2.1 87 = .ok (.istore 6, 2) := by decide +kernel
theorem d_C_write_89 : decode m_C_write.2.1 89 = .ok (.iconst 0, 1) := by decide +kernel
theorem d_C_write_90 : decode m_C_write.2.1 90 = .ok (.istore 7, 2) := by decide +kernel
theorem d_C_write_92 : decode m_C_write.2.1 92 = .ok (.iload 7, 2) := by decide +kernel
theorem d_C_write_94 : decode m_C_write.2.1 94 = .ok (.iload 6, 2) := by decide +kernel
theorem d_C_write_96 : decode m_C_write.2.1 96 = .ok (.if_icmp .ge 24, 3) := by decide +kernel
theorem d_C_write_99 : decode m_C_write.2.1 99 = .ok (.aload 4, 2) := by decide +kernel
theorem d_C_write_101 : decode m_C_write.2.1 101 = .ok (.iload 7, 2) := by decide +kernel
theorem d_C_write_103 : decode m_C_write.2.1 103 = .ok (.aload 5, 2) := by decide +kernel
theorem d_C_write_105 : decode m_C_write.2.1 105 = .ok (.getfield 131, 3) := by decide +kernel
theorem d_C_write_108 : decode m_C_write.2.1 108 = .ok (.iload 7, 2) := by decide +kernel
theorem d_C_write_110 : decode m_C_write.2.1 110 = .ok (.iaload, 1) := by decide +kernel
theorem d_C_write_111 : decode m_C_write.2.1 111 = .ok (.invokevirtual 221, 3) := by decide +kernel
theorem d_C_write_114 : decode m_C_write.2.1 114 = .ok (.iinc 7 1, 3) := by decide +kernel
theorem d_C_write_117 : decode m_C_write.2.1 117 = .ok (.goto (-25), 3) := by decide +kernel
theorem d_C_write_120 : decode m_C_write.2.1 120 = .ok (.iload 6, 2) := by decide +kernel
theorem d_C_write_122 : decode m_C_write.2.1 122 = .ok (.ireturn, 1) := by decide +kernel
set_option maxHeartbeats 4000000 in
set_option maxRecDepth 20000 in
theorem Vl_C_write_92 (G : Gt) : ∀ (n : Nat) (a4 : Nat) (a5 : Nat) (x6 : Int32) (x7 : Int32) (ha4 : isO 2 a4) (ha5 : isO 3 a5) (h : Hp), V G m_C_write 92 [(4, .ref (ad G a4)), (5, .ref (ad G a5)), (6, .int x6), (7, .int x7)] [] h κi (l_C_write_92 n a4 a5 x6 x7 h) := by
  intro n
  induction n with
  | zero => intros; exact v_none
  | succ n ih =>
    intro a4 a5 x6 x7 ha4 ha5 h
    rw [l_C_write_92]
    refine v_iload 3 d_C_write_92 rfl ?_
    refine v_iload 2 d_C_write_94 rfl ?_
    refine v_icmp_ge 120 d_C_write_96 (by decide) (fun c12 => ?_) (fun c12 => ?_)
    · refine v_iload 2 d_C_write_120 rfl ?_
      exact v_iret rfl d_C_write_122
    · refine v_aload 0 d_C_write_99 rfl ?_
      refine v_iload 3 d_C_write_101 rfl ?_
      refine v_aload 1 d_C_write_103 rfl ?_
      refine v_getr (a5 + 1) fl_C_131 ha5 rfl rfl d_C_write_105 ?_
      refine v_iload 3 d_C_write_108 rfl ?_
      refine v_iald (spA ha5) d_C_write_110 ?_
      refine v_callVv (As := [.int x7, .int (h (a5 + 1) (ix x7))]) (rest := []) (c_Sh_store G a4 x7 (h (a5 + 1) (ix x7)) ha4 h) co_C_221 io_Sh_store ha4 ⟨by decide, by decide⟩ rfl rfl (Nat.le_of_ble_eq_true rfl) d_C_write_111 (fun _ h13 _ => ?_)
      refine v_iinc (x7 + 1) 3 [(7, .int (x7 + 1)), (4, .ref (ad G a4)), (5, .ref (ad G a5)), (6, .int x6)] d_C_write_114 rfl rfl (by decide) rfl ?_
      refine v_goto 92 d_C_write_117 (by decide) ?_
      exact v_sub [1, 2, 3, 0] rfl (ih a4 a5 x6 (x7 + 1) ha4 ha5 h13)
set_option maxHeartbeats 4000000 in
set_option maxRecDepth 20000 in
theorem c_C_write (G : Gt) (x1 : Int32) (x2 : Int32) (x3 : Int32) (h : Hp) : Cn G m_C_write [.ref (ad G 0), .int x1, .int x2, .int x3] h κi (f_C_write x1 x2 x3 h) := by
  refine entryV (by decide) (Nat.le_of_ble_eq_true rfl) rfl ?_
  show V G m_C_write 0 [(0, .ref (ad G 0)), (1, .int x1), (2, .int x2), (3, .int x3)] [] h κi _
  unfold f_C_write
  refine v_aload_n 0 d_C_write_0 rfl rfl ?_
  refine v_iload_n 1 d_C_write_1 rfl rfl ?_
  refine v_iload_n 2 d_C_write_2 rfl rfl ?_
  refine v_callVi (As := [.int x1, .int x2]) (rest := []) (c_C_canBeTold G x1 x2 h) co_C_122 io_C_canBeTold o_0 ⟨by decide, by decide⟩ rfl rfl (Nat.le_of_ble_eq_true rfl) d_C_write_3 (fun r1 h1 _ => ?_)
  refine v_if_eq 16 d_C_write_6 (by decide) (fun c2 => ?_) (fun c2 => ?_)
  · refine v_bipush (-2) d_C_write_16 rfl ?_
    exact v_iret rfl d_C_write_18
  · refine v_iload_n 3 d_C_write_9 rfl rfl ?_
    refine v_callSi (As := [.int x3]) (rest := []) (c_C_isSheet G x3 h1) co_C_98 so_C_isSheet ⟨by decide, by decide⟩ rfl rfl (Nat.le_of_ble_eq_true rfl) d_C_write_10 (fun r3 h3 _ => ?_)
    refine v_if_ne 19 d_C_write_13 (by decide) (fun c4 => ?_) (fun c4 => ?_)
    · refine v_bipush (-2) d_C_write_16 rfl ?_
      exact v_iret rfl d_C_write_18
    · refine v_aload_n 0 d_C_write_19 rfl rfl ?_
      refine v_getr 14 fl_C_41 o_0 rfl rfl d_C_write_20 ?_
      refine v_iload_n 3 d_C_write_23 rfl rfl ?_
      refine v_aald3 (23 + 2 * ix x3) rfl ar_14 d_C_write_24 (fun b5 => ?_)
      refine v_astore [(4, .ref (ad G (23 + 2 * ix x3))), (0, .ref (ad G 0)), (1, .int x1), (2, .int x2), (3, .int x3)] d_C_write_25 (by decide) rfl ?_
      refine v_aload 0 d_C_write_27 rfl ?_
      refine v_geti fl_C_101 (sh_o b5) rfl d_C_write_29 ?_
      refine v_if_eq 41 d_C_write_32 (by decide) (fun c6 => ?_) (fun c6 => ?_)
      · refine v_aload_n 1 d_C_write_41 rfl rfl ?_
        refine v_iload_n 2 d_C_write_42 rfl rfl ?_
        refine v_callVi (As := [.int x1]) (rest := []) (c_C_isHidden G x1 h3) co_C_91 io_C_isHidden o_0 ⟨by decide, by decide⟩ rfl rfl (Nat.le_of_ble_eq_true rfl) d_C_write_43 (fun r7 h7 _ => ?_)
        refine v_if_eq 52 d_C_write_46 (by decide) (fun c8 => ?_) (fun c8 => ?_)
        · refine v_aload_n 1 d_C_write_52 rfl rfl ?_
          refine v_aload_n 1 d_C_write_53 rfl rfl ?_
          refine v_getr 9 fl_C_28 o_0 rfl rfl d_C_write_54 ?_
          refine v_iconst 0 d_C_write_57 rfl ?_
          refine v_aald2 15 rfl ar_9 d_C_write_58 (fun b9 => ?_)
          refine v_aload_n 1 d_C_write_59 rfl rfl ?_
          refine v_getr 3 fl_C_19 o_0 rfl rfl d_C_write_60 ?_
          refine v_iload_n 2 d_C_write_63 rfl rfl ?_
          refine v_iload_n 3 d_C_write_64 rfl rfl ?_
          refine v_aload_n 1 d_C_write_65 rfl rfl ?_
          refine v_geti fl_C_49 o_0 rfl d_C_write_66 ?_
          refine v_callVr (As := [.ref (ad G 15), .ref (ad G 3), .int x1, .int x2, .int (h7 0 7)]) (rest := []) (c_C_lay G 15 3 x1 x2 (h7 0 7) o_15 o_3 h7) co_C_126 io_C_lay o_0 ⟨by decide, by decide⟩ rfl rfl (Nat.le_of_ble_eq_true rfl) d_C_write_69 (fun r10 h10 z10 => ?_)
          have e10 := lay_isO o_15 z10
          refine v_astore [(5, .ref (ad G r10)), (4, .ref (ad G (23 + 2 * ix x3))), (0, .ref (ad G 0)), (1, .int x1), (2, .int x2), (3, .int x3)] d_C_write_72 (by decide) rfl ?_
          refine v_aload 1 d_C_write_74 rfl ?_
          refine v_geti fl_C_109 (sh_o b5) rfl d_C_write_76 ?_
          refine v_aload 0 d_C_write_79 rfl ?_
          refine v_geti fl_C_130 e10 rfl d_C_write_81 ?_
          refine v_mmin (mem_t 241 (by decide +kernel) rfl) ⟨by decide, by decide⟩ (Nat.le_of_ble_eq_true rfl) d_C_write_84 ?_
          refine v_istore [(6, .int (jmin (h10 (23 + 2 * ix x3) 3) (h10 r10 1))), (5, .ref (ad G r10)), (4, .ref (ad G (23 + 2 * ix x3))), (0, .ref (ad G 0)), (1, .int x1), (2, .int x2), (3, .int x3)] d_C_write_87 (by decide) rfl ?_
          refine v_iconst 0 d_C_write_89 rfl ?_
          refine v_istore [(7, .int 0), (6, .int (jmin (h10 (23 + 2 * ix x3) 3) (h10 r10 1))), (5, .ref (ad G r10)), (4, .ref (ad G (23 + 2 * ix x3))), (0, .ref (ad G 0)), (1, .int x1), (2, .int x2), (3, .int x3)] d_C_write_90 (by decide) rfl ?_
          exact v_sub [3, 2, 1, 0] rfl (Vl_C_write_92 G FUEL (23 + 2 * ix x3) r10 (jmin (h10 (23 + 2 * ix x3) 3) (h10 r10 1)) 0 (sh_o b5) e10 h10)
        · refine v_bipush (-3) d_C_write_49 rfl ?_
          exact v_iret rfl d_C_write_51
      · refine v_aload_n 1 d_C_write_35 rfl rfl ?_
        refine v_iconst 1 d_C_write_36 rfl ?_
        refine v_callVi (As := [.int 1]) (rest := []) (c_C_found G 1 h3) co_C_105 io_C_found o_0 ⟨by decide, by decide⟩ rfl rfl (Nat.le_of_ble_eq_true rfl) d_C_write_37 (fun r14 h14 _ => ?_)
        exact v_iret rfl d_C_write_40
theorem d_Fr_apartOfAllPairs_0 : decode m_Fr_apartOfAllPairs.2.1 0 = .ok (.iconst 0, 1) := by decide +kernel
theorem d_Fr_apartOfAllPairs_1 : decode m_Fr_apartOfAllPairs.2.1 1 = .ok (.istore_n 1, 1) := by decide +kernel
theorem d_Fr_apartOfAllPairs_2 : decode m_Fr_apartOfAllPairs.2.1 2 = .ok (.iconst 0, 1) := by decide +kernel
theorem d_Fr_apartOfAllPairs_3 : decode m_Fr_apartOfAllPairs.2.1 3 = .ok (.istore_n 2, 1) := by decide +kernel
theorem d_Fr_apartOfAllPairs_4 : decode m_Fr_apartOfAllPairs.2.1 4 = .ok (.iload_n 2, 1) := by decide +kernel
theorem d_Fr_apartOfAllPairs_5 : decode m_Fr_apartOfAllPairs.2.1 5 = .ok (.aload_n 0, 1) := by decide +kernel
theorem d_Fr_apartOfAllPairs_6 : decode m_Fr_apartOfAllPairs.2.1 6 = .ok (.getfield 18, 3) := by decide +kernel
theorem d_Fr_apartOfAllPairs_9 : decode m_Fr_apartOfAllPairs.2.1 9 = .ok (.if_icmp .ge 36, 3) := by decide +kernel
theorem d_Fr_apartOfAllPairs_12 : decode m_Fr_apartOfAllPairs.2.1 12 = .ok (.iload_n 2, 1) := by decide +kernel
theorem d_Fr_apartOfAllPairs_13 : decode m_Fr_apartOfAllPairs.2.1 13 = .ok (.iconst 1, 1) := by decide +kernel
theorem d_Fr_apartOfAllPairs_14 : decode m_Fr_apartOfAllPairs.2.1 14 = .ok (.iadd, 1) := by decide +kernel
theorem d_Fr_apartOfAllPairs_15 : decode m_Fr_apartOfAllPairs.2.1 15 = .ok (.istore_n 3, 1) := by decide +kernel
theorem d_Fr_apartOfAllPairs_16 : decode m_Fr_apartOfAllPairs.2.1 16 = .ok (.iload_n 3, 1) := by decide +kernel
theorem d_Fr_apartOfAllPairs_17 : decode m_Fr_apartOfAllPairs.2.1 17 = .ok (.aload_n 0, 1) := by decide +kernel
theorem d_Fr_apartOfAllPairs_18 : decode m_Fr_apartOfAllPairs.2.1 18 = .ok (.getfield 18, 3) := by decide +kernel
theorem d_Fr_apartOfAllPairs_21 : decode m_Fr_apartOfAllPairs.2.1 21 = .ok (.if_icmp .ge 18, 3) := by decide +kernel
theorem d_Fr_apartOfAllPairs_24 : decode m_Fr_apartOfAllPairs.2.1 24 = .ok (.iload_n 1, 1) := by decide +kernel
theorem d_Fr_apartOfAllPairs_25 : decode m_Fr_apartOfAllPairs.2.1 25 = .ok (.aload_n 0, 1) := by decide +kernel
theorem d_Fr_apartOfAllPairs_26 : decode m_Fr_apartOfAllPairs.2.1 26 = .ok (.iload_n 2, 1) := by decide +kernel
theorem d_Fr_apartOfAllPairs_27 : decode m_Fr_apartOfAllPairs.2.1 27 = .ok (.iload_n 3, 1) := by decide +kernel
theorem d_Fr_apartOfAllPairs_28 : decode m_Fr_apartOfAllPairs.2.1 28 = .ok (.invokevirtual 32, 3) := by decide +kernel
theorem d_Fr_apartOfAllPairs_31 : decode m_Fr_apartOfAllPairs.2.1 31 = .ok (.iadd, 1) := by decide +kernel
theorem d_Fr_apartOfAllPairs_32 : decode m_Fr_apartOfAllPairs.2.1 32 = .ok (.istore_n 1, 1) := by decide +kernel
theorem d_Fr_apartOfAllPairs_33 : decode m_Fr_apartOfAllPairs.2.1 33 = .ok (.iinc 3 1, 3) := by decide +kernel
theorem d_Fr_apartOfAllPairs_36 : decode m_Fr_apartOfAllPairs.2.1 36 = .ok (.goto (-20), 3) := by decide +kernel
theorem d_Fr_apartOfAllPairs_39 : decode m_Fr_apartOfAllPairs.2.1 39 = .ok (.iinc 2 1, 3) := by decide +kernel
theorem d_Fr_apartOfAllPairs_42 : decode m_Fr_apartOfAllPairs.2.1 42 = .ok (.goto (-38), 3) := by decide +kernel
theorem d_Fr_apartOfAllPairs_45 : decode m_Fr_apartOfAllPairs.2.1 45 = .ok (.iload_n 1, 1) := by decide +kernel
theorem d_Fr_apartOfAllPairs_46 : decode m_Fr_apartOfAllPairs.2.1 46 = .ok (.ireturn, 1) := by decide +kernel
set_option maxHeartbeats 4000000 in
set_option maxRecDepth 20000 in
theorem Vl_Fr_apartOfAllPairs_16 (G : Gt) (K4 : Nat → Int32 → Int32 → Hp → Option (Int32 × Hp)) (hK4 : ∀ (a0 : Nat) (x1 : Int32) (x2 : Int32) (ha0 : isO 0 a0) (h : Hp), V G m_Fr_apartOfAllPairs 4 [(0, .ref (ad G a0)), (1, .int x1), (2, .int x2)] [] h κi (K4 a0 x1 x2 h)) : ∀ (n : Nat) (a0 : Nat) (x1 : Int32) (x2 : Int32) (x3 : Int32) (ha0 : isO 0 a0) (h : Hp), V G m_Fr_apartOfAllPairs 16 [(0, .ref (ad G a0)), (1, .int x1), (2, .int x2), (3, .int x3)] [] h κi (l_Fr_apartOfAllPairs_16 K4 n a0 x1 x2 x3 h) := by
  intro n
  induction n with
  | zero => intros; exact v_none
  | succ n ih =>
    intro a0 x1 x2 x3 ha0 h
    rw [l_Fr_apartOfAllPairs_16]
    refine v_iload_n 3 d_Fr_apartOfAllPairs_16 rfl rfl ?_
    refine v_aload_n 0 d_Fr_apartOfAllPairs_17 rfl rfl ?_
    refine v_geti fl_Fr_18 ha0 rfl d_Fr_apartOfAllPairs_18 ?_
    refine v_icmp_ge 39 d_Fr_apartOfAllPairs_21 (by decide) (fun c2 => ?_) (fun c2 => ?_)
    · refine v_iinc (x2 + 1) 2 [(2, .int (x2 + 1)), (0, .ref (ad G a0)), (1, .int x1), (3, .int x3)] d_Fr_apartOfAllPairs_39 rfl rfl (by decide) rfl ?_
      refine v_goto 4 d_Fr_apartOfAllPairs_42 (by decide) ?_
      exact v_sub [1, 2, 0] rfl (hK4 a0 x1 (x2 + 1) ha0 h)
    · refine v_iload_n 1 d_Fr_apartOfAllPairs_24 rfl rfl ?_
      refine v_aload_n 0 d_Fr_apartOfAllPairs_25 rfl rfl ?_
      refine v_iload_n 2 d_Fr_apartOfAllPairs_26 rfl rfl ?_
      refine v_iload_n 3 d_Fr_apartOfAllPairs_27 rfl rfl ?_
      refine v_callVi (As := [.int x2, .int x3]) (rest := [.int x1]) (c_Fr_apart G a0 x2 x3 ha0 h) co_Fr_32 io_Fr_apart ha0 ⟨by decide, by decide⟩ rfl rfl (Nat.le_of_ble_eq_true rfl) d_Fr_apartOfAllPairs_28 (fun r3 h3 _ => ?_)
      refine v_iadd d_Fr_apartOfAllPairs_31 ?_
      refine v_istore_n [(1, .int (x1 + r3)), (0, .ref (ad G a0)), (2, .int x2), (3, .int x3)] d_Fr_apartOfAllPairs_32 rfl (by decide) rfl ?_
      refine v_iinc (x3 + 1) 3 [(3, .int (x3 + 1)), (1, .int (x1 + r3)), (0, .ref (ad G a0)), (2, .int x2)] d_Fr_apartOfAllPairs_33 rfl rfl (by decide) rfl ?_
      refine v_goto 16 d_Fr_apartOfAllPairs_36 (by decide) ?_
      exact v_sub [2, 1, 3, 0] rfl (ih a0 (x1 + r3) x2 (x3 + 1) ha0 h3)
set_option maxHeartbeats 4000000 in
set_option maxRecDepth 20000 in
theorem Vl_Fr_apartOfAllPairs_4 (G : Gt) : ∀ (n : Nat) (a0 : Nat) (x1 : Int32) (x2 : Int32) (ha0 : isO 0 a0) (h : Hp), V G m_Fr_apartOfAllPairs 4 [(0, .ref (ad G a0)), (1, .int x1), (2, .int x2)] [] h κi (l_Fr_apartOfAllPairs_4 n a0 x1 x2 h) := by
  intro n
  induction n with
  | zero => intros; exact v_none
  | succ n ih =>
    intro a0 x1 x2 ha0 h
    rw [l_Fr_apartOfAllPairs_4]
    refine v_iload_n 2 d_Fr_apartOfAllPairs_4 rfl rfl ?_
    refine v_aload_n 0 d_Fr_apartOfAllPairs_5 rfl rfl ?_
    refine v_geti fl_Fr_18 ha0 rfl d_Fr_apartOfAllPairs_6 ?_
    refine v_icmp_ge 45 d_Fr_apartOfAllPairs_9 (by decide) (fun c1 => ?_) (fun c1 => ?_)
    · refine v_iload_n 1 d_Fr_apartOfAllPairs_45 rfl rfl ?_
      exact v_iret rfl d_Fr_apartOfAllPairs_46
    · refine v_iload_n 2 d_Fr_apartOfAllPairs_12 rfl rfl ?_
      refine v_iconst 1 d_Fr_apartOfAllPairs_13 rfl ?_
      refine v_iadd d_Fr_apartOfAllPairs_14 ?_
      refine v_istore_n [(3, .int (x2 + 1)), (0, .ref (ad G a0)), (1, .int x1), (2, .int x2)] d_Fr_apartOfAllPairs_15 rfl (by decide) rfl ?_
      exact v_sub [1, 2, 3, 0] rfl (Vl_Fr_apartOfAllPairs_16 G (l_Fr_apartOfAllPairs_4 n) ih FUEL a0 x1 x2 (x2 + 1) ha0 h)
set_option maxHeartbeats 4000000 in
set_option maxRecDepth 20000 in
theorem c_Fr_apartOfAllPairs (G : Gt) (a0 : Nat) (ha0 : isO 0 a0) (h : Hp) : Cn G m_Fr_apartOfAllPairs [.ref (ad G a0)] h κi (f_Fr_apartOfAllPairs a0 h) := by
  refine entryV (by decide) (Nat.le_of_ble_eq_true rfl) rfl ?_
  show V G m_Fr_apartOfAllPairs 0 [(0, .ref (ad G a0))] [] h κi _
  unfold f_Fr_apartOfAllPairs
  refine v_iconst 0 d_Fr_apartOfAllPairs_0 rfl ?_
  refine v_istore_n [(1, .int 0), (0, .ref (ad G a0))] d_Fr_apartOfAllPairs_1 rfl (by decide) rfl ?_
  refine v_iconst 0 d_Fr_apartOfAllPairs_2 rfl ?_
  refine v_istore_n [(2, .int 0), (1, .int 0), (0, .ref (ad G a0))] d_Fr_apartOfAllPairs_3 rfl (by decide) rfl ?_
  exact v_sub [2, 1, 0] rfl (Vl_Fr_apartOfAllPairs_4 G FUEL a0 0 0 ha0 h)
theorem d_C_count_0 : decode m_C_count.2.1 0 = .ok (.iload_n 1, 1) := by decide +kernel
theorem d_C_count_1 : decode m_C_count.2.1 1 = .ok (.tableswitch 119 0 8 #[51, 59, 67, 83, 88, 93, 98, 106, 114], 51) := by decide +kernel
theorem d_C_count_52 : decode m_C_count.2.1 52 = .ok (.aload_n 0, 1) := by decide +kernel
theorem d_C_count_53 : decode m_C_count.2.1 53 = .ok (.getfield 19, 3) := by decide +kernel
theorem d_C_count_56 : decode m_C_count.2.1 56 = .ok (.getfield 159, 3) := by decide +kernel
theorem d_C_count_59 : decode m_C_count.2.1 59 = .ok (.ireturn, 1) := by decide +kernel
theorem d_C_count_60 : decode m_C_count.2.1 60 = .ok (.aload_n 0, 1) := by decide +kernel
theorem d_C_count_61 : decode m_C_count.2.1 61 = .ok (.getfield 10, 3) := by decide +kernel
theorem d_C_count_64 : decode m_C_count.2.1 64 = .ok (.getfield 66, 3) := by decide +kernel
theorem d_C_count_67 : decode m_C_count.2.1 67 = .ok (.ireturn, 1) := by decide +kernel
theorem d_C_count_68 : decode m_C_count.2.1 68 = .ok (.aload_n 0, 1) := by decide +kernel
theorem d_C_count_69 : decode m_C_count.2.1 69 = .ok (.getfield 19, 3) := by decide +kernel
theorem d_C_count_72 : decode m_C_count.2.1 72 = .ok (.invokevirtual 237, 3) := by decide +kernel
theorem d_C_count_75 : decode m_C_count.2.1 75 = .ok (.aload_n 0, 1) := by decide +kernel
theorem d_C_count_76 : decode m_C_count.2.1 76 = .ok (.getfield 49, 3) := by decide +kernel
theorem d_C_count_79 : decode m_C_count.2.1 79 = .ok (.iand, 1) := by decide +kernel
theorem d_C_count_80 : decode m_C_count.2.1 80 = .ok (.invokestatic 176, 3) := by decide +kernel
theorem d_C_count_83 : decode m_C_count.2.1 83 = .ok (.ireturn, 1) := by decide +kernel
theorem d_C_count_84 : decode m_C_count.2.1 84 = .ok (.aload_n 0, 1) := by decide +kernel
theorem d_C_count_85 : decode m_C_count.2.1 85 = .ok (.getfield 52, 3) := by decide +kernel
theorem d_C_count_88 : decode m_C_count.2.1 88 = .ok (.ireturn, 1) := by decide +kernel
theorem d_C_count_89 : decode m_C_count.2.1 89 = .ok (.aload_n 0, 1) := by decide +kernel
theorem d_C_count_90 : decode m_C_count.2.1 90 = .ok (.getfield 55, 3) := by decide +kernel
theorem d_C_count_93 : decode m_C_count.2.1 93 = .ok (.ireturn, 1) := by decide +kernel
theorem d_C_count_94 : decode m_C_count.2.1 94 = .ok (.aload_n 0, 1) := by decide +kernel
theorem d_C_count_95 : decode m_C_count.2.1 95 = .ok (.getfield 58, 3) := by decide +kernel
theorem d_C_count_98 : decode m_C_count.2.1 98 = .ok (.ireturn, 1) := by decide +kernel
theorem d_C_count_99 : decode m_C_count.2.1 99 = .ok (.aload_n 0, 1) := by decide +kernel
theorem d_C_count_100 : decode m_C_count.2.1 100 = .ok (.getfield 35, 3) := by decide +kernel
theorem d_C_count_103 : decode m_C_count.2.1 103 = .ok (.getfield 189, 3) := by decide +kernel
theorem d_C_count_106 : decode m_C_count.2.1 106 = .ok (.ireturn, 1) := by decide +kernel
theorem d_C_count_107 : decode m_C_count.2.1 107 = .ok (.aload_n 0, 1) := by decide +kernel
theorem d_C_count_108 : decode m_C_count.2.1 108 = .ok (.getfield 19, 3) := by decide +kernel
theorem d_C_count_111 : decode m_C_count.2.1 111 = .ok (.invokevirtual 240, 3) := by decide +kernel
theorem d_C_count_114 : decode m_C_count.2.1 114 = .ok (.ireturn, 1) := by decide +kernel
theorem d_C_count_115 : decode m_C_count.2.1 115 = .ok (.aload_n 0, 1) := by decide +kernel
theorem d_C_count_116 : decode m_C_count.2.1 116 = .ok (.getfield 61, 3) := by decide +kernel
theorem d_C_count_119 : decode m_C_count.2.1 119 = .ok (.ireturn, 1) := by decide +kernel
theorem d_C_count_120 : decode m_C_count.2.1 120 = .ok (.bipush (-2), 2) := by decide +kernel
theorem d_C_count_122 : decode m_C_count.2.1 122 = .ok (.ireturn, 1) := by decide +kernel
set_option maxHeartbeats 4000000 in
set_option maxRecDepth 20000 in
theorem c_C_count (G : Gt) (x1 : Int32) (h : Hp) : Cn G m_C_count [.ref (ad G 0), .int x1] h κi (f_C_count x1 h) := by
  refine entryV (by decide) (Nat.le_of_ble_eq_true rfl) rfl ?_
  show V G m_C_count 0 [(0, .ref (ad G 0)), (1, .int x1)] [] h κi _
  unfold f_C_count
  refine v_iload_n 1 d_C_count_0 rfl rfl ?_
  refine v_ite (fun c1 => ?_) (fun c1 => ?_)
  · refine v_tabIn (off := 51) 52 d_C_count_1 (by rw [c1]; decide) (by rw [c1]; decide) (by rw [c1]; rfl) (by decide) ?_
    refine v_aload_n 0 d_C_count_52 rfl rfl ?_
    refine v_getr 3 fl_C_19 o_0 rfl rfl d_C_count_53 ?_
    refine v_geti fl_C_159 o_3 rfl d_C_count_56 ?_
    exact v_iret rfl d_C_count_59
  · refine v_ite (fun c2 => ?_) (fun c2 => ?_)
    · refine v_tabIn (off := 59) 60 d_C_count_1 (by rw [c2]; decide) (by rw [c2]; decide) (by rw [c2]; rfl) (by decide) ?_
      refine v_aload_n 0 d_C_count_60 rfl rfl ?_
      refine v_getr 1 fl_C_10 o_0 rfl rfl d_C_count_61 ?_
      refine v_geti fl_C_66 o_1 rfl d_C_count_64 ?_
      exact v_iret rfl d_C_count_67
    · refine v_ite (fun c3 => ?_) (fun c3 => ?_)
      · refine v_tabIn (off := 67) 68 d_C_count_1 (by rw [c3]; decide) (by rw [c3]; decide) (by rw [c3]; rfl) (by decide) ?_
        refine v_aload_n 0 d_C_count_68 rfl rfl ?_
        refine v_getr 3 fl_C_19 o_0 rfl rfl d_C_count_69 ?_
        refine v_callVi (As := []) (rest := []) (c_Fr_all G 3 o_3 h) co_C_237 io_Fr_all o_3 ⟨by decide, by decide⟩ rfl rfl (Nat.le_of_ble_eq_true rfl) d_C_count_72 (fun r4 h4 _ => ?_)
        refine v_aload_n 0 d_C_count_75 rfl rfl ?_
        refine v_geti fl_C_49 o_0 rfl d_C_count_76 ?_
        refine v_iand d_C_count_79 ?_
        refine v_callSi (As := [.int (r4 &&& (h4 0 7))]) (rest := []) (c_In_bitCount G (r4 &&& (h4 0 7)) h4) co_C_176 so_In_bitCount ⟨by decide, by decide⟩ rfl rfl (Nat.le_of_ble_eq_true rfl) d_C_count_80 (fun r5 h5 _ => ?_)
        exact v_iret rfl d_C_count_83
      · refine v_ite (fun c6 => ?_) (fun c6 => ?_)
        · refine v_tabIn (off := 83) 84 d_C_count_1 (by rw [c6]; decide) (by rw [c6]; decide) (by rw [c6]; rfl) (by decide) ?_
          refine v_aload_n 0 d_C_count_84 rfl rfl ?_
          refine v_geti fl_C_52 o_0 rfl d_C_count_85 ?_
          exact v_iret rfl d_C_count_88
        · refine v_ite (fun c7 => ?_) (fun c7 => ?_)
          · refine v_tabIn (off := 88) 89 d_C_count_1 (by rw [c7]; decide) (by rw [c7]; decide) (by rw [c7]; rfl) (by decide) ?_
            refine v_aload_n 0 d_C_count_89 rfl rfl ?_
            refine v_geti fl_C_55 o_0 rfl d_C_count_90 ?_
            exact v_iret rfl d_C_count_93
          · refine v_ite (fun c8 => ?_) (fun c8 => ?_)
            · refine v_tabIn (off := 93) 94 d_C_count_1 (by rw [c8]; decide) (by rw [c8]; decide) (by rw [c8]; rfl) (by decide) ?_
              refine v_aload_n 0 d_C_count_94 rfl rfl ?_
              refine v_geti fl_C_58 o_0 rfl d_C_count_95 ?_
              exact v_iret rfl d_C_count_98
            · refine v_ite (fun c9 => ?_) (fun c9 => ?_)
              · refine v_tabIn (off := 98) 99 d_C_count_1 (by rw [c9]; decide) (by rw [c9]; decide) (by rw [c9]; rfl) (by decide) ?_
                refine v_aload_n 0 d_C_count_99 rfl rfl ?_
                refine v_getr 10 fl_C_35 o_0 rfl rfl d_C_count_100 ?_
                refine v_geti fl_C_189 o_10 rfl d_C_count_103 ?_
                exact v_iret rfl d_C_count_106
              · refine v_ite (fun c10 => ?_) (fun c10 => ?_)
                · refine v_tabIn (off := 106) 107 d_C_count_1 (by rw [c10]; decide) (by rw [c10]; decide) (by rw [c10]; rfl) (by decide) ?_
                  refine v_aload_n 0 d_C_count_107 rfl rfl ?_
                  refine v_getr 3 fl_C_19 o_0 rfl rfl d_C_count_108 ?_
                  refine v_callVi (As := []) (rest := []) (c_Fr_apartOfAllPairs G 3 o_3 h) co_C_240 io_Fr_apartOfAllPairs o_3 ⟨by decide, by decide⟩ rfl rfl (Nat.le_of_ble_eq_true rfl) d_C_count_111 (fun r11 h11 _ => ?_)
                  exact v_iret rfl d_C_count_114
                · refine v_ite (fun c12 => ?_) (fun c12 => ?_)
                  · refine v_tabIn (off := 114) 115 d_C_count_1 (by rw [c12]; decide) (by rw [c12]; decide) (by rw [c12]; rfl) (by decide) ?_
                    refine v_aload_n 0 d_C_count_115 rfl rfl ?_
                    refine v_geti fl_C_61 o_0 rfl d_C_count_116 ?_
                    exact v_iret rfl d_C_count_119
                  · refine v_tabOut 120 d_C_count_1 (by have q0 := lv_neT (a := 0) c1 rfl; have q1 := lv_neT (a := 1) c2 rfl; have q2 := lv_neT (a := 2) c3 rfl; have q3 := lv_neT (a := 3) c6 rfl; have q4 := lv_neT (a := 4) c7 rfl; have q5 := lv_neT (a := 5) c8 rfl; have q6 := lv_neT (a := 6) c9 rfl; have q7 := lv_neT (a := 7) c10 rfl; have q8 := lv_neT (a := 8) c12 rfl; omega) (by decide) ?_
                    refine v_bipush (-2) d_C_count_120 rfl ?_
                    exact v_iret rfl d_C_count_122
theorem d_C_mixWeb_0 : decode m_C_mixWeb.2.1 0 = .ok (.lload_n 1, 1) := by decide +kernel
theorem d_C_mixWeb_1 : decode m_C_mixWeb.2.1 1 = .ok (.lstore 5, 2) := by decide +kernel
theorem d_C_mixWeb_3 : decode m_C_mixWeb.2.1 3 = .ok (.iconst 0, 1) := by decide +kernel
theorem d_C_mixWeb_4 : decode m_C_mixWeb.2.1 4 = .ok (.istore 7, 2) := by decide +kernel
theorem d_C_mixWeb_6 : decode m_C_mixWeb.2.1 6 = .ok (.iload 7, 2) := by decide +kernel
theorem d_C_mixWeb_8 : decode m_C_mixWeb.2.1 8 = .ok (.iconst 3, 1) := by decide +kernel
theorem d_C_mixWeb_9 : decode m_C_mixWeb.2.1 9 = .ok (.if_icmp .ge 28, 3) := by decide +kernel
theorem d_C_mixWeb_12 : decode m_C_mixWeb.2.1 12 = .ok (.ldc2_w 245, 3) := by decide +kernel
theorem d_C_mixWeb_15 : decode m_C_mixWeb.2.1 15 = .ok (.lload 5, 2) := by decide +kernel
theorem d_C_mixWeb_17 : decode m_C_mixWeb.2.1 17 = .ok (.lmul, 1) := by decide +kernel
theorem d_C_mixWeb_18 : decode m_C_mixWeb.2.1 18 = .ok (.aload_n 0, 1) := by decide +kernel
theorem d_C_mixWeb_19 : decode m_C_mixWeb.2.1 19 = .ok (.iload_n 3, 1) := by decide +kernel
theorem d_C_mixWeb_20 : decode m_C_mixWeb.2.1 20 = .ok (.iload 4, 2) := by decide +kernel
theorem d_C_mixWeb_22 : decode m_C_mixWeb.2.1 22 = .ok (.iload 7, 2) := by decide +kernel
theorem d_C_mixWeb_24 : decode m_C_mixWeb.2.1 24 = .ok (.invokevirtual 274, 3) := by decide +kernel
theorem d_C_mixWeb_27 : decode m_C_mixWeb.2.1 27 = .ok (.i2l, 1) := by decide +kernel
theorem d_C_mixWeb_28 : decode m_C_mixWeb.2.1 28 = .ok (.ladd, 1) := by decide +kernel
theorem d_C_mixWeb_29 : decode m_C_mixWeb.2.1 29 = .ok (.lstore 5, 2) := by decide +kernel
theorem d_C_mixWeb_31 : decode m_C_mixWeb.2.1 31 = .ok (.iinc 7 1, 3) := by decide +kernel
theorem d_C_mixWeb_34 : decode m_C_mixWeb.2.1 34 = .ok (.goto (-28), 3) := by decide +kernel
theorem d_C_mixWeb_37 : decode m_C_mixWeb.2.1 37 = .ok (.ldc2_w 245, 3) := by decide +kernel
theorem d_C_mixWeb_40 : decode m_C_mixWeb.2.1 40 = .ok (.lload 5, 2) := by decide +kernel
theorem d_C_mixWeb_42 : decode m_C_mixWeb.2.1 42 = .ok (.lmul, 1) := by decide +kernel
theorem d_C_mixWeb_43 : decode m_C_mixWeb.2.1 43 = .ok (.aload_n 0, 1) := by decide +kernel
theorem d_C_mixWeb_44 : decode m_C_mixWeb.2.1 44 = .ok (.iload_n 3, 1) := by decide +kernel
theorem d_C_mixWeb_45 : decode m_C_mixWeb.2.1 45 = .ok (.iload 4, 2) := by decide +kernel
theorem d_C_mixWeb_47 : decode m_C_mixWeb.2.1 47 = .ok (.invokevirtual 277, 3) := by decide +kernel
theorem d_C_mixWeb_50 : decode m_C_mixWeb.2.1 50 = .ok (.i2l, 1) := by decide +kernel
theorem d_C_mixWeb_51 : decode m_C_mixWeb.2.1 51 = .ok (.ladd, 1) := by decide +kernel
theorem d_C_mixWeb_52 : decode m_C_mixWeb.2.1 52 = .ok (.lstore 5, 2) := by decide +kernel
theorem d_C_mixWeb_54 : decode m_C_mixWeb.2.1 54 = .ok (.ldc2_w 245, 3) := by decide +kernel
theorem d_C_mixWeb_57 : decode m_C_mixWeb.2.1 57 = .ok (.lload 5, 2) := by decide +kernel
theorem d_C_mixWeb_59 : decode m_C_mixWeb.2.1 59 = .ok (.lmul, 1) := by decide +kernel
theorem d_C_mixWeb_60 : decode m_C_mixWeb.2.1 60 = .ok (.aload_n 0, 1) := by decide +kernel
theorem d_C_mixWeb_61 : decode m_C_mixWeb.2.1 61 = .ok (.iload_n 3, 1) := by decide +kernel
theorem d_C_mixWeb_62 : decode m_C_mixWeb.2.1 62 = .ok (.iload 4, 2) := by decide +kernel
theorem d_C_mixWeb_64 : decode m_C_mixWeb.2.1 64 = .ok (.invokevirtual 280, 3) := by decide +kernel
theorem d_C_mixWeb_67 : decode m_C_mixWeb.2.1 67 = .ok (.i2l, 1) := by decide +kernel
theorem d_C_mixWeb_68 : decode m_C_mixWeb.2.1 68 = .ok (.ladd, 1) := by decide +kernel
theorem d_C_mixWeb_69 : decode m_C_mixWeb.2.1 69 = .ok (.lstore 5, 2) := by decide +kernel
theorem d_C_mixWeb_71 : decode m_C_mixWeb.2.1 71 = .ok (.ldc2_w 245, 3) := by decide +kernel
theorem d_C_mixWeb_74 : decode m_C_mixWeb.2.1 74 = .ok (.lload 5, 2) := by decide +kernel
theorem d_C_mixWeb_76 : decode m_C_mixWeb.2.1 76 = .ok (.lmul, 1) := by decide +kernel
theorem d_C_mixWeb_77 : decode m_C_mixWeb.2.1 77 = .ok (.aload_n 0, 1) := by decide +kernel
theorem d_C_mixWeb_78 : decode m_C_mixWeb.2.1 78 = .ok (.iload_n 3, 1) := by decide +kernel
theorem d_C_mixWeb_79 : decode m_C_mixWeb.2.1 79 = .ok (.iload 4, 2) := by decide +kernel
theorem d_C_mixWeb_81 : decode m_C_mixWeb.2.1 81 = .ok (.iconst 1, 1) := by decide +kernel
theorem d_C_mixWeb_82 : decode m_C_mixWeb.2.1 82 = .ok (.invokevirtual 283, 3) := by decide +kernel
theorem d_C_mixWeb_85 : decode m_C_mixWeb.2.1 85 = .ok (.i2l, 1) := by decide +kernel
theorem d_C_mixWeb_86 : decode m_C_mixWeb.2.1 86 = .ok (.ladd, 1) := by decide +kernel
theorem d_C_mixWeb_87 : decode m_C_mixWeb.2.1 87 = .ok (.lstore 5, 2) := by decide +kernel
theorem d_C_mixWeb_89 : decode m_C_mixWeb.2.1 89 = .ok (.ldc2_w 245, 3) := by decide +kernel
theorem d_C_mixWeb_92 : decode m_C_mixWeb.2.1 92 = .ok (.lload 5, 2) := by decide +kernel
theorem d_C_mixWeb_94 : decode m_C_mixWeb.2.1 94 = .ok (.lmul, 1) := by decide +kernel
theorem d_C_mixWeb_95 : decode m_C_mixWeb.2.1 95 = .ok (.aload_n 0, 1) := by decide +kernel
theorem d_C_mixWeb_96 : decode m_C_mixWeb.2.1 96 = .ok (.iload_n 3, 1) := by decide +kernel
theorem d_C_mixWeb_97 : decode m_C_mixWeb.2.1 97 = .ok (.iload 4, 2) := by decide +kernel
theorem d_C_mixWeb_99 : decode m_C_mixWeb.2.1 99 = .ok (.iconst 0, 1) := by decide +kernel
theorem d_C_mixWeb_100 : decode m_C_mixWeb.2.1 100 = .ok (.invokevirtual 286, 3) := by decide +kernel
theorem d_C_mixWeb_103 : decode m_C_mixWeb.2.1 103 = .ok (.i2l, 1) := by decide +kernel
theorem d_C_mixWeb_104 : decode m_C_mixWeb.2.1 104 = .ok (.ladd, 1) := by decide +kernel
theorem d_C_mixWeb_105 : decode m_C_mixWeb.2.1 105 = .ok (.lstore 5, 2) := by decide +kernel
theorem d_C_mixWeb_107 : decode m_C_mixWeb.2.1 107 = .ok (.ldc2_w 245, 3) := by decide +kernel
theorem d_C_mixWeb_110 : decode m_C_mixWeb.2.1 110 = .ok (.lload 5, 2) := by decide +kernel
theorem d_C_mixWeb_112 : decode m_C_mixWeb.2.1 112 = .ok (.lmul, 1) := by decide +kernel
theorem d_C_mixWeb_113 : decode m_C_mixWeb.2.1 113 = .ok (.aload_n 0, 1) := by decide +kernel
theorem d_C_mixWeb_114 : decode m_C_mixWeb.2.1 114 = .ok (.iload_n 3, 1) := by decide +kernel
theorem d_C_mixWeb_115 : decode m_C_mixWeb.2.1 115 = .ok (.iload 4, 2) := by decide +kernel
theorem d_C_mixWeb_117 : decode m_C_mixWeb.2.1 117 = .ok (.iconst 1, 1) := by decide +kernel
theorem d_C_mixWeb_118 : decode m_C_mixWeb.2.1 118 = .ok (.invokevirtual 289, 3) := by decide +kernel
theorem d_C_mixWeb_121 : decode m_C_mixWeb.2.1 121 = .ok (.i2l, 1) := by decide +kernel
theorem d_C_mixWeb_122 : decode m_C_mixWeb.2.1 122 = .ok (.ladd, 1) := by decide +kernel
theorem d_C_mixWeb_123 : decode m_C_mixWeb.2.1 123 = .ok (.lstore 5, 2) := by decide +kernel
theorem d_C_mixWeb_125 : decode m_C_mixWeb.2.1 125 = .ok (.ldc2_w 245, 3) := by decide +kernel
theorem d_C_mixWeb_128 : decode m_C_mixWeb.2.1 128 = .ok (.lload 5, 2) := by decide +kernel
theorem d_C_mixWeb_130 : decode m_C_mixWeb.2.1 130 = .ok (.lmul, 1) := by decide +kernel
theorem d_C_mixWeb_131 : decode m_C_mixWeb.2.1 131 = .ok (.aload_n 0, 1) := by decide +kernel
theorem d_C_mixWeb_132 : decode m_C_mixWeb.2.1 132 = .ok (.iload_n 3, 1) := by decide +kernel
theorem d_C_mixWeb_133 : decode m_C_mixWeb.2.1 133 = .ok (.iload 4, 2) := by decide +kernel
theorem d_C_mixWeb_135 : decode m_C_mixWeb.2.1 135 = .ok (.bipush 7, 2) := by decide +kernel
theorem d_C_mixWeb_137 : decode m_C_mixWeb.2.1 137 = .ok (.bipush 9, 2) := by decide +kernel
theorem d_C_mixWeb_139 : decode m_C_mixWeb.2.1 139 = .ok (.invokevirtual 292, 3) := by decide +kernel
theorem d_C_mixWeb_142 : decode m_C_mixWeb.2.1 142 = .ok (.i2l, 1) := by decide +kernel
theorem d_C_mixWeb_143 : decode m_C_mixWeb.2.1 143 = .ok (.ladd, 1) := by decide +kernel
theorem d_C_mixWeb_144 : decode m_C_mixWeb.2.1 144 = .ok (.lreturn, 1) := by decide +kernel
set_option maxHeartbeats 4000000 in
set_option maxRecDepth 20000 in
theorem Vl_C_mixWeb_6 (G : Gt) : ∀ (n : Nat) (x3 : Int32) (x4 : Int32) (l5 : Int64) (x7 : Int32) (h : Hp), V G m_C_mixWeb 6 [(0, .ref (ad G 0)), (3, .int x3), (4, .int x4), (5, .long l5), (7, .int x7)] [] h κl (l_C_mixWeb_6 n x3 x4 l5 x7 h) := by
  intro n
  induction n with
  | zero => intros; exact v_none
  | succ n ih =>
    intro x3 x4 l5 x7 h
    rw [l_C_mixWeb_6]
    refine v_iload 4 d_C_mixWeb_6 rfl ?_
    refine v_iconst 3 d_C_mixWeb_8 rfl ?_
    refine v_icmp_ge 37 d_C_mixWeb_9 (by decide) (fun c1 => ?_) (fun c1 => ?_)
    · refine v_ldc2 (v := 31) (mem_t 498 (by decide +kernel) rfl) d_C_mixWeb_37 ?_
      refine v_lload 3 d_C_mixWeb_40 rfl ?_
      refine v_lmul d_C_mixWeb_42 ?_
      refine v_aload_n 0 d_C_mixWeb_43 rfl rfl ?_
      refine v_iload_n 1 d_C_mixWeb_44 rfl rfl ?_
      refine v_iload 2 d_C_mixWeb_45 rfl ?_
      refine v_callVi (As := [.int x3, .int x4]) (rest := [.long (31 * l5)]) (c_C_crosses G x3 x4 h) co_C_277 io_C_crosses o_0 ⟨by decide, by decide⟩ rfl rfl (Nat.le_of_ble_eq_true rfl) d_C_mixWeb_47 (fun r2 h2 _ => ?_)
      refine v_i2l d_C_mixWeb_50 ?_
      refine v_ladd d_C_mixWeb_51 ?_
      refine v_lstore [(5, .long ((31 * l5) + (Int32.toInt64 r2))), (0, .ref (ad G 0)), (3, .int x3), (4, .int x4), (7, .int x7)] d_C_mixWeb_52 (by decide) rfl ?_
      refine v_ldc2 (v := 31) (mem_t 498 (by decide +kernel) rfl) d_C_mixWeb_54 ?_
      refine v_lload 0 d_C_mixWeb_57 rfl ?_
      refine v_lmul d_C_mixWeb_59 ?_
      refine v_aload_n 1 d_C_mixWeb_60 rfl rfl ?_
      refine v_iload_n 2 d_C_mixWeb_61 rfl rfl ?_
      refine v_iload 3 d_C_mixWeb_62 rfl ?_
      refine v_callVi (As := [.int x3, .int x4]) (rest := [.long (31 * ((31 * l5) + (Int32.toInt64 r2)))]) (c_C_turned G x3 x4 h2) co_C_280 io_C_turned o_0 ⟨by decide, by decide⟩ rfl rfl (Nat.le_of_ble_eq_true rfl) d_C_mixWeb_64 (fun r3 h3 _ => ?_)
      refine v_i2l d_C_mixWeb_67 ?_
      refine v_ladd d_C_mixWeb_68 ?_
      refine v_lstore [(5, .long ((31 * ((31 * l5) + (Int32.toInt64 r2))) + (Int32.toInt64 r3))), (0, .ref (ad G 0)), (3, .int x3), (4, .int x4), (7, .int x7)] d_C_mixWeb_69 (by decide) rfl ?_
      refine v_ldc2 (v := 31) (mem_t 498 (by decide +kernel) rfl) d_C_mixWeb_71 ?_
      refine v_lload 0 d_C_mixWeb_74 rfl ?_
      refine v_lmul d_C_mixWeb_76 ?_
      refine v_aload_n 1 d_C_mixWeb_77 rfl rfl ?_
      refine v_iload_n 2 d_C_mixWeb_78 rfl rfl ?_
      refine v_iload 3 d_C_mixWeb_79 rfl ?_
      refine v_iconst 1 d_C_mixWeb_81 rfl ?_
      refine v_callVi (As := [.int x3, .int x4, .int 1]) (rest := [.long (31 * ((31 * ((31 * l5) + (Int32.toInt64 r2))) + (Int32.toInt64 r3)))]) (c_C_web G x3 x4 1 h3) co_C_283 io_C_web o_0 ⟨by decide, by decide⟩ rfl rfl (Nat.le_of_ble_eq_true rfl) d_C_mixWeb_82 (fun r4 h4 _ => ?_)
      refine v_i2l d_C_mixWeb_85 ?_
      refine v_ladd d_C_mixWeb_86 ?_
      refine v_lstore [(5, .long ((31 * ((31 * ((31 * l5) + (Int32.toInt64 r2))) + (Int32.toInt64 r3))) + (Int32.toInt64 r4))), (0, .ref (ad G 0)), (3, .int x3), (4, .int x4), (7, .int x7)] d_C_mixWeb_87 (by decide) rfl ?_
      refine v_ldc2 (v := 31) (mem_t 498 (by decide +kernel) rfl) d_C_mixWeb_89 ?_
      refine v_lload 0 d_C_mixWeb_92 rfl ?_
      refine v_lmul d_C_mixWeb_94 ?_
      refine v_aload_n 1 d_C_mixWeb_95 rfl rfl ?_
      refine v_iload_n 2 d_C_mixWeb_96 rfl rfl ?_
      refine v_iload 3 d_C_mixWeb_97 rfl ?_
      refine v_iconst 0 d_C_mixWeb_99 rfl ?_
      refine v_callVi (As := [.int x3, .int x4, .int 0]) (rest := [.long (31 * ((31 * ((31 * ((31 * l5) + (Int32.toInt64 r2))) + (Int32.toInt64 r3))) + (Int32.toInt64 r4)))]) (c_C_hangs G x3 x4 0 h4) co_C_286 io_C_hangs o_0 ⟨by decide, by decide⟩ rfl rfl (Nat.le_of_ble_eq_true rfl) d_C_mixWeb_100 (fun r5 h5 _ => ?_)
      refine v_i2l d_C_mixWeb_103 ?_
      refine v_ladd d_C_mixWeb_104 ?_
      refine v_lstore [(5, .long ((31 * ((31 * ((31 * ((31 * l5) + (Int32.toInt64 r2))) + (Int32.toInt64 r3))) + (Int32.toInt64 r4))) + (Int32.toInt64 r5))), (0, .ref (ad G 0)), (3, .int x3), (4, .int x4), (7, .int x7)] d_C_mixWeb_105 (by decide) rfl ?_
      refine v_ldc2 (v := 31) (mem_t 498 (by decide +kernel) rfl) d_C_mixWeb_107 ?_
      refine v_lload 0 d_C_mixWeb_110 rfl ?_
      refine v_lmul d_C_mixWeb_112 ?_
      refine v_aload_n 1 d_C_mixWeb_113 rfl rfl ?_
      refine v_iload_n 2 d_C_mixWeb_114 rfl rfl ?_
      refine v_iload 3 d_C_mixWeb_115 rfl ?_
      refine v_iconst 1 d_C_mixWeb_117 rfl ?_
      refine v_callVi (As := [.int x3, .int x4, .int 1]) (rest := [.long (31 * ((31 * ((31 * ((31 * ((31 * l5) + (Int32.toInt64 r2))) + (Int32.toInt64 r3))) + (Int32.toInt64 r4))) + (Int32.toInt64 r5)))]) (c_C_pieces G x3 x4 1 h5) co_C_289 io_C_pieces o_0 ⟨by decide, by decide⟩ rfl rfl (Nat.le_of_ble_eq_true rfl) d_C_mixWeb_118 (fun r6 h6 _ => ?_)
      refine v_i2l d_C_mixWeb_121 ?_
      refine v_ladd d_C_mixWeb_122 ?_
      refine v_lstore [(5, .long ((31 * ((31 * ((31 * ((31 * ((31 * l5) + (Int32.toInt64 r2))) + (Int32.toInt64 r3))) + (Int32.toInt64 r4))) + (Int32.toInt64 r5))) + (Int32.toInt64 r6))), (0, .ref (ad G 0)), (3, .int x3), (4, .int x4), (7, .int x7)] d_C_mixWeb_123 (by decide) rfl ?_
      refine v_ldc2 (v := 31) (mem_t 498 (by decide +kernel) rfl) d_C_mixWeb_125 ?_
      refine v_lload 0 d_C_mixWeb_128 rfl ?_
      refine v_lmul d_C_mixWeb_130 ?_
      refine v_aload_n 1 d_C_mixWeb_131 rfl rfl ?_
      refine v_iload_n 2 d_C_mixWeb_132 rfl rfl ?_
      refine v_iload 3 d_C_mixWeb_133 rfl ?_
      refine v_bipush 7 d_C_mixWeb_135 rfl ?_
      refine v_bipush 9 d_C_mixWeb_137 rfl ?_
      refine v_callVi (As := [.int x3, .int x4, .int 7, .int 9]) (rest := [.long (31 * ((31 * ((31 * ((31 * ((31 * ((31 * l5) + (Int32.toInt64 r2))) + (Int32.toInt64 r3))) + (Int32.toInt64 r4))) + (Int32.toInt64 r5))) + (Int32.toInt64 r6)))]) (c_C_flies G x3 x4 7 9 h6) co_C_292 io_C_flies o_0 ⟨by decide, by decide⟩ rfl rfl (Nat.le_of_ble_eq_true rfl) d_C_mixWeb_139 (fun r7 h7 _ => ?_)
      refine v_i2l d_C_mixWeb_142 ?_
      refine v_ladd d_C_mixWeb_143 ?_
      exact v_lret rfl d_C_mixWeb_144
    · refine v_ldc2 (v := 31) (mem_t 498 (by decide +kernel) rfl) d_C_mixWeb_12 ?_
      refine v_lload 3 d_C_mixWeb_15 rfl ?_
      refine v_lmul d_C_mixWeb_17 ?_
      refine v_aload_n 0 d_C_mixWeb_18 rfl rfl ?_
      refine v_iload_n 1 d_C_mixWeb_19 rfl rfl ?_
      refine v_iload 2 d_C_mixWeb_20 rfl ?_
      refine v_iload 4 d_C_mixWeb_22 rfl ?_
      refine v_callVi (As := [.int x3, .int x4, .int x7]) (rest := [.long (31 * l5)]) (c_C_length G x3 x4 x7 h) co_C_274 io_C_length o_0 ⟨by decide, by decide⟩ rfl rfl (Nat.le_of_ble_eq_true rfl) d_C_mixWeb_24 (fun r8 h8 _ => ?_)
      refine v_i2l d_C_mixWeb_27 ?_
      refine v_ladd d_C_mixWeb_28 ?_
      refine v_lstore [(5, .long ((31 * l5) + (Int32.toInt64 r8))), (0, .ref (ad G 0)), (3, .int x3), (4, .int x4), (7, .int x7)] d_C_mixWeb_29 (by decide) rfl ?_
      refine v_iinc (x7 + 1) 4 [(7, .int (x7 + 1)), (5, .long ((31 * l5) + (Int32.toInt64 r8))), (0, .ref (ad G 0)), (3, .int x3), (4, .int x4)] d_C_mixWeb_31 rfl rfl (by decide) rfl ?_
      refine v_goto 6 d_C_mixWeb_34 (by decide) ?_
      exact v_sub [2, 3, 4, 1, 0] rfl (ih x3 x4 ((31 * l5) + (Int32.toInt64 r8)) (x7 + 1) h8)
set_option maxHeartbeats 4000000 in
set_option maxRecDepth 20000 in
theorem c_C_mixWeb (G : Gt) (l1 : Int64) (x3 : Int32) (x4 : Int32) (h : Hp) : Cn G m_C_mixWeb [.ref (ad G 0), .long l1, .int x3, .int x4] h κl (f_C_mixWeb l1 x3 x4 h) := by
  refine entryV (by decide) (Nat.le_of_ble_eq_true rfl) rfl ?_
  show V G m_C_mixWeb 0 [(0, .ref (ad G 0)), (1, .long l1), (3, .int x3), (4, .int x4)] [] h κl _
  unfold f_C_mixWeb
  refine v_lload_n 1 d_C_mixWeb_0 rfl rfl ?_
  refine v_lstore [(5, .long l1), (0, .ref (ad G 0)), (1, .long l1), (3, .int x3), (4, .int x4)] d_C_mixWeb_1 (by decide) rfl ?_
  refine v_iconst 0 d_C_mixWeb_3 rfl ?_
  refine v_istore [(7, .int 0), (5, .long l1), (0, .ref (ad G 0)), (1, .long l1), (3, .int x3), (4, .int x4)] d_C_mixWeb_4 (by decide) rfl ?_
  exact v_sub [2, 4, 5, 1, 0] rfl (Vl_C_mixWeb_6 G FUEL x3 x4 l1 0 h)
theorem d_C_digest_0 : decode m_C_digest.2.1 0 = .ok (.ldc2_w 243, 3) := by decide +kernel
theorem d_C_digest_3 : decode m_C_digest.2.1 3 = .ok (.lstore_n 1, 1) := by decide +kernel
theorem d_C_digest_4 : decode m_C_digest.2.1 4 = .ok (.iconst 0, 1) := by decide +kernel
theorem d_C_digest_5 : decode m_C_digest.2.1 5 = .ok (.istore_n 3, 1) := by decide +kernel
theorem d_C_digest_6 : decode m_C_digest.2.1 6 = .ok (.iload_n 3, 1) := by decide +kernel
theorem d_C_digest_7 : decode m_C_digest.2.1 7 = .ok (.bipush 8, 2) := by decide +kernel
theorem d_C_digest_9 : decode m_C_digest.2.1 9 = .ok (.if_icmp .ge 22, 3) := by decide +kernel
theorem d_C_digest_12 : decode m_C_digest.2.1 12 = .ok (.ldc2_w 245, 3) := by decide +kernel
theorem d_C_digest_15 : decode m_C_digest.2.1 15 = .ok (.lload_n 1, 1) := by decide +kernel
theorem d_C_digest_16 : decode m_C_digest.2.1 16 = .ok (.lmul, 1) := by decide +kernel
theorem d_C_digest_17 : decode m_C_digest.2.1 17 = .ok (.aload_n 0, 1) := by decide +kernel
theorem d_C_digest_18 : decode m_C_digest.2.1 18 = .ok (.iload_n 3, 1) := by decide +kernel
theorem d_C_digest_19 : decode m_C_digest.2.1 19 = .ok (.invokevirtual 247, 3) := by decide +kernel
theorem d_C_digest_22 : decode m_C_digest.2.1 22 = .ok (.i2l, 1) := by decide +kernel
theorem d_C_digest_23 : decode m_C_digest.2.1 23 = .ok (.ladd, 1) := by decide +kernel
theorem d_C_digest_24 : decode m_C_digest.2.1 24 = .ok (.lstore_n 1, 1) := by decide +kernel
theorem d_C_digest_25 : decode m_C_digest.2.1 25 = .ok (.iinc 3 1, 3) := by decide +kernel
theorem d_C_digest_28 : decode m_C_digest.2.1 28 = .ok (.goto (-22), 3) := by decide +kernel
theorem d_C_digest_31 : decode m_C_digest.2.1 31 = .ok (.ldc2_w 245, 3) := by decide +kernel
theorem d_C_digest_34 : decode m_C_digest.2.1 34 = .ok (.lload_n 1, 1) := by decide +kernel
theorem d_C_digest_35 : decode m_C_digest.2.1 35 = .ok (.lmul, 1) := by decide +kernel
theorem d_C_digest_36 : decode m_C_digest.2.1 36 = .ok (.aload_n 0, 1) := by decide +kernel
theorem d_C_digest_37 : decode m_C_digest.2.1 37 = .ok (.invokevirtual 250, 3) := by decide +kernel
theorem d_C_digest_40 : decode m_C_digest.2.1 40 = .ok (.i2l, 1) := by decide +kernel
theorem d_C_digest_41 : decode m_C_digest.2.1 41 = .ok (.ladd, 1) := by decide +kernel
theorem d_C_digest_42 : decode m_C_digest.2.1 42 = .ok (.lstore_n 1, 1) := by decide +kernel
theorem d_C_digest_43 : decode m_C_digest.2.1 43 = .ok (.iconst 0, 1) := by decide +kernel
theorem d_C_digest_44 : decode m_C_digest.2.1 44 = .ok (.istore_n 3, 1) := by decide +kernel
theorem d_C_digest_45 : decode m_C_digest.2.1 45 = .ok (.iload_n 3, 1) := by decide +kernel
theorem d_C_digest_46 : decode m_C_digest.2.1 46 = .ok (.aload_n 0, 1) := by decide +kernel
theorem d_C_digest_47 : decode m_C_digest.2.1 47 = .ok (.getfield 19, 3) := by decide +kernel
theorem d_C_digest_50 : decode m_C_digest.2.1 50 = .ok (.getfield 159, 3) := by decide +kernel
theorem d_C_digest_53 : decode m_C_digest.2.1 53 = .ok (.if_icmp .ge 33, 3) := by decide +kernel
theorem d_C_digest_56 : decode m_C_digest.2.1 56 = .ok (.iconst 0, 1) := by decide +kernel
theorem d_C_digest_57 : decode m_C_digest.2.1 57 = .ok (.istore 4, 2) := by decide +kernel
theorem d_C_digest_59 : decode m_C_digest.2.1 59 = .ok (.iload 4, 2) := by decide +kernel
theorem d_C_digest_61 : decode m_C_digest.2.1 61 = .ok (.iconst 4, 1) := by decide +kernel
theorem d_C_digest_62 : decode m_C_digest.2.1 62 = .ok (.if_icmp .ge 18, 3) := by decide +kernel
theorem d_C_digest_65 : decode m_C_digest.2.1 65 = .ok (.aload_n 0, 1) := by decide +kernel
theorem d_C_digest_66 : decode m_C_digest.2.1 66 = .ok (.lload_n 1, 1) := by decide +kernel
theorem d_C_digest_67 : decode m_C_digest.2.1 67 = .ok (.iload_n 3, 1) := by decide +kernel
theorem d_C_digest_68 : decode m_C_digest.2.1 68 = .ok (.iload 4, 2) := by decide +kernel
theorem d_C_digest_70 : decode m_C_digest.2.1 70 = .ok (.invokevirtual 253, 3) := by decide +kernel
theorem d_C_digest_73 : decode m_C_digest.2.1 73 = .ok (.lstore_n 1, 1) := by decide +kernel
theorem d_C_digest_74 : decode m_C_digest.2.1 74 = .ok (.iinc 4 1, 3) := by decide +kernel
theorem d_C_digest_77 : decode m_C_digest.2.1 77 = .ok (.goto (-18), 3) := by decide +kernel
theorem d_C_digest_80 : decode m_C_digest.2.1 80 = .ok (.iinc 3 1, 3) := by decide +kernel
theorem d_C_digest_83 : decode m_C_digest.2.1 83 = .ok (.goto (-38), 3) := by decide +kernel
theorem d_C_digest_86 : decode m_C_digest.2.1 86 = .ok (.iconst 0, 1) := by decide +kernel
theorem d_C_digest_87 : decode m_C_digest.2.1 87 = .ok (.istore_n 3, 1) := by decide +kernel
theorem d_C_digest_88 : decode m_C_digest.2.1 88 = .ok (.iload_n 3, 1) := by decide +kernel
theorem d_C_digest_89 : decode m_C_digest.2.1 89 = .ok (.iconst 4, 1) := by decide +kernel
theorem d_C_digest_90 : decode m_C_digest.2.1 90 = .ok (.if_icmp .ge 22, 3) := by decide +kernel
theorem d_C_digest_93 : decode m_C_digest.2.1 93 = .ok (.ldc2_w 245, 3) := by decide +kernel
theorem d_C_digest_96 : decode m_C_digest.2.1 96 = .ok (.lload_n 1, 1) := by decide +kernel
theorem d_C_digest_97 : decode m_C_digest.2.1 97 = .ok (.lmul, 1) := by decide +kernel
theorem d_C_digest_98 : decode m_C_digest.2.1 98 = .ok (.aload_n 0, 1) := by decide +kernel
theorem d_C_digest_99 : decode m_C_digest.2.1 99 = .ok (.iload_n 3, 1) := by decide +kernel
theorem d_C_digest_100 : decode m_C_digest.2.1 100 = .ok (.invokevirtual 257, 3) := by decide +kernel
theorem d_C_digest_103 : decode m_C_digest.2.1 103 = .ok (.i2l, 1) := by decide +kernel
theorem d_C_digest_104 : decode m_C_digest.2.1 104 = .ok (.ladd, 1) := by decide +kernel
theorem d_C_digest_105 : decode m_C_digest.2.1 105 = .ok (.lstore_n 1, 1) := by decide +kernel
theorem d_C_digest_106 : decode m_C_digest.2.1 106 = .ok (.iinc 3 1, 3) := by decide +kernel
theorem d_C_digest_109 : decode m_C_digest.2.1 109 = .ok (.goto (-21), 3) := by decide +kernel
theorem d_C_digest_112 : decode m_C_digest.2.1 112 = .ok (.iconst 0, 1) := by decide +kernel
theorem d_C_digest_113 : decode m_C_digest.2.1 113 = .ok (.istore_n 3, 1) := by decide +kernel
theorem d_C_digest_114 : decode m_C_digest.2.1 114 = .ok (.iload_n 3, 1) := by decide +kernel
theorem d_C_digest_115 : decode m_C_digest.2.1 115 = .ok (.iconst 2, 1) := by decide +kernel
theorem d_C_digest_116 : decode m_C_digest.2.1 116 = .ok (.if_icmp .ge 25, 3) := by decide +kernel
theorem d_C_digest_119 : decode m_C_digest.2.1 119 = .ok (.ldc2_w 245, 3) := by decide +kernel
theorem d_C_digest_122 : decode m_C_digest.2.1 122 = .ok (.lload_n 1, 1) := by decide +kernel
theorem d_C_digest_123 : decode m_C_digest.2.1 123 = .ok (.lmul, 1) := by decide +kernel
theorem d_C_digest_124 : decode m_C_digest.2.1 124 = .ok (.aload_n 0, 1) := by decide +kernel
theorem d_C_digest_125 : decode m_C_digest.2.1 125 = .ok (.iconst 0, 1) := by decide +kernel
theorem d_C_digest_126 : decode m_C_digest.2.1 126 = .ok (.iconst 0, 1) := by decide +kernel
theorem d_C_digest_127 : decode m_C_digest.2.1 127 = .ok (.iconst 1, 1) := by decide +kernel
theorem d_C_digest_128 : decode m_C_digest.2.1 128 = .ok (.iload_n 3, 1) := by decide +kernel
theorem d_C_digest_129 : decode m_C_digest.2.1 129 = .ok (.invokevirtual 260, 3) := by decide +kernel
theorem d_C_digest_132 : decode m_C_digest.2.1 132 = .ok (.i2l, 1) := by decide +kernel
theorem d_C_digest_133 : decode m_C_digest.2.1 133 = .ok (.ladd, 1) := by decide +kernel
theorem d_C_digest_134 : decode m_C_digest.2.1 134 = .ok (.lstore_n 1, 1) := by decide +kernel
theorem d_C_digest_135 : decode m_C_digest.2.1 135 = .ok (.iinc 3 1, 3) := by decide +kernel
theorem d_C_digest_138 : decode m_C_digest.2.1 138 = .ok (.goto (-24), 3) := by decide +kernel
theorem d_C_digest_141 : decode m_C_digest.2.1 141 = .ok (.iconst 0, 1) := by decide +kernel
theorem d_C_digest_142 : decode m_C_digest.2.1 142 = .ok (.istore_n 3, 1) := by decide +kernel
theorem d_C_digest_143 : decode m_C_digest.2.1 143 = .ok (.iload_n 3, 1) := by decide +kernel
theorem d_C_digest_144 : decode m_C_digest.2.1 144 = .ok (.iconst 3, 1) := by decide +kernel
theorem d_C_digest_145 : decode m_C_digest.2.1 145 = .ok (.if_icmp .ge 26, 3) := by decide +kernel
theorem d_C_digest_148 : decode m_C_digest.2.1 148 = .ok (.ldc2_w 245, 3) := by decide +kernel
theorem d_C_digest_151 : decode m_C_digest.2.1 151 = .ok (.lload_n 1, 1) := by decide +kernel
theorem d_C_digest_152 : decode m_C_digest.2.1 152 = .ok (.lmul, 1) := by decide +kernel
theorem d_C_digest_153 : decode m_C_digest.2.1 153 = .ok (.aload_n 0, 1) := by decide +kernel
theorem d_C_digest_154 : decode m_C_digest.2.1 154 = .ok (.iconst 0, 1) := by decide +kernel
theorem d_C_digest_155 : decode m_C_digest.2.1 155 = .ok (.iconst 0, 1) := by decide +kernel
theorem d_C_digest_156 : decode m_C_digest.2.1 156 = .ok (.iconst 1, 1) := by decide +kernel
theorem d_C_digest_157 : decode m_C_digest.2.1 157 = .ok (.iconst 1, 1) := by decide +kernel
theorem d_C_digest_158 : decode m_C_digest.2.1 158 = .ok (.iload_n 3, 1) := by decide +kernel
theorem d_C_digest_159 : decode m_C_digest.2.1 159 = .ok (.invokevirtual 264, 3) := by decide +kernel
theorem d_C_digest_162 : decode m_C_digest.2.1 162 = .ok (.i2l, 1) := by decide +kernel
theorem d_C_digest_163 : decode m_C_digest.2.1 163 = .ok (.ladd, 1) := by decide +kernel
theorem d_C_digest_164 : decode m_C_digest.2.1 164 = .ok (.lstore_n 1, 1) := by decide +kernel
theorem d_C_digest_165 : decode m_C_digest.2.1 165 = .ok (.iinc 3 1, 3) := by decide +kernel
theorem d_C_digest_168 : decode m_C_digest.2.1 168 = .ok (.goto (-25), 3) := by decide +kernel
theorem d_C_digest_171 : decode m_C_digest.2.1 171 = .ok (.ldc2_w 245, 3) := by decide +kernel
theorem d_C_digest_174 : decode m_C_digest.2.1 174 = .ok (.lload_n 1, 1) := by decide +kernel
theorem d_C_digest_175 : decode m_C_digest.2.1 175 = .ok (.lmul, 1) := by decide +kernel
theorem d_C_digest_176 : decode m_C_digest.2.1 176 = .ok (.aload_n 0, 1) := by decide +kernel
theorem d_C_digest_177 : decode m_C_digest.2.1 177 = .ok (.iconst 0, 1) := by decide +kernel
theorem d_C_digest_178 : decode m_C_digest.2.1 178 = .ok (.iconst 0, 1) := by decide +kernel
theorem d_C_digest_179 : decode m_C_digest.2.1 179 = .ok (.iconst 5, 1) := by decide +kernel
theorem d_C_digest_180 : decode m_C_digest.2.1 180 = .ok (.iconst 5, 1) := by decide +kernel
theorem d_C_digest_181 : decode m_C_digest.2.1 181 = .ok (.invokevirtual 268, 3) := by decide +kernel
theorem d_C_digest_184 : decode m_C_digest.2.1 184 = .ok (.i2l, 1) := by decide +kernel
theorem d_C_digest_185 : decode m_C_digest.2.1 185 = .ok (.ladd, 1) := by decide +kernel
theorem d_C_digest_186 : decode m_C_digest.2.1 186 = .ok (.lstore_n 1, 1) := by decide +kernel
theorem d_C_digest_187 : decode m_C_digest.2.1 187 = .ok (.ldc2_w 245, 3) := by decide +kernel
theorem d_C_digest_190 : decode m_C_digest.2.1 190 = .ok (.lload_n 1, 1) := by decide +kernel
theorem d_C_digest_191 : decode m_C_digest.2.1 191 = .ok (.lmul, 1) := by decide +kernel
theorem d_C_digest_192 : decode m_C_digest.2.1 192 = .ok (.aload_n 0, 1) := by decide +kernel
theorem d_C_digest_193 : decode m_C_digest.2.1 193 = .ok (.invokevirtual 195, 3) := by decide +kernel
theorem d_C_digest_196 : decode m_C_digest.2.1 196 = .ok (.i2l, 1) := by decide +kernel
theorem d_C_digest_197 : decode m_C_digest.2.1 197 = .ok (.ladd, 1) := by decide +kernel
theorem d_C_digest_198 : decode m_C_digest.2.1 198 = .ok (.lstore_n 1, 1) := by decide +kernel
theorem d_C_digest_199 : decode m_C_digest.2.1 199 = .ok (.ldc2_w 245, 3) := by decide +kernel
theorem d_C_digest_202 : decode m_C_digest.2.1 202 = .ok (.lload_n 1, 1) := by decide +kernel
theorem d_C_digest_203 : decode m_C_digest.2.1 203 = .ok (.lmul, 1) := by decide +kernel
theorem d_C_digest_204 : decode m_C_digest.2.1 204 = .ok (.aload_n 0, 1) := by decide +kernel
theorem d_C_digest_205 : decode m_C_digest.2.1 205 = .ok (.invokevirtual 271, 3) := by decide +kernel
theorem d_C_digest_208 : decode m_C_digest.2.1 208 = .ok (.i2l, 1) := by decide +kernel
theorem d_C_digest_209 : decode m_C_digest.2.1 209 = .ok (.ladd, 1) := by decide +kernel
theorem d_C_digest_210 : decode m_C_digest.2.1 210 = .ok (.lreturn, 1) := by decide +kernel
set_option maxHeartbeats 4000000 in
set_option maxRecDepth 20000 in
theorem Vl_C_digest_143 (G : Gt) : ∀ (n : Nat) (l1 : Int64) (x3 : Int32) (h : Hp), V G m_C_digest 143 [(0, .ref (ad G 0)), (1, .long l1), (3, .int x3)] [] h κl (l_C_digest_143 n l1 x3 h) := by
  intro n
  induction n with
  | zero => intros; exact v_none
  | succ n ih =>
    intro l1 x3 h
    rw [l_C_digest_143]
    refine v_iload_n 2 d_C_digest_143 rfl rfl ?_
    refine v_iconst 3 d_C_digest_144 rfl ?_
    refine v_icmp_ge 171 d_C_digest_145 (by decide) (fun c6 => ?_) (fun c6 => ?_)
    · refine v_ldc2 (v := 31) (mem_t 498 (by decide +kernel) rfl) d_C_digest_171 ?_
      refine v_lload_n 1 d_C_digest_174 rfl rfl ?_
      refine v_lmul d_C_digest_175 ?_
      refine v_aload_n 0 d_C_digest_176 rfl rfl ?_
      refine v_iconst 0 d_C_digest_177 rfl ?_
      refine v_iconst 0 d_C_digest_178 rfl ?_
      refine v_iconst 5 d_C_digest_179 rfl ?_
      refine v_iconst 5 d_C_digest_180 rfl ?_
      refine v_callVi (As := [.int 0, .int 0, .int 5, .int 5]) (rest := [.long (31 * l1)]) (c_C_more G 0 0 5 5 h) co_C_268 io_C_more o_0 ⟨by decide, by decide⟩ rfl rfl (Nat.le_of_ble_eq_true rfl) d_C_digest_181 (fun r7 h7 _ => ?_)
      refine v_i2l d_C_digest_184 ?_
      refine v_ladd d_C_digest_185 ?_
      refine v_lstore_n [(1, .long ((31 * l1) + (Int32.toInt64 r7))), (0, .ref (ad G 0)), (3, .int x3)] d_C_digest_186 rfl (by decide) rfl ?_
      refine v_ldc2 (v := 31) (mem_t 498 (by decide +kernel) rfl) d_C_digest_187 ?_
      refine v_lload_n 0 d_C_digest_190 rfl rfl ?_
      refine v_lmul d_C_digest_191 ?_
      refine v_aload_n 1 d_C_digest_192 rfl rfl ?_
      refine v_callVi (As := []) (rest := [.long (31 * ((31 * l1) + (Int32.toInt64 r7)))]) (c_C_fits G h7) co_C_195 io_C_fits o_0 ⟨by decide, by decide⟩ rfl rfl (Nat.le_of_ble_eq_true rfl) d_C_digest_193 (fun r8 h8 _ => ?_)
      refine v_i2l d_C_digest_196 ?_
      refine v_ladd d_C_digest_197 ?_
      refine v_lstore_n [(1, .long ((31 * ((31 * l1) + (Int32.toInt64 r7))) + (Int32.toInt64 r8))), (0, .ref (ad G 0)), (3, .int x3)] d_C_digest_198 rfl (by decide) rfl ?_
      refine v_ldc2 (v := 31) (mem_t 498 (by decide +kernel) rfl) d_C_digest_199 ?_
      refine v_lload_n 0 d_C_digest_202 rfl rfl ?_
      refine v_lmul d_C_digest_203 ?_
      refine v_aload_n 1 d_C_digest_204 rfl rfl ?_
      refine v_callVi (As := []) (rest := [.long (31 * ((31 * ((31 * l1) + (Int32.toInt64 r7))) + (Int32.toInt64 r8)))]) (c_C_tells G h8) co_C_271 io_C_tells o_0 ⟨by decide, by decide⟩ rfl rfl (Nat.le_of_ble_eq_true rfl) d_C_digest_205 (fun r9 h9 _ => ?_)
      refine v_i2l d_C_digest_208 ?_
      refine v_ladd d_C_digest_209 ?_
      exact v_lret rfl d_C_digest_210
    · refine v_ldc2 (v := 31) (mem_t 498 (by decide +kernel) rfl) d_C_digest_148 ?_
      refine v_lload_n 1 d_C_digest_151 rfl rfl ?_
      refine v_lmul d_C_digest_152 ?_
      refine v_aload_n 0 d_C_digest_153 rfl rfl ?_
      refine v_iconst 0 d_C_digest_154 rfl ?_
      refine v_iconst 0 d_C_digest_155 rfl ?_
      refine v_iconst 1 d_C_digest_156 rfl ?_
      refine v_iconst 1 d_C_digest_157 rfl ?_
      refine v_iload_n 2 d_C_digest_158 rfl rfl ?_
      refine v_callVi (As := [.int 0, .int 0, .int 1, .int 1, .int x3]) (rest := [.long (31 * l1)]) (c_C_two G 0 0 1 1 x3 h) co_C_264 io_C_two o_0 ⟨by decide, by decide⟩ rfl rfl (Nat.le_of_ble_eq_true rfl) d_C_digest_159 (fun r10 h10 _ => ?_)
      refine v_i2l d_C_digest_162 ?_
      refine v_ladd d_C_digest_163 ?_
      refine v_lstore_n [(1, .long ((31 * l1) + (Int32.toInt64 r10))), (0, .ref (ad G 0)), (3, .int x3)] d_C_digest_164 rfl (by decide) rfl ?_
      refine v_iinc (x3 + 1) 2 [(3, .int (x3 + 1)), (1, .long ((31 * l1) + (Int32.toInt64 r10))), (0, .ref (ad G 0))] d_C_digest_165 rfl rfl (by decide) rfl ?_
      refine v_goto 143 d_C_digest_168 (by decide) ?_
      exact v_sub [2, 1, 0] rfl (ih ((31 * l1) + (Int32.toInt64 r10)) (x3 + 1) h10)
set_option maxHeartbeats 4000000 in
set_option maxRecDepth 20000 in
theorem Vl_C_digest_114 (G : Gt) : ∀ (n : Nat) (l1 : Int64) (x3 : Int32) (h : Hp), V G m_C_digest 114 [(0, .ref (ad G 0)), (1, .long l1), (3, .int x3)] [] h κl (l_C_digest_114 n l1 x3 h) := by
  intro n
  induction n with
  | zero => intros; exact v_none
  | succ n ih =>
    intro l1 x3 h
    rw [l_C_digest_114]
    refine v_iload_n 2 d_C_digest_114 rfl rfl ?_
    refine v_iconst 2 d_C_digest_115 rfl ?_
    refine v_icmp_ge 141 d_C_digest_116 (by decide) (fun c5 => ?_) (fun c5 => ?_)
    · refine v_iconst 0 d_C_digest_141 rfl ?_
      refine v_istore_n [(3, .int 0), (0, .ref (ad G 0)), (1, .long l1)] d_C_digest_142 rfl (by decide) rfl ?_
      exact v_sub [1, 2, 0] rfl (Vl_C_digest_143 G FUEL l1 0 h)
    · refine v_ldc2 (v := 31) (mem_t 498 (by decide +kernel) rfl) d_C_digest_119 ?_
      refine v_lload_n 1 d_C_digest_122 rfl rfl ?_
      refine v_lmul d_C_digest_123 ?_
      refine v_aload_n 0 d_C_digest_124 rfl rfl ?_
      refine v_iconst 0 d_C_digest_125 rfl ?_
      refine v_iconst 0 d_C_digest_126 rfl ?_
      refine v_iconst 1 d_C_digest_127 rfl ?_
      refine v_iload_n 2 d_C_digest_128 rfl rfl ?_
      refine v_callVi (As := [.int 0, .int 0, .int 1, .int x3]) (rest := [.long (31 * l1)]) (c_C_last G 0 0 1 x3 h) co_C_260 io_C_last o_0 ⟨by decide, by decide⟩ rfl rfl (Nat.le_of_ble_eq_true rfl) d_C_digest_129 (fun r11 h11 _ => ?_)
      refine v_i2l d_C_digest_132 ?_
      refine v_ladd d_C_digest_133 ?_
      refine v_lstore_n [(1, .long ((31 * l1) + (Int32.toInt64 r11))), (0, .ref (ad G 0)), (3, .int x3)] d_C_digest_134 rfl (by decide) rfl ?_
      refine v_iinc (x3 + 1) 2 [(3, .int (x3 + 1)), (1, .long ((31 * l1) + (Int32.toInt64 r11))), (0, .ref (ad G 0))] d_C_digest_135 rfl rfl (by decide) rfl ?_
      refine v_goto 114 d_C_digest_138 (by decide) ?_
      exact v_sub [2, 1, 0] rfl (ih ((31 * l1) + (Int32.toInt64 r11)) (x3 + 1) h11)
set_option maxHeartbeats 4000000 in
set_option maxRecDepth 20000 in
theorem Vl_C_digest_88 (G : Gt) : ∀ (n : Nat) (l1 : Int64) (x3 : Int32) (h : Hp), V G m_C_digest 88 [(0, .ref (ad G 0)), (1, .long l1), (3, .int x3)] [] h κl (l_C_digest_88 n l1 x3 h) := by
  intro n
  induction n with
  | zero => intros; exact v_none
  | succ n ih =>
    intro l1 x3 h
    rw [l_C_digest_88]
    refine v_iload_n 2 d_C_digest_88 rfl rfl ?_
    refine v_iconst 4 d_C_digest_89 rfl ?_
    refine v_icmp_ge 112 d_C_digest_90 (by decide) (fun c4 => ?_) (fun c4 => ?_)
    · refine v_iconst 0 d_C_digest_112 rfl ?_
      refine v_istore_n [(3, .int 0), (0, .ref (ad G 0)), (1, .long l1)] d_C_digest_113 rfl (by decide) rfl ?_
      exact v_sub [1, 2, 0] rfl (Vl_C_digest_114 G FUEL l1 0 h)
    · refine v_ldc2 (v := 31) (mem_t 498 (by decide +kernel) rfl) d_C_digest_93 ?_
      refine v_lload_n 1 d_C_digest_96 rfl rfl ?_
      refine v_lmul d_C_digest_97 ?_
      refine v_aload_n 0 d_C_digest_98 rfl rfl ?_
      refine v_iload_n 2 d_C_digest_99 rfl rfl ?_
      refine v_callVi (As := [.int x3]) (rest := [.long (31 * l1)]) (c_C_begin G x3 h) co_C_257 io_C_begin o_0 ⟨by decide, by decide⟩ rfl rfl (Nat.le_of_ble_eq_true rfl) d_C_digest_100 (fun r12 h12 _ => ?_)
      refine v_i2l d_C_digest_103 ?_
      refine v_ladd d_C_digest_104 ?_
      refine v_lstore_n [(1, .long ((31 * l1) + (Int32.toInt64 r12))), (0, .ref (ad G 0)), (3, .int x3)] d_C_digest_105 rfl (by decide) rfl ?_
      refine v_iinc (x3 + 1) 2 [(3, .int (x3 + 1)), (1, .long ((31 * l1) + (Int32.toInt64 r12))), (0, .ref (ad G 0))] d_C_digest_106 rfl rfl (by decide) rfl ?_
      refine v_goto 88 d_C_digest_109 (by decide) ?_
      exact v_sub [2, 1, 0] rfl (ih ((31 * l1) + (Int32.toInt64 r12)) (x3 + 1) h12)
set_option maxHeartbeats 4000000 in
set_option maxRecDepth 20000 in
theorem Vl_C_digest_59 (G : Gt) (K45 : Int64 → Int32 → Hp → Option (Int64 × Hp)) (hK45 : ∀ (l1 : Int64) (x3 : Int32) (h : Hp), V G m_C_digest 45 [(0, .ref (ad G 0)), (1, .long l1), (3, .int x3)] [] h κl (K45 l1 x3 h)) : ∀ (n : Nat) (l1 : Int64) (x3 : Int32) (x4 : Int32) (h : Hp), V G m_C_digest 59 [(0, .ref (ad G 0)), (1, .long l1), (3, .int x3), (4, .int x4)] [] h κl (l_C_digest_59 K45 n l1 x3 x4 h) := by
  intro n
  induction n with
  | zero => intros; exact v_none
  | succ n ih =>
    intro l1 x3 x4 h
    rw [l_C_digest_59]
    refine v_iload 3 d_C_digest_59 rfl ?_
    refine v_iconst 4 d_C_digest_61 rfl ?_
    refine v_icmp_ge 80 d_C_digest_62 (by decide) (fun c13 => ?_) (fun c13 => ?_)
    · refine v_iinc (x3 + 1) 2 [(3, .int (x3 + 1)), (0, .ref (ad G 0)), (1, .long l1), (4, .int x4)] d_C_digest_80 rfl rfl (by decide) rfl ?_
      refine v_goto 45 d_C_digest_83 (by decide) ?_
      exact v_sub [1, 2, 0] rfl (hK45 l1 (x3 + 1) h)
    · refine v_aload_n 0 d_C_digest_65 rfl rfl ?_
      refine v_lload_n 1 d_C_digest_66 rfl rfl ?_
      refine v_iload_n 2 d_C_digest_67 rfl rfl ?_
      refine v_iload 3 d_C_digest_68 rfl ?_
      refine v_callVl (As := [.long l1, .int x3, .int x4]) (rest := []) (c_C_mixWeb G l1 x3 x4 h) co_C_253 io_C_mixWeb o_0 ⟨by decide, by decide⟩ rfl rfl (Nat.le_of_ble_eq_true rfl) d_C_digest_70 (fun r14 h14 _ => ?_)
      refine v_lstore_n [(1, .long r14), (0, .ref (ad G 0)), (3, .int x3), (4, .int x4)] d_C_digest_73 rfl (by decide) rfl ?_
      refine v_iinc (x4 + 1) 3 [(4, .int (x4 + 1)), (1, .long r14), (0, .ref (ad G 0)), (3, .int x3)] d_C_digest_74 rfl rfl (by decide) rfl ?_
      refine v_goto 59 d_C_digest_77 (by decide) ?_
      exact v_sub [2, 1, 3, 0] rfl (ih r14 x3 (x4 + 1) h14)
set_option maxHeartbeats 4000000 in
set_option maxRecDepth 20000 in
theorem Vl_C_digest_45 (G : Gt) : ∀ (n : Nat) (l1 : Int64) (x3 : Int32) (h : Hp), V G m_C_digest 45 [(0, .ref (ad G 0)), (1, .long l1), (3, .int x3)] [] h κl (l_C_digest_45 n l1 x3 h) := by
  intro n
  induction n with
  | zero => intros; exact v_none
  | succ n ih =>
    intro l1 x3 h
    rw [l_C_digest_45]
    refine v_iload_n 2 d_C_digest_45 rfl rfl ?_
    refine v_aload_n 0 d_C_digest_46 rfl rfl ?_
    refine v_getr 3 fl_C_19 o_0 rfl rfl d_C_digest_47 ?_
    refine v_geti fl_C_159 o_3 rfl d_C_digest_50 ?_
    refine v_icmp_ge 86 d_C_digest_53 (by decide) (fun c3 => ?_) (fun c3 => ?_)
    · refine v_iconst 0 d_C_digest_86 rfl ?_
      refine v_istore_n [(3, .int 0), (0, .ref (ad G 0)), (1, .long l1)] d_C_digest_87 rfl (by decide) rfl ?_
      exact v_sub [1, 2, 0] rfl (Vl_C_digest_88 G FUEL l1 0 h)
    · refine v_iconst 0 d_C_digest_56 rfl ?_
      refine v_istore [(4, .int 0), (0, .ref (ad G 0)), (1, .long l1), (3, .int x3)] d_C_digest_57 (by decide) rfl ?_
      exact v_sub [1, 2, 3, 0] rfl (Vl_C_digest_59 G (l_C_digest_45 n) ih FUEL l1 x3 0 h)
set_option maxHeartbeats 4000000 in
set_option maxRecDepth 20000 in
theorem Vl_C_digest_6 (G : Gt) : ∀ (n : Nat) (l1 : Int64) (x3 : Int32) (h : Hp), V G m_C_digest 6 [(0, .ref (ad G 0)), (1, .long l1), (3, .int x3)] [] h κl (l_C_digest_6 n l1 x3 h) := by
  intro n
  induction n with
  | zero => intros; exact v_none
  | succ n ih =>
    intro l1 x3 h
    rw [l_C_digest_6]
    refine v_iload_n 2 d_C_digest_6 rfl rfl ?_
    refine v_bipush 8 d_C_digest_7 rfl ?_
    refine v_icmp_ge 31 d_C_digest_9 (by decide) (fun c1 => ?_) (fun c1 => ?_)
    · refine v_ldc2 (v := 31) (mem_t 498 (by decide +kernel) rfl) d_C_digest_31 ?_
      refine v_lload_n 1 d_C_digest_34 rfl rfl ?_
      refine v_lmul d_C_digest_35 ?_
      refine v_aload_n 0 d_C_digest_36 rfl rfl ?_
      refine v_callVi (As := []) (rest := [.long (31 * l1)]) (c_C_fault G h) co_C_250 io_C_fault o_0 ⟨by decide, by decide⟩ rfl rfl (Nat.le_of_ble_eq_true rfl) d_C_digest_37 (fun r2 h2 _ => ?_)
      refine v_i2l d_C_digest_40 ?_
      refine v_ladd d_C_digest_41 ?_
      refine v_lstore_n [(1, .long ((31 * l1) + (Int32.toInt64 r2))), (0, .ref (ad G 0)), (3, .int x3)] d_C_digest_42 rfl (by decide) rfl ?_
      refine v_iconst 0 d_C_digest_43 rfl ?_
      refine v_istore_n [(3, .int 0), (1, .long ((31 * l1) + (Int32.toInt64 r2))), (0, .ref (ad G 0))] d_C_digest_44 rfl (by decide) rfl ?_
      exact v_sub [2, 1, 0] rfl (Vl_C_digest_45 G FUEL ((31 * l1) + (Int32.toInt64 r2)) 0 h2)
    · refine v_ldc2 (v := 31) (mem_t 498 (by decide +kernel) rfl) d_C_digest_12 ?_
      refine v_lload_n 1 d_C_digest_15 rfl rfl ?_
      refine v_lmul d_C_digest_16 ?_
      refine v_aload_n 0 d_C_digest_17 rfl rfl ?_
      refine v_iload_n 2 d_C_digest_18 rfl rfl ?_
      refine v_callVi (As := [.int x3]) (rest := [.long (31 * l1)]) (c_C_count G x3 h) co_C_247 io_C_count o_0 ⟨by decide, by decide⟩ rfl rfl (Nat.le_of_ble_eq_true rfl) d_C_digest_19 (fun r15 h15 _ => ?_)
      refine v_i2l d_C_digest_22 ?_
      refine v_ladd d_C_digest_23 ?_
      refine v_lstore_n [(1, .long ((31 * l1) + (Int32.toInt64 r15))), (0, .ref (ad G 0)), (3, .int x3)] d_C_digest_24 rfl (by decide) rfl ?_
      refine v_iinc (x3 + 1) 2 [(3, .int (x3 + 1)), (1, .long ((31 * l1) + (Int32.toInt64 r15))), (0, .ref (ad G 0))] d_C_digest_25 rfl rfl (by decide) rfl ?_
      refine v_goto 6 d_C_digest_28 (by decide) ?_
      exact v_sub [2, 1, 0] rfl (ih ((31 * l1) + (Int32.toInt64 r15)) (x3 + 1) h15)
set_option maxHeartbeats 4000000 in
set_option maxRecDepth 20000 in
theorem c_C_digest (G : Gt) (h : Hp) : Cn G m_C_digest [.ref (ad G 0)] h κl (f_C_digest h) := by
  refine entryV (by decide) (Nat.le_of_ble_eq_true rfl) rfl ?_
  show V G m_C_digest 0 [(0, .ref (ad G 0))] [] h κl _
  unfold f_C_digest
  refine v_ldc2 (v := 17) (mem_t 497 (by decide +kernel) rfl) d_C_digest_0 ?_
  refine v_lstore_n [(1, .long 17), (0, .ref (ad G 0))] d_C_digest_3 rfl (by decide) rfl ?_
  refine v_iconst 0 d_C_digest_4 rfl ?_
  refine v_istore_n [(3, .int 0), (1, .long 17), (0, .ref (ad G 0))] d_C_digest_5 rfl (by decide) rfl ?_
  exact v_sub [2, 1, 0] rfl (Vl_C_digest_6 G FUEL 17 0 h)
theorem d_M_in_0 : decode m_M_in.2.1 0 = .ok (.iload_n 0, 1) := by decide +kernel
theorem d_M_in_1 : decode m_M_in.2.1 1 = .ok (.iload_n 1, 1) := by decide +kernel
theorem d_M_in_2 : decode m_M_in.2.1 2 = .ok (.if_icmp .lt 12, 3) := by decide +kernel
theorem d_M_in_5 : decode m_M_in.2.1 5 = .ok (.iload_n 0, 1) := by decide +kernel
theorem d_M_in_6 : decode m_M_in.2.1 6 = .ok (.iload_n 2, 1) := by decide +kernel
theorem d_M_in_7 : decode m_M_in.2.1 7 = .ok (.if_icmp .gt 7, 3) := by decide +kernel
theorem d_M_in_10 : decode m_M_in.2.1 10 = .ok (.iconst 1, 1) := by decide +kernel
theorem d_M_in_11 : decode m_M_in.2.1 11 = .ok (.goto 4, 3) := by decide +kernel
theorem d_M_in_14 : decode m_M_in.2.1 14 = .ok (.iconst 0, 1) := by decide +kernel
theorem d_M_in_15 : decode m_M_in.2.1 15 = .ok (.ireturn, 1) := by decide +kernel
set_option maxHeartbeats 4000000 in
set_option maxRecDepth 20000 in
theorem c_M_in (G : Gt) (x0 : Int32) (x1 : Int32) (x2 : Int32) (h : Hp) : Cn G m_M_in [.int x0, .int x1, .int x2] h κi (f_M_in x0 x1 x2 h) := by
  refine entryV (by decide) (Nat.le_of_ble_eq_true rfl) rfl ?_
  show V G m_M_in 0 [(0, .int x0), (1, .int x1), (2, .int x2)] [] h κi _
  unfold f_M_in
  refine v_iload_n 0 d_M_in_0 rfl rfl ?_
  refine v_iload_n 1 d_M_in_1 rfl rfl ?_
  refine v_icmp_lt 14 d_M_in_2 (by decide) (fun c1 => ?_) (fun c1 => ?_)
  · refine v_iconst 0 d_M_in_14 rfl ?_
    exact v_zretL rfl rfl d_M_in_15
  · refine v_iload_n 0 d_M_in_5 rfl rfl ?_
    refine v_iload_n 2 d_M_in_6 rfl rfl ?_
    refine v_icmp_gt 14 d_M_in_7 (by decide) (fun c2 => ?_) (fun c2 => ?_)
    · refine v_iconst 0 d_M_in_14 rfl ?_
      exact v_zretL rfl rfl d_M_in_15
    · refine v_iconst 1 d_M_in_10 rfl ?_
      refine v_goto 15 d_M_in_11 (by decide) ?_
      exact v_zretL rfl rfl d_M_in_15
theorem d_M_type_0 : decode m_M_type.2.1 0 = .ok (.iload_n 1, 1) := by decide +kernel
theorem d_M_type_1 : decode m_M_type.2.1 1 = .ok (.iconst 0, 1) := by decide +kernel
theorem d_M_type_2 : decode m_M_type.2.1 2 = .ok (.sipush 255, 3) := by decide +kernel
theorem d_M_type_5 : decode m_M_type.2.1 5 = .ok (.invokestatic 60, 3) := by decide +kernel
theorem d_M_type_8 : decode m_M_type.2.1 8 = .ok (.ifCond .ne 6, 3) := by decide +kernel
theorem d_M_type_11 : decode m_M_type.2.1 11 = .ok (.bipush (-2), 2) := by decide +kernel
theorem d_M_type_13 : decode m_M_type.2.1 13 = .ok (.ireturn, 1) := by decide +kernel
theorem d_M_type_14 : decode m_M_type.2.1 14 = .ok (.aload_n 0, 1) := by decide +kernel
theorem d_M_type_15 : decode m_M_type.2.1 15 = .ok (.getfield 64, 3) := by decide +kernel
theorem d_M_type_18 : decode m_M_type.2.1 18 = .ok (.bipush 40, 2) := by decide +kernel
theorem d_M_type_20 : decode m_M_type.2.1 20 = .ok (.if_icmp .ne 6, 3) := by decide +kernel
theorem d_M_type_23 : decode m_M_type.2.1 23 = .ok (.bipush (-4), 2) := by decide +kernel
theorem d_M_type_25 : decode m_M_type.2.1 25 = .ok (.ireturn, 1) := by decide +kernel
theorem d_M_type_26 : decode m_M_type.2.1 26 = .ok (.aload_n 0, 1) := by decide +kernel
theorem d_M_type_27 : decode m_M_type.2.1 27 = .ok (.getfield 7, 3) := by decide +kernel
theorem d_M_type_30 : decode m_M_type.2.1 30 = .ok (.aload_n 0, 1) := by decide +kernel
theorem d_M_type_31 : decode m_M_type.2.1 31 = .ok (.getfield 64, 3) := by decide +kernel
theorem d_M_type_34 : decode m_M_type.2.1 34 = .ok (.iload_n 1, 1) := by decide +kernel
theorem d_M_type_35 : decode m_M_type.2.1 35 = .ok (.iastore, 1) := by decide +kernel
theorem d_M_type_36 : decode m_M_type.2.1 36 = .ok (.aload_n 0, 1) := by decide +kernel
theorem d_M_type_37 : decode m_M_type.2.1 37 = .ok (.dup, 1) := by decide +kernel
theorem d_M_type_38 : decode m_M_type.2.1 38 = .ok (.getfield 64, 3) := by decide +kernel
theorem d_M_type_41 : decode m_M_type.2.1 41 = .ok (.iconst 1, 1) := by decide +kernel
theorem d_M_type_42 : decode m_M_type.2.1 42 = .ok (.iadd, 1) := by decide +kernel
theorem d_M_type_43 : decode m_M_type.2.1 43 = .ok (.putfield 64, 3) := by decide +kernel
theorem d_M_type_46 : decode m_M_type.2.1 46 = .ok (.aload_n 0, 1) := by decide +kernel
theorem d_M_type_47 : decode m_M_type.2.1 47 = .ok (.getfield 64, 3) := by decide +kernel
theorem d_M_type_50 : decode m_M_type.2.1 50 = .ok (.ireturn, 1) := by decide +kernel
set_option maxHeartbeats 4000000 in
set_option maxRecDepth 20000 in
theorem c_M_type (G : Gt) (x1 : Int32) (h : Hp) : Cn G m_M_type [.ref (ad G 31), .int x1] h κi (f_M_type x1 h) := by
  refine entryV (by decide) (Nat.le_of_ble_eq_true rfl) rfl ?_
  show V G m_M_type 0 [(0, .ref (ad G 31)), (1, .int x1)] [] h κi _
  unfold f_M_type
  refine v_iload_n 1 d_M_type_0 rfl rfl ?_
  refine v_iconst 0 d_M_type_1 rfl ?_
  refine v_sipush 255 d_M_type_2 rfl ?_
  refine v_callSi (As := [.int x1, .int 0, .int 255]) (rest := []) (c_M_in G x1 0 255 h) co_M_60 so_M_in ⟨by decide, by decide⟩ rfl rfl (Nat.le_of_ble_eq_true rfl) d_M_type_5 (fun r1 h1 _ => ?_)
  refine v_if_ne 14 d_M_type_8 (by decide) (fun c2 => ?_) (fun c2 => ?_)
  · refine v_bipush (-2) d_M_type_11 rfl ?_
    exact v_iret rfl d_M_type_13
  · refine v_aload_n 0 d_M_type_14 rfl rfl ?_
    refine v_geti fl_M_64 o_31 rfl d_M_type_15 ?_
    refine v_bipush 40 d_M_type_18 rfl ?_
    refine v_icmp_ne 26 d_M_type_20 (by decide) (fun c3 => ?_) (fun c3 => ?_)
    · refine v_bipush (-4) d_M_type_23 rfl ?_
      exact v_iret rfl d_M_type_25
    · refine v_aload_n 0 d_M_type_26 rfl rfl ?_
      refine v_getr 32 fl_M_7 o_31 rfl rfl d_M_type_27 ?_
      refine v_aload_n 0 d_M_type_30 rfl rfl ?_
      refine v_geti fl_M_64 o_31 rfl d_M_type_31 ?_
      refine v_iload_n 1 d_M_type_34 rfl rfl ?_
      refine v_iast ar_32 d_M_type_35 ?_
      refine v_aload_n 0 d_M_type_36 rfl rfl ?_
      refine v_dup d_M_type_37 rfl ?_
      refine v_geti fl_M_64 o_31 rfl d_M_type_38 ?_
      refine v_iconst 1 d_M_type_41 rfl ?_
      refine v_iadd d_M_type_42 ?_
      refine v_puti fl_M_64 ft_6_1 rfl rfl o_31 rfl d_M_type_43 ?_
      refine v_aload_n 0 d_M_type_46 rfl rfl ?_
      refine v_geti fl_M_64 o_31 rfl d_M_type_47 ?_
      exact v_iret rfl d_M_type_50
theorem d_M_wipe_0 : decode m_M_wipe.2.1 0 = .ok (.aload_n 0, 1) := by decide +kernel
theorem d_M_wipe_1 : decode m_M_wipe.2.1 1 = .ok (.getfield 64, 3) := by decide +kernel
theorem d_M_wipe_4 : decode m_M_wipe.2.1 4 = .ok (.istore_n 1, 1) := by decide +kernel
theorem d_M_wipe_5 : decode m_M_wipe.2.1 5 = .ok (.aload_n 0, 1) := by decide +kernel
theorem d_M_wipe_6 : decode m_M_wipe.2.1 6 = .ok (.iconst 0, 1) := by decide +kernel
theorem d_M_wipe_7 : decode m_M_wipe.2.1 7 = .ok (.putfield 64, 3) := by decide +kernel
theorem d_M_wipe_10 : decode m_M_wipe.2.1 10 = .ok (.iload_n 1, 1) := by decide +kernel
theorem d_M_wipe_11 : decode m_M_wipe.2.1 11 = .ok (.ireturn, 1) := by decide +kernel
set_option maxHeartbeats 4000000 in
set_option maxRecDepth 20000 in
theorem c_M_wipe (G : Gt) (h : Hp) : Cn G m_M_wipe [.ref (ad G 31)] h κi (f_M_wipe h) := by
  refine entryV (by decide) (Nat.le_of_ble_eq_true rfl) rfl ?_
  show V G m_M_wipe 0 [(0, .ref (ad G 31))] [] h κi _
  unfold f_M_wipe
  refine v_aload_n 0 d_M_wipe_0 rfl rfl ?_
  refine v_geti fl_M_64 o_31 rfl d_M_wipe_1 ?_
  refine v_istore_n [(1, .int (h 31 1)), (0, .ref (ad G 31))] d_M_wipe_4 rfl (by decide) rfl ?_
  refine v_aload_n 1 d_M_wipe_5 rfl rfl ?_
  refine v_iconst 0 d_M_wipe_6 rfl ?_
  refine v_puti fl_M_64 ft_6_1 rfl rfl o_31 rfl d_M_wipe_7 ?_
  refine v_iload_n 0 d_M_wipe_10 rfl rfl ?_
  exact v_iret rfl d_M_wipe_11
theorem d_M_undo_0 : decode m_M_undo.2.1 0 = .ok (.aload_n 0, 1) := by decide +kernel
theorem d_M_undo_1 : decode m_M_undo.2.1 1 = .ok (.getfield 64, 3) := by decide +kernel
theorem d_M_undo_4 : decode m_M_undo.2.1 4 = .ok (.ifCond .ne 6, 3) := by decide +kernel
theorem d_M_undo_7 : decode m_M_undo.2.1 7 = .ok (.bipush (-3), 2) := by decide +kernel
theorem d_M_undo_9 : decode m_M_undo.2.1 9 = .ok (.ireturn, 1) := by decide +kernel
theorem d_M_undo_10 : decode m_M_undo.2.1 10 = .ok (.aload_n 0, 1) := by decide +kernel
theorem d_M_undo_11 : decode m_M_undo.2.1 11 = .ok (.dup, 1) := by decide +kernel
theorem d_M_undo_12 : decode m_M_undo.2.1 12 = .ok (.getfield 64, 3) := by decide +kernel
theorem d_M_undo_15 : decode m_M_undo.2.1 15 = .ok (.iconst 1, 1) := by decide +kernel
theorem d_M_undo_16 : decode m_M_undo.2.1 16 = .ok (.isub, 1) := by decide +kernel
theorem d_M_undo_17 : decode m_M_undo.2.1 17 = .ok (.putfield 64, 3) := by decide +kernel
theorem d_M_undo_20 : decode m_M_undo.2.1 20 = .ok (.aload_n 0, 1) := by decide +kernel
theorem d_M_undo_21 : decode m_M_undo.2.1 21 = .ok (.getfield 64, 3) := by decide +kernel
theorem d_M_undo_24 : decode m_M_undo.2.1 24 = .ok (.ireturn, 1) := by decide +kernel
set_option maxHeartbeats 4000000 in
set_option maxRecDepth 20000 in
theorem c_M_undo (G : Gt) (h : Hp) : Cn G m_M_undo [.ref (ad G 31)] h κi (f_M_undo h) := by
  refine entryV (by decide) (Nat.le_of_ble_eq_true rfl) rfl ?_
  show V G m_M_undo 0 [(0, .ref (ad G 31))] [] h κi _
  unfold f_M_undo
  refine v_aload_n 0 d_M_undo_0 rfl rfl ?_
  refine v_geti fl_M_64 o_31 rfl d_M_undo_1 ?_
  refine v_if_ne 10 d_M_undo_4 (by decide) (fun c1 => ?_) (fun c1 => ?_)
  · refine v_bipush (-3) d_M_undo_7 rfl ?_
    exact v_iret rfl d_M_undo_9
  · refine v_aload_n 0 d_M_undo_10 rfl rfl ?_
    refine v_dup d_M_undo_11 rfl ?_
    refine v_geti fl_M_64 o_31 rfl d_M_undo_12 ?_
    refine v_iconst 1 d_M_undo_15 rfl ?_
    refine v_isub d_M_undo_16 ?_
    refine v_puti fl_M_64 ft_6_1 rfl rfl o_31 rfl d_M_undo_17 ?_
    refine v_aload_n 0 d_M_undo_20 rfl rfl ?_
    refine v_geti fl_M_64 o_31 rfl d_M_undo_21 ?_
    exact v_iret rfl d_M_undo_24
theorem d_M_figureAt_0 : decode m_M_figureAt.2.1 0 = .ok (.iload_n 1, 1) := by decide +kernel
theorem d_M_figureAt_1 : decode m_M_figureAt.2.1 1 = .ok (.aload_n 0, 1) := by decide +kernel
theorem d_M_figureAt_2 : decode m_M_figureAt.2.1 2 = .ok (.getfield 64, 3) := by decide +kernel
theorem d_M_figureAt_5 : decode m_M_figureAt.2.1 5 = .ok (.if_icmp .ge 15, 3) := by decide +kernel
theorem d_M_figureAt_8 : decode m_M_figureAt.2.1 8 = .ok (.aload_n 0, 1) := by decide +kernel
theorem d_M_figureAt_9 : decode m_M_figureAt.2.1 9 = .ok (.getfield 7, 3) := by decide +kernel
theorem d_M_figureAt_12 : decode m_M_figureAt.2.1 12 = .ok (.iload_n 1, 1) := by decide +kernel
theorem d_M_figureAt_13 : decode m_M_figureAt.2.1 13 = .ok (.iaload, 1) := by decide +kernel
theorem d_M_figureAt_14 : decode m_M_figureAt.2.1 14 = .ok (.bipush 48, 2) := by decide +kernel
theorem d_M_figureAt_16 : decode m_M_figureAt.2.1 16 = .ok (.isub, 1) := by decide +kernel
theorem d_M_figureAt_17 : decode m_M_figureAt.2.1 17 = .ok (.goto 4, 3) := by decide +kernel
theorem d_M_figureAt_20 : decode m_M_figureAt.2.1 20 = .ok (.iconst (-1), 1) := by decide +kernel
theorem d_M_figureAt_21 : decode m_M_figureAt.2.1 21 = .ok (.istore_n 2, 1) := by decide +kernel
theorem d_M_figureAt_22 : decode m_M_figureAt.2.1 22 = .ok (.iload_n 2, 1) := by decide +kernel
theorem d_M_figureAt_23 : decode m_M_figureAt.2.1 23 = .ok (.iconst 0, 1) := by decide +kernel
theorem d_M_figureAt_24 : decode m_M_figureAt.2.1 24 = .ok (.bipush 9, 2) := by decide +kernel
theorem d_M_figureAt_26 : decode m_M_figureAt.2.1 26 = .ok (.invokestatic 60, 3) := by decide +kernel
theorem d_M_figureAt_29 : decode m_M_figureAt.2.1 29 = .ok (.ifCond .eq 7, 3) := by decide +kernel
theorem d_M_figureAt_32 : decode m_M_figureAt.2.1 32 = .ok (.iload_n 2, 1) := by decide +kernel
theorem d_M_figureAt_33 : decode m_M_figureAt.2.1 33 = .ok (.goto 4, 3) := by decide +kernel
theorem d_M_figureAt_36 : decode m_M_figureAt.2.1 36 = .ok (.iconst (-1), 1) := by decide +kernel
theorem d_M_figureAt_37 : decode m_M_figureAt.2.1 37 = .ok (.ireturn, 1) := by decide +kernel
set_option maxHeartbeats 4000000 in
set_option maxRecDepth 20000 in
theorem c_M_figureAt (G : Gt) (x1 : Int32) (h : Hp) : Cn G m_M_figureAt [.ref (ad G 31), .int x1] h κi (f_M_figureAt x1 h) := by
  refine entryV (by decide) (Nat.le_of_ble_eq_true rfl) rfl ?_
  show V G m_M_figureAt 0 [(0, .ref (ad G 31)), (1, .int x1)] [] h κi _
  unfold f_M_figureAt
  refine v_iload_n 1 d_M_figureAt_0 rfl rfl ?_
  refine v_aload_n 0 d_M_figureAt_1 rfl rfl ?_
  refine v_geti fl_M_64 o_31 rfl d_M_figureAt_2 ?_
  refine v_icmp_ge 20 d_M_figureAt_5 (by decide) (fun c1 => ?_) (fun c1 => ?_)
  · refine v_iconst (-1) d_M_figureAt_20 rfl ?_
    refine v_istore_n [(2, .int (-1)), (0, .ref (ad G 31)), (1, .int x1)] d_M_figureAt_21 rfl (by decide) rfl ?_
    refine v_iload_n 0 d_M_figureAt_22 rfl rfl ?_
    refine v_iconst 0 d_M_figureAt_23 rfl ?_
    refine v_bipush 9 d_M_figureAt_24 rfl ?_
    refine v_callSi (As := [.int (-1), .int 0, .int 9]) (rest := []) (c_M_in G (-1) 0 9 h) co_M_60 so_M_in ⟨by decide, by decide⟩ rfl rfl (Nat.le_of_ble_eq_true rfl) d_M_figureAt_26 (fun r2 h2 _ => ?_)
    refine v_if_eq 36 d_M_figureAt_29 (by decide) (fun c3 => ?_) (fun c3 => ?_)
    · refine v_iconst (-1) d_M_figureAt_36 rfl ?_
      exact v_iret rfl d_M_figureAt_37
    · refine v_iload_n 0 d_M_figureAt_32 rfl rfl ?_
      refine v_goto 37 d_M_figureAt_33 (by decide) ?_
      exact v_iret rfl d_M_figureAt_37
  · refine v_aload_n 0 d_M_figureAt_8 rfl rfl ?_
    refine v_getr 32 fl_M_7 o_31 rfl rfl d_M_figureAt_9 ?_
    refine v_iload_n 1 d_M_figureAt_12 rfl rfl ?_
    refine v_iald ar_32 d_M_figureAt_13 ?_
    refine v_bipush 48 d_M_figureAt_14 rfl ?_
    refine v_isub d_M_figureAt_16 ?_
    refine v_goto 21 d_M_figureAt_17 (by decide) ?_
    refine v_istore_n [(2, .int ((h 32 (ix x1)) - 48)), (0, .ref (ad G 31)), (1, .int x1)] d_M_figureAt_21 rfl (by decide) rfl ?_
    refine v_iload_n 0 d_M_figureAt_22 rfl rfl ?_
    refine v_iconst 0 d_M_figureAt_23 rfl ?_
    refine v_bipush 9 d_M_figureAt_24 rfl ?_
    refine v_callSi (As := [.int ((h 32 (ix x1)) - 48), .int 0, .int 9]) (rest := []) (c_M_in G ((h 32 (ix x1)) - 48) 0 9 h) co_M_60 so_M_in ⟨by decide, by decide⟩ rfl rfl (Nat.le_of_ble_eq_true rfl) d_M_figureAt_26 (fun r4 h4 _ => ?_)
    refine v_if_eq 36 d_M_figureAt_29 (by decide) (fun c5 => ?_) (fun c5 => ?_)
    · refine v_iconst (-1) d_M_figureAt_36 rfl ?_
      exact v_iret rfl d_M_figureAt_37
    · refine v_iload_n 0 d_M_figureAt_32 rfl rfl ?_
      refine v_goto 37 d_M_figureAt_33 (by decide) ?_
      exact v_iret rfl d_M_figureAt_37
theorem d_M_isTaken_0 : decode m_M_isTaken.2.1 0 = .ok (.iconst 0, 1) := by decide +kernel
theorem d_M_isTaken_1 : decode m_M_isTaken.2.1 1 = .ok (.istore 4, 2) := by decide +kernel
theorem d_M_isTaken_3 : decode m_M_isTaken.2.1 3 = .ok (.iconst 0, 1) := by decide +kernel
theorem d_M_isTaken_4 : decode m_M_isTaken.2.1 4 = .ok (.istore 5, 2) := by decide +kernel
theorem d_M_isTaken_6 : decode m_M_isTaken.2.1 6 = .ok (.iload 5, 2) := by decide +kernel
theorem d_M_isTaken_8 : decode m_M_isTaken.2.1 8 = .ok (.iload_n 3, 1) := by decide +kernel
theorem d_M_isTaken_9 : decode m_M_isTaken.2.1 9 = .ok (.if_icmp .ge 43, 3) := by decide +kernel
theorem d_M_isTaken_12 : decode m_M_isTaken.2.1 12 = .ok (.iload 4, 2) := by decide +kernel
theorem d_M_isTaken_14 : decode m_M_isTaken.2.1 14 = .ok (.ifCond .ne 25, 3) := by decide +kernel
theorem d_M_isTaken_17 : decode m_M_isTaken.2.1 17 = .ok (.aload_n 0, 1) := by decide +kernel
theorem d_M_isTaken_18 : decode m_M_isTaken.2.1 18 = .ok (.getfield 13, 3) := by decide +kernel
theorem d_M_isTaken_21 : decode m_M_isTaken.2.1 21 = .ok (.iload 5, 2) := by decide +kernel
theorem d_M_isTaken_23 : decode m_M_isTaken.2.1 23 = .ok (.iaload, 1) := by decide +kernel
theorem d_M_isTaken_24 : decode m_M_isTaken.2.1 24 = .ok (.iload_n 1, 1) := by decide +kernel
theorem d_M_isTaken_25 : decode m_M_isTaken.2.1 25 = .ok (.if_icmp .ne 18, 3) := by decide +kernel
theorem d_M_isTaken_28 : decode m_M_isTaken.2.1 28 = .ok (.aload_n 0, 1) := by decide +kernel
theorem d_M_isTaken_29 : decode m_M_isTaken.2.1 29 = .ok (.getfield 16, 3) := by decide +kernel
theorem d_M_isTaken_32 : decode m_M_isTaken.2.1 32 = .ok (.iload 5, 2) := by decide +kernel
theorem d_M_isTaken_34 : decode m_M_isTaken.2.1 34 = .ok (.iaload, 1) := by decide +kernel
theorem d_M_isTaken_35 : decode m_M_isTaken.2.1 35 = .ok (.iload_n 2, 1) := by decide +kernel
theorem d_M_isTaken_36 : decode m_M_isTaken.2.1 36 = .ok (.if_icmp .ne 7, 3) := by decide +kernel
theorem d_M_isTaken_39 : decode m_M_isTaken.2.1 39 = .ok (.iconst 1, 1) := by decide +kernel
theorem d_M_isTaken_40 : decode m_M_isTaken.2.1 40 = .ok (.goto 4, 3) := by decide +kernel
theorem d_M_isTaken_43 : decode m_M_isTaken.2.1 43 = .ok (.iconst 0, 1) := by decide +kernel
theorem d_M_isTaken_44 : decode m_M_isTaken.2.1 44 = .ok (.istore 4, 2) := by decide +kernel
theorem d_M_isTaken_46 : decode m_M_isTaken.2.1 46 = .ok (.iinc 5 1, 3) := by decide +kernel
theorem d_M_isTaken_49 : decode m_M_isTaken.2.1 49 = .ok (.goto (-43), 3) := by decide +kernel
theorem d_M_isTaken_52 : decode m_M_isTaken.2.1 52 = .ok (.iload 4, 2) := by decide +kernel
theorem d_M_isTaken_54 : decode m_M_isTaken.2.1 54 = .ok (.ireturn, 1) := by decide +kernel
set_option maxHeartbeats 4000000 in
set_option maxRecDepth 20000 in
theorem Vl_M_isTaken_6 (G : Gt) : ∀ (n : Nat) (x1 : Int32) (x2 : Int32) (x3 : Int32) (x4 : Int32) (x5 : Int32) (h : Hp), V G m_M_isTaken 6 [(0, .ref (ad G 31)), (1, .int x1), (2, .int x2), (3, .int x3), (4, .int x4), (5, .int x5)] [] h κi (l_M_isTaken_6 n x1 x2 x3 x4 x5 h) := by
  intro n
  induction n with
  | zero => intros; exact v_none
  | succ n ih =>
    intro x1 x2 x3 x4 x5 h
    rw [l_M_isTaken_6]
    refine v_iload 5 d_M_isTaken_6 rfl ?_
    refine v_iload_n 3 d_M_isTaken_8 rfl rfl ?_
    refine v_icmp_ge 52 d_M_isTaken_9 (by decide) (fun c1 => ?_) (fun c1 => ?_)
    · refine v_iload 4 d_M_isTaken_52 rfl ?_
      exact v_zret rfl d_M_isTaken_54
    · refine v_iload 4 d_M_isTaken_12 rfl ?_
      refine v_if_ne 39 d_M_isTaken_14 (by decide) (fun c2 => ?_) (fun c2 => ?_)
      · refine v_aload_n 0 d_M_isTaken_17 rfl rfl ?_
        refine v_getr 33 fl_M_13 o_31 rfl rfl d_M_isTaken_18 ?_
        refine v_iload 5 d_M_isTaken_21 rfl ?_
        refine v_iald ar_33 d_M_isTaken_23 ?_
        refine v_iload_n 1 d_M_isTaken_24 rfl rfl ?_
        refine v_icmp_ne 43 d_M_isTaken_25 (by decide) (fun c3 => ?_) (fun c3 => ?_)
        · refine v_aload_n 0 d_M_isTaken_28 rfl rfl ?_
          refine v_getr 34 fl_M_16 o_31 rfl rfl d_M_isTaken_29 ?_
          refine v_iload 5 d_M_isTaken_32 rfl ?_
          refine v_iald ar_34 d_M_isTaken_34 ?_
          refine v_iload_n 2 d_M_isTaken_35 rfl rfl ?_
          refine v_icmp_ne 43 d_M_isTaken_36 (by decide) (fun c4 => ?_) (fun c4 => ?_)
          · refine v_iconst 1 d_M_isTaken_39 rfl ?_
            refine v_goto 44 d_M_isTaken_40 (by decide) ?_
            refine v_istore [(4, .int 1), (0, .ref (ad G 31)), (1, .int x1), (2, .int x2), (3, .int x3), (5, .int x5)] d_M_isTaken_44 (by decide) rfl ?_
            refine v_iinc (x5 + 1) 5 [(5, .int (x5 + 1)), (4, .int 1), (0, .ref (ad G 31)), (1, .int x1), (2, .int x2), (3, .int x3)] d_M_isTaken_46 rfl rfl (by decide) rfl ?_
            refine v_goto 6 d_M_isTaken_49 (by decide) ?_
            exact v_sub [2, 3, 4, 5, 1, 0] rfl (ih x1 x2 x3 1 (x5 + 1) h)
          · refine v_iconst 0 d_M_isTaken_43 rfl ?_
            refine v_istore [(4, .int 0), (0, .ref (ad G 31)), (1, .int x1), (2, .int x2), (3, .int x3), (5, .int x5)] d_M_isTaken_44 (by decide) rfl ?_
            refine v_iinc (x5 + 1) 5 [(5, .int (x5 + 1)), (4, .int 0), (0, .ref (ad G 31)), (1, .int x1), (2, .int x2), (3, .int x3)] d_M_isTaken_46 rfl rfl (by decide) rfl ?_
            refine v_goto 6 d_M_isTaken_49 (by decide) ?_
            exact v_sub [2, 3, 4, 5, 1, 0] rfl (ih x1 x2 x3 0 (x5 + 1) h)
        · refine v_iconst 0 d_M_isTaken_43 rfl ?_
          refine v_istore [(4, .int 0), (0, .ref (ad G 31)), (1, .int x1), (2, .int x2), (3, .int x3), (5, .int x5)] d_M_isTaken_44 (by decide) rfl ?_
          refine v_iinc (x5 + 1) 5 [(5, .int (x5 + 1)), (4, .int 0), (0, .ref (ad G 31)), (1, .int x1), (2, .int x2), (3, .int x3)] d_M_isTaken_46 rfl rfl (by decide) rfl ?_
          refine v_goto 6 d_M_isTaken_49 (by decide) ?_
          exact v_sub [2, 3, 4, 5, 1, 0] rfl (ih x1 x2 x3 0 (x5 + 1) h)
      · refine v_iconst 1 d_M_isTaken_39 rfl ?_
        refine v_goto 44 d_M_isTaken_40 (by decide) ?_
        refine v_istore [(4, .int 1), (0, .ref (ad G 31)), (1, .int x1), (2, .int x2), (3, .int x3), (5, .int x5)] d_M_isTaken_44 (by decide) rfl ?_
        refine v_iinc (x5 + 1) 5 [(5, .int (x5 + 1)), (4, .int 1), (0, .ref (ad G 31)), (1, .int x1), (2, .int x2), (3, .int x3)] d_M_isTaken_46 rfl rfl (by decide) rfl ?_
        refine v_goto 6 d_M_isTaken_49 (by decide) ?_
        exact v_sub [2, 3, 4, 5, 1, 0] rfl (ih x1 x2 x3 1 (x5 + 1) h)
set_option maxHeartbeats 4000000 in
set_option maxRecDepth 20000 in
theorem c_M_isTaken (G : Gt) (x1 : Int32) (x2 : Int32) (x3 : Int32) (h : Hp) : Cn G m_M_isTaken [.ref (ad G 31), .int x1, .int x2, .int x3] h κi (f_M_isTaken x1 x2 x3 h) := by
  refine entryV (by decide) (Nat.le_of_ble_eq_true rfl) rfl ?_
  show V G m_M_isTaken 0 [(0, .ref (ad G 31)), (1, .int x1), (2, .int x2), (3, .int x3)] [] h κi _
  unfold f_M_isTaken
  refine v_iconst 0 d_M_isTaken_0 rfl ?_
  refine v_istore [(4, .int 0), (0, .ref (ad G 31)), (1, .int x1), (2, .int x2), (3, .int x3)] d_M_isTaken_1 (by decide) rfl ?_
  refine v_iconst 0 d_M_isTaken_3 rfl ?_
  refine v_istore [(5, .int 0), (4, .int 0), (0, .ref (ad G 31)), (1, .int x1), (2, .int x2), (3, .int x3)] d_M_isTaken_4 (by decide) rfl ?_
  exact v_sub [2, 3, 4, 5, 1, 0] rfl (Vl_M_isTaken_6 G FUEL x1 x2 x3 0 0 h)
theorem d_M_faultNow_0 : decode m_M_faultNow.2.1 0 = .ok (.aload_n 0, 1) := by decide +kernel
theorem d_M_faultNow_1 : decode m_M_faultNow.2.1 1 = .ok (.iconst 0, 1) := by decide +kernel
theorem d_M_faultNow_2 : decode m_M_faultNow.2.1 2 = .ok (.putfield 67, 3) := by decide +kernel
theorem d_M_faultNow_5 : decode m_M_faultNow.2.1 5 = .ok (.iconst 0, 1) := by decide +kernel
theorem d_M_faultNow_6 : decode m_M_faultNow.2.1 6 = .ok (.istore_n 1, 1) := by decide +kernel
theorem d_M_faultNow_7 : decode m_M_faultNow.2.1 7 = .ok (.iconst 0, 1) := by decide +kernel
theorem d_M_faultNow_8 : decode m_M_faultNow.2.1 8 = .ok (.istore_n 2, 1) := by decide +kernel
theorem d_M_faultNow_9 : decode m_M_faultNow.2.1 9 = .ok (.iload_n 2, 1) := by decide +kernel
theorem d_M_faultNow_10 : decode m_M_faultNow.2.1 10 = .ok (.aload_n 0, 1) := by decide +kernel
theorem d_M_faultNow_11 : decode m_M_faultNow.2.1 11 = .ok (.getfield 64, 3) := by decide +kernel
theorem d_M_faultNow_14 : decode m_M_faultNow.2.1 14 = .ok (.if_icmp .lt 7, 3) := by decide +kernel
theorem d_M_faultNow_17 : decode m_M_faultNow.2.1 17 = .ok (.iload_n 2, 1) := by decide +kernel
theorem d_M_faultNow_18 : decode m_M_faultNow.2.1 18 = .ok (.ifCond .le 107, 3) := by decide +kernel
theorem d_M_faultNow_21 : decode m_M_faultNow.2.1 21 = .ok (.aload_n 0, 1) := by decide +kernel
theorem d_M_faultNow_22 : decode m_M_faultNow.2.1 22 = .ok (.iload_n 2, 1) := by decide +kernel
theorem d_M_faultNow_23 : decode m_M_faultNow.2.1 23 = .ok (.invokevirtual 70, 3) := by decide +kernel
theorem d_M_faultNow_26 : decode m_M_faultNow.2.1 26 = .ok (.istore_n 3, 1) := by decide +kernel
theorem d_M_faultNow_27 : decode m_M_faultNow.2.1 27 = .ok (.aload_n 0, 1) := by decide +kernel
theorem d_M_faultNow_28 : decode m_M_faultNow.2.1 28 = .ok (.iload_n 2, 1) := by decide +kernel
theorem d_M_faultNow_29 : decode m_M_faultNow.2.1 29 = .ok (.iconst 1, 1) := by decide +kernel
theorem d_M_faultNow_30 : decode m_M_faultNow.2.1 30 = .ok (.iadd, 1) := by decide +kernel
theorem d_M_faultNow_31 : decode m_M_faultNow.2.1 31 = .ok (.invokevirtual 70, 3) := by decide +kernel
theorem d_M_faultNow_34 : decode m_M_faultNow.2.1 34 = .ok (.istore 4, 2) := by decide +kernel
theorem d_M_faultNow_36 : decode m_M_faultNow.2.1 36 = .ok (.iload_n 1, 1) := by decide +kernel
theorem d_M_faultNow_37 : decode m_M_faultNow.2.1 37 = .ok (.bipush 10, 2) := by decide +kernel
theorem d_M_faultNow_39 : decode m_M_faultNow.2.1 39 = .ok (.if_icmp .eq 8, 3) := by decide +kernel
theorem d_M_faultNow_42 : decode m_M_faultNow.2.1 42 = .ok (.iload_n 3, 1) := by decide +kernel
theorem d_M_faultNow_43 : decode m_M_faultNow.2.1 43 = .ok (.iconst (-1), 1) := by decide +kernel
theorem d_M_faultNow_44 : decode m_M_faultNow.2.1 44 = .ok (.if_icmp .ne 5, 3) := by decide +kernel
theorem d_M_faultNow_47 : decode m_M_faultNow.2.1 47 = .ok (.iload_n 2, 1) := by decide +kernel
theorem d_M_faultNow_48 : decode m_M_faultNow.2.1 48 = .ok (.ireturn, 1) := by decide +kernel
theorem d_M_faultNow_49 : decode m_M_faultNow.2.1 49 = .ok (.iload 4, 2) := by decide +kernel
theorem d_M_faultNow_51 : decode m_M_faultNow.2.1 51 = .ok (.iconst (-1), 1) := by decide +kernel
theorem d_M_faultNow_52 : decode m_M_faultNow.2.1 52 = .ok (.if_icmp .eq 14, 3) := by decide +kernel
theorem d_M_faultNow_55 : decode m_M_faultNow.2.1 55 = .ok (.aload_n 0, 1) := by decide +kernel
theorem d_M_faultNow_56 : decode m_M_faultNow.2.1 56 = .ok (.iload_n 3, 1) := by decide +kernel
theorem d_M_faultNow_57 : decode m_M_faultNow.2.1 57 = .ok (.iload 4, 2) := by decide +kernel
theorem d_M_faultNow_59 : decode m_M_faultNow.2.1 59 = .ok (.iload_n 1, 1) := by decide +kernel
theorem d_M_faultNow_60 : decode m_M_faultNow.2.1 60 = .ok (.invokevirtual 74, 3) := by decide +kernel
theorem d_M_faultNow_63 : decode m_M_faultNow.2.1 63 = .ok (.ifCond .eq 7, 3) := by decide +kernel
theorem d_M_faultNow_66 : decode m_M_faultNow.2.1 66 = .ok (.iload_n 2, 1) := by decide +kernel
theorem d_M_faultNow_67 : decode m_M_faultNow.2.1 67 = .ok (.iconst 1, 1) := by decide +kernel
theorem d_M_faultNow_68 : decode m_M_faultNow.2.1 68 = .ok (.iadd, 1) := by decide +kernel
theorem d_M_faultNow_69 : decode m_M_faultNow.2.1 69 = .ok (.ireturn, 1) := by decide +kernel
theorem d_M_faultNow_70 : decode m_M_faultNow.2.1 70 = .ok (.aload_n 0, 1) := by decide +kernel
theorem d_M_faultNow_71 : decode m_M_faultNow.2.1 71 = .ok (.getfield 13, 3) := by decide +kernel
theorem d_M_faultNow_74 : decode m_M_faultNow.2.1 74 = .ok (.iload_n 1, 1) := by decide +kernel
theorem d_M_faultNow_75 : decode m_M_faultNow.2.1 75 = .ok (.iload_n 3, 1) := by decide +kernel
theorem d_M_faultNow_76 : decode m_M_faultNow.2.1 76 = .ok (.iastore, 1) := by decide +kernel
theorem d_M_faultNow_77 : decode m_M_faultNow.2.1 77 = .ok (.aload_n 0, 1) := by decide +kernel
theorem d_M_faultNow_78 : decode m_M_faultNow.2.1 78 = .ok (.getfield 16, 3) := by decide +kernel
theorem d_M_faultNow_81 : decode m_M_faultNow.2.1 81 = .ok (.iload_n 1, 1) := by decide +kernel
theorem d_M_faultNow_82 : decode m_M_faultNow.2.1 82 = .ok (.iload 4, 2) := by decide +kernel
theorem d_M_faultNow_84 : decode m_M_faultNow.2.1 84 = .ok (.iastore, 1) := by decide +kernel
theorem d_M_faultNow_85 : decode m_M_faultNow.2.1 85 = .ok (.iinc 1 1, 3) := by decide +kernel
theorem d_M_faultNow_88 : decode m_M_faultNow.2.1 88 = .ok (.iinc 2 2, 3) := by decide +kernel
theorem d_M_faultNow_91 : decode m_M_faultNow.2.1 91 = .ok (.iload_n 2, 1) := by decide +kernel
theorem d_M_faultNow_92 : decode m_M_faultNow.2.1 92 = .ok (.aload_n 0, 1) := by decide +kernel
theorem d_M_faultNow_93 : decode m_M_faultNow.2.1 93 = .ok (.getfield 64, 3) := by decide +kernel
theorem d_M_faultNow_96 : decode m_M_faultNow.2.1 96 = .ok (.if_icmp .ne 10, 3) := by decide +kernel
theorem d_M_faultNow_99 : decode m_M_faultNow.2.1 99 = .ok (.aload_n 0, 1) := by decide +kernel
theorem d_M_faultNow_100 : decode m_M_faultNow.2.1 100 = .ok (.iload_n 1, 1) := by decide +kernel
theorem d_M_faultNow_101 : decode m_M_faultNow.2.1 101 = .ok (.putfield 67, 3) := by decide +kernel
theorem d_M_faultNow_104 : decode m_M_faultNow.2.1 104 = .ok (.iconst (-1), 1) := by decide +kernel
theorem d_M_faultNow_105 : decode m_M_faultNow.2.1 105 = .ok (.ireturn, 1) := by decide +kernel
theorem d_M_faultNow_106 : decode m_M_faultNow.2.1 106 = .ok (.aload_n 0, 1) := by decide +kernel
theorem d_M_faultNow_107 : decode m_M_faultNow.2.1 107 = .ok (.getfield 7, 3) := by decide +kernel
theorem d_M_faultNow_110 : decode m_M_faultNow.2.1 110 = .ok (.iload_n 2, 1) := by decide +kernel
theorem d_M_faultNow_111 : decode m_M_faultNow.2.1 111 = .ok (.iaload, 1) := by decide +kernel
theorem d_M_faultNow_112 : decode m_M_faultNow.2.1 112 = .ok (.bipush 59, 2) := by decide +kernel
theorem d_M_faultNow_114 : decode m_M_faultNow.2.1 114 = .ok (.if_icmp .eq 5, 3) := by decide +kernel
theorem d_M_faultNow_117 : decode m_M_faultNow.2.1 117 = .ok (.iload_n 2, 1) := by decide +kernel
theorem d_M_faultNow_118 : decode m_M_faultNow.2.1 118 = .ok (.ireturn, 1) := by decide +kernel
theorem d_M_faultNow_119 : decode m_M_faultNow.2.1 119 = .ok (.iinc 2 1, 3) := by decide +kernel
theorem d_M_faultNow_122 : decode m_M_faultNow.2.1 122 = .ok (.goto (-113), 3) := by decide +kernel
theorem d_M_faultNow_125 : decode m_M_faultNow.2.1 125 = .ok (.iconst (-1), 1) := by decide +kernel
theorem d_M_faultNow_126 : decode m_M_faultNow.2.1 126 = .ok (.ireturn, 1) := by decide +kernel
set_option maxHeartbeats 4000000 in
set_option maxRecDepth 20000 in
theorem Vl_M_faultNow_9 (G : Gt) : ∀ (n : Nat) (x1 : Int32) (x2 : Int32) (h : Hp), V G m_M_faultNow 9 [(0, .ref (ad G 31)), (1, .int x1), (2, .int x2)] [] h κi (l_M_faultNow_9 n x1 x2 h) := by
  intro n
  induction n with
  | zero => intros; exact v_none
  | succ n ih =>
    intro x1 x2 h
    rw [l_M_faultNow_9]
    refine v_iload_n 2 d_M_faultNow_9 rfl rfl ?_
    refine v_aload_n 0 d_M_faultNow_10 rfl rfl ?_
    refine v_geti fl_M_64 o_31 rfl d_M_faultNow_11 ?_
    refine v_icmp_lt 21 d_M_faultNow_14 (by decide) (fun c1 => ?_) (fun c1 => ?_)
    · refine v_aload_n 0 d_M_faultNow_21 rfl rfl ?_
      refine v_iload_n 2 d_M_faultNow_22 rfl rfl ?_
      refine v_callVi (As := [.int x2]) (rest := []) (c_M_figureAt G x2 h) co_M_70 io_M_figureAt o_31 ⟨by decide, by decide⟩ rfl rfl (Nat.le_of_ble_eq_true rfl) d_M_faultNow_23 (fun r2 h2 _ => ?_)
      refine v_istore_n [(3, .int r2), (0, .ref (ad G 31)), (1, .int x1), (2, .int x2)] d_M_faultNow_26 rfl (by decide) rfl ?_
      refine v_aload_n 1 d_M_faultNow_27 rfl rfl ?_
      refine v_iload_n 3 d_M_faultNow_28 rfl rfl ?_
      refine v_iconst 1 d_M_faultNow_29 rfl ?_
      refine v_iadd d_M_faultNow_30 ?_
      refine v_callVi (As := [.int (x2 + 1)]) (rest := []) (c_M_figureAt G (x2 + 1) h2) co_M_70 io_M_figureAt o_31 ⟨by decide, by decide⟩ rfl rfl (Nat.le_of_ble_eq_true rfl) d_M_faultNow_31 (fun r3 h3 _ => ?_)
      refine v_istore [(4, .int r3), (3, .int r2), (0, .ref (ad G 31)), (1, .int x1), (2, .int x2)] d_M_faultNow_34 (by decide) rfl ?_
      refine v_iload_n 3 d_M_faultNow_36 rfl rfl ?_
      refine v_bipush 10 d_M_faultNow_37 rfl ?_
      refine v_icmp_eq 47 d_M_faultNow_39 (by decide) (fun c4 => ?_) (fun c4 => ?_)
      · refine v_iload_n 4 d_M_faultNow_47 rfl rfl ?_
        exact v_iret rfl d_M_faultNow_48
      · refine v_iload_n 1 d_M_faultNow_42 rfl rfl ?_
        refine v_iconst (-1) d_M_faultNow_43 rfl ?_
        refine v_icmp_ne 49 d_M_faultNow_44 (by decide) (fun c5 => ?_) (fun c5 => ?_)
        · refine v_iload_n 4 d_M_faultNow_47 rfl rfl ?_
          exact v_iret rfl d_M_faultNow_48
        · refine v_iload 0 d_M_faultNow_49 rfl ?_
          refine v_iconst (-1) d_M_faultNow_51 rfl ?_
          refine v_icmp_eq 66 d_M_faultNow_52 (by decide) (fun c6 => ?_) (fun c6 => ?_)
          · refine v_iload_n 4 d_M_faultNow_66 rfl rfl ?_
            refine v_iconst 1 d_M_faultNow_67 rfl ?_
            refine v_iadd d_M_faultNow_68 ?_
            exact v_iret rfl d_M_faultNow_69
          · refine v_aload_n 2 d_M_faultNow_55 rfl rfl ?_
            refine v_iload_n 1 d_M_faultNow_56 rfl rfl ?_
            refine v_iload 0 d_M_faultNow_57 rfl ?_
            refine v_iload_n 3 d_M_faultNow_59 rfl rfl ?_
            refine v_callVi (As := [.int r2, .int r3, .int x1]) (rest := []) (c_M_isTaken G r2 r3 x1 h3) co_M_74 io_M_isTaken o_31 ⟨by decide, by decide⟩ rfl rfl (Nat.le_of_ble_eq_true rfl) d_M_faultNow_60 (fun r7 h7 _ => ?_)
            refine v_if_eq 70 d_M_faultNow_63 (by decide) (fun c8 => ?_) (fun c8 => ?_)
            · refine v_aload_n 2 d_M_faultNow_70 rfl rfl ?_
              refine v_getr 33 fl_M_13 o_31 rfl rfl d_M_faultNow_71 ?_
              refine v_iload_n 3 d_M_faultNow_74 rfl rfl ?_
              refine v_iload_n 1 d_M_faultNow_75 rfl rfl ?_
              refine v_iast ar_33 d_M_faultNow_76 ?_
              refine v_aload_n 2 d_M_faultNow_77 rfl rfl ?_
              refine v_getr 34 fl_M_16 o_31 rfl rfl d_M_faultNow_78 ?_
              refine v_iload_n 3 d_M_faultNow_81 rfl rfl ?_
              refine v_iload 0 d_M_faultNow_82 rfl ?_
              refine v_iast ar_34 d_M_faultNow_84 ?_
              refine v_iinc (x1 + 1) 3 [(1, .int (x1 + 1)), (4, .int r3), (3, .int r2), (0, .ref (ad G 31)), (2, .int x2)] d_M_faultNow_85 rfl rfl (by decide) rfl ?_
              refine v_iinc (x2 + 2) 4 [(2, .int (x2 + 2)), (1, .int (x1 + 1)), (4, .int r3), (3, .int r2), (0, .ref (ad G 31))] d_M_faultNow_88 rfl rfl (by decide) rfl ?_
              refine v_iload_n 0 d_M_faultNow_91 rfl rfl ?_
              refine v_aload_n 4 d_M_faultNow_92 rfl rfl ?_
              refine v_geti fl_M_64 o_31 rfl d_M_faultNow_93 ?_
              refine v_icmp_ne 106 d_M_faultNow_96 (by decide) (fun c9 => ?_) (fun c9 => ?_)
              · refine v_aload_n 4 d_M_faultNow_99 rfl rfl ?_
                refine v_iload_n 1 d_M_faultNow_100 rfl rfl ?_
                refine v_puti fl_M_67 ft_6_2 rfl rfl o_31 rfl d_M_faultNow_101 ?_
                refine v_iconst (-1) d_M_faultNow_104 rfl ?_
                exact v_iret rfl d_M_faultNow_105
              · refine v_aload_n 4 d_M_faultNow_106 rfl rfl ?_
                refine v_getr 32 fl_M_7 o_31 rfl rfl d_M_faultNow_107 ?_
                refine v_iload_n 0 d_M_faultNow_110 rfl rfl ?_
                refine v_iald ar_32 d_M_faultNow_111 ?_
                refine v_bipush 59 d_M_faultNow_112 rfl ?_
                refine v_icmp_eq 119 d_M_faultNow_114 (by decide) (fun c10 => ?_) (fun c10 => ?_)
                · refine v_iinc ((x2 + 2) + 1) 0 [(2, .int ((x2 + 2) + 1)), (1, .int (x1 + 1)), (4, .int r3), (3, .int r2), (0, .ref (ad G 31))] d_M_faultNow_119 rfl rfl (by decide) rfl ?_
                  refine v_goto 9 d_M_faultNow_122 (by decide) ?_
                  exact v_sub [4, 1, 0] rfl (ih (x1 + 1) ((x2 + 2) + 1) (hset (hset h7 33 (ix x1) r2) 34 (ix x1) r3))
                · refine v_iload_n 0 d_M_faultNow_117 rfl rfl ?_
                  exact v_iret rfl d_M_faultNow_118
            · refine v_iload_n 4 d_M_faultNow_66 rfl rfl ?_
              refine v_iconst 1 d_M_faultNow_67 rfl ?_
              refine v_iadd d_M_faultNow_68 ?_
              exact v_iret rfl d_M_faultNow_69
    · refine v_iload_n 2 d_M_faultNow_17 rfl rfl ?_
      refine v_if_le 125 d_M_faultNow_18 (by decide) (fun c11 => ?_) (fun c11 => ?_)
      · refine v_iconst (-1) d_M_faultNow_125 rfl ?_
        exact v_iret rfl d_M_faultNow_126
      · refine v_aload_n 0 d_M_faultNow_21 rfl rfl ?_
        refine v_iload_n 2 d_M_faultNow_22 rfl rfl ?_
        refine v_callVi (As := [.int x2]) (rest := []) (c_M_figureAt G x2 h) co_M_70 io_M_figureAt o_31 ⟨by decide, by decide⟩ rfl rfl (Nat.le_of_ble_eq_true rfl) d_M_faultNow_23 (fun r12 h12 _ => ?_)
        refine v_istore_n [(3, .int r12), (0, .ref (ad G 31)), (1, .int x1), (2, .int x2)] d_M_faultNow_26 rfl (by decide) rfl ?_
        refine v_aload_n 1 d_M_faultNow_27 rfl rfl ?_
        refine v_iload_n 3 d_M_faultNow_28 rfl rfl ?_
        refine v_iconst 1 d_M_faultNow_29 rfl ?_
        refine v_iadd d_M_faultNow_30 ?_
        refine v_callVi (As := [.int (x2 + 1)]) (rest := []) (c_M_figureAt G (x2 + 1) h12) co_M_70 io_M_figureAt o_31 ⟨by decide, by decide⟩ rfl rfl (Nat.le_of_ble_eq_true rfl) d_M_faultNow_31 (fun r13 h13 _ => ?_)
        refine v_istore [(4, .int r13), (3, .int r12), (0, .ref (ad G 31)), (1, .int x1), (2, .int x2)] d_M_faultNow_34 (by decide) rfl ?_
        refine v_iload_n 3 d_M_faultNow_36 rfl rfl ?_
        refine v_bipush 10 d_M_faultNow_37 rfl ?_
        refine v_icmp_eq 47 d_M_faultNow_39 (by decide) (fun c14 => ?_) (fun c14 => ?_)
        · refine v_iload_n 4 d_M_faultNow_47 rfl rfl ?_
          exact v_iret rfl d_M_faultNow_48
        · refine v_iload_n 1 d_M_faultNow_42 rfl rfl ?_
          refine v_iconst (-1) d_M_faultNow_43 rfl ?_
          refine v_icmp_ne 49 d_M_faultNow_44 (by decide) (fun c15 => ?_) (fun c15 => ?_)
          · refine v_iload_n 4 d_M_faultNow_47 rfl rfl ?_
            exact v_iret rfl d_M_faultNow_48
          · refine v_iload 0 d_M_faultNow_49 rfl ?_
            refine v_iconst (-1) d_M_faultNow_51 rfl ?_
            refine v_icmp_eq 66 d_M_faultNow_52 (by decide) (fun c16 => ?_) (fun c16 => ?_)
            · refine v_iload_n 4 d_M_faultNow_66 rfl rfl ?_
              refine v_iconst 1 d_M_faultNow_67 rfl ?_
              refine v_iadd d_M_faultNow_68 ?_
              exact v_iret rfl d_M_faultNow_69
            · refine v_aload_n 2 d_M_faultNow_55 rfl rfl ?_
              refine v_iload_n 1 d_M_faultNow_56 rfl rfl ?_
              refine v_iload 0 d_M_faultNow_57 rfl ?_
              refine v_iload_n 3 d_M_faultNow_59 rfl rfl ?_
              refine v_callVi (As := [.int r12, .int r13, .int x1]) (rest := []) (c_M_isTaken G r12 r13 x1 h13) co_M_74 io_M_isTaken o_31 ⟨by decide, by decide⟩ rfl rfl (Nat.le_of_ble_eq_true rfl) d_M_faultNow_60 (fun r17 h17 _ => ?_)
              refine v_if_eq 70 d_M_faultNow_63 (by decide) (fun c18 => ?_) (fun c18 => ?_)
              · refine v_aload_n 2 d_M_faultNow_70 rfl rfl ?_
                refine v_getr 33 fl_M_13 o_31 rfl rfl d_M_faultNow_71 ?_
                refine v_iload_n 3 d_M_faultNow_74 rfl rfl ?_
                refine v_iload_n 1 d_M_faultNow_75 rfl rfl ?_
                refine v_iast ar_33 d_M_faultNow_76 ?_
                refine v_aload_n 2 d_M_faultNow_77 rfl rfl ?_
                refine v_getr 34 fl_M_16 o_31 rfl rfl d_M_faultNow_78 ?_
                refine v_iload_n 3 d_M_faultNow_81 rfl rfl ?_
                refine v_iload 0 d_M_faultNow_82 rfl ?_
                refine v_iast ar_34 d_M_faultNow_84 ?_
                refine v_iinc (x1 + 1) 3 [(1, .int (x1 + 1)), (4, .int r13), (3, .int r12), (0, .ref (ad G 31)), (2, .int x2)] d_M_faultNow_85 rfl rfl (by decide) rfl ?_
                refine v_iinc (x2 + 2) 4 [(2, .int (x2 + 2)), (1, .int (x1 + 1)), (4, .int r13), (3, .int r12), (0, .ref (ad G 31))] d_M_faultNow_88 rfl rfl (by decide) rfl ?_
                refine v_iload_n 0 d_M_faultNow_91 rfl rfl ?_
                refine v_aload_n 4 d_M_faultNow_92 rfl rfl ?_
                refine v_geti fl_M_64 o_31 rfl d_M_faultNow_93 ?_
                refine v_icmp_ne 106 d_M_faultNow_96 (by decide) (fun c19 => ?_) (fun c19 => ?_)
                · refine v_aload_n 4 d_M_faultNow_99 rfl rfl ?_
                  refine v_iload_n 1 d_M_faultNow_100 rfl rfl ?_
                  refine v_puti fl_M_67 ft_6_2 rfl rfl o_31 rfl d_M_faultNow_101 ?_
                  refine v_iconst (-1) d_M_faultNow_104 rfl ?_
                  exact v_iret rfl d_M_faultNow_105
                · refine v_aload_n 4 d_M_faultNow_106 rfl rfl ?_
                  refine v_getr 32 fl_M_7 o_31 rfl rfl d_M_faultNow_107 ?_
                  refine v_iload_n 0 d_M_faultNow_110 rfl rfl ?_
                  refine v_iald ar_32 d_M_faultNow_111 ?_
                  refine v_bipush 59 d_M_faultNow_112 rfl ?_
                  refine v_icmp_eq 119 d_M_faultNow_114 (by decide) (fun c20 => ?_) (fun c20 => ?_)
                  · refine v_iinc ((x2 + 2) + 1) 0 [(2, .int ((x2 + 2) + 1)), (1, .int (x1 + 1)), (4, .int r13), (3, .int r12), (0, .ref (ad G 31))] d_M_faultNow_119 rfl rfl (by decide) rfl ?_
                    refine v_goto 9 d_M_faultNow_122 (by decide) ?_
                    exact v_sub [4, 1, 0] rfl (ih (x1 + 1) ((x2 + 2) + 1) (hset (hset h17 33 (ix x1) r12) 34 (ix x1) r13))
                  · refine v_iload_n 0 d_M_faultNow_117 rfl rfl ?_
                    exact v_iret rfl d_M_faultNow_118
              · refine v_iload_n 4 d_M_faultNow_66 rfl rfl ?_
                refine v_iconst 1 d_M_faultNow_67 rfl ?_
                refine v_iadd d_M_faultNow_68 ?_
                exact v_iret rfl d_M_faultNow_69
set_option maxHeartbeats 4000000 in
set_option maxRecDepth 20000 in
theorem c_M_faultNow (G : Gt) (h : Hp) : Cn G m_M_faultNow [.ref (ad G 31)] h κi (f_M_faultNow h) := by
  refine entryV (by decide) (Nat.le_of_ble_eq_true rfl) rfl ?_
  show V G m_M_faultNow 0 [(0, .ref (ad G 31))] [] h κi _
  unfold f_M_faultNow
  refine v_aload_n 0 d_M_faultNow_0 rfl rfl ?_
  refine v_iconst 0 d_M_faultNow_1 rfl ?_
  refine v_puti fl_M_67 ft_6_2 rfl rfl o_31 rfl d_M_faultNow_2 ?_
  refine v_iconst 0 d_M_faultNow_5 rfl ?_
  refine v_istore_n [(1, .int 0), (0, .ref (ad G 31))] d_M_faultNow_6 rfl (by decide) rfl ?_
  refine v_iconst 0 d_M_faultNow_7 rfl ?_
  refine v_istore_n [(2, .int 0), (1, .int 0), (0, .ref (ad G 31))] d_M_faultNow_8 rfl (by decide) rfl ?_
  exact v_sub [2, 1, 0] rfl (Vl_M_faultNow_9 G FUEL 0 0 (hset h 31 2 0))
theorem d_M_fault_0 : decode m_M_fault.2.1 0 = .ok (.aload_n 0, 1) := by decide +kernel
theorem d_M_fault_1 : decode m_M_fault.2.1 1 = .ok (.invokevirtual 77, 3) := by decide +kernel
theorem d_M_fault_4 : decode m_M_fault.2.1 4 = .ok (.ireturn, 1) := by decide +kernel
set_option maxHeartbeats 4000000 in
set_option maxRecDepth 20000 in
theorem c_M_fault (G : Gt) (h : Hp) : Cn G m_M_fault [.ref (ad G 31)] h κi (f_M_fault h) := by
  refine entryV (by decide) (Nat.le_of_ble_eq_true rfl) rfl ?_
  show V G m_M_fault 0 [(0, .ref (ad G 31))] [] h κi _
  unfold f_M_fault
  refine v_aload_n 0 d_M_fault_0 rfl rfl ?_
  refine v_callVi (As := []) (rest := []) (c_M_faultNow G h) co_M_77 io_M_faultNow o_31 ⟨by decide, by decide⟩ rfl rfl (Nat.le_of_ble_eq_true rfl) d_M_fault_1 (fun r1 h1 _ => ?_)
  exact v_iret rfl d_M_fault_4
theorem d_M_isPeg_0 : decode m_M_isPeg.2.1 0 = .ok (.aload_n 0, 1) := by decide +kernel
theorem d_M_isPeg_1 : decode m_M_isPeg.2.1 1 = .ok (.invokevirtual 77, 3) := by decide +kernel
theorem d_M_isPeg_4 : decode m_M_isPeg.2.1 4 = .ok (.istore_n 2, 1) := by decide +kernel
theorem d_M_isPeg_5 : decode m_M_isPeg.2.1 5 = .ok (.iload_n 1, 1) := by decide +kernel
theorem d_M_isPeg_6 : decode m_M_isPeg.2.1 6 = .ok (.iconst 0, 1) := by decide +kernel
theorem d_M_isPeg_7 : decode m_M_isPeg.2.1 7 = .ok (.aload_n 0, 1) := by decide +kernel
theorem d_M_isPeg_8 : decode m_M_isPeg.2.1 8 = .ok (.getfield 67, 3) := by decide +kernel
theorem d_M_isPeg_11 : decode m_M_isPeg.2.1 11 = .ok (.iconst 1, 1) := by decide +kernel
theorem d_M_isPeg_12 : decode m_M_isPeg.2.1 12 = .ok (.isub, 1) := by decide +kernel
theorem d_M_isPeg_13 : decode m_M_isPeg.2.1 13 = .ok (.invokestatic 60, 3) := by decide +kernel
theorem d_M_isPeg_16 : decode m_M_isPeg.2.1 16 = .ok (.ireturn, 1) := by decide +kernel
set_option maxHeartbeats 4000000 in
set_option maxRecDepth 20000 in
theorem c_M_isPeg (G : Gt) (x1 : Int32) (h : Hp) : Cn G m_M_isPeg [.ref (ad G 31), .int x1] h κi (f_M_isPeg x1 h) := by
  refine entryV (by decide) (Nat.le_of_ble_eq_true rfl) rfl ?_
  show V G m_M_isPeg 0 [(0, .ref (ad G 31)), (1, .int x1)] [] h κi _
  unfold f_M_isPeg
  refine v_aload_n 0 d_M_isPeg_0 rfl rfl ?_
  refine v_callVi (As := []) (rest := []) (c_M_faultNow G h) co_M_77 io_M_faultNow o_31 ⟨by decide, by decide⟩ rfl rfl (Nat.le_of_ble_eq_true rfl) d_M_isPeg_1 (fun r1 h1 _ => ?_)
  refine v_istore_n [(2, .int r1), (0, .ref (ad G 31)), (1, .int x1)] d_M_isPeg_4 rfl (by decide) rfl ?_
  refine v_iload_n 2 d_M_isPeg_5 rfl rfl ?_
  refine v_iconst 0 d_M_isPeg_6 rfl ?_
  refine v_aload_n 1 d_M_isPeg_7 rfl rfl ?_
  refine v_geti fl_M_67 o_31 rfl d_M_isPeg_8 ?_
  refine v_iconst 1 d_M_isPeg_11 rfl ?_
  refine v_isub d_M_isPeg_12 ?_
  refine v_callSi (As := [.int x1, .int 0, .int ((h1 31 2) - 1)]) (rest := []) (c_M_in G x1 0 ((h1 31 2) - 1) h1) co_M_60 so_M_in ⟨by decide, by decide⟩ rfl rfl (Nat.le_of_ble_eq_true rfl) d_M_isPeg_13 (fun r2 h2 _ => ?_)
  exact v_zret rfl d_M_isPeg_16
theorem d_M_pegOf_0 : decode m_M_pegOf.2.1 0 = .ok (.iload_n 2, 1) := by decide +kernel
theorem d_M_pegOf_1 : decode m_M_pegOf.2.1 1 = .ok (.ifCond .ne 12, 3) := by decide +kernel
theorem d_M_pegOf_4 : decode m_M_pegOf.2.1 4 = .ok (.aload_n 0, 1) := by decide +kernel
theorem d_M_pegOf_5 : decode m_M_pegOf.2.1 5 = .ok (.getfield 13, 3) := by decide +kernel
theorem d_M_pegOf_8 : decode m_M_pegOf.2.1 8 = .ok (.iload_n 1, 1) := by decide +kernel
theorem d_M_pegOf_9 : decode m_M_pegOf.2.1 9 = .ok (.iaload, 1) := by decide +kernel
theorem d_M_pegOf_10 : decode m_M_pegOf.2.1 10 = .ok (.goto 25, 3) := by decide +kernel
theorem d_M_pegOf_13 : decode m_M_pegOf.2.1 13 = .ok (.iload_n 2, 1) := by decide +kernel
theorem d_M_pegOf_14 : decode m_M_pegOf.2.1 14 = .ok (.iconst 1, 1) := by decide +kernel
theorem d_M_pegOf_15 : decode m_M_pegOf.2.1 15 = .ok (.if_icmp .ne 12, 3) := by decide +kernel
theorem d_M_pegOf_18 : decode m_M_pegOf.2.1 18 = .ok (.aload_n 0, 1) := by decide +kernel
theorem d_M_pegOf_19 : decode m_M_pegOf.2.1 19 = .ok (.getfield 16, 3) := by decide +kernel
theorem d_M_pegOf_22 : decode m_M_pegOf.2.1 22 = .ok (.iload_n 1, 1) := by decide +kernel
theorem d_M_pegOf_23 : decode m_M_pegOf.2.1 23 = .ok (.iaload, 1) := by decide +kernel
theorem d_M_pegOf_24 : decode m_M_pegOf.2.1 24 = .ok (.goto 11, 3) := by decide +kernel
theorem d_M_pegOf_27 : decode m_M_pegOf.2.1 27 = .ok (.aload_n 0, 1) := by decide +kernel
theorem d_M_pegOf_28 : decode m_M_pegOf.2.1 28 = .ok (.getfield 81, 3) := by decide +kernel
theorem d_M_pegOf_31 : decode m_M_pegOf.2.1 31 = .ok (.iload_n 1, 1) := by decide +kernel
theorem d_M_pegOf_32 : decode m_M_pegOf.2.1 32 = .ok (.ishr, 1) := by decide +kernel
theorem d_M_pegOf_33 : decode m_M_pegOf.2.1 33 = .ok (.iconst 1, 1) := by decide +kernel
theorem d_M_pegOf_34 : decode m_M_pegOf.2.1 34 = .ok (.iand, 1) := by decide +kernel
theorem d_M_pegOf_35 : decode m_M_pegOf.2.1 35 = .ok (.ireturn, 1) := by decide +kernel
set_option maxHeartbeats 4000000 in
set_option maxRecDepth 20000 in
theorem c_M_pegOf (G : Gt) (x1 : Int32) (x2 : Int32) (h : Hp) : Cn G m_M_pegOf [.ref (ad G 31), .int x1, .int x2] h κi (f_M_pegOf x1 x2 h) := by
  refine entryV (by decide) (Nat.le_of_ble_eq_true rfl) rfl ?_
  show V G m_M_pegOf 0 [(0, .ref (ad G 31)), (1, .int x1), (2, .int x2)] [] h κi _
  unfold f_M_pegOf
  refine v_iload_n 2 d_M_pegOf_0 rfl rfl ?_
  refine v_if_ne 13 d_M_pegOf_1 (by decide) (fun c1 => ?_) (fun c1 => ?_)
  · refine v_aload_n 0 d_M_pegOf_4 rfl rfl ?_
    refine v_getr 33 fl_M_13 o_31 rfl rfl d_M_pegOf_5 ?_
    refine v_iload_n 1 d_M_pegOf_8 rfl rfl ?_
    refine v_iald ar_33 d_M_pegOf_9 ?_
    refine v_goto 35 d_M_pegOf_10 (by decide) ?_
    exact v_iret rfl d_M_pegOf_35
  · refine v_iload_n 2 d_M_pegOf_13 rfl rfl ?_
    refine v_iconst 1 d_M_pegOf_14 rfl ?_
    refine v_icmp_ne 27 d_M_pegOf_15 (by decide) (fun c2 => ?_) (fun c2 => ?_)
    · refine v_aload_n 0 d_M_pegOf_18 rfl rfl ?_
      refine v_getr 34 fl_M_16 o_31 rfl rfl d_M_pegOf_19 ?_
      refine v_iload_n 1 d_M_pegOf_22 rfl rfl ?_
      refine v_iald ar_34 d_M_pegOf_23 ?_
      refine v_goto 35 d_M_pegOf_24 (by decide) ?_
      exact v_iret rfl d_M_pegOf_35
    · refine v_aload_n 0 d_M_pegOf_27 rfl rfl ?_
      refine v_geti fl_M_81 o_31 rfl d_M_pegOf_28 ?_
      refine v_iload_n 1 d_M_pegOf_31 rfl rfl ?_
      refine v_ishr d_M_pegOf_32 ?_
      refine v_iconst 1 d_M_pegOf_33 rfl ?_
      refine v_iand d_M_pegOf_34 ?_
      exact v_iret rfl d_M_pegOf_35
theorem d_M_peg_0 : decode m_M_peg.2.1 0 = .ok (.aload_n 0, 1) := by decide +kernel
theorem d_M_peg_1 : decode m_M_peg.2.1 1 = .ok (.iload_n 1, 1) := by decide +kernel
theorem d_M_peg_2 : decode m_M_peg.2.1 2 = .ok (.invokevirtual 84, 3) := by decide +kernel
theorem d_M_peg_5 : decode m_M_peg.2.1 5 = .ok (.ifCond .eq 21, 3) := by decide +kernel
theorem d_M_peg_8 : decode m_M_peg.2.1 8 = .ok (.iload_n 2, 1) := by decide +kernel
theorem d_M_peg_9 : decode m_M_peg.2.1 9 = .ok (.iconst 0, 1) := by decide +kernel
theorem d_M_peg_10 : decode m_M_peg.2.1 10 = .ok (.iconst 2, 1) := by decide +kernel
theorem d_M_peg_11 : decode m_M_peg.2.1 11 = .ok (.invokestatic 60, 3) := by decide +kernel
theorem d_M_peg_14 : decode m_M_peg.2.1 14 = .ok (.ifCond .eq 12, 3) := by decide +kernel
theorem d_M_peg_17 : decode m_M_peg.2.1 17 = .ok (.aload_n 0, 1) := by decide +kernel
theorem d_M_peg_18 : decode m_M_peg.2.1 18 = .ok (.iload_n 1, 1) := by decide +kernel
theorem d_M_peg_19 : decode m_M_peg.2.1 19 = .ok (.iload_n 2, 1) := by decide +kernel
theorem d_M_peg_20 : decode m_M_peg.2.1 20 = .ok (.invokevirtual 88, 3) := by decide +kernel
theorem d_M_peg_23 : decode m_M_peg.2.1 23 = .ok (.goto 5, 3) := by decide +kernel
theorem d_M_peg_26 : decode m_M_peg.2.1 26 = .ok (.bipush (-2), 2) := by decide +kernel
theorem d_M_peg_28 : decode m_M_peg.2.1 28 = .ok (.ireturn, 1) := by decide +kernel
set_option maxHeartbeats 4000000 in
set_option maxRecDepth 20000 in
theorem c_M_peg (G : Gt) (x1 : Int32) (x2 : Int32) (h : Hp) : Cn G m_M_peg [.ref (ad G 31), .int x1, .int x2] h κi (f_M_peg x1 x2 h) := by
  refine entryV (by decide) (Nat.le_of_ble_eq_true rfl) rfl ?_
  show V G m_M_peg 0 [(0, .ref (ad G 31)), (1, .int x1), (2, .int x2)] [] h κi _
  unfold f_M_peg
  refine v_aload_n 0 d_M_peg_0 rfl rfl ?_
  refine v_iload_n 1 d_M_peg_1 rfl rfl ?_
  refine v_callVi (As := [.int x1]) (rest := []) (c_M_isPeg G x1 h) co_M_84 io_M_isPeg o_31 ⟨by decide, by decide⟩ rfl rfl (Nat.le_of_ble_eq_true rfl) d_M_peg_2 (fun r1 h1 _ => ?_)
  refine v_if_eq 26 d_M_peg_5 (by decide) (fun c2 => ?_) (fun c2 => ?_)
  · refine v_bipush (-2) d_M_peg_26 rfl ?_
    exact v_iret rfl d_M_peg_28
  · refine v_iload_n 2 d_M_peg_8 rfl rfl ?_
    refine v_iconst 0 d_M_peg_9 rfl ?_
    refine v_iconst 2 d_M_peg_10 rfl ?_
    refine v_callSi (As := [.int x2, .int 0, .int 2]) (rest := []) (c_M_in G x2 0 2 h1) co_M_60 so_M_in ⟨by decide, by decide⟩ rfl rfl (Nat.le_of_ble_eq_true rfl) d_M_peg_11 (fun r3 h3 _ => ?_)
    refine v_if_eq 26 d_M_peg_14 (by decide) (fun c4 => ?_) (fun c4 => ?_)
    · refine v_bipush (-2) d_M_peg_26 rfl ?_
      exact v_iret rfl d_M_peg_28
    · refine v_aload_n 0 d_M_peg_17 rfl rfl ?_
      refine v_iload_n 1 d_M_peg_18 rfl rfl ?_
      refine v_iload_n 2 d_M_peg_19 rfl rfl ?_
      refine v_callVi (As := [.int x1, .int x2]) (rest := []) (c_M_pegOf G x1 x2 h3) co_M_88 io_M_pegOf o_31 ⟨by decide, by decide⟩ rfl rfl (Nat.le_of_ble_eq_true rfl) d_M_peg_20 (fun r5 h5 _ => ?_)
      refine v_goto 28 d_M_peg_23 (by decide) ?_
      exact v_iret rfl d_M_peg_28
theorem d_M_isTen_0 : decode m_M_isTen.2.1 0 = .ok (.iload_n 0, 1) := by decide +kernel
theorem d_M_isTen_1 : decode m_M_isTen.2.1 1 = .ok (.iconst 0, 1) := by decide +kernel
theorem d_M_isTen_2 : decode m_M_isTen.2.1 2 = .ok (.bipush 9, 2) := by decide +kernel
theorem d_M_isTen_4 : decode m_M_isTen.2.1 4 = .ok (.invokestatic 60, 3) := by decide +kernel
theorem d_M_isTen_7 : decode m_M_isTen.2.1 7 = .ok (.ireturn, 1) := by decide +kernel
set_option maxHeartbeats 4000000 in
set_option maxRecDepth 20000 in
theorem c_M_isTen (G : Gt) (x0 : Int32) (h : Hp) : Cn G m_M_isTen [.int x0] h κi (f_M_isTen x0 h) := by
  refine entryV (by decide) (Nat.le_of_ble_eq_true rfl) rfl ?_
  show V G m_M_isTen 0 [(0, .int x0)] [] h κi _
  unfold f_M_isTen
  refine v_iload_n 0 d_M_isTen_0 rfl rfl ?_
  refine v_iconst 0 d_M_isTen_1 rfl ?_
  refine v_bipush 9 d_M_isTen_2 rfl ?_
  refine v_callSi (As := [.int x0, .int 0, .int 9]) (rest := []) (c_M_in G x0 0 9 h) co_M_60 so_M_in ⟨by decide, by decide⟩ rfl rfl (Nat.le_of_ble_eq_true rfl) d_M_isTen_4 (fun r1 h1 _ => ?_)
  exact v_zret rfl d_M_isTen_7
theorem d_M_hide_0 : decode m_M_hide.2.1 0 = .ok (.iload_n 1, 1) := by decide +kernel
theorem d_M_hide_1 : decode m_M_hide.2.1 1 = .ok (.invokestatic 92, 3) := by decide +kernel
theorem d_M_hide_4 : decode m_M_hide.2.1 4 = .ok (.ifCond .eq 12, 3) := by decide +kernel
theorem d_M_hide_7 : decode m_M_hide.2.1 7 = .ok (.iload_n 2, 1) := by decide +kernel
theorem d_M_hide_8 : decode m_M_hide.2.1 8 = .ok (.iconst 0, 1) := by decide +kernel
theorem d_M_hide_9 : decode m_M_hide.2.1 9 = .ok (.iconst 1, 1) := by decide +kernel
theorem d_M_hide_10 : decode m_M_hide.2.1 10 = .ok (.invokestatic 60, 3) := by decide +kernel
theorem d_M_hide_13 : decode m_M_hide.2.1 13 = .ok (.ifCond .ne 6, 3) := by decide +kernel
theorem d_M_hide_16 : decode m_M_hide.2.1 16 = .ok (.bipush (-2), 2) := by decide +kernel
theorem d_M_hide_18 : decode m_M_hide.2.1 18 = .ok (.ireturn, 1) := by decide +kernel
theorem d_M_hide_19 : decode m_M_hide.2.1 19 = .ok (.aload_n 0, 1) := by decide +kernel
theorem d_M_hide_20 : decode m_M_hide.2.1 20 = .ok (.getfield 81, 3) := by decide +kernel
theorem d_M_hide_23 : decode m_M_hide.2.1 23 = .ok (.iload_n 1, 1) := by decide +kernel
theorem d_M_hide_24 : decode m_M_hide.2.1 24 = .ok (.ishr, 1) := by decide +kernel
theorem d_M_hide_25 : decode m_M_hide.2.1 25 = .ok (.iconst 1, 1) := by decide +kernel
theorem d_M_hide_26 : decode m_M_hide.2.1 26 = .ok (.iand, 1) := by decide +kernel
theorem d_M_hide_27 : decode m_M_hide.2.1 27 = .ok (.istore_n 3, 1) := by decide +kernel
theorem d_M_hide_28 : decode m_M_hide.2.1 28 = .ok (.aload_n 0, 1) := by decide +kernel
theorem d_M_hide_29 : decode m_M_hide.2.1 29 = .ok (.aload_n 0, 1) := by decide +kernel
theorem d_M_hide_30 : decode m_M_hide.2.1 30 = .ok (.getfield 81, 3) := by decide +kernel
theorem d_M_hide_33 : decode m_M_hide.2.1 33 = .ok (.iconst 1, 1) := by decide +kernel
theorem d_M_hide_34 : decode m_M_hide.2.1 34 = .ok (.iload_n 1, 1) := by decide +kernel
theorem d_M_hide_35 : decode m_M_hide.2.1 35 = .ok (.ishl, 1) := by decide +kernel
theorem d_M_hide_36 : decode m_M_hide.2.1 36 = .ok (.iconst (-1), 1) := by decide +kernel
theorem d_M_hide_37 : decode m_M_hide.2.1 37 = .ok (.ixor, 1) := by decide +kernel
theorem d_M_hide_38 : decode m_M_hide.2.1 38 = .ok (.iand, 1) := by decide +kernel
theorem d_M_hide_39 : decode m_M_hide.2.1 39 = .ok (.iload_n 2, 1) := by decide +kernel
theorem d_M_hide_40 : decode m_M_hide.2.1 40 = .ok (.iload_n 1, 1) := by decide +kernel
theorem d_M_hide_41 : decode m_M_hide.2.1 41 = .ok (.ishl, 1) := by decide +kernel
theorem d_M_hide_42 : decode m_M_hide.2.1 42 = .ok (.ior, 1) := by decide +kernel
theorem d_M_hide_43 : decode m_M_hide.2.1 43 = .ok (.putfield 81, 3) := by decide +kernel
theorem d_M_hide_46 : decode m_M_hide.2.1 46 = .ok (.iload_n 3, 1) := by decide +kernel
theorem d_M_hide_47 : decode m_M_hide.2.1 47 = .ok (.ireturn, 1) := by decide +kernel
set_option maxHeartbeats 4000000 in
set_option maxRecDepth 20000 in
theorem c_M_hide (G : Gt) (x1 : Int32) (x2 : Int32) (h : Hp) : Cn G m_M_hide [.ref (ad G 31), .int x1, .int x2] h κi (f_M_hide x1 x2 h) := by
  refine entryV (by decide) (Nat.le_of_ble_eq_true rfl) rfl ?_
  show V G m_M_hide 0 [(0, .ref (ad G 31)), (1, .int x1), (2, .int x2)] [] h κi _
  unfold f_M_hide
  refine v_iload_n 1 d_M_hide_0 rfl rfl ?_
  refine v_callSi (As := [.int x1]) (rest := []) (c_M_isTen G x1 h) co_M_92 so_M_isTen ⟨by decide, by decide⟩ rfl rfl (Nat.le_of_ble_eq_true rfl) d_M_hide_1 (fun r1 h1 _ => ?_)
  refine v_if_eq 16 d_M_hide_4 (by decide) (fun c2 => ?_) (fun c2 => ?_)
  · refine v_bipush (-2) d_M_hide_16 rfl ?_
    exact v_iret rfl d_M_hide_18
  · refine v_iload_n 2 d_M_hide_7 rfl rfl ?_
    refine v_iconst 0 d_M_hide_8 rfl ?_
    refine v_iconst 1 d_M_hide_9 rfl ?_
    refine v_callSi (As := [.int x2, .int 0, .int 1]) (rest := []) (c_M_in G x2 0 1 h1) co_M_60 so_M_in ⟨by decide, by decide⟩ rfl rfl (Nat.le_of_ble_eq_true rfl) d_M_hide_10 (fun r3 h3 _ => ?_)
    refine v_if_ne 19 d_M_hide_13 (by decide) (fun c4 => ?_) (fun c4 => ?_)
    · refine v_bipush (-2) d_M_hide_16 rfl ?_
      exact v_iret rfl d_M_hide_18
    · refine v_aload_n 0 d_M_hide_19 rfl rfl ?_
      refine v_geti fl_M_81 o_31 rfl d_M_hide_20 ?_
      refine v_iload_n 1 d_M_hide_23 rfl rfl ?_
      refine v_ishr d_M_hide_24 ?_
      refine v_iconst 1 d_M_hide_25 rfl ?_
      refine v_iand d_M_hide_26 ?_
      refine v_istore_n [(3, .int (((h3 31 5) >>> (x1 &&& 31)) &&& 1)), (0, .ref (ad G 31)), (1, .int x1), (2, .int x2)] d_M_hide_27 rfl (by decide) rfl ?_
      refine v_aload_n 1 d_M_hide_28 rfl rfl ?_
      refine v_aload_n 1 d_M_hide_29 rfl rfl ?_
      refine v_geti fl_M_81 o_31 rfl d_M_hide_30 ?_
      refine v_iconst 1 d_M_hide_33 rfl ?_
      refine v_iload_n 2 d_M_hide_34 rfl rfl ?_
      refine v_ishl d_M_hide_35 ?_
      refine v_iconst (-1) d_M_hide_36 rfl ?_
      refine v_ixor d_M_hide_37 ?_
      refine v_iand d_M_hide_38 ?_
      refine v_iload_n 3 d_M_hide_39 rfl rfl ?_
      refine v_iload_n 2 d_M_hide_40 rfl rfl ?_
      refine v_ishl d_M_hide_41 ?_
      refine v_ior d_M_hide_42 ?_
      refine v_puti fl_M_81 ft_6_5 rfl rfl o_31 rfl d_M_hide_43 ?_
      refine v_iload_n 0 d_M_hide_46 rfl rfl ?_
      exact v_iret rfl d_M_hide_47
theorem d_M_set_0 : decode m_M_set.2.1 0 = .ok (.iload_n 1, 1) := by decide +kernel
theorem d_M_set_1 : decode m_M_set.2.1 1 = .ok (.iconst 0, 1) := by decide +kernel
theorem d_M_set_2 : decode m_M_set.2.1 2 = .ok (.iconst 2, 1) := by decide +kernel
theorem d_M_set_3 : decode m_M_set.2.1 3 = .ok (.invokestatic 60, 3) := by decide +kernel
theorem d_M_set_6 : decode m_M_set.2.1 6 = .ok (.ifCond .eq 23, 3) := by decide +kernel
theorem d_M_set_9 : decode m_M_set.2.1 9 = .ok (.iload_n 2, 1) := by decide +kernel
theorem d_M_set_10 : decode m_M_set.2.1 10 = .ok (.iconst 0, 1) := by decide +kernel
theorem d_M_set_11 : decode m_M_set.2.1 11 = .ok (.iload_n 1, 1) := by decide +kernel
theorem d_M_set_12 : decode m_M_set.2.1 12 = .ok (.ifCond .ne 9, 3) := by decide +kernel
theorem d_M_set_15 : decode m_M_set.2.1 15 = .ok (.sipush 200, 3) := by decide +kernel
theorem d_M_set_18 : decode m_M_set.2.1 18 = .ok (.goto 5, 3) := by decide +kernel
theorem d_M_set_21 : decode m_M_set.2.1 21 = .ok (.bipush 9, 2) := by decide +kernel
theorem d_M_set_23 : decode m_M_set.2.1 23 = .ok (.invokestatic 60, 3) := by decide +kernel
theorem d_M_set_26 : decode m_M_set.2.1 26 = .ok (.ifCond .ne 6, 3) := by decide +kernel
theorem d_M_set_29 : decode m_M_set.2.1 29 = .ok (.bipush (-2), 2) := by decide +kernel
theorem d_M_set_31 : decode m_M_set.2.1 31 = .ok (.ireturn, 1) := by decide +kernel
theorem d_M_set_32 : decode m_M_set.2.1 32 = .ok (.iload_n 1, 1) := by decide +kernel
theorem d_M_set_33 : decode m_M_set.2.1 33 = .ok (.ifCond .ne 10, 3) := by decide +kernel
theorem d_M_set_36 : decode m_M_set.2.1 36 = .ok (.aload_n 0, 1) := by decide +kernel
theorem d_M_set_37 : decode m_M_set.2.1 37 = .ok (.getfield 53, 3) := by decide +kernel
theorem d_M_set_40 : decode m_M_set.2.1 40 = .ok (.goto 19, 3) := by decide +kernel
theorem d_M_set_43 : decode m_M_set.2.1 43 = .ok (.iload_n 1, 1) := by decide +kernel
theorem d_M_set_44 : decode m_M_set.2.1 44 = .ok (.iconst 1, 1) := by decide +kernel
theorem d_M_set_45 : decode m_M_set.2.1 45 = .ok (.if_icmp .ne 10, 3) := by decide +kernel
theorem d_M_set_48 : decode m_M_set.2.1 48 = .ok (.aload_n 0, 1) := by decide +kernel
theorem d_M_set_49 : decode m_M_set.2.1 49 = .ok (.getfield 95, 3) := by decide +kernel
theorem d_M_set_52 : decode m_M_set.2.1 52 = .ok (.goto 7, 3) := by decide +kernel
theorem d_M_set_55 : decode m_M_set.2.1 55 = .ok (.aload_n 0, 1) := by decide +kernel
theorem d_M_set_56 : decode m_M_set.2.1 56 = .ok (.getfield 57, 3) := by decide +kernel
theorem d_M_set_59 : decode m_M_set.2.1 59 = .ok (.istore_n 3, 1) := by decide +kernel
theorem d_M_set_60 : decode m_M_set.2.1 60 = .ok (.aload_n 0, 1) := by decide +kernel
theorem d_M_set_61 : decode m_M_set.2.1 61 = .ok (.iload_n 1, 1) := by decide +kernel
theorem d_M_set_62 : decode m_M_set.2.1 62 = .ok (.ifCond .ne 7, 3) := by decide +kernel
theorem d_M_set_65 : decode m_M_set.2.1 65 = .ok (.iload_n 2, 1) := by decide +kernel
theorem d_M_set_66 : decode m_M_set.2.1 66 = .ok (.goto 7, 3) := by decide +kernel
theorem d_M_set_69 : decode m_M_set.2.1 69 = .ok (.aload_n 0, 1) := by decide +kernel
theorem d_M_set_70 : decode m_M_set.2.1 70 = .ok (.getfield 53, 3) := by decide +kernel
theorem d_M_set_73 : decode m_M_set.2.1 73 = .ok (.putfield 53, 3) := by decide +kernel
theorem d_M_set_76 : decode m_M_set.2.1 76 = .ok (.aload_n 0, 1) := by decide +kernel
theorem d_M_set_77 : decode m_M_set.2.1 77 = .ok (.iload_n 1, 1) := by decide +kernel
theorem d_M_set_78 : decode m_M_set.2.1 78 = .ok (.iconst 1, 1) := by decide +kernel
theorem d_M_set_79 : decode m_M_set.2.1 79 = .ok (.if_icmp .ne 7, 3) := by decide +kernel
theorem d_M_set_82 : decode m_M_set.2.1 82 = .ok (.iload_n 2, 1) := by decide +kernel
theorem d_M_set_83 : decode m_M_set.2.1 83 = .ok (.goto 7, 3) := by decide +kernel
theorem d_M_set_86 : decode m_M_set.2.1 86 = .ok (.aload_n 0, 1) := by decide +kernel
theorem d_M_set_87 : decode m_M_set.2.1 87 = .ok (.getfield 95, 3) := by decide +kernel
theorem d_M_set_90 : decode m_M_set.2.1 90 = .ok (.putfield 95, 3) := by decide +kernel
theorem d_M_set_93 : decode m_M_set.2.1 93 = .ok (.aload_n 0, 1) := by decide +kernel
theorem d_M_set_94 : decode m_M_set.2.1 94 = .ok (.iload_n 1, 1) := by decide +kernel
theorem d_M_set_95 : decode m_M_set.2.1 95 = .ok (.iconst 2, 1) := by decide +kernel
theorem d_M_set_96 : decode m_M_set.2.1 96 = .ok (.if_icmp .ne 7, 3) := by decide +kernel
theorem d_M_set_99 : decode m_M_set.2.1 99 = .ok (.iload_n 2, 1) := by decide +kernel
theorem d_M_set_100 : decode m_M_set.2.1 100 = .ok (.goto 7, 3) := by decide +kernel
theorem d_M_set_103 : decode m_M_set.2.1 103 = .ok (.aload_n 0, 1) := by decide +kernel
theorem d_M_set_104 : decode m_M_set.2.1 104 = .ok (.getfield 57, 3) := by decide +kernel
theorem d_M_set_107 : decode m_M_set.2.1 107 = .ok (.putfield 57, 3) := by decide +kernel
theorem d_M_set_110 : decode m_M_set.2.1 110 = .ok (.iload_n 3, 1) := by decide +kernel
theorem d_M_set_111 : decode m_M_set.2.1 111 = .ok (.ireturn, 1) := by decide +kernel
set_option maxHeartbeats 4000000 in
set_option maxRecDepth 20000 in
theorem c_M_set (G : Gt) (x1 : Int32) (x2 : Int32) (h : Hp) : Cn G m_M_set [.ref (ad G 31), .int x1, .int x2] h κi (f_M_set x1 x2 h) := by
  refine entryV (by decide) (Nat.le_of_ble_eq_true rfl) rfl ?_
  show V G m_M_set 0 [(0, .ref (ad G 31)), (1, .int x1), (2, .int x2)] [] h κi _
  unfold f_M_set
  refine v_iload_n 1 d_M_set_0 rfl rfl ?_
  refine v_iconst 0 d_M_set_1 rfl ?_
  refine v_iconst 2 d_M_set_2 rfl ?_
  refine v_callSi (As := [.int x1, .int 0, .int 2]) (rest := []) (c_M_in G x1 0 2 h) co_M_60 so_M_in ⟨by decide, by decide⟩ rfl rfl (Nat.le_of_ble_eq_true rfl) d_M_set_3 (fun r1 h1 _ => ?_)
  refine v_if_eq 29 d_M_set_6 (by decide) (fun c2 => ?_) (fun c2 => ?_)
  · refine v_bipush (-2) d_M_set_29 rfl ?_
    exact v_iret rfl d_M_set_31
  · refine v_iload_n 2 d_M_set_9 rfl rfl ?_
    refine v_iconst 0 d_M_set_10 rfl ?_
    refine v_iload_n 1 d_M_set_11 rfl rfl ?_
    refine v_if_ne 21 d_M_set_12 (by decide) (fun c3 => ?_) (fun c3 => ?_)
    · refine v_sipush 200 d_M_set_15 rfl ?_
      refine v_goto 23 d_M_set_18 (by decide) ?_
      refine v_callSi (As := [.int x2, .int 0, .int 200]) (rest := []) (c_M_in G x2 0 200 h1) co_M_60 so_M_in ⟨by decide, by decide⟩ rfl rfl (Nat.le_of_ble_eq_true rfl) d_M_set_23 (fun r4 h4 _ => ?_)
      refine v_if_ne 32 d_M_set_26 (by decide) (fun c5 => ?_) (fun c5 => ?_)
      · refine v_bipush (-2) d_M_set_29 rfl ?_
        exact v_iret rfl d_M_set_31
      · refine v_iload_n 1 d_M_set_32 rfl rfl ?_
        refine v_if_ne_t 43 d_M_set_33 (by decide) c3 ?_
        refine v_aload_n 0 d_M_set_36 rfl rfl ?_
        refine v_geti fl_M_53 o_31 rfl d_M_set_37 ?_
        refine v_goto 59 d_M_set_40 (by decide) ?_
        refine v_istore_n [(3, .int (h4 31 6)), (0, .ref (ad G 31)), (1, .int x1), (2, .int x2)] d_M_set_59 rfl (by decide) rfl ?_
        refine v_aload_n 1 d_M_set_60 rfl rfl ?_
        refine v_iload_n 2 d_M_set_61 rfl rfl ?_
        refine v_if_ne_t 69 d_M_set_62 (by decide) c3 ?_
        refine v_iload_n 3 d_M_set_65 rfl rfl ?_
        refine v_goto 73 d_M_set_66 (by decide) ?_
        refine v_puti fl_M_53 ft_6_6 rfl rfl o_31 rfl d_M_set_73 ?_
        refine v_aload_n 1 d_M_set_76 rfl rfl ?_
        refine v_iload_n 2 d_M_set_77 rfl rfl ?_
        refine v_iconst 1 d_M_set_78 rfl ?_
        refine v_icmp_ne 86 d_M_set_79 (by decide) (fun c6 => ?_) (fun c6 => ?_)
        · refine v_iload_n 3 d_M_set_82 rfl rfl ?_
          refine v_goto 90 d_M_set_83 (by decide) ?_
          refine v_puti fl_M_95 ft_6_7 rfl rfl o_31 rfl d_M_set_90 ?_
          refine v_aload_n 1 d_M_set_93 rfl rfl ?_
          refine v_iload_n 2 d_M_set_94 rfl rfl ?_
          refine v_iconst 2 d_M_set_95 rfl ?_
          refine v_icmp_ne 103 d_M_set_96 (by decide) (fun c7 => ?_) (fun c7 => ?_)
          · refine v_iload_n 3 d_M_set_99 rfl rfl ?_
            refine v_goto 107 d_M_set_100 (by decide) ?_
            refine v_puti fl_M_57 ft_6_8 rfl rfl o_31 rfl d_M_set_107 ?_
            refine v_iload_n 0 d_M_set_110 rfl rfl ?_
            exact v_iret rfl d_M_set_111
          · refine v_aload_n 1 d_M_set_103 rfl rfl ?_
            refine v_geti fl_M_57 o_31 rfl d_M_set_104 ?_
            refine v_puti fl_M_57 ft_6_8 rfl rfl o_31 rfl d_M_set_107 ?_
            refine v_iload_n 0 d_M_set_110 rfl rfl ?_
            exact v_iret rfl d_M_set_111
        · refine v_aload_n 1 d_M_set_86 rfl rfl ?_
          refine v_geti fl_M_95 o_31 rfl d_M_set_87 ?_
          refine v_puti fl_M_95 ft_6_7 rfl rfl o_31 rfl d_M_set_90 ?_
          refine v_aload_n 1 d_M_set_93 rfl rfl ?_
          refine v_iload_n 2 d_M_set_94 rfl rfl ?_
          refine v_iconst 2 d_M_set_95 rfl ?_
          refine v_icmp_ne 103 d_M_set_96 (by decide) (fun c8 => ?_) (fun c8 => ?_)
          · refine v_iload_n 3 d_M_set_99 rfl rfl ?_
            refine v_goto 107 d_M_set_100 (by decide) ?_
            refine v_puti fl_M_57 ft_6_8 rfl rfl o_31 rfl d_M_set_107 ?_
            refine v_iload_n 0 d_M_set_110 rfl rfl ?_
            exact v_iret rfl d_M_set_111
          · refine v_aload_n 1 d_M_set_103 rfl rfl ?_
            refine v_geti fl_M_57 o_31 rfl d_M_set_104 ?_
            refine v_puti fl_M_57 ft_6_8 rfl rfl o_31 rfl d_M_set_107 ?_
            refine v_iload_n 0 d_M_set_110 rfl rfl ?_
            exact v_iret rfl d_M_set_111
    · refine v_bipush 9 d_M_set_21 rfl ?_
      refine v_callSi (As := [.int x2, .int 0, .int 9]) (rest := []) (c_M_in G x2 0 9 h1) co_M_60 so_M_in ⟨by decide, by decide⟩ rfl rfl (Nat.le_of_ble_eq_true rfl) d_M_set_23 (fun r9 h9 _ => ?_)
      refine v_if_ne 32 d_M_set_26 (by decide) (fun c10 => ?_) (fun c10 => ?_)
      · refine v_bipush (-2) d_M_set_29 rfl ?_
        exact v_iret rfl d_M_set_31
      · refine v_iload_n 1 d_M_set_32 rfl rfl ?_
        refine v_if_ne_f 43 d_M_set_33 (by decide) c3 ?_
        refine v_iload_n 1 d_M_set_43 rfl rfl ?_
        refine v_iconst 1 d_M_set_44 rfl ?_
        refine v_icmp_ne 55 d_M_set_45 (by decide) (fun c11 => ?_) (fun c11 => ?_)
        · refine v_aload_n 0 d_M_set_48 rfl rfl ?_
          refine v_geti fl_M_95 o_31 rfl d_M_set_49 ?_
          refine v_goto 59 d_M_set_52 (by decide) ?_
          refine v_istore_n [(3, .int (h9 31 7)), (0, .ref (ad G 31)), (1, .int x1), (2, .int x2)] d_M_set_59 rfl (by decide) rfl ?_
          refine v_aload_n 1 d_M_set_60 rfl rfl ?_
          refine v_iload_n 2 d_M_set_61 rfl rfl ?_
          refine v_if_ne_f 69 d_M_set_62 (by decide) c3 ?_
          refine v_aload_n 1 d_M_set_69 rfl rfl ?_
          refine v_geti fl_M_53 o_31 rfl d_M_set_70 ?_
          refine v_puti fl_M_53 ft_6_6 rfl rfl o_31 rfl d_M_set_73 ?_
          refine v_aload_n 1 d_M_set_76 rfl rfl ?_
          refine v_iload_n 2 d_M_set_77 rfl rfl ?_
          refine v_iconst 1 d_M_set_78 rfl ?_
          refine v_icmp_ne_t 86 d_M_set_79 (by decide) c11 ?_
          refine v_iload_n 3 d_M_set_82 rfl rfl ?_
          refine v_goto 90 d_M_set_83 (by decide) ?_
          refine v_puti fl_M_95 ft_6_7 rfl rfl o_31 rfl d_M_set_90 ?_
          refine v_aload_n 1 d_M_set_93 rfl rfl ?_
          refine v_iload_n 2 d_M_set_94 rfl rfl ?_
          refine v_iconst 2 d_M_set_95 rfl ?_
          refine v_icmp_ne 103 d_M_set_96 (by decide) (fun c12 => ?_) (fun c12 => ?_)
          · refine v_iload_n 3 d_M_set_99 rfl rfl ?_
            refine v_goto 107 d_M_set_100 (by decide) ?_
            refine v_puti fl_M_57 ft_6_8 rfl rfl o_31 rfl d_M_set_107 ?_
            refine v_iload_n 0 d_M_set_110 rfl rfl ?_
            exact v_iret rfl d_M_set_111
          · refine v_aload_n 1 d_M_set_103 rfl rfl ?_
            refine v_geti fl_M_57 o_31 rfl d_M_set_104 ?_
            refine v_puti fl_M_57 ft_6_8 rfl rfl o_31 rfl d_M_set_107 ?_
            refine v_iload_n 0 d_M_set_110 rfl rfl ?_
            exact v_iret rfl d_M_set_111
        · refine v_aload_n 0 d_M_set_55 rfl rfl ?_
          refine v_geti fl_M_57 o_31 rfl d_M_set_56 ?_
          refine v_istore_n [(3, .int (h9 31 8)), (0, .ref (ad G 31)), (1, .int x1), (2, .int x2)] d_M_set_59 rfl (by decide) rfl ?_
          refine v_aload_n 1 d_M_set_60 rfl rfl ?_
          refine v_iload_n 2 d_M_set_61 rfl rfl ?_
          refine v_if_ne_f 69 d_M_set_62 (by decide) c3 ?_
          refine v_aload_n 1 d_M_set_69 rfl rfl ?_
          refine v_geti fl_M_53 o_31 rfl d_M_set_70 ?_
          refine v_puti fl_M_53 ft_6_6 rfl rfl o_31 rfl d_M_set_73 ?_
          refine v_aload_n 1 d_M_set_76 rfl rfl ?_
          refine v_iload_n 2 d_M_set_77 rfl rfl ?_
          refine v_iconst 1 d_M_set_78 rfl ?_
          refine v_icmp_ne_f 86 d_M_set_79 (by decide) c11 ?_
          refine v_aload_n 1 d_M_set_86 rfl rfl ?_
          refine v_geti fl_M_95 o_31 rfl d_M_set_87 ?_
          refine v_puti fl_M_95 ft_6_7 rfl rfl o_31 rfl d_M_set_90 ?_
          refine v_aload_n 1 d_M_set_93 rfl rfl ?_
          refine v_iload_n 2 d_M_set_94 rfl rfl ?_
          refine v_iconst 2 d_M_set_95 rfl ?_
          refine v_icmp_ne 103 d_M_set_96 (by decide) (fun c13 => ?_) (fun c13 => ?_)
          · refine v_iload_n 3 d_M_set_99 rfl rfl ?_
            refine v_goto 107 d_M_set_100 (by decide) ?_
            refine v_puti fl_M_57 ft_6_8 rfl rfl o_31 rfl d_M_set_107 ?_
            refine v_iload_n 0 d_M_set_110 rfl rfl ?_
            exact v_iret rfl d_M_set_111
          · refine v_aload_n 1 d_M_set_103 rfl rfl ?_
            refine v_geti fl_M_57 o_31 rfl d_M_set_104 ?_
            refine v_puti fl_M_57 ft_6_8 rfl rfl o_31 rfl d_M_set_107 ?_
            refine v_iload_n 0 d_M_set_110 rfl rfl ?_
            exact v_iret rfl d_M_set_111
theorem d_M_isSheet_0 : decode m_M_isSheet.2.1 0 = .ok (.iload_n 0, 1) := by decide +kernel
theorem d_M_isSheet_1 : decode m_M_isSheet.2.1 1 = .ok (.iconst 0, 1) := by decide +kernel
theorem d_M_isSheet_2 : decode m_M_isSheet.2.1 2 = .ok (.iconst 3, 1) := by decide +kernel
theorem d_M_isSheet_3 : decode m_M_isSheet.2.1 3 = .ok (.invokestatic 60, 3) := by decide +kernel
theorem d_M_isSheet_6 : decode m_M_isSheet.2.1 6 = .ok (.ireturn, 1) := by decide +kernel
set_option maxHeartbeats 4000000 in
set_option maxRecDepth 20000 in
theorem c_M_isSheet (G : Gt) (x0 : Int32) (h : Hp) : Cn G m_M_isSheet [.int x0] h κi (f_M_isSheet x0 h) := by
  refine entryV (by decide) (Nat.le_of_ble_eq_true rfl) rfl ?_
  show V G m_M_isSheet 0 [(0, .int x0)] [] h κi _
  unfold f_M_isSheet
  refine v_iload_n 0 d_M_isSheet_0 rfl rfl ?_
  refine v_iconst 0 d_M_isSheet_1 rfl ?_
  refine v_iconst 3 d_M_isSheet_2 rfl ?_
  refine v_callSi (As := [.int x0, .int 0, .int 3]) (rest := []) (c_M_in G x0 0 3 h) co_M_60 so_M_in ⟨by decide, by decide⟩ rfl rfl (Nat.le_of_ble_eq_true rfl) d_M_isSheet_3 (fun r1 h1 _ => ?_)
  exact v_zret rfl d_M_isSheet_6
theorem d_M_meets_0 : decode m_M_meets.2.1 0 = .ok (.aload_n 0, 1) := by decide +kernel
theorem d_M_meets_1 : decode m_M_meets.2.1 1 = .ok (.iload_n 1, 1) := by decide +kernel
theorem d_M_meets_2 : decode m_M_meets.2.1 2 = .ok (.putfield 217, 3) := by decide +kernel
theorem d_M_meets_5 : decode m_M_meets.2.1 5 = .ok (.bipush (-10), 2) := by decide +kernel
theorem d_M_meets_7 : decode m_M_meets.2.1 7 = .ok (.iload_n 1, 1) := by decide +kernel
theorem d_M_meets_8 : decode m_M_meets.2.1 8 = .ok (.isub, 1) := by decide +kernel
theorem d_M_meets_9 : decode m_M_meets.2.1 9 = .ok (.ireturn, 1) := by decide +kernel
set_option maxHeartbeats 4000000 in
set_option maxRecDepth 20000 in
theorem c_M_meets (G : Gt) (x1 : Int32) (h : Hp) : Cn G m_M_meets [.ref (ad G 31), .int x1] h κi (f_M_meets x1 h) := by
  refine entryV (by decide) (Nat.le_of_ble_eq_true rfl) rfl ?_
  show V G m_M_meets 0 [(0, .ref (ad G 31)), (1, .int x1)] [] h κi _
  unfold f_M_meets
  refine v_aload_n 0 d_M_meets_0 rfl rfl ?_
  refine v_iload_n 1 d_M_meets_1 rfl rfl ?_
  refine v_puti fl_M_217 ft_6_24 rfl rfl o_31 rfl d_M_meets_2 ?_
  refine v_bipush (-10) d_M_meets_5 rfl ?_
  refine v_iload_n 1 d_M_meets_7 rfl rfl ?_
  refine v_isub d_M_meets_8 ?_
  exact v_iret rfl d_M_meets_9
theorem d_M_read_0 : decode m_M_read.2.1 0 = .ok (.iload_n 1, 1) := by decide +kernel
theorem d_M_read_1 : decode m_M_read.2.1 1 = .ok (.invokestatic 98, 3) := by decide +kernel
theorem d_M_read_4 : decode m_M_read.2.1 4 = .ok (.ifCond .ne 6, 3) := by decide +kernel
theorem d_M_read_7 : decode m_M_read.2.1 7 = .ok (.bipush (-2), 2) := by decide +kernel
theorem d_M_read_9 : decode m_M_read.2.1 9 = .ok (.ireturn, 1) := by decide +kernel
theorem d_M_read_10 : decode m_M_read.2.1 10 = .ok (.aload_n 0, 1) := by decide +kernel
theorem d_M_read_11 : decode m_M_read.2.1 11 = .ok (.getfield 37, 3) := by decide +kernel
theorem d_M_read_14 : decode m_M_read.2.1 14 = .ok (.iload_n 1, 1) := by decide +kernel
theorem d_M_read_15 : decode m_M_read.2.1 15 = .ok (.baload, 1) := by decide +kernel
theorem d_M_read_16 : decode m_M_read.2.1 16 = .ok (.ifCond .ne 9, 3) := by decide +kernel
theorem d_M_read_19 : decode m_M_read.2.1 19 = .ok (.aload_n 0, 1) := by decide +kernel
theorem d_M_read_20 : decode m_M_read.2.1 20 = .ok (.iconst 1, 1) := by decide +kernel
theorem d_M_read_21 : decode m_M_read.2.1 21 = .ok (.invokevirtual 101, 3) := by decide +kernel
theorem d_M_read_24 : decode m_M_read.2.1 24 = .ok (.ireturn, 1) := by decide +kernel
theorem d_M_read_25 : decode m_M_read.2.1 25 = .ok (.iconst 0, 1) := by decide +kernel
theorem d_M_read_26 : decode m_M_read.2.1 26 = .ok (.istore_n 2, 1) := by decide +kernel
theorem d_M_read_27 : decode m_M_read.2.1 27 = .ok (.iload_n 2, 1) := by decide +kernel
theorem d_M_read_28 : decode m_M_read.2.1 28 = .ok (.aload_n 0, 1) := by decide +kernel
theorem d_M_read_29 : decode m_M_read.2.1 29 = .ok (.getfield 44, 3) := by decide +kernel
theorem d_M_read_32 : decode m_M_read.2.1 32 = .ok (.iload_n 1, 1) := by decide +kernel
theorem d_M_read_33 : decode m_M_read.2.1 33 = .ok (.iaload, 1) := by decide +kernel
theorem d_M_read_34 : decode m_M_read.2.1 34 = .ok (.if_icmp .ge 62, 3) := by decide +kernel
theorem d_M_read_37 : decode m_M_read.2.1 37 = .ok (.iload_n 2, 1) := by decide +kernel
theorem d_M_read_38 : decode m_M_read.2.1 38 = .ok (.bipush 10, 2) := by decide +kernel
theorem d_M_read_40 : decode m_M_read.2.1 40 = .ok (.if_icmp .ge 56, 3) := by decide +kernel
theorem d_M_read_43 : decode m_M_read.2.1 43 = .ok (.aload_n 0, 1) := by decide +kernel
theorem d_M_read_44 : decode m_M_read.2.1 44 = .ok (.getfield 47, 3) := by decide +kernel
theorem d_M_read_47 : decode m_M_read.2.1 47 = .ok (.bipush 48, 2) := by decide +kernel
theorem d_M_read_49 : decode m_M_read.2.1 49 = .ok (.iload_n 1, 1) := by decide +kernel
theorem d_M_read_50 : decode m_M_read.2.1 50 = .ok (.imul, 1) := by decide +kernel
theorem d_M_read_51 : decode m_M_read.2.1 51 = .ok (.iload_n 2, 1) := by decide +kernel
theorem d_M_read_52 : decode m_M_read.2.1 52 = .ok (.iadd, 1) := by decide +kernel
theorem d_M_read_53 : decode m_M_read.2.1 53 = .ok (.iaload, 1) := by decide +kernel
theorem d_M_read_54 : decode m_M_read.2.1 54 = .ok (.iconst 0, 1) := by decide +kernel
theorem d_M_read_55 : decode m_M_read.2.1 55 = .ok (.iconst 1, 1) := by decide +kernel
theorem d_M_read_56 : decode m_M_read.2.1 56 = .ok (.invokestatic 60, 3) := by decide +kernel
theorem d_M_read_59 : decode m_M_read.2.1 59 = .ok (.ifCond .eq 37, 3) := by decide +kernel
theorem d_M_read_62 : decode m_M_read.2.1 62 = .ok (.aload_n 0, 1) := by decide +kernel
theorem d_M_read_63 : decode m_M_read.2.1 63 = .ok (.aload_n 0, 1) := by decide +kernel
theorem d_M_read_64 : decode m_M_read.2.1 64 = .ok (.getfield 81, 3) := by decide +kernel
theorem d_M_read_67 : decode m_M_read.2.1 67 = .ok (.iconst 1, 1) := by decide +kernel
theorem d_M_read_68 : decode m_M_read.2.1 68 = .ok (.iload_n 2, 1) := by decide +kernel
theorem d_M_read_69 : decode m_M_read.2.1 69 = .ok (.ishl, 1) := by decide +kernel
theorem d_M_read_70 : decode m_M_read.2.1 70 = .ok (.iconst (-1), 1) := by decide +kernel
theorem d_M_read_71 : decode m_M_read.2.1 71 = .ok (.ixor, 1) := by decide +kernel
theorem d_M_read_72 : decode m_M_read.2.1 72 = .ok (.iand, 1) := by decide +kernel
theorem d_M_read_73 : decode m_M_read.2.1 73 = .ok (.aload_n 0, 1) := by decide +kernel
theorem d_M_read_74 : decode m_M_read.2.1 74 = .ok (.getfield 47, 3) := by decide +kernel
theorem d_M_read_77 : decode m_M_read.2.1 77 = .ok (.bipush 48, 2) := by decide +kernel
theorem d_M_read_79 : decode m_M_read.2.1 79 = .ok (.iload_n 1, 1) := by decide +kernel
theorem d_M_read_80 : decode m_M_read.2.1 80 = .ok (.imul, 1) := by decide +kernel
theorem d_M_read_81 : decode m_M_read.2.1 81 = .ok (.iload_n 2, 1) := by decide +kernel
theorem d_M_read_82 : decode m_M_read.2.1 82 = .ok (.iadd, 1) := by decide +kernel
theorem d_M_read_83 : decode m_M_read.2.1 83 = .ok (.iaload, 1) := by decide +kernel
theorem d_M_read_84 : decode m_M_read.2.1 84 = .ok (.iload_n 2, 1) := by decide +kernel
theorem d_M_read_85 : decode m_M_read.2.1 85 = .ok (.ishl, 1) := by decide +kernel
theorem d_M_read_86 : decode m_M_read.2.1 86 = .ok (.ior, 1) := by decide +kernel
theorem d_M_read_87 : decode m_M_read.2.1 87 = .ok (.putfield 81, 3) := by decide +kernel
theorem d_M_read_90 : decode m_M_read.2.1 90 = .ok (.iinc 2 1, 3) := by decide +kernel
theorem d_M_read_93 : decode m_M_read.2.1 93 = .ok (.goto (-66), 3) := by decide +kernel
theorem d_M_read_96 : decode m_M_read.2.1 96 = .ok (.iload_n 2, 1) := by decide +kernel
theorem d_M_read_97 : decode m_M_read.2.1 97 = .ok (.ireturn, 1) := by decide +kernel
set_option maxHeartbeats 4000000 in
set_option maxRecDepth 20000 in
theorem Vl_M_read_27 (G : Gt) : ∀ (n : Nat) (x1 : Int32) (x2 : Int32) (h : Hp), V G m_M_read 27 [(0, .ref (ad G 31)), (1, .int x1), (2, .int x2)] [] h κi (l_M_read_27 n x1 x2 h) := by
  intro n
  induction n with
  | zero => intros; exact v_none
  | succ n ih =>
    intro x1 x2 h
    rw [l_M_read_27]
    refine v_iload_n 2 d_M_read_27 rfl rfl ?_
    refine v_aload_n 0 d_M_read_28 rfl rfl ?_
    refine v_getr 43 fl_M_44 o_31 rfl rfl d_M_read_29 ?_
    refine v_iload_n 1 d_M_read_32 rfl rfl ?_
    refine v_iald ar_43 d_M_read_33 ?_
    refine v_icmp_ge 96 d_M_read_34 (by decide) (fun c5 => ?_) (fun c5 => ?_)
    · refine v_iload_n 2 d_M_read_96 rfl rfl ?_
      exact v_iret rfl d_M_read_97
    · refine v_iload_n 2 d_M_read_37 rfl rfl ?_
      refine v_bipush 10 d_M_read_38 rfl ?_
      refine v_icmp_ge 96 d_M_read_40 (by decide) (fun c6 => ?_) (fun c6 => ?_)
      · refine v_iload_n 2 d_M_read_96 rfl rfl ?_
        exact v_iret rfl d_M_read_97
      · refine v_aload_n 0 d_M_read_43 rfl rfl ?_
        refine v_getr 44 fl_M_47 o_31 rfl rfl d_M_read_44 ?_
        refine v_bipush 48 d_M_read_47 rfl ?_
        refine v_iload_n 1 d_M_read_49 rfl rfl ?_
        refine v_imul d_M_read_50 ?_
        refine v_iload_n 2 d_M_read_51 rfl rfl ?_
        refine v_iadd d_M_read_52 ?_
        refine v_iald ar_44 d_M_read_53 ?_
        refine v_iconst 0 d_M_read_54 rfl ?_
        refine v_iconst 1 d_M_read_55 rfl ?_
        refine v_callSi (As := [.int (h 44 (ix ((48 * x1) + x2))), .int 0, .int 1]) (rest := []) (c_M_in G (h 44 (ix ((48 * x1) + x2))) 0 1 h) co_M_60 so_M_in ⟨by decide, by decide⟩ rfl rfl (Nat.le_of_ble_eq_true rfl) d_M_read_56 (fun r7 h7 _ => ?_)
        refine v_if_eq 96 d_M_read_59 (by decide) (fun c8 => ?_) (fun c8 => ?_)
        · refine v_iload_n 2 d_M_read_96 rfl rfl ?_
          exact v_iret rfl d_M_read_97
        · refine v_aload_n 0 d_M_read_62 rfl rfl ?_
          refine v_aload_n 0 d_M_read_63 rfl rfl ?_
          refine v_geti fl_M_81 o_31 rfl d_M_read_64 ?_
          refine v_iconst 1 d_M_read_67 rfl ?_
          refine v_iload_n 2 d_M_read_68 rfl rfl ?_
          refine v_ishl d_M_read_69 ?_
          refine v_iconst (-1) d_M_read_70 rfl ?_
          refine v_ixor d_M_read_71 ?_
          refine v_iand d_M_read_72 ?_
          refine v_aload_n 0 d_M_read_73 rfl rfl ?_
          refine v_getr 44 fl_M_47 o_31 rfl rfl d_M_read_74 ?_
          refine v_bipush 48 d_M_read_77 rfl ?_
          refine v_iload_n 1 d_M_read_79 rfl rfl ?_
          refine v_imul d_M_read_80 ?_
          refine v_iload_n 2 d_M_read_81 rfl rfl ?_
          refine v_iadd d_M_read_82 ?_
          refine v_iald ar_44 d_M_read_83 ?_
          refine v_iload_n 2 d_M_read_84 rfl rfl ?_
          refine v_ishl d_M_read_85 ?_
          refine v_ior d_M_read_86 ?_
          refine v_puti fl_M_81 ft_6_5 rfl rfl o_31 rfl d_M_read_87 ?_
          refine v_iinc (x2 + 1) 2 [(2, .int (x2 + 1)), (0, .ref (ad G 31)), (1, .int x1)] d_M_read_90 rfl rfl (by decide) rfl ?_
          refine v_goto 27 d_M_read_93 (by decide) ?_
          exact v_sub [1, 2, 0] rfl (ih x1 (x2 + 1) (hset h7 31 5 (((h7 31 5) &&& (((1 : Int32) <<< (x2 &&& 31)) ^^^ (-1))) ||| ((h7 44 (ix ((48 * x1) + x2))) <<< (x2 &&& 31)))))
set_option maxHeartbeats 4000000 in
set_option maxRecDepth 20000 in
theorem c_M_read (G : Gt) (x1 : Int32) (h : Hp) : Cn G m_M_read [.ref (ad G 31), .int x1] h κi (f_M_read x1 h) := by
  refine entryV (by decide) (Nat.le_of_ble_eq_true rfl) rfl ?_
  show V G m_M_read 0 [(0, .ref (ad G 31)), (1, .int x1)] [] h κi _
  unfold f_M_read
  refine v_iload_n 1 d_M_read_0 rfl rfl ?_
  refine v_callSi (As := [.int x1]) (rest := []) (c_M_isSheet G x1 h) co_M_98 so_M_isSheet ⟨by decide, by decide⟩ rfl rfl (Nat.le_of_ble_eq_true rfl) d_M_read_1 (fun r1 h1 _ => ?_)
  refine v_if_ne 10 d_M_read_4 (by decide) (fun c2 => ?_) (fun c2 => ?_)
  · refine v_bipush (-2) d_M_read_7 rfl ?_
    exact v_iret rfl d_M_read_9
  · refine v_aload_n 0 d_M_read_10 rfl rfl ?_
    refine v_getr 41 fl_M_37 o_31 rfl rfl d_M_read_11 ?_
    refine v_iload_n 1 d_M_read_14 rfl rfl ?_
    refine v_zald ar_41 d_M_read_15 ?_
    refine v_if_ne 25 d_M_read_16 (by decide) (fun c3 => ?_) (fun c3 => ?_)
    · refine v_aload_n 0 d_M_read_19 rfl rfl ?_
      refine v_iconst 1 d_M_read_20 rfl ?_
      refine v_callVi (As := [.int 1]) (rest := []) (c_M_meets G 1 h1) co_M_101 io_M_meets o_31 ⟨by decide, by decide⟩ rfl rfl (Nat.le_of_ble_eq_true rfl) d_M_read_21 (fun r4 h4 _ => ?_)
      exact v_iret rfl d_M_read_24
    · refine v_iconst 0 d_M_read_25 rfl ?_
      refine v_istore_n [(2, .int 0), (0, .ref (ad G 31)), (1, .int x1)] d_M_read_26 rfl (by decide) rfl ?_
      exact v_sub [1, 2, 0] rfl (Vl_M_read_27 G FUEL x1 0 h1)
theorem d_M_apart_0 : decode m_M_apart.2.1 0 = .ok (.iload_n 0, 1) := by decide +kernel
theorem d_M_apart_1 : decode m_M_apart.2.1 1 = .ok (.iload_n 1, 1) := by decide +kernel
theorem d_M_apart_2 : decode m_M_apart.2.1 2 = .ok (.if_icmp .ge 9, 3) := by decide +kernel
theorem d_M_apart_5 : decode m_M_apart.2.1 5 = .ok (.iload_n 1, 1) := by decide +kernel
theorem d_M_apart_6 : decode m_M_apart.2.1 6 = .ok (.iload_n 0, 1) := by decide +kernel
theorem d_M_apart_7 : decode m_M_apart.2.1 7 = .ok (.isub, 1) := by decide +kernel
theorem d_M_apart_8 : decode m_M_apart.2.1 8 = .ok (.goto 6, 3) := by decide +kernel
theorem d_M_apart_11 : decode m_M_apart.2.1 11 = .ok (.iload_n 0, 1) := by decide +kernel
theorem d_M_apart_12 : decode m_M_apart.2.1 12 = .ok (.iload_n 1, 1) := by decide +kernel
theorem d_M_apart_13 : decode m_M_apart.2.1 13 = .ok (.isub, 1) := by decide +kernel
theorem d_M_apart_14 : decode m_M_apart.2.1 14 = .ok (.ireturn, 1) := by decide +kernel
set_option maxHeartbeats 4000000 in
set_option maxRecDepth 20000 in
theorem c_M_apart (G : Gt) (x0 : Int32) (x1 : Int32) (h : Hp) : Cn G m_M_apart [.int x0, .int x1] h κi (f_M_apart x0 x1 h) := by
  refine entryV (by decide) (Nat.le_of_ble_eq_true rfl) rfl ?_
  show V G m_M_apart 0 [(0, .int x0), (1, .int x1)] [] h κi _
  unfold f_M_apart
  refine v_iload_n 0 d_M_apart_0 rfl rfl ?_
  refine v_iload_n 1 d_M_apart_1 rfl rfl ?_
  refine v_icmp_ge 11 d_M_apart_2 (by decide) (fun c1 => ?_) (fun c1 => ?_)
  · refine v_iload_n 0 d_M_apart_11 rfl rfl ?_
    refine v_iload_n 1 d_M_apart_12 rfl rfl ?_
    refine v_isub d_M_apart_13 ?_
    exact v_iret rfl d_M_apart_14
  · refine v_iload_n 1 d_M_apart_5 rfl rfl ?_
    refine v_iload_n 0 d_M_apart_6 rfl rfl ?_
    refine v_isub d_M_apart_7 ?_
    refine v_goto 14 d_M_apart_8 (by decide) ?_
    exact v_iret rfl d_M_apart_14
theorem d_M_farOf_0 : decode m_M_farOf.2.1 0 = .ok (.aload_n 0, 1) := by decide +kernel
theorem d_M_farOf_1 : decode m_M_farOf.2.1 1 = .ok (.getfield 13, 3) := by decide +kernel
theorem d_M_farOf_4 : decode m_M_farOf.2.1 4 = .ok (.iload_n 1, 1) := by decide +kernel
theorem d_M_farOf_5 : decode m_M_farOf.2.1 5 = .ok (.iaload, 1) := by decide +kernel
theorem d_M_farOf_6 : decode m_M_farOf.2.1 6 = .ok (.aload_n 0, 1) := by decide +kernel
theorem d_M_farOf_7 : decode m_M_farOf.2.1 7 = .ok (.getfield 13, 3) := by decide +kernel
theorem d_M_farOf_10 : decode m_M_farOf.2.1 10 = .ok (.iload_n 2, 1) := by decide +kernel
theorem d_M_farOf_11 : decode m_M_farOf.2.1 11 = .ok (.iaload, 1) := by decide +kernel
theorem d_M_farOf_12 : decode m_M_farOf.2.1 12 = .ok (.invokestatic 104, 3) := by decide +kernel
theorem d_M_farOf_15 : decode m_M_farOf.2.1 15 = .ok (.aload_n 0, 1) := by decide +kernel
theorem d_M_farOf_16 : decode m_M_farOf.2.1 16 = .ok (.getfield 16, 3) := by decide +kernel
theorem d_M_farOf_19 : decode m_M_farOf.2.1 19 = .ok (.iload_n 1, 1) := by decide +kernel
theorem d_M_farOf_20 : decode m_M_farOf.2.1 20 = .ok (.iaload, 1) := by decide +kernel
theorem d_M_farOf_21 : decode m_M_farOf.2.1 21 = .ok (.aload_n 0, 1) := by decide +kernel
theorem d_M_farOf_22 : decode m_M_farOf.2.1 22 = .ok (.getfield 16, 3) := by decide +kernel
theorem d_M_farOf_25 : decode m_M_farOf.2.1 25 = .ok (.iload_n 2, 1) := by decide +kernel
theorem d_M_farOf_26 : decode m_M_farOf.2.1 26 = .ok (.iaload, 1) := by decide +kernel
theorem d_M_farOf_27 : decode m_M_farOf.2.1 27 = .ok (.invokestatic 104, 3) := by decide +kernel
theorem d_M_farOf_30 : decode m_M_farOf.2.1 30 = .ok (.iadd, 1) := by decide +kernel
theorem d_M_farOf_31 : decode m_M_farOf.2.1 31 = .ok (.ireturn, 1) := by decide +kernel
set_option maxHeartbeats 4000000 in
set_option maxRecDepth 20000 in
theorem c_M_farOf (G : Gt) (x1 : Int32) (x2 : Int32) (h : Hp) : Cn G m_M_farOf [.ref (ad G 31), .int x1, .int x2] h κi (f_M_farOf x1 x2 h) := by
  refine entryV (by decide) (Nat.le_of_ble_eq_true rfl) rfl ?_
  show V G m_M_farOf 0 [(0, .ref (ad G 31)), (1, .int x1), (2, .int x2)] [] h κi _
  unfold f_M_farOf
  refine v_aload_n 0 d_M_farOf_0 rfl rfl ?_
  refine v_getr 33 fl_M_13 o_31 rfl rfl d_M_farOf_1 ?_
  refine v_iload_n 1 d_M_farOf_4 rfl rfl ?_
  refine v_iald ar_33 d_M_farOf_5 ?_
  refine v_aload_n 0 d_M_farOf_6 rfl rfl ?_
  refine v_getr 33 fl_M_13 o_31 rfl rfl d_M_farOf_7 ?_
  refine v_iload_n 2 d_M_farOf_10 rfl rfl ?_
  refine v_iald ar_33 d_M_farOf_11 ?_
  refine v_callSi (As := [.int (h 33 (ix x1)), .int (h 33 (ix x2))]) (rest := []) (c_M_apart G (h 33 (ix x1)) (h 33 (ix x2)) h) co_M_104 so_M_apart ⟨by decide, by decide⟩ rfl rfl (Nat.le_of_ble_eq_true rfl) d_M_farOf_12 (fun r1 h1 _ => ?_)
  refine v_aload_n 0 d_M_farOf_15 rfl rfl ?_
  refine v_getr 34 fl_M_16 o_31 rfl rfl d_M_farOf_16 ?_
  refine v_iload_n 1 d_M_farOf_19 rfl rfl ?_
  refine v_iald ar_34 d_M_farOf_20 ?_
  refine v_aload_n 0 d_M_farOf_21 rfl rfl ?_
  refine v_getr 34 fl_M_16 o_31 rfl rfl d_M_farOf_22 ?_
  refine v_iload_n 2 d_M_farOf_25 rfl rfl ?_
  refine v_iald ar_34 d_M_farOf_26 ?_
  refine v_callSi (As := [.int (h1 34 (ix x1)), .int (h1 34 (ix x2))]) (rest := [.int r1]) (c_M_apart G (h1 34 (ix x1)) (h1 34 (ix x2)) h1) co_M_104 so_M_apart ⟨by decide, by decide⟩ rfl rfl (Nat.le_of_ble_eq_true rfl) d_M_farOf_27 (fun r2 h2 _ => ?_)
  refine v_iadd d_M_farOf_30 ?_
  exact v_iret rfl d_M_farOf_31
theorem d_M_far_0 : decode m_M_far.2.1 0 = .ok (.aload_n 0, 1) := by decide +kernel
theorem d_M_far_1 : decode m_M_far.2.1 1 = .ok (.iload_n 1, 1) := by decide +kernel
theorem d_M_far_2 : decode m_M_far.2.1 2 = .ok (.invokevirtual 84, 3) := by decide +kernel
theorem d_M_far_5 : decode m_M_far.2.1 5 = .ok (.ifCond .eq 20, 3) := by decide +kernel
theorem d_M_far_8 : decode m_M_far.2.1 8 = .ok (.aload_n 0, 1) := by decide +kernel
theorem d_M_far_9 : decode m_M_far.2.1 9 = .ok (.iload_n 2, 1) := by decide +kernel
theorem d_M_far_10 : decode m_M_far.2.1 10 = .ok (.invokevirtual 84, 3) := by decide +kernel
theorem d_M_far_13 : decode m_M_far.2.1 13 = .ok (.ifCond .eq 12, 3) := by decide +kernel
theorem d_M_far_16 : decode m_M_far.2.1 16 = .ok (.aload_n 0, 1) := by decide +kernel
theorem d_M_far_17 : decode m_M_far.2.1 17 = .ok (.iload_n 1, 1) := by decide +kernel
theorem d_M_far_18 : decode m_M_far.2.1 18 = .ok (.iload_n 2, 1) := by decide +kernel
theorem d_M_far_19 : decode m_M_far.2.1 19 = .ok (.invokevirtual 107, 3) := by decide +kernel
theorem d_M_far_22 : decode m_M_far.2.1 22 = .ok (.goto 5, 3) := by decide +kernel
theorem d_M_far_25 : decode m_M_far.2.1 25 = .ok (.bipush (-2), 2) := by decide +kernel
theorem d_M_far_27 : decode m_M_far.2.1 27 = .ok (.ireturn, 1) := by decide +kernel
set_option maxHeartbeats 4000000 in
set_option maxRecDepth 20000 in
theorem c_M_far (G : Gt) (x1 : Int32) (x2 : Int32) (h : Hp) : Cn G m_M_far [.ref (ad G 31), .int x1, .int x2] h κi (f_M_far x1 x2 h) := by
  refine entryV (by decide) (Nat.le_of_ble_eq_true rfl) rfl ?_
  show V G m_M_far 0 [(0, .ref (ad G 31)), (1, .int x1), (2, .int x2)] [] h κi _
  unfold f_M_far
  refine v_aload_n 0 d_M_far_0 rfl rfl ?_
  refine v_iload_n 1 d_M_far_1 rfl rfl ?_
  refine v_callVi (As := [.int x1]) (rest := []) (c_M_isPeg G x1 h) co_M_84 io_M_isPeg o_31 ⟨by decide, by decide⟩ rfl rfl (Nat.le_of_ble_eq_true rfl) d_M_far_2 (fun r1 h1 _ => ?_)
  refine v_if_eq 25 d_M_far_5 (by decide) (fun c2 => ?_) (fun c2 => ?_)
  · refine v_bipush (-2) d_M_far_25 rfl ?_
    exact v_iret rfl d_M_far_27
  · refine v_aload_n 0 d_M_far_8 rfl rfl ?_
    refine v_iload_n 2 d_M_far_9 rfl rfl ?_
    refine v_callVi (As := [.int x2]) (rest := []) (c_M_isPeg G x2 h1) co_M_84 io_M_isPeg o_31 ⟨by decide, by decide⟩ rfl rfl (Nat.le_of_ble_eq_true rfl) d_M_far_10 (fun r3 h3 _ => ?_)
    refine v_if_eq 25 d_M_far_13 (by decide) (fun c4 => ?_) (fun c4 => ?_)
    · refine v_bipush (-2) d_M_far_25 rfl ?_
      exact v_iret rfl d_M_far_27
    · refine v_aload_n 0 d_M_far_16 rfl rfl ?_
      refine v_iload_n 1 d_M_far_17 rfl rfl ?_
      refine v_iload_n 2 d_M_far_18 rfl rfl ?_
      refine v_callVi (As := [.int x1, .int x2]) (rest := []) (c_M_farOf G x1 x2 h3) co_M_107 io_M_farOf o_31 ⟨by decide, by decide⟩ rfl rfl (Nat.le_of_ble_eq_true rfl) d_M_far_19 (fun r5 h5 _ => ?_)
      refine v_goto 27 d_M_far_22 (by decide) ?_
      exact v_iret rfl d_M_far_27
theorem d_M_isLaw_0 : decode m_M_isLaw.2.1 0 = .ok (.iload_n 0, 1) := by decide +kernel
theorem d_M_isLaw_1 : decode m_M_isLaw.2.1 1 = .ok (.iconst 0, 1) := by decide +kernel
theorem d_M_isLaw_2 : decode m_M_isLaw.2.1 2 = .ok (.iconst 3, 1) := by decide +kernel
theorem d_M_isLaw_3 : decode m_M_isLaw.2.1 3 = .ok (.invokestatic 60, 3) := by decide +kernel
theorem d_M_isLaw_6 : decode m_M_isLaw.2.1 6 = .ok (.ireturn, 1) := by decide +kernel
set_option maxHeartbeats 4000000 in
set_option maxRecDepth 20000 in
theorem c_M_isLaw (G : Gt) (x0 : Int32) (h : Hp) : Cn G m_M_isLaw [.int x0] h κi (f_M_isLaw x0 h) := by
  refine entryV (by decide) (Nat.le_of_ble_eq_true rfl) rfl ?_
  show V G m_M_isLaw 0 [(0, .int x0)] [] h κi _
  unfold f_M_isLaw
  refine v_iload_n 0 d_M_isLaw_0 rfl rfl ?_
  refine v_iconst 0 d_M_isLaw_1 rfl ?_
  refine v_iconst 3 d_M_isLaw_2 rfl ?_
  refine v_callSi (As := [.int x0, .int 0, .int 3]) (rest := []) (c_M_in G x0 0 3 h) co_M_60 so_M_in ⟨by decide, by decide⟩ rfl rfl (Nat.le_of_ble_eq_true rfl) d_M_isLaw_3 (fun r1 h1 _ => ?_)
  exact v_zret rfl d_M_isLaw_6
theorem d_M_isWeb_0 : decode m_M_isWeb.2.1 0 = .ok (.aload_n 0, 1) := by decide +kernel
theorem d_M_isWeb_1 : decode m_M_isWeb.2.1 1 = .ok (.iload_n 1, 1) := by decide +kernel
theorem d_M_isWeb_2 : decode m_M_isWeb.2.1 2 = .ok (.invokevirtual 84, 3) := by decide +kernel
theorem d_M_isWeb_5 : decode m_M_isWeb.2.1 5 = .ok (.ifCond .eq 14, 3) := by decide +kernel
theorem d_M_isWeb_8 : decode m_M_isWeb.2.1 8 = .ok (.iload_n 2, 1) := by decide +kernel
theorem d_M_isWeb_9 : decode m_M_isWeb.2.1 9 = .ok (.invokestatic 130, 3) := by decide +kernel
theorem d_M_isWeb_12 : decode m_M_isWeb.2.1 12 = .ok (.ifCond .eq 7, 3) := by decide +kernel
theorem d_M_isWeb_15 : decode m_M_isWeb.2.1 15 = .ok (.iconst 1, 1) := by decide +kernel
theorem d_M_isWeb_16 : decode m_M_isWeb.2.1 16 = .ok (.goto 4, 3) := by decide +kernel
theorem d_M_isWeb_19 : decode m_M_isWeb.2.1 19 = .ok (.iconst 0, 1) := by decide +kernel
theorem d_M_isWeb_20 : decode m_M_isWeb.2.1 20 = .ok (.ireturn, 1) := by decide +kernel
set_option maxHeartbeats 4000000 in
set_option maxRecDepth 20000 in
theorem c_M_isWeb (G : Gt) (x1 : Int32) (x2 : Int32) (h : Hp) : Cn G m_M_isWeb [.ref (ad G 31), .int x1, .int x2] h κi (f_M_isWeb x1 x2 h) := by
  refine entryV (by decide) (Nat.le_of_ble_eq_true rfl) rfl ?_
  show V G m_M_isWeb 0 [(0, .ref (ad G 31)), (1, .int x1), (2, .int x2)] [] h κi _
  unfold f_M_isWeb
  refine v_aload_n 0 d_M_isWeb_0 rfl rfl ?_
  refine v_iload_n 1 d_M_isWeb_1 rfl rfl ?_
  refine v_callVi (As := [.int x1]) (rest := []) (c_M_isPeg G x1 h) co_M_84 io_M_isPeg o_31 ⟨by decide, by decide⟩ rfl rfl (Nat.le_of_ble_eq_true rfl) d_M_isWeb_2 (fun r1 h1 _ => ?_)
  refine v_if_eq 19 d_M_isWeb_5 (by decide) (fun c2 => ?_) (fun c2 => ?_)
  · refine v_iconst 0 d_M_isWeb_19 rfl ?_
    exact v_zretL rfl rfl d_M_isWeb_20
  · refine v_iload_n 2 d_M_isWeb_8 rfl rfl ?_
    refine v_callSi (As := [.int x2]) (rest := []) (c_M_isLaw G x2 h1) co_M_130 so_M_isLaw ⟨by decide, by decide⟩ rfl rfl (Nat.le_of_ble_eq_true rfl) d_M_isWeb_9 (fun r3 h3 _ => ?_)
    refine v_if_eq 19 d_M_isWeb_12 (by decide) (fun c4 => ?_) (fun c4 => ?_)
    · refine v_iconst 0 d_M_isWeb_19 rfl ?_
      exact v_zretL rfl rfl d_M_isWeb_20
    · refine v_iconst 1 d_M_isWeb_15 rfl ?_
      refine v_goto 20 d_M_isWeb_16 (by decide) ?_
      exact v_zretL rfl rfl d_M_isWeb_20
theorem d_M_isIn_0 : decode m_M_isIn.2.1 0 = .ok (.iload_n 0, 1) := by decide +kernel
theorem d_M_isIn_1 : decode m_M_isIn.2.1 1 = .ok (.iload_n 1, 1) := by decide +kernel
theorem d_M_isIn_2 : decode m_M_isIn.2.1 2 = .ok (.ishr, 1) := by decide +kernel
theorem d_M_isIn_3 : decode m_M_isIn.2.1 3 = .ok (.iconst 1, 1) := by decide +kernel
theorem d_M_isIn_4 : decode m_M_isIn.2.1 4 = .ok (.iand, 1) := by decide +kernel
theorem d_M_isIn_5 : decode m_M_isIn.2.1 5 = .ok (.iconst 1, 1) := by decide +kernel
theorem d_M_isIn_6 : decode m_M_isIn.2.1 6 = .ok (.if_icmp .ne 7, 3) := by decide +kernel
theorem d_M_isIn_9 : decode m_M_isIn.2.1 9 = .ok (.iconst 1, 1) := by decide +kernel
theorem d_M_isIn_10 : decode m_M_isIn.2.1 10 = .ok (.goto 4, 3) := by decide +kernel
theorem d_M_isIn_13 : decode m_M_isIn.2.1 13 = .ok (.iconst 0, 1) := by decide +kernel
theorem d_M_isIn_14 : decode m_M_isIn.2.1 14 = .ok (.ireturn, 1) := by decide +kernel
set_option maxHeartbeats 4000000 in
set_option maxRecDepth 20000 in
theorem c_M_isIn (G : Gt) (x0 : Int32) (x1 : Int32) (h : Hp) : Cn G m_M_isIn [.int x0, .int x1] h κi (f_M_isIn x0 x1 h) := by
  refine entryV (by decide) (Nat.le_of_ble_eq_true rfl) rfl ?_
  show V G m_M_isIn 0 [(0, .int x0), (1, .int x1)] [] h κi _
  unfold f_M_isIn
  refine v_iload_n 0 d_M_isIn_0 rfl rfl ?_
  refine v_iload_n 1 d_M_isIn_1 rfl rfl ?_
  refine v_ishr d_M_isIn_2 ?_
  refine v_iconst 1 d_M_isIn_3 rfl ?_
  refine v_iand d_M_isIn_4 ?_
  refine v_iconst 1 d_M_isIn_5 rfl ?_
  refine v_icmp_ne 13 d_M_isIn_6 (by decide) (fun c1 => ?_) (fun c1 => ?_)
  · refine v_iconst 1 d_M_isIn_9 rfl ?_
    refine v_goto 14 d_M_isIn_10 (by decide) ?_
    exact v_zretL rfl rfl d_M_isIn_14
  · refine v_iconst 0 d_M_isIn_13 rfl ?_
    exact v_zretL rfl rfl d_M_isIn_14
theorem d_M_isHidden_0 : decode m_M_isHidden.2.1 0 = .ok (.aload_n 0, 1) := by decide +kernel
theorem d_M_isHidden_1 : decode m_M_isHidden.2.1 1 = .ok (.getfield 81, 3) := by decide +kernel
theorem d_M_isHidden_4 : decode m_M_isHidden.2.1 4 = .ok (.iload_n 1, 1) := by decide +kernel
theorem d_M_isHidden_5 : decode m_M_isHidden.2.1 5 = .ok (.invokestatic 113, 3) := by decide +kernel
theorem d_M_isHidden_8 : decode m_M_isHidden.2.1 8 = .ok (.ireturn, 1) := by decide +kernel
set_option maxHeartbeats 4000000 in
set_option maxRecDepth 20000 in
theorem c_M_isHidden (G : Gt) (x1 : Int32) (h : Hp) : Cn G m_M_isHidden [.ref (ad G 31), .int x1] h κi (f_M_isHidden x1 h) := by
  refine entryV (by decide) (Nat.le_of_ble_eq_true rfl) rfl ?_
  show V G m_M_isHidden 0 [(0, .ref (ad G 31)), (1, .int x1)] [] h κi _
  unfold f_M_isHidden
  refine v_aload_n 0 d_M_isHidden_0 rfl rfl ?_
  refine v_geti fl_M_81 o_31 rfl d_M_isHidden_1 ?_
  refine v_iload_n 1 d_M_isHidden_4 rfl rfl ?_
  refine v_callSi (As := [.int (h 31 5), .int x1]) (rest := []) (c_M_isIn G (h 31 5) x1 h) co_M_113 so_M_isIn ⟨by decide, by decide⟩ rfl rfl (Nat.le_of_ble_eq_true rfl) d_M_isHidden_5 (fun r1 h1 _ => ?_)
  exact v_zret rfl d_M_isHidden_8
theorem d_M_place_0 : decode m_M_place.2.1 0 = .ok (.bipush 10, 2) := by decide +kernel
theorem d_M_place_2 : decode m_M_place.2.1 2 = .ok (.aload_n 0, 1) := by decide +kernel
theorem d_M_place_3 : decode m_M_place.2.1 3 = .ok (.getfield 16, 3) := by decide +kernel
theorem d_M_place_6 : decode m_M_place.2.1 6 = .ok (.iload_n 1, 1) := by decide +kernel
theorem d_M_place_7 : decode m_M_place.2.1 7 = .ok (.iaload, 1) := by decide +kernel
theorem d_M_place_8 : decode m_M_place.2.1 8 = .ok (.imul, 1) := by decide +kernel
theorem d_M_place_9 : decode m_M_place.2.1 9 = .ok (.aload_n 0, 1) := by decide +kernel
theorem d_M_place_10 : decode m_M_place.2.1 10 = .ok (.getfield 13, 3) := by decide +kernel
theorem d_M_place_13 : decode m_M_place.2.1 13 = .ok (.iload_n 1, 1) := by decide +kernel
theorem d_M_place_14 : decode m_M_place.2.1 14 = .ok (.iaload, 1) := by decide +kernel
theorem d_M_place_15 : decode m_M_place.2.1 15 = .ok (.iadd, 1) := by decide +kernel
theorem d_M_place_16 : decode m_M_place.2.1 16 = .ok (.ireturn, 1) := by decide +kernel
set_option maxHeartbeats 4000000 in
set_option maxRecDepth 20000 in
theorem c_M_place (G : Gt) (x1 : Int32) (h : Hp) : Cn G m_M_place [.ref (ad G 31), .int x1] h κi (f_M_place x1 h) := by
  refine entryV (by decide) (Nat.le_of_ble_eq_true rfl) rfl ?_
  show V G m_M_place 0 [(0, .ref (ad G 31)), (1, .int x1)] [] h κi _
  unfold f_M_place
  refine v_bipush 10 d_M_place_0 rfl ?_
  refine v_aload_n 0 d_M_place_2 rfl rfl ?_
  refine v_getr 34 fl_M_16 o_31 rfl rfl d_M_place_3 ?_
  refine v_iload_n 1 d_M_place_6 rfl rfl ?_
  refine v_iald ar_34 d_M_place_7 ?_
  refine v_imul d_M_place_8 ?_
  refine v_aload_n 0 d_M_place_9 rfl rfl ?_
  refine v_getr 33 fl_M_13 o_31 rfl rfl d_M_place_10 ?_
  refine v_iload_n 1 d_M_place_13 rfl rfl ?_
  refine v_iald ar_33 d_M_place_14 ?_
  refine v_iadd d_M_place_15 ?_
  exact v_iret rfl d_M_place_16
theorem d_M_nextOf_0 : decode m_M_nextOf.2.1 0 = .ok (.iconst (-1), 1) := by decide +kernel
theorem d_M_nextOf_1 : decode m_M_nextOf.2.1 1 = .ok (.istore 4, 2) := by decide +kernel
theorem d_M_nextOf_3 : decode m_M_nextOf.2.1 3 = .ok (.iconst 0, 1) := by decide +kernel
theorem d_M_nextOf_4 : decode m_M_nextOf.2.1 4 = .ok (.istore 5, 2) := by decide +kernel
theorem d_M_nextOf_6 : decode m_M_nextOf.2.1 6 = .ok (.iconst 0, 1) := by decide +kernel
theorem d_M_nextOf_7 : decode m_M_nextOf.2.1 7 = .ok (.istore 6, 2) := by decide +kernel
theorem d_M_nextOf_9 : decode m_M_nextOf.2.1 9 = .ok (.iload 6, 2) := by decide +kernel
theorem d_M_nextOf_11 : decode m_M_nextOf.2.1 11 = .ok (.aload_n 0, 1) := by decide +kernel
theorem d_M_nextOf_12 : decode m_M_nextOf.2.1 12 = .ok (.getfield 67, 3) := by decide +kernel
theorem d_M_nextOf_15 : decode m_M_nextOf.2.1 15 = .ok (.if_icmp .ge 144, 3) := by decide +kernel
theorem d_M_nextOf_18 : decode m_M_nextOf.2.1 18 = .ok (.iload_n 2, 1) := by decide +kernel
theorem d_M_nextOf_19 : decode m_M_nextOf.2.1 19 = .ok (.ifCond .ne 13, 3) := by decide +kernel
theorem d_M_nextOf_22 : decode m_M_nextOf.2.1 22 = .ok (.aload_n 0, 1) := by decide +kernel
theorem d_M_nextOf_23 : decode m_M_nextOf.2.1 23 = .ok (.iload_n 1, 1) := by decide +kernel
theorem d_M_nextOf_24 : decode m_M_nextOf.2.1 24 = .ok (.iload 6, 2) := by decide +kernel
theorem d_M_nextOf_26 : decode m_M_nextOf.2.1 26 = .ok (.invokevirtual 107, 3) := by decide +kernel
theorem d_M_nextOf_29 : decode m_M_nextOf.2.1 29 = .ok (.goto 65, 3) := by decide +kernel
theorem d_M_nextOf_32 : decode m_M_nextOf.2.1 32 = .ok (.iload_n 2, 1) := by decide +kernel
theorem d_M_nextOf_33 : decode m_M_nextOf.2.1 33 = .ok (.iconst 1, 1) := by decide +kernel
theorem d_M_nextOf_34 : decode m_M_nextOf.2.1 34 = .ok (.if_icmp .ne 14, 3) := by decide +kernel
theorem d_M_nextOf_37 : decode m_M_nextOf.2.1 37 = .ok (.aload_n 0, 1) := by decide +kernel
theorem d_M_nextOf_38 : decode m_M_nextOf.2.1 38 = .ok (.iload_n 1, 1) := by decide +kernel
theorem d_M_nextOf_39 : decode m_M_nextOf.2.1 39 = .ok (.iload 6, 2) := by decide +kernel
theorem d_M_nextOf_41 : decode m_M_nextOf.2.1 41 = .ok (.invokevirtual 107, 3) := by decide +kernel
theorem d_M_nextOf_44 : decode m_M_nextOf.2.1 44 = .ok (.ineg, 1) := by decide +kernel
theorem d_M_nextOf_45 : decode m_M_nextOf.2.1 45 = .ok (.goto 49, 3) := by decide +kernel
theorem d_M_nextOf_48 : decode m_M_nextOf.2.1 48 = .ok (.iload_n 2, 1) := by decide +kernel
theorem d_M_nextOf_49 : decode m_M_nextOf.2.1 49 = .ok (.iconst 2, 1) := by decide +kernel
theorem d_M_nextOf_50 : decode m_M_nextOf.2.1 50 = .ok (.if_icmp .ne 26, 3) := by decide +kernel
theorem d_M_nextOf_53 : decode m_M_nextOf.2.1 53 = .ok (.iload 6, 2) := by decide +kernel
theorem d_M_nextOf_55 : decode m_M_nextOf.2.1 55 = .ok (.iload_n 1, 1) := by decide +kernel
theorem d_M_nextOf_56 : decode m_M_nextOf.2.1 56 = .ok (.if_icmp .le 10, 3) := by decide +kernel
theorem d_M_nextOf_59 : decode m_M_nextOf.2.1 59 = .ok (.iload 6, 2) := by decide +kernel
theorem d_M_nextOf_61 : decode m_M_nextOf.2.1 61 = .ok (.iload_n 1, 1) := by decide +kernel
theorem d_M_nextOf_62 : decode m_M_nextOf.2.1 62 = .ok (.isub, 1) := by decide +kernel
theorem d_M_nextOf_63 : decode m_M_nextOf.2.1 63 = .ok (.goto 31, 3) := by decide +kernel
theorem d_M_nextOf_66 : decode m_M_nextOf.2.1 66 = .ok (.iload 6, 2) := by decide +kernel
theorem d_M_nextOf_68 : decode m_M_nextOf.2.1 68 = .ok (.iload_n 1, 1) := by decide +kernel
theorem d_M_nextOf_69 : decode m_M_nextOf.2.1 69 = .ok (.isub, 1) := by decide +kernel
theorem d_M_nextOf_70 : decode m_M_nextOf.2.1 70 = .ok (.bipush 11, 2) := by decide +kernel
theorem d_M_nextOf_72 : decode m_M_nextOf.2.1 72 = .ok (.iadd, 1) := by decide +kernel
theorem d_M_nextOf_73 : decode m_M_nextOf.2.1 73 = .ok (.goto 21, 3) := by decide +kernel
theorem d_M_nextOf_76 : decode m_M_nextOf.2.1 76 = .ok (.aload_n 0, 1) := by decide +kernel
theorem d_M_nextOf_77 : decode m_M_nextOf.2.1 77 = .ok (.iload 6, 2) := by decide +kernel
theorem d_M_nextOf_79 : decode m_M_nextOf.2.1 79 = .ok (.invokevirtual 110, 3) := by decide +kernel
theorem d_M_nextOf_82 : decode m_M_nextOf.2.1 82 = .ok (.aload_n 0, 1) := by decide +kernel
theorem d_M_nextOf_83 : decode m_M_nextOf.2.1 83 = .ok (.iload_n 1, 1) := by decide +kernel
theorem d_M_nextOf_84 : decode m_M_nextOf.2.1 84 = .ok (.invokevirtual 110, 3) := by decide +kernel
theorem d_M_nextOf_87 : decode m_M_nextOf.2.1 87 = .ok (.isub, 1) := by decide +kernel
theorem d_M_nextOf_88 : decode m_M_nextOf.2.1 88 = .ok (.bipush 100, 2) := by decide +kernel
theorem d_M_nextOf_90 : decode m_M_nextOf.2.1 90 = .ok (.iadd, 1) := by decide +kernel
theorem d_M_nextOf_91 : decode m_M_nextOf.2.1 91 = .ok (.bipush 100, 2) := by decide +kernel
theorem d_M_nextOf_93 : decode m_M_nextOf.2.1 93 = .ok (.irem, 1) := by decide +kernel
theorem d_M_nextOf_94 : decode m_M_nextOf.2.1 94 = .ok (.istore 7, 2) := by decide +kernel
theorem d_M_nextOf_96 : decode m_M_nextOf.2.1 96 = .ok (.iload_n 3, 1) := by decide +kernel
theorem d_M_nextOf_97 : decode m_M_nextOf.2.1 97 = .ok (.iload 6, 2) := by decide +kernel
theorem d_M_nextOf_99 : decode m_M_nextOf.2.1 99 = .ok (.invokestatic 113, 3) := by decide +kernel
theorem d_M_nextOf_102 : decode m_M_nextOf.2.1 102 = .ok (.ifCond .eq 20, 3) := by decide +kernel
theorem d_M_nextOf_105 : decode m_M_nextOf.2.1 105 = .ok (.iload 4, 2) := by decide +kernel
theorem d_M_nextOf_107 : decode m_M_nextOf.2.1 107 = .ok (.iconst (-1), 1) := by decide +kernel
theorem d_M_nextOf_108 : decode m_M_nextOf.2.1 108 = .ok (.if_icmp .eq 10, 3) := by decide +kernel
theorem d_M_nextOf_111 : decode m_M_nextOf.2.1 111 = .ok (.iload 7, 2) := by decide +kernel
theorem d_M_nextOf_113 : decode m_M_nextOf.2.1 113 = .ok (.iload 5, 2) := by decide +kernel
theorem d_M_nextOf_115 : decode m_M_nextOf.2.1 115 = .ok (.if_icmp .ge 7, 3) := by decide +kernel
theorem d_M_nextOf_118 : decode m_M_nextOf.2.1 118 = .ok (.iconst 1, 1) := by decide +kernel
theorem d_M_nextOf_119 : decode m_M_nextOf.2.1 119 = .ok (.goto 4, 3) := by decide +kernel
theorem d_M_nextOf_122 : decode m_M_nextOf.2.1 122 = .ok (.iconst 0, 1) := by decide +kernel
theorem d_M_nextOf_123 : decode m_M_nextOf.2.1 123 = .ok (.istore 8, 2) := by decide +kernel
theorem d_M_nextOf_125 : decode m_M_nextOf.2.1 125 = .ok (.iload 8, 2) := by decide +kernel
theorem d_M_nextOf_127 : decode m_M_nextOf.2.1 127 = .ok (.ifCond .eq 8, 3) := by decide +kernel
theorem d_M_nextOf_130 : decode m_M_nextOf.2.1 130 = .ok (.iload 6, 2) := by decide +kernel
theorem d_M_nextOf_132 : decode m_M_nextOf.2.1 132 = .ok (.goto 5, 3) := by decide +kernel
theorem d_M_nextOf_135 : decode m_M_nextOf.2.1 135 = .ok (.iload 4, 2) := by decide +kernel
theorem d_M_nextOf_137 : decode m_M_nextOf.2.1 137 = .ok (.istore 4, 2) := by decide +kernel
theorem d_M_nextOf_139 : decode m_M_nextOf.2.1 139 = .ok (.iload 8, 2) := by decide +kernel
theorem d_M_nextOf_141 : decode m_M_nextOf.2.1 141 = .ok (.ifCond .eq 8, 3) := by decide +kernel
theorem d_M_nextOf_144 : decode m_M_nextOf.2.1 144 = .ok (.iload 7, 2) := by decide +kernel
theorem d_M_nextOf_146 : decode m_M_nextOf.2.1 146 = .ok (.goto 5, 3) := by decide +kernel
theorem d_M_nextOf_149 : decode m_M_nextOf.2.1 149 = .ok (.iload 5, 2) := by decide +kernel
theorem d_M_nextOf_151 : decode m_M_nextOf.2.1 151 = .ok (.istore 5, 2) := by decide +kernel
theorem d_M_nextOf_153 : decode m_M_nextOf.2.1 153 = .ok (.iinc 6 1, 3) := by decide +kernel
theorem d_M_nextOf_156 : decode m_M_nextOf.2.1 156 = .ok (.goto (-147), 3) := by decide +kernel
theorem d_M_nextOf_159 : decode m_M_nextOf.2.1 159 = .ok (.iload 4, 2) := by decide +kernel
theorem d_M_nextOf_161 : decode m_M_nextOf.2.1 161 = .ok (.ireturn, 1) := by decide +kernel
set_option maxHeartbeats 4000000 in
set_option maxRecDepth 20000 in
theorem Vl_M_nextOf_9 (G : Gt) : ∀ (n : Nat) (x1 : Int32) (x2 : Int32) (x3 : Int32) (x4 : Int32) (x5 : Int32) (x6 : Int32) (h : Hp), V G m_M_nextOf 9 [(0, .ref (ad G 31)), (1, .int x1), (2, .int x2), (3, .int x3), (4, .int x4), (5, .int x5), (6, .int x6)] [] h κi (l_M_nextOf_9 n x1 x2 x3 x4 x5 x6 h) := by
  intro n
  induction n with
  | zero => intros; exact v_none
  | succ n ih =>
    intro x1 x2 x3 x4 x5 x6 h
    rw [l_M_nextOf_9]
    refine v_iload 6 d_M_nextOf_9 rfl ?_
    refine v_aload_n 0 d_M_nextOf_11 rfl rfl ?_
    refine v_geti fl_M_67 o_31 rfl d_M_nextOf_12 ?_
    refine v_icmp_ge 159 d_M_nextOf_15 (by decide) (fun c1 => ?_) (fun c1 => ?_)
    · refine v_iload 4 d_M_nextOf_159 rfl ?_
      exact v_iret rfl d_M_nextOf_161
    · refine v_iload_n 2 d_M_nextOf_18 rfl rfl ?_
      refine v_if_ne 32 d_M_nextOf_19 (by decide) (fun c2 => ?_) (fun c2 => ?_)
      · refine v_aload_n 0 d_M_nextOf_22 rfl rfl ?_
        refine v_iload_n 1 d_M_nextOf_23 rfl rfl ?_
        refine v_iload 6 d_M_nextOf_24 rfl ?_
        refine v_callVi (As := [.int x1, .int x6]) (rest := []) (c_M_farOf G x1 x6 h) co_M_107 io_M_farOf o_31 ⟨by decide, by decide⟩ rfl rfl (Nat.le_of_ble_eq_true rfl) d_M_nextOf_26 (fun r3 h3 _ => ?_)
        refine v_goto 94 d_M_nextOf_29 (by decide) ?_
        refine v_istore [(7, .int r3), (0, .ref (ad G 31)), (1, .int x1), (2, .int x2), (3, .int x3), (4, .int x4), (5, .int x5), (6, .int x6)] d_M_nextOf_94 (by decide) rfl ?_
        refine v_iload_n 4 d_M_nextOf_96 rfl rfl ?_
        refine v_iload 7 d_M_nextOf_97 rfl ?_
        refine v_callSi (As := [.int x3, .int x6]) (rest := []) (c_M_isIn G x3 x6 h3) co_M_113 so_M_isIn ⟨by decide, by decide⟩ rfl rfl (Nat.le_of_ble_eq_true rfl) d_M_nextOf_99 (fun r4 h4 _ => ?_)
        refine v_if_eq 122 d_M_nextOf_102 (by decide) (fun c5 => ?_) (fun c5 => ?_)
        · refine v_iconst 0 d_M_nextOf_122 rfl ?_
          refine v_istore [(8, .int 0), (7, .int r3), (0, .ref (ad G 31)), (1, .int x1), (2, .int x2), (3, .int x3), (4, .int x4), (5, .int x5), (6, .int x6)] d_M_nextOf_123 (by decide) rfl ?_
          refine v_iload 0 d_M_nextOf_125 rfl ?_
          refine v_if_eq_t 135 d_M_nextOf_127 (by decide) (by decide) ?_
          refine v_iload 6 d_M_nextOf_135 rfl ?_
          refine v_istore [(4, .int x4), (8, .int 0), (7, .int r3), (0, .ref (ad G 31)), (1, .int x1), (2, .int x2), (3, .int x3), (5, .int x5), (6, .int x6)] d_M_nextOf_137 (by decide) rfl ?_
          refine v_iload 1 d_M_nextOf_139 rfl ?_
          refine v_if_eq_t 149 d_M_nextOf_141 (by decide) (by decide) ?_
          refine v_iload 7 d_M_nextOf_149 rfl ?_
          refine v_istore [(5, .int x5), (4, .int x4), (8, .int 0), (7, .int r3), (0, .ref (ad G 31)), (1, .int x1), (2, .int x2), (3, .int x3), (6, .int x6)] d_M_nextOf_151 (by decide) rfl ?_
          refine v_iinc (x6 + 1) 8 [(6, .int (x6 + 1)), (5, .int x5), (4, .int x4), (8, .int 0), (7, .int r3), (0, .ref (ad G 31)), (1, .int x1), (2, .int x2), (3, .int x3)] d_M_nextOf_153 rfl rfl (by decide) rfl ?_
          refine v_goto 9 d_M_nextOf_156 (by decide) ?_
          exact v_sub [5, 6, 7, 8, 2, 1, 0] rfl (ih x1 x2 x3 x4 x5 (x6 + 1) h4)
        · refine v_iload 5 d_M_nextOf_105 rfl ?_
          refine v_iconst (-1) d_M_nextOf_107 rfl ?_
          refine v_icmp_eq 118 d_M_nextOf_108 (by decide) (fun c6 => ?_) (fun c6 => ?_)
          · refine v_iconst 1 d_M_nextOf_118 rfl ?_
            refine v_goto 123 d_M_nextOf_119 (by decide) ?_
            refine v_istore [(8, .int 1), (7, .int r3), (0, .ref (ad G 31)), (1, .int x1), (2, .int x2), (3, .int x3), (4, .int x4), (5, .int x5), (6, .int x6)] d_M_nextOf_123 (by decide) rfl ?_
            refine v_iload 0 d_M_nextOf_125 rfl ?_
            refine v_if_eq_f 135 d_M_nextOf_127 (by decide) (by decide) ?_
            refine v_iload 8 d_M_nextOf_130 rfl ?_
            refine v_goto 137 d_M_nextOf_132 (by decide) ?_
            refine v_istore [(4, .int x6), (8, .int 1), (7, .int r3), (0, .ref (ad G 31)), (1, .int x1), (2, .int x2), (3, .int x3), (5, .int x5), (6, .int x6)] d_M_nextOf_137 (by decide) rfl ?_
            refine v_iload 1 d_M_nextOf_139 rfl ?_
            refine v_if_eq_f 149 d_M_nextOf_141 (by decide) (by decide) ?_
            refine v_iload 2 d_M_nextOf_144 rfl ?_
            refine v_goto 151 d_M_nextOf_146 (by decide) ?_
            refine v_istore [(5, .int r3), (4, .int x6), (8, .int 1), (7, .int r3), (0, .ref (ad G 31)), (1, .int x1), (2, .int x2), (3, .int x3), (6, .int x6)] d_M_nextOf_151 (by decide) rfl ?_
            refine v_iinc (x6 + 1) 8 [(6, .int (x6 + 1)), (5, .int r3), (4, .int x6), (8, .int 1), (7, .int r3), (0, .ref (ad G 31)), (1, .int x1), (2, .int x2), (3, .int x3)] d_M_nextOf_153 rfl rfl (by decide) rfl ?_
            refine v_goto 9 d_M_nextOf_156 (by decide) ?_
            exact v_sub [5, 6, 7, 8, 2, 1, 0] rfl (ih x1 x2 x3 x6 r3 (x6 + 1) h4)
          · refine v_iload 0 d_M_nextOf_111 rfl ?_
            refine v_iload 6 d_M_nextOf_113 rfl ?_
            refine v_icmp_ge 122 d_M_nextOf_115 (by decide) (fun c7 => ?_) (fun c7 => ?_)
            · refine v_iconst 0 d_M_nextOf_122 rfl ?_
              refine v_istore [(8, .int 0), (7, .int r3), (0, .ref (ad G 31)), (1, .int x1), (2, .int x2), (3, .int x3), (4, .int x4), (5, .int x5), (6, .int x6)] d_M_nextOf_123 (by decide) rfl ?_
              refine v_iload 0 d_M_nextOf_125 rfl ?_
              refine v_if_eq_t 135 d_M_nextOf_127 (by decide) (by decide) ?_
              refine v_iload 6 d_M_nextOf_135 rfl ?_
              refine v_istore [(4, .int x4), (8, .int 0), (7, .int r3), (0, .ref (ad G 31)), (1, .int x1), (2, .int x2), (3, .int x3), (5, .int x5), (6, .int x6)] d_M_nextOf_137 (by decide) rfl ?_
              refine v_iload 1 d_M_nextOf_139 rfl ?_
              refine v_if_eq_t 149 d_M_nextOf_141 (by decide) (by decide) ?_
              refine v_iload 7 d_M_nextOf_149 rfl ?_
              refine v_istore [(5, .int x5), (4, .int x4), (8, .int 0), (7, .int r3), (0, .ref (ad G 31)), (1, .int x1), (2, .int x2), (3, .int x3), (6, .int x6)] d_M_nextOf_151 (by decide) rfl ?_
              refine v_iinc (x6 + 1) 8 [(6, .int (x6 + 1)), (5, .int x5), (4, .int x4), (8, .int 0), (7, .int r3), (0, .ref (ad G 31)), (1, .int x1), (2, .int x2), (3, .int x3)] d_M_nextOf_153 rfl rfl (by decide) rfl ?_
              refine v_goto 9 d_M_nextOf_156 (by decide) ?_
              exact v_sub [5, 6, 7, 8, 2, 1, 0] rfl (ih x1 x2 x3 x4 x5 (x6 + 1) h4)
            · refine v_iconst 1 d_M_nextOf_118 rfl ?_
              refine v_goto 123 d_M_nextOf_119 (by decide) ?_
              refine v_istore [(8, .int 1), (7, .int r3), (0, .ref (ad G 31)), (1, .int x1), (2, .int x2), (3, .int x3), (4, .int x4), (5, .int x5), (6, .int x6)] d_M_nextOf_123 (by decide) rfl ?_
              refine v_iload 0 d_M_nextOf_125 rfl ?_
              refine v_if_eq_f 135 d_M_nextOf_127 (by decide) (by decide) ?_
              refine v_iload 8 d_M_nextOf_130 rfl ?_
              refine v_goto 137 d_M_nextOf_132 (by decide) ?_
              refine v_istore [(4, .int x6), (8, .int 1), (7, .int r3), (0, .ref (ad G 31)), (1, .int x1), (2, .int x2), (3, .int x3), (5, .int x5), (6, .int x6)] d_M_nextOf_137 (by decide) rfl ?_
              refine v_iload 1 d_M_nextOf_139 rfl ?_
              refine v_if_eq_f 149 d_M_nextOf_141 (by decide) (by decide) ?_
              refine v_iload 2 d_M_nextOf_144 rfl ?_
              refine v_goto 151 d_M_nextOf_146 (by decide) ?_
              refine v_istore [(5, .int r3), (4, .int x6), (8, .int 1), (7, .int r3), (0, .ref (ad G 31)), (1, .int x1), (2, .int x2), (3, .int x3), (6, .int x6)] d_M_nextOf_151 (by decide) rfl ?_
              refine v_iinc (x6 + 1) 8 [(6, .int (x6 + 1)), (5, .int r3), (4, .int x6), (8, .int 1), (7, .int r3), (0, .ref (ad G 31)), (1, .int x1), (2, .int x2), (3, .int x3)] d_M_nextOf_153 rfl rfl (by decide) rfl ?_
              refine v_goto 9 d_M_nextOf_156 (by decide) ?_
              exact v_sub [5, 6, 7, 8, 2, 1, 0] rfl (ih x1 x2 x3 x6 r3 (x6 + 1) h4)
      · refine v_iload_n 2 d_M_nextOf_32 rfl rfl ?_
        refine v_iconst 1 d_M_nextOf_33 rfl ?_
        refine v_icmp_ne 48 d_M_nextOf_34 (by decide) (fun c8 => ?_) (fun c8 => ?_)
        · refine v_aload_n 0 d_M_nextOf_37 rfl rfl ?_
          refine v_iload_n 1 d_M_nextOf_38 rfl rfl ?_
          refine v_iload 6 d_M_nextOf_39 rfl ?_
          refine v_callVi (As := [.int x1, .int x6]) (rest := []) (c_M_farOf G x1 x6 h) co_M_107 io_M_farOf o_31 ⟨by decide, by decide⟩ rfl rfl (Nat.le_of_ble_eq_true rfl) d_M_nextOf_41 (fun r9 h9 _ => ?_)
          refine v_ineg d_M_nextOf_44 ?_
          refine v_goto 94 d_M_nextOf_45 (by decide) ?_
          refine v_istore [(7, .int (-r9)), (0, .ref (ad G 31)), (1, .int x1), (2, .int x2), (3, .int x3), (4, .int x4), (5, .int x5), (6, .int x6)] d_M_nextOf_94 (by decide) rfl ?_
          refine v_iload_n 4 d_M_nextOf_96 rfl rfl ?_
          refine v_iload 7 d_M_nextOf_97 rfl ?_
          refine v_callSi (As := [.int x3, .int x6]) (rest := []) (c_M_isIn G x3 x6 h9) co_M_113 so_M_isIn ⟨by decide, by decide⟩ rfl rfl (Nat.le_of_ble_eq_true rfl) d_M_nextOf_99 (fun r10 h10 _ => ?_)
          refine v_if_eq 122 d_M_nextOf_102 (by decide) (fun c11 => ?_) (fun c11 => ?_)
          · refine v_iconst 0 d_M_nextOf_122 rfl ?_
            refine v_istore [(8, .int 0), (7, .int (-r9)), (0, .ref (ad G 31)), (1, .int x1), (2, .int x2), (3, .int x3), (4, .int x4), (5, .int x5), (6, .int x6)] d_M_nextOf_123 (by decide) rfl ?_
            refine v_iload 0 d_M_nextOf_125 rfl ?_
            refine v_if_eq_t 135 d_M_nextOf_127 (by decide) (by decide) ?_
            refine v_iload 6 d_M_nextOf_135 rfl ?_
            refine v_istore [(4, .int x4), (8, .int 0), (7, .int (-r9)), (0, .ref (ad G 31)), (1, .int x1), (2, .int x2), (3, .int x3), (5, .int x5), (6, .int x6)] d_M_nextOf_137 (by decide) rfl ?_
            refine v_iload 1 d_M_nextOf_139 rfl ?_
            refine v_if_eq_t 149 d_M_nextOf_141 (by decide) (by decide) ?_
            refine v_iload 7 d_M_nextOf_149 rfl ?_
            refine v_istore [(5, .int x5), (4, .int x4), (8, .int 0), (7, .int (-r9)), (0, .ref (ad G 31)), (1, .int x1), (2, .int x2), (3, .int x3), (6, .int x6)] d_M_nextOf_151 (by decide) rfl ?_
            refine v_iinc (x6 + 1) 8 [(6, .int (x6 + 1)), (5, .int x5), (4, .int x4), (8, .int 0), (7, .int (-r9)), (0, .ref (ad G 31)), (1, .int x1), (2, .int x2), (3, .int x3)] d_M_nextOf_153 rfl rfl (by decide) rfl ?_
            refine v_goto 9 d_M_nextOf_156 (by decide) ?_
            exact v_sub [5, 6, 7, 8, 2, 1, 0] rfl (ih x1 x2 x3 x4 x5 (x6 + 1) h10)
          · refine v_iload 5 d_M_nextOf_105 rfl ?_
            refine v_iconst (-1) d_M_nextOf_107 rfl ?_
            refine v_icmp_eq 118 d_M_nextOf_108 (by decide) (fun c12 => ?_) (fun c12 => ?_)
            · refine v_iconst 1 d_M_nextOf_118 rfl ?_
              refine v_goto 123 d_M_nextOf_119 (by decide) ?_
              refine v_istore [(8, .int 1), (7, .int (-r9)), (0, .ref (ad G 31)), (1, .int x1), (2, .int x2), (3, .int x3), (4, .int x4), (5, .int x5), (6, .int x6)] d_M_nextOf_123 (by decide) rfl ?_
              refine v_iload 0 d_M_nextOf_125 rfl ?_
              refine v_if_eq_f 135 d_M_nextOf_127 (by decide) (by decide) ?_
              refine v_iload 8 d_M_nextOf_130 rfl ?_
              refine v_goto 137 d_M_nextOf_132 (by decide) ?_
              refine v_istore [(4, .int x6), (8, .int 1), (7, .int (-r9)), (0, .ref (ad G 31)), (1, .int x1), (2, .int x2), (3, .int x3), (5, .int x5), (6, .int x6)] d_M_nextOf_137 (by decide) rfl ?_
              refine v_iload 1 d_M_nextOf_139 rfl ?_
              refine v_if_eq_f 149 d_M_nextOf_141 (by decide) (by decide) ?_
              refine v_iload 2 d_M_nextOf_144 rfl ?_
              refine v_goto 151 d_M_nextOf_146 (by decide) ?_
              refine v_istore [(5, .int (-r9)), (4, .int x6), (8, .int 1), (7, .int (-r9)), (0, .ref (ad G 31)), (1, .int x1), (2, .int x2), (3, .int x3), (6, .int x6)] d_M_nextOf_151 (by decide) rfl ?_
              refine v_iinc (x6 + 1) 8 [(6, .int (x6 + 1)), (5, .int (-r9)), (4, .int x6), (8, .int 1), (7, .int (-r9)), (0, .ref (ad G 31)), (1, .int x1), (2, .int x2), (3, .int x3)] d_M_nextOf_153 rfl rfl (by decide) rfl ?_
              refine v_goto 9 d_M_nextOf_156 (by decide) ?_
              exact v_sub [5, 6, 7, 8, 2, 1, 0] rfl (ih x1 x2 x3 x6 (-r9) (x6 + 1) h10)
            · refine v_iload 0 d_M_nextOf_111 rfl ?_
              refine v_iload 6 d_M_nextOf_113 rfl ?_
              refine v_icmp_ge 122 d_M_nextOf_115 (by decide) (fun c13 => ?_) (fun c13 => ?_)
              · refine v_iconst 0 d_M_nextOf_122 rfl ?_
                refine v_istore [(8, .int 0), (7, .int (-r9)), (0, .ref (ad G 31)), (1, .int x1), (2, .int x2), (3, .int x3), (4, .int x4), (5, .int x5), (6, .int x6)] d_M_nextOf_123 (by decide) rfl ?_
                refine v_iload 0 d_M_nextOf_125 rfl ?_
                refine v_if_eq_t 135 d_M_nextOf_127 (by decide) (by decide) ?_
                refine v_iload 6 d_M_nextOf_135 rfl ?_
                refine v_istore [(4, .int x4), (8, .int 0), (7, .int (-r9)), (0, .ref (ad G 31)), (1, .int x1), (2, .int x2), (3, .int x3), (5, .int x5), (6, .int x6)] d_M_nextOf_137 (by decide) rfl ?_
                refine v_iload 1 d_M_nextOf_139 rfl ?_
                refine v_if_eq_t 149 d_M_nextOf_141 (by decide) (by decide) ?_
                refine v_iload 7 d_M_nextOf_149 rfl ?_
                refine v_istore [(5, .int x5), (4, .int x4), (8, .int 0), (7, .int (-r9)), (0, .ref (ad G 31)), (1, .int x1), (2, .int x2), (3, .int x3), (6, .int x6)] d_M_nextOf_151 (by decide) rfl ?_
                refine v_iinc (x6 + 1) 8 [(6, .int (x6 + 1)), (5, .int x5), (4, .int x4), (8, .int 0), (7, .int (-r9)), (0, .ref (ad G 31)), (1, .int x1), (2, .int x2), (3, .int x3)] d_M_nextOf_153 rfl rfl (by decide) rfl ?_
                refine v_goto 9 d_M_nextOf_156 (by decide) ?_
                exact v_sub [5, 6, 7, 8, 2, 1, 0] rfl (ih x1 x2 x3 x4 x5 (x6 + 1) h10)
              · refine v_iconst 1 d_M_nextOf_118 rfl ?_
                refine v_goto 123 d_M_nextOf_119 (by decide) ?_
                refine v_istore [(8, .int 1), (7, .int (-r9)), (0, .ref (ad G 31)), (1, .int x1), (2, .int x2), (3, .int x3), (4, .int x4), (5, .int x5), (6, .int x6)] d_M_nextOf_123 (by decide) rfl ?_
                refine v_iload 0 d_M_nextOf_125 rfl ?_
                refine v_if_eq_f 135 d_M_nextOf_127 (by decide) (by decide) ?_
                refine v_iload 8 d_M_nextOf_130 rfl ?_
                refine v_goto 137 d_M_nextOf_132 (by decide) ?_
                refine v_istore [(4, .int x6), (8, .int 1), (7, .int (-r9)), (0, .ref (ad G 31)), (1, .int x1), (2, .int x2), (3, .int x3), (5, .int x5), (6, .int x6)] d_M_nextOf_137 (by decide) rfl ?_
                refine v_iload 1 d_M_nextOf_139 rfl ?_
                refine v_if_eq_f 149 d_M_nextOf_141 (by decide) (by decide) ?_
                refine v_iload 2 d_M_nextOf_144 rfl ?_
                refine v_goto 151 d_M_nextOf_146 (by decide) ?_
                refine v_istore [(5, .int (-r9)), (4, .int x6), (8, .int 1), (7, .int (-r9)), (0, .ref (ad G 31)), (1, .int x1), (2, .int x2), (3, .int x3), (6, .int x6)] d_M_nextOf_151 (by decide) rfl ?_
                refine v_iinc (x6 + 1) 8 [(6, .int (x6 + 1)), (5, .int (-r9)), (4, .int x6), (8, .int 1), (7, .int (-r9)), (0, .ref (ad G 31)), (1, .int x1), (2, .int x2), (3, .int x3)] d_M_nextOf_153 rfl rfl (by decide) rfl ?_
                refine v_goto 9 d_M_nextOf_156 (by decide) ?_
                exact v_sub [5, 6, 7, 8, 2, 1, 0] rfl (ih x1 x2 x3 x6 (-r9) (x6 + 1) h10)
        · refine v_iload_n 2 d_M_nextOf_48 rfl rfl ?_
          refine v_iconst 2 d_M_nextOf_49 rfl ?_
          refine v_icmp_ne 76 d_M_nextOf_50 (by decide) (fun c14 => ?_) (fun c14 => ?_)
          · refine v_iload 6 d_M_nextOf_53 rfl ?_
            refine v_iload_n 1 d_M_nextOf_55 rfl rfl ?_
            refine v_icmp_le 66 d_M_nextOf_56 (by decide) (fun c15 => ?_) (fun c15 => ?_)
            · refine v_iload 6 d_M_nextOf_66 rfl ?_
              refine v_iload_n 1 d_M_nextOf_68 rfl rfl ?_
              refine v_isub d_M_nextOf_69 ?_
              refine v_bipush 11 d_M_nextOf_70 rfl ?_
              refine v_iadd d_M_nextOf_72 ?_
              refine v_goto 94 d_M_nextOf_73 (by decide) ?_
              refine v_istore [(7, .int ((x6 - x1) + 11)), (0, .ref (ad G 31)), (1, .int x1), (2, .int x2), (3, .int x3), (4, .int x4), (5, .int x5), (6, .int x6)] d_M_nextOf_94 (by decide) rfl ?_
              refine v_iload_n 4 d_M_nextOf_96 rfl rfl ?_
              refine v_iload 7 d_M_nextOf_97 rfl ?_
              refine v_callSi (As := [.int x3, .int x6]) (rest := []) (c_M_isIn G x3 x6 h) co_M_113 so_M_isIn ⟨by decide, by decide⟩ rfl rfl (Nat.le_of_ble_eq_true rfl) d_M_nextOf_99 (fun r16 h16 _ => ?_)
              refine v_if_eq 122 d_M_nextOf_102 (by decide) (fun c17 => ?_) (fun c17 => ?_)
              · refine v_iconst 0 d_M_nextOf_122 rfl ?_
                refine v_istore [(8, .int 0), (7, .int ((x6 - x1) + 11)), (0, .ref (ad G 31)), (1, .int x1), (2, .int x2), (3, .int x3), (4, .int x4), (5, .int x5), (6, .int x6)] d_M_nextOf_123 (by decide) rfl ?_
                refine v_iload 0 d_M_nextOf_125 rfl ?_
                refine v_if_eq_t 135 d_M_nextOf_127 (by decide) (by decide) ?_
                refine v_iload 6 d_M_nextOf_135 rfl ?_
                refine v_istore [(4, .int x4), (8, .int 0), (7, .int ((x6 - x1) + 11)), (0, .ref (ad G 31)), (1, .int x1), (2, .int x2), (3, .int x3), (5, .int x5), (6, .int x6)] d_M_nextOf_137 (by decide) rfl ?_
                refine v_iload 1 d_M_nextOf_139 rfl ?_
                refine v_if_eq_t 149 d_M_nextOf_141 (by decide) (by decide) ?_
                refine v_iload 7 d_M_nextOf_149 rfl ?_
                refine v_istore [(5, .int x5), (4, .int x4), (8, .int 0), (7, .int ((x6 - x1) + 11)), (0, .ref (ad G 31)), (1, .int x1), (2, .int x2), (3, .int x3), (6, .int x6)] d_M_nextOf_151 (by decide) rfl ?_
                refine v_iinc (x6 + 1) 8 [(6, .int (x6 + 1)), (5, .int x5), (4, .int x4), (8, .int 0), (7, .int ((x6 - x1) + 11)), (0, .ref (ad G 31)), (1, .int x1), (2, .int x2), (3, .int x3)] d_M_nextOf_153 rfl rfl (by decide) rfl ?_
                refine v_goto 9 d_M_nextOf_156 (by decide) ?_
                exact v_sub [5, 6, 7, 8, 2, 1, 0] rfl (ih x1 x2 x3 x4 x5 (x6 + 1) h16)
              · refine v_iload 5 d_M_nextOf_105 rfl ?_
                refine v_iconst (-1) d_M_nextOf_107 rfl ?_
                refine v_icmp_eq 118 d_M_nextOf_108 (by decide) (fun c18 => ?_) (fun c18 => ?_)
                · refine v_iconst 1 d_M_nextOf_118 rfl ?_
                  refine v_goto 123 d_M_nextOf_119 (by decide) ?_
                  refine v_istore [(8, .int 1), (7, .int ((x6 - x1) + 11)), (0, .ref (ad G 31)), (1, .int x1), (2, .int x2), (3, .int x3), (4, .int x4), (5, .int x5), (6, .int x6)] d_M_nextOf_123 (by decide) rfl ?_
                  refine v_iload 0 d_M_nextOf_125 rfl ?_
                  refine v_if_eq_f 135 d_M_nextOf_127 (by decide) (by decide) ?_
                  refine v_iload 8 d_M_nextOf_130 rfl ?_
                  refine v_goto 137 d_M_nextOf_132 (by decide) ?_
                  refine v_istore [(4, .int x6), (8, .int 1), (7, .int ((x6 - x1) + 11)), (0, .ref (ad G 31)), (1, .int x1), (2, .int x2), (3, .int x3), (5, .int x5), (6, .int x6)] d_M_nextOf_137 (by decide) rfl ?_
                  refine v_iload 1 d_M_nextOf_139 rfl ?_
                  refine v_if_eq_f 149 d_M_nextOf_141 (by decide) (by decide) ?_
                  refine v_iload 2 d_M_nextOf_144 rfl ?_
                  refine v_goto 151 d_M_nextOf_146 (by decide) ?_
                  refine v_istore [(5, .int ((x6 - x1) + 11)), (4, .int x6), (8, .int 1), (7, .int ((x6 - x1) + 11)), (0, .ref (ad G 31)), (1, .int x1), (2, .int x2), (3, .int x3), (6, .int x6)] d_M_nextOf_151 (by decide) rfl ?_
                  refine v_iinc (x6 + 1) 8 [(6, .int (x6 + 1)), (5, .int ((x6 - x1) + 11)), (4, .int x6), (8, .int 1), (7, .int ((x6 - x1) + 11)), (0, .ref (ad G 31)), (1, .int x1), (2, .int x2), (3, .int x3)] d_M_nextOf_153 rfl rfl (by decide) rfl ?_
                  refine v_goto 9 d_M_nextOf_156 (by decide) ?_
                  exact v_sub [5, 6, 7, 8, 2, 1, 0] rfl (ih x1 x2 x3 x6 ((x6 - x1) + 11) (x6 + 1) h16)
                · refine v_iload 0 d_M_nextOf_111 rfl ?_
                  refine v_iload 6 d_M_nextOf_113 rfl ?_
                  refine v_icmp_ge 122 d_M_nextOf_115 (by decide) (fun c19 => ?_) (fun c19 => ?_)
                  · refine v_iconst 0 d_M_nextOf_122 rfl ?_
                    refine v_istore [(8, .int 0), (7, .int ((x6 - x1) + 11)), (0, .ref (ad G 31)), (1, .int x1), (2, .int x2), (3, .int x3), (4, .int x4), (5, .int x5), (6, .int x6)] d_M_nextOf_123 (by decide) rfl ?_
                    refine v_iload 0 d_M_nextOf_125 rfl ?_
                    refine v_if_eq_t 135 d_M_nextOf_127 (by decide) (by decide) ?_
                    refine v_iload 6 d_M_nextOf_135 rfl ?_
                    refine v_istore [(4, .int x4), (8, .int 0), (7, .int ((x6 - x1) + 11)), (0, .ref (ad G 31)), (1, .int x1), (2, .int x2), (3, .int x3), (5, .int x5), (6, .int x6)] d_M_nextOf_137 (by decide) rfl ?_
                    refine v_iload 1 d_M_nextOf_139 rfl ?_
                    refine v_if_eq_t 149 d_M_nextOf_141 (by decide) (by decide) ?_
                    refine v_iload 7 d_M_nextOf_149 rfl ?_
                    refine v_istore [(5, .int x5), (4, .int x4), (8, .int 0), (7, .int ((x6 - x1) + 11)), (0, .ref (ad G 31)), (1, .int x1), (2, .int x2), (3, .int x3), (6, .int x6)] d_M_nextOf_151 (by decide) rfl ?_
                    refine v_iinc (x6 + 1) 8 [(6, .int (x6 + 1)), (5, .int x5), (4, .int x4), (8, .int 0), (7, .int ((x6 - x1) + 11)), (0, .ref (ad G 31)), (1, .int x1), (2, .int x2), (3, .int x3)] d_M_nextOf_153 rfl rfl (by decide) rfl ?_
                    refine v_goto 9 d_M_nextOf_156 (by decide) ?_
                    exact v_sub [5, 6, 7, 8, 2, 1, 0] rfl (ih x1 x2 x3 x4 x5 (x6 + 1) h16)
                  · refine v_iconst 1 d_M_nextOf_118 rfl ?_
                    refine v_goto 123 d_M_nextOf_119 (by decide) ?_
                    refine v_istore [(8, .int 1), (7, .int ((x6 - x1) + 11)), (0, .ref (ad G 31)), (1, .int x1), (2, .int x2), (3, .int x3), (4, .int x4), (5, .int x5), (6, .int x6)] d_M_nextOf_123 (by decide) rfl ?_
                    refine v_iload 0 d_M_nextOf_125 rfl ?_
                    refine v_if_eq_f 135 d_M_nextOf_127 (by decide) (by decide) ?_
                    refine v_iload 8 d_M_nextOf_130 rfl ?_
                    refine v_goto 137 d_M_nextOf_132 (by decide) ?_
                    refine v_istore [(4, .int x6), (8, .int 1), (7, .int ((x6 - x1) + 11)), (0, .ref (ad G 31)), (1, .int x1), (2, .int x2), (3, .int x3), (5, .int x5), (6, .int x6)] d_M_nextOf_137 (by decide) rfl ?_
                    refine v_iload 1 d_M_nextOf_139 rfl ?_
                    refine v_if_eq_f 149 d_M_nextOf_141 (by decide) (by decide) ?_
                    refine v_iload 2 d_M_nextOf_144 rfl ?_
                    refine v_goto 151 d_M_nextOf_146 (by decide) ?_
                    refine v_istore [(5, .int ((x6 - x1) + 11)), (4, .int x6), (8, .int 1), (7, .int ((x6 - x1) + 11)), (0, .ref (ad G 31)), (1, .int x1), (2, .int x2), (3, .int x3), (6, .int x6)] d_M_nextOf_151 (by decide) rfl ?_
                    refine v_iinc (x6 + 1) 8 [(6, .int (x6 + 1)), (5, .int ((x6 - x1) + 11)), (4, .int x6), (8, .int 1), (7, .int ((x6 - x1) + 11)), (0, .ref (ad G 31)), (1, .int x1), (2, .int x2), (3, .int x3)] d_M_nextOf_153 rfl rfl (by decide) rfl ?_
                    refine v_goto 9 d_M_nextOf_156 (by decide) ?_
                    exact v_sub [5, 6, 7, 8, 2, 1, 0] rfl (ih x1 x2 x3 x6 ((x6 - x1) + 11) (x6 + 1) h16)
            · refine v_iload 6 d_M_nextOf_59 rfl ?_
              refine v_iload_n 1 d_M_nextOf_61 rfl rfl ?_
              refine v_isub d_M_nextOf_62 ?_
              refine v_goto 94 d_M_nextOf_63 (by decide) ?_
              refine v_istore [(7, .int (x6 - x1)), (0, .ref (ad G 31)), (1, .int x1), (2, .int x2), (3, .int x3), (4, .int x4), (5, .int x5), (6, .int x6)] d_M_nextOf_94 (by decide) rfl ?_
              refine v_iload_n 4 d_M_nextOf_96 rfl rfl ?_
              refine v_iload 7 d_M_nextOf_97 rfl ?_
              refine v_callSi (As := [.int x3, .int x6]) (rest := []) (c_M_isIn G x3 x6 h) co_M_113 so_M_isIn ⟨by decide, by decide⟩ rfl rfl (Nat.le_of_ble_eq_true rfl) d_M_nextOf_99 (fun r20 h20 _ => ?_)
              refine v_if_eq 122 d_M_nextOf_102 (by decide) (fun c21 => ?_) (fun c21 => ?_)
              · refine v_iconst 0 d_M_nextOf_122 rfl ?_
                refine v_istore [(8, .int 0), (7, .int (x6 - x1)), (0, .ref (ad G 31)), (1, .int x1), (2, .int x2), (3, .int x3), (4, .int x4), (5, .int x5), (6, .int x6)] d_M_nextOf_123 (by decide) rfl ?_
                refine v_iload 0 d_M_nextOf_125 rfl ?_
                refine v_if_eq_t 135 d_M_nextOf_127 (by decide) (by decide) ?_
                refine v_iload 6 d_M_nextOf_135 rfl ?_
                refine v_istore [(4, .int x4), (8, .int 0), (7, .int (x6 - x1)), (0, .ref (ad G 31)), (1, .int x1), (2, .int x2), (3, .int x3), (5, .int x5), (6, .int x6)] d_M_nextOf_137 (by decide) rfl ?_
                refine v_iload 1 d_M_nextOf_139 rfl ?_
                refine v_if_eq_t 149 d_M_nextOf_141 (by decide) (by decide) ?_
                refine v_iload 7 d_M_nextOf_149 rfl ?_
                refine v_istore [(5, .int x5), (4, .int x4), (8, .int 0), (7, .int (x6 - x1)), (0, .ref (ad G 31)), (1, .int x1), (2, .int x2), (3, .int x3), (6, .int x6)] d_M_nextOf_151 (by decide) rfl ?_
                refine v_iinc (x6 + 1) 8 [(6, .int (x6 + 1)), (5, .int x5), (4, .int x4), (8, .int 0), (7, .int (x6 - x1)), (0, .ref (ad G 31)), (1, .int x1), (2, .int x2), (3, .int x3)] d_M_nextOf_153 rfl rfl (by decide) rfl ?_
                refine v_goto 9 d_M_nextOf_156 (by decide) ?_
                exact v_sub [5, 6, 7, 8, 2, 1, 0] rfl (ih x1 x2 x3 x4 x5 (x6 + 1) h20)
              · refine v_iload 5 d_M_nextOf_105 rfl ?_
                refine v_iconst (-1) d_M_nextOf_107 rfl ?_
                refine v_icmp_eq 118 d_M_nextOf_108 (by decide) (fun c22 => ?_) (fun c22 => ?_)
                · refine v_iconst 1 d_M_nextOf_118 rfl ?_
                  refine v_goto 123 d_M_nextOf_119 (by decide) ?_
                  refine v_istore [(8, .int 1), (7, .int (x6 - x1)), (0, .ref (ad G 31)), (1, .int x1), (2, .int x2), (3, .int x3), (4, .int x4), (5, .int x5), (6, .int x6)] d_M_nextOf_123 (by decide) rfl ?_
                  refine v_iload 0 d_M_nextOf_125 rfl ?_
                  refine v_if_eq_f 135 d_M_nextOf_127 (by decide) (by decide) ?_
                  refine v_iload 8 d_M_nextOf_130 rfl ?_
                  refine v_goto 137 d_M_nextOf_132 (by decide) ?_
                  refine v_istore [(4, .int x6), (8, .int 1), (7, .int (x6 - x1)), (0, .ref (ad G 31)), (1, .int x1), (2, .int x2), (3, .int x3), (5, .int x5), (6, .int x6)] d_M_nextOf_137 (by decide) rfl ?_
                  refine v_iload 1 d_M_nextOf_139 rfl ?_
                  refine v_if_eq_f 149 d_M_nextOf_141 (by decide) (by decide) ?_
                  refine v_iload 2 d_M_nextOf_144 rfl ?_
                  refine v_goto 151 d_M_nextOf_146 (by decide) ?_
                  refine v_istore [(5, .int (x6 - x1)), (4, .int x6), (8, .int 1), (7, .int (x6 - x1)), (0, .ref (ad G 31)), (1, .int x1), (2, .int x2), (3, .int x3), (6, .int x6)] d_M_nextOf_151 (by decide) rfl ?_
                  refine v_iinc (x6 + 1) 8 [(6, .int (x6 + 1)), (5, .int (x6 - x1)), (4, .int x6), (8, .int 1), (7, .int (x6 - x1)), (0, .ref (ad G 31)), (1, .int x1), (2, .int x2), (3, .int x3)] d_M_nextOf_153 rfl rfl (by decide) rfl ?_
                  refine v_goto 9 d_M_nextOf_156 (by decide) ?_
                  exact v_sub [5, 6, 7, 8, 2, 1, 0] rfl (ih x1 x2 x3 x6 (x6 - x1) (x6 + 1) h20)
                · refine v_iload 0 d_M_nextOf_111 rfl ?_
                  refine v_iload 6 d_M_nextOf_113 rfl ?_
                  refine v_icmp_ge 122 d_M_nextOf_115 (by decide) (fun c23 => ?_) (fun c23 => ?_)
                  · refine v_iconst 0 d_M_nextOf_122 rfl ?_
                    refine v_istore [(8, .int 0), (7, .int (x6 - x1)), (0, .ref (ad G 31)), (1, .int x1), (2, .int x2), (3, .int x3), (4, .int x4), (5, .int x5), (6, .int x6)] d_M_nextOf_123 (by decide) rfl ?_
                    refine v_iload 0 d_M_nextOf_125 rfl ?_
                    refine v_if_eq_t 135 d_M_nextOf_127 (by decide) (by decide) ?_
                    refine v_iload 6 d_M_nextOf_135 rfl ?_
                    refine v_istore [(4, .int x4), (8, .int 0), (7, .int (x6 - x1)), (0, .ref (ad G 31)), (1, .int x1), (2, .int x2), (3, .int x3), (5, .int x5), (6, .int x6)] d_M_nextOf_137 (by decide) rfl ?_
                    refine v_iload 1 d_M_nextOf_139 rfl ?_
                    refine v_if_eq_t 149 d_M_nextOf_141 (by decide) (by decide) ?_
                    refine v_iload 7 d_M_nextOf_149 rfl ?_
                    refine v_istore [(5, .int x5), (4, .int x4), (8, .int 0), (7, .int (x6 - x1)), (0, .ref (ad G 31)), (1, .int x1), (2, .int x2), (3, .int x3), (6, .int x6)] d_M_nextOf_151 (by decide) rfl ?_
                    refine v_iinc (x6 + 1) 8 [(6, .int (x6 + 1)), (5, .int x5), (4, .int x4), (8, .int 0), (7, .int (x6 - x1)), (0, .ref (ad G 31)), (1, .int x1), (2, .int x2), (3, .int x3)] d_M_nextOf_153 rfl rfl (by decide) rfl ?_
                    refine v_goto 9 d_M_nextOf_156 (by decide) ?_
                    exact v_sub [5, 6, 7, 8, 2, 1, 0] rfl (ih x1 x2 x3 x4 x5 (x6 + 1) h20)
                  · refine v_iconst 1 d_M_nextOf_118 rfl ?_
                    refine v_goto 123 d_M_nextOf_119 (by decide) ?_
                    refine v_istore [(8, .int 1), (7, .int (x6 - x1)), (0, .ref (ad G 31)), (1, .int x1), (2, .int x2), (3, .int x3), (4, .int x4), (5, .int x5), (6, .int x6)] d_M_nextOf_123 (by decide) rfl ?_
                    refine v_iload 0 d_M_nextOf_125 rfl ?_
                    refine v_if_eq_f 135 d_M_nextOf_127 (by decide) (by decide) ?_
                    refine v_iload 8 d_M_nextOf_130 rfl ?_
                    refine v_goto 137 d_M_nextOf_132 (by decide) ?_
                    refine v_istore [(4, .int x6), (8, .int 1), (7, .int (x6 - x1)), (0, .ref (ad G 31)), (1, .int x1), (2, .int x2), (3, .int x3), (5, .int x5), (6, .int x6)] d_M_nextOf_137 (by decide) rfl ?_
                    refine v_iload 1 d_M_nextOf_139 rfl ?_
                    refine v_if_eq_f 149 d_M_nextOf_141 (by decide) (by decide) ?_
                    refine v_iload 2 d_M_nextOf_144 rfl ?_
                    refine v_goto 151 d_M_nextOf_146 (by decide) ?_
                    refine v_istore [(5, .int (x6 - x1)), (4, .int x6), (8, .int 1), (7, .int (x6 - x1)), (0, .ref (ad G 31)), (1, .int x1), (2, .int x2), (3, .int x3), (6, .int x6)] d_M_nextOf_151 (by decide) rfl ?_
                    refine v_iinc (x6 + 1) 8 [(6, .int (x6 + 1)), (5, .int (x6 - x1)), (4, .int x6), (8, .int 1), (7, .int (x6 - x1)), (0, .ref (ad G 31)), (1, .int x1), (2, .int x2), (3, .int x3)] d_M_nextOf_153 rfl rfl (by decide) rfl ?_
                    refine v_goto 9 d_M_nextOf_156 (by decide) ?_
                    exact v_sub [5, 6, 7, 8, 2, 1, 0] rfl (ih x1 x2 x3 x6 (x6 - x1) (x6 + 1) h20)
          · refine v_aload_n 0 d_M_nextOf_76 rfl rfl ?_
            refine v_iload 6 d_M_nextOf_77 rfl ?_
            refine v_callVi (As := [.int x6]) (rest := []) (c_M_place G x6 h) co_M_110 io_M_place o_31 ⟨by decide, by decide⟩ rfl rfl (Nat.le_of_ble_eq_true rfl) d_M_nextOf_79 (fun r24 h24 _ => ?_)
            refine v_aload_n 0 d_M_nextOf_82 rfl rfl ?_
            refine v_iload_n 1 d_M_nextOf_83 rfl rfl ?_
            refine v_callVi (As := [.int x1]) (rest := [.int r24]) (c_M_place G x1 h24) co_M_110 io_M_place o_31 ⟨by decide, by decide⟩ rfl rfl (Nat.le_of_ble_eq_true rfl) d_M_nextOf_84 (fun r25 h25 _ => ?_)
            refine v_isub d_M_nextOf_87 ?_
            refine v_bipush 100 d_M_nextOf_88 rfl ?_
            refine v_iadd d_M_nextOf_90 ?_
            refine v_bipush 100 d_M_nextOf_91 rfl ?_
            refine v_irem (by decide) d_M_nextOf_93 ?_
            refine v_istore [(7, .int (((r24 - r25) + 100) - ((r24 - r25) + 100) / 100 * 100)), (0, .ref (ad G 31)), (1, .int x1), (2, .int x2), (3, .int x3), (4, .int x4), (5, .int x5), (6, .int x6)] d_M_nextOf_94 (by decide) rfl ?_
            refine v_iload_n 4 d_M_nextOf_96 rfl rfl ?_
            refine v_iload 7 d_M_nextOf_97 rfl ?_
            refine v_callSi (As := [.int x3, .int x6]) (rest := []) (c_M_isIn G x3 x6 h25) co_M_113 so_M_isIn ⟨by decide, by decide⟩ rfl rfl (Nat.le_of_ble_eq_true rfl) d_M_nextOf_99 (fun r26 h26 _ => ?_)
            refine v_if_eq 122 d_M_nextOf_102 (by decide) (fun c27 => ?_) (fun c27 => ?_)
            · refine v_iconst 0 d_M_nextOf_122 rfl ?_
              refine v_istore [(8, .int 0), (7, .int (((r24 - r25) + 100) - ((r24 - r25) + 100) / 100 * 100)), (0, .ref (ad G 31)), (1, .int x1), (2, .int x2), (3, .int x3), (4, .int x4), (5, .int x5), (6, .int x6)] d_M_nextOf_123 (by decide) rfl ?_
              refine v_iload 0 d_M_nextOf_125 rfl ?_
              refine v_if_eq_t 135 d_M_nextOf_127 (by decide) (by decide) ?_
              refine v_iload 6 d_M_nextOf_135 rfl ?_
              refine v_istore [(4, .int x4), (8, .int 0), (7, .int (((r24 - r25) + 100) - ((r24 - r25) + 100) / 100 * 100)), (0, .ref (ad G 31)), (1, .int x1), (2, .int x2), (3, .int x3), (5, .int x5), (6, .int x6)] d_M_nextOf_137 (by decide) rfl ?_
              refine v_iload 1 d_M_nextOf_139 rfl ?_
              refine v_if_eq_t 149 d_M_nextOf_141 (by decide) (by decide) ?_
              refine v_iload 7 d_M_nextOf_149 rfl ?_
              refine v_istore [(5, .int x5), (4, .int x4), (8, .int 0), (7, .int (((r24 - r25) + 100) - ((r24 - r25) + 100) / 100 * 100)), (0, .ref (ad G 31)), (1, .int x1), (2, .int x2), (3, .int x3), (6, .int x6)] d_M_nextOf_151 (by decide) rfl ?_
              refine v_iinc (x6 + 1) 8 [(6, .int (x6 + 1)), (5, .int x5), (4, .int x4), (8, .int 0), (7, .int (((r24 - r25) + 100) - ((r24 - r25) + 100) / 100 * 100)), (0, .ref (ad G 31)), (1, .int x1), (2, .int x2), (3, .int x3)] d_M_nextOf_153 rfl rfl (by decide) rfl ?_
              refine v_goto 9 d_M_nextOf_156 (by decide) ?_
              exact v_sub [5, 6, 7, 8, 2, 1, 0] rfl (ih x1 x2 x3 x4 x5 (x6 + 1) h26)
            · refine v_iload 5 d_M_nextOf_105 rfl ?_
              refine v_iconst (-1) d_M_nextOf_107 rfl ?_
              refine v_icmp_eq 118 d_M_nextOf_108 (by decide) (fun c28 => ?_) (fun c28 => ?_)
              · refine v_iconst 1 d_M_nextOf_118 rfl ?_
                refine v_goto 123 d_M_nextOf_119 (by decide) ?_
                refine v_istore [(8, .int 1), (7, .int (((r24 - r25) + 100) - ((r24 - r25) + 100) / 100 * 100)), (0, .ref (ad G 31)), (1, .int x1), (2, .int x2), (3, .int x3), (4, .int x4), (5, .int x5), (6, .int x6)] d_M_nextOf_123 (by decide) rfl ?_
                refine v_iload 0 d_M_nextOf_125 rfl ?_
                refine v_if_eq_f 135 d_M_nextOf_127 (by decide) (by decide) ?_
                refine v_iload 8 d_M_nextOf_130 rfl ?_
                refine v_goto 137 d_M_nextOf_132 (by decide) ?_
                refine v_istore [(4, .int x6), (8, .int 1), (7, .int (((r24 - r25) + 100) - ((r24 - r25) + 100) / 100 * 100)), (0, .ref (ad G 31)), (1, .int x1), (2, .int x2), (3, .int x3), (5, .int x5), (6, .int x6)] d_M_nextOf_137 (by decide) rfl ?_
                refine v_iload 1 d_M_nextOf_139 rfl ?_
                refine v_if_eq_f 149 d_M_nextOf_141 (by decide) (by decide) ?_
                refine v_iload 2 d_M_nextOf_144 rfl ?_
                refine v_goto 151 d_M_nextOf_146 (by decide) ?_
                refine v_istore [(5, .int (((r24 - r25) + 100) - ((r24 - r25) + 100) / 100 * 100)), (4, .int x6), (8, .int 1), (7, .int (((r24 - r25) + 100) - ((r24 - r25) + 100) / 100 * 100)), (0, .ref (ad G 31)), (1, .int x1), (2, .int x2), (3, .int x3), (6, .int x6)] d_M_nextOf_151 (by decide) rfl ?_
                refine v_iinc (x6 + 1) 8 [(6, .int (x6 + 1)), (5, .int (((r24 - r25) + 100) - ((r24 - r25) + 100) / 100 * 100)), (4, .int x6), (8, .int 1), (7, .int (((r24 - r25) + 100) - ((r24 - r25) + 100) / 100 * 100)), (0, .ref (ad G 31)), (1, .int x1), (2, .int x2), (3, .int x3)] d_M_nextOf_153 rfl rfl (by decide) rfl ?_
                refine v_goto 9 d_M_nextOf_156 (by decide) ?_
                exact v_sub [5, 6, 7, 8, 2, 1, 0] rfl (ih x1 x2 x3 x6 (((r24 - r25) + 100) - ((r24 - r25) + 100) / 100 * 100) (x6 + 1) h26)
              · refine v_iload 0 d_M_nextOf_111 rfl ?_
                refine v_iload 6 d_M_nextOf_113 rfl ?_
                refine v_icmp_ge 122 d_M_nextOf_115 (by decide) (fun c29 => ?_) (fun c29 => ?_)
                · refine v_iconst 0 d_M_nextOf_122 rfl ?_
                  refine v_istore [(8, .int 0), (7, .int (((r24 - r25) + 100) - ((r24 - r25) + 100) / 100 * 100)), (0, .ref (ad G 31)), (1, .int x1), (2, .int x2), (3, .int x3), (4, .int x4), (5, .int x5), (6, .int x6)] d_M_nextOf_123 (by decide) rfl ?_
                  refine v_iload 0 d_M_nextOf_125 rfl ?_
                  refine v_if_eq_t 135 d_M_nextOf_127 (by decide) (by decide) ?_
                  refine v_iload 6 d_M_nextOf_135 rfl ?_
                  refine v_istore [(4, .int x4), (8, .int 0), (7, .int (((r24 - r25) + 100) - ((r24 - r25) + 100) / 100 * 100)), (0, .ref (ad G 31)), (1, .int x1), (2, .int x2), (3, .int x3), (5, .int x5), (6, .int x6)] d_M_nextOf_137 (by decide) rfl ?_
                  refine v_iload 1 d_M_nextOf_139 rfl ?_
                  refine v_if_eq_t 149 d_M_nextOf_141 (by decide) (by decide) ?_
                  refine v_iload 7 d_M_nextOf_149 rfl ?_
                  refine v_istore [(5, .int x5), (4, .int x4), (8, .int 0), (7, .int (((r24 - r25) + 100) - ((r24 - r25) + 100) / 100 * 100)), (0, .ref (ad G 31)), (1, .int x1), (2, .int x2), (3, .int x3), (6, .int x6)] d_M_nextOf_151 (by decide) rfl ?_
                  refine v_iinc (x6 + 1) 8 [(6, .int (x6 + 1)), (5, .int x5), (4, .int x4), (8, .int 0), (7, .int (((r24 - r25) + 100) - ((r24 - r25) + 100) / 100 * 100)), (0, .ref (ad G 31)), (1, .int x1), (2, .int x2), (3, .int x3)] d_M_nextOf_153 rfl rfl (by decide) rfl ?_
                  refine v_goto 9 d_M_nextOf_156 (by decide) ?_
                  exact v_sub [5, 6, 7, 8, 2, 1, 0] rfl (ih x1 x2 x3 x4 x5 (x6 + 1) h26)
                · refine v_iconst 1 d_M_nextOf_118 rfl ?_
                  refine v_goto 123 d_M_nextOf_119 (by decide) ?_
                  refine v_istore [(8, .int 1), (7, .int (((r24 - r25) + 100) - ((r24 - r25) + 100) / 100 * 100)), (0, .ref (ad G 31)), (1, .int x1), (2, .int x2), (3, .int x3), (4, .int x4), (5, .int x5), (6, .int x6)] d_M_nextOf_123 (by decide) rfl ?_
                  refine v_iload 0 d_M_nextOf_125 rfl ?_
                  refine v_if_eq_f 135 d_M_nextOf_127 (by decide) (by decide) ?_
                  refine v_iload 8 d_M_nextOf_130 rfl ?_
                  refine v_goto 137 d_M_nextOf_132 (by decide) ?_
                  refine v_istore [(4, .int x6), (8, .int 1), (7, .int (((r24 - r25) + 100) - ((r24 - r25) + 100) / 100 * 100)), (0, .ref (ad G 31)), (1, .int x1), (2, .int x2), (3, .int x3), (5, .int x5), (6, .int x6)] d_M_nextOf_137 (by decide) rfl ?_
                  refine v_iload 1 d_M_nextOf_139 rfl ?_
                  refine v_if_eq_f 149 d_M_nextOf_141 (by decide) (by decide) ?_
                  refine v_iload 2 d_M_nextOf_144 rfl ?_
                  refine v_goto 151 d_M_nextOf_146 (by decide) ?_
                  refine v_istore [(5, .int (((r24 - r25) + 100) - ((r24 - r25) + 100) / 100 * 100)), (4, .int x6), (8, .int 1), (7, .int (((r24 - r25) + 100) - ((r24 - r25) + 100) / 100 * 100)), (0, .ref (ad G 31)), (1, .int x1), (2, .int x2), (3, .int x3), (6, .int x6)] d_M_nextOf_151 (by decide) rfl ?_
                  refine v_iinc (x6 + 1) 8 [(6, .int (x6 + 1)), (5, .int (((r24 - r25) + 100) - ((r24 - r25) + 100) / 100 * 100)), (4, .int x6), (8, .int 1), (7, .int (((r24 - r25) + 100) - ((r24 - r25) + 100) / 100 * 100)), (0, .ref (ad G 31)), (1, .int x1), (2, .int x2), (3, .int x3)] d_M_nextOf_153 rfl rfl (by decide) rfl ?_
                  refine v_goto 9 d_M_nextOf_156 (by decide) ?_
                  exact v_sub [5, 6, 7, 8, 2, 1, 0] rfl (ih x1 x2 x3 x6 (((r24 - r25) + 100) - ((r24 - r25) + 100) / 100 * 100) (x6 + 1) h26)
set_option maxHeartbeats 4000000 in
set_option maxRecDepth 20000 in
theorem c_M_nextOf (G : Gt) (x1 : Int32) (x2 : Int32) (x3 : Int32) (h : Hp) : Cn G m_M_nextOf [.ref (ad G 31), .int x1, .int x2, .int x3] h κi (f_M_nextOf x1 x2 x3 h) := by
  refine entryV (by decide) (Nat.le_of_ble_eq_true rfl) rfl ?_
  show V G m_M_nextOf 0 [(0, .ref (ad G 31)), (1, .int x1), (2, .int x2), (3, .int x3)] [] h κi _
  unfold f_M_nextOf
  refine v_iconst (-1) d_M_nextOf_0 rfl ?_
  refine v_istore [(4, .int (-1)), (0, .ref (ad G 31)), (1, .int x1), (2, .int x2), (3, .int x3)] d_M_nextOf_1 (by decide) rfl ?_
  refine v_iconst 0 d_M_nextOf_3 rfl ?_
  refine v_istore [(5, .int 0), (4, .int (-1)), (0, .ref (ad G 31)), (1, .int x1), (2, .int x2), (3, .int x3)] d_M_nextOf_4 (by decide) rfl ?_
  refine v_iconst 0 d_M_nextOf_6 rfl ?_
  refine v_istore [(6, .int 0), (5, .int 0), (4, .int (-1)), (0, .ref (ad G 31)), (1, .int x1), (2, .int x2), (3, .int x3)] d_M_nextOf_7 (by decide) rfl ?_
  exact v_sub [3, 4, 5, 6, 2, 1, 0] rfl (Vl_M_nextOf_9 G FUEL x1 x2 x3 (-1) 0 0 h)
