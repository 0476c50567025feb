theorem d_Sp_hasRowOf_0 : decode m_Sp_hasRowOf.2.1 0 = .ok (.aload_n 0, 1) := by decide +kernel
theorem d_Sp_hasRowOf_1 : decode m_Sp_hasRowOf.2.1 1 = .ok (.getfield 15, 3) := by decide +kernel
theorem d_Sp_hasRowOf_4 : decode m_Sp_hasRowOf.2.1 4 = .ok (.aload_n 1, 1) := by decide +kernel
theorem d_Sp_hasRowOf_5 : decode m_Sp_hasRowOf.2.1 5 = .ok (.getfield 15, 3) := by decide +kernel
theorem d_Sp_hasRowOf_8 : decode m_Sp_hasRowOf.2.1 8 = .ok (.if_icmp .eq 5, 3) := by decide +kernel
theorem d_Sp_hasRowOf_11 : decode m_Sp_hasRowOf.2.1 11 = .ok (.iconst 0, 1) := by decide +kernel
theorem d_Sp_hasRowOf_12 : decode m_Sp_hasRowOf.2.1 12 = .ok (.ireturn, 1) := by decide +kernel
theorem d_Sp_hasRowOf_13 : decode m_Sp_hasRowOf.2.1 13 = .ok (.iconst 0, 1) := by decide +kernel
theorem d_Sp_hasRowOf_14 : decode m_Sp_hasRowOf.2.1 14 = .ok (.istore_n 2, 1) := by decide +kernel
theorem d_Sp_hasRowOf_15 : decode m_Sp_hasRowOf.2.1 15 = .ok (.iload_n 2, 1) := by decide +kernel
theorem d_Sp_hasRowOf_16 : decode m_Sp_hasRowOf.2.1 16 = .ok (.aload_n 0, 1) := by decide +kernel
theorem d_Sp_hasRowOf_17 : decode m_Sp_hasRowOf.2.1 17 = .ok (.getfield 15, 3) := by decide +kernel
theorem d_Sp_hasRowOf_20 : decode m_Sp_hasRowOf.2.1 20 = .ok (.if_icmp .ge 26, 3) := by decide +kernel
theorem d_Sp_hasRowOf_23 : decode m_Sp_hasRowOf.2.1 23 = .ok (.aload_n 0, 1) := by decide +kernel
theorem d_Sp_hasRowOf_24 : decode m_Sp_hasRowOf.2.1 24 = .ok (.getfield 9, 3) := by decide +kernel
theorem d_Sp_hasRowOf_27 : decode m_Sp_hasRowOf.2.1 27 = .ok (.iload_n 2, 1) := by decide +kernel
theorem d_Sp_hasRowOf_28 : decode m_Sp_hasRowOf.2.1 28 = .ok (.iaload, 1) := by decide +kernel
theorem d_Sp_hasRowOf_29 : decode m_Sp_hasRowOf.2.1 29 = .ok (.aload_n 1, 1) := by decide +kernel
theorem d_Sp_hasRowOf_30 : decode m_Sp_hasRowOf.2.1 30 = .ok (.getfield 9, 3) := by decide +kernel
theorem d_Sp_hasRowOf_33 : decode m_Sp_hasRowOf.2.1 33 = .ok (.iload_n 2, 1) := by decide +kernel
theorem d_Sp_hasRowOf_34 : decode m_Sp_hasRowOf.2.1 34 = .ok (.iaload, 1) := by decide +kernel
theorem d_Sp_hasRowOf_35 : decode m_Sp_hasRowOf.2.1 35 = .ok (.if_icmp .eq 5, 3) := by decide +kernel
theorem d_Sp_hasRowOf_38 : decode m_Sp_hasRowOf.2.1 38 = .ok (.iconst 0, 1) := by decide +kernel
theorem d_Sp_hasRowOf_39 : decode m_Sp_hasRowOf.2.1 39 = .ok (.ireturn, 1) := by decide +kernel
theorem d_Sp_hasRowOf_40 : decode m_Sp_hasRowOf.2.1 40 = .ok (.iinc 2 1, 3) := by decide +kernel
theorem d_Sp_hasRowOf_43 : decode m_Sp_hasRowOf.2.1 43 = .ok (.goto (-28), 3) := by decide +kernel
theorem d_Sp_hasRowOf_46 : decode m_Sp_hasRowOf.2.1 46 = .ok (.iconst 1, 1) := by decide +kernel
theorem d_Sp_hasRowOf_47 : decode m_Sp_hasRowOf.2.1 47 = .ok (.ireturn, 1) := by decide +kernel
set_option maxHeartbeats 4000000 in
set_option maxRecDepth 20000 in
theorem Vl_Sp_hasRowOf_15 (G : Gt) : ∀ (n : Nat) (a0 : Nat) (a1 : Nat) (x2 : Int32) (ha0 : isO 3 a0) (ha1 : isO 3 a1) (h : Hp), V G m_Sp_hasRowOf 15 [(0, .ref (ad G a0)), (1, .ref (ad G a1)), (2, .int x2)] [] h κi (l_Sp_hasRowOf_15 n a0 a1 x2 h) := by
  intro n
  induction n with
  | zero => intros; exact v_none
  | succ n ih =>
    intro a0 a1 x2 ha0 ha1 h
    rw [l_Sp_hasRowOf_15]
    refine v_iload_n 2 d_Sp_hasRowOf_15 rfl rfl ?_
    refine v_aload_n 0 d_Sp_hasRowOf_16 rfl rfl ?_
    refine v_geti fl_Sp_15 ha0 rfl d_Sp_hasRowOf_17 ?_
    refine v_icmp_ge 46 d_Sp_hasRowOf_20 (by decide) (fun c2 => ?_) (fun c2 => ?_)
    · refine v_iconst 1 d_Sp_hasRowOf_46 rfl ?_
      exact v_zretL rfl rfl d_Sp_hasRowOf_47
    · refine v_aload_n 0 d_Sp_hasRowOf_23 rfl rfl ?_
      refine v_getr (a0 + 1) fl_Sp_9 ha0 rfl rfl d_Sp_hasRowOf_24 ?_
      refine v_iload_n 2 d_Sp_hasRowOf_27 rfl rfl ?_
      refine v_iald (spA ha0) d_Sp_hasRowOf_28 ?_
      refine v_aload_n 1 d_Sp_hasRowOf_29 rfl rfl ?_
      refine v_getr (a1 + 1) fl_Sp_9 ha1 rfl rfl d_Sp_hasRowOf_30 ?_
      refine v_iload_n 2 d_Sp_hasRowOf_33 rfl rfl ?_
      refine v_iald (spA ha1) d_Sp_hasRowOf_34 ?_
      refine v_icmp_eq 40 d_Sp_hasRowOf_35 (by decide) (fun c3 => ?_) (fun c3 => ?_)
      · refine v_iinc (x2 + 1) 2 [(2, .int (x2 + 1)), (0, .ref (ad G a0)), (1, .ref (ad G a1))] d_Sp_hasRowOf_40 rfl rfl (by decide) rfl ?_
        refine v_goto 15 d_Sp_hasRowOf_43 (by decide) ?_
        exact v_sub [1, 2, 0] rfl (ih a0 a1 (x2 + 1) ha0 ha1 h)
      · refine v_iconst 0 d_Sp_hasRowOf_38 rfl ?_
        exact v_zretL rfl rfl d_Sp_hasRowOf_39
set_option maxHeartbeats 4000000 in
set_option maxRecDepth 20000 in
theorem c_Sp_hasRowOf (G : Gt) (a0 : Nat) (a1 : Nat) (ha0 : isO 3 a0) (ha1 : isO 3 a1) (h : Hp) : Cn G m_Sp_hasRowOf [.ref (ad G a0), .ref (ad G a1)] h κi (f_Sp_hasRowOf a0 a1 h) := by
  refine entryV (by decide) (Nat.le_of_ble_eq_true rfl) rfl ?_
  show V G m_Sp_hasRowOf 0 [(0, .ref (ad G a0)), (1, .ref (ad G a1))] [] h κi _
  unfold f_Sp_hasRowOf
  refine v_aload_n 0 d_Sp_hasRowOf_0 rfl rfl ?_
  refine v_geti fl_Sp_15 ha0 rfl d_Sp_hasRowOf_1 ?_
  refine v_aload_n 1 d_Sp_hasRowOf_4 rfl rfl ?_
  refine v_geti fl_Sp_15 ha1 rfl d_Sp_hasRowOf_5 ?_
  refine v_icmp_eq 13 d_Sp_hasRowOf_8 (by decide) (fun c1 => ?_) (fun c1 => ?_)
  · refine v_iconst 0 d_Sp_hasRowOf_13 rfl ?_
    refine v_istore_n [(2, .int 0), (0, .ref (ad G a0)), (1, .ref (ad G a1))] d_Sp_hasRowOf_14 rfl (by decide) rfl ?_
    exact v_sub [1, 2, 0] rfl (Vl_Sp_hasRowOf_15 G FUEL a0 a1 0 ha0 ha1 h)
  · refine v_iconst 0 d_Sp_hasRowOf_11 rfl ?_
    exact v_zretL rfl rfl d_Sp_hasRowOf_12
theorem d_C_turned_0 : decode m_C_turned.2.1 0 = .ok (.aload_n 0, 1) := by decide +kernel
theorem d_C_turned_1 : decode m_C_turned.2.1 1 = .ok (.iload_n 1, 1) := by decide +kernel
theorem d_C_turned_2 : decode m_C_turned.2.1 2 = .ok (.iload_n 2, 1) := by decide +kernel
theorem d_C_turned_3 : decode m_C_turned.2.1 3 = .ok (.invokevirtual 122, 3) := by decide +kernel
theorem d_C_turned_6 : decode m_C_turned.2.1 6 = .ok (.ifCond .ne 6, 3) := by decide +kernel
theorem d_C_turned_9 : decode m_C_turned.2.1 9 = .ok (.bipush (-2), 2) := by decide +kernel
theorem d_C_turned_11 : decode m_C_turned.2.1 11 = .ok (.ireturn, 1) := by decide +kernel
theorem d_C_turned_12 : decode m_C_turned.2.1 12 = .ok (.aload_n 0, 1) := by decide +kernel
theorem d_C_turned_13 : decode m_C_turned.2.1 13 = .ok (.iload_n 1, 1) := by decide +kernel
theorem d_C_turned_14 : decode m_C_turned.2.1 14 = .ok (.invokevirtual 91, 3) := by decide +kernel
theorem d_C_turned_17 : decode m_C_turned.2.1 17 = .ok (.ifCond .eq 6, 3) := by decide +kernel
theorem d_C_turned_20 : decode m_C_turned.2.1 20 = .ok (.bipush (-3), 2) := by decide +kernel
theorem d_C_turned_22 : decode m_C_turned.2.1 22 = .ok (.ireturn, 1) := by decide +kernel
theorem d_C_turned_23 : decode m_C_turned.2.1 23 = .ok (.aload_n 0, 1) := by decide +kernel
theorem d_C_turned_24 : decode m_C_turned.2.1 24 = .ok (.getfield 23, 3) := by decide +kernel
theorem d_C_turned_27 : decode m_C_turned.2.1 27 = .ok (.aload_n 0, 1) := by decide +kernel
theorem d_C_turned_28 : decode m_C_turned.2.1 28 = .ok (.getfield 19, 3) := by decide +kernel
theorem d_C_turned_31 : decode m_C_turned.2.1 31 = .ok (.invokevirtual 151, 3) := by decide +kernel
theorem d_C_turned_34 : decode m_C_turned.2.1 34 = .ok (.aload_n 0, 1) := by decide +kernel
theorem d_C_turned_35 : decode m_C_turned.2.1 35 = .ok (.aload_n 0, 1) := by decide +kernel
theorem d_C_turned_36 : decode m_C_turned.2.1 36 = .ok (.getfield 28, 3) := by decide +kernel
theorem d_C_turned_39 : decode m_C_turned.2.1 39 = .ok (.iconst 0, 1) := by decide +kernel
theorem d_C_turned_40 : decode m_C_turned.2.1 40 = .ok (.aaload, 1) := by decide +kernel
theorem d_C_turned_41 : decode m_C_turned.2.1 41 = .ok (.aload_n 0, 1) := by decide +kernel
theorem d_C_turned_42 : decode m_C_turned.2.1 42 = .ok (.getfield 19, 3) := by decide +kernel
theorem d_C_turned_45 : decode m_C_turned.2.1 45 = .ok (.iload_n 1, 1) := by decide +kernel
theorem d_C_turned_46 : decode m_C_turned.2.1 46 = .ok (.iload_n 2, 1) := by decide +kernel
theorem d_C_turned_47 : decode m_C_turned.2.1 47 = .ok (.aload_n 0, 1) := by decide +kernel
theorem d_C_turned_48 : decode m_C_turned.2.1 48 = .ok (.getfield 49, 3) := by decide +kernel
theorem d_C_turned_51 : decode m_C_turned.2.1 51 = .ok (.invokevirtual 126, 3) := by decide +kernel
theorem d_C_turned_54 : decode m_C_turned.2.1 54 = .ok (.astore_n 3, 1) := by decide +kernel
theorem d_C_turned_55 : decode m_C_turned.2.1 55 = .ok (.aload_n 0, 1) := by decide +kernel
theorem d_C_turned_56 : decode m_C_turned.2.1 56 = .ok (.aload_n 0, 1) := by decide +kernel
theorem d_C_turned_57 : decode m_C_turned.2.1 57 = .ok (.getfield 28, 3) := by decide +kernel
theorem d_C_turned_60 : decode m_C_turned.2.1 60 = .ok (.iconst 1, 1) := by decide +kernel
theorem d_C_turned_61 : decode m_C_turned.2.1 61 = .ok (.aaload, 1) := by decide +kernel
theorem d_C_turned_62 : decode m_C_turned.2.1 62 = .ok (.aload_n 0, 1) := by decide +kernel
theorem d_C_turned_63 : decode m_C_turned.2.1 63 = .ok (.getfield 23, 3) := by decide +kernel
theorem d_C_turned_66 : decode m_C_turned.2.1 66 = .ok (.iload_n 1, 1) := by decide +kernel
theorem d_C_turned_67 : decode m_C_turned.2.1 67 = .ok (.iload_n 2, 1) := by decide +kernel
theorem d_C_turned_68 : decode m_C_turned.2.1 68 = .ok (.aload_n 0, 1) := by decide +kernel
theorem d_C_turned_69 : decode m_C_turned.2.1 69 = .ok (.getfield 49, 3) := by decide +kernel
theorem d_C_turned_72 : decode m_C_turned.2.1 72 = .ok (.invokevirtual 126, 3) := by decide +kernel
theorem d_C_turned_75 : decode m_C_turned.2.1 75 = .ok (.astore 4, 2) := by decide +kernel
theorem d_C_turned_77 : decode m_C_turned.2.1 77 = .ok (.aload_n 3, 1) := by decide +kernel
theorem d_C_turned_78 : decode m_C_turned.2.1 78 = .ok (.aload 4, 2) := by decide +kernel
theorem d_C_turned_80 : decode m_C_turned.2.1 80 = .ok (.invokevirtual 155, 3) := by decide +kernel
theorem d_C_turned_83 : decode m_C_turned.2.1 83 = .ok (.ifCond .eq 7, 3) := by decide +kernel
theorem d_C_turned_86 : decode m_C_turned.2.1 86 = .ok (.iconst 1, 1) := by decide +kernel
theorem d_C_turned_87 : decode m_C_turned.2.1 87 = .ok (.goto 4, 3) := by decide +kernel
theorem d_C_turned_90 : decode m_C_turned.2.1 90 = .ok (.iconst 0, 1) := by decide +kernel
theorem d_C_turned_91 : decode m_C_turned.2.1 91 = .ok (.ireturn, 1) := by decide +kernel
set_option maxHeartbeats 4000000 in
set_option maxRecDepth 20000 in
theorem c_C_turned (G : Gt) (x1 : Int32) (x2 : Int32) (h : Hp) : Cn G m_C_turned [.ref (ad G 0), .int x1, .int x2] h κi (f_C_turned x1 x2 h) := by
  refine entryV (by decide) (Nat.le_of_ble_eq_true rfl) rfl ?_
  show V G m_C_turned 0 [(0, .ref (ad G 0)), (1, .int x1), (2, .int x2)] [] h κi _
  unfold f_C_turned
  refine v_aload_n 0 d_C_turned_0 rfl rfl ?_
  refine v_iload_n 1 d_C_turned_1 rfl rfl ?_
  refine v_iload_n 2 d_C_turned_2 rfl rfl ?_
  refine v_callVi (As := [.int x1, .int x2]) (rest := []) (c_C_canBeTold G x1 x2 h) co_C_122 io_C_canBeTold o_0 ⟨by decide, by decide⟩ rfl rfl (Nat.le_of_ble_eq_true rfl) d_C_turned_3 (fun r1 h1 _ => ?_)
  refine v_if_ne 12 d_C_turned_6 (by decide) (fun c2 => ?_) (fun c2 => ?_)
  · refine v_bipush (-2) d_C_turned_9 rfl ?_
    exact v_iret rfl d_C_turned_11
  · refine v_aload_n 0 d_C_turned_12 rfl rfl ?_
    refine v_iload_n 1 d_C_turned_13 rfl rfl ?_
    refine v_callVi (As := [.int x1]) (rest := []) (c_C_isHidden G x1 h1) co_C_91 io_C_isHidden o_0 ⟨by decide, by decide⟩ rfl rfl (Nat.le_of_ble_eq_true rfl) d_C_turned_14 (fun r3 h3 _ => ?_)
    refine v_if_eq 23 d_C_turned_17 (by decide) (fun c4 => ?_) (fun c4 => ?_)
    · refine v_aload_n 0 d_C_turned_23 rfl rfl ?_
      refine v_getr 6 fl_C_23 o_0 rfl rfl d_C_turned_24 ?_
      refine v_aload_n 0 d_C_turned_27 rfl rfl ?_
      refine v_getr 3 fl_C_19 o_0 rfl rfl d_C_turned_28 ?_
      refine v_callVv (As := [.ref (ad G 3)]) (rest := []) (c_Fr_becomeTurned G 6 3 o_6 o_3 h3) co_C_151 io_Fr_becomeTurned o_6 ⟨by decide, by decide⟩ rfl rfl (Nat.le_of_ble_eq_true rfl) d_C_turned_31 (fun _ h5 _ => ?_)
      refine v_aload_n 0 d_C_turned_34 rfl rfl ?_
      refine v_aload_n 0 d_C_turned_35 rfl rfl ?_
      refine v_getr 9 fl_C_28 o_0 rfl rfl d_C_turned_36 ?_
      refine v_iconst 0 d_C_turned_39 rfl ?_
      refine v_aald2 15 rfl ar_9 d_C_turned_40 (fun b6 => ?_)
      refine v_aload_n 0 d_C_turned_41 rfl rfl ?_
      refine v_getr 3 fl_C_19 o_0 rfl rfl d_C_turned_42 ?_
      refine v_iload_n 1 d_C_turned_45 rfl rfl ?_
      refine v_iload_n 2 d_C_turned_46 rfl rfl ?_
      refine v_aload_n 0 d_C_turned_47 rfl rfl ?_
      refine v_geti fl_C_49 o_0 rfl d_C_turned_48 ?_
      refine v_callVr (As := [.ref (ad G 15), .ref (ad G 3), .int x1, .int x2, .int (h5 0 7)]) (rest := []) (c_C_lay G 15 3 x1 x2 (h5 0 7) o_15 o_3 h5) co_C_126 io_C_lay o_0 ⟨by decide, by decide⟩ rfl rfl (Nat.le_of_ble_eq_true rfl) d_C_turned_51 (fun r7 h7 z7 => ?_)
      have e7 := lay_isO o_15 z7
      refine v_astore_n [(3, .ref (ad G r7)), (0, .ref (ad G 0)), (1, .int x1), (2, .int x2)] d_C_turned_54 rfl (by decide) rfl ?_
      refine v_aload_n 1 d_C_turned_55 rfl rfl ?_
      refine v_aload_n 1 d_C_turned_56 rfl rfl ?_
      refine v_getr 9 fl_C_28 o_0 rfl rfl d_C_turned_57 ?_
      refine v_iconst 1 d_C_turned_60 rfl ?_
      refine v_aald2 17 rfl ar_9 d_C_turned_61 (fun b8 => ?_)
      refine v_aload_n 1 d_C_turned_62 rfl rfl ?_
      refine v_getr 6 fl_C_23 o_0 rfl rfl d_C_turned_63 ?_
      refine v_iload_n 2 d_C_turned_66 rfl rfl ?_
      refine v_iload_n 3 d_C_turned_67 rfl rfl ?_
      refine v_aload_n 1 d_C_turned_68 rfl rfl ?_
      refine v_geti fl_C_49 o_0 rfl d_C_turned_69 ?_
      refine v_callVr (As := [.ref (ad G 17), .ref (ad G 6), .int x1, .int x2, .int (h7 0 7)]) (rest := []) (c_C_lay G 17 6 x1 x2 (h7 0 7) o_17 o_6 h7) co_C_126 io_C_lay o_0 ⟨by decide, by decide⟩ rfl rfl (Nat.le_of_ble_eq_true rfl) d_C_turned_72 (fun r9 h9 z9 => ?_)
      have e9 := lay_isO o_17 z9
      refine v_astore [(4, .ref (ad G r9)), (3, .ref (ad G r7)), (0, .ref (ad G 0)), (1, .int x1), (2, .int x2)] d_C_turned_75 (by decide) rfl ?_
      refine v_aload_n 1 d_C_turned_77 rfl rfl ?_
      refine v_aload 0 d_C_turned_78 rfl ?_
      refine v_callVi (As := [.ref (ad G r9)]) (rest := []) (c_Sp_hasRowOf G r7 r9 e7 e9 h9) co_C_155 io_Sp_hasRowOf e7 ⟨by decide, by decide⟩ rfl rfl (Nat.le_of_ble_eq_true rfl) d_C_turned_80 (fun r10 h10 _ => ?_)
      refine v_if_eq 90 d_C_turned_83 (by decide) (fun c11 => ?_) (fun c11 => ?_)
      · refine v_iconst 0 d_C_turned_90 rfl ?_
        exact v_iret rfl d_C_turned_91
      · refine v_iconst 1 d_C_turned_86 rfl ?_
        refine v_goto 91 d_C_turned_87 (by decide) ?_
        exact v_iret rfl d_C_turned_91
    · refine v_bipush (-3) d_C_turned_20 rfl ?_
      exact v_iret rfl d_C_turned_22
theorem d_Fr_become_0 : decode m_Fr_become.2.1 0 = .ok (.aload_n 0, 1) := by decide +kernel
theorem d_Fr_become_1 : decode m_Fr_become.2.1 1 = .ok (.iconst 0, 1) := by decide +kernel
theorem d_Fr_become_2 : decode m_Fr_become.2.1 2 = .ok (.putfield 18, 3) := by decide +kernel
theorem d_Fr_become_5 : decode m_Fr_become.2.1 5 = .ok (.iconst 0, 1) := by decide +kernel
theorem d_Fr_become_6 : decode m_Fr_become.2.1 6 = .ok (.istore_n 2, 1) := by decide +kernel
theorem d_Fr_become_7 : decode m_Fr_become.2.1 7 = .ok (.iload_n 2, 1) := by decide +kernel
theorem d_Fr_become_8 : decode m_Fr_become.2.1 8 = .ok (.aload_n 1, 1) := by decide +kernel
theorem d_Fr_become_9 : decode m_Fr_become.2.1 9 = .ok (.getfield 18, 3) := by decide +kernel
theorem d_Fr_become_12 : decode m_Fr_become.2.1 12 = .ok (.if_icmp .ge 25, 3) := by decide +kernel
theorem d_Fr_become_15 : decode m_Fr_become.2.1 15 = .ok (.aload_n 0, 1) := by decide +kernel
theorem d_Fr_become_16 : decode m_Fr_become.2.1 16 = .ok (.aload_n 1, 1) := by decide +kernel
theorem d_Fr_become_17 : decode m_Fr_become.2.1 17 = .ok (.getfield 9, 3) := by decide +kernel
theorem d_Fr_become_20 : decode m_Fr_become.2.1 20 = .ok (.iload_n 2, 1) := by decide +kernel
theorem d_Fr_become_21 : decode m_Fr_become.2.1 21 = .ok (.iaload, 1) := by decide +kernel
theorem d_Fr_become_22 : decode m_Fr_become.2.1 22 = .ok (.aload_n 1, 1) := by decide +kernel
theorem d_Fr_become_23 : decode m_Fr_become.2.1 23 = .ok (.getfield 15, 3) := by decide +kernel
theorem d_Fr_become_26 : decode m_Fr_become.2.1 26 = .ok (.iload_n 2, 1) := by decide +kernel
theorem d_Fr_become_27 : decode m_Fr_become.2.1 27 = .ok (.iaload, 1) := by decide +kernel
theorem d_Fr_become_28 : decode m_Fr_become.2.1 28 = .ok (.invokevirtual 22, 3) := by decide +kernel
theorem d_Fr_become_31 : decode m_Fr_become.2.1 31 = .ok (.iinc 2 1, 3) := by decide +kernel
theorem d_Fr_become_34 : decode m_Fr_become.2.1 34 = .ok (.goto (-27), 3) := by decide +kernel
theorem d_Fr_become_37 : decode m_Fr_become.2.1 37 = .ok (.return_, 1) := by decide +kernel
set_option maxHeartbeats 4000000 in
set_option maxRecDepth 20000 in
theorem Vl_Fr_become_7 (G : Gt) : ∀ (n : Nat) (a0 : Nat) (a1 : Nat) (x2 : Int32) (ha0 : isO 0 a0) (ha1 : isO 0 a1) (h : Hp), V G m_Fr_become 7 [(0, .ref (ad G a0)), (1, .ref (ad G a1)), (2, .int x2)] [] h κv (l_Fr_become_7 n a0 a1 x2 h) := by
  intro n
  induction n with
  | zero => intros; exact v_none
  | succ n ih =>
    intro a0 a1 x2 ha0 ha1 h
    rw [l_Fr_become_7]
    refine v_iload_n 2 d_Fr_become_7 rfl rfl ?_
    refine v_aload_n 1 d_Fr_become_8 rfl rfl ?_
    refine v_geti fl_Fr_18 ha1 rfl d_Fr_become_9 ?_
    refine v_icmp_ge 37 d_Fr_become_12 (by decide) (fun c1 => ?_) (fun c1 => ?_)
    · exact v_vret rfl d_Fr_become_37
    · refine v_aload_n 0 d_Fr_become_15 rfl rfl ?_
      refine v_aload_n 1 d_Fr_become_16 rfl rfl ?_
      refine v_getr (a1 + 1) fl_Fr_9 ha1 rfl rfl d_Fr_become_17 ?_
      refine v_iload_n 2 d_Fr_become_20 rfl rfl ?_
      refine v_iald ((frA ha1).1) d_Fr_become_21 ?_
      refine v_aload_n 1 d_Fr_become_22 rfl rfl ?_
      refine v_getr (a1 + 2) fl_Fr_15 ha1 rfl rfl d_Fr_become_23 ?_
      refine v_iload_n 2 d_Fr_become_26 rfl rfl ?_
      refine v_iald ((frA ha1).2) d_Fr_become_27 ?_
      refine v_callVv (As := [.int (h (a1 + 1) (ix x2)), .int (h (a1 + 2) (ix x2))]) (rest := []) (c_Fr_add G a0 (h (a1 + 1) (ix x2)) (h (a1 + 2) (ix x2)) ha0 h) co_Fr_22 io_Fr_add ha0 ⟨by decide, by decide⟩ rfl rfl (Nat.le_of_ble_eq_true rfl) d_Fr_become_28 (fun _ h2 _ => ?_)
      refine v_iinc (x2 + 1) 2 [(2, .int (x2 + 1)), (0, .ref (ad G a0)), (1, .ref (ad G a1))] d_Fr_become_31 rfl rfl (by decide) rfl ?_
      refine v_goto 7 d_Fr_become_34 (by decide) ?_
      exact v_sub [1, 2, 0] rfl (ih a0 a1 (x2 + 1) ha0 ha1 h2)
set_option maxHeartbeats 4000000 in
set_option maxRecDepth 20000 in
theorem c_Fr_become (G : Gt) (a0 : Nat) (a1 : Nat) (ha0 : isO 0 a0) (ha1 : isO 0 a1) (h : Hp) : Cn G m_Fr_become [.ref (ad G a0), .ref (ad G a1)] h κv (f_Fr_become a0 a1 h) := by
  refine entryV (by decide) (Nat.le_of_ble_eq_true rfl) rfl ?_
  show V G m_Fr_become 0 [(0, .ref (ad G a0)), (1, .ref (ad G a1))] [] h κv _
  unfold f_Fr_become
  refine v_aload_n 0 d_Fr_become_0 rfl rfl ?_
  refine v_iconst 0 d_Fr_become_1 rfl ?_
  refine v_puti fl_Fr_18 ft_0_2 rfl rfl ha0 rfl d_Fr_become_2 ?_
  refine v_iconst 0 d_Fr_become_5 rfl ?_
  refine v_istore_n [(2, .int 0), (0, .ref (ad G a0)), (1, .ref (ad G a1))] d_Fr_become_6 rfl (by decide) rfl ?_
  exact v_sub [1, 2, 0] rfl (Vl_Fr_become_7 G FUEL a0 a1 0 ha0 ha1 (hset h a0 2 0))
theorem d_C_more_0 : decode m_C_more.2.1 0 = .ok (.aload_n 0, 1) := by decide +kernel
theorem d_C_more_1 : decode m_C_more.2.1 1 = .ok (.iload_n 1, 1) := by decide +kernel
theorem d_C_more_2 : decode m_C_more.2.1 2 = .ok (.iload_n 2, 1) := by decide +kernel
theorem d_C_more_3 : decode m_C_more.2.1 3 = .ok (.invokevirtual 122, 3) := by decide +kernel
theorem d_C_more_6 : decode m_C_more.2.1 6 = .ok (.ifCond .eq 25, 3) := by decide +kernel
theorem d_C_more_9 : decode m_C_more.2.1 9 = .ok (.iload_n 3, 1) := by decide +kernel
theorem d_C_more_10 : decode m_C_more.2.1 10 = .ok (.ifCond .lt 21, 3) := by decide +kernel
theorem d_C_more_13 : decode m_C_more.2.1 13 = .ok (.iload_n 3, 1) := by decide +kernel
theorem d_C_more_14 : decode m_C_more.2.1 14 = .ok (.bipush 10, 2) := by decide +kernel
theorem d_C_more_16 : decode m_C_more.2.1 16 = .ok (.if_icmp .ge 15, 3) := by decide +kernel
theorem d_C_more_19 : decode m_C_more.2.1 19 = .ok (.iload 4, 2) := by decide +kernel
theorem d_C_more_21 : decode m_C_more.2.1 21 = .ok (.ifCond .lt 10, 3) := by decide +kernel
theorem d_C_more_24 : decode m_C_more.2.1 24 = .ok (.iload 4, 2) := by decide +kernel
theorem d_C_more_26 : decode m_C_more.2.1 26 = .ok (.bipush 10, 2) := by decide +kernel
theorem d_C_more_28 : decode m_C_more.2.1 28 = .ok (.if_icmp .lt 6, 3) := by decide +kernel
theorem d_C_more_31 : decode m_C_more.2.1 31 = .ok (.bipush (-2), 2) := by decide +kernel
theorem d_C_more_33 : decode m_C_more.2.1 33 = .ok (.ireturn, 1) := by decide +kernel
theorem d_C_more_34 : decode m_C_more.2.1 34 = .ok (.aload_n 0, 1) := by decide +kernel
theorem d_C_more_35 : decode m_C_more.2.1 35 = .ok (.iload_n 1, 1) := by decide +kernel
theorem d_C_more_36 : decode m_C_more.2.1 36 = .ok (.invokevirtual 91, 3) := by decide +kernel
theorem d_C_more_39 : decode m_C_more.2.1 39 = .ok (.ifCond .ne 28, 3) := by decide +kernel
theorem d_C_more_42 : decode m_C_more.2.1 42 = .ok (.aload_n 0, 1) := by decide +kernel
theorem d_C_more_43 : decode m_C_more.2.1 43 = .ok (.getfield 19, 3) := by decide +kernel
theorem d_C_more_46 : decode m_C_more.2.1 46 = .ok (.getfield 159, 3) := by decide +kernel
theorem d_C_more_49 : decode m_C_more.2.1 49 = .ok (.bipush 10, 2) := by decide +kernel
theorem d_C_more_51 : decode m_C_more.2.1 51 = .ok (.if_icmp .ge 16, 3) := by decide +kernel
theorem d_C_more_54 : decode m_C_more.2.1 54 = .ok (.aload_n 0, 1) := by decide +kernel
theorem d_C_more_55 : decode m_C_more.2.1 55 = .ok (.getfield 19, 3) := by decide +kernel
theorem d_C_more_58 : decode m_C_more.2.1 58 = .ok (.iload_n 3, 1) := by decide +kernel
theorem d_C_more_59 : decode m_C_more.2.1 59 = .ok (.iload 4, 2) := by decide +kernel
theorem d_C_more_61 : decode m_C_more.2.1 61 = .ok (.invokevirtual 160, 3) := by decide +kernel
theorem d_C_more_64 : decode m_C_more.2.1 64 = .ok (.ifCond .eq 6, 3) := by decide +kernel
theorem d_C_more_67 : decode m_C_more.2.1 67 = .ok (.bipush (-3), 2) := by decide +kernel
theorem d_C_more_69 : decode m_C_more.2.1 69 = .ok (.ireturn, 1) := by decide +kernel
theorem d_C_more_70 : decode m_C_more.2.1 70 = .ok (.aload_n 0, 1) := by decide +kernel
theorem d_C_more_71 : decode m_C_more.2.1 71 = .ok (.getfield 23, 3) := by decide +kernel
theorem d_C_more_74 : decode m_C_more.2.1 74 = .ok (.aload_n 0, 1) := by decide +kernel
theorem d_C_more_75 : decode m_C_more.2.1 75 = .ok (.getfield 19, 3) := by decide +kernel
theorem d_C_more_78 : decode m_C_more.2.1 78 = .ok (.invokevirtual 163, 3) := by decide +kernel
theorem d_C_more_81 : decode m_C_more.2.1 81 = .ok (.aload_n 0, 1) := by decide +kernel
theorem d_C_more_82 : decode m_C_more.2.1 82 = .ok (.getfield 23, 3) := by decide +kernel
theorem d_C_more_85 : decode m_C_more.2.1 85 = .ok (.iload_n 3, 1) := by decide +kernel
theorem d_C_more_86 : decode m_C_more.2.1 86 = .ok (.iload 4, 2) := by decide +kernel
theorem d_C_more_88 : decode m_C_more.2.1 88 = .ok (.invokevirtual 166, 3) := by decide +kernel
theorem d_C_more_91 : decode m_C_more.2.1 91 = .ok (.aload_n 0, 1) := by decide +kernel
theorem d_C_more_92 : decode m_C_more.2.1 92 = .ok (.aload_n 0, 1) := by decide +kernel
theorem d_C_more_93 : decode m_C_more.2.1 93 = .ok (.getfield 28, 3) := by decide +kernel
theorem d_C_more_96 : decode m_C_more.2.1 96 = .ok (.iconst 0, 1) := by decide +kernel
theorem d_C_more_97 : decode m_C_more.2.1 97 = .ok (.aaload, 1) := by decide +kernel
theorem d_C_more_98 : decode m_C_more.2.1 98 = .ok (.aload_n 0, 1) := by decide +kernel
theorem d_C_more_99 : decode m_C_more.2.1 99 = .ok (.getfield 23, 3) := by decide +kernel
theorem d_C_more_102 : decode m_C_more.2.1 102 = .ok (.iload_n 1, 1) := by decide +kernel
theorem d_C_more_103 : decode m_C_more.2.1 103 = .ok (.iload_n 2, 1) := by decide +kernel
theorem d_C_more_104 : decode m_C_more.2.1 104 = .ok (.aload_n 0, 1) := by decide +kernel
theorem d_C_more_105 : decode m_C_more.2.1 105 = .ok (.getfield 49, 3) := by decide +kernel
theorem d_C_more_108 : decode m_C_more.2.1 108 = .ok (.invokevirtual 126, 3) := by decide +kernel
theorem d_C_more_111 : decode m_C_more.2.1 111 = .ok (.getfield 134, 3) := by decide +kernel
theorem d_C_more_114 : decode m_C_more.2.1 114 = .ok (.ireturn, 1) := by decide +kernel
set_option maxHeartbeats 4000000 in
set_option maxRecDepth 20000 in
theorem c_C_more (G : Gt) (x1 : Int32) (x2 : Int32) (x3 : Int32) (x4 : Int32) (h : Hp) : Cn G m_C_more [.ref (ad G 0), .int x1, .int x2, .int x3, .int x4] h κi (f_C_more x1 x2 x3 x4 h) := by
  refine entryV (by decide) (Nat.le_of_ble_eq_true rfl) rfl ?_
  show V G m_C_more 0 [(0, .ref (ad G 0)), (1, .int x1), (2, .int x2), (3, .int x3), (4, .int x4)] [] h κi _
  unfold f_C_more
  refine v_aload_n 0 d_C_more_0 rfl rfl ?_
  refine v_iload_n 1 d_C_more_1 rfl rfl ?_
  refine v_iload_n 2 d_C_more_2 rfl rfl ?_
  refine v_callVi (As := [.int x1, .int x2]) (rest := []) (c_C_canBeTold G x1 x2 h) co_C_122 io_C_canBeTold o_0 ⟨by decide, by decide⟩ rfl rfl (Nat.le_of_ble_eq_true rfl) d_C_more_3 (fun r1 h1 _ => ?_)
  refine v_if_eq 31 d_C_more_6 (by decide) (fun c2 => ?_) (fun c2 => ?_)
  · refine v_bipush (-2) d_C_more_31 rfl ?_
    exact v_iret rfl d_C_more_33
  · refine v_iload_n 3 d_C_more_9 rfl rfl ?_
    refine v_if_lt 31 d_C_more_10 (by decide) (fun c3 => ?_) (fun c3 => ?_)
    · refine v_bipush (-2) d_C_more_31 rfl ?_
      exact v_iret rfl d_C_more_33
    · refine v_iload_n 3 d_C_more_13 rfl rfl ?_
      refine v_bipush 10 d_C_more_14 rfl ?_
      refine v_icmp_ge 31 d_C_more_16 (by decide) (fun c4 => ?_) (fun c4 => ?_)
      · refine v_bipush (-2) d_C_more_31 rfl ?_
        exact v_iret rfl d_C_more_33
      · refine v_iload 4 d_C_more_19 rfl ?_
        refine v_if_lt 31 d_C_more_21 (by decide) (fun c5 => ?_) (fun c5 => ?_)
        · refine v_bipush (-2) d_C_more_31 rfl ?_
          exact v_iret rfl d_C_more_33
        · refine v_iload 4 d_C_more_24 rfl ?_
          refine v_bipush 10 d_C_more_26 rfl ?_
          refine v_icmp_lt 34 d_C_more_28 (by decide) (fun c6 => ?_) (fun c6 => ?_)
          · refine v_aload_n 0 d_C_more_34 rfl rfl ?_
            refine v_iload_n 1 d_C_more_35 rfl rfl ?_
            refine v_callVi (As := [.int x1]) (rest := []) (c_C_isHidden G x1 h1) co_C_91 io_C_isHidden o_0 ⟨by decide, by decide⟩ rfl rfl (Nat.le_of_ble_eq_true rfl) d_C_more_36 (fun r7 h7 _ => ?_)
            refine v_if_ne 67 d_C_more_39 (by decide) (fun c8 => ?_) (fun c8 => ?_)
            · refine v_aload_n 0 d_C_more_42 rfl rfl ?_
              refine v_getr 3 fl_C_19 o_0 rfl rfl d_C_more_43 ?_
              refine v_geti fl_C_159 o_3 rfl d_C_more_46 ?_
              refine v_bipush 10 d_C_more_49 rfl ?_
              refine v_icmp_ge 67 d_C_more_51 (by decide) (fun c9 => ?_) (fun c9 => ?_)
              · refine v_bipush (-3) d_C_more_67 rfl ?_
                exact v_iret rfl d_C_more_69
              · refine v_aload_n 0 d_C_more_54 rfl rfl ?_
                refine v_getr 3 fl_C_19 o_0 rfl rfl d_C_more_55 ?_
                refine v_iload_n 3 d_C_more_58 rfl rfl ?_
                refine v_iload 4 d_C_more_59 rfl ?_
                refine v_callVi (As := [.int x3, .int x4]) (rest := []) (c_Fr_isTaken G 3 x3 x4 o_3 h7) co_C_160 io_Fr_isTaken o_3 ⟨by decide, by decide⟩ rfl rfl (Nat.le_of_ble_eq_true rfl) d_C_more_61 (fun r10 h10 _ => ?_)
                refine v_if_eq 70 d_C_more_64 (by decide) (fun c11 => ?_) (fun c11 => ?_)
                · refine v_aload_n 0 d_C_more_70 rfl rfl ?_
                  refine v_getr 6 fl_C_23 o_0 rfl rfl d_C_more_71 ?_
                  refine v_aload_n 0 d_C_more_74 rfl rfl ?_
                  refine v_getr 3 fl_C_19 o_0 rfl rfl d_C_more_75 ?_
                  refine v_callVv (As := [.ref (ad G 3)]) (rest := []) (c_Fr_become G 6 3 o_6 o_3 h10) co_C_163 io_Fr_become o_6 ⟨by decide, by decide⟩ rfl rfl (Nat.le_of_ble_eq_true rfl) d_C_more_78 (fun _ h12 _ => ?_)
                  refine v_aload_n 0 d_C_more_81 rfl rfl ?_
                  refine v_getr 6 fl_C_23 o_0 rfl rfl d_C_more_82 ?_
                  refine v_iload_n 3 d_C_more_85 rfl rfl ?_
                  refine v_iload 4 d_C_more_86 rfl ?_
                  refine v_callVv (As := [.int x3, .int x4]) (rest := []) (c_Fr_add G 6 x3 x4 o_6 h12) co_C_166 io_Fr_add o_6 ⟨by decide, by decide⟩ rfl rfl (Nat.le_of_ble_eq_true rfl) d_C_more_88 (fun _ h13 _ => ?_)
                  refine v_aload_n 0 d_C_more_91 rfl rfl ?_
                  refine v_aload_n 0 d_C_more_92 rfl rfl ?_
                  refine v_getr 9 fl_C_28 o_0 rfl rfl d_C_more_93 ?_
                  refine v_iconst 0 d_C_more_96 rfl ?_
                  refine v_aald2 15 rfl ar_9 d_C_more_97 (fun b14 => ?_)
                  refine v_aload_n 0 d_C_more_98 rfl rfl ?_
                  refine v_getr 6 fl_C_23 o_0 rfl rfl d_C_more_99 ?_
                  refine v_iload_n 1 d_C_more_102 rfl rfl ?_
                  refine v_iload_n 2 d_C_more_103 rfl rfl ?_
                  refine v_aload_n 0 d_C_more_104 rfl rfl ?_
                  refine v_geti fl_C_49 o_0 rfl d_C_more_105 ?_
                  refine v_callVr (As := [.ref (ad G 15), .ref (ad G 6), .int x1, .int x2, .int (h13 0 7)]) (rest := []) (c_C_lay G 15 6 x1 x2 (h13 0 7) o_15 o_6 h13) co_C_126 io_C_lay o_0 ⟨by decide, by decide⟩ rfl rfl (Nat.le_of_ble_eq_true rfl) d_C_more_108 (fun r15 h15 z15 => ?_)
                  have e15 := lay_isO o_15 z15
                  refine v_geti fl_C_134 e15 rfl d_C_more_111 ?_
                  exact v_iret rfl d_C_more_114
                · refine v_bipush (-3) d_C_more_67 rfl ?_
                  exact v_iret rfl d_C_more_69
            · refine v_bipush (-3) d_C_more_67 rfl ?_
              exact v_iret rfl d_C_more_69
          · refine v_bipush (-2) d_C_more_31 rfl ?_
            exact v_iret rfl d_C_more_33
theorem d_C_begin_0 : decode m_C_begin.2.1 0 = .ok (.iload_n 1, 1) := by decide +kernel
theorem d_C_begin_1 : decode m_C_begin.2.1 1 = .ok (.invokestatic 169, 3) := by decide +kernel
theorem d_C_begin_4 : decode m_C_begin.2.1 4 = .ok (.ifCond .ne 6, 3) := by decide +kernel
theorem d_C_begin_7 : decode m_C_begin.2.1 7 = .ok (.bipush (-2), 2) := by decide +kernel
theorem d_C_begin_9 : decode m_C_begin.2.1 9 = .ok (.ireturn, 1) := by decide +kernel
theorem d_C_begin_10 : decode m_C_begin.2.1 10 = .ok (.iconst (-1), 1) := by decide +kernel
theorem d_C_begin_11 : decode m_C_begin.2.1 11 = .ok (.istore_n 2, 1) := by decide +kernel
theorem d_C_begin_12 : decode m_C_begin.2.1 12 = .ok (.iconst 0, 1) := by decide +kernel
theorem d_C_begin_13 : decode m_C_begin.2.1 13 = .ok (.istore_n 3, 1) := by decide +kernel
theorem d_C_begin_14 : decode m_C_begin.2.1 14 = .ok (.iconst 0, 1) := by decide +kernel
theorem d_C_begin_15 : decode m_C_begin.2.1 15 = .ok (.istore 4, 2) := by decide +kernel
theorem d_C_begin_17 : decode m_C_begin.2.1 17 = .ok (.iconst 0, 1) := by decide +kernel
theorem d_C_begin_18 : decode m_C_begin.2.1 18 = .ok (.istore 5, 2) := by decide +kernel
theorem d_C_begin_20 : decode m_C_begin.2.1 20 = .ok (.iload 5, 2) := by decide +kernel
theorem d_C_begin_22 : decode m_C_begin.2.1 22 = .ok (.aload_n 0, 1) := by decide +kernel
theorem d_C_begin_23 : decode m_C_begin.2.1 23 = .ok (.getfield 19, 3) := by decide +kernel
theorem d_C_begin_26 : decode m_C_begin.2.1 26 = .ok (.getfield 159, 3) := by decide +kernel
theorem d_C_begin_29 : decode m_C_begin.2.1 29 = .ok (.if_icmp .ge 88, 3) := by decide +kernel
theorem d_C_begin_32 : decode m_C_begin.2.1 32 = .ok (.aload_n 0, 1) := by decide +kernel
theorem d_C_begin_33 : decode m_C_begin.2.1 33 = .ok (.iload 5, 2) := by decide +kernel
theorem d_C_begin_35 : decode m_C_begin.2.1 35 = .ok (.invokevirtual 91, 3) := by decide +kernel
theorem d_C_begin_38 : decode m_C_begin.2.1 38 = .ok (.ifCond .eq 6, 3) := by decide +kernel
theorem d_C_begin_41 : decode m_C_begin.2.1 41 = .ok (.goto 70, 3) := by decide +kernel
theorem d_C_begin_44 : decode m_C_begin.2.1 44 = .ok (.aload_n 0, 1) := by decide +kernel
theorem d_C_begin_45 : decode m_C_begin.2.1 45 = .ok (.aload_n 0, 1) := by decide +kernel
theorem d_C_begin_46 : decode m_C_begin.2.1 46 = .ok (.getfield 28, 3) := by decide +kernel
theorem d_C_begin_49 : decode m_C_begin.2.1 49 = .ok (.iconst 0, 1) := by decide +kernel
theorem d_C_begin_50 : decode m_C_begin.2.1 50 = .ok (.aaload, 1) := by decide +kernel
theorem d_C_begin_51 : decode m_C_begin.2.1 51 = .ok (.aload_n 0, 1) := by decide +kernel
theorem d_C_begin_52 : decode m_C_begin.2.1 52 = .ok (.getfield 19, 3) := by decide +kernel
theorem d_C_begin_55 : decode m_C_begin.2.1 55 = .ok (.iload 5, 2) := by decide +kernel
theorem d_C_begin_57 : decode m_C_begin.2.1 57 = .ok (.iload_n 1, 1) := by decide +kernel
theorem d_C_begin_58 : decode m_C_begin.2.1 58 = .ok (.aload_n 0, 1) := by decide +kernel
theorem d_C_begin_59 : decode m_C_begin.2.1 59 = .ok (.getfield 49, 3) := by decide +kernel
theorem d_C_begin_62 : decode m_C_begin.2.1 62 = .ok (.invokevirtual 126, 3) := by decide +kernel
theorem d_C_begin_65 : decode m_C_begin.2.1 65 = .ok (.astore 6, 2) := by decide +kernel
theorem d_C_begin_67 : decode m_C_begin.2.1 67 = .ok (.aload 6, 2) := by decide +kernel
theorem d_C_begin_69 : decode m_C_begin.2.1 69 = .ok (.getfield 130, 3) := by decide +kernel
theorem d_C_begin_72 : decode m_C_begin.2.1 72 = .ok (.iload_n 3, 1) := by decide +kernel
theorem d_C_begin_73 : decode m_C_begin.2.1 73 = .ok (.if_icmp .gt 22, 3) := by decide +kernel
theorem d_C_begin_76 : decode m_C_begin.2.1 76 = .ok (.aload 6, 2) := by decide +kernel
theorem d_C_begin_78 : decode m_C_begin.2.1 78 = .ok (.getfield 130, 3) := by decide +kernel
theorem d_C_begin_81 : decode m_C_begin.2.1 81 = .ok (.iload_n 3, 1) := by decide +kernel
theorem d_C_begin_82 : decode m_C_begin.2.1 82 = .ok (.if_icmp .ne 29, 3) := by decide +kernel
theorem d_C_begin_85 : decode m_C_begin.2.1 85 = .ok (.aload 6, 2) := by decide +kernel
theorem d_C_begin_87 : decode m_C_begin.2.1 87 = .ok (.getfield 134, 3) := by decide +kernel
theorem d_C_begin_90 : decode m_C_begin.2.1 90 = .ok (.iload 4, 2) := by decide +kernel
theorem d_C_begin_92 : decode m_C_begin.2.1 92 = .ok (.if_icmp .ge 19, 3) := by decide +kernel
theorem d_C_begin_95 : decode m_C_begin.2.1 95 = .ok (.iload 5, 2) := by decide +kernel
theorem d_C_begin_97 : decode m_C_begin.2.1 97 = .ok (.istore_n 2, 1) := by decide +kernel
theorem d_C_begin_98 : decode m_C_begin.2.1 98 = .ok (.aload 6, 2) := by decide +kernel
theorem d_C_begin_100 : decode m_C_begin.2.1 100 = .ok (.getfield 130, 3) := by decide +kernel
theorem d_C_begin_103 : decode m_C_begin.2.1 103 = .ok (.istore_n 3, 1) := by decide +kernel
theorem d_C_begin_104 : decode m_C_begin.2.1 104 = .ok (.aload 6, 2) := by decide +kernel
theorem d_C_begin_106 : decode m_C_begin.2.1 106 = .ok (.getfield 134, 3) := by decide +kernel
theorem d_C_begin_109 : decode m_C_begin.2.1 109 = .ok (.istore 4, 2) := by decide +kernel
theorem d_C_begin_111 : decode m_C_begin.2.1 111 = .ok (.iinc 5 1, 3) := by decide +kernel
theorem d_C_begin_114 : decode m_C_begin.2.1 114 = .ok (.goto (-94), 3) := by decide +kernel
theorem d_C_begin_117 : decode m_C_begin.2.1 117 = .ok (.iload_n 2, 1) := by decide +kernel
theorem d_C_begin_118 : decode m_C_begin.2.1 118 = .ok (.ireturn, 1) := by decide +kernel
set_option maxHeartbeats 4000000 in
set_option maxRecDepth 20000 in
theorem Vl_C_begin_20 (G : Gt) : ∀ (n : Nat) (x1 : Int32) (x2 : Int32) (x3 : Int32) (x4 : Int32) (x5 : Int32) (h : Hp), V G m_C_begin 20 [(0, .ref (ad G 0)), (1, .int x1), (2, .int x2), (3, .int x3), (4, .int x4), (5, .int x5)] [] h κi (l_C_begin_20 n x1 x2 x3 x4 x5 h) := by
  intro n
  induction n with
  | zero => intros; exact v_none
  | succ n ih =>
    intro x1 x2 x3 x4 x5 h
    rw [l_C_begin_20]
    refine v_iload 5 d_C_begin_20 rfl ?_
    refine v_aload_n 0 d_C_begin_22 rfl rfl ?_
    refine v_getr 3 fl_C_19 o_0 rfl rfl d_C_begin_23 ?_
    refine v_geti fl_C_159 o_3 rfl d_C_begin_26 ?_
    refine v_icmp_ge 117 d_C_begin_29 (by decide) (fun c3 => ?_) (fun c3 => ?_)
    · refine v_iload_n 2 d_C_begin_117 rfl rfl ?_
      exact v_iret rfl d_C_begin_118
    · refine v_aload_n 0 d_C_begin_32 rfl rfl ?_
      refine v_iload 5 d_C_begin_33 rfl ?_
      refine v_callVi (As := [.int x5]) (rest := []) (c_C_isHidden G x5 h) co_C_91 io_C_isHidden o_0 ⟨by decide, by decide⟩ rfl rfl (Nat.le_of_ble_eq_true rfl) d_C_begin_35 (fun r4 h4 _ => ?_)
      refine v_if_eq 44 d_C_begin_38 (by decide) (fun c5 => ?_) (fun c5 => ?_)
      · refine v_aload_n 0 d_C_begin_44 rfl rfl ?_
        refine v_aload_n 0 d_C_begin_45 rfl rfl ?_
        refine v_getr 9 fl_C_28 o_0 rfl rfl d_C_begin_46 ?_
        refine v_iconst 0 d_C_begin_49 rfl ?_
        refine v_aald2 15 rfl ar_9 d_C_begin_50 (fun b6 => ?_)
        refine v_aload_n 0 d_C_begin_51 rfl rfl ?_
        refine v_getr 3 fl_C_19 o_0 rfl rfl d_C_begin_52 ?_
        refine v_iload 5 d_C_begin_55 rfl ?_
        refine v_iload_n 1 d_C_begin_57 rfl rfl ?_
        refine v_aload_n 0 d_C_begin_58 rfl rfl ?_
        refine v_geti fl_C_49 o_0 rfl d_C_begin_59 ?_
        refine v_callVr (As := [.ref (ad G 15), .ref (ad G 3), .int x5, .int x1, .int (h4 0 7)]) (rest := []) (c_C_lay G 15 3 x5 x1 (h4 0 7) o_15 o_3 h4) co_C_126 io_C_lay o_0 ⟨by decide, by decide⟩ rfl rfl (Nat.le_of_ble_eq_true rfl) d_C_begin_62 (fun r7 h7 z7 => ?_)
        have e7 := lay_isO o_15 z7
        refine v_astore [(6, .ref (ad G r7)), (0, .ref (ad G 0)), (1, .int x1), (2, .int x2), (3, .int x3), (4, .int x4), (5, .int x5)] d_C_begin_65 (by decide) rfl ?_
        refine v_aload 0 d_C_begin_67 rfl ?_
        refine v_geti fl_C_130 e7 rfl d_C_begin_69 ?_
        refine v_iload_n 4 d_C_begin_72 rfl rfl ?_
        refine v_icmp_gt 95 d_C_begin_73 (by decide) (fun c8 => ?_) (fun c8 => ?_)
        · refine v_iload 6 d_C_begin_95 rfl ?_
          refine v_istore_n [(2, .int x5), (6, .ref (ad G r7)), (0, .ref (ad G 0)), (1, .int x1), (3, .int x3), (4, .int x4), (5, .int x5)] d_C_begin_97 rfl (by decide) rfl ?_
          refine v_aload 1 d_C_begin_98 rfl ?_
          refine v_geti fl_C_130 e7 rfl d_C_begin_100 ?_
          refine v_istore_n [(3, .int (h7 r7 1)), (2, .int x5), (6, .ref (ad G r7)), (0, .ref (ad G 0)), (1, .int x1), (4, .int x4), (5, .int x5)] d_C_begin_103 rfl (by decide) rfl ?_
          refine v_aload 2 d_C_begin_104 rfl ?_
          refine v_geti fl_C_134 e7 rfl d_C_begin_106 ?_
          refine v_istore [(4, .int (h7 r7 3)), (3, .int (h7 r7 1)), (2, .int x5), (6, .ref (ad G r7)), (0, .ref (ad G 0)), (1, .int x1), (5, .int x5)] d_C_begin_109 (by decide) rfl ?_
          refine v_iinc (x5 + 1) 6 [(5, .int (x5 + 1)), (4, .int (h7 r7 3)), (3, .int (h7 r7 1)), (2, .int x5), (6, .ref (ad G r7)), (0, .ref (ad G 0)), (1, .int x1)] d_C_begin_111 rfl rfl (by decide) rfl ?_
          refine v_goto 20 d_C_begin_114 (by decide) ?_
          exact v_sub [5, 6, 3, 2, 1, 0] rfl (ih x1 x5 (h7 r7 1) (h7 r7 3) (x5 + 1) h7)
        · refine v_aload 0 d_C_begin_76 rfl ?_
          refine v_geti fl_C_130 e7 rfl d_C_begin_78 ?_
          refine v_iload_n 4 d_C_begin_81 rfl rfl ?_
          refine v_icmp_ne 111 d_C_begin_82 (by decide) (fun c9 => ?_) (fun c9 => ?_)
          · refine v_aload 0 d_C_begin_85 rfl ?_
            refine v_geti fl_C_134 e7 rfl d_C_begin_87 ?_
            refine v_iload 5 d_C_begin_90 rfl ?_
            refine v_icmp_ge 111 d_C_begin_92 (by decide) (fun c10 => ?_) (fun c10 => ?_)
            · refine v_iinc (x5 + 1) 6 [(5, .int (x5 + 1)), (6, .ref (ad G r7)), (0, .ref (ad G 0)), (1, .int x1), (2, .int x2), (3, .int x3), (4, .int x4)] d_C_begin_111 rfl rfl (by decide) rfl ?_
              refine v_goto 20 d_C_begin_114 (by decide) ?_
              exact v_sub [2, 3, 4, 5, 6, 0] rfl (ih x1 x2 x3 x4 (x5 + 1) h7)
            · refine v_iload 6 d_C_begin_95 rfl ?_
              refine v_istore_n [(2, .int x5), (6, .ref (ad G r7)), (0, .ref (ad G 0)), (1, .int x1), (3, .int x3), (4, .int x4), (5, .int x5)] d_C_begin_97 rfl (by decide) rfl ?_
              refine v_aload 1 d_C_begin_98 rfl ?_
              refine v_geti fl_C_130 e7 rfl d_C_begin_100 ?_
              refine v_istore_n [(3, .int (h7 r7 1)), (2, .int x5), (6, .ref (ad G r7)), (0, .ref (ad G 0)), (1, .int x1), (4, .int x4), (5, .int x5)] d_C_begin_103 rfl (by decide) rfl ?_
              refine v_aload 2 d_C_begin_104 rfl ?_
              refine v_geti fl_C_134 e7 rfl d_C_begin_106 ?_
              refine v_istore [(4, .int (h7 r7 3)), (3, .int (h7 r7 1)), (2, .int x5), (6, .ref (ad G r7)), (0, .ref (ad G 0)), (1, .int x1), (5, .int x5)] d_C_begin_109 (by decide) rfl ?_
              refine v_iinc (x5 + 1) 6 [(5, .int (x5 + 1)), (4, .int (h7 r7 3)), (3, .int (h7 r7 1)), (2, .int x5), (6, .ref (ad G r7)), (0, .ref (ad G 0)), (1, .int x1)] d_C_begin_111 rfl rfl (by decide) rfl ?_
              refine v_goto 20 d_C_begin_114 (by decide) ?_
              exact v_sub [5, 6, 3, 2, 1, 0] rfl (ih x1 x5 (h7 r7 1) (h7 r7 3) (x5 + 1) h7)
          · refine v_iinc (x5 + 1) 6 [(5, .int (x5 + 1)), (6, .ref (ad G r7)), (0, .ref (ad G 0)), (1, .int x1), (2, .int x2), (3, .int x3), (4, .int x4)] d_C_begin_111 rfl rfl (by decide) rfl ?_
            refine v_goto 20 d_C_begin_114 (by decide) ?_
            exact v_sub [2, 3, 4, 5, 6, 0] rfl (ih x1 x2 x3 x4 (x5 + 1) h7)
      · refine v_goto 111 d_C_begin_41 (by decide) ?_
        refine v_iinc (x5 + 1) 5 [(5, .int (x5 + 1)), (0, .ref (ad G 0)), (1, .int x1), (2, .int x2), (3, .int x3), (4, .int x4)] d_C_begin_111 rfl rfl (by decide) rfl ?_
        refine v_goto 20 d_C_begin_114 (by decide) ?_
        exact v_sub [1, 2, 3, 4, 5, 0] rfl (ih x1 x2 x3 x4 (x5 + 1) h4)
set_option maxHeartbeats 4000000 in
set_option maxRecDepth 20000 in
theorem c_C_begin (G : Gt) (x1 : Int32) (h : Hp) : Cn G m_C_begin [.ref (ad G 0), .int x1] h κi (f_C_begin x1 h) := by
  refine entryV (by decide) (Nat.le_of_ble_eq_true rfl) rfl ?_
  show V G m_C_begin 0 [(0, .ref (ad G 0)), (1, .int x1)] [] h κi _
  unfold f_C_begin
  refine v_iload_n 1 d_C_begin_0 rfl rfl ?_
  refine v_callSi (As := [.int x1]) (rest := []) (c_C_isLaw G x1 h) co_C_169 so_C_isLaw ⟨by decide, by decide⟩ rfl rfl (Nat.le_of_ble_eq_true rfl) d_C_begin_1 (fun r1 h1 _ => ?_)
  refine v_if_ne 10 d_C_begin_4 (by decide) (fun c2 => ?_) (fun c2 => ?_)
  · refine v_bipush (-2) d_C_begin_7 rfl ?_
    exact v_iret rfl d_C_begin_9
  · refine v_iconst (-1) d_C_begin_10 rfl ?_
    refine v_istore_n [(2, .int (-1)), (0, .ref (ad G 0)), (1, .int x1)] d_C_begin_11 rfl (by decide) rfl ?_
    refine v_iconst 0 d_C_begin_12 rfl ?_
    refine v_istore_n [(3, .int 0), (2, .int (-1)), (0, .ref (ad G 0)), (1, .int x1)] d_C_begin_13 rfl (by decide) rfl ?_
    refine v_iconst 0 d_C_begin_14 rfl ?_
    refine v_istore [(4, .int 0), (3, .int 0), (2, .int (-1)), (0, .ref (ad G 0)), (1, .int x1)] d_C_begin_15 (by decide) rfl ?_
    refine v_iconst 0 d_C_begin_17 rfl ?_
    refine v_istore [(5, .int 0), (4, .int 0), (3, .int 0), (2, .int (-1)), (0, .ref (ad G 0)), (1, .int x1)] d_C_begin_18 (by decide) rfl ?_
    exact v_sub [4, 5, 3, 2, 1, 0] rfl (Vl_C_begin_20 G FUEL x1 (-1) 0 0 0 h1)
theorem d_In_bitCount_0 : decode m_In_bitCount.2.1 0 = .ok (.iload_n 0, 1) := by decide +kernel
theorem d_In_bitCount_1 : decode m_In_bitCount.2.1 1 = .ok (.iload_n 0, 1) := by decide +kernel
theorem d_In_bitCount_2 : decode m_In_bitCount.2.1 2 = .ok (.iconst 1, 1) := by decide +kernel
theorem d_In_bitCount_3 : decode m_In_bitCount.2.1 3 = .ok (.iushr, 1) := by decide +kernel
theorem d_In_bitCount_4 : decode m_In_bitCount.2.1 4 = .ok (.ldc_w 265, 3) := by decide +kernel
theorem d_In_bitCount_7 : decode m_In_bitCount.2.1 7 = .ok (.iand, 1) := by decide +kernel
theorem d_In_bitCount_8 : decode m_In_bitCount.2.1 8 = .ok (.isub, 1) := by decide +kernel
theorem d_In_bitCount_9 : decode m_In_bitCount.2.1 9 = .ok (.istore_n 0, 1) := by decide +kernel
theorem d_In_bitCount_10 : decode m_In_bitCount.2.1 10 = .ok (.iload_n 0, 1) := by decide +kernel
theorem d_In_bitCount_11 : decode m_In_bitCount.2.1 11 = .ok (.ldc_w 266, 3) := by decide +kernel
theorem d_In_bitCount_14 : decode m_In_bitCount.2.1 14 = .ok (.iand, 1) := by decide +kernel
theorem d_In_bitCount_15 : decode m_In_bitCount.2.1 15 = .ok (.iload_n 0, 1) := by decide +kernel
theorem d_In_bitCount_16 : decode m_In_bitCount.2.1 16 = .ok (.iconst 2, 1) := by decide +kernel
theorem d_In_bitCount_17 : decode m_In_bitCount.2.1 17 = .ok (.iushr, 1) := by decide +kernel
theorem d_In_bitCount_18 : decode m_In_bitCount.2.1 18 = .ok (.ldc_w 266, 3) := by decide +kernel
theorem d_In_bitCount_21 : decode m_In_bitCount.2.1 21 = .ok (.iand, 1) := by decide +kernel
theorem d_In_bitCount_22 : decode m_In_bitCount.2.1 22 = .ok (.iadd, 1) := by decide +kernel
theorem d_In_bitCount_23 : decode m_In_bitCount.2.1 23 = .ok (.istore_n 0, 1) := by decide +kernel
theorem d_In_bitCount_24 : decode m_In_bitCount.2.1 24 = .ok (.iload_n 0, 1) := by decide +kernel
theorem d_In_bitCount_25 : decode m_In_bitCount.2.1 25 = .ok (.iload_n 0, 1) := by decide +kernel
theorem d_In_bitCount_26 : decode m_In_bitCount.2.1 26 = .ok (.iconst 4, 1) := by decide +kernel
theorem d_In_bitCount_27 : decode m_In_bitCount.2.1 27 = .ok (.iushr, 1) := by decide +kernel
theorem d_In_bitCount_28 : decode m_In_bitCount.2.1 28 = .ok (.iadd, 1) := by decide +kernel
theorem d_In_bitCount_29 : decode m_In_bitCount.2.1 29 = .ok (.ldc_w 267, 3) := by decide +kernel
theorem d_In_bitCount_32 : decode m_In_bitCount.2.1 32 = .ok (.iand, 1) := by decide +kernel
theorem d_In_bitCount_33 : decode m_In_bitCount.2.1 33 = .ok (.istore_n 0, 1) := by decide +kernel
theorem d_In_bitCount_34 : decode m_In_bitCount.2.1 34 = .ok (.iload_n 0, 1) := by decide +kernel
theorem d_In_bitCount_35 : decode m_In_bitCount.2.1 35 = .ok (.iload_n 0, 1) := by decide +kernel
theorem d_In_bitCount_36 : decode m_In_bitCount.2.1 36 = .ok (.bipush 8, 2) := by decide +kernel
theorem d_In_bitCount_38 : decode m_In_bitCount.2.1 38 = .ok (.iushr, 1) := by decide +kernel
theorem d_In_bitCount_39 : decode m_In_bitCount.2.1 39 = .ok (.iadd, 1) := by decide +kernel
theorem d_In_bitCount_40 : decode m_In_bitCount.2.1 40 = .ok (.istore_n 0, 1) := by decide +kernel
theorem d_In_bitCount_41 : decode m_In_bitCount.2.1 41 = .ok (.iload_n 0, 1) := by decide +kernel
theorem d_In_bitCount_42 : decode m_In_bitCount.2.1 42 = .ok (.iload_n 0, 1) := by decide +kernel
theorem d_In_bitCount_43 : decode m_In_bitCount.2.1 43 = .ok (.bipush 16, 2) := by decide +kernel
theorem d_In_bitCount_45 : decode m_In_bitCount.2.1 45 = .ok (.iushr, 1) := by decide +kernel
theorem d_In_bitCount_46 : decode m_In_bitCount.2.1 46 = .ok (.iadd, 1) := by decide +kernel
theorem d_In_bitCount_47 : decode m_In_bitCount.2.1 47 = .ok (.istore_n 0, 1) := by decide +kernel
theorem d_In_bitCount_48 : decode m_In_bitCount.2.1 48 = .ok (.iload_n 0, 1) := by decide +kernel
theorem d_In_bitCount_49 : decode m_In_bitCount.2.1 49 = .ok (.bipush 63, 2) := by decide +kernel
theorem d_In_bitCount_51 : decode m_In_bitCount.2.1 51 = .ok (.iand, 1) := by decide +kernel
theorem d_In_bitCount_52 : decode m_In_bitCount.2.1 52 = .ok (.ireturn, 1) := by decide +kernel
set_option maxHeartbeats 4000000 in
set_option maxRecDepth 20000 in
theorem c_In_bitCount (G : Gt) (x0 : Int32) (h : Hp) : Cn G m_In_bitCount [.int x0] h κi (f_In_bitCount x0 h) := by
  refine entryV (by decide) (Nat.le_of_ble_eq_true rfl) rfl ?_
  show V G m_In_bitCount 0 [(0, .int x0)] [] h κi _
  unfold f_In_bitCount
  refine v_iload_n 0 d_In_bitCount_0 rfl rfl ?_
  refine v_iload_n 0 d_In_bitCount_1 rfl rfl ?_
  refine v_iconst 1 d_In_bitCount_2 rfl ?_
  refine v_iushr d_In_bitCount_3 ?_
  refine v_ldcw (v := 1431655765) (mem_t 374 (by decide +kernel) rfl) d_In_bitCount_4 ?_
  refine v_iand d_In_bitCount_7 ?_
  refine v_isub d_In_bitCount_8 ?_
  refine v_istore_n [(0, .int (x0 - (((Int32.toUInt32 x0 >>> (Int32.toUInt32 1 &&& Int32.toUInt32 31)).toInt32) &&& 1431655765)))] d_In_bitCount_9 rfl (by decide) rfl ?_
  refine v_iload_n 0 d_In_bitCount_10 rfl rfl ?_
  refine v_ldcw (v := 858993459) (mem_t 375 (by decide +kernel) rfl) d_In_bitCount_11 ?_
  refine v_iand d_In_bitCount_14 ?_
  refine v_iload_n 0 d_In_bitCount_15 rfl rfl ?_
  refine v_iconst 2 d_In_bitCount_16 rfl ?_
  refine v_iushr d_In_bitCount_17 ?_
  refine v_ldcw (v := 858993459) (mem_t 375 (by decide +kernel) rfl) d_In_bitCount_18 ?_
  refine v_iand d_In_bitCount_21 ?_
  refine v_iadd d_In_bitCount_22 ?_
  refine v_istore_n [(0, .int (((x0 - (((Int32.toUInt32 x0 >>> (Int32.toUInt32 1 &&& Int32.toUInt32 31)).toInt32) &&& 1431655765)) &&& 858993459) + (((Int32.toUInt32 (x0 - (((Int32.toUInt32 x0 >>> (Int32.toUInt32 1 &&& Int32.toUInt32 31)).toInt32) &&& 1431655765)) >>> (Int32.toUInt32 2 &&& Int32.toUInt32 31)).toInt32) &&& 858993459)))] d_In_bitCount_23 rfl (by decide) rfl ?_
  refine v_iload_n 0 d_In_bitCount_24 rfl rfl ?_
  refine v_iload_n 0 d_In_bitCount_25 rfl rfl ?_
  refine v_iconst 4 d_In_bitCount_26 rfl ?_
  refine v_iushr d_In_bitCount_27 ?_
  refine v_iadd d_In_bitCount_28 ?_
  refine v_ldcw (v := 252645135) (mem_t 376 (by decide +kernel) rfl) d_In_bitCount_29 ?_
  refine v_iand d_In_bitCount_32 ?_
  refine v_istore_n [(0, .int (((((x0 - (((Int32.toUInt32 x0 >>> (Int32.toUInt32 1 &&& Int32.toUInt32 31)).toInt32) &&& 1431655765)) &&& 858993459) + (((Int32.toUInt32 (x0 - (((Int32.toUInt32 x0 >>> (Int32.toUInt32 1 &&& Int32.toUInt32 31)).toInt32) &&& 1431655765)) >>> (Int32.toUInt32 2 &&& Int32.toUInt32 31)).toInt32) &&& 858993459)) + ((Int32.toUInt32 (((x0 - (((Int32.toUInt32 x0 >>> (Int32.toUInt32 1 &&& Int32.toUInt32 31)).toInt32) &&& 1431655765)) &&& 858993459) + (((Int32.toUInt32 (x0 - (((Int32.toUInt32 x0 >>> (Int32.toUInt32 1 &&& Int32.toUInt32 31)).toInt32) &&& 1431655765)) >>> (Int32.toUInt32 2 &&& Int32.toUInt32 31)).toInt32) &&& 858993459)) >>> (Int32.toUInt32 4 &&& Int32.toUInt32 31)).toInt32)) &&& 252645135))] d_In_bitCount_33 rfl (by decide) rfl ?_
  refine v_iload_n 0 d_In_bitCount_34 rfl rfl ?_
  refine v_iload_n 0 d_In_bitCount_35 rfl rfl ?_
  refine v_bipush 8 d_In_bitCount_36 rfl ?_
  refine v_iushr d_In_bitCount_38 ?_
  refine v_iadd d_In_bitCount_39 ?_
  refine v_istore_n [(0, .int ((((((x0 - (((Int32.toUInt32 x0 >>> (Int32.toUInt32 1 &&& Int32.toUInt32 31)).toInt32) &&& 1431655765)) &&& 858993459) + (((Int32.toUInt32 (x0 - (((Int32.toUInt32 x0 >>> (Int32.toUInt32 1 &&& Int32.toUInt32 31)).toInt32) &&& 1431655765)) >>> (Int32.toUInt32 2 &&& Int32.toUInt32 31)).toInt32) &&& 858993459)) + ((Int32.toUInt32 (((x0 - (((Int32.toUInt32 x0 >>> (Int32.toUInt32 1 &&& Int32.toUInt32 31)).toInt32) &&& 1431655765)) &&& 858993459) + (((Int32.toUInt32 (x0 - (((Int32.toUInt32 x0 >>> (Int32.toUInt32 1 &&& Int32.toUInt32 31)).toInt32) &&& 1431655765)) >>> (Int32.toUInt32 2 &&& Int32.toUInt32 31)).toInt32) &&& 858993459)) >>> (Int32.toUInt32 4 &&& Int32.toUInt32 31)).toInt32)) &&& 252645135) + ((Int32.toUInt32 (((((x0 - (((Int32.toUInt32 x0 >>> (Int32.toUInt32 1 &&& Int32.toUInt32 31)).toInt32) &&& 1431655765)) &&& 858993459) + (((Int32.toUInt32 (x0 - (((Int32.toUInt32 x0 >>> (Int32.toUInt32 1 &&& Int32.toUInt32 31)).toInt32) &&& 1431655765)) >>> (Int32.toUInt32 2 &&& Int32.toUInt32 31)).toInt32) &&& 858993459)) + ((Int32.toUInt32 (((x0 - (((Int32.toUInt32 x0 >>> (Int32.toUInt32 1 &&& Int32.toUInt32 31)).toInt32) &&& 1431655765)) &&& 858993459) + (((Int32.toUInt32 (x0 - (((Int32.toUInt32 x0 >>> (Int32.toUInt32 1 &&& Int32.toUInt32 31)).toInt32) &&& 1431655765)) >>> (Int32.toUInt32 2 &&& Int32.toUInt32 31)).toInt32) &&& 858993459)) >>> (Int32.toUInt32 4 &&& Int32.toUInt32 31)).toInt32)) &&& 252645135) >>> (Int32.toUInt32 8 &&& Int32.toUInt32 31)).toInt32)))] d_In_bitCount_40 rfl (by decide) rfl ?_
  refine v_iload_n 0 d_In_bitCount_41 rfl rfl ?_
  refine v_iload_n 0 d_In_bitCount_42 rfl rfl ?_
  refine v_bipush 16 d_In_bitCount_43 rfl ?_
  refine v_iushr d_In_bitCount_45 ?_
  refine v_iadd d_In_bitCount_46 ?_
  refine v_istore_n [(0, .int (((((((x0 - (((Int32.toUInt32 x0 >>> (Int32.toUInt32 1 &&& Int32.toUInt32 31)).toInt32) &&& 1431655765)) &&& 858993459) + (((Int32.toUInt32 (x0 - (((Int32.toUInt32 x0 >>> (Int32.toUInt32 1 &&& Int32.toUInt32 31)).toInt32) &&& 1431655765)) >>> (Int32.toUInt32 2 &&& Int32.toUInt32 31)).toInt32) &&& 858993459)) + ((Int32.toUInt32 (((x0 - (((Int32.toUInt32 x0 >>> (Int32.toUInt32 1 &&& Int32.toUInt32 31)).toInt32) &&& 1431655765)) &&& 858993459) + (((Int32.toUInt32 (x0 - (((Int32.toUInt32 x0 >>> (Int32.toUInt32 1 &&& Int32.toUInt32 31)).toInt32) &&& 1431655765)) >>> (Int32.toUInt32 2 &&& Int32.toUInt32 31)).toInt32) &&& 858993459)) >>> (Int32.toUInt32 4 &&& Int32.toUInt32 31)).toInt32)) &&& 252645135) + ((Int32.toUInt32 (((((x0 - (((Int32.toUInt32 x0 >>> (Int32.toUInt32 1 &&& Int32.toUInt32 31)).toInt32) &&& 1431655765)) &&& 858993459) + (((Int32.toUInt32 (x0 - (((Int32.toUInt32 x0 >>> (Int32.toUInt32 1 &&& Int32.toUInt32 31)).toInt32) &&& 1431655765)) >>> (Int32.toUInt32 2 &&& Int32.toUInt32 31)).toInt32) &&& 858993459)) + ((Int32.toUInt32 (((x0 - (((Int32.toUInt32 x0 >>> (Int32.toUInt32 1 &&& Int32.toUInt32 31)).toInt32) &&& 1431655765)) &&& 858993459) + (((Int32.toUInt32 (x0 - (((Int32.toUInt32 x0 >>> (Int32.toUInt32 1 &&& Int32.toUInt32 31)).toInt32) &&& 1431655765)) >>> (Int32.toUInt32 2 &&& Int32.toUInt32 31)).toInt32) &&& 858993459)) >>> (Int32.toUInt32 4 &&& Int32.toUInt32 31)).toInt32)) &&& 252645135) >>> (Int32.toUInt32 8 &&& Int32.toUInt32 31)).toInt32)) + ((Int32.toUInt32 ((((((x0 - (((Int32.toUInt32 x0 >>> (Int32.toUInt32 1 &&& Int32.toUInt32 31)).toInt32) &&& 1431655765)) &&& 858993459) + (((Int32.toUInt32 (x0 - (((Int32.toUInt32 x0 >>> (Int32.toUInt32 1 &&& Int32.toUInt32 31)).toInt32) &&& 1431655765)) >>> (Int32.toUInt32 2 &&& Int32.toUInt32 31)).toInt32) &&& 858993459)) + ((Int32.toUInt32 (((x0 - (((Int32.toUInt32 x0 >>> (Int32.toUInt32 1 &&& Int32.toUInt32 31)).toInt32) &&& 1431655765)) &&& 858993459) + (((Int32.toUInt32 (x0 - (((Int32.toUInt32 x0 >>> (Int32.toUInt32 1 &&& Int32.toUInt32 31)).toInt32) &&& 1431655765)) >>> (Int32.toUInt32 2 &&& Int32.toUInt32 31)).toInt32) &&& 858993459)) >>> (Int32.toUInt32 4 &&& Int32.toUInt32 31)).toInt32)) &&& 252645135) + ((Int32.toUInt32 (((((x0 - (((Int32.toUInt32 x0 >>> (Int32.toUInt32 1 &&& Int32.toUInt32 31)).toInt32) &&& 1431655765)) &&& 858993459) + (((Int32.toUInt32 (x0 - (((Int32.toUInt32 x0 >>> (Int32.toUInt32 1 &&& Int32.toUInt32 31)).toInt32) &&& 1431655765)) >>> (Int32.toUInt32 2 &&& Int32.toUInt32 31)).toInt32) &&& 858993459)) + ((Int32.toUInt32 (((x0 - (((Int32.toUInt32 x0 >>> (Int32.toUInt32 1 &&& Int32.toUInt32 31)).toInt32) &&& 1431655765)) &&& 858993459) + (((Int32.toUInt32 (x0 - (((Int32.toUInt32 x0 >>> (Int32.toUInt32 1 &&& Int32.toUInt32 31)).toInt32) &&& 1431655765)) >>> (Int32.toUInt32 2 &&& Int32.toUInt32 31)).toInt32) &&& 858993459)) >>> (Int32.toUInt32 4 &&& Int32.toUInt32 31)).toInt32)) &&& 252645135) >>> (Int32.toUInt32 8 &&& Int32.toUInt32 31)).toInt32)) >>> (Int32.toUInt32 16 &&& Int32.toUInt32 31)).toInt32)))] d_In_bitCount_47 rfl (by decide) rfl ?_
  refine v_iload_n 0 d_In_bitCount_48 rfl rfl ?_
  refine v_bipush 63 d_In_bitCount_49 rfl ?_
  refine v_iand d_In_bitCount_51 ?_
  exact v_iret rfl d_In_bitCount_52
theorem d_C_fewestHiddenFor_0 : decode m_C_fewestHiddenFor.2.1 0 = .ok (.aload_n 0, 1) := by decide +kernel
theorem d_C_fewestHiddenFor_1 : decode m_C_fewestHiddenFor.2.1 1 = .ok (.getfield 19, 3) := by decide +kernel
theorem d_C_fewestHiddenFor_4 : decode m_C_fewestHiddenFor.2.1 4 = .ok (.invokevirtual 237, 3) := by decide +kernel
theorem d_C_fewestHiddenFor_7 : decode m_C_fewestHiddenFor.2.1 7 = .ok (.aload_n 0, 1) := by decide +kernel
theorem d_C_fewestHiddenFor_8 : decode m_C_fewestHiddenFor.2.1 8 = .ok (.getfield 49, 3) := by decide +kernel
theorem d_C_fewestHiddenFor_11 : decode m_C_fewestHiddenFor.2.1 11 = .ok (.iconst (-1), 1) := by decide +kernel
theorem d_C_fewestHiddenFor_12 : decode m_C_fewestHiddenFor.2.1 12 = .ok (.ixor, 1) := by decide +kernel
theorem d_C_fewestHiddenFor_13 : decode m_C_fewestHiddenFor.2.1 13 = .ok (.iand, 1) := by decide +kernel
theorem d_C_fewestHiddenFor_14 : decode m_C_fewestHiddenFor.2.1 14 = .ok (.iconst 1, 1) := by decide +kernel
theorem d_C_fewestHiddenFor_15 : decode m_C_fewestHiddenFor.2.1 15 = .ok (.iload_n 1, 1) := by decide +kernel
theorem d_C_fewestHiddenFor_16 : decode m_C_fewestHiddenFor.2.1 16 = .ok (.ishl, 1) := by decide +kernel
theorem d_C_fewestHiddenFor_17 : decode m_C_fewestHiddenFor.2.1 17 = .ok (.iconst (-1), 1) := by decide +kernel
theorem d_C_fewestHiddenFor_18 : decode m_C_fewestHiddenFor.2.1 18 = .ok (.ixor, 1) := by decide +kernel
theorem d_C_fewestHiddenFor_19 : decode m_C_fewestHiddenFor.2.1 19 = .ok (.iand, 1) := by decide +kernel
theorem d_C_fewestHiddenFor_20 : decode m_C_fewestHiddenFor.2.1 20 = .ok (.iconst 1, 1) := by decide +kernel
theorem d_C_fewestHiddenFor_21 : decode m_C_fewestHiddenFor.2.1 21 = .ok (.iload_n 3, 1) := by decide +kernel
theorem d_C_fewestHiddenFor_22 : decode m_C_fewestHiddenFor.2.1 22 = .ok (.ishl, 1) := by decide +kernel
theorem d_C_fewestHiddenFor_23 : decode m_C_fewestHiddenFor.2.1 23 = .ok (.iconst (-1), 1) := by decide +kernel
theorem d_C_fewestHiddenFor_24 : decode m_C_fewestHiddenFor.2.1 24 = .ok (.ixor, 1) := by decide +kernel
theorem d_C_fewestHiddenFor_25 : decode m_C_fewestHiddenFor.2.1 25 = .ok (.iand, 1) := by decide +kernel
theorem d_C_fewestHiddenFor_26 : decode m_C_fewestHiddenFor.2.1 26 = .ok (.istore 4, 2) := by decide +kernel
theorem d_C_fewestHiddenFor_28 : decode m_C_fewestHiddenFor.2.1 28 = .ok (.iconst (-1), 1) := by decide +kernel
theorem d_C_fewestHiddenFor_29 : decode m_C_fewestHiddenFor.2.1 29 = .ok (.istore 5, 2) := by decide +kernel
theorem d_C_fewestHiddenFor_31 : decode m_C_fewestHiddenFor.2.1 31 = .ok (.bipush 11, 2) := by decide +kernel
theorem d_C_fewestHiddenFor_33 : decode m_C_fewestHiddenFor.2.1 33 = .ok (.istore 6, 2) := by decide +kernel
theorem d_C_fewestHiddenFor_35 : decode m_C_fewestHiddenFor.2.1 35 = .ok (.iconst 0, 1) := by decide +kernel
theorem d_C_fewestHiddenFor_36 : decode m_C_fewestHiddenFor.2.1 36 = .ok (.istore 7, 2) := by decide +kernel
theorem d_C_fewestHiddenFor_38 : decode m_C_fewestHiddenFor.2.1 38 = .ok (.iload 7, 2) := by decide +kernel
theorem d_C_fewestHiddenFor_40 : decode m_C_fewestHiddenFor.2.1 40 = .ok (.iload 4, 2) := by decide +kernel
theorem d_C_fewestHiddenFor_42 : decode m_C_fewestHiddenFor.2.1 42 = .ok (.if_icmp .gt 77, 3) := by decide +kernel
theorem d_C_fewestHiddenFor_45 : decode m_C_fewestHiddenFor.2.1 45 = .ok (.iload 7, 2) := by decide +kernel
theorem d_C_fewestHiddenFor_47 : decode m_C_fewestHiddenFor.2.1 47 = .ok (.iload 4, 2) := by decide +kernel
theorem d_C_fewestHiddenFor_49 : decode m_C_fewestHiddenFor.2.1 49 = .ok (.iconst (-1), 1) := by decide +kernel
theorem d_C_fewestHiddenFor_50 : decode m_C_fewestHiddenFor.2.1 50 = .ok (.ixor, 1) := by decide +kernel
theorem d_C_fewestHiddenFor_51 : decode m_C_fewestHiddenFor.2.1 51 = .ok (.iand, 1) := by decide +kernel
theorem d_C_fewestHiddenFor_52 : decode m_C_fewestHiddenFor.2.1 52 = .ok (.ifCond .ne 61, 3) := by decide +kernel
theorem d_C_fewestHiddenFor_55 : decode m_C_fewestHiddenFor.2.1 55 = .ok (.iload 7, 2) := by decide +kernel
theorem d_C_fewestHiddenFor_57 : decode m_C_fewestHiddenFor.2.1 57 = .ok (.invokestatic 176, 3) := by decide +kernel
theorem d_C_fewestHiddenFor_60 : decode m_C_fewestHiddenFor.2.1 60 = .ok (.iload 6, 2) := by decide +kernel
theorem d_C_fewestHiddenFor_62 : decode m_C_fewestHiddenFor.2.1 62 = .ok (.if_icmp .lt 6, 3) := by decide +kernel
theorem d_C_fewestHiddenFor_65 : decode m_C_fewestHiddenFor.2.1 65 = .ok (.goto 48, 3) := by decide +kernel
theorem d_C_fewestHiddenFor_68 : decode m_C_fewestHiddenFor.2.1 68 = .ok (.aload_n 0, 1) := by decide +kernel
theorem d_C_fewestHiddenFor_69 : decode m_C_fewestHiddenFor.2.1 69 = .ok (.aload_n 0, 1) := by decide +kernel
theorem d_C_fewestHiddenFor_70 : decode m_C_fewestHiddenFor.2.1 70 = .ok (.getfield 28, 3) := by decide +kernel
theorem d_C_fewestHiddenFor_73 : decode m_C_fewestHiddenFor.2.1 73 = .ok (.iconst 0, 1) := by decide +kernel
theorem d_C_fewestHiddenFor_74 : decode m_C_fewestHiddenFor.2.1 74 = .ok (.aaload, 1) := by decide +kernel
theorem d_C_fewestHiddenFor_75 : decode m_C_fewestHiddenFor.2.1 75 = .ok (.aload_n 0, 1) := by decide +kernel
theorem d_C_fewestHiddenFor_76 : decode m_C_fewestHiddenFor.2.1 76 = .ok (.getfield 19, 3) := by decide +kernel
theorem d_C_fewestHiddenFor_79 : decode m_C_fewestHiddenFor.2.1 79 = .ok (.iload_n 1, 1) := by decide +kernel
theorem d_C_fewestHiddenFor_80 : decode m_C_fewestHiddenFor.2.1 80 = .ok (.iload_n 2, 1) := by decide +kernel
theorem d_C_fewestHiddenFor_81 : decode m_C_fewestHiddenFor.2.1 81 = .ok (.aload_n 0, 1) := by decide +kernel
theorem d_C_fewestHiddenFor_82 : decode m_C_fewestHiddenFor.2.1 82 = .ok (.getfield 49, 3) := by decide +kernel
theorem d_C_fewestHiddenFor_85 : decode m_C_fewestHiddenFor.2.1 85 = .ok (.iload 7, 2) := by decide +kernel
theorem d_C_fewestHiddenFor_87 : decode m_C_fewestHiddenFor.2.1 87 = .ok (.ior, 1) := by decide +kernel
theorem d_C_fewestHiddenFor_88 : decode m_C_fewestHiddenFor.2.1 88 = .ok (.invokevirtual 126, 3) := by decide +kernel
theorem d_C_fewestHiddenFor_91 : decode m_C_fewestHiddenFor.2.1 91 = .ok (.astore 8, 2) := by decide +kernel
theorem d_C_fewestHiddenFor_93 : decode m_C_fewestHiddenFor.2.1 93 = .ok (.aload 8, 2) := by decide +kernel
theorem d_C_fewestHiddenFor_95 : decode m_C_fewestHiddenFor.2.1 95 = .ok (.invokevirtual 295, 3) := by decide +kernel
theorem d_C_fewestHiddenFor_98 : decode m_C_fewestHiddenFor.2.1 98 = .ok (.iload_n 3, 1) := by decide +kernel
theorem d_C_fewestHiddenFor_99 : decode m_C_fewestHiddenFor.2.1 99 = .ok (.if_icmp .ne 14, 3) := by decide +kernel
theorem d_C_fewestHiddenFor_102 : decode m_C_fewestHiddenFor.2.1 102 = .ok (.iload 7, 2) := by decide +kernel
theorem d_C_fewestHiddenFor_104 : decode m_C_fewestHiddenFor.2.1 104 = .ok (.istore 5, 2) := by decide +kernel
theorem d_C_fewestHiddenFor_106 : decode m_C_fewestHiddenFor.2.1 106 = .ok (.iload 7, 2) := by decide +kernel
theorem d_C_fewestHiddenFor_108 : decode m_C_fewestHiddenFor.2.1 108 = .ok (.invokestatic 176, 3) := by decide +kernel
theorem d_C_fewestHiddenFor_111 : decode m_C_fewestHiddenFor.2.1 111 = .ok (.istore 6, 2) := by decide +kernel
theorem d_C_fewestHiddenFor_113 : decode m_C_fewestHiddenFor.2.1 113 = .ok (.iinc 7 1, 3) := by decide +kernel
theorem d_C_fewestHiddenFor_116 : decode m_C_fewestHiddenFor.2.1 116 = .ok (.goto (-78), 3) := by decide +kernel
theorem d_C_fewestHiddenFor_119 : decode m_C_fewestHiddenFor.2.1 119 = .ok (.iload 5, 2) := by decide +kernel
theorem d_C_fewestHiddenFor_121 : decode m_C_fewestHiddenFor.2.1 121 = .ok (.ireturn, 1) := by decide +kernel
set_option maxHeartbeats 4000000 in
set_option maxRecDepth 20000 in
theorem Vl_C_fewestHiddenFor_38 (G : Gt) : ∀ (n : Nat) (x1 : Int32) (x2 : Int32) (x3 : Int32) (x4 : Int32) (x5 : Int32) (x6 : Int32) (x7 : Int32) (h : Hp), V G m_C_fewestHiddenFor 38 [(0, .ref (ad G 0)), (1, .int x1), (2, .int x2), (3, .int x3), (4, .int x4), (5, .int x5), (6, .int x6), (7, .int x7)] [] h κi (l_C_fewestHiddenFor_38 n x1 x2 x3 x4 x5 x6 x7 h) := by
  intro n
  induction n with
  | zero => intros; exact v_none
  | succ n ih =>
    intro x1 x2 x3 x4 x5 x6 x7 h
    rw [l_C_fewestHiddenFor_38]
    refine v_iload 7 d_C_fewestHiddenFor_38 rfl ?_
    refine v_iload 4 d_C_fewestHiddenFor_40 rfl ?_
    refine v_icmp_gt 119 d_C_fewestHiddenFor_42 (by decide) (fun c2 => ?_) (fun c2 => ?_)
    · refine v_iload 5 d_C_fewestHiddenFor_119 rfl ?_
      exact v_iret rfl d_C_fewestHiddenFor_121
    · refine v_iload 7 d_C_fewestHiddenFor_45 rfl ?_
      refine v_iload 4 d_C_fewestHiddenFor_47 rfl ?_
      refine v_iconst (-1) d_C_fewestHiddenFor_49 rfl ?_
      refine v_ixor d_C_fewestHiddenFor_50 ?_
      refine v_iand d_C_fewestHiddenFor_51 ?_
      refine v_if_ne 113 d_C_fewestHiddenFor_52 (by decide) (fun c3 => ?_) (fun c3 => ?_)
      · refine v_iload 7 d_C_fewestHiddenFor_55 rfl ?_
        refine v_callSi (As := [.int x7]) (rest := []) (c_In_bitCount G x7 h) co_C_176 so_In_bitCount ⟨by decide, by decide⟩ rfl rfl (Nat.le_of_ble_eq_true rfl) d_C_fewestHiddenFor_57 (fun r4 h4 _ => ?_)
        refine v_iload 6 d_C_fewestHiddenFor_60 rfl ?_
        refine v_icmp_lt 68 d_C_fewestHiddenFor_62 (by decide) (fun c5 => ?_) (fun c5 => ?_)
        · refine v_aload_n 0 d_C_fewestHiddenFor_68 rfl rfl ?_
          refine v_aload_n 0 d_C_fewestHiddenFor_69 rfl rfl ?_
          refine v_getr 9 fl_C_28 o_0 rfl rfl d_C_fewestHiddenFor_70 ?_
          refine v_iconst 0 d_C_fewestHiddenFor_73 rfl ?_
          refine v_aald2 15 rfl ar_9 d_C_fewestHiddenFor_74 (fun b6 => ?_)
          refine v_aload_n 0 d_C_fewestHiddenFor_75 rfl rfl ?_
          refine v_getr 3 fl_C_19 o_0 rfl rfl d_C_fewestHiddenFor_76 ?_
          refine v_iload_n 1 d_C_fewestHiddenFor_79 rfl rfl ?_
          refine v_iload_n 2 d_C_fewestHiddenFor_80 rfl rfl ?_
          refine v_aload_n 0 d_C_fewestHiddenFor_81 rfl rfl ?_
          refine v_geti fl_C_49 o_0 rfl d_C_fewestHiddenFor_82 ?_
          refine v_iload 7 d_C_fewestHiddenFor_85 rfl ?_
          refine v_ior d_C_fewestHiddenFor_87 ?_
          refine v_callVr (As := [.ref (ad G 15), .ref (ad G 3), .int x1, .int x2, .int ((h4 0 7) ||| x7)]) (rest := []) (c_C_lay G 15 3 x1 x2 ((h4 0 7) ||| x7) o_15 o_3 h4) co_C_126 io_C_lay o_0 ⟨by decide, by decide⟩ rfl rfl (Nat.le_of_ble_eq_true rfl) d_C_fewestHiddenFor_88 (fun r7 h7 z7 => ?_)
          have e7 := lay_isO o_15 z7
          refine v_astore [(8, .ref (ad G r7)), (0, .ref (ad G 0)), (1, .int x1), (2, .int x2), (3, .int x3), (4, .int x4), (5, .int x5), (6, .int x6), (7, .int x7)] d_C_fewestHiddenFor_91 (by decide) rfl ?_
          refine v_aload 0 d_C_fewestHiddenFor_93 rfl ?_
          refine v_callVi (As := []) (rest := []) (c_Sp_here G r7 e7 h7) co_C_295 io_Sp_here e7 ⟨by decide, by decide⟩ rfl rfl (Nat.le_of_ble_eq_true rfl) d_C_fewestHiddenFor_95 (fun r8 h8 _ => ?_)
          refine v_iload_n 4 d_C_fewestHiddenFor_98 rfl rfl ?_
          refine v_icmp_ne 113 d_C_fewestHiddenFor_99 (by decide) (fun c9 => ?_) (fun c9 => ?_)
          · refine v_iload 8 d_C_fewestHiddenFor_102 rfl ?_
            refine v_istore [(5, .int x7), (8, .ref (ad G r7)), (0, .ref (ad G 0)), (1, .int x1), (2, .int x2), (3, .int x3), (4, .int x4), (6, .int x6), (7, .int x7)] d_C_fewestHiddenFor_104 (by decide) rfl ?_
            refine v_iload 8 d_C_fewestHiddenFor_106 rfl ?_
            refine v_callSi (As := [.int x7]) (rest := []) (c_In_bitCount G x7 h8) co_C_176 so_In_bitCount ⟨by decide, by decide⟩ rfl rfl (Nat.le_of_ble_eq_true rfl) d_C_fewestHiddenFor_108 (fun r10 h10 _ => ?_)
            refine v_istore [(6, .int r10), (5, .int x7), (8, .ref (ad G r7)), (0, .ref (ad G 0)), (1, .int x1), (2, .int x2), (3, .int x3), (4, .int x4), (7, .int x7)] d_C_fewestHiddenFor_111 (by decide) rfl ?_
            refine v_iinc (x7 + 1) 8 [(7, .int (x7 + 1)), (6, .int r10), (5, .int x7), (8, .ref (ad G r7)), (0, .ref (ad G 0)), (1, .int x1), (2, .int x2), (3, .int x3), (4, .int x4)] d_C_fewestHiddenFor_113 rfl rfl (by decide) rfl ?_
            refine v_goto 38 d_C_fewestHiddenFor_116 (by decide) ?_
            exact v_sub [4, 5, 6, 7, 8, 2, 1, 0] rfl (ih x1 x2 x3 x4 x7 r10 (x7 + 1) h10)
          · refine v_iinc (x7 + 1) 8 [(7, .int (x7 + 1)), (8, .ref (ad G r7)), (0, .ref (ad G 0)), (1, .int x1), (2, .int x2), (3, .int x3), (4, .int x4), (5, .int x5), (6, .int x6)] d_C_fewestHiddenFor_113 rfl rfl (by decide) rfl ?_
            refine v_goto 38 d_C_fewestHiddenFor_116 (by decide) ?_
            exact v_sub [2, 3, 4, 5, 6, 7, 8, 0] rfl (ih x1 x2 x3 x4 x5 x6 (x7 + 1) h8)
        · refine v_goto 113 d_C_fewestHiddenFor_65 (by decide) ?_
          refine v_iinc (x7 + 1) 7 [(7, .int (x7 + 1)), (0, .ref (ad G 0)), (1, .int x1), (2, .int x2), (3, .int x3), (4, .int x4), (5, .int x5), (6, .int x6)] d_C_fewestHiddenFor_113 rfl rfl (by decide) rfl ?_
          refine v_goto 38 d_C_fewestHiddenFor_116 (by decide) ?_
          exact v_sub [1, 2, 3, 4, 5, 6, 7, 0] rfl (ih x1 x2 x3 x4 x5 x6 (x7 + 1) h4)
      · refine v_iinc (x7 + 1) 7 [(7, .int (x7 + 1)), (0, .ref (ad G 0)), (1, .int x1), (2, .int x2), (3, .int x3), (4, .int x4), (5, .int x5), (6, .int x6)] d_C_fewestHiddenFor_113 rfl rfl (by decide) rfl ?_
        refine v_goto 38 d_C_fewestHiddenFor_116 (by decide) ?_
        exact v_sub [1, 2, 3, 4, 5, 6, 7, 0] rfl (ih x1 x2 x3 x4 x5 x6 (x7 + 1) h)
set_option maxHeartbeats 4000000 in
set_option maxRecDepth 20000 in
theorem c_C_fewestHiddenFor (G : Gt) (x1 : Int32) (x2 : Int32) (x3 : Int32) (h : Hp) : Cn G m_C_fewestHiddenFor [.ref (ad G 0), .int x1, .int x2, .int x3] h κi (f_C_fewestHiddenFor x1 x2 x3 h) := by
  refine entryV (by decide) (Nat.le_of_ble_eq_true rfl) rfl ?_
  show V G m_C_fewestHiddenFor 0 [(0, .ref (ad G 0)), (1, .int x1), (2, .int x2), (3, .int x3)] [] h κi _
  unfold f_C_fewestHiddenFor
  refine v_aload_n 0 d_C_fewestHiddenFor_0 rfl rfl ?_
  refine v_getr 3 fl_C_19 o_0 rfl rfl d_C_fewestHiddenFor_1 ?_
  refine v_callVi (As := []) (rest := []) (c_Fr_all G 3 o_3 h) co_C_237 io_Fr_all o_3 ⟨by decide, by decide⟩ rfl rfl (Nat.le_of_ble_eq_true rfl) d_C_fewestHiddenFor_4 (fun r1 h1 _ => ?_)
  refine v_aload_n 0 d_C_fewestHiddenFor_7 rfl rfl ?_
  refine v_geti fl_C_49 o_0 rfl d_C_fewestHiddenFor_8 ?_
  refine v_iconst (-1) d_C_fewestHiddenFor_11 rfl ?_
  refine v_ixor d_C_fewestHiddenFor_12 ?_
  refine v_iand d_C_fewestHiddenFor_13 ?_
  refine v_iconst 1 d_C_fewestHiddenFor_14 rfl ?_
  refine v_iload_n 1 d_C_fewestHiddenFor_15 rfl rfl ?_
  refine v_ishl d_C_fewestHiddenFor_16 ?_
  refine v_iconst (-1) d_C_fewestHiddenFor_17 rfl ?_
  refine v_ixor d_C_fewestHiddenFor_18 ?_
  refine v_iand d_C_fewestHiddenFor_19 ?_
  refine v_iconst 1 d_C_fewestHiddenFor_20 rfl ?_
  refine v_iload_n 3 d_C_fewestHiddenFor_21 rfl rfl ?_
  refine v_ishl d_C_fewestHiddenFor_22 ?_
  refine v_iconst (-1) d_C_fewestHiddenFor_23 rfl ?_
  refine v_ixor d_C_fewestHiddenFor_24 ?_
  refine v_iand d_C_fewestHiddenFor_25 ?_
  refine v_istore [(4, .int (((r1 &&& ((h1 0 7) ^^^ (-1))) &&& (((1 : Int32) <<< (x1 &&& 31)) ^^^ (-1))) &&& (((1 : Int32) <<< (x3 &&& 31)) ^^^ (-1)))), (0, .ref (ad G 0)), (1, .int x1), (2, .int x2), (3, .int x3)] d_C_fewestHiddenFor_26 (by decide) rfl ?_
  refine v_iconst (-1) d_C_fewestHiddenFor_28 rfl ?_
  refine v_istore [(5, .int (-1)), (4, .int (((r1 &&& ((h1 0 7) ^^^ (-1))) &&& (((1 : Int32) <<< (x1 &&& 31)) ^^^ (-1))) &&& (((1 : Int32) <<< (x3 &&& 31)) ^^^ (-1)))), (0, .ref (ad G 0)), (1, .int x1), (2, .int x2), (3, .int x3)] d_C_fewestHiddenFor_29 (by decide) rfl ?_
  refine v_bipush 11 d_C_fewestHiddenFor_31 rfl ?_
  refine v_istore [(6, .int 11), (5, .int (-1)), (4, .int (((r1 &&& ((h1 0 7) ^^^ (-1))) &&& (((1 : Int32) <<< (x1 &&& 31)) ^^^ (-1))) &&& (((1 : Int32) <<< (x3 &&& 31)) ^^^ (-1)))), (0, .ref (ad G 0)), (1, .int x1), (2, .int x2), (3, .int x3)] d_C_fewestHiddenFor_33 (by decide) rfl ?_
  refine v_iconst 0 d_C_fewestHiddenFor_35 rfl ?_
  refine v_istore [(7, .int 0), (6, .int 11), (5, .int (-1)), (4, .int (((r1 &&& ((h1 0 7) ^^^ (-1))) &&& (((1 : Int32) <<< (x1 &&& 31)) ^^^ (-1))) &&& (((1 : Int32) <<< (x3 &&& 31)) ^^^ (-1)))), (0, .ref (ad G 0)), (1, .int x1), (2, .int x2), (3, .int x3)] d_C_fewestHiddenFor_36 (by decide) rfl ?_
  exact v_sub [4, 5, 6, 7, 3, 2, 1, 0] rfl (Vl_C_fewestHiddenFor_38 G FUEL x1 x2 x3 (((r1 &&& ((h1 0 7) ^^^ (-1))) &&& (((1 : Int32) <<< (x1 &&& 31)) ^^^ (-1))) &&& (((1 : Int32) <<< (x3 &&& 31)) ^^^ (-1))) (-1) 11 0 h1)
theorem d_C_last_0 : decode m_C_last.2.1 0 = .ok (.aload_n 0, 1) := by decide +kernel
theorem d_C_last_1 : decode m_C_last.2.1 1 = .ok (.iload_n 1, 1) := by decide +kernel
theorem d_C_last_2 : decode m_C_last.2.1 2 = .ok (.iload_n 2, 1) := by decide +kernel
theorem d_C_last_3 : decode m_C_last.2.1 3 = .ok (.invokevirtual 122, 3) := by decide +kernel
theorem d_C_last_6 : decode m_C_last.2.1 6 = .ok (.ifCond .eq 30, 3) := by decide +kernel
theorem d_C_last_9 : decode m_C_last.2.1 9 = .ok (.aload_n 0, 1) := by decide +kernel
theorem d_C_last_10 : decode m_C_last.2.1 10 = .ok (.getfield 19, 3) := by decide +kernel
theorem d_C_last_13 : decode m_C_last.2.1 13 = .ok (.iload_n 3, 1) := by decide +kernel
theorem d_C_last_14 : decode m_C_last.2.1 14 = .ok (.invokevirtual 80, 3) := by decide +kernel
theorem d_C_last_17 : decode m_C_last.2.1 17 = .ok (.ifCond .eq 19, 3) := by decide +kernel
theorem d_C_last_20 : decode m_C_last.2.1 20 = .ok (.iload_n 1, 1) := by decide +kernel
theorem d_C_last_21 : decode m_C_last.2.1 21 = .ok (.iload_n 3, 1) := by decide +kernel
theorem d_C_last_22 : decode m_C_last.2.1 22 = .ok (.if_icmp .eq 14, 3) := by decide +kernel
theorem d_C_last_25 : decode m_C_last.2.1 25 = .ok (.iload 4, 2) := by decide +kernel
theorem d_C_last_27 : decode m_C_last.2.1 27 = .ok (.ifCond .lt 9, 3) := by decide +kernel
theorem d_C_last_30 : decode m_C_last.2.1 30 = .ok (.iload 4, 2) := by decide +kernel
theorem d_C_last_32 : decode m_C_last.2.1 32 = .ok (.iconst 1, 1) := by decide +kernel
theorem d_C_last_33 : decode m_C_last.2.1 33 = .ok (.if_icmp .le 6, 3) := by decide +kernel
theorem d_C_last_36 : decode m_C_last.2.1 36 = .ok (.bipush (-2), 2) := by decide +kernel
theorem d_C_last_38 : decode m_C_last.2.1 38 = .ok (.ireturn, 1) := by decide +kernel
theorem d_C_last_39 : decode m_C_last.2.1 39 = .ok (.aload_n 0, 1) := by decide +kernel
theorem d_C_last_40 : decode m_C_last.2.1 40 = .ok (.iload_n 1, 1) := by decide +kernel
theorem d_C_last_41 : decode m_C_last.2.1 41 = .ok (.invokevirtual 91, 3) := by decide +kernel
theorem d_C_last_44 : decode m_C_last.2.1 44 = .ok (.ifCond .ne 11, 3) := by decide +kernel
theorem d_C_last_47 : decode m_C_last.2.1 47 = .ok (.aload_n 0, 1) := by decide +kernel
theorem d_C_last_48 : decode m_C_last.2.1 48 = .ok (.iload_n 3, 1) := by decide +kernel
theorem d_C_last_49 : decode m_C_last.2.1 49 = .ok (.invokevirtual 91, 3) := by decide +kernel
theorem d_C_last_52 : decode m_C_last.2.1 52 = .ok (.ifCond .eq 6, 3) := by decide +kernel
theorem d_C_last_55 : decode m_C_last.2.1 55 = .ok (.bipush (-3), 2) := by decide +kernel
theorem d_C_last_57 : decode m_C_last.2.1 57 = .ok (.ireturn, 1) := by decide +kernel
theorem d_C_last_58 : decode m_C_last.2.1 58 = .ok (.aload_n 0, 1) := by decide +kernel
theorem d_C_last_59 : decode m_C_last.2.1 59 = .ok (.iload_n 1, 1) := by decide +kernel
theorem d_C_last_60 : decode m_C_last.2.1 60 = .ok (.iload_n 2, 1) := by decide +kernel
theorem d_C_last_61 : decode m_C_last.2.1 61 = .ok (.iload_n 3, 1) := by decide +kernel
theorem d_C_last_62 : decode m_C_last.2.1 62 = .ok (.invokevirtual 172, 3) := by decide +kernel
theorem d_C_last_65 : decode m_C_last.2.1 65 = .ok (.istore 5, 2) := by decide +kernel
theorem d_C_last_67 : decode m_C_last.2.1 67 = .ok (.iload 5, 2) := by decide +kernel
theorem d_C_last_69 : decode m_C_last.2.1 69 = .ok (.iconst (-1), 1) := by decide +kernel
theorem d_C_last_70 : decode m_C_last.2.1 70 = .ok (.if_icmp .ne 5, 3) := by decide +kernel
theorem d_C_last_73 : decode m_C_last.2.1 73 = .ok (.iconst (-1), 1) := by decide +kernel
theorem d_C_last_74 : decode m_C_last.2.1 74 = .ok (.ireturn, 1) := by decide +kernel
theorem d_C_last_75 : decode m_C_last.2.1 75 = .ok (.iload 4, 2) := by decide +kernel
theorem d_C_last_77 : decode m_C_last.2.1 77 = .ok (.ifCond .ne 11, 3) := by decide +kernel
theorem d_C_last_80 : decode m_C_last.2.1 80 = .ok (.iload 5, 2) := by decide +kernel
theorem d_C_last_82 : decode m_C_last.2.1 82 = .ok (.invokestatic 176, 3) := by decide +kernel
theorem d_C_last_85 : decode m_C_last.2.1 85 = .ok (.goto 5, 3) := by decide +kernel
theorem d_C_last_88 : decode m_C_last.2.1 88 = .ok (.iload 5, 2) := by decide +kernel
theorem d_C_last_90 : decode m_C_last.2.1 90 = .ok (.ireturn, 1) := by decide +kernel
set_option maxHeartbeats 4000000 in
set_option maxRecDepth 20000 in
theorem c_C_last (G : Gt) (x1 : Int32) (x2 : Int32) (x3 : Int32) (x4 : Int32) (h : Hp) : Cn G m_C_last [.ref (ad G 0), .int x1, .int x2, .int x3, .int x4] h κi (f_C_last x1 x2 x3 x4 h) := by
  refine entryV (by decide) (Nat.le_of_ble_eq_true rfl) rfl ?_
  show V G m_C_last 0 [(0, .ref (ad G 0)), (1, .int x1), (2, .int x2), (3, .int x3), (4, .int x4)] [] h κi _
  unfold f_C_last
  refine v_aload_n 0 d_C_last_0 rfl rfl ?_
  refine v_iload_n 1 d_C_last_1 rfl rfl ?_
  refine v_iload_n 2 d_C_last_2 rfl rfl ?_
  refine v_callVi (As := [.int x1, .int x2]) (rest := []) (c_C_canBeTold G x1 x2 h) co_C_122 io_C_canBeTold o_0 ⟨by decide, by decide⟩ rfl rfl (Nat.le_of_ble_eq_true rfl) d_C_last_3 (fun r1 h1 _ => ?_)
  refine v_if_eq 36 d_C_last_6 (by decide) (fun c2 => ?_) (fun c2 => ?_)
  · refine v_bipush (-2) d_C_last_36 rfl ?_
    exact v_iret rfl d_C_last_38
  · refine v_aload_n 0 d_C_last_9 rfl rfl ?_
    refine v_getr 3 fl_C_19 o_0 rfl rfl d_C_last_10 ?_
    refine v_iload_n 3 d_C_last_13 rfl rfl ?_
    refine v_callVi (As := [.int x3]) (rest := []) (c_Fr_has G 3 x3 o_3 h1) co_C_80 io_Fr_has o_3 ⟨by decide, by decide⟩ rfl rfl (Nat.le_of_ble_eq_true rfl) d_C_last_14 (fun r3 h3 _ => ?_)
    refine v_if_eq 36 d_C_last_17 (by decide) (fun c4 => ?_) (fun c4 => ?_)
    · refine v_bipush (-2) d_C_last_36 rfl ?_
      exact v_iret rfl d_C_last_38
    · refine v_iload_n 1 d_C_last_20 rfl rfl ?_
      refine v_iload_n 3 d_C_last_21 rfl rfl ?_
      refine v_icmp_eq 36 d_C_last_22 (by decide) (fun c5 => ?_) (fun c5 => ?_)
      · refine v_bipush (-2) d_C_last_36 rfl ?_
        exact v_iret rfl d_C_last_38
      · refine v_iload 4 d_C_last_25 rfl ?_
        refine v_if_lt 36 d_C_last_27 (by decide) (fun c6 => ?_) (fun c6 => ?_)
        · refine v_bipush (-2) d_C_last_36 rfl ?_
          exact v_iret rfl d_C_last_38
        · refine v_iload 4 d_C_last_30 rfl ?_
          refine v_iconst 1 d_C_last_32 rfl ?_
          refine v_icmp_le 39 d_C_last_33 (by decide) (fun c7 => ?_) (fun c7 => ?_)
          · refine v_aload_n 0 d_C_last_39 rfl rfl ?_
            refine v_iload_n 1 d_C_last_40 rfl rfl ?_
            refine v_callVi (As := [.int x1]) (rest := []) (c_C_isHidden G x1 h3) co_C_91 io_C_isHidden o_0 ⟨by decide, by decide⟩ rfl rfl (Nat.le_of_ble_eq_true rfl) d_C_last_41 (fun r8 h8 _ => ?_)
            refine v_if_ne 55 d_C_last_44 (by decide) (fun c9 => ?_) (fun c9 => ?_)
            · refine v_aload_n 0 d_C_last_47 rfl rfl ?_
              refine v_iload_n 3 d_C_last_48 rfl rfl ?_
              refine v_callVi (As := [.int x3]) (rest := []) (c_C_isHidden G x3 h8) co_C_91 io_C_isHidden o_0 ⟨by decide, by decide⟩ rfl rfl (Nat.le_of_ble_eq_true rfl) d_C_last_49 (fun r10 h10 _ => ?_)
              refine v_if_eq 58 d_C_last_52 (by decide) (fun c11 => ?_) (fun c11 => ?_)
              · refine v_aload_n 0 d_C_last_58 rfl rfl ?_
                refine v_iload_n 1 d_C_last_59 rfl rfl ?_
                refine v_iload_n 2 d_C_last_60 rfl rfl ?_
                refine v_iload_n 3 d_C_last_61 rfl rfl ?_
                refine v_callVi (As := [.int x1, .int x2, .int x3]) (rest := []) (c_C_fewestHiddenFor G x1 x2 x3 h10) co_C_172 io_C_fewestHiddenFor o_0 ⟨by decide, by decide⟩ rfl rfl (Nat.le_of_ble_eq_true rfl) d_C_last_62 (fun r12 h12 _ => ?_)
                refine v_istore [(5, .int r12), (0, .ref (ad G 0)), (1, .int x1), (2, .int x2), (3, .int x3), (4, .int x4)] d_C_last_65 (by decide) rfl ?_
                refine v_iload 0 d_C_last_67 rfl ?_
                refine v_iconst (-1) d_C_last_69 rfl ?_
                refine v_icmp_ne 75 d_C_last_70 (by decide) (fun c13 => ?_) (fun c13 => ?_)
                · refine v_iconst (-1) d_C_last_73 rfl ?_
                  exact v_iret rfl d_C_last_74
                · refine v_iload 5 d_C_last_75 rfl ?_
                  refine v_if_ne 88 d_C_last_77 (by decide) (fun c14 => ?_) (fun c14 => ?_)
                  · refine v_iload 0 d_C_last_80 rfl ?_
                    refine v_callSi (As := [.int r12]) (rest := []) (c_In_bitCount G r12 h12) co_C_176 so_In_bitCount ⟨by decide, by decide⟩ rfl rfl (Nat.le_of_ble_eq_true rfl) d_C_last_82 (fun r15 h15 _ => ?_)
                    refine v_goto 90 d_C_last_85 (by decide) ?_
                    exact v_iret rfl d_C_last_90
                  · refine v_iload 0 d_C_last_88 rfl ?_
                    exact v_iret rfl d_C_last_90
              · refine v_bipush (-3) d_C_last_55 rfl ?_
                exact v_iret rfl d_C_last_57
            · refine v_bipush (-3) d_C_last_55 rfl ?_
              exact v_iret rfl d_C_last_57
          · refine v_bipush (-2) d_C_last_36 rfl ?_
            exact v_iret rfl d_C_last_38
theorem d_C_stepInTurn_0 : decode m_C_stepInTurn.2.1 0 = .ok (.aload_n 0, 1) := by decide +kernel
theorem d_C_stepInTurn_1 : decode m_C_stepInTurn.2.1 1 = .ok (.getfield 19, 3) := by decide +kernel
theorem d_C_stepInTurn_4 : decode m_C_stepInTurn.2.1 4 = .ok (.invokevirtual 237, 3) := by decide +kernel
theorem d_C_stepInTurn_7 : decode m_C_stepInTurn.2.1 7 = .ok (.aload_n 0, 1) := by decide +kernel
theorem d_C_stepInTurn_8 : decode m_C_stepInTurn.2.1 8 = .ok (.getfield 49, 3) := by decide +kernel
theorem d_C_stepInTurn_11 : decode m_C_stepInTurn.2.1 11 = .ok (.iconst (-1), 1) := by decide +kernel
theorem d_C_stepInTurn_12 : decode m_C_stepInTurn.2.1 12 = .ok (.ixor, 1) := by decide +kernel
theorem d_C_stepInTurn_13 : decode m_C_stepInTurn.2.1 13 = .ok (.iand, 1) := by decide +kernel
theorem d_C_stepInTurn_14 : decode m_C_stepInTurn.2.1 14 = .ok (.iconst 1, 1) := by decide +kernel
theorem d_C_stepInTurn_15 : decode m_C_stepInTurn.2.1 15 = .ok (.aload_n 1, 1) := by decide +kernel
theorem d_C_stepInTurn_16 : decode m_C_stepInTurn.2.1 16 = .ok (.invokevirtual 295, 3) := by decide +kernel
theorem d_C_stepInTurn_19 : decode m_C_stepInTurn.2.1 19 = .ok (.ishl, 1) := by decide +kernel
theorem d_C_stepInTurn_20 : decode m_C_stepInTurn.2.1 20 = .ok (.iconst (-1), 1) := by decide +kernel
theorem d_C_stepInTurn_21 : decode m_C_stepInTurn.2.1 21 = .ok (.ixor, 1) := by decide +kernel
theorem d_C_stepInTurn_22 : decode m_C_stepInTurn.2.1 22 = .ok (.iand, 1) := by decide +kernel
theorem d_C_stepInTurn_23 : decode m_C_stepInTurn.2.1 23 = .ok (.iconst 1, 1) := by decide +kernel
theorem d_C_stepInTurn_24 : decode m_C_stepInTurn.2.1 24 = .ok (.aload_n 2, 1) := by decide +kernel
theorem d_C_stepInTurn_25 : decode m_C_stepInTurn.2.1 25 = .ok (.invokevirtual 295, 3) := by decide +kernel
theorem d_C_stepInTurn_28 : decode m_C_stepInTurn.2.1 28 = .ok (.ishl, 1) := by decide +kernel
theorem d_C_stepInTurn_29 : decode m_C_stepInTurn.2.1 29 = .ok (.iconst (-1), 1) := by decide +kernel
theorem d_C_stepInTurn_30 : decode m_C_stepInTurn.2.1 30 = .ok (.ixor, 1) := by decide +kernel
theorem d_C_stepInTurn_31 : decode m_C_stepInTurn.2.1 31 = .ok (.iand, 1) := by decide +kernel
theorem d_C_stepInTurn_32 : decode m_C_stepInTurn.2.1 32 = .ok (.istore_n 3, 1) := by decide +kernel
theorem d_C_stepInTurn_33 : decode m_C_stepInTurn.2.1 33 = .ok (.iconst (-1), 1) := by decide +kernel
theorem d_C_stepInTurn_34 : decode m_C_stepInTurn.2.1 34 = .ok (.istore 4, 2) := by decide +kernel
theorem d_C_stepInTurn_36 : decode m_C_stepInTurn.2.1 36 = .ok (.iconst 0, 1) := by decide +kernel
theorem d_C_stepInTurn_37 : decode m_C_stepInTurn.2.1 37 = .ok (.istore 5, 2) := by decide +kernel
theorem d_C_stepInTurn_39 : decode m_C_stepInTurn.2.1 39 = .ok (.iconst 0, 1) := by decide +kernel
theorem d_C_stepInTurn_40 : decode m_C_stepInTurn.2.1 40 = .ok (.istore 6, 2) := by decide +kernel
theorem d_C_stepInTurn_42 : decode m_C_stepInTurn.2.1 42 = .ok (.iload 6, 2) := by decide +kernel
theorem d_C_stepInTurn_44 : decode m_C_stepInTurn.2.1 44 = .ok (.bipush 40, 2) := by decide +kernel
theorem d_C_stepInTurn_46 : decode m_C_stepInTurn.2.1 46 = .ok (.if_icmp .ge 105, 3) := by decide +kernel
theorem d_C_stepInTurn_49 : decode m_C_stepInTurn.2.1 49 = .ok (.iload 5, 2) := by decide +kernel
theorem d_C_stepInTurn_51 : decode m_C_stepInTurn.2.1 51 = .ok (.iconst 2, 1) := by decide +kernel
theorem d_C_stepInTurn_52 : decode m_C_stepInTurn.2.1 52 = .ok (.if_icmp .ge 99, 3) := by decide +kernel
theorem d_C_stepInTurn_55 : decode m_C_stepInTurn.2.1 55 = .ok (.iload 6, 2) := by decide +kernel
theorem d_C_stepInTurn_57 : decode m_C_stepInTurn.2.1 57 = .ok (.iconst 2, 1) := by decide +kernel
theorem d_C_stepInTurn_58 : decode m_C_stepInTurn.2.1 58 = .ok (.irem, 1) := by decide +kernel
theorem d_C_stepInTurn_59 : decode m_C_stepInTurn.2.1 59 = .ok (.ifCond .ne 7, 3) := by decide +kernel
theorem d_C_stepInTurn_62 : decode m_C_stepInTurn.2.1 62 = .ok (.aload_n 1, 1) := by decide +kernel
theorem d_C_stepInTurn_63 : decode m_C_stepInTurn.2.1 63 = .ok (.goto 4, 3) := by decide +kernel
theorem d_C_stepInTurn_66 : decode m_C_stepInTurn.2.1 66 = .ok (.aload_n 2, 1) := by decide +kernel
theorem d_C_stepInTurn_67 : decode m_C_stepInTurn.2.1 67 = .ok (.astore 7, 2) := by decide +kernel
theorem d_C_stepInTurn_69 : decode m_C_stepInTurn.2.1 69 = .ok (.aload_n 0, 1) := by decide +kernel
theorem d_C_stepInTurn_70 : decode m_C_stepInTurn.2.1 70 = .ok (.getfield 19, 3) := by decide +kernel
theorem d_C_stepInTurn_73 : decode m_C_stepInTurn.2.1 73 = .ok (.aload 7, 2) := by decide +kernel
theorem d_C_stepInTurn_75 : decode m_C_stepInTurn.2.1 75 = .ok (.getfield 305, 3) := by decide +kernel
theorem d_C_stepInTurn_78 : decode m_C_stepInTurn.2.1 78 = .ok (.aload 7, 2) := by decide +kernel
theorem d_C_stepInTurn_80 : decode m_C_stepInTurn.2.1 80 = .ok (.invokevirtual 295, 3) := by decide +kernel
theorem d_C_stepInTurn_83 : decode m_C_stepInTurn.2.1 83 = .ok (.iload_n 3, 1) := by decide +kernel
theorem d_C_stepInTurn_84 : decode m_C_stepInTurn.2.1 84 = .ok (.invokevirtual 298, 3) := by decide +kernel
theorem d_C_stepInTurn_87 : decode m_C_stepInTurn.2.1 87 = .ok (.istore 8, 2) := by decide +kernel
theorem d_C_stepInTurn_89 : decode m_C_stepInTurn.2.1 89 = .ok (.iload 8, 2) := by decide +kernel
theorem d_C_stepInTurn_91 : decode m_C_stepInTurn.2.1 91 = .ok (.iconst (-1), 1) := by decide +kernel
theorem d_C_stepInTurn_92 : decode m_C_stepInTurn.2.1 92 = .ok (.if_icmp .eq 50, 3) := by decide +kernel
theorem d_C_stepInTurn_95 : decode m_C_stepInTurn.2.1 95 = .ok (.aload 7, 2) := by decide +kernel
theorem d_C_stepInTurn_97 : decode m_C_stepInTurn.2.1 97 = .ok (.iload 8, 2) := by decide +kernel
theorem d_C_stepInTurn_99 : decode m_C_stepInTurn.2.1 99 = .ok (.aload_n 0, 1) := by decide +kernel
theorem d_C_stepInTurn_100 : decode m_C_stepInTurn.2.1 100 = .ok (.getfield 19, 3) := by decide +kernel
theorem d_C_stepInTurn_103 : decode m_C_stepInTurn.2.1 103 = .ok (.aload 7, 2) := by decide +kernel
theorem d_C_stepInTurn_105 : decode m_C_stepInTurn.2.1 105 = .ok (.invokevirtual 295, 3) := by decide +kernel
theorem d_C_stepInTurn_108 : decode m_C_stepInTurn.2.1 108 = .ok (.iload 8, 2) := by decide +kernel
theorem d_C_stepInTurn_110 : decode m_C_stepInTurn.2.1 110 = .ok (.invokevirtual 119, 3) := by decide +kernel
theorem d_C_stepInTurn_113 : decode m_C_stepInTurn.2.1 113 = .ok (.aload_n 0, 1) := by decide +kernel
theorem d_C_stepInTurn_114 : decode m_C_stepInTurn.2.1 114 = .ok (.getfield 55, 3) := by decide +kernel
theorem d_C_stepInTurn_117 : decode m_C_stepInTurn.2.1 117 = .ok (.invokevirtual 301, 3) := by decide +kernel
theorem d_C_stepInTurn_120 : decode m_C_stepInTurn.2.1 120 = .ok (.ifCond .eq 22, 3) := by decide +kernel
theorem d_C_stepInTurn_123 : decode m_C_stepInTurn.2.1 123 = .ok (.iload_n 3, 1) := by decide +kernel
theorem d_C_stepInTurn_124 : decode m_C_stepInTurn.2.1 124 = .ok (.iconst 1, 1) := by decide +kernel
theorem d_C_stepInTurn_125 : decode m_C_stepInTurn.2.1 125 = .ok (.iload 8, 2) := by decide +kernel
theorem d_C_stepInTurn_127 : decode m_C_stepInTurn.2.1 127 = .ok (.ishl, 1) := by decide +kernel
theorem d_C_stepInTurn_128 : decode m_C_stepInTurn.2.1 128 = .ok (.iconst (-1), 1) := by decide +kernel
theorem d_C_stepInTurn_129 : decode m_C_stepInTurn.2.1 129 = .ok (.ixor, 1) := by decide +kernel
theorem d_C_stepInTurn_130 : decode m_C_stepInTurn.2.1 130 = .ok (.iand, 1) := by decide +kernel
theorem d_C_stepInTurn_131 : decode m_C_stepInTurn.2.1 131 = .ok (.istore_n 3, 1) := by decide +kernel
theorem d_C_stepInTurn_132 : decode m_C_stepInTurn.2.1 132 = .ok (.iload 8, 2) := by decide +kernel
theorem d_C_stepInTurn_134 : decode m_C_stepInTurn.2.1 134 = .ok (.istore 4, 2) := by decide +kernel
theorem d_C_stepInTurn_136 : decode m_C_stepInTurn.2.1 136 = .ok (.iconst 0, 1) := by decide +kernel
theorem d_C_stepInTurn_137 : decode m_C_stepInTurn.2.1 137 = .ok (.istore 5, 2) := by decide +kernel
theorem d_C_stepInTurn_139 : decode m_C_stepInTurn.2.1 139 = .ok (.goto 6, 3) := by decide +kernel
theorem d_C_stepInTurn_142 : decode m_C_stepInTurn.2.1 142 = .ok (.iinc 5 1, 3) := by decide +kernel
theorem d_C_stepInTurn_145 : decode m_C_stepInTurn.2.1 145 = .ok (.iinc 6 1, 3) := by decide +kernel
theorem d_C_stepInTurn_148 : decode m_C_stepInTurn.2.1 148 = .ok (.goto (-106), 3) := by decide +kernel
theorem d_C_stepInTurn_151 : decode m_C_stepInTurn.2.1 151 = .ok (.iload 4, 2) := by decide +kernel
theorem d_C_stepInTurn_153 : decode m_C_stepInTurn.2.1 153 = .ok (.ireturn, 1) := by decide +kernel
set_option maxHeartbeats 4000000 in
set_option maxRecDepth 20000 in
theorem Vl_C_stepInTurn_42 (G : Gt) : ∀ (n : Nat) (a1 : Nat) (a2 : Nat) (x3 : Int32) (x4 : Int32) (x5 : Int32) (x6 : Int32) (ha1 : isO 3 a1) (ha2 : isO 3 a2) (h : Hp), V G m_C_stepInTurn 42 [(0, .ref (ad G 0)), (1, .ref (ad G a1)), (2, .ref (ad G a2)), (3, .int x3), (4, .int x4), (5, .int x5), (6, .int x6)] [] h κi (l_C_stepInTurn_42 n a1 a2 x3 x4 x5 x6 h) := by
  intro n
  induction n with
  | zero => intros; exact v_none
  | succ n ih =>
    intro a1 a2 x3 x4 x5 x6 ha1 ha2 h
    rw [l_C_stepInTurn_42]
    refine v_iload 6 d_C_stepInTurn_42 rfl ?_
    refine v_bipush 40 d_C_stepInTurn_44 rfl ?_
    refine v_icmp_ge 151 d_C_stepInTurn_46 (by decide) (fun c4 => ?_) (fun c4 => ?_)
    · refine v_iload 4 d_C_stepInTurn_151 rfl ?_
      exact v_iret rfl d_C_stepInTurn_153
    · refine v_iload 5 d_C_stepInTurn_49 rfl ?_
      refine v_iconst 2 d_C_stepInTurn_51 rfl ?_
      refine v_icmp_ge 151 d_C_stepInTurn_52 (by decide) (fun c5 => ?_) (fun c5 => ?_)
      · refine v_iload 4 d_C_stepInTurn_151 rfl ?_
        exact v_iret rfl d_C_stepInTurn_153
      · refine v_iload 6 d_C_stepInTurn_55 rfl ?_
        refine v_iconst 2 d_C_stepInTurn_57 rfl ?_
        refine v_irem (by decide) d_C_stepInTurn_58 ?_
        refine v_if_ne 66 d_C_stepInTurn_59 (by decide) (fun c6 => ?_) (fun c6 => ?_)
        · refine v_aload_n 1 d_C_stepInTurn_62 rfl rfl ?_
          refine v_goto 67 d_C_stepInTurn_63 (by decide) ?_
          refine v_astore [(7, .ref (ad G a1)), (0, .ref (ad G 0)), (1, .ref (ad G a1)), (2, .ref (ad G a2)), (3, .int x3), (4, .int x4), (5, .int x5), (6, .int x6)] d_C_stepInTurn_67 (by decide) rfl ?_
          refine v_aload_n 1 d_C_stepInTurn_69 rfl rfl ?_
          refine v_getr 3 fl_C_19 o_0 rfl rfl d_C_stepInTurn_70 ?_
          refine v_aload 0 d_C_stepInTurn_73 rfl ?_
          refine v_geti fl_C_305 ha1 rfl d_C_stepInTurn_75 ?_
          refine v_aload 0 d_C_stepInTurn_78 rfl ?_
          refine v_callVi (As := []) (rest := [.int (h a1 2), .ref (ad G 3)]) (c_Sp_here G a1 ha1 h) co_C_295 io_Sp_here ha1 ⟨by decide, by decide⟩ rfl rfl (Nat.le_of_ble_eq_true rfl) d_C_stepInTurn_80 (fun r7 h7 _ => ?_)
          refine v_iload_n 4 d_C_stepInTurn_83 rfl rfl ?_
          refine v_callVi (As := [.int (h a1 2), .int r7, .int x3]) (rest := []) (c_Fr_choose G 3 (h a1 2) r7 x3 o_3 h7) co_C_298 io_Fr_choose o_3 ⟨by decide, by decide⟩ rfl rfl (Nat.le_of_ble_eq_true rfl) d_C_stepInTurn_84 (fun r8 h8 _ => ?_)
          refine v_istore [(8, .int r8), (7, .ref (ad G a1)), (0, .ref (ad G 0)), (1, .ref (ad G a1)), (2, .ref (ad G a2)), (3, .int x3), (4, .int x4), (5, .int x5), (6, .int x6)] d_C_stepInTurn_87 (by decide) rfl ?_
          refine v_iload 0 d_C_stepInTurn_89 rfl ?_
          refine v_iconst (-1) d_C_stepInTurn_91 rfl ?_
          refine v_icmp_eq 142 d_C_stepInTurn_92 (by decide) (fun c9 => ?_) (fun c9 => ?_)
          · refine v_iinc (x5 + 1) 7 [(5, .int (x5 + 1)), (8, .int r8), (7, .ref (ad G a1)), (0, .ref (ad G 0)), (1, .ref (ad G a1)), (2, .ref (ad G a2)), (3, .int x3), (4, .int x4), (6, .int x6)] d_C_stepInTurn_142 rfl rfl (by decide) rfl ?_
            refine v_iinc (x6 + 1) 8 [(6, .int (x6 + 1)), (5, .int (x5 + 1)), (8, .int r8), (7, .ref (ad G a1)), (0, .ref (ad G 0)), (1, .ref (ad G a1)), (2, .ref (ad G a2)), (3, .int x3), (4, .int x4)] d_C_stepInTurn_145 rfl rfl (by decide) rfl ?_
            refine v_goto 42 d_C_stepInTurn_148 (by decide) ?_
            exact v_sub [4, 5, 6, 7, 8, 1, 0] rfl (ih a1 a2 x3 x4 (x5 + 1) (x6 + 1) ha1 ha2 h8)
          · refine v_aload 1 d_C_stepInTurn_95 rfl ?_
            refine v_iload 0 d_C_stepInTurn_97 rfl ?_
            refine v_aload_n 2 d_C_stepInTurn_99 rfl rfl ?_
            refine v_getr 3 fl_C_19 o_0 rfl rfl d_C_stepInTurn_100 ?_
            refine v_aload 1 d_C_stepInTurn_103 rfl ?_
            refine v_callVi (As := []) (rest := [.ref (ad G 3), .int r8, .ref (ad G a1)]) (c_Sp_here G a1 ha1 h8) co_C_295 io_Sp_here ha1 ⟨by decide, by decide⟩ rfl rfl (Nat.le_of_ble_eq_true rfl) d_C_stepInTurn_105 (fun r10 h10 _ => ?_)
            refine v_iload 0 d_C_stepInTurn_108 rfl ?_
            refine v_callVi (As := [.int r10, .int r8]) (rest := [.int r8, .ref (ad G a1)]) (c_Fr_apart G 3 r10 r8 o_3 h10) co_C_119 io_Fr_apart o_3 ⟨by decide, by decide⟩ rfl rfl (Nat.le_of_ble_eq_true rfl) d_C_stepInTurn_110 (fun r11 h11 _ => ?_)
            refine v_aload_n 2 d_C_stepInTurn_113 rfl rfl ?_
            refine v_geti fl_C_55 o_0 rfl d_C_stepInTurn_114 ?_
            refine v_callVi (As := [.int r8, .int r11, .int (h11 0 9)]) (rest := []) (c_Sp_goOn G a1 r8 r11 (h11 0 9) ha1 h11) co_C_301 io_Sp_goOn ha1 ⟨by decide, by decide⟩ rfl rfl (Nat.le_of_ble_eq_true rfl) d_C_stepInTurn_117 (fun r12 h12 _ => ?_)
            refine v_if_eq 142 d_C_stepInTurn_120 (by decide) (fun c13 => ?_) (fun c13 => ?_)
            · refine v_iinc (x5 + 1) 7 [(5, .int (x5 + 1)), (8, .int r8), (7, .ref (ad G a1)), (0, .ref (ad G 0)), (1, .ref (ad G a1)), (2, .ref (ad G a2)), (3, .int x3), (4, .int x4), (6, .int x6)] d_C_stepInTurn_142 rfl rfl (by decide) rfl ?_
              refine v_iinc (x6 + 1) 8 [(6, .int (x6 + 1)), (5, .int (x5 + 1)), (8, .int r8), (7, .ref (ad G a1)), (0, .ref (ad G 0)), (1, .ref (ad G a1)), (2, .ref (ad G a2)), (3, .int x3), (4, .int x4)] d_C_stepInTurn_145 rfl rfl (by decide) rfl ?_
              refine v_goto 42 d_C_stepInTurn_148 (by decide) ?_
              exact v_sub [4, 5, 6, 7, 8, 1, 0] rfl (ih a1 a2 x3 x4 (x5 + 1) (x6 + 1) ha1 ha2 h12)
            · refine v_iload_n 5 d_C_stepInTurn_123 rfl rfl ?_
              refine v_iconst 1 d_C_stepInTurn_124 rfl ?_
              refine v_iload 0 d_C_stepInTurn_125 rfl ?_
              refine v_ishl d_C_stepInTurn_127 ?_
              refine v_iconst (-1) d_C_stepInTurn_128 rfl ?_
              refine v_ixor d_C_stepInTurn_129 ?_
              refine v_iand d_C_stepInTurn_130 ?_
              refine v_istore_n [(3, .int (x3 &&& (((1 : Int32) <<< (r8 &&& 31)) ^^^ (-1)))), (8, .int r8), (7, .ref (ad G a1)), (0, .ref (ad G 0)), (1, .ref (ad G a1)), (2, .ref (ad G a2)), (4, .int x4), (5, .int x5), (6, .int x6)] d_C_stepInTurn_131 rfl (by decide) rfl ?_
              refine v_iload 1 d_C_stepInTurn_132 rfl ?_
              refine v_istore [(4, .int r8), (3, .int (x3 &&& (((1 : Int32) <<< (r8 &&& 31)) ^^^ (-1)))), (8, .int r8), (7, .ref (ad G a1)), (0, .ref (ad G 0)), (1, .ref (ad G a1)), (2, .ref (ad G a2)), (5, .int x5), (6, .int x6)] d_C_stepInTurn_134 (by decide) rfl ?_
              refine v_iconst 0 d_C_stepInTurn_136 rfl ?_
              refine v_istore [(5, .int 0), (4, .int r8), (3, .int (x3 &&& (((1 : Int32) <<< (r8 &&& 31)) ^^^ (-1)))), (8, .int r8), (7, .ref (ad G a1)), (0, .ref (ad G 0)), (1, .ref (ad G a1)), (2, .ref (ad G a2)), (6, .int x6)] d_C_stepInTurn_137 (by decide) rfl ?_
              refine v_goto 145 d_C_stepInTurn_139 (by decide) ?_
              refine v_iinc (x6 + 1) 8 [(6, .int (x6 + 1)), (5, .int 0), (4, .int r8), (3, .int (x3 &&& (((1 : Int32) <<< (r8 &&& 31)) ^^^ (-1)))), (8, .int r8), (7, .ref (ad G a1)), (0, .ref (ad G 0)), (1, .ref (ad G a1)), (2, .ref (ad G a2))] d_C_stepInTurn_145 rfl rfl (by decide) rfl ?_
              refine v_goto 42 d_C_stepInTurn_148 (by decide) ?_
              exact v_sub [6, 7, 8, 3, 2, 1, 0] rfl (ih a1 a2 (x3 &&& (((1 : Int32) <<< (r8 &&& 31)) ^^^ (-1))) r8 0 (x6 + 1) ha1 ha2 h12)
        · refine v_aload_n 2 d_C_stepInTurn_66 rfl rfl ?_
          refine v_astore [(7, .ref (ad G a2)), (0, .ref (ad G 0)), (1, .ref (ad G a1)), (2, .ref (ad G a2)), (3, .int x3), (4, .int x4), (5, .int x5), (6, .int x6)] d_C_stepInTurn_67 (by decide) rfl ?_
          refine v_aload_n 1 d_C_stepInTurn_69 rfl rfl ?_
          refine v_getr 3 fl_C_19 o_0 rfl rfl d_C_stepInTurn_70 ?_
          refine v_aload 0 d_C_stepInTurn_73 rfl ?_
          refine v_geti fl_C_305 ha2 rfl d_C_stepInTurn_75 ?_
          refine v_aload 0 d_C_stepInTurn_78 rfl ?_
          refine v_callVi (As := []) (rest := [.int (h a2 2), .ref (ad G 3)]) (c_Sp_here G a2 ha2 h) co_C_295 io_Sp_here ha2 ⟨by decide, by decide⟩ rfl rfl (Nat.le_of_ble_eq_true rfl) d_C_stepInTurn_80 (fun r14 h14 _ => ?_)
          refine v_iload_n 4 d_C_stepInTurn_83 rfl rfl ?_
          refine v_callVi (As := [.int (h a2 2), .int r14, .int x3]) (rest := []) (c_Fr_choose G 3 (h a2 2) r14 x3 o_3 h14) co_C_298 io_Fr_choose o_3 ⟨by decide, by decide⟩ rfl rfl (Nat.le_of_ble_eq_true rfl) d_C_stepInTurn_84 (fun r15 h15 _ => ?_)
          refine v_istore [(8, .int r15), (7, .ref (ad G a2)), (0, .ref (ad G 0)), (1, .ref (ad G a1)), (2, .ref (ad G a2)), (3, .int x3), (4, .int x4), (5, .int x5), (6, .int x6)] d_C_stepInTurn_87 (by decide) rfl ?_
          refine v_iload 0 d_C_stepInTurn_89 rfl ?_
          refine v_iconst (-1) d_C_stepInTurn_91 rfl ?_
          refine v_icmp_eq 142 d_C_stepInTurn_92 (by decide) (fun c16 => ?_) (fun c16 => ?_)
          · refine v_iinc (x5 + 1) 7 [(5, .int (x5 + 1)), (8, .int r15), (7, .ref (ad G a2)), (0, .ref (ad G 0)), (1, .ref (ad G a1)), (2, .ref (ad G a2)), (3, .int x3), (4, .int x4), (6, .int x6)] d_C_stepInTurn_142 rfl rfl (by decide) rfl ?_
            refine v_iinc (x6 + 1) 8 [(6, .int (x6 + 1)), (5, .int (x5 + 1)), (8, .int r15), (7, .ref (ad G a2)), (0, .ref (ad G 0)), (1, .ref (ad G a1)), (2, .ref (ad G a2)), (3, .int x3), (4, .int x4)] d_C_stepInTurn_145 rfl rfl (by decide) rfl ?_
            refine v_goto 42 d_C_stepInTurn_148 (by decide) ?_
            exact v_sub [4, 5, 6, 7, 8, 1, 0] rfl (ih a1 a2 x3 x4 (x5 + 1) (x6 + 1) ha1 ha2 h15)
          · refine v_aload 1 d_C_stepInTurn_95 rfl ?_
            refine v_iload 0 d_C_stepInTurn_97 rfl ?_
            refine v_aload_n 2 d_C_stepInTurn_99 rfl rfl ?_
            refine v_getr 3 fl_C_19 o_0 rfl rfl d_C_stepInTurn_100 ?_
            refine v_aload 1 d_C_stepInTurn_103 rfl ?_
            refine v_callVi (As := []) (rest := [.ref (ad G 3), .int r15, .ref (ad G a2)]) (c_Sp_here G a2 ha2 h15) co_C_295 io_Sp_here ha2 ⟨by decide, by decide⟩ rfl rfl (Nat.le_of_ble_eq_true rfl) d_C_stepInTurn_105 (fun r17 h17 _ => ?_)
            refine v_iload 0 d_C_stepInTurn_108 rfl ?_
            refine v_callVi (As := [.int r17, .int r15]) (rest := [.int r15, .ref (ad G a2)]) (c_Fr_apart G 3 r17 r15 o_3 h17) co_C_119 io_Fr_apart o_3 ⟨by decide, by decide⟩ rfl rfl (Nat.le_of_ble_eq_true rfl) d_C_stepInTurn_110 (fun r18 h18 _ => ?_)
            refine v_aload_n 2 d_C_stepInTurn_113 rfl rfl ?_
            refine v_geti fl_C_55 o_0 rfl d_C_stepInTurn_114 ?_
            refine v_callVi (As := [.int r15, .int r18, .int (h18 0 9)]) (rest := []) (c_Sp_goOn G a2 r15 r18 (h18 0 9) ha2 h18) co_C_301 io_Sp_goOn ha2 ⟨by decide, by decide⟩ rfl rfl (Nat.le_of_ble_eq_true rfl) d_C_stepInTurn_117 (fun r19 h19 _ => ?_)
            refine v_if_eq 142 d_C_stepInTurn_120 (by decide) (fun c20 => ?_) (fun c20 => ?_)
            · refine v_iinc (x5 + 1) 7 [(5, .int (x5 + 1)), (8, .int r15), (7, .ref (ad G a2)), (0, .ref (ad G 0)), (1, .ref (ad G a1)), (2, .ref (ad G a2)), (3, .int x3), (4, .int x4), (6, .int x6)] d_C_stepInTurn_142 rfl rfl (by decide) rfl ?_
              refine v_iinc (x6 + 1) 8 [(6, .int (x6 + 1)), (5, .int (x5 + 1)), (8, .int r15), (7, .ref (ad G a2)), (0, .ref (ad G 0)), (1, .ref (ad G a1)), (2, .ref (ad G a2)), (3, .int x3), (4, .int x4)] d_C_stepInTurn_145 rfl rfl (by decide) rfl ?_
              refine v_goto 42 d_C_stepInTurn_148 (by decide) ?_
              exact v_sub [4, 5, 6, 7, 8, 1, 0] rfl (ih a1 a2 x3 x4 (x5 + 1) (x6 + 1) ha1 ha2 h19)
            · refine v_iload_n 5 d_C_stepInTurn_123 rfl rfl ?_
              refine v_iconst 1 d_C_stepInTurn_124 rfl ?_
              refine v_iload 0 d_C_stepInTurn_125 rfl ?_
              refine v_ishl d_C_stepInTurn_127 ?_
              refine v_iconst (-1) d_C_stepInTurn_128 rfl ?_
              refine v_ixor d_C_stepInTurn_129 ?_
              refine v_iand d_C_stepInTurn_130 ?_
              refine v_istore_n [(3, .int (x3 &&& (((1 : Int32) <<< (r15 &&& 31)) ^^^ (-1)))), (8, .int r15), (7, .ref (ad G a2)), (0, .ref (ad G 0)), (1, .ref (ad G a1)), (2, .ref (ad G a2)), (4, .int x4), (5, .int x5), (6, .int x6)] d_C_stepInTurn_131 rfl (by decide) rfl ?_
              refine v_iload 1 d_C_stepInTurn_132 rfl ?_
              refine v_istore [(4, .int r15), (3, .int (x3 &&& (((1 : Int32) <<< (r15 &&& 31)) ^^^ (-1)))), (8, .int r15), (7, .ref (ad G a2)), (0, .ref (ad G 0)), (1, .ref (ad G a1)), (2, .ref (ad G a2)), (5, .int x5), (6, .int x6)] d_C_stepInTurn_134 (by decide) rfl ?_
              refine v_iconst 0 d_C_stepInTurn_136 rfl ?_
              refine v_istore [(5, .int 0), (4, .int r15), (3, .int (x3 &&& (((1 : Int32) <<< (r15 &&& 31)) ^^^ (-1)))), (8, .int r15), (7, .ref (ad G a2)), (0, .ref (ad G 0)), (1, .ref (ad G a1)), (2, .ref (ad G a2)), (6, .int x6)] d_C_stepInTurn_137 (by decide) rfl ?_
              refine v_goto 145 d_C_stepInTurn_139 (by decide) ?_
              refine v_iinc (x6 + 1) 8 [(6, .int (x6 + 1)), (5, .int 0), (4, .int r15), (3, .int (x3 &&& (((1 : Int32) <<< (r15 &&& 31)) ^^^ (-1)))), (8, .int r15), (7, .ref (ad G a2)), (0, .ref (ad G 0)), (1, .ref (ad G a1)), (2, .ref (ad G a2))] d_C_stepInTurn_145 rfl rfl (by decide) rfl ?_
              refine v_goto 42 d_C_stepInTurn_148 (by decide) ?_
              exact v_sub [6, 7, 8, 3, 2, 1, 0] rfl (ih a1 a2 (x3 &&& (((1 : Int32) <<< (r15 &&& 31)) ^^^ (-1))) r15 0 (x6 + 1) ha1 ha2 h19)
set_option maxHeartbeats 4000000 in
set_option maxRecDepth 20000 in
theorem c_C_stepInTurn (G : Gt) (a1 : Nat) (a2 : Nat) (ha1 : isO 3 a1) (ha2 : isO 3 a2) (h : Hp) : Cn G m_C_stepInTurn [.ref (ad G 0), .ref (ad G a1), .ref (ad G a2)] h κi (f_C_stepInTurn a1 a2 h) := by
  refine entryV (by decide) (Nat.le_of_ble_eq_true rfl) rfl ?_
  show V G m_C_stepInTurn 0 [(0, .ref (ad G 0)), (1, .ref (ad G a1)), (2, .ref (ad G a2))] [] h κi _
  unfold f_C_stepInTurn
  refine v_aload_n 0 d_C_stepInTurn_0 rfl rfl ?_
  refine v_getr 3 fl_C_19 o_0 rfl rfl d_C_stepInTurn_1 ?_
  refine v_callVi (As := []) (rest := []) (c_Fr_all G 3 o_3 h) co_C_237 io_Fr_all o_3 ⟨by decide, by decide⟩ rfl rfl (Nat.le_of_ble_eq_true rfl) d_C_stepInTurn_4 (fun r1 h1 _ => ?_)
  refine v_aload_n 0 d_C_stepInTurn_7 rfl rfl ?_
  refine v_geti fl_C_49 o_0 rfl d_C_stepInTurn_8 ?_
  refine v_iconst (-1) d_C_stepInTurn_11 rfl ?_
  refine v_ixor d_C_stepInTurn_12 ?_
  refine v_iand d_C_stepInTurn_13 ?_
  refine v_iconst 1 d_C_stepInTurn_14 rfl ?_
  refine v_aload_n 1 d_C_stepInTurn_15 rfl rfl ?_
  refine v_callVi (As := []) (rest := [.int 1, .int (r1 &&& ((h1 0 7) ^^^ (-1)))]) (c_Sp_here G a1 ha1 h1) co_C_295 io_Sp_here ha1 ⟨by decide, by decide⟩ rfl rfl (Nat.le_of_ble_eq_true rfl) d_C_stepInTurn_16 (fun r2 h2 _ => ?_)
  refine v_ishl d_C_stepInTurn_19 ?_
  refine v_iconst (-1) d_C_stepInTurn_20 rfl ?_
  refine v_ixor d_C_stepInTurn_21 ?_
  refine v_iand d_C_stepInTurn_22 ?_
  refine v_iconst 1 d_C_stepInTurn_23 rfl ?_
  refine v_aload_n 2 d_C_stepInTurn_24 rfl rfl ?_
  refine v_callVi (As := []) (rest := [.int 1, .int ((r1 &&& ((h1 0 7) ^^^ (-1))) &&& (((1 : Int32) <<< (r2 &&& 31)) ^^^ (-1)))]) (c_Sp_here G a2 ha2 h2) co_C_295 io_Sp_here ha2 ⟨by decide, by decide⟩ rfl rfl (Nat.le_of_ble_eq_true rfl) d_C_stepInTurn_25 (fun r3 h3 _ => ?_)
  refine v_ishl d_C_stepInTurn_28 ?_
  refine v_iconst (-1) d_C_stepInTurn_29 rfl ?_
  refine v_ixor d_C_stepInTurn_30 ?_
  refine v_iand d_C_stepInTurn_31 ?_
  refine v_istore_n [(3, .int (((r1 &&& ((h1 0 7) ^^^ (-1))) &&& (((1 : Int32) <<< (r2 &&& 31)) ^^^ (-1))) &&& (((1 : Int32) <<< (r3 &&& 31)) ^^^ (-1)))), (0, .ref (ad G 0)), (1, .ref (ad G a1)), (2, .ref (ad G a2))] d_C_stepInTurn_32 rfl (by decide) rfl ?_
  refine v_iconst (-1) d_C_stepInTurn_33 rfl ?_
  refine v_istore [(4, .int (-1)), (3, .int (((r1 &&& ((h1 0 7) ^^^ (-1))) &&& (((1 : Int32) <<< (r2 &&& 31)) ^^^ (-1))) &&& (((1 : Int32) <<< (r3 &&& 31)) ^^^ (-1)))), (0, .ref (ad G 0)), (1, .ref (ad G a1)), (2, .ref (ad G a2))] d_C_stepInTurn_34 (by decide) rfl ?_
  refine v_iconst 0 d_C_stepInTurn_36 rfl ?_
  refine v_istore [(5, .int 0), (4, .int (-1)), (3, .int (((r1 &&& ((h1 0 7) ^^^ (-1))) &&& (((1 : Int32) <<< (r2 &&& 31)) ^^^ (-1))) &&& (((1 : Int32) <<< (r3 &&& 31)) ^^^ (-1)))), (0, .ref (ad G 0)), (1, .ref (ad G a1)), (2, .ref (ad G a2))] d_C_stepInTurn_37 (by decide) rfl ?_
  refine v_iconst 0 d_C_stepInTurn_39 rfl ?_
  refine v_istore [(6, .int 0), (5, .int 0), (4, .int (-1)), (3, .int (((r1 &&& ((h1 0 7) ^^^ (-1))) &&& (((1 : Int32) <<< (r2 &&& 31)) ^^^ (-1))) &&& (((1 : Int32) <<< (r3 &&& 31)) ^^^ (-1)))), (0, .ref (ad G 0)), (1, .ref (ad G a1)), (2, .ref (ad G a2))] d_C_stepInTurn_40 (by decide) rfl ?_
  exact v_sub [4, 5, 6, 3, 2, 1, 0] rfl (Vl_C_stepInTurn_42 G FUEL a1 a2 (((r1 &&& ((h1 0 7) ^^^ (-1))) &&& (((1 : Int32) <<< (r2 &&& 31)) ^^^ (-1))) &&& (((1 : Int32) <<< (r3 &&& 31)) ^^^ (-1))) (-1) 0 0 ha1 ha2 h3)
theorem d_C_two_0 : decode m_C_two.2.1 0 = .ok (.aload_n 0, 1) := by decide +kernel
theorem d_C_two_1 : decode m_C_two.2.1 1 = .ok (.iload_n 1, 1) := by decide +kernel
theorem d_C_two_2 : decode m_C_two.2.1 2 = .ok (.iload_n 2, 1) := by decide +kernel
theorem d_C_two_3 : decode m_C_two.2.1 3 = .ok (.invokevirtual 122, 3) := by decide +kernel
theorem d_C_two_6 : decode m_C_two.2.1 6 = .ok (.ifCond .eq 29, 3) := by decide +kernel
theorem d_C_two_9 : decode m_C_two.2.1 9 = .ok (.aload_n 0, 1) := by decide +kernel
theorem d_C_two_10 : decode m_C_two.2.1 10 = .ok (.iload_n 3, 1) := by decide +kernel
theorem d_C_two_11 : decode m_C_two.2.1 11 = .ok (.iload 4, 2) := by decide +kernel
theorem d_C_two_13 : decode m_C_two.2.1 13 = .ok (.invokevirtual 122, 3) := by decide +kernel
theorem d_C_two_16 : decode m_C_two.2.1 16 = .ok (.ifCond .eq 19, 3) := by decide +kernel
theorem d_C_two_19 : decode m_C_two.2.1 19 = .ok (.iload_n 1, 1) := by decide +kernel
theorem d_C_two_20 : decode m_C_two.2.1 20 = .ok (.iload_n 3, 1) := by decide +kernel
theorem d_C_two_21 : decode m_C_two.2.1 21 = .ok (.if_icmp .eq 14, 3) := by decide +kernel
theorem d_C_two_24 : decode m_C_two.2.1 24 = .ok (.iload 5, 2) := by decide +kernel
theorem d_C_two_26 : decode m_C_two.2.1 26 = .ok (.ifCond .lt 9, 3) := by decide +kernel
theorem d_C_two_29 : decode m_C_two.2.1 29 = .ok (.iload 5, 2) := by decide +kernel
theorem d_C_two_31 : decode m_C_two.2.1 31 = .ok (.iconst 2, 1) := by decide +kernel
theorem d_C_two_32 : decode m_C_two.2.1 32 = .ok (.if_icmp .le 6, 3) := by decide +kernel
theorem d_C_two_35 : decode m_C_two.2.1 35 = .ok (.bipush (-2), 2) := by decide +kernel
theorem d_C_two_37 : decode m_C_two.2.1 37 = .ok (.ireturn, 1) := by decide +kernel
theorem d_C_two_38 : decode m_C_two.2.1 38 = .ok (.aload_n 0, 1) := by decide +kernel
theorem d_C_two_39 : decode m_C_two.2.1 39 = .ok (.iload_n 1, 1) := by decide +kernel
theorem d_C_two_40 : decode m_C_two.2.1 40 = .ok (.invokevirtual 91, 3) := by decide +kernel
theorem d_C_two_43 : decode m_C_two.2.1 43 = .ok (.ifCond .ne 11, 3) := by decide +kernel
theorem d_C_two_46 : decode m_C_two.2.1 46 = .ok (.aload_n 0, 1) := by decide +kernel
theorem d_C_two_47 : decode m_C_two.2.1 47 = .ok (.iload_n 3, 1) := by decide +kernel
theorem d_C_two_48 : decode m_C_two.2.1 48 = .ok (.invokevirtual 91, 3) := by decide +kernel
theorem d_C_two_51 : decode m_C_two.2.1 51 = .ok (.ifCond .eq 6, 3) := by decide +kernel
theorem d_C_two_54 : decode m_C_two.2.1 54 = .ok (.bipush (-3), 2) := by decide +kernel
theorem d_C_two_56 : decode m_C_two.2.1 56 = .ok (.ireturn, 1) := by decide +kernel
theorem d_C_two_57 : decode m_C_two.2.1 57 = .ok (.aload_n 0, 1) := by decide +kernel
theorem d_C_two_58 : decode m_C_two.2.1 58 = .ok (.getfield 28, 3) := by decide +kernel
theorem d_C_two_61 : decode m_C_two.2.1 61 = .ok (.iconst 0, 1) := by decide +kernel
theorem d_C_two_62 : decode m_C_two.2.1 62 = .ok (.aaload, 1) := by decide +kernel
theorem d_C_two_63 : decode m_C_two.2.1 63 = .ok (.astore 6, 2) := by decide +kernel
theorem d_C_two_65 : decode m_C_two.2.1 65 = .ok (.aload_n 0, 1) := by decide +kernel
theorem d_C_two_66 : decode m_C_two.2.1 66 = .ok (.getfield 28, 3) := by decide +kernel
theorem d_C_two_69 : decode m_C_two.2.1 69 = .ok (.iconst 1, 1) := by decide +kernel
theorem d_C_two_70 : decode m_C_two.2.1 70 = .ok (.aaload, 1) := by decide +kernel
theorem d_C_two_71 : decode m_C_two.2.1 71 = .ok (.astore 7, 2) := by decide +kernel
theorem d_C_two_73 : decode m_C_two.2.1 73 = .ok (.aload 6, 2) := by decide +kernel
theorem d_C_two_75 : decode m_C_two.2.1 75 = .ok (.iload_n 1, 1) := by decide +kernel
theorem d_C_two_76 : decode m_C_two.2.1 76 = .ok (.iload_n 2, 1) := by decide +kernel
theorem d_C_two_77 : decode m_C_two.2.1 77 = .ok (.aload_n 0, 1) := by decide +kernel
theorem d_C_two_78 : decode m_C_two.2.1 78 = .ok (.getfield 52, 3) := by decide +kernel
theorem d_C_two_81 : decode m_C_two.2.1 81 = .ok (.invokevirtual 181, 3) := by decide +kernel
theorem d_C_two_84 : decode m_C_two.2.1 84 = .ok (.aload 7, 2) := by decide +kernel
theorem d_C_two_86 : decode m_C_two.2.1 86 = .ok (.iload_n 3, 1) := by decide +kernel
theorem d_C_two_87 : decode m_C_two.2.1 87 = .ok (.iload 4, 2) := by decide +kernel
theorem d_C_two_89 : decode m_C_two.2.1 89 = .ok (.aload_n 0, 1) := by decide +kernel
theorem d_C_two_90 : decode m_C_two.2.1 90 = .ok (.getfield 52, 3) := by decide +kernel
theorem d_C_two_93 : decode m_C_two.2.1 93 = .ok (.invokevirtual 181, 3) := by decide +kernel
theorem d_C_two_96 : decode m_C_two.2.1 96 = .ok (.aload_n 0, 1) := by decide +kernel
theorem d_C_two_97 : decode m_C_two.2.1 97 = .ok (.aload 6, 2) := by decide +kernel
theorem d_C_two_99 : decode m_C_two.2.1 99 = .ok (.aload 7, 2) := by decide +kernel
theorem d_C_two_101 : decode m_C_two.2.1 101 = .ok (.invokevirtual 185, 3) := by decide +kernel
theorem d_C_two_104 : decode m_C_two.2.1 104 = .ok (.istore 8, 2) := by decide +kernel
theorem d_C_two_106 : decode m_C_two.2.1 106 = .ok (.iload 5, 2) := by decide +kernel
theorem d_C_two_108 : decode m_C_two.2.1 108 = .ok (.lookupswitch 40 #[(0, 28), (1, 34)], 28) := by decide +kernel
theorem d_C_two_136 : decode m_C_two.2.1 136 = .ok (.aload 6, 2) := by decide +kernel
theorem d_C_two_138 : decode m_C_two.2.1 138 = .ok (.getfield 130, 3) := by decide +kernel
theorem d_C_two_141 : decode m_C_two.2.1 141 = .ok (.ireturn, 1) := by decide +kernel
theorem d_C_two_142 : decode m_C_two.2.1 142 = .ok (.aload 7, 2) := by decide +kernel
theorem d_C_two_144 : decode m_C_two.2.1 144 = .ok (.getfield 130, 3) := by decide +kernel
theorem d_C_two_147 : decode m_C_two.2.1 147 = .ok (.ireturn, 1) := by decide +kernel
theorem d_C_two_148 : decode m_C_two.2.1 148 = .ok (.iload 8, 2) := by decide +kernel
theorem d_C_two_150 : decode m_C_two.2.1 150 = .ok (.ireturn, 1) := by decide +kernel
set_option maxHeartbeats 4000000 in
set_option maxRecDepth 20000 in
theorem c_C_two (G : Gt) (x1 : Int32) (x2 : Int32) (x3 : Int32) (x4 : Int32) (x5 : Int32) (h : Hp) : Cn G m_C_two [.ref (ad G 0), .int x1, .int x2, .int x3, .int x4, .int x5] h κi (f_C_two x1 x2 x3 x4 x5 h) := by
  refine entryV (by decide) (Nat.le_of_ble_eq_true rfl) rfl ?_
  show V G m_C_two 0 [(0, .ref (ad G 0)), (1, .int x1), (2, .int x2), (3, .int x3), (4, .int x4), (5, .int x5)] [] h κi _
  unfold f_C_two
  refine v_aload_n 0 d_C_two_0 rfl rfl ?_
  refine v_iload_n 1 d_C_two_1 rfl rfl ?_
  refine v_iload_n 2 d_C_two_2 rfl rfl ?_
  refine v_callVi (As := [.int x1, .int x2]) (rest := []) (c_C_canBeTold G x1 x2 h) co_C_122 io_C_canBeTold o_0 ⟨by decide, by decide⟩ rfl rfl (Nat.le_of_ble_eq_true rfl) d_C_two_3 (fun r1 h1 _ => ?_)
  refine v_if_eq 35 d_C_two_6 (by decide) (fun c2 => ?_) (fun c2 => ?_)
  · refine v_bipush (-2) d_C_two_35 rfl ?_
    exact v_iret rfl d_C_two_37
  · refine v_aload_n 0 d_C_two_9 rfl rfl ?_
    refine v_iload_n 3 d_C_two_10 rfl rfl ?_
    refine v_iload 4 d_C_two_11 rfl ?_
    refine v_callVi (As := [.int x3, .int x4]) (rest := []) (c_C_canBeTold G x3 x4 h1) co_C_122 io_C_canBeTold o_0 ⟨by decide, by decide⟩ rfl rfl (Nat.le_of_ble_eq_true rfl) d_C_two_13 (fun r3 h3 _ => ?_)
    refine v_if_eq 35 d_C_two_16 (by decide) (fun c4 => ?_) (fun c4 => ?_)
    · refine v_bipush (-2) d_C_two_35 rfl ?_
      exact v_iret rfl d_C_two_37
    · refine v_iload_n 1 d_C_two_19 rfl rfl ?_
      refine v_iload_n 3 d_C_two_20 rfl rfl ?_
      refine v_icmp_eq 35 d_C_two_21 (by decide) (fun c5 => ?_) (fun c5 => ?_)
      · refine v_bipush (-2) d_C_two_35 rfl ?_
        exact v_iret rfl d_C_two_37
      · refine v_iload 5 d_C_two_24 rfl ?_
        refine v_if_lt 35 d_C_two_26 (by decide) (fun c6 => ?_) (fun c6 => ?_)
        · refine v_bipush (-2) d_C_two_35 rfl ?_
          exact v_iret rfl d_C_two_37
        · refine v_iload 5 d_C_two_29 rfl ?_
          refine v_iconst 2 d_C_two_31 rfl ?_
          refine v_icmp_le 38 d_C_two_32 (by decide) (fun c7 => ?_) (fun c7 => ?_)
          · refine v_aload_n 0 d_C_two_38 rfl rfl ?_
            refine v_iload_n 1 d_C_two_39 rfl rfl ?_
            refine v_callVi (As := [.int x1]) (rest := []) (c_C_isHidden G x1 h3) co_C_91 io_C_isHidden o_0 ⟨by decide, by decide⟩ rfl rfl (Nat.le_of_ble_eq_true rfl) d_C_two_40 (fun r8 h8 _ => ?_)
            refine v_if_ne 54 d_C_two_43 (by decide) (fun c9 => ?_) (fun c9 => ?_)
            · refine v_aload_n 0 d_C_two_46 rfl rfl ?_
              refine v_iload_n 3 d_C_two_47 rfl rfl ?_
              refine v_callVi (As := [.int x3]) (rest := []) (c_C_isHidden G x3 h8) co_C_91 io_C_isHidden o_0 ⟨by decide, by decide⟩ rfl rfl (Nat.le_of_ble_eq_true rfl) d_C_two_48 (fun r10 h10 _ => ?_)
              refine v_if_eq 57 d_C_two_51 (by decide) (fun c11 => ?_) (fun c11 => ?_)
              · refine v_aload_n 0 d_C_two_57 rfl rfl ?_
                refine v_getr 9 fl_C_28 o_0 rfl rfl d_C_two_58 ?_
                refine v_iconst 0 d_C_two_61 rfl ?_
                refine v_aald2 15 rfl ar_9 d_C_two_62 (fun b12 => ?_)
                refine v_astore [(6, .ref (ad G 15)), (0, .ref (ad G 0)), (1, .int x1), (2, .int x2), (3, .int x3), (4, .int x4), (5, .int x5)] d_C_two_63 (by decide) rfl ?_
                refine v_aload_n 1 d_C_two_65 rfl rfl ?_
                refine v_getr 9 fl_C_28 o_0 rfl rfl d_C_two_66 ?_
                refine v_iconst 1 d_C_two_69 rfl ?_
                refine v_aald2 17 rfl ar_9 d_C_two_70 (fun b13 => ?_)
                refine v_astore [(7, .ref (ad G 17)), (6, .ref (ad G 15)), (0, .ref (ad G 0)), (1, .int x1), (2, .int x2), (3, .int x3), (4, .int x4), (5, .int x5)] d_C_two_71 (by decide) rfl ?_
                refine v_aload 1 d_C_two_73 rfl ?_
                refine v_iload_n 3 d_C_two_75 rfl rfl ?_
                refine v_iload_n 4 d_C_two_76 rfl rfl ?_
                refine v_aload_n 2 d_C_two_77 rfl rfl ?_
                refine v_geti fl_C_52 o_0 rfl d_C_two_78 ?_
                refine v_callVv (As := [.int x1, .int x2, .int (h10 0 8)]) (rest := []) (c_Sp_startAt G 15 x1 x2 (h10 0 8) o_15 h10) co_C_181 io_Sp_startAt o_15 ⟨by decide, by decide⟩ rfl rfl (Nat.le_of_ble_eq_true rfl) d_C_two_81 (fun _ h14 _ => ?_)
                refine v_aload 0 d_C_two_84 rfl ?_
                refine v_iload_n 5 d_C_two_86 rfl rfl ?_
                refine v_iload 6 d_C_two_87 rfl ?_
                refine v_aload_n 2 d_C_two_89 rfl rfl ?_
                refine v_geti fl_C_52 o_0 rfl d_C_two_90 ?_
                refine v_callVv (As := [.int x3, .int x4, .int (h14 0 8)]) (rest := []) (c_Sp_startAt G 17 x3 x4 (h14 0 8) o_17 h14) co_C_181 io_Sp_startAt o_17 ⟨by decide, by decide⟩ rfl rfl (Nat.le_of_ble_eq_true rfl) d_C_two_93 (fun _ h15 _ => ?_)
                refine v_aload_n 2 d_C_two_96 rfl rfl ?_
                refine v_aload 1 d_C_two_97 rfl ?_
                refine v_aload 0 d_C_two_99 rfl ?_
                refine v_callVi (As := [.ref (ad G 15), .ref (ad G 17)]) (rest := []) (c_C_stepInTurn G 15 17 o_15 o_17 h15) co_C_185 io_C_stepInTurn o_0 ⟨by decide, by decide⟩ rfl rfl (Nat.le_of_ble_eq_true rfl) d_C_two_101 (fun r16 h16 _ => ?_)
                refine v_istore [(8, .int r16), (7, .ref (ad G 17)), (6, .ref (ad G 15)), (0, .ref (ad G 0)), (1, .int x1), (2, .int x2), (3, .int x3), (4, .int x4), (5, .int x5)] d_C_two_104 (by decide) rfl ?_
                refine v_iload 8 d_C_two_106 rfl ?_
                refine v_ite (fun c17 => ?_) (fun c17 => ?_)
                · refine v_lookup (off := 28) 136 d_C_two_108 rfl (by rw [c17]; rfl) (by decide) ?_
                  refine v_aload 2 d_C_two_136 rfl ?_
                  refine v_geti fl_C_130 o_15 rfl d_C_two_138 ?_
                  exact v_iret rfl d_C_two_141
                · refine v_ite (fun c18 => ?_) (fun c18 => ?_)
                  · refine v_lookup (off := 34) 142 d_C_two_108 rfl (by rw [c18]; rfl) (by decide) ?_
                    refine v_aload 1 d_C_two_142 rfl ?_
                    refine v_geti fl_C_130 o_17 rfl d_C_two_144 ?_
                    exact v_iret rfl d_C_two_147
                  · refine v_lookup (off := 40) 148 d_C_two_108 rfl (by show Op.lookupswitch.offset [(0, 28), (1, 34)] 40 _ = _; rw [lv_osw (a := 0) c17 rfl, lv_osw (a := 1) c18 rfl]; rfl) (by decide) ?_
                    refine v_iload 0 d_C_two_148 rfl ?_
                    exact v_iret rfl d_C_two_150
              · refine v_bipush (-3) d_C_two_54 rfl ?_
                exact v_iret rfl d_C_two_56
            · refine v_bipush (-3) d_C_two_54 rfl ?_
              exact v_iret rfl d_C_two_56
          · refine v_bipush (-2) d_C_two_35 rfl ?_
            exact v_iret rfl d_C_two_37
theorem d_No_add_0 : decode m_No_add.2.1 0 = .ok (.aload_n 0, 1) := by decide +kernel
theorem d_No_add_1 : decode m_No_add.2.1 1 = .ok (.getfield 21, 3) := by decide +kernel
theorem d_No_add_4 : decode m_No_add.2.1 4 = .ok (.bipush 8, 2) := by decide +kernel
theorem d_No_add_6 : decode m_No_add.2.1 6 = .ok (.if_icmp .ge 43, 3) := by decide +kernel
theorem d_No_add_9 : decode m_No_add.2.1 9 = .ok (.aload_n 0, 1) := by decide +kernel
theorem d_No_add_10 : decode m_No_add.2.1 10 = .ok (.getfield 9, 3) := by decide +kernel
theorem d_No_add_13 : decode m_No_add.2.1 13 = .ok (.aload_n 0, 1) := by decide +kernel
theorem d_No_add_14 : decode m_No_add.2.1 14 = .ok (.getfield 21, 3) := by decide +kernel
theorem d_No_add_17 : decode m_No_add.2.1 17 = .ok (.iload_n 1, 1) := by decide +kernel
theorem d_No_add_18 : decode m_No_add.2.1 18 = .ok (.iastore, 1) := by decide +kernel
theorem d_No_add_19 : decode m_No_add.2.1 19 = .ok (.aload_n 0, 1) := by decide +kernel
theorem d_No_add_20 : decode m_No_add.2.1 20 = .ok (.getfield 15, 3) := by decide +kernel
theorem d_No_add_23 : decode m_No_add.2.1 23 = .ok (.aload_n 0, 1) := by decide +kernel
theorem d_No_add_24 : decode m_No_add.2.1 24 = .ok (.getfield 21, 3) := by decide +kernel
theorem d_No_add_27 : decode m_No_add.2.1 27 = .ok (.iload_n 2, 1) := by decide +kernel
theorem d_No_add_28 : decode m_No_add.2.1 28 = .ok (.iastore, 1) := by decide +kernel
theorem d_No_add_29 : decode m_No_add.2.1 29 = .ok (.aload_n 0, 1) := by decide +kernel
theorem d_No_add_30 : decode m_No_add.2.1 30 = .ok (.getfield 18, 3) := by decide +kernel
theorem d_No_add_33 : decode m_No_add.2.1 33 = .ok (.aload_n 0, 1) := by decide +kernel
theorem d_No_add_34 : decode m_No_add.2.1 34 = .ok (.getfield 21, 3) := by decide +kernel
theorem d_No_add_37 : decode m_No_add.2.1 37 = .ok (.iload_n 3, 1) := by decide +kernel
theorem d_No_add_38 : decode m_No_add.2.1 38 = .ok (.iastore, 1) := by decide +kernel
theorem d_No_add_39 : decode m_No_add.2.1 39 = .ok (.aload_n 0, 1) := by decide +kernel
theorem d_No_add_40 : decode m_No_add.2.1 40 = .ok (.dup, 1) := by decide +kernel
theorem d_No_add_41 : decode m_No_add.2.1 41 = .ok (.getfield 21, 3) := by decide +kernel
theorem d_No_add_44 : decode m_No_add.2.1 44 = .ok (.iconst 1, 1) := by decide +kernel
theorem d_No_add_45 : decode m_No_add.2.1 45 = .ok (.iadd, 1) := by decide +kernel
theorem d_No_add_46 : decode m_No_add.2.1 46 = .ok (.putfield 21, 3) := by decide +kernel
theorem d_No_add_49 : decode m_No_add.2.1 49 = .ok (.return_, 1) := by decide +kernel
set_option maxHeartbeats 4000000 in
set_option maxRecDepth 20000 in
theorem c_No_add (G : Gt) (a0 : Nat) (x1 : Int32) (x2 : Int32) (x3 : Int32) (ha0 : isO 1 a0) (h : Hp) : Cn G m_No_add [.ref (ad G a0), .int x1, .int x2, .int x3] h κv (f_No_add a0 x1 x2 x3 h) := by
  refine entryV (by decide) (Nat.le_of_ble_eq_true rfl) rfl ?_
  show V G m_No_add 0 [(0, .ref (ad G a0)), (1, .int x1), (2, .int x2), (3, .int x3)] [] h κv _
  unfold f_No_add
  refine v_aload_n 0 d_No_add_0 rfl rfl ?_
  refine v_geti fl_No_21 ha0 rfl d_No_add_1 ?_
  refine v_bipush 8 d_No_add_4 rfl ?_
  refine v_icmp_ge 49 d_No_add_6 (by decide) (fun c1 => ?_) (fun c1 => ?_)
  · exact v_vret rfl d_No_add_49
  · refine v_aload_n 0 d_No_add_9 rfl rfl ?_
    refine v_getr (a0 + 1) fl_No_9 ha0 rfl rfl d_No_add_10 ?_
    refine v_aload_n 0 d_No_add_13 rfl rfl ?_
    refine v_geti fl_No_21 ha0 rfl d_No_add_14 ?_
    refine v_iload_n 1 d_No_add_17 rfl rfl ?_
    refine v_iast ((noA ha0).1) d_No_add_18 ?_
    refine v_aload_n 0 d_No_add_19 rfl rfl ?_
    refine v_getr (a0 + 2) fl_No_15 ha0 rfl rfl d_No_add_20 ?_
    refine v_aload_n 0 d_No_add_23 rfl rfl ?_
    refine v_geti fl_No_21 ha0 rfl d_No_add_24 ?_
    refine v_iload_n 2 d_No_add_27 rfl rfl ?_
    refine v_iast ((noA ha0).2.1) d_No_add_28 ?_
    refine v_aload_n 0 d_No_add_29 rfl rfl ?_
    refine v_getr (a0 + 3) fl_No_18 ha0 rfl rfl d_No_add_30 ?_
    refine v_aload_n 0 d_No_add_33 rfl rfl ?_
    refine v_geti fl_No_21 ha0 rfl d_No_add_34 ?_
    refine v_iload_n 3 d_No_add_37 rfl rfl ?_
    refine v_iast ((noA ha0).2.2) d_No_add_38 ?_
    refine v_aload_n 0 d_No_add_39 rfl rfl ?_
    refine v_dup d_No_add_40 rfl ?_
    refine v_geti fl_No_21 ha0 rfl d_No_add_41 ?_
    refine v_iconst 1 d_No_add_44 rfl ?_
    refine v_iadd d_No_add_45 ?_
    refine v_puti fl_No_21 ft_1_3 rfl rfl ha0 rfl d_No_add_46 ?_
    exact v_vret rfl d_No_add_49
theorem d_C_seen_0 : decode m_C_seen.2.1 0 = .ok (.iload_n 1, 1) := by decide +kernel
theorem d_C_seen_1 : decode m_C_seen.2.1 1 = .ok (.ifCond .lt 30, 3) := by decide +kernel
theorem d_C_seen_4 : decode m_C_seen.2.1 4 = .ok (.iload_n 1, 1) := by decide +kernel
theorem d_C_seen_5 : decode m_C_seen.2.1 5 = .ok (.bipush 10, 2) := by decide +kernel
theorem d_C_seen_7 : decode m_C_seen.2.1 7 = .ok (.if_icmp .ge 24, 3) := by decide +kernel
theorem d_C_seen_10 : decode m_C_seen.2.1 10 = .ok (.iload_n 2, 1) := by decide +kernel
theorem d_C_seen_11 : decode m_C_seen.2.1 11 = .ok (.iconst 1, 1) := by decide +kernel
theorem d_C_seen_12 : decode m_C_seen.2.1 12 = .ok (.if_icmp .lt 19, 3) := by decide +kernel
theorem d_C_seen_15 : decode m_C_seen.2.1 15 = .ok (.iload_n 2, 1) := by decide +kernel
theorem d_C_seen_16 : decode m_C_seen.2.1 16 = .ok (.bipush 10, 2) := by decide +kernel
theorem d_C_seen_18 : decode m_C_seen.2.1 18 = .ok (.if_icmp .ge 13, 3) := by decide +kernel
theorem d_C_seen_21 : decode m_C_seen.2.1 21 = .ok (.iload_n 3, 1) := by decide +kernel
theorem d_C_seen_22 : decode m_C_seen.2.1 22 = .ok (.ifCond .lt 9, 3) := by decide +kernel
theorem d_C_seen_25 : decode m_C_seen.2.1 25 = .ok (.iload_n 3, 1) := by decide +kernel
theorem d_C_seen_26 : decode m_C_seen.2.1 26 = .ok (.bipush 10, 2) := by decide +kernel
theorem d_C_seen_28 : decode m_C_seen.2.1 28 = .ok (.if_icmp .lt 6, 3) := by decide +kernel
theorem d_C_seen_31 : decode m_C_seen.2.1 31 = .ok (.bipush (-2), 2) := by decide +kernel
theorem d_C_seen_33 : decode m_C_seen.2.1 33 = .ok (.ireturn, 1) := by decide +kernel
theorem d_C_seen_34 : decode m_C_seen.2.1 34 = .ok (.aload_n 0, 1) := by decide +kernel
theorem d_C_seen_35 : decode m_C_seen.2.1 35 = .ok (.getfield 35, 3) := by decide +kernel
theorem d_C_seen_38 : decode m_C_seen.2.1 38 = .ok (.getfield 189, 3) := by decide +kernel
theorem d_C_seen_41 : decode m_C_seen.2.1 41 = .ok (.bipush 8, 2) := by decide +kernel
theorem d_C_seen_43 : decode m_C_seen.2.1 43 = .ok (.if_icmp .lt 6, 3) := by decide +kernel
theorem d_C_seen_46 : decode m_C_seen.2.1 46 = .ok (.bipush (-4), 2) := by decide +kernel
theorem d_C_seen_48 : decode m_C_seen.2.1 48 = .ok (.ireturn, 1) := by decide +kernel
theorem d_C_seen_49 : decode m_C_seen.2.1 49 = .ok (.aload_n 0, 1) := by decide +kernel
theorem d_C_seen_50 : decode m_C_seen.2.1 50 = .ok (.getfield 35, 3) := by decide +kernel
theorem d_C_seen_53 : decode m_C_seen.2.1 53 = .ok (.iload_n 1, 1) := by decide +kernel
theorem d_C_seen_54 : decode m_C_seen.2.1 54 = .ok (.iload_n 2, 1) := by decide +kernel
theorem d_C_seen_55 : decode m_C_seen.2.1 55 = .ok (.iload_n 3, 1) := by decide +kernel
theorem d_C_seen_56 : decode m_C_seen.2.1 56 = .ok (.invokevirtual 190, 3) := by decide +kernel
theorem d_C_seen_59 : decode m_C_seen.2.1 59 = .ok (.aload_n 0, 1) := by decide +kernel
theorem d_C_seen_60 : decode m_C_seen.2.1 60 = .ok (.getfield 35, 3) := by decide +kernel
theorem d_C_seen_63 : decode m_C_seen.2.1 63 = .ok (.getfield 189, 3) := by decide +kernel
theorem d_C_seen_66 : decode m_C_seen.2.1 66 = .ok (.ireturn, 1) := by decide +kernel
set_option maxHeartbeats 4000000 in
set_option maxRecDepth 20000 in
theorem c_C_seen (G : Gt) (x1 : Int32) (x2 : Int32) (x3 : Int32) (h : Hp) : Cn G m_C_seen [.ref (ad G 0), .int x1, .int x2, .int x3] h κi (f_C_seen x1 x2 x3 h) := by
  refine entryV (by decide) (Nat.le_of_ble_eq_true rfl) rfl ?_
  show V G m_C_seen 0 [(0, .ref (ad G 0)), (1, .int x1), (2, .int x2), (3, .int x3)] [] h κi _
  unfold f_C_seen
  refine v_iload_n 1 d_C_seen_0 rfl rfl ?_
  refine v_if_lt 31 d_C_seen_1 (by decide) (fun c1 => ?_) (fun c1 => ?_)
  · refine v_bipush (-2) d_C_seen_31 rfl ?_
    exact v_iret rfl d_C_seen_33
  · refine v_iload_n 1 d_C_seen_4 rfl rfl ?_
    refine v_bipush 10 d_C_seen_5 rfl ?_
    refine v_icmp_ge 31 d_C_seen_7 (by decide) (fun c2 => ?_) (fun c2 => ?_)
    · refine v_bipush (-2) d_C_seen_31 rfl ?_
      exact v_iret rfl d_C_seen_33
    · refine v_iload_n 2 d_C_seen_10 rfl rfl ?_
      refine v_iconst 1 d_C_seen_11 rfl ?_
      refine v_icmp_lt 31 d_C_seen_12 (by decide) (fun c3 => ?_) (fun c3 => ?_)
      · refine v_bipush (-2) d_C_seen_31 rfl ?_
        exact v_iret rfl d_C_seen_33
      · refine v_iload_n 2 d_C_seen_15 rfl rfl ?_
        refine v_bipush 10 d_C_seen_16 rfl ?_
        refine v_icmp_ge 31 d_C_seen_18 (by decide) (fun c4 => ?_) (fun c4 => ?_)
        · refine v_bipush (-2) d_C_seen_31 rfl ?_
          exact v_iret rfl d_C_seen_33
        · refine v_iload_n 3 d_C_seen_21 rfl rfl ?_
          refine v_if_lt 31 d_C_seen_22 (by decide) (fun c5 => ?_) (fun c5 => ?_)
          · refine v_bipush (-2) d_C_seen_31 rfl ?_
            exact v_iret rfl d_C_seen_33
          · refine v_iload_n 3 d_C_seen_25 rfl rfl ?_
            refine v_bipush 10 d_C_seen_26 rfl ?_
            refine v_icmp_lt 34 d_C_seen_28 (by decide) (fun c6 => ?_) (fun c6 => ?_)
            · refine v_aload_n 0 d_C_seen_34 rfl rfl ?_
              refine v_getr 10 fl_C_35 o_0 rfl rfl d_C_seen_35 ?_
              refine v_geti fl_C_189 o_10 rfl d_C_seen_38 ?_
              refine v_bipush 8 d_C_seen_41 rfl ?_
              refine v_icmp_lt 49 d_C_seen_43 (by decide) (fun c7 => ?_) (fun c7 => ?_)
              · refine v_aload_n 0 d_C_seen_49 rfl rfl ?_
                refine v_getr 10 fl_C_35 o_0 rfl rfl d_C_seen_50 ?_
                refine v_iload_n 1 d_C_seen_53 rfl rfl ?_
                refine v_iload_n 2 d_C_seen_54 rfl rfl ?_
                refine v_iload_n 3 d_C_seen_55 rfl rfl ?_
                refine v_callVv (As := [.int x1, .int x2, .int x3]) (rest := []) (c_No_add G 10 x1 x2 x3 o_10 h) co_C_190 io_No_add o_10 ⟨by decide, by decide⟩ rfl rfl (Nat.le_of_ble_eq_true rfl) d_C_seen_56 (fun _ h8 _ => ?_)
                refine v_aload_n 0 d_C_seen_59 rfl rfl ?_
                refine v_getr 10 fl_C_35 o_0 rfl rfl d_C_seen_60 ?_
                refine v_geti fl_C_189 o_10 rfl d_C_seen_63 ?_
                exact v_iret rfl d_C_seen_66
              · refine v_bipush (-4) d_C_seen_46 rfl ?_
                exact v_iret rfl d_C_seen_48
            · refine v_bipush (-2) d_C_seen_31 rfl ?_
              exact v_iret rfl d_C_seen_33
theorem d_C_forget_0 : decode m_C_forget.2.1 0 = .ok (.aload_n 0, 1) := by decide +kernel
theorem d_C_forget_1 : decode m_C_forget.2.1 1 = .ok (.getfield 35, 3) := by decide +kernel
theorem d_C_forget_4 : decode m_C_forget.2.1 4 = .ok (.getfield 189, 3) := by decide +kernel
theorem d_C_forget_7 : decode m_C_forget.2.1 7 = .ok (.istore_n 1, 1) := by decide +kernel
theorem d_C_forget_8 : decode m_C_forget.2.1 8 = .ok (.aload_n 0, 1) := by decide +kernel
theorem d_C_forget_9 : decode m_C_forget.2.1 9 = .ok (.getfield 35, 3) := by decide +kernel
theorem d_C_forget_12 : decode m_C_forget.2.1 12 = .ok (.iconst 0, 1) := by decide +kernel
theorem d_C_forget_13 : decode m_C_forget.2.1 13 = .ok (.putfield 189, 3) := by decide +kernel
theorem d_C_forget_16 : decode m_C_forget.2.1 16 = .ok (.iload_n 1, 1) := by decide +kernel
theorem d_C_forget_17 : decode m_C_forget.2.1 17 = .ok (.ireturn, 1) := by decide +kernel
set_option maxHeartbeats 4000000 in
set_option maxRecDepth 20000 in
theorem c_C_forget (G : Gt) (h : Hp) : Cn G m_C_forget [.ref (ad G 0)] h κi (f_C_forget h) := by
  refine entryV (by decide) (Nat.le_of_ble_eq_true rfl) rfl ?_
  show V G m_C_forget 0 [(0, .ref (ad G 0))] [] h κi _
  unfold f_C_forget
  refine v_aload_n 0 d_C_forget_0 rfl rfl ?_
  refine v_getr 10 fl_C_35 o_0 rfl rfl d_C_forget_1 ?_
  refine v_geti fl_C_189 o_10 rfl d_C_forget_4 ?_
  refine v_istore_n [(1, .int (h 10 3)), (0, .ref (ad G 0))] d_C_forget_7 rfl (by decide) rfl ?_
  refine v_aload_n 1 d_C_forget_8 rfl rfl ?_
  refine v_getr 10 fl_C_35 o_0 rfl rfl d_C_forget_9 ?_
  refine v_iconst 0 d_C_forget_12 rfl ?_
  refine v_puti fl_C_189 ft_1_3 rfl rfl o_10 rfl d_C_forget_13 ?_
  refine v_iload_n 0 d_C_forget_16 rfl rfl ?_
  exact v_iret rfl d_C_forget_17
theorem d_C_comesOut_0 : decode m_C_comesOut.2.1 0 = .ok (.iconst 0, 1) := by decide +kernel
theorem d_C_comesOut_1 : decode m_C_comesOut.2.1 1 = .ok (.istore_n 2, 1) := by decide +kernel
theorem d_C_comesOut_2 : decode m_C_comesOut.2.1 2 = .ok (.iload_n 2, 1) := by decide +kernel
theorem d_C_comesOut_3 : decode m_C_comesOut.2.1 3 = .ok (.aload_n 0, 1) := by decide +kernel
theorem d_C_comesOut_4 : decode m_C_comesOut.2.1 4 = .ok (.getfield 35, 3) := by decide +kernel
theorem d_C_comesOut_7 : decode m_C_comesOut.2.1 7 = .ok (.getfield 189, 3) := by decide +kernel
theorem d_C_comesOut_10 : decode m_C_comesOut.2.1 10 = .ok (.if_icmp .ge 105, 3) := by decide +kernel
theorem d_C_comesOut_13 : decode m_C_comesOut.2.1 13 = .ok (.aload_n 0, 1) := by decide +kernel
theorem d_C_comesOut_14 : decode m_C_comesOut.2.1 14 = .ok (.getfield 35, 3) := by decide +kernel
theorem d_C_comesOut_17 : decode m_C_comesOut.2.1 17 = .ok (.getfield 308, 3) := by decide +kernel
theorem d_C_comesOut_20 : decode m_C_comesOut.2.1 20 = .ok (.iload_n 2, 1) := by decide +kernel
theorem d_C_comesOut_21 : decode m_C_comesOut.2.1 21 = .ok (.iaload, 1) := by decide +kernel
theorem d_C_comesOut_22 : decode m_C_comesOut.2.1 22 = .ok (.istore_n 3, 1) := by decide +kernel
theorem d_C_comesOut_23 : decode m_C_comesOut.2.1 23 = .ok (.aload_n 0, 1) := by decide +kernel
theorem d_C_comesOut_24 : decode m_C_comesOut.2.1 24 = .ok (.getfield 19, 3) := by decide +kernel
theorem d_C_comesOut_27 : decode m_C_comesOut.2.1 27 = .ok (.iload_n 3, 1) := by decide +kernel
theorem d_C_comesOut_28 : decode m_C_comesOut.2.1 28 = .ok (.invokevirtual 80, 3) := by decide +kernel
theorem d_C_comesOut_31 : decode m_C_comesOut.2.1 31 = .ok (.ifCond .eq 11, 3) := by decide +kernel
theorem d_C_comesOut_34 : decode m_C_comesOut.2.1 34 = .ok (.aload_n 0, 1) := by decide +kernel
theorem d_C_comesOut_35 : decode m_C_comesOut.2.1 35 = .ok (.iload_n 3, 1) := by decide +kernel
theorem d_C_comesOut_36 : decode m_C_comesOut.2.1 36 = .ok (.invokevirtual 91, 3) := by decide +kernel
theorem d_C_comesOut_39 : decode m_C_comesOut.2.1 39 = .ok (.ifCond .eq 5, 3) := by decide +kernel
theorem d_C_comesOut_42 : decode m_C_comesOut.2.1 42 = .ok (.iconst 0, 1) := by decide +kernel
theorem d_C_comesOut_43 : decode m_C_comesOut.2.1 43 = .ok (.ireturn, 1) := by decide +kernel
theorem d_C_comesOut_44 : decode m_C_comesOut.2.1 44 = .ok (.aload_n 0, 1) := by decide +kernel
theorem d_C_comesOut_45 : decode m_C_comesOut.2.1 45 = .ok (.aload_n 0, 1) := by decide +kernel
theorem d_C_comesOut_46 : decode m_C_comesOut.2.1 46 = .ok (.getfield 28, 3) := by decide +kernel
theorem d_C_comesOut_49 : decode m_C_comesOut.2.1 49 = .ok (.iconst 0, 1) := by decide +kernel
theorem d_C_comesOut_50 : decode m_C_comesOut.2.1 50 = .ok (.aaload, 1) := by decide +kernel
theorem d_C_comesOut_51 : decode m_C_comesOut.2.1 51 = .ok (.aload_n 0, 1) := by decide +kernel
theorem d_C_comesOut_52 : decode m_C_comesOut.2.1 52 = .ok (.getfield 19, 3) := by decide +kernel
theorem d_C_comesOut_55 : decode m_C_comesOut.2.1 55 = .ok (.iload_n 3, 1) := by decide +kernel
theorem d_C_comesOut_56 : decode m_C_comesOut.2.1 56 = .ok (.iload_n 1, 1) := by decide +kernel
theorem d_C_comesOut_57 : decode m_C_comesOut.2.1 57 = .ok (.aload_n 0, 1) := by decide +kernel
theorem d_C_comesOut_58 : decode m_C_comesOut.2.1 58 = .ok (.getfield 49, 3) := by decide +kernel
theorem d_C_comesOut_61 : decode m_C_comesOut.2.1 61 = .ok (.invokevirtual 126, 3) := by decide +kernel
theorem d_C_comesOut_64 : decode m_C_comesOut.2.1 64 = .ok (.astore 4, 2) := by decide +kernel
theorem d_C_comesOut_66 : decode m_C_comesOut.2.1 66 = .ok (.aload_n 0, 1) := by decide +kernel
theorem d_C_comesOut_67 : decode m_C_comesOut.2.1 67 = .ok (.getfield 35, 3) := by decide +kernel
theorem d_C_comesOut_70 : decode m_C_comesOut.2.1 70 = .ok (.getfield 311, 3) := by decide +kernel
theorem d_C_comesOut_73 : decode m_C_comesOut.2.1 73 = .ok (.iload_n 2, 1) := by decide +kernel
theorem d_C_comesOut_74 : decode m_C_comesOut.2.1 74 = .ok (.iaload, 1) := by decide +kernel
theorem d_C_comesOut_75 : decode m_C_comesOut.2.1 75 = .ok (.istore 5, 2) := by decide +kernel
theorem d_C_comesOut_77 : decode m_C_comesOut.2.1 77 = .ok (.iload 5, 2) := by decide +kernel
theorem d_C_comesOut_79 : decode m_C_comesOut.2.1 79 = .ok (.aload 4, 2) := by decide +kernel
theorem d_C_comesOut_81 : decode m_C_comesOut.2.1 81 = .ok (.getfield 130, 3) := by decide +kernel
theorem d_C_comesOut_84 : decode m_C_comesOut.2.1 84 = .ok (.if_icmp .ge 23, 3) := by decide +kernel
theorem d_C_comesOut_87 : decode m_C_comesOut.2.1 87 = .ok (.aload 4, 2) := by decide +kernel
theorem d_C_comesOut_89 : decode m_C_comesOut.2.1 89 = .ok (.getfield 131, 3) := by decide +kernel
theorem d_C_comesOut_92 : decode m_C_comesOut.2.1 92 = .ok (.iload 5, 2) := by decide +kernel
theorem d_C_comesOut_94 : decode m_C_comesOut.2.1 94 = .ok (.iaload, 1) := by decide +kernel
theorem d_C_comesOut_95 : decode m_C_comesOut.2.1 95 = .ok (.aload_n 0, 1) := by decide +kernel
theorem d_C_comesOut_96 : decode m_C_comesOut.2.1 96 = .ok (.getfield 35, 3) := by decide +kernel
theorem d_C_comesOut_99 : decode m_C_comesOut.2.1 99 = .ok (.getfield 314, 3) := by decide +kernel
theorem d_C_comesOut_102 : decode m_C_comesOut.2.1 102 = .ok (.iload_n 2, 1) := by decide +kernel
theorem d_C_comesOut_103 : decode m_C_comesOut.2.1 103 = .ok (.iaload, 1) := by decide +kernel
theorem d_C_comesOut_104 : decode m_C_comesOut.2.1 104 = .ok (.if_icmp .eq 5, 3) := by decide +kernel
theorem d_C_comesOut_107 : decode m_C_comesOut.2.1 107 = .ok (.iconst 0, 1) := by decide +kernel
theorem d_C_comesOut_108 : decode m_C_comesOut.2.1 108 = .ok (.ireturn, 1) := by decide +kernel
theorem d_C_comesOut_109 : decode m_C_comesOut.2.1 109 = .ok (.iinc 2 1, 3) := by decide +kernel
theorem d_C_comesOut_112 : decode m_C_comesOut.2.1 112 = .ok (.goto (-110), 3) := by decide +kernel
theorem d_C_comesOut_115 : decode m_C_comesOut.2.1 115 = .ok (.iconst 1, 1) := by decide +kernel
theorem d_C_comesOut_116 : decode m_C_comesOut.2.1 116 = .ok (.ireturn, 1) := by decide +kernel
set_option maxHeartbeats 4000000 in
set_option maxRecDepth 20000 in
theorem Vl_C_comesOut_2 (G : Gt) : ∀ (n : Nat) (x1 : Int32) (x2 : Int32) (h : Hp), V G m_C_comesOut 2 [(0, .ref (ad G 0)), (1, .int x1), (2, .int x2)] [] h κi (l_C_comesOut_2 n x1 x2 h) := by
  intro n
  induction n with
  | zero => intros; exact v_none
  | succ n ih =>
    intro x1 x2 h
    rw [l_C_comesOut_2]
    refine v_iload_n 2 d_C_comesOut_2 rfl rfl ?_
    refine v_aload_n 0 d_C_comesOut_3 rfl rfl ?_
    refine v_getr 10 fl_C_35 o_0 rfl rfl d_C_comesOut_4 ?_
    refine v_geti fl_C_189 o_10 rfl d_C_comesOut_7 ?_
    refine v_icmp_ge 115 d_C_comesOut_10 (by decide) (fun c1 => ?_) (fun c1 => ?_)
    · refine v_iconst 1 d_C_comesOut_115 rfl ?_
      exact v_zretL rfl rfl d_C_comesOut_116
    · refine v_aload_n 0 d_C_comesOut_13 rfl rfl ?_
      refine v_getr 10 fl_C_35 o_0 rfl rfl d_C_comesOut_14 ?_
      refine v_getr 11 fl_C_308 o_10 rfl rfl d_C_comesOut_17 ?_
      refine v_iload_n 2 d_C_comesOut_20 rfl rfl ?_
      refine v_iald ar_11 d_C_comesOut_21 ?_
      refine v_istore_n [(3, .int (h 11 (ix x2))), (0, .ref (ad G 0)), (1, .int x1), (2, .int x2)] d_C_comesOut_22 rfl (by decide) rfl ?_
      refine v_aload_n 1 d_C_comesOut_23 rfl rfl ?_
      refine v_getr 3 fl_C_19 o_0 rfl rfl d_C_comesOut_24 ?_
      refine v_iload_n 0 d_C_comesOut_27 rfl rfl ?_
      refine v_callVi (As := [.int (h 11 (ix x2))]) (rest := []) (c_Fr_has G 3 (h 11 (ix x2)) o_3 h) co_C_80 io_Fr_has o_3 ⟨by decide, by decide⟩ rfl rfl (Nat.le_of_ble_eq_true rfl) d_C_comesOut_28 (fun r2 h2 _ => ?_)
      refine v_if_eq 42 d_C_comesOut_31 (by decide) (fun c3 => ?_) (fun c3 => ?_)
      · refine v_iconst 0 d_C_comesOut_42 rfl ?_
        exact v_zretL rfl rfl d_C_comesOut_43
      · refine v_aload_n 1 d_C_comesOut_34 rfl rfl ?_
        refine v_iload_n 0 d_C_comesOut_35 rfl rfl ?_
        refine v_callVi (As := [.int (h 11 (ix x2))]) (rest := []) (c_C_isHidden G (h 11 (ix x2)) h2) co_C_91 io_C_isHidden o_0 ⟨by decide, by decide⟩ rfl rfl (Nat.le_of_ble_eq_true rfl) d_C_comesOut_36 (fun r4 h4 _ => ?_)
        refine v_if_eq 44 d_C_comesOut_39 (by decide) (fun c5 => ?_) (fun c5 => ?_)
        · refine v_aload_n 1 d_C_comesOut_44 rfl rfl ?_
          refine v_aload_n 1 d_C_comesOut_45 rfl rfl ?_
          refine v_getr 9 fl_C_28 o_0 rfl rfl d_C_comesOut_46 ?_
          refine v_iconst 0 d_C_comesOut_49 rfl ?_
          refine v_aald2 15 rfl ar_9 d_C_comesOut_50 (fun b6 => ?_)
          refine v_aload_n 1 d_C_comesOut_51 rfl rfl ?_
          refine v_getr 3 fl_C_19 o_0 rfl rfl d_C_comesOut_52 ?_
          refine v_iload_n 0 d_C_comesOut_55 rfl rfl ?_
          refine v_iload_n 2 d_C_comesOut_56 rfl rfl ?_
          refine v_aload_n 1 d_C_comesOut_57 rfl rfl ?_
          refine v_geti fl_C_49 o_0 rfl d_C_comesOut_58 ?_
          refine v_callVr (As := [.ref (ad G 15), .ref (ad G 3), .int (h 11 (ix x2)), .int x1, .int (h4 0 7)]) (rest := []) (c_C_lay G 15 3 (h 11 (ix x2)) x1 (h4 0 7) o_15 o_3 h4) co_C_126 io_C_lay o_0 ⟨by decide, by decide⟩ rfl rfl (Nat.le_of_ble_eq_true rfl) d_C_comesOut_61 (fun r7 h7 z7 => ?_)
          have e7 := lay_isO o_15 z7
          refine v_astore [(4, .ref (ad G r7)), (3, .int (h 11 (ix x2))), (0, .ref (ad G 0)), (1, .int x1), (2, .int x2)] d_C_comesOut_64 (by decide) rfl ?_
          refine v_aload_n 2 d_C_comesOut_66 rfl rfl ?_
          refine v_getr 10 fl_C_35 o_0 rfl rfl d_C_comesOut_67 ?_
          refine v_getr 12 fl_C_311 o_10 rfl rfl d_C_comesOut_70 ?_
          refine v_iload_n 4 d_C_comesOut_73 rfl rfl ?_
          refine v_iald ar_12 d_C_comesOut_74 ?_
          refine v_istore [(5, .int (h7 12 (ix x2))), (4, .ref (ad G r7)), (3, .int (h 11 (ix x2))), (0, .ref (ad G 0)), (1, .int x1), (2, .int x2)] d_C_comesOut_75 (by decide) rfl ?_
          refine v_iload 0 d_C_comesOut_77 rfl ?_
          refine v_aload 1 d_C_comesOut_79 rfl ?_
          refine v_geti fl_C_130 e7 rfl d_C_comesOut_81 ?_
          refine v_icmp_ge 107 d_C_comesOut_84 (by decide) (fun c8 => ?_) (fun c8 => ?_)
          · refine v_iconst 0 d_C_comesOut_107 rfl ?_
            exact v_zretL rfl rfl d_C_comesOut_108
          · refine v_aload 1 d_C_comesOut_87 rfl ?_
            refine v_getr (r7 + 1) fl_C_131 e7 rfl rfl d_C_comesOut_89 ?_
            refine v_iload 0 d_C_comesOut_92 rfl ?_
            refine v_iald (spA e7) d_C_comesOut_94 ?_
            refine v_aload_n 3 d_C_comesOut_95 rfl rfl ?_
            refine v_getr 10 fl_C_35 o_0 rfl rfl d_C_comesOut_96 ?_
            refine v_getr 13 fl_C_314 o_10 rfl rfl d_C_comesOut_99 ?_
            refine v_iload_n 5 d_C_comesOut_102 rfl rfl ?_
            refine v_iald ar_13 d_C_comesOut_103 ?_
            refine v_icmp_eq 109 d_C_comesOut_104 (by decide) (fun c9 => ?_) (fun c9 => ?_)
            · refine v_iinc (x2 + 1) 5 [(2, .int (x2 + 1)), (5, .int (h7 12 (ix x2))), (4, .ref (ad G r7)), (3, .int (h 11 (ix x2))), (0, .ref (ad G 0)), (1, .int x1)] d_C_comesOut_109 rfl rfl (by decide) rfl ?_
              refine v_goto 2 d_C_comesOut_112 (by decide) ?_
              exact v_sub [4, 5, 0] rfl (ih x1 (x2 + 1) h7)
            · refine v_iconst 0 d_C_comesOut_107 rfl ?_
              exact v_zretL rfl rfl d_C_comesOut_108
        · refine v_iconst 0 d_C_comesOut_42 rfl ?_
          exact v_zretL rfl rfl d_C_comesOut_43
set_option maxHeartbeats 4000000 in
set_option maxRecDepth 20000 in
theorem c_C_comesOut (G : Gt) (x1 : Int32) (h : Hp) : Cn G m_C_comesOut [.ref (ad G 0), .int x1] h κi (f_C_comesOut x1 h) := by
  refine entryV (by decide) (Nat.le_of_ble_eq_true rfl) rfl ?_
  show V G m_C_comesOut 0 [(0, .ref (ad G 0)), (1, .int x1)] [] h κi _
  unfold f_C_comesOut
  refine v_iconst 0 d_C_comesOut_0 rfl ?_
  refine v_istore_n [(2, .int 0), (0, .ref (ad G 0)), (1, .int x1)] d_C_comesOut_1 rfl (by decide) rfl ?_
  exact v_sub [1, 2, 0] rfl (Vl_C_comesOut_2 G FUEL x1 0 h)
theorem d_C_fits_0 : decode m_C_fits.2.1 0 = .ok (.iconst 0, 1) := by decide +kernel
theorem d_C_fits_1 : decode m_C_fits.2.1 1 = .ok (.istore_n 1, 1) := by decide +kernel
theorem d_C_fits_2 : decode m_C_fits.2.1 2 = .ok (.iconst 0, 1) := by decide +kernel
theorem d_C_fits_3 : decode m_C_fits.2.1 3 = .ok (.istore_n 2, 1) := by decide +kernel
theorem d_C_fits_4 : decode m_C_fits.2.1 4 = .ok (.iload_n 2, 1) := by decide +kernel
theorem d_C_fits_5 : decode m_C_fits.2.1 5 = .ok (.iconst 4, 1) := by decide +kernel
theorem d_C_fits_6 : decode m_C_fits.2.1 6 = .ok (.if_icmp .ge 23, 3) := by decide +kernel
theorem d_C_fits_9 : decode m_C_fits.2.1 9 = .ok (.aload_n 0, 1) := by decide +kernel
theorem d_C_fits_10 : decode m_C_fits.2.1 10 = .ok (.iload_n 2, 1) := by decide +kernel
theorem d_C_fits_11 : decode m_C_fits.2.1 11 = .ok (.invokevirtual 192, 3) := by decide +kernel
theorem d_C_fits_14 : decode m_C_fits.2.1 14 = .ok (.ifCond .eq 9, 3) := by decide +kernel
theorem d_C_fits_17 : decode m_C_fits.2.1 17 = .ok (.iload_n 1, 1) := by decide +kernel
theorem d_C_fits_18 : decode m_C_fits.2.1 18 = .ok (.iconst 1, 1) := by decide +kernel
theorem d_C_fits_19 : decode m_C_fits.2.1 19 = .ok (.iload_n 2, 1) := by decide +kernel
theorem d_C_fits_20 : decode m_C_fits.2.1 20 = .ok (.ishl, 1) := by decide +kernel
theorem d_C_fits_21 : decode m_C_fits.2.1 21 = .ok (.ior, 1) := by decide +kernel
theorem d_C_fits_22 : decode m_C_fits.2.1 22 = .ok (.istore_n 1, 1) := by decide +kernel
theorem d_C_fits_23 : decode m_C_fits.2.1 23 = .ok (.iinc 2 1, 3) := by decide +kernel
theorem d_C_fits_26 : decode m_C_fits.2.1 26 = .ok (.goto (-22), 3) := by decide +kernel
theorem d_C_fits_29 : decode m_C_fits.2.1 29 = .ok (.iload_n 1, 1) := by decide +kernel
theorem d_C_fits_30 : decode m_C_fits.2.1 30 = .ok (.ireturn, 1) := by decide +kernel
set_option maxHeartbeats 4000000 in
set_option maxRecDepth 20000 in
theorem Vl_C_fits_4 (G : Gt) : ∀ (n : Nat) (x1 : Int32) (x2 : Int32) (h : Hp), V G m_C_fits 4 [(0, .ref (ad G 0)), (1, .int x1), (2, .int x2)] [] h κi (l_C_fits_4 n x1 x2 h) := by
  intro n
  induction n with
  | zero => intros; exact v_none
  | succ n ih =>
    intro x1 x2 h
    rw [l_C_fits_4]
    refine v_iload_n 2 d_C_fits_4 rfl rfl ?_
    refine v_iconst 4 d_C_fits_5 rfl ?_
    refine v_icmp_ge 29 d_C_fits_6 (by decide) (fun c1 => ?_) (fun c1 => ?_)
    · refine v_iload_n 1 d_C_fits_29 rfl rfl ?_
      exact v_iret rfl d_C_fits_30
    · refine v_aload_n 0 d_C_fits_9 rfl rfl ?_
      refine v_iload_n 2 d_C_fits_10 rfl rfl ?_
      refine v_callVi (As := [.int x2]) (rest := []) (c_C_comesOut G x2 h) co_C_192 io_C_comesOut o_0 ⟨by decide, by decide⟩ rfl rfl (Nat.le_of_ble_eq_true rfl) d_C_fits_11 (fun r2 h2 _ => ?_)
      refine v_if_eq 23 d_C_fits_14 (by decide) (fun c3 => ?_) (fun c3 => ?_)
      · refine v_iinc (x2 + 1) 2 [(2, .int (x2 + 1)), (0, .ref (ad G 0)), (1, .int x1)] d_C_fits_23 rfl rfl (by decide) rfl ?_
        refine v_goto 4 d_C_fits_26 (by decide) ?_
        exact v_sub [1, 2, 0] rfl (ih x1 (x2 + 1) h2)
      · refine v_iload_n 1 d_C_fits_17 rfl rfl ?_
        refine v_iconst 1 d_C_fits_18 rfl ?_
        refine v_iload_n 2 d_C_fits_19 rfl rfl ?_
        refine v_ishl d_C_fits_20 ?_
        refine v_ior d_C_fits_21 ?_
        refine v_istore_n [(1, .int (x1 ||| ((1 : Int32) <<< (x2 &&& 31)))), (0, .ref (ad G 0)), (2, .int x2)] d_C_fits_22 rfl (by decide) rfl ?_
        refine v_iinc (x2 + 1) 2 [(2, .int (x2 + 1)), (1, .int (x1 ||| ((1 : Int32) <<< (x2 &&& 31)))), (0, .ref (ad G 0))] d_C_fits_23 rfl rfl (by decide) rfl ?_
        refine v_goto 4 d_C_fits_26 (by decide) ?_
        exact v_sub [2, 1, 0] rfl (ih (x1 ||| ((1 : Int32) <<< (x2 &&& 31))) (x2 + 1) h2)
set_option maxHeartbeats 4000000 in
set_option maxRecDepth 20000 in
theorem c_C_fits (G : Gt) (h : Hp) : Cn G m_C_fits [.ref (ad G 0)] h κi (f_C_fits h) := by
  refine entryV (by decide) (Nat.le_of_ble_eq_true rfl) rfl ?_
  show V G m_C_fits 0 [(0, .ref (ad G 0))] [] h κi _
  unfold f_C_fits
  refine v_iconst 0 d_C_fits_0 rfl ?_
  refine v_istore_n [(1, .int 0), (0, .ref (ad G 0))] d_C_fits_1 rfl (by decide) rfl ?_
  refine v_iconst 0 d_C_fits_2 rfl ?_
  refine v_istore_n [(2, .int 0), (1, .int 0), (0, .ref (ad G 0))] d_C_fits_3 rfl (by decide) rfl ?_
  exact v_sub [2, 1, 0] rfl (Vl_C_fits_4 G FUEL 0 0 h)
theorem d_C_unlikeWebs_0 : decode m_C_unlikeWebs.2.1 0 = .ok (.iconst 0, 1) := by decide +kernel
theorem d_C_unlikeWebs_1 : decode m_C_unlikeWebs.2.1 1 = .ok (.istore_n 3, 1) := by decide +kernel
theorem d_C_unlikeWebs_2 : decode m_C_unlikeWebs.2.1 2 = .ok (.iconst 0, 1) := by decide +kernel
theorem d_C_unlikeWebs_3 : decode m_C_unlikeWebs.2.1 3 = .ok (.istore 4, 2) := by decide +kernel
theorem d_C_unlikeWebs_5 : decode m_C_unlikeWebs.2.1 5 = .ok (.iload 4, 2) := by decide +kernel
theorem d_C_unlikeWebs_7 : decode m_C_unlikeWebs.2.1 7 = .ok (.iconst 4, 1) := by decide +kernel
theorem d_C_unlikeWebs_8 : decode m_C_unlikeWebs.2.1 8 = .ok (.if_icmp .ge 100, 3) := by decide +kernel
theorem d_C_unlikeWebs_11 : decode m_C_unlikeWebs.2.1 11 = .ok (.iload_n 2, 1) := by decide +kernel
theorem d_C_unlikeWebs_12 : decode m_C_unlikeWebs.2.1 12 = .ok (.iload 4, 2) := by decide +kernel
theorem d_C_unlikeWebs_14 : decode m_C_unlikeWebs.2.1 14 = .ok (.ishr, 1) := by decide +kernel
theorem d_C_unlikeWebs_15 : decode m_C_unlikeWebs.2.1 15 = .ok (.iconst 1, 1) := by decide +kernel
theorem d_C_unlikeWebs_16 : decode m_C_unlikeWebs.2.1 16 = .ok (.iand, 1) := by decide +kernel
theorem d_C_unlikeWebs_17 : decode m_C_unlikeWebs.2.1 17 = .ok (.ifCond .ne 6, 3) := by decide +kernel
theorem d_C_unlikeWebs_20 : decode m_C_unlikeWebs.2.1 20 = .ok (.goto 82, 3) := by decide +kernel
theorem d_C_unlikeWebs_23 : decode m_C_unlikeWebs.2.1 23 = .ok (.aload_n 0, 1) := by decide +kernel
theorem d_C_unlikeWebs_24 : decode m_C_unlikeWebs.2.1 24 = .ok (.aload_n 0, 1) := by decide +kernel
theorem d_C_unlikeWebs_25 : decode m_C_unlikeWebs.2.1 25 = .ok (.getfield 28, 3) := by decide +kernel
theorem d_C_unlikeWebs_28 : decode m_C_unlikeWebs.2.1 28 = .ok (.iload 4, 2) := by decide +kernel
theorem d_C_unlikeWebs_30 : decode m_C_unlikeWebs.2.1 30 = .ok (.aaload, 1) := by decide +kernel
theorem d_C_unlikeWebs_31 : decode m_C_unlikeWebs.2.1 31 = .ok (.aload_n 0, 1) := by decide +kernel
theorem d_C_unlikeWebs_32 : decode m_C_unlikeWebs.2.1 32 = .ok (.getfield 19, 3) := by decide +kernel
theorem d_C_unlikeWebs_35 : decode m_C_unlikeWebs.2.1 35 = .ok (.iload_n 1, 1) := by decide +kernel
theorem d_C_unlikeWebs_36 : decode m_C_unlikeWebs.2.1 36 = .ok (.iload 4, 2) := by decide +kernel
theorem d_C_unlikeWebs_38 : decode m_C_unlikeWebs.2.1 38 = .ok (.aload_n 0, 1) := by decide +kernel
theorem d_C_unlikeWebs_39 : decode m_C_unlikeWebs.2.1 39 = .ok (.getfield 49, 3) := by decide +kernel
theorem d_C_unlikeWebs_42 : decode m_C_unlikeWebs.2.1 42 = .ok (.invokevirtual 126, 3) := by decide +kernel
theorem d_C_unlikeWebs_45 : decode m_C_unlikeWebs.2.1 45 = .ok (.astore 5, 2) := by decide +kernel
theorem d_C_unlikeWebs_47 : decode m_C_unlikeWebs.2.1 47 = .ok (.iconst 1, 1) := by decide +kernel
theorem d_C_unlikeWebs_48 : decode m_C_unlikeWebs.2.1 48 = .ok (.istore 6, 2) := by decide +kernel
theorem d_C_unlikeWebs_50 : decode m_C_unlikeWebs.2.1 50 = .ok (.iconst 0, 1) := by decide +kernel
theorem d_C_unlikeWebs_51 : decode m_C_unlikeWebs.2.1 51 = .ok (.istore 7, 2) := by decide +kernel
theorem d_C_unlikeWebs_53 : decode m_C_unlikeWebs.2.1 53 = .ok (.iload 7, 2) := by decide +kernel
theorem d_C_unlikeWebs_55 : decode m_C_unlikeWebs.2.1 55 = .ok (.iload 4, 2) := by decide +kernel
theorem d_C_unlikeWebs_57 : decode m_C_unlikeWebs.2.1 57 = .ok (.if_icmp .ge 37, 3) := by decide +kernel
theorem d_C_unlikeWebs_60 : decode m_C_unlikeWebs.2.1 60 = .ok (.iload_n 2, 1) := by decide +kernel
theorem d_C_unlikeWebs_61 : decode m_C_unlikeWebs.2.1 61 = .ok (.iload 7, 2) := by decide +kernel
theorem d_C_unlikeWebs_63 : decode m_C_unlikeWebs.2.1 63 = .ok (.ishr, 1) := by decide +kernel
theorem d_C_unlikeWebs_64 : decode m_C_unlikeWebs.2.1 64 = .ok (.iconst 1, 1) := by decide +kernel
theorem d_C_unlikeWebs_65 : decode m_C_unlikeWebs.2.1 65 = .ok (.iand, 1) := by decide +kernel
theorem d_C_unlikeWebs_66 : decode m_C_unlikeWebs.2.1 66 = .ok (.iconst 1, 1) := by decide +kernel
theorem d_C_unlikeWebs_67 : decode m_C_unlikeWebs.2.1 67 = .ok (.if_icmp .ne 21, 3) := by decide +kernel
theorem d_C_unlikeWebs_70 : decode m_C_unlikeWebs.2.1 70 = .ok (.aload 5, 2) := by decide +kernel
theorem d_C_unlikeWebs_72 : decode m_C_unlikeWebs.2.1 72 = .ok (.aload_n 0, 1) := by decide +kernel
theorem d_C_unlikeWebs_73 : decode m_C_unlikeWebs.2.1 73 = .ok (.getfield 28, 3) := by decide +kernel
theorem d_C_unlikeWebs_76 : decode m_C_unlikeWebs.2.1 76 = .ok (.iload 7, 2) := by decide +kernel
theorem d_C_unlikeWebs_78 : decode m_C_unlikeWebs.2.1 78 = .ok (.aaload, 1) := by decide +kernel
theorem d_C_unlikeWebs_79 : decode m_C_unlikeWebs.2.1 79 = .ok (.invokevirtual 155, 3) := by decide +kernel
theorem d_C_unlikeWebs_82 : decode m_C_unlikeWebs.2.1 82 = .ok (.ifCond .eq 6, 3) := by decide +kernel
theorem d_C_unlikeWebs_85 : decode m_C_unlikeWebs.2.1 85 = .ok (.iconst 0, 1) := by decide +kernel
theorem d_C_unlikeWebs_86 : decode m_C_unlikeWebs.2.1 86 = .ok (.istore 6, 2) := by decide +kernel
theorem d_C_unlikeWebs_88 : decode m_C_unlikeWebs.2.1 88 = .ok (.iinc 7 1, 3) := by decide +kernel
theorem d_C_unlikeWebs_91 : decode m_C_unlikeWebs.2.1 91 = .ok (.goto (-38), 3) := by decide +kernel
theorem d_C_unlikeWebs_94 : decode m_C_unlikeWebs.2.1 94 = .ok (.iload 6, 2) := by decide +kernel
theorem d_C_unlikeWebs_96 : decode m_C_unlikeWebs.2.1 96 = .ok (.ifCond .eq 6, 3) := by decide +kernel
theorem d_C_unlikeWebs_99 : decode m_C_unlikeWebs.2.1 99 = .ok (.iinc 3 1, 3) := by decide +kernel
theorem d_C_unlikeWebs_102 : decode m_C_unlikeWebs.2.1 102 = .ok (.iinc 4 1, 3) := by decide +kernel
theorem d_C_unlikeWebs_105 : decode m_C_unlikeWebs.2.1 105 = .ok (.goto (-100), 3) := by decide +kernel
theorem d_C_unlikeWebs_108 : decode m_C_unlikeWebs.2.1 108 = .ok (.iload_n 3, 1) := by decide +kernel
theorem d_C_unlikeWebs_109 : decode m_C_unlikeWebs.2.1 109 = .ok (.ireturn, 1) := by decide +kernel
set_option maxHeartbeats 4000000 in
set_option maxRecDepth 20000 in
theorem Vl_C_unlikeWebs_53 (G : Gt) (K5 : Int32 → Int32 → Int32 → Int32 → Hp → Option (Int32 × Hp)) (hK5 : ∀ (x1 : Int32) (x2 : Int32) (x3 : Int32) (x4 : Int32) (h : Hp), V G m_C_unlikeWebs 5 [(0, .ref (ad G 0)), (1, .int x1), (2, .int x2), (3, .int x3), (4, .int x4)] [] h κi (K5 x1 x2 x3 x4 h)) : ∀ (n : Nat) (x1 : Int32) (x2 : Int32) (x3 : Int32) (x4 : Int32) (a5 : Nat) (x6 : Int32) (x7 : Int32) (ha5 : isO 3 a5) (h : Hp), V G m_C_unlikeWebs 53 [(0, .ref (ad G 0)), (1, .int x1), (2, .int x2), (3, .int x3), (4, .int x4), (5, .ref (ad G a5)), (6, .int x6), (7, .int x7)] [] h κi (l_C_unlikeWebs_53 K5 n x1 x2 x3 x4 a5 x6 x7 h) := by
  intro n
  induction n with
  | zero => intros; exact v_none
  | succ n ih =>
    intro x1 x2 x3 x4 a5 x6 x7 ha5 h
    rw [l_C_unlikeWebs_53]
    refine v_iload 7 d_C_unlikeWebs_53 rfl ?_
    refine v_iload 4 d_C_unlikeWebs_55 rfl ?_
    refine v_icmp_ge 94 d_C_unlikeWebs_57 (by decide) (fun c5 => ?_) (fun c5 => ?_)
    · refine v_iload 6 d_C_unlikeWebs_94 rfl ?_
      refine v_if_eq 102 d_C_unlikeWebs_96 (by decide) (fun c6 => ?_) (fun c6 => ?_)
      · refine v_iinc (x4 + 1) 4 [(4, .int (x4 + 1)), (0, .ref (ad G 0)), (1, .int x1), (2, .int x2), (3, .int x3), (5, .ref (ad G a5)), (6, .int x6), (7, .int x7)] d_C_unlikeWebs_102 rfl rfl (by decide) rfl ?_
        refine v_goto 5 d_C_unlikeWebs_105 (by decide) ?_
        exact v_sub [1, 2, 3, 4, 0] rfl (hK5 x1 x2 x3 (x4 + 1) h)
      · refine v_iinc (x3 + 1) 3 [(3, .int (x3 + 1)), (0, .ref (ad G 0)), (1, .int x1), (2, .int x2), (4, .int x4), (5, .ref (ad G a5)), (6, .int x6), (7, .int x7)] d_C_unlikeWebs_99 rfl rfl (by decide) rfl ?_
        refine v_iinc (x4 + 1) 4 [(4, .int (x4 + 1)), (3, .int (x3 + 1)), (0, .ref (ad G 0)), (1, .int x1), (2, .int x2), (5, .ref (ad G a5)), (6, .int x6), (7, .int x7)] d_C_unlikeWebs_102 rfl rfl (by decide) rfl ?_
        refine v_goto 5 d_C_unlikeWebs_105 (by decide) ?_
        exact v_sub [2, 3, 4, 1, 0] rfl (hK5 x1 x2 (x3 + 1) (x4 + 1) h)
    · refine v_iload_n 2 d_C_unlikeWebs_60 rfl rfl ?_
      refine v_iload 7 d_C_unlikeWebs_61 rfl ?_
      refine v_ishr d_C_unlikeWebs_63 ?_
      refine v_iconst 1 d_C_unlikeWebs_64 rfl ?_
      refine v_iand d_C_unlikeWebs_65 ?_
      refine v_iconst 1 d_C_unlikeWebs_66 rfl ?_
      refine v_icmp_ne 88 d_C_unlikeWebs_67 (by decide) (fun c7 => ?_) (fun c7 => ?_)
      · refine v_aload 5 d_C_unlikeWebs_70 rfl ?_
        refine v_aload_n 0 d_C_unlikeWebs_72 rfl rfl ?_
        refine v_getr 9 fl_C_28 o_0 rfl rfl d_C_unlikeWebs_73 ?_
        refine v_iload 7 d_C_unlikeWebs_76 rfl ?_
        refine v_aald2 (15 + 2 * ix x7) rfl ar_9 d_C_unlikeWebs_78 (fun b8 => ?_)
        refine v_callVi (As := [.ref (ad G (15 + 2 * ix x7))]) (rest := []) (c_Sp_hasRowOf G a5 (15 + 2 * ix x7) ha5 (sp_o b8) h) co_C_155 io_Sp_hasRowOf ha5 ⟨by decide, by decide⟩ rfl rfl (Nat.le_of_ble_eq_true rfl) d_C_unlikeWebs_79 (fun r9 h9 _ => ?_)
        refine v_if_eq 88 d_C_unlikeWebs_82 (by decide) (fun c10 => ?_) (fun c10 => ?_)
        · refine v_iinc (x7 + 1) 7 [(7, .int (x7 + 1)), (0, .ref (ad G 0)), (1, .int x1), (2, .int x2), (3, .int x3), (4, .int x4), (5, .ref (ad G a5)), (6, .int x6)] d_C_unlikeWebs_88 rfl rfl (by decide) rfl ?_
          refine v_goto 53 d_C_unlikeWebs_91 (by decide) ?_
          exact v_sub [1, 2, 3, 4, 5, 6, 7, 0] rfl (ih x1 x2 x3 x4 a5 x6 (x7 + 1) ha5 h9)
        · refine v_iconst 0 d_C_unlikeWebs_85 rfl ?_
          refine v_istore [(6, .int 0), (0, .ref (ad G 0)), (1, .int x1), (2, .int x2), (3, .int x3), (4, .int x4), (5, .ref (ad G a5)), (7, .int x7)] d_C_unlikeWebs_86 (by decide) rfl ?_
          refine v_iinc (x7 + 1) 7 [(7, .int (x7 + 1)), (6, .int 0), (0, .ref (ad G 0)), (1, .int x1), (2, .int x2), (3, .int x3), (4, .int x4), (5, .ref (ad G a5))] d_C_unlikeWebs_88 rfl rfl (by decide) rfl ?_
          refine v_goto 53 d_C_unlikeWebs_91 (by decide) ?_
          exact v_sub [2, 3, 4, 5, 6, 7, 1, 0] rfl (ih x1 x2 x3 x4 a5 0 (x7 + 1) ha5 h9)
      · refine v_iinc (x7 + 1) 7 [(7, .int (x7 + 1)), (0, .ref (ad G 0)), (1, .int x1), (2, .int x2), (3, .int x3), (4, .int x4), (5, .ref (ad G a5)), (6, .int x6)] d_C_unlikeWebs_88 rfl rfl (by decide) rfl ?_
        refine v_goto 53 d_C_unlikeWebs_91 (by decide) ?_
        exact v_sub [1, 2, 3, 4, 5, 6, 7, 0] rfl (ih x1 x2 x3 x4 a5 x6 (x7 + 1) ha5 h)
set_option maxHeartbeats 4000000 in
set_option maxRecDepth 20000 in
theorem Vl_C_unlikeWebs_5 (G : Gt) : ∀ (n : Nat) (x1 : Int32) (x2 : Int32) (x3 : Int32) (x4 : Int32) (h : Hp), V G m_C_unlikeWebs 5 [(0, .ref (ad G 0)), (1, .int x1), (2, .int x2), (3, .int x3), (4, .int x4)] [] h κi (l_C_unlikeWebs_5 n x1 x2 x3 x4 h) := by
  intro n
  induction n with
  | zero => intros; exact v_none
  | succ n ih =>
    intro x1 x2 x3 x4 h
    rw [l_C_unlikeWebs_5]
    refine v_iload 4 d_C_unlikeWebs_5 rfl ?_
    refine v_iconst 4 d_C_unlikeWebs_7 rfl ?_
    refine v_icmp_ge 108 d_C_unlikeWebs_8 (by decide) (fun c1 => ?_) (fun c1 => ?_)
    · refine v_iload_n 3 d_C_unlikeWebs_108 rfl rfl ?_
      exact v_iret rfl d_C_unlikeWebs_109
    · refine v_iload_n 2 d_C_unlikeWebs_11 rfl rfl ?_
      refine v_iload 4 d_C_unlikeWebs_12 rfl ?_
      refine v_ishr d_C_unlikeWebs_14 ?_
      refine v_iconst 1 d_C_unlikeWebs_15 rfl ?_
      refine v_iand d_C_unlikeWebs_16 ?_
      refine v_if_ne 23 d_C_unlikeWebs_17 (by decide) (fun c2 => ?_) (fun c2 => ?_)
      · refine v_goto 102 d_C_unlikeWebs_20 (by decide) ?_
        refine v_iinc (x4 + 1) 4 [(4, .int (x4 + 1)), (0, .ref (ad G 0)), (1, .int x1), (2, .int x2), (3, .int x3)] d_C_unlikeWebs_102 rfl rfl (by decide) rfl ?_
        refine v_goto 5 d_C_unlikeWebs_105 (by decide) ?_
        exact v_sub [1, 2, 3, 4, 0] rfl (ih x1 x2 x3 (x4 + 1) h)
      · refine v_aload_n 0 d_C_unlikeWebs_23 rfl rfl ?_
        refine v_aload_n 0 d_C_unlikeWebs_24 rfl rfl ?_
        refine v_getr 9 fl_C_28 o_0 rfl rfl d_C_unlikeWebs_25 ?_
        refine v_iload 4 d_C_unlikeWebs_28 rfl ?_
        refine v_aald2 (15 + 2 * ix x4) rfl ar_9 d_C_unlikeWebs_30 (fun b3 => ?_)
        refine v_aload_n 0 d_C_unlikeWebs_31 rfl rfl ?_
        refine v_getr 3 fl_C_19 o_0 rfl rfl d_C_unlikeWebs_32 ?_
        refine v_iload_n 1 d_C_unlikeWebs_35 rfl rfl ?_
        refine v_iload 4 d_C_unlikeWebs_36 rfl ?_
        refine v_aload_n 0 d_C_unlikeWebs_38 rfl rfl ?_
        refine v_geti fl_C_49 o_0 rfl d_C_unlikeWebs_39 ?_
        refine v_callVr (As := [.ref (ad G (15 + 2 * ix x4)), .ref (ad G 3), .int x1, .int x4, .int (h 0 7)]) (rest := []) (c_C_lay G (15 + 2 * ix x4) 3 x1 x4 (h 0 7) (sp_o b3) o_3 h) co_C_126 io_C_lay o_0 ⟨by decide, by decide⟩ rfl rfl (Nat.le_of_ble_eq_true rfl) d_C_unlikeWebs_42 (fun r4 h4 z4 => ?_)
        have e4 := lay_isO (sp_o b3) z4
        refine v_astore [(5, .ref (ad G r4)), (0, .ref (ad G 0)), (1, .int x1), (2, .int x2), (3, .int x3), (4, .int x4)] d_C_unlikeWebs_45 (by decide) rfl ?_
        refine v_iconst 1 d_C_unlikeWebs_47 rfl ?_
        refine v_istore [(6, .int 1), (5, .ref (ad G r4)), (0, .ref (ad G 0)), (1, .int x1), (2, .int x2), (3, .int x3), (4, .int x4)] d_C_unlikeWebs_48 (by decide) rfl ?_
        refine v_iconst 0 d_C_unlikeWebs_50 rfl ?_
        refine v_istore [(7, .int 0), (6, .int 1), (5, .ref (ad G r4)), (0, .ref (ad G 0)), (1, .int x1), (2, .int x2), (3, .int x3), (4, .int x4)] d_C_unlikeWebs_51 (by decide) rfl ?_
        exact v_sub [3, 4, 5, 6, 7, 2, 1, 0] rfl (Vl_C_unlikeWebs_53 G (l_C_unlikeWebs_5 n) ih FUEL x1 x2 x3 x4 r4 1 0 e4 h4)
set_option maxHeartbeats 4000000 in
set_option maxRecDepth 20000 in
theorem c_C_unlikeWebs (G : Gt) (x1 : Int32) (x2 : Int32) (h : Hp) : Cn G m_C_unlikeWebs [.ref (ad G 0), .int x1, .int x2] h κi (f_C_unlikeWebs x1 x2 h) := by
  refine entryV (by decide) (Nat.le_of_ble_eq_true rfl) rfl ?_
  show V G m_C_unlikeWebs 0 [(0, .ref (ad G 0)), (1, .int x1), (2, .int x2)] [] h κi _
  unfold f_C_unlikeWebs
  refine v_iconst 0 d_C_unlikeWebs_0 rfl ?_
  refine v_istore_n [(3, .int 0), (0, .ref (ad G 0)), (1, .int x1), (2, .int x2)] d_C_unlikeWebs_1 rfl (by decide) rfl ?_
  refine v_iconst 0 d_C_unlikeWebs_2 rfl ?_
  refine v_istore [(4, .int 0), (3, .int 0), (0, .ref (ad G 0)), (1, .int x1), (2, .int x2)] d_C_unlikeWebs_3 (by decide) rfl ?_
  exact v_sub [2, 3, 4, 1, 0] rfl (Vl_C_unlikeWebs_5 G FUEL x1 x2 0 0 h)
theorem d_C_tells_0 : decode m_C_tells.2.1 0 = .ok (.aload_n 0, 1) := by decide +kernel
theorem d_C_tells_1 : decode m_C_tells.2.1 1 = .ok (.invokevirtual 195, 3) := by decide +kernel
theorem d_C_tells_4 : decode m_C_tells.2.1 4 = .ok (.istore_n 1, 1) := by decide +kernel
theorem d_C_tells_5 : decode m_C_tells.2.1 5 = .ok (.iconst (-1), 1) := by decide +kernel
theorem d_C_tells_6 : decode m_C_tells.2.1 6 = .ok (.istore_n 2, 1) := by decide +kernel
theorem d_C_tells_7 : decode m_C_tells.2.1 7 = .ok (.iconst (-1), 1) := by decide +kernel
theorem d_C_tells_8 : decode m_C_tells.2.1 8 = .ok (.istore_n 3, 1) := by decide +kernel
theorem d_C_tells_9 : decode m_C_tells.2.1 9 = .ok (.iconst 0, 1) := by decide +kernel
theorem d_C_tells_10 : decode m_C_tells.2.1 10 = .ok (.istore 4, 2) := by decide +kernel
theorem d_C_tells_12 : decode m_C_tells.2.1 12 = .ok (.iload 4, 2) := by decide +kernel
theorem d_C_tells_14 : decode m_C_tells.2.1 14 = .ok (.aload_n 0, 1) := by decide +kernel
theorem d_C_tells_15 : decode m_C_tells.2.1 15 = .ok (.getfield 19, 3) := by decide +kernel
theorem d_C_tells_18 : decode m_C_tells.2.1 18 = .ok (.getfield 159, 3) := by decide +kernel
theorem d_C_tells_21 : decode m_C_tells.2.1 21 = .ok (.if_icmp .ge 42, 3) := by decide +kernel
theorem d_C_tells_24 : decode m_C_tells.2.1 24 = .ok (.aload_n 0, 1) := by decide +kernel
theorem d_C_tells_25 : decode m_C_tells.2.1 25 = .ok (.iload 4, 2) := by decide +kernel
theorem d_C_tells_27 : decode m_C_tells.2.1 27 = .ok (.invokevirtual 91, 3) := by decide +kernel
theorem d_C_tells_30 : decode m_C_tells.2.1 30 = .ok (.ifCond .eq 6, 3) := by decide +kernel
theorem d_C_tells_33 : decode m_C_tells.2.1 33 = .ok (.goto 24, 3) := by decide +kernel
theorem d_C_tells_36 : decode m_C_tells.2.1 36 = .ok (.aload_n 0, 1) := by decide +kernel
theorem d_C_tells_37 : decode m_C_tells.2.1 37 = .ok (.iload 4, 2) := by decide +kernel
theorem d_C_tells_39 : decode m_C_tells.2.1 39 = .ok (.iload_n 1, 1) := by decide +kernel
theorem d_C_tells_40 : decode m_C_tells.2.1 40 = .ok (.invokevirtual 199, 3) := by decide +kernel
theorem d_C_tells_43 : decode m_C_tells.2.1 43 = .ok (.istore 5, 2) := by decide +kernel
theorem d_C_tells_45 : decode m_C_tells.2.1 45 = .ok (.iload 5, 2) := by decide +kernel
theorem d_C_tells_47 : decode m_C_tells.2.1 47 = .ok (.iload_n 3, 1) := by decide +kernel
theorem d_C_tells_48 : decode m_C_tells.2.1 48 = .ok (.if_icmp .le 9, 3) := by decide +kernel
theorem d_C_tells_51 : decode m_C_tells.2.1 51 = .ok (.iload 5, 2) := by decide +kernel
theorem d_C_tells_53 : decode m_C_tells.2.1 53 = .ok (.istore_n 3, 1) := by decide +kernel
theorem d_C_tells_54 : decode m_C_tells.2.1 54 = .ok (.iload 4, 2) := by decide +kernel
theorem d_C_tells_56 : decode m_C_tells.2.1 56 = .ok (.istore_n 2, 1) := by decide +kernel
theorem d_C_tells_57 : decode m_C_tells.2.1 57 = .ok (.iinc 4 1, 3) := by decide +kernel
theorem d_C_tells_60 : decode m_C_tells.2.1 60 = .ok (.goto (-48), 3) := by decide +kernel
theorem d_C_tells_63 : decode m_C_tells.2.1 63 = .ok (.iload_n 2, 1) := by decide +kernel
theorem d_C_tells_64 : decode m_C_tells.2.1 64 = .ok (.ireturn, 1) := by decide +kernel
set_option maxHeartbeats 4000000 in
set_option maxRecDepth 20000 in
theorem Vl_C_tells_12 (G : Gt) : ∀ (n : Nat) (x1 : Int32) (x2 : Int32) (x3 : Int32) (x4 : Int32) (h : Hp), V G m_C_tells 12 [(0, .ref (ad G 0)), (1, .int x1), (2, .int x2), (3, .int x3), (4, .int x4)] [] h κi (l_C_tells_12 n x1 x2 x3 x4 h) := by
  intro n
  induction n with
  | zero => intros; exact v_none
  | succ n ih =>
    intro x1 x2 x3 x4 h
    rw [l_C_tells_12]
    refine v_iload 4 d_C_tells_12 rfl ?_
    refine v_aload_n 0 d_C_tells_14 rfl rfl ?_
    refine v_getr 3 fl_C_19 o_0 rfl rfl d_C_tells_15 ?_
    refine v_geti fl_C_159 o_3 rfl d_C_tells_18 ?_
    refine v_icmp_ge 63 d_C_tells_21 (by decide) (fun c2 => ?_) (fun c2 => ?_)
    · refine v_iload_n 2 d_C_tells_63 rfl rfl ?_
      exact v_iret rfl d_C_tells_64
    · refine v_aload_n 0 d_C_tells_24 rfl rfl ?_
      refine v_iload 4 d_C_tells_25 rfl ?_
      refine v_callVi (As := [.int x4]) (rest := []) (c_C_isHidden G x4 h) co_C_91 io_C_isHidden o_0 ⟨by decide, by decide⟩ rfl rfl (Nat.le_of_ble_eq_true rfl) d_C_tells_27 (fun r3 h3 _ => ?_)
      refine v_if_eq 36 d_C_tells_30 (by decide) (fun c4 => ?_) (fun c4 => ?_)
      · refine v_aload_n 0 d_C_tells_36 rfl rfl ?_
        refine v_iload 4 d_C_tells_37 rfl ?_
        refine v_iload_n 1 d_C_tells_39 rfl rfl ?_
        refine v_callVi (As := [.int x4, .int x1]) (rest := []) (c_C_unlikeWebs G x4 x1 h3) co_C_199 io_C_unlikeWebs o_0 ⟨by decide, by decide⟩ rfl rfl (Nat.le_of_ble_eq_true rfl) d_C_tells_40 (fun r5 h5 _ => ?_)
        refine v_istore [(5, .int r5), (0, .ref (ad G 0)), (1, .int x1), (2, .int x2), (3, .int x3), (4, .int x4)] d_C_tells_43 (by decide) rfl ?_
        refine v_iload 0 d_C_tells_45 rfl ?_
        refine v_iload_n 4 d_C_tells_47 rfl rfl ?_
        refine v_icmp_le 57 d_C_tells_48 (by decide) (fun c6 => ?_) (fun c6 => ?_)
        · refine v_iinc (x4 + 1) 5 [(4, .int (x4 + 1)), (5, .int r5), (0, .ref (ad G 0)), (1, .int x1), (2, .int x2), (3, .int x3)] d_C_tells_57 rfl rfl (by decide) rfl ?_
          refine v_goto 12 d_C_tells_60 (by decide) ?_
          exact v_sub [2, 3, 4, 5, 0] rfl (ih x1 x2 x3 (x4 + 1) h5)
        · refine v_iload 0 d_C_tells_51 rfl ?_
          refine v_istore_n [(3, .int r5), (5, .int r5), (0, .ref (ad G 0)), (1, .int x1), (2, .int x2), (4, .int x4)] d_C_tells_53 rfl (by decide) rfl ?_
          refine v_iload 5 d_C_tells_54 rfl ?_
          refine v_istore_n [(2, .int x4), (3, .int r5), (5, .int r5), (0, .ref (ad G 0)), (1, .int x1), (4, .int x4)] d_C_tells_56 rfl (by decide) rfl ?_
          refine v_iinc (x4 + 1) 5 [(4, .int (x4 + 1)), (2, .int x4), (3, .int r5), (5, .int r5), (0, .ref (ad G 0)), (1, .int x1)] d_C_tells_57 rfl rfl (by decide) rfl ?_
          refine v_goto 12 d_C_tells_60 (by decide) ?_
          exact v_sub [4, 5, 1, 2, 0] rfl (ih x1 x4 r5 (x4 + 1) h5)
      · refine v_goto 57 d_C_tells_33 (by decide) ?_
        refine v_iinc (x4 + 1) 4 [(4, .int (x4 + 1)), (0, .ref (ad G 0)), (1, .int x1), (2, .int x2), (3, .int x3)] d_C_tells_57 rfl rfl (by decide) rfl ?_
        refine v_goto 12 d_C_tells_60 (by decide) ?_
        exact v_sub [1, 2, 3, 4, 0] rfl (ih x1 x2 x3 (x4 + 1) h3)
set_option maxHeartbeats 4000000 in
set_option maxRecDepth 20000 in
theorem c_C_tells (G : Gt) (h : Hp) : Cn G m_C_tells [.ref (ad G 0)] h κi (f_C_tells h) := by
  refine entryV (by decide) (Nat.le_of_ble_eq_true rfl) rfl ?_
  show V G m_C_tells 0 [(0, .ref (ad G 0))] [] h κi _
  unfold f_C_tells
  refine v_aload_n 0 d_C_tells_0 rfl rfl ?_
  refine v_callVi (As := []) (rest := []) (c_C_fits G h) co_C_195 io_C_fits o_0 ⟨by decide, by decide⟩ rfl rfl (Nat.le_of_ble_eq_true rfl) d_C_tells_1 (fun r1 h1 _ => ?_)
  refine v_istore_n [(1, .int r1), (0, .ref (ad G 0))] d_C_tells_4 rfl (by decide) rfl ?_
  refine v_iconst (-1) d_C_tells_5 rfl ?_
  refine v_istore_n [(2, .int (-1)), (1, .int r1), (0, .ref (ad G 0))] d_C_tells_6 rfl (by decide) rfl ?_
  refine v_iconst (-1) d_C_tells_7 rfl ?_
  refine v_istore_n [(3, .int (-1)), (2, .int (-1)), (1, .int r1), (0, .ref (ad G 0))] d_C_tells_8 rfl (by decide) rfl ?_
  refine v_iconst 0 d_C_tells_9 rfl ?_
  refine v_istore [(4, .int 0), (3, .int (-1)), (2, .int (-1)), (1, .int r1), (0, .ref (ad G 0))] d_C_tells_10 (by decide) rfl ?_
  exact v_sub [4, 3, 2, 1, 0] rfl (Vl_C_tells_12 G FUEL r1 (-1) (-1) 0 h1)
theorem d_C_nextLot_0 : decode m_C_nextLot.2.1 0 = .ok (.ldc_w 317, 3) := by decide +kernel
theorem d_C_nextLot_3 : decode m_C_nextLot.2.1 3 = .ok (.iload_n 0, 1) := by decide +kernel
theorem d_C_nextLot_4 : decode m_C_nextLot.2.1 4 = .ok (.imul, 1) := by decide +kernel
theorem d_C_nextLot_5 : decode m_C_nextLot.2.1 5 = .ok (.sipush 12345, 3) := by decide +kernel
theorem d_C_nextLot_8 : decode m_C_nextLot.2.1 8 = .ok (.iadd, 1) := by decide +kernel
theorem d_C_nextLot_9 : decode m_C_nextLot.2.1 9 = .ok (.ireturn, 1) := by decide +kernel
set_option maxHeartbeats 4000000 in
set_option maxRecDepth 20000 in
theorem c_C_nextLot (G : Gt) (x0 : Int32) (h : Hp) : Cn G m_C_nextLot [.int x0] h κi (f_C_nextLot x0 h) := by
  refine entryV (by decide) (Nat.le_of_ble_eq_true rfl) rfl ?_
  show V G m_C_nextLot 0 [(0, .int x0)] [] h κi _
  unfold f_C_nextLot
  refine v_ldcw (v := 1103515245) (mem_t 421 (by decide +kernel) rfl) d_C_nextLot_0 ?_
  refine v_iload_n 0 d_C_nextLot_3 rfl rfl ?_
  refine v_imul d_C_nextLot_4 ?_
  refine v_sipush 12345 d_C_nextLot_5 rfl ?_
  refine v_iadd d_C_nextLot_8 ?_
  exact v_iret rfl d_C_nextLot_9
theorem d_C_placeByLot_0 : decode m_C_placeByLot.2.1 0 = .ok (.iload_n 0, 1) := by decide +kernel
theorem d_C_placeByLot_1 : decode m_C_placeByLot.2.1 1 = .ok (.bipush 16, 2) := by decide +kernel
theorem d_C_placeByLot_3 : decode m_C_placeByLot.2.1 3 = .ok (.iushr, 1) := by decide +kernel
theorem d_C_placeByLot_4 : decode m_C_placeByLot.2.1 4 = .ok (.bipush 10, 2) := by decide +kernel
theorem d_C_placeByLot_6 : decode m_C_placeByLot.2.1 6 = .ok (.irem, 1) := by decide +kernel
theorem d_C_placeByLot_7 : decode m_C_placeByLot.2.1 7 = .ok (.ireturn, 1) := by decide +kernel
set_option maxHeartbeats 4000000 in
set_option maxRecDepth 20000 in
theorem c_C_placeByLot (G : Gt) (x0 : Int32) (h : Hp) : Cn G m_C_placeByLot [.int x0] h κi (f_C_placeByLot x0 h) := by
  refine entryV (by decide) (Nat.le_of_ble_eq_true rfl) rfl ?_
  show V G m_C_placeByLot 0 [(0, .int x0)] [] h κi _
  unfold f_C_placeByLot
  refine v_iload_n 0 d_C_placeByLot_0 rfl rfl ?_
  refine v_bipush 16 d_C_placeByLot_1 rfl ?_
  refine v_iushr d_C_placeByLot_3 ?_
  refine v_bipush 10 d_C_placeByLot_4 rfl ?_
  refine v_irem (by decide) d_C_placeByLot_6 ?_
  exact v_iret rfl d_C_placeByLot_7
theorem d_Fr_apartFrom_0 : decode m_Fr_apartFrom.2.1 0 = .ok (.aload_n 0, 1) := by decide +kernel
theorem d_Fr_apartFrom_1 : decode m_Fr_apartFrom.2.1 1 = .ok (.getfield 9, 3) := by decide +kernel
theorem d_Fr_apartFrom_4 : decode m_Fr_apartFrom.2.1 4 = .ok (.iload_n 1, 1) := by decide +kernel
theorem d_Fr_apartFrom_5 : decode m_Fr_apartFrom.2.1 5 = .ok (.iaload, 1) := by decide +kernel
theorem d_Fr_apartFrom_6 : decode m_Fr_apartFrom.2.1 6 = .ok (.iload_n 2, 1) := by decide +kernel
theorem d_Fr_apartFrom_7 : decode m_Fr_apartFrom.2.1 7 = .ok (.isub, 1) := by decide +kernel
theorem d_Fr_apartFrom_8 : decode m_Fr_apartFrom.2.1 8 = .ok (.invokestatic 26, 3) := by decide +kernel
theorem d_Fr_apartFrom_11 : decode m_Fr_apartFrom.2.1 11 = .ok (.aload_n 0, 1) := by decide +kernel
theorem d_Fr_apartFrom_12 : decode m_Fr_apartFrom.2.1 12 = .ok (.getfield 15, 3) := by decide +kernel
theorem d_Fr_apartFrom_15 : decode m_Fr_apartFrom.2.1 15 = .ok (.iload_n 1, 1) := by decide +kernel
theorem d_Fr_apartFrom_16 : decode m_Fr_apartFrom.2.1 16 = .ok (.iaload, 1) := by decide +kernel
theorem d_Fr_apartFrom_17 : decode m_Fr_apartFrom.2.1 17 = .ok (.iload_n 3, 1) := by decide +kernel
theorem d_Fr_apartFrom_18 : decode m_Fr_apartFrom.2.1 18 = .ok (.isub, 1) := by decide +kernel
theorem d_Fr_apartFrom_19 : decode m_Fr_apartFrom.2.1 19 = .ok (.invokestatic 26, 3) := by decide +kernel
theorem d_Fr_apartFrom_22 : decode m_Fr_apartFrom.2.1 22 = .ok (.iadd, 1) := by decide +kernel
theorem d_Fr_apartFrom_23 : decode m_Fr_apartFrom.2.1 23 = .ok (.ireturn, 1) := by decide +kernel
set_option maxHeartbeats 4000000 in
set_option maxRecDepth 20000 in
theorem c_Fr_apartFrom (G : Gt) (a0 : Nat) (x1 : Int32) (x2 : Int32) (x3 : Int32) (ha0 : isO 0 a0) (h : Hp) : Cn G m_Fr_apartFrom [.ref (ad G a0), .int x1, .int x2, .int x3] h κi (f_Fr_apartFrom a0 x1 x2 x3 h) := by
  refine entryV (by decide) (Nat.le_of_ble_eq_true rfl) rfl ?_
  show V G m_Fr_apartFrom 0 [(0, .ref (ad G a0)), (1, .int x1), (2, .int x2), (3, .int x3)] [] h κi _
  unfold f_Fr_apartFrom
  refine v_aload_n 0 d_Fr_apartFrom_0 rfl rfl ?_
  refine v_getr (a0 + 1) fl_Fr_9 ha0 rfl rfl d_Fr_apartFrom_1 ?_
  refine v_iload_n 1 d_Fr_apartFrom_4 rfl rfl ?_
  refine v_iald ((frA ha0).1) d_Fr_apartFrom_5 ?_
  refine v_iload_n 2 d_Fr_apartFrom_6 rfl rfl ?_
  refine v_isub d_Fr_apartFrom_7 ?_
  refine v_mabs (mem_t 252 (by decide +kernel) rfl) ⟨by decide, by decide⟩ (Nat.le_of_ble_eq_true rfl) d_Fr_apartFrom_8 ?_
  refine v_aload_n 0 d_Fr_apartFrom_11 rfl rfl ?_
  refine v_getr (a0 + 2) fl_Fr_15 ha0 rfl rfl d_Fr_apartFrom_12 ?_
  refine v_iload_n 1 d_Fr_apartFrom_15 rfl rfl ?_
  refine v_iald ((frA ha0).2) d_Fr_apartFrom_16 ?_
  refine v_iload_n 3 d_Fr_apartFrom_17 rfl rfl ?_
  refine v_isub d_Fr_apartFrom_18 ?_
  refine v_mabs (mem_t 252 (by decide +kernel) rfl) ⟨by decide, by decide⟩ (Nat.le_of_ble_eq_true rfl) d_Fr_apartFrom_19 ?_
  refine v_iadd d_Fr_apartFrom_22 ?_
  exact v_iret rfl d_Fr_apartFrom_23
theorem d_C_isCaught_0 : decode m_C_isCaught.2.1 0 = .ok (.iconst 0, 1) := by decide +kernel
theorem d_C_isCaught_1 : decode m_C_isCaught.2.1 1 = .ok (.istore 4, 2) := by decide +kernel
theorem d_C_isCaught_3 : decode m_C_isCaught.2.1 3 = .ok (.iload 4, 2) := by decide +kernel
theorem d_C_isCaught_5 : decode m_C_isCaught.2.1 5 = .ok (.aload_n 1, 1) := by decide +kernel
theorem d_C_isCaught_6 : decode m_C_isCaught.2.1 6 = .ok (.getfield 130, 3) := by decide +kernel
theorem d_C_isCaught_9 : decode m_C_isCaught.2.1 9 = .ok (.if_icmp .ge 34, 3) := by decide +kernel
theorem d_C_isCaught_12 : decode m_C_isCaught.2.1 12 = .ok (.aload_n 0, 1) := by decide +kernel
theorem d_C_isCaught_13 : decode m_C_isCaught.2.1 13 = .ok (.getfield 19, 3) := by decide +kernel
theorem d_C_isCaught_16 : decode m_C_isCaught.2.1 16 = .ok (.aload_n 1, 1) := by decide +kernel
theorem d_C_isCaught_17 : decode m_C_isCaught.2.1 17 = .ok (.getfield 131, 3) := by decide +kernel
theorem d_C_isCaught_20 : decode m_C_isCaught.2.1 20 = .ok (.iload 4, 2) := by decide +kernel
theorem d_C_isCaught_22 : decode m_C_isCaught.2.1 22 = .ok (.iaload, 1) := by decide +kernel
theorem d_C_isCaught_23 : decode m_C_isCaught.2.1 23 = .ok (.iload_n 2, 1) := by decide +kernel
theorem d_C_isCaught_24 : decode m_C_isCaught.2.1 24 = .ok (.iload_n 3, 1) := by decide +kernel
theorem d_C_isCaught_25 : decode m_C_isCaught.2.1 25 = .ok (.invokevirtual 318, 3) := by decide +kernel
theorem d_C_isCaught_28 : decode m_C_isCaught.2.1 28 = .ok (.aload_n 0, 1) := by decide +kernel
theorem d_C_isCaught_29 : decode m_C_isCaught.2.1 29 = .ok (.getfield 58, 3) := by decide +kernel
theorem d_C_isCaught_32 : decode m_C_isCaught.2.1 32 = .ok (.if_icmp .gt 5, 3) := by decide +kernel
theorem d_C_isCaught_35 : decode m_C_isCaught.2.1 35 = .ok (.iconst 1, 1) := by decide +kernel
theorem d_C_isCaught_36 : decode m_C_isCaught.2.1 36 = .ok (.ireturn, 1) := by decide +kernel
theorem d_C_isCaught_37 : decode m_C_isCaught.2.1 37 = .ok (.iinc 4 1, 3) := by decide +kernel
theorem d_C_isCaught_40 : decode m_C_isCaught.2.1 40 = .ok (.goto (-37), 3) := by decide +kernel
theorem d_C_isCaught_43 : decode m_C_isCaught.2.1 43 = .ok (.iconst 0, 1) := by decide +kernel
theorem d_C_isCaught_44 : decode m_C_isCaught.2.1 44 = .ok (.ireturn, 1) := by decide +kernel
set_option maxHeartbeats 4000000 in
set_option maxRecDepth 20000 in
theorem Vl_C_isCaught_3 (G : Gt) : ∀ (n : Nat) (a1 : Nat) (x2 : Int32) (x3 : Int32) (x4 : Int32) (ha1 : isO 3 a1) (h : Hp), V G m_C_isCaught 3 [(0, .ref (ad G 0)), (1, .ref (ad G a1)), (2, .int x2), (3, .int x3), (4, .int x4)] [] h κi (l_C_isCaught_3 n a1 x2 x3 x4 h) := by
  intro n
  induction n with
  | zero => intros; exact v_none
  | succ n ih =>
    intro a1 x2 x3 x4 ha1 h
    rw [l_C_isCaught_3]
    refine v_iload 4 d_C_isCaught_3 rfl ?_
    refine v_aload_n 1 d_C_isCaught_5 rfl rfl ?_
    refine v_geti fl_C_130 ha1 rfl d_C_isCaught_6 ?_
    refine v_icmp_ge 43 d_C_isCaught_9 (by decide) (fun c1 => ?_) (fun c1 => ?_)
    · refine v_iconst 0 d_C_isCaught_43 rfl ?_
      exact v_zretL rfl rfl d_C_isCaught_44
    · refine v_aload_n 0 d_C_isCaught_12 rfl rfl ?_
      refine v_getr 3 fl_C_19 o_0 rfl rfl d_C_isCaught_13 ?_
      refine v_aload_n 1 d_C_isCaught_16 rfl rfl ?_
      refine v_getr (a1 + 1) fl_C_131 ha1 rfl rfl d_C_isCaught_17 ?_
      refine v_iload 4 d_C_isCaught_20 rfl ?_
      refine v_iald (spA ha1) d_C_isCaught_22 ?_
      refine v_iload_n 2 d_C_isCaught_23 rfl rfl ?_
      refine v_iload_n 3 d_C_isCaught_24 rfl rfl ?_
      refine v_callVi (As := [.int (h (a1 + 1) (ix x4)), .int x2, .int x3]) (rest := []) (c_Fr_apartFrom G 3 (h (a1 + 1) (ix x4)) x2 x3 o_3 h) co_C_318 io_Fr_apartFrom o_3 ⟨by decide, by decide⟩ rfl rfl (Nat.le_of_ble_eq_true rfl) d_C_isCaught_25 (fun r2 h2 _ => ?_)
      refine v_aload_n 0 d_C_isCaught_28 rfl rfl ?_
      refine v_geti fl_C_58 o_0 rfl d_C_isCaught_29 ?_
      refine v_icmp_gt 37 d_C_isCaught_32 (by decide) (fun c3 => ?_) (fun c3 => ?_)
      · refine v_iinc (x4 + 1) 4 [(4, .int (x4 + 1)), (0, .ref (ad G 0)), (1, .ref (ad G a1)), (2, .int x2), (3, .int x3)] d_C_isCaught_37 rfl rfl (by decide) rfl ?_
        refine v_goto 3 d_C_isCaught_40 (by decide) ?_
        exact v_sub [1, 2, 3, 4, 0] rfl (ih a1 x2 x3 (x4 + 1) ha1 h2)
      · refine v_iconst 1 d_C_isCaught_35 rfl ?_
        exact v_zretL rfl rfl d_C_isCaught_36
set_option maxHeartbeats 4000000 in
set_option maxRecDepth 20000 in
theorem c_C_isCaught (G : Gt) (a1 : Nat) (x2 : Int32) (x3 : Int32) (ha1 : isO 3 a1) (h : Hp) : Cn G m_C_isCaught [.ref (ad G 0), .ref (ad G a1), .int x2, .int x3] h κi (f_C_isCaught a1 x2 x3 h) := by
  refine entryV (by decide) (Nat.le_of_ble_eq_true rfl) rfl ?_
  show V G m_C_isCaught 0 [(0, .ref (ad G 0)), (1, .ref (ad G a1)), (2, .int x2), (3, .int x3)] [] h κi _
  unfold f_C_isCaught
  refine v_iconst 0 d_C_isCaught_0 rfl ?_
  refine v_istore [(4, .int 0), (0, .ref (ad G 0)), (1, .ref (ad G a1)), (2, .int x2), (3, .int x3)] d_C_isCaught_1 (by decide) rfl ?_
  exact v_sub [1, 2, 3, 4, 0] rfl (Vl_C_isCaught_3 G FUEL a1 x2 x3 0 ha1 h)
theorem d_C_flies_0 : decode m_C_flies.2.1 0 = .ok (.aload_n 0, 1) := by decide +kernel
theorem d_C_flies_1 : decode m_C_flies.2.1 1 = .ok (.iload_n 1, 1) := by decide +kernel
theorem d_C_flies_2 : decode m_C_flies.2.1 2 = .ok (.iload_n 2, 1) := by decide +kernel
theorem d_C_flies_3 : decode m_C_flies.2.1 3 = .ok (.invokevirtual 122, 3) := by decide +kernel
theorem d_C_flies_6 : decode m_C_flies.2.1 6 = .ok (.ifCond .eq 15, 3) := by decide +kernel
theorem d_C_flies_9 : decode m_C_flies.2.1 9 = .ok (.iload 4, 2) := by decide +kernel
theorem d_C_flies_11 : decode m_C_flies.2.1 11 = .ok (.ifCond .lt 10, 3) := by decide +kernel
theorem d_C_flies_14 : decode m_C_flies.2.1 14 = .ok (.iload 4, 2) := by decide +kernel
theorem d_C_flies_16 : decode m_C_flies.2.1 16 = .ok (.bipush 99, 2) := by decide +kernel
theorem d_C_flies_18 : decode m_C_flies.2.1 18 = .ok (.if_icmp .le 6, 3) := by decide +kernel
theorem d_C_flies_21 : decode m_C_flies.2.1 21 = .ok (.bipush (-2), 2) := by decide +kernel
theorem d_C_flies_23 : decode m_C_flies.2.1 23 = .ok (.ireturn, 1) := by decide +kernel
theorem d_C_flies_24 : decode m_C_flies.2.1 24 = .ok (.aload_n 0, 1) := by decide +kernel
theorem d_C_flies_25 : decode m_C_flies.2.1 25 = .ok (.iload_n 1, 1) := by decide +kernel
theorem d_C_flies_26 : decode m_C_flies.2.1 26 = .ok (.invokevirtual 91, 3) := by decide +kernel
theorem d_C_flies_29 : decode m_C_flies.2.1 29 = .ok (.ifCond .eq 6, 3) := by decide +kernel
theorem d_C_flies_32 : decode m_C_flies.2.1 32 = .ok (.bipush (-3), 2) := by decide +kernel
theorem d_C_flies_34 : decode m_C_flies.2.1 34 = .ok (.ireturn, 1) := by decide +kernel
theorem d_C_flies_35 : decode m_C_flies.2.1 35 = .ok (.aload_n 0, 1) := by decide +kernel
theorem d_C_flies_36 : decode m_C_flies.2.1 36 = .ok (.aload_n 0, 1) := by decide +kernel
theorem d_C_flies_37 : decode m_C_flies.2.1 37 = .ok (.getfield 28, 3) := by decide +kernel
theorem d_C_flies_40 : decode m_C_flies.2.1 40 = .ok (.iconst 0, 1) := by decide +kernel
theorem d_C_flies_41 : decode m_C_flies.2.1 41 = .ok (.aaload, 1) := by decide +kernel
theorem d_C_flies_42 : decode m_C_flies.2.1 42 = .ok (.aload_n 0, 1) := by decide +kernel
theorem d_C_flies_43 : decode m_C_flies.2.1 43 = .ok (.getfield 19, 3) := by decide +kernel
theorem d_C_flies_46 : decode m_C_flies.2.1 46 = .ok (.iload_n 1, 1) := by decide +kernel
theorem d_C_flies_47 : decode m_C_flies.2.1 47 = .ok (.iload_n 2, 1) := by decide +kernel
theorem d_C_flies_48 : decode m_C_flies.2.1 48 = .ok (.aload_n 0, 1) := by decide +kernel
theorem d_C_flies_49 : decode m_C_flies.2.1 49 = .ok (.getfield 49, 3) := by decide +kernel
theorem d_C_flies_52 : decode m_C_flies.2.1 52 = .ok (.invokevirtual 126, 3) := by decide +kernel
theorem d_C_flies_55 : decode m_C_flies.2.1 55 = .ok (.astore 5, 2) := by decide +kernel
theorem d_C_flies_57 : decode m_C_flies.2.1 57 = .ok (.iload_n 3, 1) := by decide +kernel
theorem d_C_flies_58 : decode m_C_flies.2.1 58 = .ok (.istore 6, 2) := by decide +kernel
theorem d_C_flies_60 : decode m_C_flies.2.1 60 = .ok (.iconst 0, 1) := by decide +kernel
theorem d_C_flies_61 : decode m_C_flies.2.1 61 = .ok (.istore 7, 2) := by decide +kernel
theorem d_C_flies_63 : decode m_C_flies.2.1 63 = .ok (.iconst 0, 1) := by decide +kernel
theorem d_C_flies_64 : decode m_C_flies.2.1 64 = .ok (.istore 8, 2) := by decide +kernel
theorem d_C_flies_66 : decode m_C_flies.2.1 66 = .ok (.iload 8, 2) := by decide +kernel
theorem d_C_flies_68 : decode m_C_flies.2.1 68 = .ok (.iload 4, 2) := by decide +kernel
theorem d_C_flies_70 : decode m_C_flies.2.1 70 = .ok (.if_icmp .ge 53, 3) := by decide +kernel
theorem d_C_flies_73 : decode m_C_flies.2.1 73 = .ok (.iload 6, 2) := by decide +kernel
theorem d_C_flies_75 : decode m_C_flies.2.1 75 = .ok (.invokestatic 202, 3) := by decide +kernel
theorem d_C_flies_78 : decode m_C_flies.2.1 78 = .ok (.istore 6, 2) := by decide +kernel
theorem d_C_flies_80 : decode m_C_flies.2.1 80 = .ok (.iload 6, 2) := by decide +kernel
theorem d_C_flies_82 : decode m_C_flies.2.1 82 = .ok (.invokestatic 205, 3) := by decide +kernel
theorem d_C_flies_85 : decode m_C_flies.2.1 85 = .ok (.istore 9, 2) := by decide +kernel
theorem d_C_flies_87 : decode m_C_flies.2.1 87 = .ok (.iload 6, 2) := by decide +kernel
theorem d_C_flies_89 : decode m_C_flies.2.1 89 = .ok (.invokestatic 202, 3) := by decide +kernel
theorem d_C_flies_92 : decode m_C_flies.2.1 92 = .ok (.istore 6, 2) := by decide +kernel
theorem d_C_flies_94 : decode m_C_flies.2.1 94 = .ok (.iload 6, 2) := by decide +kernel
theorem d_C_flies_96 : decode m_C_flies.2.1 96 = .ok (.invokestatic 205, 3) := by decide +kernel
theorem d_C_flies_99 : decode m_C_flies.2.1 99 = .ok (.istore 10, 2) := by decide +kernel
theorem d_C_flies_101 : decode m_C_flies.2.1 101 = .ok (.aload_n 0, 1) := by decide +kernel
theorem d_C_flies_102 : decode m_C_flies.2.1 102 = .ok (.aload 5, 2) := by decide +kernel
theorem d_C_flies_104 : decode m_C_flies.2.1 104 = .ok (.iload 9, 2) := by decide +kernel
theorem d_C_flies_106 : decode m_C_flies.2.1 106 = .ok (.iload 10, 2) := by decide +kernel
theorem d_C_flies_108 : decode m_C_flies.2.1 108 = .ok (.invokevirtual 208, 3) := by decide +kernel
theorem d_C_flies_111 : decode m_C_flies.2.1 111 = .ok (.ifCond .eq 6, 3) := by decide +kernel
theorem d_C_flies_114 : decode m_C_flies.2.1 114 = .ok (.iinc 7 1, 3) := by decide +kernel
theorem d_C_flies_117 : decode m_C_flies.2.1 117 = .ok (.iinc 8 1, 3) := by decide +kernel
theorem d_C_flies_120 : decode m_C_flies.2.1 120 = .ok (.goto (-54), 3) := by decide +kernel
theorem d_C_flies_123 : decode m_C_flies.2.1 123 = .ok (.iload 7, 2) := by decide +kernel
theorem d_C_flies_125 : decode m_C_flies.2.1 125 = .ok (.ireturn, 1) := by decide +kernel
set_option maxHeartbeats 4000000 in
set_option maxRecDepth 20000 in
theorem Vl_C_flies_66 (G : Gt) : ∀ (n : Nat) (x4 : Int32) (a5 : Nat) (x6 : Int32) (x7 : Int32) (x8 : Int32) (ha5 : isO 3 a5) (h : Hp), V G m_C_flies 66 [(0, .ref (ad G 0)), (4, .int x4), (5, .ref (ad G a5)), (6, .int x6), (7, .int x7), (8, .int x8)] [] h κi (l_C_flies_66 n x4 a5 x6 x7 x8 h) := by
  intro n
  induction n with
  | zero => intros; exact v_none
  | succ n ih =>
    intro x4 a5 x6 x7 x8 ha5 h
    rw [l_C_flies_66]
    refine v_iload 5 d_C_flies_66 rfl ?_
    refine v_iload 1 d_C_flies_68 rfl ?_
    refine v_icmp_ge 123 d_C_flies_70 (by decide) (fun c9 => ?_) (fun c9 => ?_)
    · refine v_iload 4 d_C_flies_123 rfl ?_
      exact v_iret rfl d_C_flies_125
    · refine v_iload 3 d_C_flies_73 rfl ?_
      refine v_callSi (As := [.int x6]) (rest := []) (c_C_nextLot G x6 h) co_C_202 so_C_nextLot ⟨by decide, by decide⟩ rfl rfl (Nat.le_of_ble_eq_true rfl) d_C_flies_75 (fun r10 h10 _ => ?_)
      refine v_istore [(6, .int r10), (0, .ref (ad G 0)), (4, .int x4), (5, .ref (ad G a5)), (7, .int x7), (8, .int x8)] d_C_flies_78 (by decide) rfl ?_
      refine v_iload 0 d_C_flies_80 rfl ?_
      refine v_callSi (As := [.int r10]) (rest := []) (c_C_placeByLot G r10 h10) co_C_205 so_C_placeByLot ⟨by decide, by decide⟩ rfl rfl (Nat.le_of_ble_eq_true rfl) d_C_flies_82 (fun r11 h11 _ => ?_)
      refine v_istore [(9, .int r11), (6, .int r10), (0, .ref (ad G 0)), (4, .int x4), (5, .ref (ad G a5)), (7, .int x7), (8, .int x8)] d_C_flies_85 (by decide) rfl ?_
      refine v_iload 1 d_C_flies_87 rfl ?_
      refine v_callSi (As := [.int r10]) (rest := []) (c_C_nextLot G r10 h11) co_C_202 so_C_nextLot ⟨by decide, by decide⟩ rfl rfl (Nat.le_of_ble_eq_true rfl) d_C_flies_89 (fun r12 h12 _ => ?_)
      refine v_istore [(6, .int r12), (9, .int r11), (0, .ref (ad G 0)), (4, .int x4), (5, .ref (ad G a5)), (7, .int x7), (8, .int x8)] d_C_flies_92 (by decide) rfl ?_
      refine v_iload 0 d_C_flies_94 rfl ?_
      refine v_callSi (As := [.int r12]) (rest := []) (c_C_placeByLot G r12 h12) co_C_205 so_C_placeByLot ⟨by decide, by decide⟩ rfl rfl (Nat.le_of_ble_eq_true rfl) d_C_flies_96 (fun r13 h13 _ => ?_)
      refine v_istore [(10, .int r13), (6, .int r12), (9, .int r11), (0, .ref (ad G 0)), (4, .int x4), (5, .ref (ad G a5)), (7, .int x7), (8, .int x8)] d_C_flies_99 (by decide) rfl ?_
      refine v_aload_n 3 d_C_flies_101 rfl rfl ?_
      refine v_aload 5 d_C_flies_102 rfl ?_
      refine v_iload 2 d_C_flies_104 rfl ?_
      refine v_iload 0 d_C_flies_106 rfl ?_
      refine v_callVi (As := [.ref (ad G a5), .int r11, .int r13]) (rest := []) (c_C_isCaught G a5 r11 r13 ha5 h13) co_C_208 io_C_isCaught o_0 ⟨by decide, by decide⟩ rfl rfl (Nat.le_of_ble_eq_true rfl) d_C_flies_108 (fun r14 h14 _ => ?_)
      refine v_if_eq 117 d_C_flies_111 (by decide) (fun c15 => ?_) (fun c15 => ?_)
      · refine v_iinc (x8 + 1) 7 [(8, .int (x8 + 1)), (10, .int r13), (6, .int r12), (9, .int r11), (0, .ref (ad G 0)), (4, .int x4), (5, .ref (ad G a5)), (7, .int x7)] d_C_flies_117 rfl rfl (by decide) rfl ?_
        refine v_goto 66 d_C_flies_120 (by decide) ?_
        exact v_sub [4, 5, 6, 2, 7, 0] rfl (ih x4 a5 r12 x7 (x8 + 1) ha5 h14)
      · refine v_iinc (x7 + 1) 6 [(7, .int (x7 + 1)), (10, .int r13), (6, .int r12), (9, .int r11), (0, .ref (ad G 0)), (4, .int x4), (5, .ref (ad G a5)), (8, .int x8)] d_C_flies_114 rfl rfl (by decide) rfl ?_
        refine v_iinc (x8 + 1) 7 [(8, .int (x8 + 1)), (7, .int (x7 + 1)), (10, .int r13), (6, .int r12), (9, .int r11), (0, .ref (ad G 0)), (4, .int x4), (5, .ref (ad G a5))] d_C_flies_117 rfl rfl (by decide) rfl ?_
        refine v_goto 66 d_C_flies_120 (by decide) ?_
        exact v_sub [5, 6, 7, 3, 1, 0] rfl (ih x4 a5 r12 (x7 + 1) (x8 + 1) ha5 h14)
set_option maxHeartbeats 4000000 in
set_option maxRecDepth 20000 in
theorem c_C_flies (G : Gt) (x1 : Int32) (x2 : Int32) (x3 : Int32) (x4 : Int32) (h : Hp) : Cn G m_C_flies [.ref (ad G 0), .int x1, .int x2, .int x3, .int x4] h κi (f_C_flies x1 x2 x3 x4 h) := by
  refine entryV (by decide) (Nat.le_of_ble_eq_true rfl) rfl ?_
  show V G m_C_flies 0 [(0, .ref (ad G 0)), (1, .int x1), (2, .int x2), (3, .int x3), (4, .int x4)] [] h κi _
  unfold f_C_flies
  refine v_aload_n 0 d_C_flies_0 rfl rfl ?_
  refine v_iload_n 1 d_C_flies_1 rfl rfl ?_
  refine v_iload_n 2 d_C_flies_2 rfl rfl ?_
  refine v_callVi (As := [.int x1, .int x2]) (rest := []) (c_C_canBeTold G x1 x2 h) co_C_122 io_C_canBeTold o_0 ⟨by decide, by decide⟩ rfl rfl (Nat.le_of_ble_eq_true rfl) d_C_flies_3 (fun r1 h1 _ => ?_)
  refine v_if_eq 21 d_C_flies_6 (by decide) (fun c2 => ?_) (fun c2 => ?_)
  · refine v_bipush (-2) d_C_flies_21 rfl ?_
    exact v_iret rfl d_C_flies_23
  · refine v_iload 4 d_C_flies_9 rfl ?_
    refine v_if_lt 21 d_C_flies_11 (by decide) (fun c3 => ?_) (fun c3 => ?_)
    · refine v_bipush (-2) d_C_flies_21 rfl ?_
      exact v_iret rfl d_C_flies_23
    · refine v_iload 4 d_C_flies_14 rfl ?_
      refine v_bipush 99 d_C_flies_16 rfl ?_
      refine v_icmp_le 24 d_C_flies_18 (by decide) (fun c4 => ?_) (fun c4 => ?_)
      · refine v_aload_n 0 d_C_flies_24 rfl rfl ?_
        refine v_iload_n 1 d_C_flies_25 rfl rfl ?_
        refine v_callVi (As := [.int x1]) (rest := []) (c_C_isHidden G x1 h1) co_C_91 io_C_isHidden o_0 ⟨by decide, by decide⟩ rfl rfl (Nat.le_of_ble_eq_true rfl) d_C_flies_26 (fun r5 h5 _ => ?_)
        refine v_if_eq 35 d_C_flies_29 (by decide) (fun c6 => ?_) (fun c6 => ?_)
        · refine v_aload_n 0 d_C_flies_35 rfl rfl ?_
          refine v_aload_n 0 d_C_flies_36 rfl rfl ?_
          refine v_getr 9 fl_C_28 o_0 rfl rfl d_C_flies_37 ?_
          refine v_iconst 0 d_C_flies_40 rfl ?_
          refine v_aald2 15 rfl ar_9 d_C_flies_41 (fun b7 => ?_)
          refine v_aload_n 0 d_C_flies_42 rfl rfl ?_
          refine v_getr 3 fl_C_19 o_0 rfl rfl d_C_flies_43 ?_
          refine v_iload_n 1 d_C_flies_46 rfl rfl ?_
          refine v_iload_n 2 d_C_flies_47 rfl rfl ?_
          refine v_aload_n 0 d_C_flies_48 rfl rfl ?_
          refine v_geti fl_C_49 o_0 rfl d_C_flies_49 ?_
          refine v_callVr (As := [.ref (ad G 15), .ref (ad G 3), .int x1, .int x2, .int (h5 0 7)]) (rest := []) (c_C_lay G 15 3 x1 x2 (h5 0 7) o_15 o_3 h5) co_C_126 io_C_lay o_0 ⟨by decide, by decide⟩ rfl rfl (Nat.le_of_ble_eq_true rfl) d_C_flies_52 (fun r8 h8 z8 => ?_)
          have e8 := lay_isO o_15 z8
          refine v_astore [(5, .ref (ad G r8)), (0, .ref (ad G 0)), (1, .int x1), (2, .int x2), (3, .int x3), (4, .int x4)] d_C_flies_55 (by decide) rfl ?_
          refine v_iload_n 4 d_C_flies_57 rfl rfl ?_
          refine v_istore [(6, .int x3), (5, .ref (ad G r8)), (0, .ref (ad G 0)), (1, .int x1), (2, .int x2), (3, .int x3), (4, .int x4)] d_C_flies_58 (by decide) rfl ?_
          refine v_iconst 0 d_C_flies_60 rfl ?_
          refine v_istore [(7, .int 0), (6, .int x3), (5, .ref (ad G r8)), (0, .ref (ad G 0)), (1, .int x1), (2, .int x2), (3, .int x3), (4, .int x4)] d_C_flies_61 (by decide) rfl ?_
          refine v_iconst 0 d_C_flies_63 rfl ?_
          refine v_istore [(8, .int 0), (7, .int 0), (6, .int x3), (5, .ref (ad G r8)), (0, .ref (ad G 0)), (1, .int x1), (2, .int x2), (3, .int x3), (4, .int x4)] d_C_flies_64 (by decide) rfl ?_
          exact v_sub [4, 8, 3, 2, 1, 0] rfl (Vl_C_flies_66 G FUEL x4 r8 x3 0 0 e8 h8)
        · refine v_bipush (-3) d_C_flies_32 rfl ?_
          exact v_iret rfl d_C_flies_34
      · refine v_bipush (-2) d_C_flies_21 rfl ?_
        exact v_iret rfl d_C_flies_23
theorem d_C_dew_0 : decode m_C_dew.2.1 0 = .ok (.aload_n 0, 1) := by decide +kernel
theorem d_C_dew_1 : decode m_C_dew.2.1 1 = .ok (.iload_n 1, 1) := by decide +kernel
theorem d_C_dew_2 : decode m_C_dew.2.1 2 = .ok (.iload_n 2, 1) := by decide +kernel
theorem d_C_dew_3 : decode m_C_dew.2.1 3 = .ok (.invokevirtual 122, 3) := by decide +kernel
theorem d_C_dew_6 : decode m_C_dew.2.1 6 = .ok (.ifCond .eq 10, 3) := by decide +kernel
theorem d_C_dew_9 : decode m_C_dew.2.1 9 = .ok (.iload_n 3, 1) := by decide +kernel
theorem d_C_dew_10 : decode m_C_dew.2.1 10 = .ok (.invokestatic 98, 3) := by decide +kernel
theorem d_C_dew_13 : decode m_C_dew.2.1 13 = .ok (.ifCond .ne 6, 3) := by decide +kernel
theorem d_C_dew_16 : decode m_C_dew.2.1 16 = .ok (.bipush (-2), 2) := by decide +kernel
theorem d_C_dew_18 : decode m_C_dew.2.1 18 = .ok (.ireturn, 1) := by decide +kernel
theorem d_C_dew_19 : decode m_C_dew.2.1 19 = .ok (.aload_n 0, 1) := by decide +kernel
theorem d_C_dew_20 : decode m_C_dew.2.1 20 = .ok (.getfield 41, 3) := by decide +kernel
theorem d_C_dew_23 : decode m_C_dew.2.1 23 = .ok (.iload_n 3, 1) := by decide +kernel
theorem d_C_dew_24 : decode m_C_dew.2.1 24 = .ok (.aaload, 1) := by decide +kernel
theorem d_C_dew_25 : decode m_C_dew.2.1 25 = .ok (.astore 4, 2) := by decide +kernel
theorem d_C_dew_27 : decode m_C_dew.2.1 27 = .ok (.aload 4, 2) := by decide +kernel
theorem d_C_dew_29 : decode m_C_dew.2.1 29 = .ok (.getfield 101, 3) := by decide +kernel
theorem d_C_dew_32 : decode m_C_dew.2.1 32 = .ok (.ifCond .eq 9, 3) := by decide +kernel
theorem d_C_dew_35 : decode m_C_dew.2.1 35 = .ok (.aload_n 0, 1) := by decide +kernel
theorem d_C_dew_36 : decode m_C_dew.2.1 36 = .ok (.iconst 1, 1) := by decide +kernel
theorem d_C_dew_37 : decode m_C_dew.2.1 37 = .ok (.invokevirtual 105, 3) := by decide +kernel
theorem d_C_dew_40 : decode m_C_dew.2.1 40 = .ok (.ireturn, 1) := by decide +kernel
theorem d_C_dew_41 : decode m_C_dew.2.1 41 = .ok (.aload_n 0, 1) := by decide +kernel
theorem d_C_dew_42 : decode m_C_dew.2.1 42 = .ok (.iload_n 1, 1) := by decide +kernel
theorem d_C_dew_43 : decode m_C_dew.2.1 43 = .ok (.invokevirtual 91, 3) := by decide +kernel
theorem d_C_dew_46 : decode m_C_dew.2.1 46 = .ok (.ifCond .eq 6, 3) := by decide +kernel
theorem d_C_dew_49 : decode m_C_dew.2.1 49 = .ok (.bipush (-3), 2) := by decide +kernel
theorem d_C_dew_51 : decode m_C_dew.2.1 51 = .ok (.ireturn, 1) := by decide +kernel
theorem d_C_dew_52 : decode m_C_dew.2.1 52 = .ok (.aload_n 0, 1) := by decide +kernel
theorem d_C_dew_53 : decode m_C_dew.2.1 53 = .ok (.aload_n 0, 1) := by decide +kernel
theorem d_C_dew_54 : decode m_C_dew.2.1 54 = .ok (.getfield 28, 3) := by decide +kernel
theorem d_C_dew_57 : decode m_C_dew.2.1 57 = .ok (.iconst 0, 1) := by decide +kernel
theorem d_C_dew_58 : decode m_C_dew.2.1 58 = .ok (.aaload, 1) := by decide +kernel
theorem d_C_dew_59 : decode m_C_dew.2.1 59 = .ok (.aload_n 0, 1) := by decide +kernel
theorem d_C_dew_60 : decode m_C_dew.2.1 60 = .ok (.getfield 19, 3) := by decide +kernel
theorem d_C_dew_63 : decode m_C_dew.2.1 63 = .ok (.iload_n 1, 1) := by decide +kernel
theorem d_C_dew_64 : decode m_C_dew.2.1 64 = .ok (.iload_n 2, 1) := by decide +kernel
theorem d_C_dew_65 : decode m_C_dew.2.1 65 = .ok (.aload_n 0, 1) := by decide +kernel
theorem d_C_dew_66 : decode m_C_dew.2.1 66 = .ok (.getfield 49, 3) := by decide +kernel
theorem d_C_dew_69 : decode m_C_dew.2.1 69 = .ok (.invokevirtual 126, 3) := by decide +kernel
theorem d_C_dew_72 : decode m_C_dew.2.1 72 = .ok (.astore 5, 2) := by decide +kernel
theorem d_C_dew_74 : decode m_C_dew.2.1 74 = .ok (.iconst 0, 1) := by decide +kernel
theorem d_C_dew_75 : decode m_C_dew.2.1 75 = .ok (.istore 6, 2) := by decide +kernel
theorem d_C_dew_77 : decode m_C_dew.2.1 77 = .ok (.iload 6, 2) := by decide +kernel
theorem d_C_dew_79 : decode m_C_dew.2.1 79 = .ok (.aload 4, 2) := by decide +kernel
theorem d_C_dew_81 : decode m_C_dew.2.1 81 = .ok (.getfield 109, 3) := by decide +kernel
theorem d_C_dew_84 : decode m_C_dew.2.1 84 = .ok (.if_icmp .ge 60, 3) := by decide +kernel
theorem d_C_dew_87 : decode m_C_dew.2.1 87 = .ok (.iload 6, 2) := by decide +kernel
theorem d_C_dew_89 : decode m_C_dew.2.1 89 = .ok (.iconst 1, 1) := by decide +kernel
theorem d_C_dew_90 : decode m_C_dew.2.1 90 = .ok (.iadd, 1) := by decide +kernel
theorem d_C_dew_91 : decode m_C_dew.2.1 91 = .ok (.aload 5, 2) := by decide +kernel
theorem d_C_dew_93 : decode m_C_dew.2.1 93 = .ok (.getfield 130, 3) := by decide +kernel
theorem d_C_dew_96 : decode m_C_dew.2.1 96 = .ok (.if_icmp .ge 48, 3) := by decide +kernel
theorem d_C_dew_99 : decode m_C_dew.2.1 99 = .ok (.aload 4, 2) := by decide +kernel
theorem d_C_dew_101 : decode m_C_dew.2.1 101 = .ok (.getfield 116, 3) := by decide +kernel
theorem d_C_dew_104 : decode m_C_dew.2.1 104 = .ok (.iload 6, 2) := by decide +kernel
theorem d_C_dew_106 : decode m_C_dew.2.1 106 = .ok (.iaload, 1) := by decide +kernel
theorem d_C_dew_107 : decode m_C_dew.2.1 107 = .ok (.aload_n 0, 1) := by decide +kernel
theorem d_C_dew_108 : decode m_C_dew.2.1 108 = .ok (.getfield 19, 3) := by decide +kernel
theorem d_C_dew_111 : decode m_C_dew.2.1 111 = .ok (.aload 5, 2) := by decide +kernel
theorem d_C_dew_113 : decode m_C_dew.2.1 113 = .ok (.getfield 131, 3) := by decide +kernel
theorem d_C_dew_116 : decode m_C_dew.2.1 116 = .ok (.iload 6, 2) := by decide +kernel
theorem d_C_dew_118 : decode m_C_dew.2.1 118 = .ok (.iaload, 1) := by decide +kernel
theorem d_C_dew_119 : decode m_C_dew.2.1 119 = .ok (.aload 5, 2) := by decide +kernel
theorem d_C_dew_121 : decode m_C_dew.2.1 121 = .ok (.getfield 131, 3) := by decide +kernel
theorem d_C_dew_124 : decode m_C_dew.2.1 124 = .ok (.iload 6, 2) := by decide +kernel
theorem d_C_dew_126 : decode m_C_dew.2.1 126 = .ok (.iconst 1, 1) := by decide +kernel
theorem d_C_dew_127 : decode m_C_dew.2.1 127 = .ok (.iadd, 1) := by decide +kernel
theorem d_C_dew_128 : decode m_C_dew.2.1 128 = .ok (.iaload, 1) := by decide +kernel
theorem d_C_dew_129 : decode m_C_dew.2.1 129 = .ok (.invokevirtual 119, 3) := by decide +kernel
theorem d_C_dew_132 : decode m_C_dew.2.1 132 = .ok (.if_icmp .le 6, 3) := by decide +kernel
theorem d_C_dew_135 : decode m_C_dew.2.1 135 = .ok (.iload 6, 2) := by decide +kernel
theorem d_C_dew_137 : decode m_C_dew.2.1 137 = .ok (.ireturn, 1) := by decide +kernel
theorem d_C_dew_138 : decode m_C_dew.2.1 138 = .ok (.iinc 6 1, 3) := by decide +kernel
theorem d_C_dew_141 : decode m_C_dew.2.1 141 = .ok (.goto (-64), 3) := by decide +kernel
theorem d_C_dew_144 : decode m_C_dew.2.1 144 = .ok (.iconst (-1), 1) := by decide +kernel
theorem d_C_dew_145 : decode m_C_dew.2.1 145 = .ok (.ireturn, 1) := by decide +kernel
set_option maxHeartbeats 4000000 in
set_option maxRecDepth 20000 in
theorem Vl_C_dew_77 (G : Gt) : ∀ (n : Nat) (a4 : Nat) (a5 : Nat) (x6 : Int32) (ha4 : isO 2 a4) (ha5 : isO 3 a5) (h : Hp), V G m_C_dew 77 [(0, .ref (ad G 0)), (4, .ref (ad G a4)), (5, .ref (ad G a5)), (6, .int x6)] [] h κi (l_C_dew_77 n a4 a5 x6 h) := by
  intro n
  induction n with
  | zero => intros; exact v_none
  | succ n ih =>
    intro a4 a5 x6 ha4 ha5 h
    rw [l_C_dew_77]
    refine v_iload 3 d_C_dew_77 rfl ?_
    refine v_aload 1 d_C_dew_79 rfl ?_
    refine v_geti fl_C_109 ha4 rfl d_C_dew_81 ?_
    refine v_icmp_ge 144 d_C_dew_84 (by decide) (fun c11 => ?_) (fun c11 => ?_)
    · refine v_iconst (-1) d_C_dew_144 rfl ?_
      exact v_iret rfl d_C_dew_145
    · refine v_iload 3 d_C_dew_87 rfl ?_
      refine v_iconst 1 d_C_dew_89 rfl ?_
      refine v_iadd d_C_dew_90 ?_
      refine v_aload 2 d_C_dew_91 rfl ?_
      refine v_geti fl_C_130 ha5 rfl d_C_dew_93 ?_
      refine v_icmp_ge 144 d_C_dew_96 (by decide) (fun c12 => ?_) (fun c12 => ?_)
      · refine v_iconst (-1) d_C_dew_144 rfl ?_
        exact v_iret rfl d_C_dew_145
      · refine v_aload 1 d_C_dew_99 rfl ?_
        refine v_getr (a4 + 1) fl_C_116 ha4 rfl rfl d_C_dew_101 ?_
        refine v_iload 3 d_C_dew_104 rfl ?_
        refine v_iald (shA ha4) d_C_dew_106 ?_
        refine v_aload_n 0 d_C_dew_107 rfl rfl ?_
        refine v_getr 3 fl_C_19 o_0 rfl rfl d_C_dew_108 ?_
        refine v_aload 2 d_C_dew_111 rfl ?_
        refine v_getr (a5 + 1) fl_C_131 ha5 rfl rfl d_C_dew_113 ?_
        refine v_iload 3 d_C_dew_116 rfl ?_
        refine v_iald (spA ha5) d_C_dew_118 ?_
        refine v_aload 2 d_C_dew_119 rfl ?_
        refine v_getr (a5 + 1) fl_C_131 ha5 rfl rfl d_C_dew_121 ?_
        refine v_iload 3 d_C_dew_124 rfl ?_
        refine v_iconst 1 d_C_dew_126 rfl ?_
        refine v_iadd d_C_dew_127 ?_
        refine v_iald (spA ha5) d_C_dew_128 ?_
        refine v_callVi (As := [.int (h (a5 + 1) (ix x6)), .int (h (a5 + 1) (ix (x6 + 1)))]) (rest := [.int (h (a4 + 1) (ix x6))]) (c_Fr_apart G 3 (h (a5 + 1) (ix x6)) (h (a5 + 1) (ix (x6 + 1))) o_3 h) co_C_119 io_Fr_apart o_3 ⟨by decide, by decide⟩ rfl rfl (Nat.le_of_ble_eq_true rfl) d_C_dew_129 (fun r13 h13 _ => ?_)
        refine v_icmp_le 138 d_C_dew_132 (by decide) (fun c14 => ?_) (fun c14 => ?_)
        · refine v_iinc (x6 + 1) 3 [(6, .int (x6 + 1)), (0, .ref (ad G 0)), (4, .ref (ad G a4)), (5, .ref (ad G a5))] d_C_dew_138 rfl rfl (by decide) rfl ?_
          refine v_goto 77 d_C_dew_141 (by decide) ?_
          exact v_sub [1, 2, 3, 0] rfl (ih a4 a5 (x6 + 1) ha4 ha5 h13)
        · refine v_iload 3 d_C_dew_135 rfl ?_
          exact v_iret rfl d_C_dew_137
set_option maxHeartbeats 4000000 in
set_option maxRecDepth 20000 in
theorem c_C_dew (G : Gt) (x1 : Int32) (x2 : Int32) (x3 : Int32) (h : Hp) : Cn G m_C_dew [.ref (ad G 0), .int x1, .int x2, .int x3] h κi (f_C_dew x1 x2 x3 h) := by
  refine entryV (by decide) (Nat.le_of_ble_eq_true rfl) rfl ?_
  show V G m_C_dew 0 [(0, .ref (ad G 0)), (1, .int x1), (2, .int x2), (3, .int x3)] [] h κi _
  unfold f_C_dew
  refine v_aload_n 0 d_C_dew_0 rfl rfl ?_
  refine v_iload_n 1 d_C_dew_1 rfl rfl ?_
  refine v_iload_n 2 d_C_dew_2 rfl rfl ?_
  refine v_callVi (As := [.int x1, .int x2]) (rest := []) (c_C_canBeTold G x1 x2 h) co_C_122 io_C_canBeTold o_0 ⟨by decide, by decide⟩ rfl rfl (Nat.le_of_ble_eq_true rfl) d_C_dew_3 (fun r1 h1 _ => ?_)
  refine v_if_eq 16 d_C_dew_6 (by decide) (fun c2 => ?_) (fun c2 => ?_)
  · refine v_bipush (-2) d_C_dew_16 rfl ?_
    exact v_iret rfl d_C_dew_18
  · refine v_iload_n 3 d_C_dew_9 rfl rfl ?_
    refine v_callSi (As := [.int x3]) (rest := []) (c_C_isSheet G x3 h1) co_C_98 so_C_isSheet ⟨by decide, by decide⟩ rfl rfl (Nat.le_of_ble_eq_true rfl) d_C_dew_10 (fun r3 h3 _ => ?_)
    refine v_if_ne 19 d_C_dew_13 (by decide) (fun c4 => ?_) (fun c4 => ?_)
    · refine v_bipush (-2) d_C_dew_16 rfl ?_
      exact v_iret rfl d_C_dew_18
    · refine v_aload_n 0 d_C_dew_19 rfl rfl ?_
      refine v_getr 14 fl_C_41 o_0 rfl rfl d_C_dew_20 ?_
      refine v_iload_n 3 d_C_dew_23 rfl rfl ?_
      refine v_aald3 (23 + 2 * ix x3) rfl ar_14 d_C_dew_24 (fun b5 => ?_)
      refine v_astore [(4, .ref (ad G (23 + 2 * ix x3))), (0, .ref (ad G 0)), (1, .int x1), (2, .int x2), (3, .int x3)] d_C_dew_25 (by decide) rfl ?_
      refine v_aload 0 d_C_dew_27 rfl ?_
      refine v_geti fl_C_101 (sh_o b5) rfl d_C_dew_29 ?_
      refine v_if_eq 41 d_C_dew_32 (by decide) (fun c6 => ?_) (fun c6 => ?_)
      · refine v_aload_n 1 d_C_dew_41 rfl rfl ?_
        refine v_iload_n 2 d_C_dew_42 rfl rfl ?_
        refine v_callVi (As := [.int x1]) (rest := []) (c_C_isHidden G x1 h3) co_C_91 io_C_isHidden o_0 ⟨by decide, by decide⟩ rfl rfl (Nat.le_of_ble_eq_true rfl) d_C_dew_43 (fun r7 h7 _ => ?_)
        refine v_if_eq 52 d_C_dew_46 (by decide) (fun c8 => ?_) (fun c8 => ?_)
        · refine v_aload_n 1 d_C_dew_52 rfl rfl ?_
          refine v_aload_n 1 d_C_dew_53 rfl rfl ?_
          refine v_getr 9 fl_C_28 o_0 rfl rfl d_C_dew_54 ?_
          refine v_iconst 0 d_C_dew_57 rfl ?_
          refine v_aald2 15 rfl ar_9 d_C_dew_58 (fun b9 => ?_)
          refine v_aload_n 1 d_C_dew_59 rfl rfl ?_
          refine v_getr 3 fl_C_19 o_0 rfl rfl d_C_dew_60 ?_
          refine v_iload_n 2 d_C_dew_63 rfl rfl ?_
          refine v_iload_n 3 d_C_dew_64 rfl rfl ?_
          refine v_aload_n 1 d_C_dew_65 rfl rfl ?_
          refine v_geti fl_C_49 o_0 rfl d_C_dew_66 ?_
          refine v_callVr (As := [.ref (ad G 15), .ref (ad G 3), .int x1, .int x2, .int (h7 0 7)]) (rest := []) (c_C_lay G 15 3 x1 x2 (h7 0 7) o_15 o_3 h7) co_C_126 io_C_lay o_0 ⟨by decide, by decide⟩ rfl rfl (Nat.le_of_ble_eq_true rfl) d_C_dew_69 (fun r10 h10 z10 => ?_)
          have e10 := lay_isO o_15 z10
          refine v_astore [(5, .ref (ad G r10)), (4, .ref (ad G (23 + 2 * ix x3))), (0, .ref (ad G 0)), (1, .int x1), (2, .int x2), (3, .int x3)] d_C_dew_72 (by decide) rfl ?_
          refine v_iconst 0 d_C_dew_74 rfl ?_
          refine v_istore [(6, .int 0), (5, .ref (ad G r10)), (4, .ref (ad G (23 + 2 * ix x3))), (0, .ref (ad G 0)), (1, .int x1), (2, .int x2), (3, .int x3)] d_C_dew_75 (by decide) rfl ?_
          exact v_sub [3, 2, 1, 0] rfl (Vl_C_dew_77 G FUEL (23 + 2 * ix x3) r10 0 (sh_o b5) e10 h10)
        · refine v_bipush (-3) d_C_dew_49 rfl ?_
          exact v_iret rfl d_C_dew_51
      · refine v_aload_n 1 d_C_dew_35 rfl rfl ?_
        refine v_iconst 1 d_C_dew_36 rfl ?_
        refine v_callVi (As := [.int 1]) (rest := []) (c_C_found G 1 h3) co_C_105 io_C_found o_0 ⟨by decide, by decide⟩ rfl rfl (Nat.le_of_ble_eq_true rfl) d_C_dew_37 (fun r15 h15 _ => ?_)
        exact v_iret rfl d_C_dew_40
theorem d_C_isForm_0 : decode m_C_isForm.2.1 0 = .ok (.iload_n 0, 1) := by decide +kernel
theorem d_C_isForm_1 : decode m_C_isForm.2.1 1 = .ok (.ifCond .lt 12, 3) := by decide +kernel
theorem d_C_isForm_4 : decode m_C_isForm.2.1 4 = .ok (.iload_n 0, 1) := by decide +kernel
theorem d_C_isForm_5 : decode m_C_isForm.2.1 5 = .ok (.iconst 2, 1) := by decide +kernel
theorem d_C_isForm_6 : decode m_C_isForm.2.1 6 = .ok (.if_icmp .gt 7, 3) := by decide +kernel
theorem d_C_isForm_9 : decode m_C_isForm.2.1 9 = .ok (.iconst 1, 1) := by decide +kernel
theorem d_C_isForm_10 : decode m_C_isForm.2.1 10 = .ok (.goto 4, 3) := by decide +kernel
theorem d_C_isForm_13 : decode m_C_isForm.2.1 13 = .ok (.iconst 0, 1) := by decide +kernel
theorem d_C_isForm_14 : decode m_C_isForm.2.1 14 = .ok (.ireturn, 1) := by decide +kernel
set_option maxHeartbeats 4000000 in
set_option maxRecDepth 20000 in
theorem c_C_isForm (G : Gt) (x0 : Int32) (h : Hp) : Cn G m_C_isForm [.int x0] h κi (f_C_isForm x0 h) := by
  refine entryV (by decide) (Nat.le_of_ble_eq_true rfl) rfl ?_
  show V G m_C_isForm 0 [(0, .int x0)] [] h κi _
  unfold f_C_isForm
  refine v_iload_n 0 d_C_isForm_0 rfl rfl ?_
  refine v_if_lt 13 d_C_isForm_1 (by decide) (fun c1 => ?_) (fun c1 => ?_)
  · refine v_iconst 0 d_C_isForm_13 rfl ?_
    exact v_zretL rfl rfl d_C_isForm_14
  · refine v_iload_n 0 d_C_isForm_4 rfl rfl ?_
    refine v_iconst 2 d_C_isForm_5 rfl ?_
    refine v_icmp_gt 13 d_C_isForm_6 (by decide) (fun c2 => ?_) (fun c2 => ?_)
    · refine v_iconst 0 d_C_isForm_13 rfl ?_
      exact v_zretL rfl rfl d_C_isForm_14
    · refine v_iconst 1 d_C_isForm_9 rfl ?_
      refine v_goto 14 d_C_isForm_10 (by decide) ?_
      exact v_zretL rfl rfl d_C_isForm_14
theorem d_Sh_renew_0 : decode m_Sh_renew.2.1 0 = .ok (.aload_n 0, 1) := by decide +kernel
theorem d_Sh_renew_1 : decode m_Sh_renew.2.1 1 = .ok (.iconst 0, 1) := by decide +kernel
theorem d_Sh_renew_2 : decode m_Sh_renew.2.1 2 = .ok (.putfield 15, 3) := by decide +kernel
theorem d_Sh_renew_5 : decode m_Sh_renew.2.1 5 = .ok (.aload_n 0, 1) := by decide +kernel
theorem d_Sh_renew_6 : decode m_Sh_renew.2.1 6 = .ok (.iload_n 1, 1) := by decide +kernel
theorem d_Sh_renew_7 : decode m_Sh_renew.2.1 7 = .ok (.putfield 19, 3) := by decide +kernel
theorem d_Sh_renew_10 : decode m_Sh_renew.2.1 10 = .ok (.aload_n 0, 1) := by decide +kernel
theorem d_Sh_renew_11 : decode m_Sh_renew.2.1 11 = .ok (.iload_n 2, 1) := by decide +kernel
theorem d_Sh_renew_12 : decode m_Sh_renew.2.1 12 = .ok (.bipush 48, 2) := by decide +kernel
theorem d_Sh_renew_14 : decode m_Sh_renew.2.1 14 = .ok (.invokestatic 26, 3) := by decide +kernel
theorem d_Sh_renew_17 : decode m_Sh_renew.2.1 17 = .ok (.putfield 23, 3) := by decide +kernel
theorem d_Sh_renew_20 : decode m_Sh_renew.2.1 20 = .ok (.iconst 0, 1) := by decide +kernel
theorem d_Sh_renew_21 : decode m_Sh_renew.2.1 21 = .ok (.istore_n 3, 1) := by decide +kernel
theorem d_Sh_renew_22 : decode m_Sh_renew.2.1 22 = .ok (.iload_n 3, 1) := by decide +kernel
theorem d_Sh_renew_23 : decode m_Sh_renew.2.1 23 = .ok (.aload_n 0, 1) := by decide +kernel
theorem d_Sh_renew_24 : decode m_Sh_renew.2.1 24 = .ok (.getfield 23, 3) := by decide +kernel
theorem d_Sh_renew_27 : decode m_Sh_renew.2.1 27 = .ok (.if_icmp .ge 16, 3) := by decide +kernel
theorem d_Sh_renew_30 : decode m_Sh_renew.2.1 30 = .ok (.aload_n 0, 1) := by decide +kernel
theorem d_Sh_renew_31 : decode m_Sh_renew.2.1 31 = .ok (.getfield 9, 3) := by decide +kernel
theorem d_Sh_renew_34 : decode m_Sh_renew.2.1 34 = .ok (.iload_n 3, 1) := by decide +kernel
theorem d_Sh_renew_35 : decode m_Sh_renew.2.1 35 = .ok (.iconst 0, 1) := by decide +kernel
theorem d_Sh_renew_36 : decode m_Sh_renew.2.1 36 = .ok (.iastore, 1) := by decide +kernel
theorem d_Sh_renew_37 : decode m_Sh_renew.2.1 37 = .ok (.iinc 3 1, 3) := by decide +kernel
theorem d_Sh_renew_40 : decode m_Sh_renew.2.1 40 = .ok (.goto (-18), 3) := by decide +kernel
theorem d_Sh_renew_43 : decode m_Sh_renew.2.1 43 = .ok (.return_, 1) := by decide +kernel
set_option maxHeartbeats 4000000 in
set_option maxRecDepth 20000 in
theorem Vl_Sh_renew_22 (G : Gt) : ∀ (n : Nat) (a0 : Nat) (x3 : Int32) (ha0 : isO 2 a0) (h : Hp), V G m_Sh_renew 22 [(0, .ref (ad G a0)), (3, .int x3)] [] h κv (l_Sh_renew_22 n a0 x3 h) := by
  intro n
  induction n with
  | zero => intros; exact v_none
  | succ n ih =>
    intro a0 x3 ha0 h
    rw [l_Sh_renew_22]
    refine v_iload_n 1 d_Sh_renew_22 rfl rfl ?_
    refine v_aload_n 0 d_Sh_renew_23 rfl rfl ?_
    refine v_geti fl_Sh_23 ha0 rfl d_Sh_renew_24 ?_
    refine v_icmp_ge 43 d_Sh_renew_27 (by decide) (fun c2 => ?_) (fun c2 => ?_)
    · exact v_vret rfl d_Sh_renew_43
    · refine v_aload_n 0 d_Sh_renew_30 rfl rfl ?_
      refine v_getr (a0 + 1) fl_Sh_9 ha0 rfl rfl d_Sh_renew_31 ?_
      refine v_iload_n 1 d_Sh_renew_34 rfl rfl ?_
      refine v_iconst 0 d_Sh_renew_35 rfl ?_
      refine v_iast (shA ha0) d_Sh_renew_36 ?_
      refine v_iinc (x3 + 1) 1 [(3, .int (x3 + 1)), (0, .ref (ad G a0))] d_Sh_renew_37 rfl rfl (by decide) rfl ?_
      refine v_goto 22 d_Sh_renew_40 (by decide) ?_
      exact v_sub [1, 0] rfl (ih a0 (x3 + 1) ha0 (hset h (a0 + 1) (ix x3) 0))
set_option maxHeartbeats 4000000 in
set_option maxRecDepth 20000 in
theorem c_Sh_renew (G : Gt) (a0 : Nat) (x1 : Int32) (x2 : Int32) (ha0 : isO 2 a0) (h : Hp) : Cn G m_Sh_renew [.ref (ad G a0), .int x1, .int x2] h κv (f_Sh_renew a0 x1 x2 h) := by
  refine entryV (by decide) (Nat.le_of_ble_eq_true rfl) rfl ?_
  show V G m_Sh_renew 0 [(0, .ref (ad G a0)), (1, .int x1), (2, .int x2)] [] h κv _
  unfold f_Sh_renew
  refine v_aload_n 0 d_Sh_renew_0 rfl rfl ?_
  refine v_iconst 0 d_Sh_renew_1 rfl ?_
  refine v_puti fl_Sh_15 ft_2_1 rfl rfl ha0 rfl d_Sh_renew_2 ?_
  refine v_aload_n 0 d_Sh_renew_5 rfl rfl ?_
  refine v_iload_n 1 d_Sh_renew_6 rfl rfl ?_
  refine v_puti fl_Sh_19 ft_2_2 rfl rfl ha0 rfl d_Sh_renew_7 ?_
  refine v_aload_n 0 d_Sh_renew_10 rfl rfl ?_
  refine v_iload_n 2 d_Sh_renew_11 rfl rfl ?_
  refine v_bipush 48 d_Sh_renew_12 rfl ?_
  refine v_mmin (mem_t 448 (by decide +kernel) rfl) ⟨by decide, by decide⟩ (Nat.le_of_ble_eq_true rfl) d_Sh_renew_14 ?_
  refine v_puti fl_Sh_23 ft_2_3 rfl rfl ha0 rfl d_Sh_renew_17 ?_
  refine v_iconst 0 d_Sh_renew_20 rfl ?_
  refine v_istore_n [(3, .int 0), (0, .ref (ad G a0)), (1, .int x1), (2, .int x2)] d_Sh_renew_21 rfl (by decide) rfl ?_
  exact v_sub [1, 0] rfl (Vl_Sh_renew_22 G FUEL a0 0 ha0 (hset (hset (hset h a0 1 0) a0 2 x1) a0 3 (jmin x2 48)))
theorem d_C_sheet_0 : decode m_C_sheet.2.1 0 = .ok (.iload_n 1, 1) := by decide +kernel
theorem d_C_sheet_1 : decode m_C_sheet.2.1 1 = .ok (.invokestatic 98, 3) := by decide +kernel
theorem d_C_sheet_4 : decode m_C_sheet.2.1 4 = .ok (.ifCond .eq 16, 3) := by decide +kernel
theorem d_C_sheet_7 : decode m_C_sheet.2.1 7 = .ok (.iload_n 2, 1) := by decide +kernel
theorem d_C_sheet_8 : decode m_C_sheet.2.1 8 = .ok (.invokestatic 212, 3) := by decide +kernel
theorem d_C_sheet_11 : decode m_C_sheet.2.1 11 = .ok (.ifCond .eq 9, 3) := by decide +kernel
theorem d_C_sheet_14 : decode m_C_sheet.2.1 14 = .ok (.iload_n 3, 1) := by decide +kernel
theorem d_C_sheet_15 : decode m_C_sheet.2.1 15 = .ok (.bipush 48, 2) := by decide +kernel
theorem d_C_sheet_17 : decode m_C_sheet.2.1 17 = .ok (.if_icmp .le 6, 3) := by decide +kernel
theorem d_C_sheet_20 : decode m_C_sheet.2.1 20 = .ok (.bipush (-2), 2) := by decide +kernel
theorem d_C_sheet_22 : decode m_C_sheet.2.1 22 = .ok (.ireturn, 1) := by decide +kernel
theorem d_C_sheet_23 : decode m_C_sheet.2.1 23 = .ok (.iload_n 3, 1) := by decide +kernel
theorem d_C_sheet_24 : decode m_C_sheet.2.1 24 = .ok (.ifCond .ge 9, 3) := by decide +kernel
theorem d_C_sheet_27 : decode m_C_sheet.2.1 27 = .ok (.aload_n 0, 1) := by decide +kernel
theorem d_C_sheet_28 : decode m_C_sheet.2.1 28 = .ok (.iconst 5, 1) := by decide +kernel
theorem d_C_sheet_29 : decode m_C_sheet.2.1 29 = .ok (.invokevirtual 105, 3) := by decide +kernel
theorem d_C_sheet_32 : decode m_C_sheet.2.1 32 = .ok (.ireturn, 1) := by decide +kernel
theorem d_C_sheet_33 : decode m_C_sheet.2.1 33 = .ok (.aload_n 0, 1) := by decide +kernel
theorem d_C_sheet_34 : decode m_C_sheet.2.1 34 = .ok (.getfield 41, 3) := by decide +kernel
theorem d_C_sheet_37 : decode m_C_sheet.2.1 37 = .ok (.iload_n 1, 1) := by decide +kernel
theorem d_C_sheet_38 : decode m_C_sheet.2.1 38 = .ok (.aaload, 1) := by decide +kernel
theorem d_C_sheet_39 : decode m_C_sheet.2.1 39 = .ok (.iload_n 2, 1) := by decide +kernel
theorem d_C_sheet_40 : decode m_C_sheet.2.1 40 = .ok (.iload_n 3, 1) := by decide +kernel
theorem d_C_sheet_41 : decode m_C_sheet.2.1 41 = .ok (.invokevirtual 215, 3) := by decide +kernel
theorem d_C_sheet_44 : decode m_C_sheet.2.1 44 = .ok (.iload_n 3, 1) := by decide +kernel
theorem d_C_sheet_45 : decode m_C_sheet.2.1 45 = .ok (.ireturn, 1) := by decide +kernel
set_option maxHeartbeats 4000000 in
set_option maxRecDepth 20000 in
theorem c_C_sheet (G : Gt) (x1 : Int32) (x2 : Int32) (x3 : Int32) (h : Hp) : Cn G m_C_sheet [.ref (ad G 0), .int x1, .int x2, .int x3] h κi (f_C_sheet x1 x2 x3 h) := by
  refine entryV (by decide) (Nat.le_of_ble_eq_true rfl) rfl ?_
  show V G m_C_sheet 0 [(0, .ref (ad G 0)), (1, .int x1), (2, .int x2), (3, .int x3)] [] h κi _
  unfold f_C_sheet
  refine v_iload_n 1 d_C_sheet_0 rfl rfl ?_
  refine v_callSi (As := [.int x1]) (rest := []) (c_C_isSheet G x1 h) co_C_98 so_C_isSheet ⟨by decide, by decide⟩ rfl rfl (Nat.le_of_ble_eq_true rfl) d_C_sheet_1 (fun r1 h1 _ => ?_)
  refine v_if_eq 20 d_C_sheet_4 (by decide) (fun c2 => ?_) (fun c2 => ?_)
  · refine v_bipush (-2) d_C_sheet_20 rfl ?_
    exact v_iret rfl d_C_sheet_22
  · refine v_iload_n 2 d_C_sheet_7 rfl rfl ?_
    refine v_callSi (As := [.int x2]) (rest := []) (c_C_isForm G x2 h1) co_C_212 so_C_isForm ⟨by decide, by decide⟩ rfl rfl (Nat.le_of_ble_eq_true rfl) d_C_sheet_8 (fun r3 h3 _ => ?_)
    refine v_if_eq 20 d_C_sheet_11 (by decide) (fun c4 => ?_) (fun c4 => ?_)
    · refine v_bipush (-2) d_C_sheet_20 rfl ?_
      exact v_iret rfl d_C_sheet_22
    · refine v_iload_n 3 d_C_sheet_14 rfl rfl ?_
      refine v_bipush 48 d_C_sheet_15 rfl ?_
      refine v_icmp_le 23 d_C_sheet_17 (by decide) (fun c5 => ?_) (fun c5 => ?_)
      · refine v_iload_n 3 d_C_sheet_23 rfl rfl ?_
        refine v_if_ge 33 d_C_sheet_24 (by decide) (fun c6 => ?_) (fun c6 => ?_)
        · refine v_aload_n 0 d_C_sheet_33 rfl rfl ?_
          refine v_getr 14 fl_C_41 o_0 rfl rfl d_C_sheet_34 ?_
          refine v_iload_n 1 d_C_sheet_37 rfl rfl ?_
          refine v_aald3 (23 + 2 * ix x1) rfl ar_14 d_C_sheet_38 (fun b7 => ?_)
          refine v_iload_n 2 d_C_sheet_39 rfl rfl ?_
          refine v_iload_n 3 d_C_sheet_40 rfl rfl ?_
          refine v_callVv (As := [.int x2, .int x3]) (rest := []) (c_Sh_renew G (23 + 2 * ix x1) x2 x3 (sh_o b7) h3) co_C_215 io_Sh_renew (sh_o b7) ⟨by decide, by decide⟩ rfl rfl (Nat.le_of_ble_eq_true rfl) d_C_sheet_41 (fun _ h8 _ => ?_)
          refine v_iload_n 3 d_C_sheet_44 rfl rfl ?_
          exact v_iret rfl d_C_sheet_45
        · refine v_aload_n 0 d_C_sheet_27 rfl rfl ?_
          refine v_iconst 5 d_C_sheet_28 rfl ?_
          refine v_callVi (As := [.int 5]) (rest := []) (c_C_found G 5 h3) co_C_105 io_C_found o_0 ⟨by decide, by decide⟩ rfl rfl (Nat.le_of_ble_eq_true rfl) d_C_sheet_29 (fun r9 h9 _ => ?_)
          exact v_iret rfl d_C_sheet_32
      · refine v_bipush (-2) d_C_sheet_20 rfl ?_
        exact v_iret rfl d_C_sheet_22
