theorem goodZ {μ μz : Mt} (hc : Cond.code μz.1 μz.2.1 μz.2.2.1 μz.2.2.2.1 ∈ lwg) : GoodIn (wsOf μ) (wsOf μz) := by
  intro w hw
  have h1 : w ∈ lwg := by
    rcases List.mem_cons.mp hw with e | e
    · rw [e]; exact hc
    · exact e
  exact ⟨List.mem_cons_of_mem _ h1, good_of_word (lwg_good h1)⟩
theorem d_Tx_init_0 : decode m_Tx_init.2.1 0 = .ok (.aload_n 0, 1) := by decide +kernel
theorem d_Tx_init_1 : decode m_Tx_init.2.1 1 = .ok (.invokespecial 3, 3) := by decide +kernel
theorem d_Tx_init_4 : decode m_Tx_init.2.1 4 = .ok (.aload_n 0, 1) := by decide +kernel
theorem d_Tx_init_5 : decode m_Tx_init.2.1 5 = .ok (.bipush 40, 2) := by decide +kernel
theorem d_Tx_init_7 : decode m_Tx_init.2.1 7 = .ok (.newarray .int, 2) := by decide +kernel
theorem d_Tx_init_9 : decode m_Tx_init.2.1 9 = .ok (.putfield 9, 3) := by decide +kernel
theorem d_Tx_init_12 : decode m_Tx_init.2.1 12 = .ok (.aload_n 0, 1) := by decide +kernel
theorem d_Tx_init_13 : decode m_Tx_init.2.1 13 = .ok (.iconst 0, 1) := by decide +kernel
theorem d_Tx_init_14 : decode m_Tx_init.2.1 14 = .ok (.putfield 15, 3) := by decide +kernel
theorem d_Tx_init_17 : decode m_Tx_init.2.1 17 = .ok (.return_, 1) := by decide +kernel
abbrev at_Tx (dC : Nat → ClassId) (dI : Nat → Nat → Nat) (A : Nat → Prop) (h0 : Nat) (u : Nat × ClassId) (t : State) : Prop := va_P (dC, dI) classes [(h0, .inr (4, [.ref u.1, .int 0])), (u.1, .inl (u.2, 40, .inl (fun _ => 0)))] t.heap ∧ va_K (dC, dI) classes [(u.2, .int)] t ∧ va_D A [(h0, .inr (4, [.ref u.1, .int 0])), (u.1, .inl (u.2, 40, .inl (fun _ => 0)))]
set_option maxHeartbeats 4000000 in
set_option maxRecDepth 100000 in
theorem k_Tx (l : Launch) (dC : Nat → ClassId) (dI : Nat → Nat → Nat) (h0 sz : Nat) : Met l m_Tx_init.1 (wsOf m_Tx_init) { frames := 1, cells := 1, slots := 40, locals := 12 } (va_Pc [.ref h0] (fun U => U.heap.size = sz ∧ va_P (dC, dI) classes [(h0, .inr (4, [.null, .int 0]))] U.heap ∧ va_K (dC, dI) classes [] U ∧ va_D (fun _ => True) [(h0, .inr (4, [.null, .int 0]))])) (va_Qv (fun _ : Nat × ClassId => True) (at_Tx dC dI (va_A [(h0, .inr (4, [.null, .int 0]))] sz) h0) (va_A [(h0, .inr (4, [.null, .int 0]))] sz)) 1 40 (va_A [(h0, .inr (4, [.null, .int 0]))] sz) := by
  refine Met.ofW (cc := m_Tx_init.2.1) (maxL := m_Tx_init.2.2.1) (ret := m_Tx_init.2.2.2.1) (by decide) rfl ?_
  intro p e s m args below meth c s₁ B hml hv
  obtain ⟨rfl, hsz, hP, hK, hD0⟩ := hv
  have hx := B.exec
  have hb := B.bytes
  have hr := B.returns
  have hts := atoms_spec (ws := wsOf m_Tx_init) B.pre
  have hw : ∀ {w : Cond}, w ∈ lwg → w.before #[.ref h0] s = true := fun h => hts _ (List.mem_cons_of_mem _ h)
  have hown : s.vm.findClass RX4 = some m.cls := findClass_of_methodNamed B.named
  have hlocks := B.notSynchronized
  have hin : meth.name = "<init>" := (name_of_methodNamed B.named B.method).1
  subst hsz
  have hD := hD0.self (sz := s.heap.size)
  generalize hAe : va_A [(h0, .inr (4, [.null, .int 0]))] s.heap.size = A at hD ⊢
  have hA : ∀ q : Nat, s.heap.size ≤ q → A q := fun q h => by rw [← hAe]; exact Or.inr h
  have hS : va_S A s.heap s.heap [] := va_S.rf
  have hl := lv_entry ([.ref h0]) (n := m_Tx_init.2.2.1) (Nat.le_of_ble_eq_true rfl)
  show W p l e (headSpec (wsOf m_Tx_init) _).room s m _ below meth c s.heap [] 0 0 _ (entryFrame m ([.ref h0] : List Value).toArray m_Tx_init.2.2.1)
  rw [lg_entry_eq]
  generalize (lg_sl ([.ref h0]) ++ List.replicate (m_Tx_init.2.2.1 - (lg_sl ([.ref h0])).length) Slot.unset).toArray = ls at hl ⊢
  have hl : lv_has ls 1 [(0, .ref h0)] := hl
  have hml : c.maxLocals = 1 := hml
  refine lv_aload_n hx hb d_Tx_init_0 rfl (lv_at hl 0 rfl) ?_
  refine W.objInit hx hb hown (hw (mem_t 24 (by decide +kernel) rfl)) (hw (mem_t 17 (by decide +kernel) rfl)) (hw (mem_t 18 (by decide +kernel) rfl)) rfl (by rw [hml]; exact hl.1) rfl d_Tx_init_1 (Nat.le_of_ble_eq_true rfl) (Nat.le_of_ble_eq_true rfl) ?_
  refine W.eq (g2 := F0 m 4 ls []) rfl ?_
  refine lv_aload_n hx hb d_Tx_init_4 rfl (lv_at hl 0 rfl) ?_
  refine lv_bipush (v := 40) hx hb d_Tx_init_5 (by decide) ?_
  refine va_newa (atype := .int) (ty := .int) (a0 := (40, .inl (fun _ => 0))) hx hb (hw (mem_t 33 (by decide +kernel) rfl)) rfl hK hP hD hS hA (fun _ => rfl) (by decide) (N' := 40) (by decide) (Nat.le_of_ble_eq_true rfl) (Nat.le_of_ble_eq_true rfl) (Nat.le_of_ble_eq_true rfl) d_Tx_init_7 (fun q1 k1 H hK hP hD hS => ?_)
  have hP : va_P (dC, dI) classes [(h0, .inr (4, [.null, .int 0])), (q1, .inl (k1, 40, .inl (fun _ => 0)))] H := hP
  have hD : va_D A [(h0, .inr (4, [.null, .int 0])), (q1, .inl (k1, 40, .inl (fun _ => 0)))] := hD
  have hK : va_K (dC, dI) classes [(k1, .int)] s := hK
  refine W.widen (k := 1) (n := 40) (Nat.le_of_ble_eq_true rfl) (Nat.le_of_ble_eq_true rfl) ?_
  refine va_putF (D := (dC, dI)) (ci := 4) (v := .ref q1) (ty := (.array .int)) (C := RX4) (T := TX4) (N := 2) hx hb (fun w h => hw h) inX4 tyX4 tyX4_ok nmX4 hown hK hP hD hS 0 rfl rfl 0 (by decide) (hw (mem_t 25 (by decide +kernel) rfl)) (fun _ h9 => h9) rfl hin rfl (by decide +kernel) rfl rfl (Nat.le_of_ble_eq_true rfl) d_Tx_init_9 (fun H locs hP hD hS => ?_)
  have hP : va_P (dC, dI) classes [(h0, .inr (4, [.ref q1, .int 0])), (q1, .inl (k1, 40, .inl (fun _ => 0)))] H := hP
  have hD : va_D A [(h0, .inr (4, [.ref q1, .int 0])), (q1, .inl (k1, 40, .inl (fun _ => 0)))] := hD
  refine lv_aload_n hx hb d_Tx_init_12 rfl (lv_at hl 0 rfl) ?_
  refine lv_iconst (v := 0) hx hb d_Tx_init_13 (by decide) ?_
  refine va_put (D := (dC, dI)) (ci := 4) (v := .int 0) (ty := .int) (C := RX4) (T := TX4) (N := 2) hx hb (fun w h => hw h) inX4 tyX4 tyX4_ok nmX4 hown hK hP hD hS 0 rfl rfl 1 (by decide) (hw (mem_t 26 (by decide +kernel) rfl)) (fun _ h9 => h9) rfl (by decide +kernel) rfl rfl (Nat.le_of_ble_eq_true rfl) d_Tx_init_14 (fun H locs hP hD hS => ?_)
  have hP : va_P (dC, dI) classes [(h0, .inr (4, [.ref q1, .int 0])), (q1, .inl (k1, 40, .inl (fun _ => 0)))] H := hP
  have hD : va_D A [(h0, .inr (4, [.ref q1, .int 0])), (q1, .inl (k1, 40, .inl (fun _ => 0)))] := hD
  have hP9 := hP.sub (ws' := [(h0, .inr (4, [.ref q1, .int 0])), (q1, .inl (k1, 40, .inl (fun _ => 0)))]) [0, 1] rfl
  have hD9 := hD.sub (ws' := [(h0, .inr (4, [.ref q1, .int 0])), (q1, .inl (k1, 40, .inl (fun _ => 0)))]) [0, 1] (by decide) rfl
  exact W.vret hx hb hr (fun t ht hW => ⟨⟨(q1, k1), rfl, trivial, by rw [ht]; exact hP9, va_K.moved hW.alike hK, hD9⟩, hS.F ht⟩) hS.2.2 d_Tx_init_17
theorem d_Fr_init_0 : decode m_Fr_init.2.1 0 = .ok (.aload_n 0, 1) := by decide +kernel
theorem d_Fr_init_1 : decode m_Fr_init.2.1 1 = .ok (.invokespecial 3, 3) := by decide +kernel
theorem d_Fr_init_4 : decode m_Fr_init.2.1 4 = .ok (.aload_n 0, 1) := by decide +kernel
theorem d_Fr_init_5 : decode m_Fr_init.2.1 5 = .ok (.bipush 10, 2) := by decide +kernel
theorem d_Fr_init_7 : decode m_Fr_init.2.1 7 = .ok (.newarray .int, 2) := by decide +kernel
theorem d_Fr_init_9 : decode m_Fr_init.2.1 9 = .ok (.putfield 9, 3) := by decide +kernel
theorem d_Fr_init_12 : decode m_Fr_init.2.1 12 = .ok (.aload_n 0, 1) := by decide +kernel
theorem d_Fr_init_13 : decode m_Fr_init.2.1 13 = .ok (.bipush 10, 2) := by decide +kernel
theorem d_Fr_init_15 : decode m_Fr_init.2.1 15 = .ok (.newarray .int, 2) := by decide +kernel
theorem d_Fr_init_17 : decode m_Fr_init.2.1 17 = .ok (.putfield 15, 3) := by decide +kernel
theorem d_Fr_init_20 : decode m_Fr_init.2.1 20 = .ok (.aload_n 0, 1) := by decide +kernel
theorem d_Fr_init_21 : decode m_Fr_init.2.1 21 = .ok (.iconst 0, 1) := by decide +kernel
theorem d_Fr_init_22 : decode m_Fr_init.2.1 22 = .ok (.putfield 18, 3) := by decide +kernel
theorem d_Fr_init_25 : decode m_Fr_init.2.1 25 = .ok (.return_, 1) := by decide +kernel
abbrev at_Fr (dC : Nat → ClassId) (dI : Nat → Nat → Nat) (A : Nat → Prop) (h0 : Nat) (u : Nat × Nat × ClassId × ClassId) (t : State) : Prop := va_P (dC, dI) classes [(h0, .inr (0, [.ref u.1, .ref u.2.1, .int 0])), (u.1, .inl (u.2.2.1, 10, .inl (fun _ => 0))), (u.2.1, .inl (u.2.2.2, 10, .inl (fun _ => 0)))] t.heap ∧ va_K (dC, dI) classes [(u.2.2.1, .int), (u.2.2.2, .int)] t ∧ va_D A [(h0, .inr (0, [.ref u.1, .ref u.2.1, .int 0])), (u.1, .inl (u.2.2.1, 10, .inl (fun _ => 0))), (u.2.1, .inl (u.2.2.2, 10, .inl (fun _ => 0)))]
set_option maxHeartbeats 4000000 in
set_option maxRecDepth 100000 in
theorem k_Fr (l : Launch) (dC : Nat → ClassId) (dI : Nat → Nat → Nat) (h0 sz : Nat) : Met l m_Fr_init.1 (wsOf m_Fr_init) { frames := 1, cells := 2, slots := 20, locals := 12 } (va_Pc [.ref h0] (fun U => U.heap.size = sz ∧ va_P (dC, dI) classes [(h0, .inr (0, [.null, .null, .int 0]))] U.heap ∧ va_K (dC, dI) classes [] U ∧ va_D (fun _ => True) [(h0, .inr (0, [.null, .null, .int 0]))])) (va_Qv (fun _ : Nat × Nat × ClassId × ClassId => True) (at_Fr dC dI (va_A [(h0, .inr (0, [.null, .null, .int 0]))] sz) h0) (va_A [(h0, .inr (0, [.null, .null, .int 0]))] sz)) 2 20 (va_A [(h0, .inr (0, [.null, .null, .int 0]))] sz) := by
  refine Met.ofW (cc := m_Fr_init.2.1) (maxL := m_Fr_init.2.2.1) (ret := m_Fr_init.2.2.2.1) (by decide) rfl ?_
  intro p e s m args below meth c s₁ B hml hv
  obtain ⟨rfl, hsz, hP, hK, hD0⟩ := hv
  have hx := B.exec
  have hb := B.bytes
  have hr := B.returns
  have hts := atoms_spec (ws := wsOf m_Fr_init) B.pre
  have hw : ∀ {w : Cond}, w ∈ lwg → w.before #[.ref h0] s = true := fun h => hts _ (List.mem_cons_of_mem _ h)
  have hown : s.vm.findClass RX0 = some m.cls := findClass_of_methodNamed B.named
  have hlocks := B.notSynchronized
  have hin : meth.name = "<init>" := (name_of_methodNamed B.named B.method).1
  subst hsz
  have hD := hD0.self (sz := s.heap.size)
  generalize hAe : va_A [(h0, .inr (0, [.null, .null, .int 0]))] s.heap.size = A at hD ⊢
  have hA : ∀ q : Nat, s.heap.size ≤ q → A q := fun q h => by rw [← hAe]; exact Or.inr h
  have hS : va_S A s.heap s.heap [] := va_S.rf
  have hl := lv_entry ([.ref h0]) (n := m_Fr_init.2.2.1) (Nat.le_of_ble_eq_true rfl)
  show W p l e (headSpec (wsOf m_Fr_init) _).room s m _ below meth c s.heap [] 0 0 _ (entryFrame m ([.ref h0] : List Value).toArray m_Fr_init.2.2.1)
  rw [lg_entry_eq]
  generalize (lg_sl ([.ref h0]) ++ List.replicate (m_Fr_init.2.2.1 - (lg_sl ([.ref h0])).length) Slot.unset).toArray = ls at hl ⊢
  have hl : lv_has ls 1 [(0, .ref h0)] := hl
  have hml : c.maxLocals = 1 := hml
  refine lv_aload_n hx hb d_Fr_init_0 rfl (lv_at hl 0 rfl) ?_
  refine W.objInit hx hb hown (hw (mem_t 39 (by decide +kernel) rfl)) (hw (mem_t 17 (by decide +kernel) rfl)) (hw (mem_t 18 (by decide +kernel) rfl)) rfl (by rw [hml]; exact hl.1) rfl d_Fr_init_1 (Nat.le_of_ble_eq_true rfl) (Nat.le_of_ble_eq_true rfl) ?_
  refine W.eq (g2 := F0 m 4 ls []) rfl ?_
  refine lv_aload_n hx hb d_Fr_init_4 rfl (lv_at hl 0 rfl) ?_
  refine lv_bipush (v := 10) hx hb d_Fr_init_5 (by decide) ?_
  refine va_newa (atype := .int) (ty := .int) (a0 := (10, .inl (fun _ => 0))) hx hb (hw (mem_t 33 (by decide +kernel) rfl)) rfl hK hP hD hS hA (fun _ => rfl) (by decide) (N' := 10) (by decide) (Nat.le_of_ble_eq_true rfl) (Nat.le_of_ble_eq_true rfl) (Nat.le_of_ble_eq_true rfl) d_Fr_init_7 (fun q1 k1 H hK hP hD hS => ?_)
  have hP : va_P (dC, dI) classes [(h0, .inr (0, [.null, .null, .int 0])), (q1, .inl (k1, 10, .inl (fun _ => 0)))] H := hP
  have hD : va_D A [(h0, .inr (0, [.null, .null, .int 0])), (q1, .inl (k1, 10, .inl (fun _ => 0)))] := hD
  have hK : va_K (dC, dI) classes [(k1, .int)] s := hK
  refine W.widen (k := 1) (n := 10) (Nat.le_of_ble_eq_true rfl) (Nat.le_of_ble_eq_true rfl) ?_
  refine va_putF (D := (dC, dI)) (ci := 0) (v := .ref q1) (ty := (.array .int)) (C := RX0) (T := TX0) (N := 3) hx hb (fun w h => hw h) inX0 tyX0 tyX0_ok nmX0 hown hK hP hD hS 0 rfl rfl 0 (by decide) (hw (mem_t 40 (by decide +kernel) rfl)) (fun _ h9 => h9) rfl hin rfl (by decide +kernel) rfl rfl (Nat.le_of_ble_eq_true rfl) d_Fr_init_9 (fun H locs hP hD hS => ?_)
  have hP : va_P (dC, dI) classes [(h0, .inr (0, [.ref q1, .null, .int 0])), (q1, .inl (k1, 10, .inl (fun _ => 0)))] H := hP
  have hD : va_D A [(h0, .inr (0, [.ref q1, .null, .int 0])), (q1, .inl (k1, 10, .inl (fun _ => 0)))] := hD
  refine lv_aload_n hx hb d_Fr_init_12 rfl (lv_at hl 0 rfl) ?_
  refine lv_bipush (v := 10) hx hb d_Fr_init_13 (by decide) ?_
  refine va_newa (atype := .int) (ty := .int) (a0 := (10, .inl (fun _ => 0))) hx hb (hw (mem_t 33 (by decide +kernel) rfl)) rfl hK hP hD hS hA (fun _ => rfl) (by decide) (N' := 10) (by decide) (Nat.le_of_ble_eq_true rfl) (Nat.le_of_ble_eq_true rfl) (Nat.le_of_ble_eq_true rfl) d_Fr_init_15 (fun q2 k2 H hK hP hD hS => ?_)
  have hP : va_P (dC, dI) classes [(h0, .inr (0, [.ref q1, .null, .int 0])), (q1, .inl (k1, 10, .inl (fun _ => 0))), (q2, .inl (k2, 10, .inl (fun _ => 0)))] H := hP
  have hD : va_D A [(h0, .inr (0, [.ref q1, .null, .int 0])), (q1, .inl (k1, 10, .inl (fun _ => 0))), (q2, .inl (k2, 10, .inl (fun _ => 0)))] := hD
  have hK : va_K (dC, dI) classes [(k1, .int), (k2, .int)] s := hK
  refine W.widen (k := 2) (n := 20) (Nat.le_of_ble_eq_true rfl) (Nat.le_of_ble_eq_true rfl) ?_
  refine va_putF (D := (dC, dI)) (ci := 0) (v := .ref q2) (ty := (.array .int)) (C := RX0) (T := TX0) (N := 3) hx hb (fun w h => hw h) inX0 tyX0 tyX0_ok nmX0 hown hK hP hD hS 0 rfl rfl 1 (by decide) (hw (mem_t 42 (by decide +kernel) rfl)) (fun _ h9 => h9) rfl hin rfl (by decide +kernel) rfl rfl (Nat.le_of_ble_eq_true rfl) d_Fr_init_17 (fun H locs hP hD hS => ?_)
  have hP : va_P (dC, dI) classes [(h0, .inr (0, [.ref q1, .ref q2, .int 0])), (q1, .inl (k1, 10, .inl (fun _ => 0))), (q2, .inl (k2, 10, .inl (fun _ => 0)))] H := hP
  have hD : va_D A [(h0, .inr (0, [.ref q1, .ref q2, .int 0])), (q1, .inl (k1, 10, .inl (fun _ => 0))), (q2, .inl (k2, 10, .inl (fun _ => 0)))] := hD
  refine lv_aload_n hx hb d_Fr_init_20 rfl (lv_at hl 0 rfl) ?_
  refine lv_iconst (v := 0) hx hb d_Fr_init_21 (by decide) ?_
  refine va_put (D := (dC, dI)) (ci := 0) (v := .int 0) (ty := .int) (C := RX0) (T := TX0) (N := 3) hx hb (fun w h => hw h) inX0 tyX0 tyX0_ok nmX0 hown hK hP hD hS 0 rfl rfl 2 (by decide) (hw (mem_t 44 (by decide +kernel) rfl)) (fun _ h9 => h9) rfl (by decide +kernel) rfl rfl (Nat.le_of_ble_eq_true rfl) d_Fr_init_22 (fun H locs hP hD hS => ?_)
  have hP : va_P (dC, dI) classes [(h0, .inr (0, [.ref q1, .ref q2, .int 0])), (q1, .inl (k1, 10, .inl (fun _ => 0))), (q2, .inl (k2, 10, .inl (fun _ => 0)))] H := hP
  have hD : va_D A [(h0, .inr (0, [.ref q1, .ref q2, .int 0])), (q1, .inl (k1, 10, .inl (fun _ => 0))), (q2, .inl (k2, 10, .inl (fun _ => 0)))] := hD
  have hP9 := hP.sub (ws' := [(h0, .inr (0, [.ref q1, .ref q2, .int 0])), (q1, .inl (k1, 10, .inl (fun _ => 0))), (q2, .inl (k2, 10, .inl (fun _ => 0)))]) [0, 1, 2] rfl
  have hD9 := hD.sub (ws' := [(h0, .inr (0, [.ref q1, .ref q2, .int 0])), (q1, .inl (k1, 10, .inl (fun _ => 0))), (q2, .inl (k2, 10, .inl (fun _ => 0)))]) [0, 1, 2] (by decide) rfl
  exact W.vret hx hb hr (fun t ht hW => ⟨⟨(q1, q2, k1, k2), rfl, trivial, by rw [ht]; exact hP9, va_K.moved hW.alike hK, hD9⟩, hS.F ht⟩) hS.2.2 d_Fr_init_25
theorem d_No_init_0 : decode m_No_init.2.1 0 = .ok (.aload_n 0, 1) := by decide +kernel
theorem d_No_init_1 : decode m_No_init.2.1 1 = .ok (.invokespecial 3, 3) := by decide +kernel
theorem d_No_init_4 : decode m_No_init.2.1 4 = .ok (.aload_n 0, 1) := by decide +kernel
theorem d_No_init_5 : decode m_No_init.2.1 5 = .ok (.bipush 8, 2) := by decide +kernel
theorem d_No_init_7 : decode m_No_init.2.1 7 = .ok (.newarray .int, 2) := by decide +kernel
theorem d_No_init_9 : decode m_No_init.2.1 9 = .ok (.putfield 9, 3) := by decide +kernel
theorem d_No_init_12 : decode m_No_init.2.1 12 = .ok (.aload_n 0, 1) := by decide +kernel
theorem d_No_init_13 : decode m_No_init.2.1 13 = .ok (.bipush 8, 2) := by decide +kernel
theorem d_No_init_15 : decode m_No_init.2.1 15 = .ok (.newarray .int, 2) := by decide +kernel
theorem d_No_init_17 : decode m_No_init.2.1 17 = .ok (.putfield 15, 3) := by decide +kernel
theorem d_No_init_20 : decode m_No_init.2.1 20 = .ok (.aload_n 0, 1) := by decide +kernel
theorem d_No_init_21 : decode m_No_init.2.1 21 = .ok (.bipush 8, 2) := by decide +kernel
theorem d_No_init_23 : decode m_No_init.2.1 23 = .ok (.newarray .int, 2) := by decide +kernel
theorem d_No_init_25 : decode m_No_init.2.1 25 = .ok (.putfield 18, 3) := by decide +kernel
theorem d_No_init_28 : decode m_No_init.2.1 28 = .ok (.aload_n 0, 1) := by decide +kernel
theorem d_No_init_29 : decode m_No_init.2.1 29 = .ok (.iconst 0, 1) := by decide +kernel
theorem d_No_init_30 : decode m_No_init.2.1 30 = .ok (.putfield 21, 3) := by decide +kernel
theorem d_No_init_33 : decode m_No_init.2.1 33 = .ok (.return_, 1) := by decide +kernel
abbrev at_No (dC : Nat → ClassId) (dI : Nat → Nat → Nat) (A : Nat → Prop) (h0 : Nat) (u : Nat × Nat × Nat × ClassId × ClassId × ClassId) (t : State) : Prop := va_P (dC, dI) classes [(h0, .inr (1, [.ref u.1, .ref u.2.1, .ref u.2.2.1, .int 0])), (u.1, .inl (u.2.2.2.1, 8, .inl (fun _ => 0))), (u.2.1, .inl (u.2.2.2.2.1, 8, .inl (fun _ => 0))), (u.2.2.1, .inl (u.2.2.2.2.2, 8, .inl (fun _ => 0)))] t.heap ∧ va_K (dC, dI) classes [(u.2.2.2.1, .int), (u.2.2.2.2.1, .int), (u.2.2.2.2.2, .int)] t ∧ va_D A [(h0, .inr (1, [.ref u.1, .ref u.2.1, .ref u.2.2.1, .int 0])), (u.1, .inl (u.2.2.2.1, 8, .inl (fun _ => 0))), (u.2.1, .inl (u.2.2.2.2.1, 8, .inl (fun _ => 0))), (u.2.2.1, .inl (u.2.2.2.2.2, 8, .inl (fun _ => 0)))]
set_option maxHeartbeats 4000000 in
set_option maxRecDepth 100000 in
theorem k_No (l : Launch) (dC : Nat → ClassId) (dI : Nat → Nat → Nat) (h0 sz : Nat) : Met l m_No_init.1 (wsOf m_No_init) { frames := 1, cells := 3, slots := 24, locals := 12 } (va_Pc [.ref h0] (fun U => U.heap.size = sz ∧ va_P (dC, dI) classes [(h0, .inr (1, [.null, .null, .null, .int 0]))] U.heap ∧ va_K (dC, dI) classes [] U ∧ va_D (fun _ => True) [(h0, .inr (1, [.null, .null, .null, .int 0]))])) (va_Qv (fun _ : Nat × Nat × Nat × ClassId × ClassId × ClassId => True) (at_No dC dI (va_A [(h0, .inr (1, [.null, .null, .null, .int 0]))] sz) h0) (va_A [(h0, .inr (1, [.null, .null, .null, .int 0]))] sz)) 3 24 (va_A [(h0, .inr (1, [.null, .null, .null, .int 0]))] sz) := by
  refine Met.ofW (cc := m_No_init.2.1) (maxL := m_No_init.2.2.1) (ret := m_No_init.2.2.2.1) (by decide) rfl ?_
  intro p e s m args below meth c s₁ B hml hv
  obtain ⟨rfl, hsz, hP, hK, hD0⟩ := hv
  have hx := B.exec
  have hb := B.bytes
  have hr := B.returns
  have hts := atoms_spec (ws := wsOf m_No_init) B.pre
  have hw : ∀ {w : Cond}, w ∈ lwg → w.before #[.ref h0] s = true := fun h => hts _ (List.mem_cons_of_mem _ h)
  have hown : s.vm.findClass RX1 = some m.cls := findClass_of_methodNamed B.named
  have hlocks := B.notSynchronized
  have hin : meth.name = "<init>" := (name_of_methodNamed B.named B.method).1
  subst hsz
  have hD := hD0.self (sz := s.heap.size)
  generalize hAe : va_A [(h0, .inr (1, [.null, .null, .null, .int 0]))] s.heap.size = A at hD ⊢
  have hA : ∀ q : Nat, s.heap.size ≤ q → A q := fun q h => by rw [← hAe]; exact Or.inr h
  have hS : va_S A s.heap s.heap [] := va_S.rf
  have hl := lv_entry ([.ref h0]) (n := m_No_init.2.2.1) (Nat.le_of_ble_eq_true rfl)
  show W p l e (headSpec (wsOf m_No_init) _).room s m _ below meth c s.heap [] 0 0 _ (entryFrame m ([.ref h0] : List Value).toArray m_No_init.2.2.1)
  rw [lg_entry_eq]
  generalize (lg_sl ([.ref h0]) ++ List.replicate (m_No_init.2.2.1 - (lg_sl ([.ref h0])).length) Slot.unset).toArray = ls at hl ⊢
  have hl : lv_has ls 1 [(0, .ref h0)] := hl
  have hml : c.maxLocals = 1 := hml
  refine lv_aload_n hx hb d_No_init_0 rfl (lv_at hl 0 rfl) ?_
  refine W.objInit hx hb hown (hw (mem_t 61 (by decide +kernel) rfl)) (hw (mem_t 17 (by decide +kernel) rfl)) (hw (mem_t 18 (by decide +kernel) rfl)) rfl (by rw [hml]; exact hl.1) rfl d_No_init_1 (Nat.le_of_ble_eq_true rfl) (Nat.le_of_ble_eq_true rfl) ?_
  refine W.eq (g2 := F0 m 4 ls []) rfl ?_
  refine lv_aload_n hx hb d_No_init_4 rfl (lv_at hl 0 rfl) ?_
  refine lv_bipush (v := 8) hx hb d_No_init_5 (by decide) ?_
  refine va_newa (atype := .int) (ty := .int) (a0 := (8, .inl (fun _ => 0))) hx hb (hw (mem_t 33 (by decide +kernel) rfl)) rfl hK hP hD hS hA (fun _ => rfl) (by decide) (N' := 8) (by decide) (Nat.le_of_ble_eq_true rfl) (Nat.le_of_ble_eq_true rfl) (Nat.le_of_ble_eq_true rfl) d_No_init_7 (fun q1 k1 H hK hP hD hS => ?_)
  have hP : va_P (dC, dI) classes [(h0, .inr (1, [.null, .null, .null, .int 0])), (q1, .inl (k1, 8, .inl (fun _ => 0)))] H := hP
  have hD : va_D A [(h0, .inr (1, [.null, .null, .null, .int 0])), (q1, .inl (k1, 8, .inl (fun _ => 0)))] := hD
  have hK : va_K (dC, dI) classes [(k1, .int)] s := hK
  refine W.widen (k := 1) (n := 8) (Nat.le_of_ble_eq_true rfl) (Nat.le_of_ble_eq_true rfl) ?_
  refine va_putF (D := (dC, dI)) (ci := 1) (v := .ref q1) (ty := (.array .int)) (C := RX1) (T := TX1) (N := 4) hx hb (fun w h => hw h) inX1 tyX1 tyX1_ok nmX1 hown hK hP hD hS 0 rfl rfl 0 (by decide) (hw (mem_t 62 (by decide +kernel) rfl)) (fun _ h9 => h9) rfl hin rfl (by decide +kernel) rfl rfl (Nat.le_of_ble_eq_true rfl) d_No_init_9 (fun H locs hP hD hS => ?_)
  have hP : va_P (dC, dI) classes [(h0, .inr (1, [.ref q1, .null, .null, .int 0])), (q1, .inl (k1, 8, .inl (fun _ => 0)))] H := hP
  have hD : va_D A [(h0, .inr (1, [.ref q1, .null, .null, .int 0])), (q1, .inl (k1, 8, .inl (fun _ => 0)))] := hD
  refine lv_aload_n hx hb d_No_init_12 rfl (lv_at hl 0 rfl) ?_
  refine lv_bipush (v := 8) hx hb d_No_init_13 (by decide) ?_
  refine va_newa (atype := .int) (ty := .int) (a0 := (8, .inl (fun _ => 0))) hx hb (hw (mem_t 33 (by decide +kernel) rfl)) rfl hK hP hD hS hA (fun _ => rfl) (by decide) (N' := 8) (by decide) (Nat.le_of_ble_eq_true rfl) (Nat.le_of_ble_eq_true rfl) (Nat.le_of_ble_eq_true rfl) d_No_init_15 (fun q2 k2 H hK hP hD hS => ?_)
  have hP : va_P (dC, dI) classes [(h0, .inr (1, [.ref q1, .null, .null, .int 0])), (q1, .inl (k1, 8, .inl (fun _ => 0))), (q2, .inl (k2, 8, .inl (fun _ => 0)))] H := hP
  have hD : va_D A [(h0, .inr (1, [.ref q1, .null, .null, .int 0])), (q1, .inl (k1, 8, .inl (fun _ => 0))), (q2, .inl (k2, 8, .inl (fun _ => 0)))] := hD
  have hK : va_K (dC, dI) classes [(k1, .int), (k2, .int)] s := hK
  refine W.widen (k := 2) (n := 16) (Nat.le_of_ble_eq_true rfl) (Nat.le_of_ble_eq_true rfl) ?_
  refine va_putF (D := (dC, dI)) (ci := 1) (v := .ref q2) (ty := (.array .int)) (C := RX1) (T := TX1) (N := 4) hx hb (fun w h => hw h) inX1 tyX1 tyX1_ok nmX1 hown hK hP hD hS 0 rfl rfl 1 (by decide) (hw (mem_t 64 (by decide +kernel) rfl)) (fun _ h9 => h9) rfl hin rfl (by decide +kernel) rfl rfl (Nat.le_of_ble_eq_true rfl) d_No_init_17 (fun H locs hP hD hS => ?_)
  have hP : va_P (dC, dI) classes [(h0, .inr (1, [.ref q1, .ref q2, .null, .int 0])), (q1, .inl (k1, 8, .inl (fun _ => 0))), (q2, .inl (k2, 8, .inl (fun _ => 0)))] H := hP
  have hD : va_D A [(h0, .inr (1, [.ref q1, .ref q2, .null, .int 0])), (q1, .inl (k1, 8, .inl (fun _ => 0))), (q2, .inl (k2, 8, .inl (fun _ => 0)))] := hD
  refine lv_aload_n hx hb d_No_init_20 rfl (lv_at hl 0 rfl) ?_
  refine lv_bipush (v := 8) hx hb d_No_init_21 (by decide) ?_
  refine va_newa (atype := .int) (ty := .int) (a0 := (8, .inl (fun _ => 0))) hx hb (hw (mem_t 33 (by decide +kernel) rfl)) rfl hK hP hD hS hA (fun _ => rfl) (by decide) (N' := 8) (by decide) (Nat.le_of_ble_eq_true rfl) (Nat.le_of_ble_eq_true rfl) (Nat.le_of_ble_eq_true rfl) d_No_init_23 (fun q3 k3 H hK hP hD hS => ?_)
  have hP : va_P (dC, dI) classes [(h0, .inr (1, [.ref q1, .ref q2, .null, .int 0])), (q1, .inl (k1, 8, .inl (fun _ => 0))), (q2, .inl (k2, 8, .inl (fun _ => 0))), (q3, .inl (k3, 8, .inl (fun _ => 0)))] H := hP
  have hD : va_D A [(h0, .inr (1, [.ref q1, .ref q2, .null, .int 0])), (q1, .inl (k1, 8, .inl (fun _ => 0))), (q2, .inl (k2, 8, .inl (fun _ => 0))), (q3, .inl (k3, 8, .inl (fun _ => 0)))] := hD
  have hK : va_K (dC, dI) classes [(k1, .int), (k2, .int), (k3, .int)] s := hK
  refine W.widen (k := 3) (n := 24) (Nat.le_of_ble_eq_true rfl) (Nat.le_of_ble_eq_true rfl) ?_
  refine va_putF (D := (dC, dI)) (ci := 1) (v := .ref q3) (ty := (.array .int)) (C := RX1) (T := TX1) (N := 4) hx hb (fun w h => hw h) inX1 tyX1 tyX1_ok nmX1 hown hK hP hD hS 0 rfl rfl 2 (by decide) (hw (mem_t 66 (by decide +kernel) rfl)) (fun _ h9 => h9) rfl hin rfl (by decide +kernel) rfl rfl (Nat.le_of_ble_eq_true rfl) d_No_init_25 (fun H locs hP hD hS => ?_)
  have hP : va_P (dC, dI) classes [(h0, .inr (1, [.ref q1, .ref q2, .ref q3, .int 0])), (q1, .inl (k1, 8, .inl (fun _ => 0))), (q2, .inl (k2, 8, .inl (fun _ => 0))), (q3, .inl (k3, 8, .inl (fun _ => 0)))] H := hP
  have hD : va_D A [(h0, .inr (1, [.ref q1, .ref q2, .ref q3, .int 0])), (q1, .inl (k1, 8, .inl (fun _ => 0))), (q2, .inl (k2, 8, .inl (fun _ => 0))), (q3, .inl (k3, 8, .inl (fun _ => 0)))] := hD
  refine lv_aload_n hx hb d_No_init_28 rfl (lv_at hl 0 rfl) ?_
  refine lv_iconst (v := 0) hx hb d_No_init_29 (by decide) ?_
  refine va_put (D := (dC, dI)) (ci := 1) (v := .int 0) (ty := .int) (C := RX1) (T := TX1) (N := 4) hx hb (fun w h => hw h) inX1 tyX1 tyX1_ok nmX1 hown hK hP hD hS 0 rfl rfl 3 (by decide) (hw (mem_t 68 (by decide +kernel) rfl)) (fun _ h9 => h9) rfl (by decide +kernel) rfl rfl (Nat.le_of_ble_eq_true rfl) d_No_init_30 (fun H locs hP hD hS => ?_)
  have hP : va_P (dC, dI) classes [(h0, .inr (1, [.ref q1, .ref q2, .ref q3, .int 0])), (q1, .inl (k1, 8, .inl (fun _ => 0))), (q2, .inl (k2, 8, .inl (fun _ => 0))), (q3, .inl (k3, 8, .inl (fun _ => 0)))] H := hP
  have hD : va_D A [(h0, .inr (1, [.ref q1, .ref q2, .ref q3, .int 0])), (q1, .inl (k1, 8, .inl (fun _ => 0))), (q2, .inl (k2, 8, .inl (fun _ => 0))), (q3, .inl (k3, 8, .inl (fun _ => 0)))] := hD
  have hP9 := hP.sub (ws' := [(h0, .inr (1, [.ref q1, .ref q2, .ref q3, .int 0])), (q1, .inl (k1, 8, .inl (fun _ => 0))), (q2, .inl (k2, 8, .inl (fun _ => 0))), (q3, .inl (k3, 8, .inl (fun _ => 0)))]) [0, 1, 2, 3] rfl
  have hD9 := hD.sub (ws' := [(h0, .inr (1, [.ref q1, .ref q2, .ref q3, .int 0])), (q1, .inl (k1, 8, .inl (fun _ => 0))), (q2, .inl (k2, 8, .inl (fun _ => 0))), (q3, .inl (k3, 8, .inl (fun _ => 0)))]) [0, 1, 2, 3] (by decide) rfl
  exact W.vret hx hb hr (fun t ht hW => ⟨⟨(q1, q2, q3, k1, k2, k3), rfl, trivial, by rw [ht]; exact hP9, va_K.moved hW.alike hK, hD9⟩, hS.F ht⟩) hS.2.2 d_No_init_33
theorem d_Sp_init_0 : decode m_Sp_init.2.1 0 = .ok (.aload_n 0, 1) := by decide +kernel
theorem d_Sp_init_1 : decode m_Sp_init.2.1 1 = .ok (.invokespecial 3, 3) := by decide +kernel
theorem d_Sp_init_4 : decode m_Sp_init.2.1 4 = .ok (.aload_n 0, 1) := by decide +kernel
theorem d_Sp_init_5 : decode m_Sp_init.2.1 5 = .ok (.bipush 10, 2) := by decide +kernel
theorem d_Sp_init_7 : decode m_Sp_init.2.1 7 = .ok (.newarray .int, 2) := by decide +kernel
theorem d_Sp_init_9 : decode m_Sp_init.2.1 9 = .ok (.putfield 9, 3) := by decide +kernel
theorem d_Sp_init_12 : decode m_Sp_init.2.1 12 = .ok (.aload_n 0, 1) := by decide +kernel
theorem d_Sp_init_13 : decode m_Sp_init.2.1 13 = .ok (.iconst 0, 1) := by decide +kernel
theorem d_Sp_init_14 : decode m_Sp_init.2.1 14 = .ok (.putfield 15, 3) := by decide +kernel
theorem d_Sp_init_17 : decode m_Sp_init.2.1 17 = .ok (.aload_n 0, 1) := by decide +kernel
theorem d_Sp_init_18 : decode m_Sp_init.2.1 18 = .ok (.iconst 0, 1) := by decide +kernel
theorem d_Sp_init_19 : decode m_Sp_init.2.1 19 = .ok (.putfield 19, 3) := by decide +kernel
theorem d_Sp_init_22 : decode m_Sp_init.2.1 22 = .ok (.aload_n 0, 1) := by decide +kernel
theorem d_Sp_init_23 : decode m_Sp_init.2.1 23 = .ok (.iconst 0, 1) := by decide +kernel
theorem d_Sp_init_24 : decode m_Sp_init.2.1 24 = .ok (.putfield 22, 3) := by decide +kernel
theorem d_Sp_init_27 : decode m_Sp_init.2.1 27 = .ok (.aload_n 0, 1) := by decide +kernel
theorem d_Sp_init_28 : decode m_Sp_init.2.1 28 = .ok (.iconst 0, 1) := by decide +kernel
theorem d_Sp_init_29 : decode m_Sp_init.2.1 29 = .ok (.putfield 25, 3) := by decide +kernel
theorem d_Sp_init_32 : decode m_Sp_init.2.1 32 = .ok (.return_, 1) := by decide +kernel
abbrev at_Sp (dC : Nat → ClassId) (dI : Nat → Nat → Nat) (A : Nat → Prop) (h0 : Nat) (u : Nat × ClassId) (t : State) : Prop := va_P (dC, dI) classes [(h0, .inr (3, [.ref u.1, .int 0, .int 0, .int 0, .int 0])), (u.1, .inl (u.2, 10, .inl (fun _ => 0)))] t.heap ∧ va_K (dC, dI) classes [(u.2, .int)] t ∧ va_D A [(h0, .inr (3, [.ref u.1, .int 0, .int 0, .int 0, .int 0])), (u.1, .inl (u.2, 10, .inl (fun _ => 0)))]
set_option maxHeartbeats 4000000 in
set_option maxRecDepth 100000 in
theorem k_Sp (l : Launch) (dC : Nat → ClassId) (dI : Nat → Nat → Nat) (h0 sz : Nat) : Met l m_Sp_init.1 (wsOf m_Sp_init) { frames := 1, cells := 1, slots := 10, locals := 12 } (va_Pc [.ref h0] (fun U => U.heap.size = sz ∧ va_P (dC, dI) classes [(h0, .inr (3, [.null, .int 0, .int 0, .int 0, .int 0]))] U.heap ∧ va_K (dC, dI) classes [] U ∧ va_D (fun _ => True) [(h0, .inr (3, [.null, .int 0, .int 0, .int 0, .int 0]))])) (va_Qv (fun _ : Nat × ClassId => True) (at_Sp dC dI (va_A [(h0, .inr (3, [.null, .int 0, .int 0, .int 0, .int 0]))] sz) h0) (va_A [(h0, .inr (3, [.null, .int 0, .int 0, .int 0, .int 0]))] sz)) 1 10 (va_A [(h0, .inr (3, [.null, .int 0, .int 0, .int 0, .int 0]))] sz) := by
  refine Met.ofW (cc := m_Sp_init.2.1) (maxL := m_Sp_init.2.2.1) (ret := m_Sp_init.2.2.2.1) (by decide) rfl ?_
  intro p e s m args below meth c s₁ B hml hv
  obtain ⟨rfl, hsz, hP, hK, hD0⟩ := hv
  have hx := B.exec
  have hb := B.bytes
  have hr := B.returns
  have hts := atoms_spec (ws := wsOf m_Sp_init) B.pre
  have hw : ∀ {w : Cond}, w ∈ lwg → w.before #[.ref h0] s = true := fun h => hts _ (List.mem_cons_of_mem _ h)
  have hown : s.vm.findClass RX3 = some m.cls := findClass_of_methodNamed B.named
  have hlocks := B.notSynchronized
  have hin : meth.name = "<init>" := (name_of_methodNamed B.named B.method).1
  subst hsz
  have hD := hD0.self (sz := s.heap.size)
  generalize hAe : va_A [(h0, .inr (3, [.null, .int 0, .int 0, .int 0, .int 0]))] s.heap.size = A at hD ⊢
  have hA : ∀ q : Nat, s.heap.size ≤ q → A q := fun q h => by rw [← hAe]; exact Or.inr h
  have hS : va_S A s.heap s.heap [] := va_S.rf
  have hl := lv_entry ([.ref h0]) (n := m_Sp_init.2.2.1) (Nat.le_of_ble_eq_true rfl)
  show W p l e (headSpec (wsOf m_Sp_init) _).room s m _ below meth c s.heap [] 0 0 _ (entryFrame m ([.ref h0] : List Value).toArray m_Sp_init.2.2.1)
  rw [lg_entry_eq]
  generalize (lg_sl ([.ref h0]) ++ List.replicate (m_Sp_init.2.2.1 - (lg_sl ([.ref h0])).length) Slot.unset).toArray = ls at hl ⊢
  have hl : lv_has ls 1 [(0, .ref h0)] := hl
  have hml : c.maxLocals = 1 := hml
  refine lv_aload_n hx hb d_Sp_init_0 rfl (lv_at hl 0 rfl) ?_
  refine W.objInit hx hb hown (hw (mem_t 85 (by decide +kernel) rfl)) (hw (mem_t 17 (by decide +kernel) rfl)) (hw (mem_t 18 (by decide +kernel) rfl)) rfl (by rw [hml]; exact hl.1) rfl d_Sp_init_1 (Nat.le_of_ble_eq_true rfl) (Nat.le_of_ble_eq_true rfl) ?_
  refine W.eq (g2 := F0 m 4 ls []) rfl ?_
  refine lv_aload_n hx hb d_Sp_init_4 rfl (lv_at hl 0 rfl) ?_
  refine lv_bipush (v := 10) hx hb d_Sp_init_5 (by decide) ?_
  refine va_newa (atype := .int) (ty := .int) (a0 := (10, .inl (fun _ => 0))) hx hb (hw (mem_t 33 (by decide +kernel) rfl)) rfl hK hP hD hS hA (fun _ => rfl) (by decide) (N' := 10) (by decide) (Nat.le_of_ble_eq_true rfl) (Nat.le_of_ble_eq_true rfl) (Nat.le_of_ble_eq_true rfl) d_Sp_init_7 (fun q1 k1 H hK hP hD hS => ?_)
  have hP : va_P (dC, dI) classes [(h0, .inr (3, [.null, .int 0, .int 0, .int 0, .int 0])), (q1, .inl (k1, 10, .inl (fun _ => 0)))] H := hP
  have hD : va_D A [(h0, .inr (3, [.null, .int 0, .int 0, .int 0, .int 0])), (q1, .inl (k1, 10, .inl (fun _ => 0)))] := hD
  have hK : va_K (dC, dI) classes [(k1, .int)] s := hK
  refine W.widen (k := 1) (n := 10) (Nat.le_of_ble_eq_true rfl) (Nat.le_of_ble_eq_true rfl) ?_
  refine va_putF (D := (dC, dI)) (ci := 3) (v := .ref q1) (ty := (.array .int)) (C := RX3) (T := TX3) (N := 5) hx hb (fun w h => hw h) inX3 tyX3 tyX3_ok nmX3 hown hK hP hD hS 0 rfl rfl 0 (by decide) (hw (mem_t 86 (by decide +kernel) rfl)) (fun _ h9 => h9) rfl hin rfl (by decide +kernel) rfl rfl (Nat.le_of_ble_eq_true rfl) d_Sp_init_9 (fun H locs hP hD hS => ?_)
  have hP : va_P (dC, dI) classes [(h0, .inr (3, [.ref q1, .int 0, .int 0, .int 0, .int 0])), (q1, .inl (k1, 10, .inl (fun _ => 0)))] H := hP
  have hD : va_D A [(h0, .inr (3, [.ref q1, .int 0, .int 0, .int 0, .int 0])), (q1, .inl (k1, 10, .inl (fun _ => 0)))] := hD
  refine lv_aload_n hx hb d_Sp_init_12 rfl (lv_at hl 0 rfl) ?_
  refine lv_iconst (v := 0) hx hb d_Sp_init_13 (by decide) ?_
  refine va_put (D := (dC, dI)) (ci := 3) (v := .int 0) (ty := .int) (C := RX3) (T := TX3) (N := 5) hx hb (fun w h => hw h) inX3 tyX3 tyX3_ok nmX3 hown hK hP hD hS 0 rfl rfl 1 (by decide) (hw (mem_t 88 (by decide +kernel) rfl)) (fun _ h9 => h9) rfl (by decide +kernel) rfl rfl (Nat.le_of_ble_eq_true rfl) d_Sp_init_14 (fun H locs hP hD hS => ?_)
  have hP : va_P (dC, dI) classes [(h0, .inr (3, [.ref q1, .int 0, .int 0, .int 0, .int 0])), (q1, .inl (k1, 10, .inl (fun _ => 0)))] H := hP
  have hD : va_D A [(h0, .inr (3, [.ref q1, .int 0, .int 0, .int 0, .int 0])), (q1, .inl (k1, 10, .inl (fun _ => 0)))] := hD
  refine lv_aload_n hx hb d_Sp_init_17 rfl (lv_at hl 0 rfl) ?_
  refine lv_iconst (v := 0) hx hb d_Sp_init_18 (by decide) ?_
  refine va_put (D := (dC, dI)) (ci := 3) (v := .int 0) (ty := .int) (C := RX3) (T := TX3) (N := 5) hx hb (fun w h => hw h) inX3 tyX3 tyX3_ok nmX3 hown hK hP hD hS 0 rfl rfl 2 (by decide) (hw (mem_t 90 (by decide +kernel) rfl)) (fun _ h9 => h9) rfl (by decide +kernel) rfl rfl (Nat.le_of_ble_eq_true rfl) d_Sp_init_19 (fun H locs hP hD hS => ?_)
  have hP : va_P (dC, dI) classes [(h0, .inr (3, [.ref q1, .int 0, .int 0, .int 0, .int 0])), (q1, .inl (k1, 10, .inl (fun _ => 0)))] H := hP
  have hD : va_D A [(h0, .inr (3, [.ref q1, .int 0, .int 0, .int 0, .int 0])), (q1, .inl (k1, 10, .inl (fun _ => 0)))] := hD
  refine lv_aload_n hx hb d_Sp_init_22 rfl (lv_at hl 0 rfl) ?_
  refine lv_iconst (v := 0) hx hb d_Sp_init_23 (by decide) ?_
  refine va_put (D := (dC, dI)) (ci := 3) (v := .int 0) (ty := .int) (C := RX3) (T := TX3) (N := 5) hx hb (fun w h => hw h) inX3 tyX3 tyX3_ok nmX3 hown hK hP hD hS 0 rfl rfl 3 (by decide) (hw (mem_t 92 (by decide +kernel) rfl)) (fun _ h9 => h9) rfl (by decide +kernel) rfl rfl (Nat.le_of_ble_eq_true rfl) d_Sp_init_24 (fun H locs hP hD hS => ?_)
  have hP : va_P (dC, dI) classes [(h0, .inr (3, [.ref q1, .int 0, .int 0, .int 0, .int 0])), (q1, .inl (k1, 10, .inl (fun _ => 0)))] H := hP
  have hD : va_D A [(h0, .inr (3, [.ref q1, .int 0, .int 0, .int 0, .int 0])), (q1, .inl (k1, 10, .inl (fun _ => 0)))] := hD
  refine lv_aload_n hx hb d_Sp_init_27 rfl (lv_at hl 0 rfl) ?_
  refine lv_iconst (v := 0) hx hb d_Sp_init_28 (by decide) ?_
  refine va_put (D := (dC, dI)) (ci := 3) (v := .int 0) (ty := .int) (C := RX3) (T := TX3) (N := 5) hx hb (fun w h => hw h) inX3 tyX3 tyX3_ok nmX3 hown hK hP hD hS 0 rfl rfl 4 (by decide) (hw (mem_t 94 (by decide +kernel) rfl)) (fun _ h9 => h9) rfl (by decide +kernel) rfl rfl (Nat.le_of_ble_eq_true rfl) d_Sp_init_29 (fun H locs hP hD hS => ?_)
  have hP : va_P (dC, dI) classes [(h0, .inr (3, [.ref q1, .int 0, .int 0, .int 0, .int 0])), (q1, .inl (k1, 10, .inl (fun _ => 0)))] H := hP
  have hD : va_D A [(h0, .inr (3, [.ref q1, .int 0, .int 0, .int 0, .int 0])), (q1, .inl (k1, 10, .inl (fun _ => 0)))] := hD
  have hP9 := hP.sub (ws' := [(h0, .inr (3, [.ref q1, .int 0, .int 0, .int 0, .int 0])), (q1, .inl (k1, 10, .inl (fun _ => 0)))]) [0, 1] rfl
  have hD9 := hD.sub (ws' := [(h0, .inr (3, [.ref q1, .int 0, .int 0, .int 0, .int 0])), (q1, .inl (k1, 10, .inl (fun _ => 0)))]) [0, 1] (by decide) rfl
  exact W.vret hx hb hr (fun t ht hW => ⟨⟨(q1, k1), rfl, trivial, by rw [ht]; exact hP9, va_K.moved hW.alike hK, hD9⟩, hS.F ht⟩) hS.2.2 d_Sp_init_32
theorem d_Sh_init_0 : decode m_Sh_init.2.1 0 = .ok (.aload_n 0, 1) := by decide +kernel
theorem d_Sh_init_1 : decode m_Sh_init.2.1 1 = .ok (.invokespecial 3, 3) := by decide +kernel
theorem d_Sh_init_4 : decode m_Sh_init.2.1 4 = .ok (.aload_n 0, 1) := by decide +kernel
theorem d_Sh_init_5 : decode m_Sh_init.2.1 5 = .ok (.bipush 48, 2) := by decide +kernel
theorem d_Sh_init_7 : decode m_Sh_init.2.1 7 = .ok (.newarray .int, 2) := by decide +kernel
theorem d_Sh_init_9 : decode m_Sh_init.2.1 9 = .ok (.putfield 9, 3) := by decide +kernel
theorem d_Sh_init_12 : decode m_Sh_init.2.1 12 = .ok (.aload_n 0, 1) := by decide +kernel
theorem d_Sh_init_13 : decode m_Sh_init.2.1 13 = .ok (.iconst 1, 1) := by decide +kernel
theorem d_Sh_init_14 : decode m_Sh_init.2.1 14 = .ok (.putfield 15, 3) := by decide +kernel
theorem d_Sh_init_17 : decode m_Sh_init.2.1 17 = .ok (.aload_n 0, 1) := by decide +kernel
theorem d_Sh_init_18 : decode m_Sh_init.2.1 18 = .ok (.iconst 0, 1) := by decide +kernel
theorem d_Sh_init_19 : decode m_Sh_init.2.1 19 = .ok (.putfield 19, 3) := by decide +kernel
theorem d_Sh_init_22 : decode m_Sh_init.2.1 22 = .ok (.aload_n 0, 1) := by decide +kernel
theorem d_Sh_init_23 : decode m_Sh_init.2.1 23 = .ok (.iconst 0, 1) := by decide +kernel
theorem d_Sh_init_24 : decode m_Sh_init.2.1 24 = .ok (.putfield 23, 3) := by decide +kernel
theorem d_Sh_init_27 : decode m_Sh_init.2.1 27 = .ok (.return_, 1) := by decide +kernel
abbrev at_Sh (dC : Nat → ClassId) (dI : Nat → Nat → Nat) (A : Nat → Prop) (h0 : Nat) (u : Nat × ClassId) (t : State) : Prop := va_P (dC, dI) classes [(h0, .inr (2, [.ref u.1, .int 1, .int 0, .int 0])), (u.1, .inl (u.2, 48, .inl (fun _ => 0)))] t.heap ∧ va_K (dC, dI) classes [(u.2, .int)] t ∧ va_D A [(h0, .inr (2, [.ref u.1, .int 1, .int 0, .int 0])), (u.1, .inl (u.2, 48, .inl (fun _ => 0)))]
set_option maxHeartbeats 4000000 in
set_option maxRecDepth 100000 in
theorem k_Sh (l : Launch) (dC : Nat → ClassId) (dI : Nat → Nat → Nat) (h0 sz : Nat) : Met l m_Sh_init.1 (wsOf m_Sh_init) { frames := 1, cells := 1, slots := 48, locals := 12 } (va_Pc [.ref h0] (fun U => U.heap.size = sz ∧ va_P (dC, dI) classes [(h0, .inr (2, [.null, .int 0, .int 0, .int 0]))] U.heap ∧ va_K (dC, dI) classes [] U ∧ va_D (fun _ => True) [(h0, .inr (2, [.null, .int 0, .int 0, .int 0]))])) (va_Qv (fun _ : Nat × ClassId => True) (at_Sh dC dI (va_A [(h0, .inr (2, [.null, .int 0, .int 0, .int 0]))] sz) h0) (va_A [(h0, .inr (2, [.null, .int 0, .int 0, .int 0]))] sz)) 1 48 (va_A [(h0, .inr (2, [.null, .int 0, .int 0, .int 0]))] sz) := by
  refine Met.ofW (cc := m_Sh_init.2.1) (maxL := m_Sh_init.2.2.1) (ret := m_Sh_init.2.2.2.1) (by decide) rfl ?_
  intro p e s m args below meth c s₁ B hml hv
  obtain ⟨rfl, hsz, hP, hK, hD0⟩ := hv
  have hx := B.exec
  have hb := B.bytes
  have hr := B.returns
  have hts := atoms_spec (ws := wsOf m_Sh_init) B.pre
  have hw : ∀ {w : Cond}, w ∈ lwg → w.before #[.ref h0] s = true := fun h => hts _ (List.mem_cons_of_mem _ h)
  have hown : s.vm.findClass RX2 = some m.cls := findClass_of_methodNamed B.named
  have hlocks := B.notSynchronized
  have hin : meth.name = "<init>" := (name_of_methodNamed B.named B.method).1
  subst hsz
  have hD := hD0.self (sz := s.heap.size)
  generalize hAe : va_A [(h0, .inr (2, [.null, .int 0, .int 0, .int 0]))] s.heap.size = A at hD ⊢
  have hA : ∀ q : Nat, s.heap.size ≤ q → A q := fun q h => by rw [← hAe]; exact Or.inr h
  have hS : va_S A s.heap s.heap [] := va_S.rf
  have hl := lv_entry ([.ref h0]) (n := m_Sh_init.2.2.1) (Nat.le_of_ble_eq_true rfl)
  show W p l e (headSpec (wsOf m_Sh_init) _).room s m _ below meth c s.heap [] 0 0 _ (entryFrame m ([.ref h0] : List Value).toArray m_Sh_init.2.2.1)
  rw [lg_entry_eq]
  generalize (lg_sl ([.ref h0]) ++ List.replicate (m_Sh_init.2.2.1 - (lg_sl ([.ref h0])).length) Slot.unset).toArray = ls at hl ⊢
  have hl : lv_has ls 1 [(0, .ref h0)] := hl
  have hml : c.maxLocals = 1 := hml
  refine lv_aload_n hx hb d_Sh_init_0 rfl (lv_at hl 0 rfl) ?_
  refine W.objInit hx hb hown (hw (mem_t 111 (by decide +kernel) rfl)) (hw (mem_t 17 (by decide +kernel) rfl)) (hw (mem_t 18 (by decide +kernel) rfl)) rfl (by rw [hml]; exact hl.1) rfl d_Sh_init_1 (Nat.le_of_ble_eq_true rfl) (Nat.le_of_ble_eq_true rfl) ?_
  refine W.eq (g2 := F0 m 4 ls []) rfl ?_
  refine lv_aload_n hx hb d_Sh_init_4 rfl (lv_at hl 0 rfl) ?_
  refine lv_bipush (v := 48) hx hb d_Sh_init_5 (by decide) ?_
  refine va_newa (atype := .int) (ty := .int) (a0 := (48, .inl (fun _ => 0))) hx hb (hw (mem_t 33 (by decide +kernel) rfl)) rfl hK hP hD hS hA (fun _ => rfl) (by decide) (N' := 48) (by decide) (Nat.le_of_ble_eq_true rfl) (Nat.le_of_ble_eq_true rfl) (Nat.le_of_ble_eq_true rfl) d_Sh_init_7 (fun q1 k1 H hK hP hD hS => ?_)
  have hP : va_P (dC, dI) classes [(h0, .inr (2, [.null, .int 0, .int 0, .int 0])), (q1, .inl (k1, 48, .inl (fun _ => 0)))] H := hP
  have hD : va_D A [(h0, .inr (2, [.null, .int 0, .int 0, .int 0])), (q1, .inl (k1, 48, .inl (fun _ => 0)))] := hD
  have hK : va_K (dC, dI) classes [(k1, .int)] s := hK
  refine W.widen (k := 1) (n := 48) (Nat.le_of_ble_eq_true rfl) (Nat.le_of_ble_eq_true rfl) ?_
  refine va_putF (D := (dC, dI)) (ci := 2) (v := .ref q1) (ty := (.array .int)) (C := RX2) (T := TX2) (N := 4) hx hb (fun w h => hw h) inX2 tyX2 tyX2_ok nmX2 hown hK hP hD hS 0 rfl rfl 0 (by decide) (hw (mem_t 112 (by decide +kernel) rfl)) (fun _ h9 => h9) rfl hin rfl (by decide +kernel) rfl rfl (Nat.le_of_ble_eq_true rfl) d_Sh_init_9 (fun H locs hP hD hS => ?_)
  have hP : va_P (dC, dI) classes [(h0, .inr (2, [.ref q1, .int 0, .int 0, .int 0])), (q1, .inl (k1, 48, .inl (fun _ => 0)))] H := hP
  have hD : va_D A [(h0, .inr (2, [.ref q1, .int 0, .int 0, .int 0])), (q1, .inl (k1, 48, .inl (fun _ => 0)))] := hD
  refine lv_aload_n hx hb d_Sh_init_12 rfl (lv_at hl 0 rfl) ?_
  refine lv_iconst (v := 1) hx hb d_Sh_init_13 (by decide) ?_
  refine va_put (D := (dC, dI)) (ci := 2) (v := .int 1) (ty := .boolean) (C := RX2) (T := TX2) (N := 4) hx hb (fun w h => hw h) inX2 tyX2 tyX2_ok nmX2 hown hK hP hD hS 0 rfl rfl 1 (by decide) (hw (mem_t 114 (by decide +kernel) rfl)) (fun _ h9 => h9) rfl (by decide +kernel) rfl rfl (Nat.le_of_ble_eq_true rfl) d_Sh_init_14 (fun H locs hP hD hS => ?_)
  have hP : va_P (dC, dI) classes [(h0, .inr (2, [.ref q1, .int 1, .int 0, .int 0])), (q1, .inl (k1, 48, .inl (fun _ => 0)))] H := hP
  have hD : va_D A [(h0, .inr (2, [.ref q1, .int 1, .int 0, .int 0])), (q1, .inl (k1, 48, .inl (fun _ => 0)))] := hD
  refine lv_aload_n hx hb d_Sh_init_17 rfl (lv_at hl 0 rfl) ?_
  refine lv_iconst (v := 0) hx hb d_Sh_init_18 (by decide) ?_
  refine va_put (D := (dC, dI)) (ci := 2) (v := .int 0) (ty := .int) (C := RX2) (T := TX2) (N := 4) hx hb (fun w h => hw h) inX2 tyX2 tyX2_ok nmX2 hown hK hP hD hS 0 rfl rfl 2 (by decide) (hw (mem_t 116 (by decide +kernel) rfl)) (fun _ h9 => h9) rfl (by decide +kernel) rfl rfl (Nat.le_of_ble_eq_true rfl) d_Sh_init_19 (fun H locs hP hD hS => ?_)
  have hP : va_P (dC, dI) classes [(h0, .inr (2, [.ref q1, .int 1, .int 0, .int 0])), (q1, .inl (k1, 48, .inl (fun _ => 0)))] H := hP
  have hD : va_D A [(h0, .inr (2, [.ref q1, .int 1, .int 0, .int 0])), (q1, .inl (k1, 48, .inl (fun _ => 0)))] := hD
  refine lv_aload_n hx hb d_Sh_init_22 rfl (lv_at hl 0 rfl) ?_
  refine lv_iconst (v := 0) hx hb d_Sh_init_23 (by decide) ?_
  refine va_put (D := (dC, dI)) (ci := 2) (v := .int 0) (ty := .int) (C := RX2) (T := TX2) (N := 4) hx hb (fun w h => hw h) inX2 tyX2 tyX2_ok nmX2 hown hK hP hD hS 0 rfl rfl 3 (by decide) (hw (mem_t 118 (by decide +kernel) rfl)) (fun _ h9 => h9) rfl (by decide +kernel) rfl rfl (Nat.le_of_ble_eq_true rfl) d_Sh_init_24 (fun H locs hP hD hS => ?_)
  have hP : va_P (dC, dI) classes [(h0, .inr (2, [.ref q1, .int 1, .int 0, .int 0])), (q1, .inl (k1, 48, .inl (fun _ => 0)))] H := hP
  have hD : va_D A [(h0, .inr (2, [.ref q1, .int 1, .int 0, .int 0])), (q1, .inl (k1, 48, .inl (fun _ => 0)))] := hD
  have hP9 := hP.sub (ws' := [(h0, .inr (2, [.ref q1, .int 1, .int 0, .int 0])), (q1, .inl (k1, 48, .inl (fun _ => 0)))]) [0, 1] rfl
  have hD9 := hD.sub (ws' := [(h0, .inr (2, [.ref q1, .int 1, .int 0, .int 0])), (q1, .inl (k1, 48, .inl (fun _ => 0)))]) [0, 1] (by decide) rfl
  exact W.vret hx hb hr (fun t ht hW => ⟨⟨(q1, k1), rfl, trivial, by rw [ht]; exact hP9, va_K.moved hW.alike hK, hD9⟩, hS.F ht⟩) hS.2.2 d_Sh_init_27
