def OpOK {ρ : Type} (Rel : Hp → Prop) (fc fm : Hp → Option (ρ × Hp)) : Prop := ∀ h, Rel h → ∃ r h1 h2, fc h = some (r, h1) ∧ fm h1 = some (r, h2) ∧ Rel h2
/-- the law's frame: what stays through its loop -/
def LC (G : Gt) (p : Program) (s : State) (m : MethodId) (meth : Method) (c : Code) (b L : Nat) (xs : Nat → Int32) : Prop := lw_At p s m meth c b L xs ∧ KK G s ∧ wInj G ∧ (∀ a, a < NC → s.heap.size ≤ ad G a)
/-- W of the law at a pc, the world being h -/
def LV (G : Gt) (p : Program) (e : Env) (s : State) (m : MethodId) (below : List Frame) (meth : Method) (c : Code) (b : Nat) (pc : Nat) (ls : List (Nat × Value)) (st : List Value) (h : Hp) : Prop :=
  ∀ (H : Heap) (locs : List Loc) (lsA : Array Slot), va_P G.2.2.1 classes (world G h) H → va_S (fun q : Nat => s.heap.size ≤ q) s.heap H locs → lv_has lsA 4 ls → W p G.1 e room_1 s m #[Value.ref b] below meth c H locs 46 833 (lw_Z below #[Value.ref b] s) (F0 m pc lsA st)
section LAW
variable {G : Gt} {p : Program} {e : Env} {s : State} {m : MethodId} {below : List Frame} {meth : Method} {c : Code} {b L : Nat} {xs : Nat → Int32} {pc : Nat} {ls : List (Nat × Value)} {st : List Value} {h : Hp}
theorem lw_word (C0 : lw_At p s m meth c b L xs) {w : Cond} (hw : w ∈ lwg) : w.before #[Value.ref b] s = true := C0.2.2.2.2.2.1 w (lwg_sub hw)
theorem la_aload {f : Fin 4} {i : Nat} {x : Nat} (C : LC G p s m meth c b L xs) (j : Nat) (hdg : decode code pc = .ok (.aload_n f, 1)) (hi : (f : Nat) = i) (hl : ls[j]? = some (i, .ref x)) (k : LV G p e s m below meth c b (pc + 1) ls (.ref x :: st) h) : LV G p e s m below meth c b pc ls st h :=
  fun H locs lsA hP hS hL => lv_aload_n C.1.1 C.1.2.1 hdg hi (lv_at hL j hl) (k H locs lsA hP hS hL)
theorem la_iload {f : Fin 4} {i : Nat} {x : Int32} (C : LC G p s m meth c b L xs) (j : Nat) (hdg : decode code pc = .ok (.iload_n f, 1)) (hi : (f : Nat) = i) (hl : ls[j]? = some (i, .int x)) (k : LV G p e s m below meth c b (pc + 1) ls (.int x :: st) h) : LV G p e s m below meth c b pc ls st h :=
  fun H locs lsA hP hS hL => lv_iload_n C.1.1 C.1.2.1 hdg hi (lv_at hL j hl) (k H locs lsA hP hS hL)
theorem la_iconst {n : Int} (v : Int32) (C : LC G p s m meth c b L xs) (hdg : decode code pc = .ok (.iconst n, 1)) (hv : Int32.ofInt n = v) (k : LV G p e s m below meth c b (pc + 1) ls (.int v :: st) h) : LV G p e s m below meth c b pc ls st h :=
  fun H locs lsA hP hS hL => lv_iconst C.1.1 C.1.2.1 hdg hv (k H locs lsA hP hS hL)
theorem la_bipush {n : Int} (v : Int32) (C : LC G p s m meth c b L xs) (hdg : decode code pc = .ok (.bipush n, 2)) (hv : (Int8.ofInt n).toInt32 = v) (k : LV G p e s m below meth c b (pc + 2) ls (.int v :: st) h) : LV G p e s m below meth c b pc ls st h :=
  fun H locs lsA hP hS hL => lv_bipush C.1.1 C.1.2.1 hdg hv (k H locs lsA hP hS hL)
theorem la_iadd {x y : Int32} (C : LC G p s m meth c b L xs) (hdg : decode code pc = .ok (.iadd, 1)) (k : LV G p e s m below meth c b (pc + 1) ls (.int (x + y) :: st) h) : LV G p e s m below meth c b pc ls (.int y :: .int x :: st) h :=
  fun H locs lsA hP hS hL => lv_iadd C.1.1 C.1.2.1 hdg (k H locs lsA hP hS hL)
theorem la_isub {x y : Int32} (C : LC G p s m meth c b L xs) (hdg : decode code pc = .ok (.isub, 1)) (k : LV G p e s m below meth c b (pc + 1) ls (.int (x - y) :: st) h) : LV G p e s m below meth c b pc ls (.int y :: .int x :: st) h :=
  fun H locs lsA hP hS hL => lv_isub C.1.1 C.1.2.1 hdg (k H locs lsA hP hS hL)
theorem la_iand {x y : Int32} (C : LC G p s m meth c b L xs) (hdg : decode code pc = .ok (.iand, 1)) (k : LV G p e s m below meth c b (pc + 1) ls (.int (x &&& y) :: st) h) : LV G p e s m below meth c b pc ls (.int y :: .int x :: st) h :=
  fun H locs lsA hP hS hL => lv_iand C.1.1 C.1.2.1 hdg (k H locs lsA hP hS hL)
theorem la_bA (C : LC G p s m meth c b L xs) : ¬ (fun q : Nat => s.heap.size ≤ q) b := Nat.not_le.mpr C.1.2.2.2.2.2.2.2.1
theorem la_sld (i : Nat) {x : Int32} (hx : x = nI i) (hi : i < L) (hL3 : L ≤ 384) (C : LC G p s m meth c b L xs) (hdg : decode code pc = .ok (.iaload, 1)) (k : LV G p e s m below meth c b (pc + 1) ls (.int (xs i) :: st) h) : LV G p e s m below meth c b pc ls (.int x :: .ref b :: st) h := by
  intro H locs lsA hP hS hL
  have hin : vp_in x L := by rw [hx]; exact vp_in_nI hi (by omega)
  have e1 : x.toNatClampNeg = i := by rw [hx]; exact nI_clamp (by omega)
  refine va_sld C.1.1 C.1.2.1 C.1.2.2.2.2.2.2.1 C.1.2.2.2.2.2.2.2.1 (la_bA C) hS hin hdg ?_
  rw [e1]
  exact k H locs lsA hP hS hL
theorem la_slen (C : LC G p s m meth c b L xs) (hdg : decode code pc = .ok (.arraylength, 1)) (k : LV G p e s m below meth c b (pc + 1) ls (.int (nI L) :: st) h) : LV G p e s m below meth c b pc ls (.ref b :: st) h := by
  intro H locs lsA hP hS hL
  exact va_slen C.1.1 C.1.2.1 C.1.2.2.2.2.2.2.1 C.1.2.2.2.2.2.2.2.1 (la_bA C) hS hdg (k H locs lsA hP hS hL)
theorem la_call {σ : Type} {κz : σ → Option Value} {μz : Mt} {ci a idx n : Nat} {As rest st0 : List Value} {oz : Option (σ × Hp)} {r1 : σ} {v : Value} {h1 : Hp}
    (C : LC G p s m meth c b L xs) (hz : oz = some (r1, h1)) (hv : κz r1 = some v) (hC : Cn G μz (.ref (ad G a) :: As) h κz oz) (hok : CallOK "SpiderLoomLaw" idx μz n) (hin : InstOK μz ci) (hO : isO ci a) (hR : μz.2.2.2.2.1 + 1 ≤ room_1.frames ∧ 8 + (μz.2.2.1 + 11) + μz.2.2.2.2.2 ≤ room_1.locals) (hn : As.length = n) (hst : st0 = As.reverse ++ .ref (ad G a) :: rest) (hw : (rest.map fun v => v.category).sum ≤ 8) (hdg : decode code pc = .ok (.invokevirtual idx, 3))
    (k : LV G p e s m below meth c b (pc + 3) ls (v :: rest) h1) : LV G p e s m below meth c b pc ls st0 h := by
  intro H locs lsA hP hS hL
  obtain ⟨hcode, hini, hlink, hd⟩ := hok
  obtain ⟨hinst, hsel, q, hq, hqc⟩ := hin
  obtain ⟨C0, hK, hI, hAd⟩ := C
  have hGI : GoodIn lw_tbl (wsOf μz) := by
    intro w hw
    have g1 : w ∈ lwg := by
      rcases List.mem_cons.mp hw with e | e
      · rw [e]; exact hcode
      · exact e
    exact ⟨lwg_sub g1, good_of_word (lwg_good g1)⟩
  have hcb := callB_of (R := room_1) (rm := rmOf μz) (mc := 0) (ms := 0) n C0.2.2.2.2.2.1 hGI rfl rfl rfl (lw_word C0 hini) (lw_word C0 hlink) hd hR
  have hr := va_runV (l := G.1) (e := e) (below := below) (meth := meth) (R := room_1) (g := F0 m pc lsA st0) (locs := locs) (cells := 46) (slots := 833) (As := As) (rest := rest) (C := μz.1.cls) ⟨C0.1, C0.2.1, C0.2.2.2.1, C0.2.2.2.2.1, C0.2.2.2.2.2.1⟩ (hC r1 h1 hz) ⟨hcb, lw_word C0 hinst, lw_word C0 hsel⟩ ⟨WH.blind, by
    obtain ⟨cell, g1, g2, g3⟩ := va_recv hK.1 hP hq (cell_O hO)
    exact ⟨cell, g1, g2, by rw [← hqc]; exact g3⟩, fun U hU hW => ⟨rfl, by rw [hU]; exact hP, KK.warm hW hK, hI⟩⟩ rfl hn hL.1 hst (lv_room hw) hdg ⟨Nat.le_of_ble_eq_true rfl, Nat.le_of_ble_eq_true rfl⟩
  intro T hT X
  obtain ⟨v', st₀, t, T', Lc, h0, X', hLc, e1, e2, ⟨hv', hP1, hz1, hk1⟩, stp⟩ := hr T hT X
  have hA0 : ∀ q, Aw G q → s.heap.size ≤ q := fun q hq => by obtain ⟨a, ha, rfl⟩ := hq; exact hAd a ha
  rw [hv] at hv'
  cases hv'
  rw [h0] at hz1 hk1
  have hS1 : va_S (fun q : Nat => s.heap.size ≤ q) s.heap T'.heap (locs ++ Lc) := ⟨Nat.le_trans hS.1 (by rw [e1]; exact hz1), fun q g1 g2 => by rw [e1, hk1 q (Nat.lt_of_lt_of_le g1 hS.1) (fun z => g2 (hA0 q z))]; exact hS.2.1 q g1 g2, fun q hq => by
    rcases List.mem_append.mp hq with g | g
    · exact hS.2.2 q g
    · exact hA0 _ (hLc q g)⟩
  obtain ⟨t2, a1, b1⟩ := k T'.heap (locs ++ Lc) lsA (by rw [e1]; exact hP1) hS1 hL T' rfl X'
  exact ⟨t2, stp t2 a1, b1⟩
theorem la_ieq {x : Int32} {off : Int} (tgt : Nat) (C : LC G p s m meth c b L xs) (hdg : decode code pc = .ok (.if_icmp .eq off, 3)) (ht : (pc : Int) + off = (tgt : Int)) (k : LV G p e s m below meth c b tgt ls st h) : LV G p e s m below meth c b pc ls (.int x :: .int x :: st) h :=
  fun H locs lsA hP hS hL => lv_icmp_eq C.1.1 C.1.2.1 hdg ht (fun _ => k H locs lsA hP hS hL) (fun q => absurd rfl q)
theorem la_leq {x : Int64} {off : Int} (tgt : Nat) (C : LC G p s m meth c b L xs) (hd0 : decode code pc = .ok (.lcmp, 1)) (hdg : decode code (pc + 1) = .ok (.ifCond .eq off, 3)) (ht : ((pc + 1 : Nat) : Int) + off = (tgt : Int)) (k : LV G p e s m below meth c b tgt ls st h) : LV G p e s m below meth c b pc ls (.long x :: .long x :: st) h := by
  intro H locs lsA hP hS hL
  refine W.lcmp C.1.1 C.1.2.1 hd0 ?_
  have hc : lg_cmp x x = 0 := by simp [lg_cmp]
  exact lv_if_eq C.1.1 C.1.2.1 hdg ht (fun _ => k H locs lsA hP hS hL) (fun q => absurd hc q)
end LAW
set_option maxHeartbeats 4000000 in
set_option maxRecDepth 20000 in
theorem law_case_0 {Rel : Hp → Prop} {G : Gt} {p : Program} {e : Env} {s : State} {m : MethodId} {below : List Frame} {meth : Method} {c : Code} {b L : Nat} {xs : Nat → Int32} {h : Hp} (C : LC G p s m meth c b L xs) (hL3 : L ≤ 384) (i : Nat) (hi : i + 6 ≤ L) (ho : ∀ (x1 : Int32), OpOK Rel (f_C_type x1) (f_M_type x1)) (hr0 : Rel h)
    (hk : ∀ h2, Rel h2 → LV G p e s m below meth c b 1310 [(3, .int (nI i)), (2, .ref (ad G 31)), (1, .ref (ad G 0)), (0, .ref b)] [] h2) : LV G p e s m below meth c b 180 [(3, .int (nI i)), (2, .ref (ad G 31)), (1, .ref (ad G 0)), (0, .ref b)] [] h := by
  obtain ⟨r, h1, h2, e1, e2, hr⟩ := ho (xs (i + 1)) h hr0
  refine la_aload C 2 d_law_180 rfl rfl ?_
  refine la_aload C 3 d_law_181 rfl rfl ?_
  refine la_iload C 0 d_law_182 rfl rfl ?_
  refine la_iconst 1 C d_law_183 rfl ?_
  refine la_iadd C d_law_184 ?_
  refine la_sld (i + 1) (nI_add i 1) (by omega) hL3 C d_law_185 ?_
  refine la_call (As := [.int (xs (i + 1))]) (rest := []) C e1 rfl (c_C_type G (xs (i + 1)) h) co_L_13 io_C_type o_0 ⟨Nat.le_of_ble_eq_true rfl, Nat.le_of_ble_eq_true rfl⟩ rfl rfl (Nat.le_of_ble_eq_true rfl) d_law_186 ?_
  refine la_aload C 1 d_law_189 rfl rfl ?_
  refine la_aload C 3 d_law_190 rfl rfl ?_
  refine la_iload C 0 d_law_191 rfl rfl ?_
  refine la_iconst 1 C d_law_192 rfl ?_
  refine la_iadd C d_law_193 ?_
  refine la_sld (i + 1) (nI_add i 1) (by omega) hL3 C d_law_194 ?_
  refine la_call (As := [.int (xs (i + 1))]) (rest := [.int r]) C e2 rfl (c_M_type G (xs (i + 1)) h1) co_L_17 io_M_type o_31 ⟨Nat.le_of_ble_eq_true rfl, Nat.le_of_ble_eq_true rfl⟩ rfl rfl (Nat.le_of_ble_eq_true rfl) d_law_195 ?_
  exact la_ieq 1310 C d_law_198 (by decide) (hk h2 hr)
set_option maxHeartbeats 4000000 in
set_option maxRecDepth 20000 in
theorem law_case_1 {Rel : Hp → Prop} {G : Gt} {p : Program} {e : Env} {s : State} {m : MethodId} {below : List Frame} {meth : Method} {c : Code} {b L : Nat} {xs : Nat → Int32} {h : Hp} (C : LC G p s m meth c b L xs) (hL3 : L ≤ 384) (i : Nat) (hi : i + 6 ≤ L) (ho : OpOK Rel (f_C_wipe) (f_M_wipe)) (hr0 : Rel h)
    (hk : ∀ h2, Rel h2 → LV G p e s m below meth c b 1310 [(3, .int (nI i)), (2, .ref (ad G 31)), (1, .ref (ad G 0)), (0, .ref b)] [] h2) : LV G p e s m below meth c b 203 [(3, .int (nI i)), (2, .ref (ad G 31)), (1, .ref (ad G 0)), (0, .ref b)] [] h := by
  obtain ⟨r, h1, h2, e1, e2, hr⟩ := ho h hr0
  refine la_aload C 2 d_law_203 rfl rfl ?_
  refine la_call (As := []) (rest := []) C e1 rfl (c_C_wipe G h) co_L_18 io_C_wipe o_0 ⟨Nat.le_of_ble_eq_true rfl, Nat.le_of_ble_eq_true rfl⟩ rfl rfl (Nat.le_of_ble_eq_true rfl) d_law_204 ?_
  refine la_aload C 1 d_law_207 rfl rfl ?_
  refine la_call (As := []) (rest := [.int r]) C e2 rfl (c_M_wipe G h1) co_L_22 io_M_wipe o_31 ⟨Nat.le_of_ble_eq_true rfl, Nat.le_of_ble_eq_true rfl⟩ rfl rfl (Nat.le_of_ble_eq_true rfl) d_law_208 ?_
  exact la_ieq 1310 C d_law_211 (by decide) (hk h2 hr)
set_option maxHeartbeats 4000000 in
set_option maxRecDepth 20000 in
theorem law_case_2 {Rel : Hp → Prop} {G : Gt} {p : Program} {e : Env} {s : State} {m : MethodId} {below : List Frame} {meth : Method} {c : Code} {b L : Nat} {xs : Nat → Int32} {h : Hp} (C : LC G p s m meth c b L xs) (hL3 : L ≤ 384) (i : Nat) (hi : i + 6 ≤ L) (ho : OpOK Rel (f_C_undo) (f_M_undo)) (hr0 : Rel h)
    (hk : ∀ h2, Rel h2 → LV G p e s m below meth c b 1310 [(3, .int (nI i)), (2, .ref (ad G 31)), (1, .ref (ad G 0)), (0, .ref b)] [] h2) : LV G p e s m below meth c b 216 [(3, .int (nI i)), (2, .ref (ad G 31)), (1, .ref (ad G 0)), (0, .ref b)] [] h := by
  obtain ⟨r, h1, h2, e1, e2, hr⟩ := ho h hr0
  refine la_aload C 2 d_law_216 rfl rfl ?_
  refine la_call (As := []) (rest := []) C e1 rfl (c_C_undo G h) co_L_23 io_C_undo o_0 ⟨Nat.le_of_ble_eq_true rfl, Nat.le_of_ble_eq_true rfl⟩ rfl rfl (Nat.le_of_ble_eq_true rfl) d_law_217 ?_
  refine la_aload C 1 d_law_220 rfl rfl ?_
  refine la_call (As := []) (rest := [.int r]) C e2 rfl (c_M_undo G h1) co_L_26 io_M_undo o_31 ⟨Nat.le_of_ble_eq_true rfl, Nat.le_of_ble_eq_true rfl⟩ rfl rfl (Nat.le_of_ble_eq_true rfl) d_law_221 ?_
  exact la_ieq 1310 C d_law_224 (by decide) (hk h2 hr)
set_option maxHeartbeats 4000000 in
set_option maxRecDepth 20000 in
theorem law_case_3 {Rel : Hp → Prop} {G : Gt} {p : Program} {e : Env} {s : State} {m : MethodId} {below : List Frame} {meth : Method} {c : Code} {b L : Nat} {xs : Nat → Int32} {h : Hp} (C : LC G p s m meth c b L xs) (hL3 : L ≤ 384) (i : Nat) (hi : i + 6 ≤ L) (ho : OpOK Rel (f_C_fault) (f_M_fault)) (hr0 : Rel h)
    (hk : ∀ h2, Rel h2 → LV G p e s m below meth c b 1310 [(3, .int (nI i)), (2, .ref (ad G 31)), (1, .ref (ad G 0)), (0, .ref b)] [] h2) : LV G p e s m below meth c b 229 [(3, .int (nI i)), (2, .ref (ad G 31)), (1, .ref (ad G 0)), (0, .ref b)] [] h := by
  obtain ⟨r, h1, h2, e1, e2, hr⟩ := ho h hr0
  refine la_aload C 2 d_law_229 rfl rfl ?_
  refine la_call (As := []) (rest := []) C e1 rfl (c_C_fault G h) co_L_27 io_C_fault o_0 ⟨Nat.le_of_ble_eq_true rfl, Nat.le_of_ble_eq_true rfl⟩ rfl rfl (Nat.le_of_ble_eq_true rfl) d_law_230 ?_
  refine la_aload C 1 d_law_233 rfl rfl ?_
  refine la_call (As := []) (rest := [.int r]) C e2 rfl (c_M_fault G h1) co_L_30 io_M_fault o_31 ⟨Nat.le_of_ble_eq_true rfl, Nat.le_of_ble_eq_true rfl⟩ rfl rfl (Nat.le_of_ble_eq_true rfl) d_law_234 ?_
  exact la_ieq 1310 C d_law_237 (by decide) (hk h2 hr)
set_option maxHeartbeats 4000000 in
set_option maxRecDepth 20000 in
theorem law_case_4 {Rel : Hp → Prop} {G : Gt} {p : Program} {e : Env} {s : State} {m : MethodId} {below : List Frame} {meth : Method} {c : Code} {b L : Nat} {xs : Nat → Int32} {h : Hp} (C : LC G p s m meth c b L xs) (hL3 : L ≤ 384) (i : Nat) (hi : i + 6 ≤ L) (ho : ∀ (x1 x2 : Int32), OpOK Rel (f_C_peg x1 x2) (f_M_peg x1 x2)) (hr0 : Rel h)
    (hk : ∀ h2, Rel h2 → LV G p e s m below meth c b 1310 [(3, .int (nI i)), (2, .ref (ad G 31)), (1, .ref (ad G 0)), (0, .ref b)] [] h2) : LV G p e s m below meth c b 242 [(3, .int (nI i)), (2, .ref (ad G 31)), (1, .ref (ad G 0)), (0, .ref b)] [] h := by
  obtain ⟨r, h1, h2, e1, e2, hr⟩ := ho (xs (i + 1)) (xs (i + 2)) h hr0
  refine la_aload C 2 d_law_242 rfl rfl ?_
  refine la_aload C 3 d_law_243 rfl rfl ?_
  refine la_iload C 0 d_law_244 rfl rfl ?_
  refine la_iconst 1 C d_law_245 rfl ?_
  refine la_iadd C d_law_246 ?_
  refine la_sld (i + 1) (nI_add i 1) (by omega) hL3 C d_law_247 ?_
  refine la_aload C 3 d_law_248 rfl rfl ?_
  refine la_iload C 0 d_law_249 rfl rfl ?_
  refine la_iconst 2 C d_law_250 rfl ?_
  refine la_iadd C d_law_251 ?_
  refine la_sld (i + 2) (nI_add i 2) (by omega) hL3 C d_law_252 ?_
  refine la_call (As := [.int (xs (i + 1)), .int (xs (i + 2))]) (rest := []) C e1 rfl (c_C_peg G (xs (i + 1)) (xs (i + 2)) h) co_L_31 io_C_peg o_0 ⟨Nat.le_of_ble_eq_true rfl, Nat.le_of_ble_eq_true rfl⟩ rfl rfl (Nat.le_of_ble_eq_true rfl) d_law_253 ?_
  refine la_aload C 1 d_law_256 rfl rfl ?_
  refine la_aload C 3 d_law_257 rfl rfl ?_
  refine la_iload C 0 d_law_258 rfl rfl ?_
  refine la_iconst 1 C d_law_259 rfl ?_
  refine la_iadd C d_law_260 ?_
  refine la_sld (i + 1) (nI_add i 1) (by omega) hL3 C d_law_261 ?_
  refine la_aload C 3 d_law_262 rfl rfl ?_
  refine la_iload C 0 d_law_263 rfl rfl ?_
  refine la_iconst 2 C d_law_264 rfl ?_
  refine la_iadd C d_law_265 ?_
  refine la_sld (i + 2) (nI_add i 2) (by omega) hL3 C d_law_266 ?_
  refine la_call (As := [.int (xs (i + 1)), .int (xs (i + 2))]) (rest := [.int r]) C e2 rfl (c_M_peg G (xs (i + 1)) (xs (i + 2)) h1) co_L_35 io_M_peg o_31 ⟨Nat.le_of_ble_eq_true rfl, Nat.le_of_ble_eq_true rfl⟩ rfl rfl (Nat.le_of_ble_eq_true rfl) d_law_267 ?_
  exact la_ieq 1310 C d_law_270 (by decide) (hk h2 hr)
set_option maxHeartbeats 4000000 in
set_option maxRecDepth 20000 in
theorem law_case_5 {Rel : Hp → Prop} {G : Gt} {p : Program} {e : Env} {s : State} {m : MethodId} {below : List Frame} {meth : Method} {c : Code} {b L : Nat} {xs : Nat → Int32} {h : Hp} (C : LC G p s m meth c b L xs) (hL3 : L ≤ 384) (i : Nat) (hi : i + 6 ≤ L) (ho : ∀ (x1 x2 : Int32), OpOK Rel (f_C_hide x1 x2) (f_M_hide x1 x2)) (hr0 : Rel h)
    (hk : ∀ h2, Rel h2 → LV G p e s m below meth c b 1310 [(3, .int (nI i)), (2, .ref (ad G 31)), (1, .ref (ad G 0)), (0, .ref b)] [] h2) : LV G p e s m below meth c b 275 [(3, .int (nI i)), (2, .ref (ad G 31)), (1, .ref (ad G 0)), (0, .ref b)] [] h := by
  obtain ⟨r, h1, h2, e1, e2, hr⟩ := ho (xs (i + 1)) (xs (i + 2)) h hr0
  refine la_aload C 2 d_law_275 rfl rfl ?_
  refine la_aload C 3 d_law_276 rfl rfl ?_
  refine la_iload C 0 d_law_277 rfl rfl ?_
  refine la_iconst 1 C d_law_278 rfl ?_
  refine la_iadd C d_law_279 ?_
  refine la_sld (i + 1) (nI_add i 1) (by omega) hL3 C d_law_280 ?_
  refine la_aload C 3 d_law_281 rfl rfl ?_
  refine la_iload C 0 d_law_282 rfl rfl ?_
  refine la_iconst 2 C d_law_283 rfl ?_
  refine la_iadd C d_law_284 ?_
  refine la_sld (i + 2) (nI_add i 2) (by omega) hL3 C d_law_285 ?_
  refine la_call (As := [.int (xs (i + 1)), .int (xs (i + 2))]) (rest := []) C e1 rfl (c_C_hide G (xs (i + 1)) (xs (i + 2)) h) co_L_36 io_C_hide o_0 ⟨Nat.le_of_ble_eq_true rfl, Nat.le_of_ble_eq_true rfl⟩ rfl rfl (Nat.le_of_ble_eq_true rfl) d_law_286 ?_
  refine la_aload C 1 d_law_289 rfl rfl ?_
  refine la_aload C 3 d_law_290 rfl rfl ?_
  refine la_iload C 0 d_law_291 rfl rfl ?_
  refine la_iconst 1 C d_law_292 rfl ?_
  refine la_iadd C d_law_293 ?_
  refine la_sld (i + 1) (nI_add i 1) (by omega) hL3 C d_law_294 ?_
  refine la_aload C 3 d_law_295 rfl rfl ?_
  refine la_iload C 0 d_law_296 rfl rfl ?_
  refine la_iconst 2 C d_law_297 rfl ?_
  refine la_iadd C d_law_298 ?_
  refine la_sld (i + 2) (nI_add i 2) (by omega) hL3 C d_law_299 ?_
  refine la_call (As := [.int (xs (i + 1)), .int (xs (i + 2))]) (rest := [.int r]) C e2 rfl (c_M_hide G (xs (i + 1)) (xs (i + 2)) h1) co_L_39 io_M_hide o_31 ⟨Nat.le_of_ble_eq_true rfl, Nat.le_of_ble_eq_true rfl⟩ rfl rfl (Nat.le_of_ble_eq_true rfl) d_law_300 ?_
  exact la_ieq 1310 C d_law_303 (by decide) (hk h2 hr)
set_option maxHeartbeats 4000000 in
set_option maxRecDepth 20000 in
theorem law_case_6 {Rel : Hp → Prop} {G : Gt} {p : Program} {e : Env} {s : State} {m : MethodId} {below : List Frame} {meth : Method} {c : Code} {b L : Nat} {xs : Nat → Int32} {h : Hp} (C : LC G p s m meth c b L xs) (hL3 : L ≤ 384) (i : Nat) (hi : i + 6 ≤ L) (ho : ∀ (x1 x2 : Int32), OpOK Rel (f_C_set x1 x2) (f_M_set x1 x2)) (hr0 : Rel h)
    (hk : ∀ h2, Rel h2 → LV G p e s m below meth c b 1310 [(3, .int (nI i)), (2, .ref (ad G 31)), (1, .ref (ad G 0)), (0, .ref b)] [] h2) : LV G p e s m below meth c b 308 [(3, .int (nI i)), (2, .ref (ad G 31)), (1, .ref (ad G 0)), (0, .ref b)] [] h := by
  obtain ⟨r, h1, h2, e1, e2, hr⟩ := ho (xs (i + 1)) (xs (i + 2)) h hr0
  refine la_aload C 2 d_law_308 rfl rfl ?_
  refine la_aload C 3 d_law_309 rfl rfl ?_
  refine la_iload C 0 d_law_310 rfl rfl ?_
  refine la_iconst 1 C d_law_311 rfl ?_
  refine la_iadd C d_law_312 ?_
  refine la_sld (i + 1) (nI_add i 1) (by omega) hL3 C d_law_313 ?_
  refine la_aload C 3 d_law_314 rfl rfl ?_
  refine la_iload C 0 d_law_315 rfl rfl ?_
  refine la_iconst 2 C d_law_316 rfl ?_
  refine la_iadd C d_law_317 ?_
  refine la_sld (i + 2) (nI_add i 2) (by omega) hL3 C d_law_318 ?_
  refine la_call (As := [.int (xs (i + 1)), .int (xs (i + 2))]) (rest := []) C e1 rfl (c_C_set G (xs (i + 1)) (xs (i + 2)) h) co_L_40 io_C_set o_0 ⟨Nat.le_of_ble_eq_true rfl, Nat.le_of_ble_eq_true rfl⟩ rfl rfl (Nat.le_of_ble_eq_true rfl) d_law_319 ?_
  refine la_aload C 1 d_law_322 rfl rfl ?_
  refine la_aload C 3 d_law_323 rfl rfl ?_
  refine la_iload C 0 d_law_324 rfl rfl ?_
  refine la_iconst 1 C d_law_325 rfl ?_
  refine la_iadd C d_law_326 ?_
  refine la_sld (i + 1) (nI_add i 1) (by omega) hL3 C d_law_327 ?_
  refine la_aload C 3 d_law_328 rfl rfl ?_
  refine la_iload C 0 d_law_329 rfl rfl ?_
  refine la_iconst 2 C d_law_330 rfl ?_
  refine la_iadd C d_law_331 ?_
  refine la_sld (i + 2) (nI_add i 2) (by omega) hL3 C d_law_332 ?_
  refine la_call (As := [.int (xs (i + 1)), .int (xs (i + 2))]) (rest := [.int r]) C e2 rfl (c_M_set G (xs (i + 1)) (xs (i + 2)) h1) co_L_43 io_M_set o_31 ⟨Nat.le_of_ble_eq_true rfl, Nat.le_of_ble_eq_true rfl⟩ rfl rfl (Nat.le_of_ble_eq_true rfl) d_law_333 ?_
  exact la_ieq 1310 C d_law_336 (by decide) (hk h2 hr)
set_option maxHeartbeats 4000000 in
set_option maxRecDepth 20000 in
theorem law_case_7 {Rel : Hp → Prop} {G : Gt} {p : Program} {e : Env} {s : State} {m : MethodId} {below : List Frame} {meth : Method} {c : Code} {b L : Nat} {xs : Nat → Int32} {h : Hp} (C : LC G p s m meth c b L xs) (hL3 : L ≤ 384) (i : Nat) (hi : i + 6 ≤ L) (ho : ∀ (x1 : Int32), OpOK Rel (f_C_read x1) (f_M_read x1)) (hr0 : Rel h)
    (hk : ∀ h2, Rel h2 → LV G p e s m below meth c b 1310 [(3, .int (nI i)), (2, .ref (ad G 31)), (1, .ref (ad G 0)), (0, .ref b)] [] h2) : LV G p e s m below meth c b 341 [(3, .int (nI i)), (2, .ref (ad G 31)), (1, .ref (ad G 0)), (0, .ref b)] [] h := by
  obtain ⟨r, h1, h2, e1, e2, hr⟩ := ho (xs (i + 1)) h hr0
  refine la_aload C 2 d_law_341 rfl rfl ?_
  refine la_aload C 3 d_law_342 rfl rfl ?_
  refine la_iload C 0 d_law_343 rfl rfl ?_
  refine la_iconst 1 C d_law_344 rfl ?_
  refine la_iadd C d_law_345 ?_
  refine la_sld (i + 1) (nI_add i 1) (by omega) hL3 C d_law_346 ?_
  refine la_call (As := [.int (xs (i + 1))]) (rest := []) C e1 rfl (c_C_read G (xs (i + 1)) h) co_L_44 io_C_read o_0 ⟨Nat.le_of_ble_eq_true rfl, Nat.le_of_ble_eq_true rfl⟩ rfl rfl (Nat.le_of_ble_eq_true rfl) d_law_347 ?_
  refine la_aload C 1 d_law_350 rfl rfl ?_
  refine la_aload C 3 d_law_351 rfl rfl ?_
  refine la_iload C 0 d_law_352 rfl rfl ?_
  refine la_iconst 1 C d_law_353 rfl ?_
  refine la_iadd C d_law_354 ?_
  refine la_sld (i + 1) (nI_add i 1) (by omega) hL3 C d_law_355 ?_
  refine la_call (As := [.int (xs (i + 1))]) (rest := [.int r]) C e2 rfl (c_M_read G (xs (i + 1)) h1) co_L_47 io_M_read o_31 ⟨Nat.le_of_ble_eq_true rfl, Nat.le_of_ble_eq_true rfl⟩ rfl rfl (Nat.le_of_ble_eq_true rfl) d_law_356 ?_
  exact la_ieq 1310 C d_law_359 (by decide) (hk h2 hr)
set_option maxHeartbeats 4000000 in
set_option maxRecDepth 20000 in
theorem law_case_8 {Rel : Hp → Prop} {G : Gt} {p : Program} {e : Env} {s : State} {m : MethodId} {below : List Frame} {meth : Method} {c : Code} {b L : Nat} {xs : Nat → Int32} {h : Hp} (C : LC G p s m meth c b L xs) (hL3 : L ≤ 384) (i : Nat) (hi : i + 6 ≤ L) (ho : ∀ (x1 x2 : Int32), OpOK Rel (f_C_far x1 x2) (f_M_far x1 x2)) (hr0 : Rel h)
    (hk : ∀ h2, Rel h2 → LV G p e s m below meth c b 1310 [(3, .int (nI i)), (2, .ref (ad G 31)), (1, .ref (ad G 0)), (0, .ref b)] [] h2) : LV G p e s m below meth c b 364 [(3, .int (nI i)), (2, .ref (ad G 31)), (1, .ref (ad G 0)), (0, .ref b)] [] h := by
  obtain ⟨r, h1, h2, e1, e2, hr⟩ := ho (xs (i + 1)) (xs (i + 2)) h hr0
  refine la_aload C 2 d_law_364 rfl rfl ?_
  refine la_aload C 3 d_law_365 rfl rfl ?_
  refine la_iload C 0 d_law_366 rfl rfl ?_
  refine la_iconst 1 C d_law_367 rfl ?_
  refine la_iadd C d_law_368 ?_
  refine la_sld (i + 1) (nI_add i 1) (by omega) hL3 C d_law_369 ?_
  refine la_aload C 3 d_law_370 rfl rfl ?_
  refine la_iload C 0 d_law_371 rfl rfl ?_
  refine la_iconst 2 C d_law_372 rfl ?_
  refine la_iadd C d_law_373 ?_
  refine la_sld (i + 2) (nI_add i 2) (by omega) hL3 C d_law_374 ?_
  refine la_call (As := [.int (xs (i + 1)), .int (xs (i + 2))]) (rest := []) C e1 rfl (c_C_far G (xs (i + 1)) (xs (i + 2)) h) co_L_48 io_C_far o_0 ⟨Nat.le_of_ble_eq_true rfl, Nat.le_of_ble_eq_true rfl⟩ rfl rfl (Nat.le_of_ble_eq_true rfl) d_law_375 ?_
  refine la_aload C 1 d_law_378 rfl rfl ?_
  refine la_aload C 3 d_law_379 rfl rfl ?_
  refine la_iload C 0 d_law_380 rfl rfl ?_
  refine la_iconst 1 C d_law_381 rfl ?_
  refine la_iadd C d_law_382 ?_
  refine la_sld (i + 1) (nI_add i 1) (by omega) hL3 C d_law_383 ?_
  refine la_aload C 3 d_law_384 rfl rfl ?_
  refine la_iload C 0 d_law_385 rfl rfl ?_
  refine la_iconst 2 C d_law_386 rfl ?_
  refine la_iadd C d_law_387 ?_
  refine la_sld (i + 2) (nI_add i 2) (by omega) hL3 C d_law_388 ?_
  refine la_call (As := [.int (xs (i + 1)), .int (xs (i + 2))]) (rest := [.int r]) C e2 rfl (c_M_far G (xs (i + 1)) (xs (i + 2)) h1) co_L_51 io_M_far o_31 ⟨Nat.le_of_ble_eq_true rfl, Nat.le_of_ble_eq_true rfl⟩ rfl rfl (Nat.le_of_ble_eq_true rfl) d_law_389 ?_
  exact la_ieq 1310 C d_law_392 (by decide) (hk h2 hr)
set_option maxHeartbeats 4000000 in
set_option maxRecDepth 20000 in
theorem law_case_9 {Rel : Hp → Prop} {G : Gt} {p : Program} {e : Env} {s : State} {m : MethodId} {below : List Frame} {meth : Method} {c : Code} {b L : Nat} {xs : Nat → Int32} {h : Hp} (C : LC G p s m meth c b L xs) (hL3 : L ≤ 384) (i : Nat) (hi : i + 6 ≤ L) (ho : ∀ (x1 x2 x3 : Int32), OpOK Rel (f_C_web x1 x2 x3) (f_M_web x1 x2 x3)) (hr0 : Rel h)
    (hk : ∀ h2, Rel h2 → LV G p e s m below meth c b 1310 [(3, .int (nI i)), (2, .ref (ad G 31)), (1, .ref (ad G 0)), (0, .ref b)] [] h2) : LV G p e s m below meth c b 397 [(3, .int (nI i)), (2, .ref (ad G 31)), (1, .ref (ad G 0)), (0, .ref b)] [] h := by
  obtain ⟨r, h1, h2, e1, e2, hr⟩ := ho (xs (i + 1)) (xs (i + 2)) (xs (i + 3)) h hr0
  refine la_aload C 2 d_law_397 rfl rfl ?_
  refine la_aload C 3 d_law_398 rfl rfl ?_
  refine la_iload C 0 d_law_399 rfl rfl ?_
  refine la_iconst 1 C d_law_400 rfl ?_
  refine la_iadd C d_law_401 ?_
  refine la_sld (i + 1) (nI_add i 1) (by omega) hL3 C d_law_402 ?_
  refine la_aload C 3 d_law_403 rfl rfl ?_
  refine la_iload C 0 d_law_404 rfl rfl ?_
  refine la_iconst 2 C d_law_405 rfl ?_
  refine la_iadd C d_law_406 ?_
  refine la_sld (i + 2) (nI_add i 2) (by omega) hL3 C d_law_407 ?_
  refine la_aload C 3 d_law_408 rfl rfl ?_
  refine la_iload C 0 d_law_409 rfl rfl ?_
  refine la_iconst 3 C d_law_410 rfl ?_
  refine la_iadd C d_law_411 ?_
  refine la_sld (i + 3) (nI_add i 3) (by omega) hL3 C d_law_412 ?_
  refine la_call (As := [.int (xs (i + 1)), .int (xs (i + 2)), .int (xs (i + 3))]) (rest := []) C e1 rfl (c_C_web G (xs (i + 1)) (xs (i + 2)) (xs (i + 3)) h) co_L_52 io_C_web o_0 ⟨Nat.le_of_ble_eq_true rfl, Nat.le_of_ble_eq_true rfl⟩ rfl rfl (Nat.le_of_ble_eq_true rfl) d_law_413 ?_
  refine la_aload C 1 d_law_416 rfl rfl ?_
  refine la_aload C 3 d_law_417 rfl rfl ?_
  refine la_iload C 0 d_law_418 rfl rfl ?_
  refine la_iconst 1 C d_law_419 rfl ?_
  refine la_iadd C d_law_420 ?_
  refine la_sld (i + 1) (nI_add i 1) (by omega) hL3 C d_law_421 ?_
  refine la_aload C 3 d_law_422 rfl rfl ?_
  refine la_iload C 0 d_law_423 rfl rfl ?_
  refine la_iconst 2 C d_law_424 rfl ?_
  refine la_iadd C d_law_425 ?_
  refine la_sld (i + 2) (nI_add i 2) (by omega) hL3 C d_law_426 ?_
  refine la_aload C 3 d_law_427 rfl rfl ?_
  refine la_iload C 0 d_law_428 rfl rfl ?_
  refine la_iconst 3 C d_law_429 rfl ?_
  refine la_iadd C d_law_430 ?_
  refine la_sld (i + 3) (nI_add i 3) (by omega) hL3 C d_law_431 ?_
  refine la_call (As := [.int (xs (i + 1)), .int (xs (i + 2)), .int (xs (i + 3))]) (rest := [.int r]) C e2 rfl (c_M_web G (xs (i + 1)) (xs (i + 2)) (xs (i + 3)) h1) co_L_56 io_M_web o_31 ⟨Nat.le_of_ble_eq_true rfl, Nat.le_of_ble_eq_true rfl⟩ rfl rfl (Nat.le_of_ble_eq_true rfl) d_law_432 ?_
  exact la_ieq 1310 C d_law_435 (by decide) (hk h2 hr)
set_option maxHeartbeats 4000000 in
set_option maxRecDepth 20000 in
theorem law_case_10 {Rel : Hp → Prop} {G : Gt} {p : Program} {e : Env} {s : State} {m : MethodId} {below : List Frame} {meth : Method} {c : Code} {b L : Nat} {xs : Nat → Int32} {h : Hp} (C : LC G p s m meth c b L xs) (hL3 : L ≤ 384) (i : Nat) (hi : i + 6 ≤ L) (ho : ∀ (x1 x2 x3 : Int32), OpOK Rel (f_C_length x1 x2 x3) (f_M_length x1 x2 x3)) (hr0 : Rel h)
    (hk : ∀ h2, Rel h2 → LV G p e s m below meth c b 1310 [(3, .int (nI i)), (2, .ref (ad G 31)), (1, .ref (ad G 0)), (0, .ref b)] [] h2) : LV G p e s m below meth c b 440 [(3, .int (nI i)), (2, .ref (ad G 31)), (1, .ref (ad G 0)), (0, .ref b)] [] h := by
  obtain ⟨r, h1, h2, e1, e2, hr⟩ := ho (xs (i + 1)) (xs (i + 2)) (xs (i + 3)) h hr0
  refine la_aload C 2 d_law_440 rfl rfl ?_
  refine la_aload C 3 d_law_441 rfl rfl ?_
  refine la_iload C 0 d_law_442 rfl rfl ?_
  refine la_iconst 1 C d_law_443 rfl ?_
  refine la_iadd C d_law_444 ?_
  refine la_sld (i + 1) (nI_add i 1) (by omega) hL3 C d_law_445 ?_
  refine la_aload C 3 d_law_446 rfl rfl ?_
  refine la_iload C 0 d_law_447 rfl rfl ?_
  refine la_iconst 2 C d_law_448 rfl ?_
  refine la_iadd C d_law_449 ?_
  refine la_sld (i + 2) (nI_add i 2) (by omega) hL3 C d_law_450 ?_
  refine la_aload C 3 d_law_451 rfl rfl ?_
  refine la_iload C 0 d_law_452 rfl rfl ?_
  refine la_iconst 3 C d_law_453 rfl ?_
  refine la_iadd C d_law_454 ?_
  refine la_sld (i + 3) (nI_add i 3) (by omega) hL3 C d_law_455 ?_
  refine la_call (As := [.int (xs (i + 1)), .int (xs (i + 2)), .int (xs (i + 3))]) (rest := []) C e1 rfl (c_C_length G (xs (i + 1)) (xs (i + 2)) (xs (i + 3)) h) co_L_57 io_C_length o_0 ⟨Nat.le_of_ble_eq_true rfl, Nat.le_of_ble_eq_true rfl⟩ rfl rfl (Nat.le_of_ble_eq_true rfl) d_law_456 ?_
  refine la_aload C 1 d_law_459 rfl rfl ?_
  refine la_aload C 3 d_law_460 rfl rfl ?_
  refine la_iload C 0 d_law_461 rfl rfl ?_
  refine la_iconst 1 C d_law_462 rfl ?_
  refine la_iadd C d_law_463 ?_
  refine la_sld (i + 1) (nI_add i 1) (by omega) hL3 C d_law_464 ?_
  refine la_aload C 3 d_law_465 rfl rfl ?_
  refine la_iload C 0 d_law_466 rfl rfl ?_
  refine la_iconst 2 C d_law_467 rfl ?_
  refine la_iadd C d_law_468 ?_
  refine la_sld (i + 2) (nI_add i 2) (by omega) hL3 C d_law_469 ?_
  refine la_aload C 3 d_law_470 rfl rfl ?_
  refine la_iload C 0 d_law_471 rfl rfl ?_
  refine la_iconst 3 C d_law_472 rfl ?_
  refine la_iadd C d_law_473 ?_
  refine la_sld (i + 3) (nI_add i 3) (by omega) hL3 C d_law_474 ?_
  refine la_call (As := [.int (xs (i + 1)), .int (xs (i + 2)), .int (xs (i + 3))]) (rest := [.int r]) C e2 rfl (c_M_length G (xs (i + 1)) (xs (i + 2)) (xs (i + 3)) h1) co_L_60 io_M_length o_31 ⟨Nat.le_of_ble_eq_true rfl, Nat.le_of_ble_eq_true rfl⟩ rfl rfl (Nat.le_of_ble_eq_true rfl) d_law_475 ?_
  exact la_ieq 1310 C d_law_478 (by decide) (hk h2 hr)
set_option maxHeartbeats 4000000 in
set_option maxRecDepth 20000 in
theorem law_case_11 {Rel : Hp → Prop} {G : Gt} {p : Program} {e : Env} {s : State} {m : MethodId} {below : List Frame} {meth : Method} {c : Code} {b L : Nat} {xs : Nat → Int32} {h : Hp} (C : LC G p s m meth c b L xs) (hL3 : L ≤ 384) (i : Nat) (hi : i + 6 ≤ L) (ho : ∀ (x1 x2 : Int32), OpOK Rel (f_C_crosses x1 x2) (f_M_crosses x1 x2)) (hr0 : Rel h)
    (hk : ∀ h2, Rel h2 → LV G p e s m below meth c b 1310 [(3, .int (nI i)), (2, .ref (ad G 31)), (1, .ref (ad G 0)), (0, .ref b)] [] h2) : LV G p e s m below meth c b 483 [(3, .int (nI i)), (2, .ref (ad G 31)), (1, .ref (ad G 0)), (0, .ref b)] [] h := by
  obtain ⟨r, h1, h2, e1, e2, hr⟩ := ho (xs (i + 1)) (xs (i + 2)) h hr0
  refine la_aload C 2 d_law_483 rfl rfl ?_
  refine la_aload C 3 d_law_484 rfl rfl ?_
  refine la_iload C 0 d_law_485 rfl rfl ?_
  refine la_iconst 1 C d_law_486 rfl ?_
  refine la_iadd C d_law_487 ?_
  refine la_sld (i + 1) (nI_add i 1) (by omega) hL3 C d_law_488 ?_
  refine la_aload C 3 d_law_489 rfl rfl ?_
  refine la_iload C 0 d_law_490 rfl rfl ?_
  refine la_iconst 2 C d_law_491 rfl ?_
  refine la_iadd C d_law_492 ?_
  refine la_sld (i + 2) (nI_add i 2) (by omega) hL3 C d_law_493 ?_
  refine la_call (As := [.int (xs (i + 1)), .int (xs (i + 2))]) (rest := []) C e1 rfl (c_C_crosses G (xs (i + 1)) (xs (i + 2)) h) co_L_61 io_C_crosses o_0 ⟨Nat.le_of_ble_eq_true rfl, Nat.le_of_ble_eq_true rfl⟩ rfl rfl (Nat.le_of_ble_eq_true rfl) d_law_494 ?_
  refine la_aload C 1 d_law_497 rfl rfl ?_
  refine la_aload C 3 d_law_498 rfl rfl ?_
  refine la_iload C 0 d_law_499 rfl rfl ?_
  refine la_iconst 1 C d_law_500 rfl ?_
  refine la_iadd C d_law_501 ?_
  refine la_sld (i + 1) (nI_add i 1) (by omega) hL3 C d_law_502 ?_
  refine la_aload C 3 d_law_503 rfl rfl ?_
  refine la_iload C 0 d_law_504 rfl rfl ?_
  refine la_iconst 2 C d_law_505 rfl ?_
  refine la_iadd C d_law_506 ?_
  refine la_sld (i + 2) (nI_add i 2) (by omega) hL3 C d_law_507 ?_
  refine la_call (As := [.int (xs (i + 1)), .int (xs (i + 2))]) (rest := [.int r]) C e2 rfl (c_M_crosses G (xs (i + 1)) (xs (i + 2)) h1) co_L_64 io_M_crosses o_31 ⟨Nat.le_of_ble_eq_true rfl, Nat.le_of_ble_eq_true rfl⟩ rfl rfl (Nat.le_of_ble_eq_true rfl) d_law_508 ?_
  exact la_ieq 1310 C d_law_511 (by decide) (hk h2 hr)
set_option maxHeartbeats 4000000 in
set_option maxRecDepth 20000 in
theorem law_case_12 {Rel : Hp → Prop} {G : Gt} {p : Program} {e : Env} {s : State} {m : MethodId} {below : List Frame} {meth : Method} {c : Code} {b L : Nat} {xs : Nat → Int32} {h : Hp} (C : LC G p s m meth c b L xs) (hL3 : L ≤ 384) (i : Nat) (hi : i + 6 ≤ L) (ho : ∀ (x1 x2 x3 : Int32), OpOK Rel (f_C_hangs x1 x2 x3) (f_M_hangs x1 x2 x3)) (hr0 : Rel h)
    (hk : ∀ h2, Rel h2 → LV G p e s m below meth c b 1310 [(3, .int (nI i)), (2, .ref (ad G 31)), (1, .ref (ad G 0)), (0, .ref b)] [] h2) : LV G p e s m below meth c b 516 [(3, .int (nI i)), (2, .ref (ad G 31)), (1, .ref (ad G 0)), (0, .ref b)] [] h := by
  obtain ⟨r, h1, h2, e1, e2, hr⟩ := ho (xs (i + 1)) (xs (i + 2)) (xs (i + 3)) h hr0
  refine la_aload C 2 d_law_516 rfl rfl ?_
  refine la_aload C 3 d_law_517 rfl rfl ?_
  refine la_iload C 0 d_law_518 rfl rfl ?_
  refine la_iconst 1 C d_law_519 rfl ?_
  refine la_iadd C d_law_520 ?_
  refine la_sld (i + 1) (nI_add i 1) (by omega) hL3 C d_law_521 ?_
  refine la_aload C 3 d_law_522 rfl rfl ?_
  refine la_iload C 0 d_law_523 rfl rfl ?_
  refine la_iconst 2 C d_law_524 rfl ?_
  refine la_iadd C d_law_525 ?_
  refine la_sld (i + 2) (nI_add i 2) (by omega) hL3 C d_law_526 ?_
  refine la_aload C 3 d_law_527 rfl rfl ?_
  refine la_iload C 0 d_law_528 rfl rfl ?_
  refine la_iconst 3 C d_law_529 rfl ?_
  refine la_iadd C d_law_530 ?_
  refine la_sld (i + 3) (nI_add i 3) (by omega) hL3 C d_law_531 ?_
  refine la_call (As := [.int (xs (i + 1)), .int (xs (i + 2)), .int (xs (i + 3))]) (rest := []) C e1 rfl (c_C_hangs G (xs (i + 1)) (xs (i + 2)) (xs (i + 3)) h) co_L_65 io_C_hangs o_0 ⟨Nat.le_of_ble_eq_true rfl, Nat.le_of_ble_eq_true rfl⟩ rfl rfl (Nat.le_of_ble_eq_true rfl) d_law_532 ?_
  refine la_aload C 1 d_law_535 rfl rfl ?_
  refine la_aload C 3 d_law_536 rfl rfl ?_
  refine la_iload C 0 d_law_537 rfl rfl ?_
  refine la_iconst 1 C d_law_538 rfl ?_
  refine la_iadd C d_law_539 ?_
  refine la_sld (i + 1) (nI_add i 1) (by omega) hL3 C d_law_540 ?_
  refine la_aload C 3 d_law_541 rfl rfl ?_
  refine la_iload C 0 d_law_542 rfl rfl ?_
  refine la_iconst 2 C d_law_543 rfl ?_
  refine la_iadd C d_law_544 ?_
  refine la_sld (i + 2) (nI_add i 2) (by omega) hL3 C d_law_545 ?_
  refine la_aload C 3 d_law_546 rfl rfl ?_
  refine la_iload C 0 d_law_547 rfl rfl ?_
  refine la_iconst 3 C d_law_548 rfl ?_
  refine la_iadd C d_law_549 ?_
  refine la_sld (i + 3) (nI_add i 3) (by omega) hL3 C d_law_550 ?_
  refine la_call (As := [.int (xs (i + 1)), .int (xs (i + 2)), .int (xs (i + 3))]) (rest := [.int r]) C e2 rfl (c_M_hangs G (xs (i + 1)) (xs (i + 2)) (xs (i + 3)) h1) co_L_68 io_M_hangs o_31 ⟨Nat.le_of_ble_eq_true rfl, Nat.le_of_ble_eq_true rfl⟩ rfl rfl (Nat.le_of_ble_eq_true rfl) d_law_551 ?_
  exact la_ieq 1310 C d_law_554 (by decide) (hk h2 hr)
set_option maxHeartbeats 4000000 in
set_option maxRecDepth 20000 in
theorem law_case_13 {Rel : Hp → Prop} {G : Gt} {p : Program} {e : Env} {s : State} {m : MethodId} {below : List Frame} {meth : Method} {c : Code} {b L : Nat} {xs : Nat → Int32} {h : Hp} (C : LC G p s m meth c b L xs) (hL3 : L ≤ 384) (i : Nat) (hi : i + 6 ≤ L) (ho : ∀ (x1 x2 x3 : Int32), OpOK Rel (f_C_pieces x1 x2 x3) (f_M_pieces x1 x2 x3)) (hr0 : Rel h)
    (hk : ∀ h2, Rel h2 → LV G p e s m below meth c b 1310 [(3, .int (nI i)), (2, .ref (ad G 31)), (1, .ref (ad G 0)), (0, .ref b)] [] h2) : LV G p e s m below meth c b 559 [(3, .int (nI i)), (2, .ref (ad G 31)), (1, .ref (ad G 0)), (0, .ref b)] [] h := by
  obtain ⟨r, h1, h2, e1, e2, hr⟩ := ho (xs (i + 1)) (xs (i + 2)) (xs (i + 3)) h hr0
  refine la_aload C 2 d_law_559 rfl rfl ?_
  refine la_aload C 3 d_law_560 rfl rfl ?_
  refine la_iload C 0 d_law_561 rfl rfl ?_
  refine la_iconst 1 C d_law_562 rfl ?_
  refine la_iadd C d_law_563 ?_
  refine la_sld (i + 1) (nI_add i 1) (by omega) hL3 C d_law_564 ?_
  refine la_aload C 3 d_law_565 rfl rfl ?_
  refine la_iload C 0 d_law_566 rfl rfl ?_
  refine la_iconst 2 C d_law_567 rfl ?_
  refine la_iadd C d_law_568 ?_
  refine la_sld (i + 2) (nI_add i 2) (by omega) hL3 C d_law_569 ?_
  refine la_aload C 3 d_law_570 rfl rfl ?_
  refine la_iload C 0 d_law_571 rfl rfl ?_
  refine la_iconst 3 C d_law_572 rfl ?_
  refine la_iadd C d_law_573 ?_
  refine la_sld (i + 3) (nI_add i 3) (by omega) hL3 C d_law_574 ?_
  refine la_call (As := [.int (xs (i + 1)), .int (xs (i + 2)), .int (xs (i + 3))]) (rest := []) C e1 rfl (c_C_pieces G (xs (i + 1)) (xs (i + 2)) (xs (i + 3)) h) co_L_69 io_C_pieces o_0 ⟨Nat.le_of_ble_eq_true rfl, Nat.le_of_ble_eq_true rfl⟩ rfl rfl (Nat.le_of_ble_eq_true rfl) d_law_575 ?_
  refine la_aload C 1 d_law_578 rfl rfl ?_
  refine la_aload C 3 d_law_579 rfl rfl ?_
  refine la_iload C 0 d_law_580 rfl rfl ?_
  refine la_iconst 1 C d_law_581 rfl ?_
  refine la_iadd C d_law_582 ?_
  refine la_sld (i + 1) (nI_add i 1) (by omega) hL3 C d_law_583 ?_
  refine la_aload C 3 d_law_584 rfl rfl ?_
  refine la_iload C 0 d_law_585 rfl rfl ?_
  refine la_iconst 2 C d_law_586 rfl ?_
  refine la_iadd C d_law_587 ?_
  refine la_sld (i + 2) (nI_add i 2) (by omega) hL3 C d_law_588 ?_
  refine la_aload C 3 d_law_589 rfl rfl ?_
  refine la_iload C 0 d_law_590 rfl rfl ?_
  refine la_iconst 3 C d_law_591 rfl ?_
  refine la_iadd C d_law_592 ?_
  refine la_sld (i + 3) (nI_add i 3) (by omega) hL3 C d_law_593 ?_
  refine la_call (As := [.int (xs (i + 1)), .int (xs (i + 2)), .int (xs (i + 3))]) (rest := [.int r]) C e2 rfl (c_M_pieces G (xs (i + 1)) (xs (i + 2)) (xs (i + 3)) h1) co_L_72 io_M_pieces o_31 ⟨Nat.le_of_ble_eq_true rfl, Nat.le_of_ble_eq_true rfl⟩ rfl rfl (Nat.le_of_ble_eq_true rfl) d_law_594 ?_
  exact la_ieq 1310 C d_law_597 (by decide) (hk h2 hr)
set_option maxHeartbeats 4000000 in
set_option maxRecDepth 20000 in
theorem law_case_14 {Rel : Hp → Prop} {G : Gt} {p : Program} {e : Env} {s : State} {m : MethodId} {below : List Frame} {meth : Method} {c : Code} {b L : Nat} {xs : Nat → Int32} {h : Hp} (C : LC G p s m meth c b L xs) (hL3 : L ≤ 384) (i : Nat) (hi : i + 6 ≤ L) (ho : ∀ (x1 x2 : Int32), OpOK Rel (f_C_turned x1 x2) (f_M_turned x1 x2)) (hr0 : Rel h)
    (hk : ∀ h2, Rel h2 → LV G p e s m below meth c b 1310 [(3, .int (nI i)), (2, .ref (ad G 31)), (1, .ref (ad G 0)), (0, .ref b)] [] h2) : LV G p e s m below meth c b 602 [(3, .int (nI i)), (2, .ref (ad G 31)), (1, .ref (ad G 0)), (0, .ref b)] [] h := by
  obtain ⟨r, h1, h2, e1, e2, hr⟩ := ho (xs (i + 1)) (xs (i + 2)) h hr0
  refine la_aload C 2 d_law_602 rfl rfl ?_
  refine la_aload C 3 d_law_603 rfl rfl ?_
  refine la_iload C 0 d_law_604 rfl rfl ?_
  refine la_iconst 1 C d_law_605 rfl ?_
  refine la_iadd C d_law_606 ?_
  refine la_sld (i + 1) (nI_add i 1) (by omega) hL3 C d_law_607 ?_
  refine la_aload C 3 d_law_608 rfl rfl ?_
  refine la_iload C 0 d_law_609 rfl rfl ?_
  refine la_iconst 2 C d_law_610 rfl ?_
  refine la_iadd C d_law_611 ?_
  refine la_sld (i + 2) (nI_add i 2) (by omega) hL3 C d_law_612 ?_
  refine la_call (As := [.int (xs (i + 1)), .int (xs (i + 2))]) (rest := []) C e1 rfl (c_C_turned G (xs (i + 1)) (xs (i + 2)) h) co_L_73 io_C_turned o_0 ⟨Nat.le_of_ble_eq_true rfl, Nat.le_of_ble_eq_true rfl⟩ rfl rfl (Nat.le_of_ble_eq_true rfl) d_law_613 ?_
  refine la_aload C 1 d_law_616 rfl rfl ?_
  refine la_aload C 3 d_law_617 rfl rfl ?_
  refine la_iload C 0 d_law_618 rfl rfl ?_
  refine la_iconst 1 C d_law_619 rfl ?_
  refine la_iadd C d_law_620 ?_
  refine la_sld (i + 1) (nI_add i 1) (by omega) hL3 C d_law_621 ?_
  refine la_aload C 3 d_law_622 rfl rfl ?_
  refine la_iload C 0 d_law_623 rfl rfl ?_
  refine la_iconst 2 C d_law_624 rfl ?_
  refine la_iadd C d_law_625 ?_
  refine la_sld (i + 2) (nI_add i 2) (by omega) hL3 C d_law_626 ?_
  refine la_call (As := [.int (xs (i + 1)), .int (xs (i + 2))]) (rest := [.int r]) C e2 rfl (c_M_turned G (xs (i + 1)) (xs (i + 2)) h1) co_L_76 io_M_turned o_31 ⟨Nat.le_of_ble_eq_true rfl, Nat.le_of_ble_eq_true rfl⟩ rfl rfl (Nat.le_of_ble_eq_true rfl) d_law_627 ?_
  exact la_ieq 1310 C d_law_630 (by decide) (hk h2 hr)
set_option maxHeartbeats 4000000 in
set_option maxRecDepth 20000 in
theorem law_case_15 {Rel : Hp → Prop} {G : Gt} {p : Program} {e : Env} {s : State} {m : MethodId} {below : List Frame} {meth : Method} {c : Code} {b L : Nat} {xs : Nat → Int32} {h : Hp} (C : LC G p s m meth c b L xs) (hL3 : L ≤ 384) (i : Nat) (hi : i + 6 ≤ L) (ho : ∀ (x1 x2 x3 x4 : Int32), OpOK Rel (f_C_more x1 x2 x3 x4) (f_M_more x1 x2 x3 x4)) (hr0 : Rel h)
    (hk : ∀ h2, Rel h2 → LV G p e s m below meth c b 1310 [(3, .int (nI i)), (2, .ref (ad G 31)), (1, .ref (ad G 0)), (0, .ref b)] [] h2) : LV G p e s m below meth c b 635 [(3, .int (nI i)), (2, .ref (ad G 31)), (1, .ref (ad G 0)), (0, .ref b)] [] h := by
  obtain ⟨r, h1, h2, e1, e2, hr⟩ := ho (xs (i + 1)) (xs (i + 2)) (xs (i + 3)) (xs (i + 4)) h hr0
  refine la_aload C 2 d_law_635 rfl rfl ?_
  refine la_aload C 3 d_law_636 rfl rfl ?_
  refine la_iload C 0 d_law_637 rfl rfl ?_
  refine la_iconst 1 C d_law_638 rfl ?_
  refine la_iadd C d_law_639 ?_
  refine la_sld (i + 1) (nI_add i 1) (by omega) hL3 C d_law_640 ?_
  refine la_aload C 3 d_law_641 rfl rfl ?_
  refine la_iload C 0 d_law_642 rfl rfl ?_
  refine la_iconst 2 C d_law_643 rfl ?_
  refine la_iadd C d_law_644 ?_
  refine la_sld (i + 2) (nI_add i 2) (by omega) hL3 C d_law_645 ?_
  refine la_aload C 3 d_law_646 rfl rfl ?_
  refine la_iload C 0 d_law_647 rfl rfl ?_
  refine la_iconst 3 C d_law_648 rfl ?_
  refine la_iadd C d_law_649 ?_
  refine la_sld (i + 3) (nI_add i 3) (by omega) hL3 C d_law_650 ?_
  refine la_aload C 3 d_law_651 rfl rfl ?_
  refine la_iload C 0 d_law_652 rfl rfl ?_
  refine la_iconst 4 C d_law_653 rfl ?_
  refine la_iadd C d_law_654 ?_
  refine la_sld (i + 4) (nI_add i 4) (by omega) hL3 C d_law_655 ?_
  refine la_call (As := [.int (xs (i + 1)), .int (xs (i + 2)), .int (xs (i + 3)), .int (xs (i + 4))]) (rest := []) C e1 rfl (c_C_more G (xs (i + 1)) (xs (i + 2)) (xs (i + 3)) (xs (i + 4)) h) co_L_77 io_C_more o_0 ⟨Nat.le_of_ble_eq_true rfl, Nat.le_of_ble_eq_true rfl⟩ rfl rfl (Nat.le_of_ble_eq_true rfl) d_law_656 ?_
  refine la_aload C 1 d_law_659 rfl rfl ?_
  refine la_aload C 3 d_law_660 rfl rfl ?_
  refine la_iload C 0 d_law_661 rfl rfl ?_
  refine la_iconst 1 C d_law_662 rfl ?_
  refine la_iadd C d_law_663 ?_
  refine la_sld (i + 1) (nI_add i 1) (by omega) hL3 C d_law_664 ?_
  refine la_aload C 3 d_law_665 rfl rfl ?_
  refine la_iload C 0 d_law_666 rfl rfl ?_
  refine la_iconst 2 C d_law_667 rfl ?_
  refine la_iadd C d_law_668 ?_
  refine la_sld (i + 2) (nI_add i 2) (by omega) hL3 C d_law_669 ?_
  refine la_aload C 3 d_law_670 rfl rfl ?_
  refine la_iload C 0 d_law_671 rfl rfl ?_
  refine la_iconst 3 C d_law_672 rfl ?_
  refine la_iadd C d_law_673 ?_
  refine la_sld (i + 3) (nI_add i 3) (by omega) hL3 C d_law_674 ?_
  refine la_aload C 3 d_law_675 rfl rfl ?_
  refine la_iload C 0 d_law_676 rfl rfl ?_
  refine la_iconst 4 C d_law_677 rfl ?_
  refine la_iadd C d_law_678 ?_
  refine la_sld (i + 4) (nI_add i 4) (by omega) hL3 C d_law_679 ?_
  refine la_call (As := [.int (xs (i + 1)), .int (xs (i + 2)), .int (xs (i + 3)), .int (xs (i + 4))]) (rest := [.int r]) C e2 rfl (c_M_more G (xs (i + 1)) (xs (i + 2)) (xs (i + 3)) (xs (i + 4)) h1) co_L_81 io_M_more o_31 ⟨Nat.le_of_ble_eq_true rfl, Nat.le_of_ble_eq_true rfl⟩ rfl rfl (Nat.le_of_ble_eq_true rfl) d_law_680 ?_
  exact la_ieq 1310 C d_law_683 (by decide) (hk h2 hr)
set_option maxHeartbeats 4000000 in
set_option maxRecDepth 20000 in
theorem law_case_16 {Rel : Hp → Prop} {G : Gt} {p : Program} {e : Env} {s : State} {m : MethodId} {below : List Frame} {meth : Method} {c : Code} {b L : Nat} {xs : Nat → Int32} {h : Hp} (C : LC G p s m meth c b L xs) (hL3 : L ≤ 384) (i : Nat) (hi : i + 6 ≤ L) (ho : ∀ (x1 : Int32), OpOK Rel (f_C_begin x1) (f_M_begin x1)) (hr0 : Rel h)
    (hk : ∀ h2, Rel h2 → LV G p e s m below meth c b 1310 [(3, .int (nI i)), (2, .ref (ad G 31)), (1, .ref (ad G 0)), (0, .ref b)] [] h2) : LV G p e s m below meth c b 688 [(3, .int (nI i)), (2, .ref (ad G 31)), (1, .ref (ad G 0)), (0, .ref b)] [] h := by
  obtain ⟨r, h1, h2, e1, e2, hr⟩ := ho (xs (i + 1)) h hr0
  refine la_aload C 2 d_law_688 rfl rfl ?_
  refine la_aload C 3 d_law_689 rfl rfl ?_
  refine la_iload C 0 d_law_690 rfl rfl ?_
  refine la_iconst 1 C d_law_691 rfl ?_
  refine la_iadd C d_law_692 ?_
  refine la_sld (i + 1) (nI_add i 1) (by omega) hL3 C d_law_693 ?_
  refine la_call (As := [.int (xs (i + 1))]) (rest := []) C e1 rfl (c_C_begin G (xs (i + 1)) h) co_L_82 io_C_begin o_0 ⟨Nat.le_of_ble_eq_true rfl, Nat.le_of_ble_eq_true rfl⟩ rfl rfl (Nat.le_of_ble_eq_true rfl) d_law_694 ?_
  refine la_aload C 1 d_law_697 rfl rfl ?_
  refine la_aload C 3 d_law_698 rfl rfl ?_
  refine la_iload C 0 d_law_699 rfl rfl ?_
  refine la_iconst 1 C d_law_700 rfl ?_
  refine la_iadd C d_law_701 ?_
  refine la_sld (i + 1) (nI_add i 1) (by omega) hL3 C d_law_702 ?_
  refine la_call (As := [.int (xs (i + 1))]) (rest := [.int r]) C e2 rfl (c_M_begin G (xs (i + 1)) h1) co_L_85 io_M_begin o_31 ⟨Nat.le_of_ble_eq_true rfl, Nat.le_of_ble_eq_true rfl⟩ rfl rfl (Nat.le_of_ble_eq_true rfl) d_law_703 ?_
  exact la_ieq 1310 C d_law_706 (by decide) (hk h2 hr)
set_option maxHeartbeats 4000000 in
set_option maxRecDepth 20000 in
theorem law_case_17 {Rel : Hp → Prop} {G : Gt} {p : Program} {e : Env} {s : State} {m : MethodId} {below : List Frame} {meth : Method} {c : Code} {b L : Nat} {xs : Nat → Int32} {h : Hp} (C : LC G p s m meth c b L xs) (hL3 : L ≤ 384) (i : Nat) (hi : i + 6 ≤ L) (ho : ∀ (x1 x2 x3 x4 : Int32), OpOK Rel (f_C_last x1 x2 x3 x4) (f_M_last x1 x2 x3 x4)) (hr0 : Rel h)
    (hk : ∀ h2, Rel h2 → LV G p e s m below meth c b 1310 [(3, .int (nI i)), (2, .ref (ad G 31)), (1, .ref (ad G 0)), (0, .ref b)] [] h2) : LV G p e s m below meth c b 711 [(3, .int (nI i)), (2, .ref (ad G 31)), (1, .ref (ad G 0)), (0, .ref b)] [] h := by
  obtain ⟨r, h1, h2, e1, e2, hr⟩ := ho (xs (i + 1)) (xs (i + 2)) (xs (i + 3)) (xs (i + 4)) h hr0
  refine la_aload C 2 d_law_711 rfl rfl ?_
  refine la_aload C 3 d_law_712 rfl rfl ?_
  refine la_iload C 0 d_law_713 rfl rfl ?_
  refine la_iconst 1 C d_law_714 rfl ?_
  refine la_iadd C d_law_715 ?_
  refine la_sld (i + 1) (nI_add i 1) (by omega) hL3 C d_law_716 ?_
  refine la_aload C 3 d_law_717 rfl rfl ?_
  refine la_iload C 0 d_law_718 rfl rfl ?_
  refine la_iconst 2 C d_law_719 rfl ?_
  refine la_iadd C d_law_720 ?_
  refine la_sld (i + 2) (nI_add i 2) (by omega) hL3 C d_law_721 ?_
  refine la_aload C 3 d_law_722 rfl rfl ?_
  refine la_iload C 0 d_law_723 rfl rfl ?_
  refine la_iconst 3 C d_law_724 rfl ?_
  refine la_iadd C d_law_725 ?_
  refine la_sld (i + 3) (nI_add i 3) (by omega) hL3 C d_law_726 ?_
  refine la_aload C 3 d_law_727 rfl rfl ?_
  refine la_iload C 0 d_law_728 rfl rfl ?_
  refine la_iconst 4 C d_law_729 rfl ?_
  refine la_iadd C d_law_730 ?_
  refine la_sld (i + 4) (nI_add i 4) (by omega) hL3 C d_law_731 ?_
  refine la_call (As := [.int (xs (i + 1)), .int (xs (i + 2)), .int (xs (i + 3)), .int (xs (i + 4))]) (rest := []) C e1 rfl (c_C_last G (xs (i + 1)) (xs (i + 2)) (xs (i + 3)) (xs (i + 4)) h) co_L_86 io_C_last o_0 ⟨Nat.le_of_ble_eq_true rfl, Nat.le_of_ble_eq_true rfl⟩ rfl rfl (Nat.le_of_ble_eq_true rfl) d_law_732 ?_
  refine la_aload C 1 d_law_735 rfl rfl ?_
  refine la_aload C 3 d_law_736 rfl rfl ?_
  refine la_iload C 0 d_law_737 rfl rfl ?_
  refine la_iconst 1 C d_law_738 rfl ?_
  refine la_iadd C d_law_739 ?_
  refine la_sld (i + 1) (nI_add i 1) (by omega) hL3 C d_law_740 ?_
  refine la_aload C 3 d_law_741 rfl rfl ?_
  refine la_iload C 0 d_law_742 rfl rfl ?_
  refine la_iconst 2 C d_law_743 rfl ?_
  refine la_iadd C d_law_744 ?_
  refine la_sld (i + 2) (nI_add i 2) (by omega) hL3 C d_law_745 ?_
  refine la_aload C 3 d_law_746 rfl rfl ?_
  refine la_iload C 0 d_law_747 rfl rfl ?_
  refine la_iconst 3 C d_law_748 rfl ?_
  refine la_iadd C d_law_749 ?_
  refine la_sld (i + 3) (nI_add i 3) (by omega) hL3 C d_law_750 ?_
  refine la_aload C 3 d_law_751 rfl rfl ?_
  refine la_iload C 0 d_law_752 rfl rfl ?_
  refine la_iconst 4 C d_law_753 rfl ?_
  refine la_iadd C d_law_754 ?_
  refine la_sld (i + 4) (nI_add i 4) (by omega) hL3 C d_law_755 ?_
  refine la_call (As := [.int (xs (i + 1)), .int (xs (i + 2)), .int (xs (i + 3)), .int (xs (i + 4))]) (rest := [.int r]) C e2 rfl (c_M_last G (xs (i + 1)) (xs (i + 2)) (xs (i + 3)) (xs (i + 4)) h1) co_L_89 io_M_last o_31 ⟨Nat.le_of_ble_eq_true rfl, Nat.le_of_ble_eq_true rfl⟩ rfl rfl (Nat.le_of_ble_eq_true rfl) d_law_756 ?_
  exact la_ieq 1310 C d_law_759 (by decide) (hk h2 hr)
set_option maxHeartbeats 4000000 in
set_option maxRecDepth 20000 in
theorem law_case_18 {Rel : Hp → Prop} {G : Gt} {p : Program} {e : Env} {s : State} {m : MethodId} {below : List Frame} {meth : Method} {c : Code} {b L : Nat} {xs : Nat → Int32} {h : Hp} (C : LC G p s m meth c b L xs) (hL3 : L ≤ 384) (i : Nat) (hi : i + 6 ≤ L) (ho : ∀ (x1 x2 x3 x4 x5 : Int32), OpOK Rel (f_C_two x1 x2 x3 x4 x5) (f_M_two x1 x2 x3 x4 x5)) (hr0 : Rel h)
    (hk : ∀ h2, Rel h2 → LV G p e s m below meth c b 1310 [(3, .int (nI i)), (2, .ref (ad G 31)), (1, .ref (ad G 0)), (0, .ref b)] [] h2) : LV G p e s m below meth c b 764 [(3, .int (nI i)), (2, .ref (ad G 31)), (1, .ref (ad G 0)), (0, .ref b)] [] h := by
  obtain ⟨r, h1, h2, e1, e2, hr⟩ := ho (xs (i + 1)) (xs (i + 2)) (xs (i + 3)) (xs (i + 4)) (xs (i + 5)) h hr0
  refine la_aload C 2 d_law_764 rfl rfl ?_
  refine la_aload C 3 d_law_765 rfl rfl ?_
  refine la_iload C 0 d_law_766 rfl rfl ?_
  refine la_iconst 1 C d_law_767 rfl ?_
  refine la_iadd C d_law_768 ?_
  refine la_sld (i + 1) (nI_add i 1) (by omega) hL3 C d_law_769 ?_
  refine la_aload C 3 d_law_770 rfl rfl ?_
  refine la_iload C 0 d_law_771 rfl rfl ?_
  refine la_iconst 2 C d_law_772 rfl ?_
  refine la_iadd C d_law_773 ?_
  refine la_sld (i + 2) (nI_add i 2) (by omega) hL3 C d_law_774 ?_
  refine la_aload C 3 d_law_775 rfl rfl ?_
  refine la_iload C 0 d_law_776 rfl rfl ?_
  refine la_iconst 3 C d_law_777 rfl ?_
  refine la_iadd C d_law_778 ?_
  refine la_sld (i + 3) (nI_add i 3) (by omega) hL3 C d_law_779 ?_
  refine la_aload C 3 d_law_780 rfl rfl ?_
  refine la_iload C 0 d_law_781 rfl rfl ?_
  refine la_iconst 4 C d_law_782 rfl ?_
  refine la_iadd C d_law_783 ?_
  refine la_sld (i + 4) (nI_add i 4) (by omega) hL3 C d_law_784 ?_
  refine la_aload C 3 d_law_785 rfl rfl ?_
  refine la_iload C 0 d_law_786 rfl rfl ?_
  refine la_iconst 5 C d_law_787 rfl ?_
  refine la_iadd C d_law_788 ?_
  refine la_sld (i + 5) (nI_add i 5) (by omega) hL3 C d_law_789 ?_
  refine la_call (As := [.int (xs (i + 1)), .int (xs (i + 2)), .int (xs (i + 3)), .int (xs (i + 4)), .int (xs (i + 5))]) (rest := []) C e1 rfl (c_C_two G (xs (i + 1)) (xs (i + 2)) (xs (i + 3)) (xs (i + 4)) (xs (i + 5)) h) co_L_90 io_C_two o_0 ⟨Nat.le_of_ble_eq_true rfl, Nat.le_of_ble_eq_true rfl⟩ rfl rfl (Nat.le_of_ble_eq_true rfl) d_law_790 ?_
  refine la_aload C 1 d_law_793 rfl rfl ?_
  refine la_aload C 3 d_law_794 rfl rfl ?_
  refine la_iload C 0 d_law_795 rfl rfl ?_
  refine la_iconst 1 C d_law_796 rfl ?_
  refine la_iadd C d_law_797 ?_
  refine la_sld (i + 1) (nI_add i 1) (by omega) hL3 C d_law_798 ?_
  refine la_aload C 3 d_law_799 rfl rfl ?_
  refine la_iload C 0 d_law_800 rfl rfl ?_
  refine la_iconst 2 C d_law_801 rfl ?_
  refine la_iadd C d_law_802 ?_
  refine la_sld (i + 2) (nI_add i 2) (by omega) hL3 C d_law_803 ?_
  refine la_aload C 3 d_law_804 rfl rfl ?_
  refine la_iload C 0 d_law_805 rfl rfl ?_
  refine la_iconst 3 C d_law_806 rfl ?_
  refine la_iadd C d_law_807 ?_
  refine la_sld (i + 3) (nI_add i 3) (by omega) hL3 C d_law_808 ?_
  refine la_aload C 3 d_law_809 rfl rfl ?_
  refine la_iload C 0 d_law_810 rfl rfl ?_
  refine la_iconst 4 C d_law_811 rfl ?_
  refine la_iadd C d_law_812 ?_
  refine la_sld (i + 4) (nI_add i 4) (by omega) hL3 C d_law_813 ?_
  refine la_aload C 3 d_law_814 rfl rfl ?_
  refine la_iload C 0 d_law_815 rfl rfl ?_
  refine la_iconst 5 C d_law_816 rfl ?_
  refine la_iadd C d_law_817 ?_
  refine la_sld (i + 5) (nI_add i 5) (by omega) hL3 C d_law_818 ?_
  refine la_call (As := [.int (xs (i + 1)), .int (xs (i + 2)), .int (xs (i + 3)), .int (xs (i + 4)), .int (xs (i + 5))]) (rest := [.int r]) C e2 rfl (c_M_two G (xs (i + 1)) (xs (i + 2)) (xs (i + 3)) (xs (i + 4)) (xs (i + 5)) h1) co_L_94 io_M_two o_31 ⟨Nat.le_of_ble_eq_true rfl, Nat.le_of_ble_eq_true rfl⟩ rfl rfl (Nat.le_of_ble_eq_true rfl) d_law_819 ?_
  exact la_ieq 1310 C d_law_822 (by decide) (hk h2 hr)
set_option maxHeartbeats 4000000 in
set_option maxRecDepth 20000 in
theorem law_case_19 {Rel : Hp → Prop} {G : Gt} {p : Program} {e : Env} {s : State} {m : MethodId} {below : List Frame} {meth : Method} {c : Code} {b L : Nat} {xs : Nat → Int32} {h : Hp} (C : LC G p s m meth c b L xs) (hL3 : L ≤ 384) (i : Nat) (hi : i + 6 ≤ L) (ho : ∀ (x1 x2 x3 : Int32), OpOK Rel (f_C_seen x1 x2 x3) (f_M_seen x1 x2 x3)) (hr0 : Rel h)
    (hk : ∀ h2, Rel h2 → LV G p e s m below meth c b 1310 [(3, .int (nI i)), (2, .ref (ad G 31)), (1, .ref (ad G 0)), (0, .ref b)] [] h2) : LV G p e s m below meth c b 827 [(3, .int (nI i)), (2, .ref (ad G 31)), (1, .ref (ad G 0)), (0, .ref b)] [] h := by
  obtain ⟨r, h1, h2, e1, e2, hr⟩ := ho (xs (i + 1)) (xs (i + 2)) (xs (i + 3)) h hr0
  refine la_aload C 2 d_law_827 rfl rfl ?_
  refine la_aload C 3 d_law_828 rfl rfl ?_
  refine la_iload C 0 d_law_829 rfl rfl ?_
  refine la_iconst 1 C d_law_830 rfl ?_
  refine la_iadd C d_law_831 ?_
  refine la_sld (i + 1) (nI_add i 1) (by omega) hL3 C d_law_832 ?_
  refine la_aload C 3 d_law_833 rfl rfl ?_
  refine la_iload C 0 d_law_834 rfl rfl ?_
  refine la_iconst 2 C d_law_835 rfl ?_
  refine la_iadd C d_law_836 ?_
  refine la_sld (i + 2) (nI_add i 2) (by omega) hL3 C d_law_837 ?_
  refine la_aload C 3 d_law_838 rfl rfl ?_
  refine la_iload C 0 d_law_839 rfl rfl ?_
  refine la_iconst 3 C d_law_840 rfl ?_
  refine la_iadd C d_law_841 ?_
  refine la_sld (i + 3) (nI_add i 3) (by omega) hL3 C d_law_842 ?_
  refine la_call (As := [.int (xs (i + 1)), .int (xs (i + 2)), .int (xs (i + 3))]) (rest := []) C e1 rfl (c_C_seen G (xs (i + 1)) (xs (i + 2)) (xs (i + 3)) h) co_L_95 io_C_seen o_0 ⟨Nat.le_of_ble_eq_true rfl, Nat.le_of_ble_eq_true rfl⟩ rfl rfl (Nat.le_of_ble_eq_true rfl) d_law_843 ?_
  refine la_aload C 1 d_law_846 rfl rfl ?_
  refine la_aload C 3 d_law_847 rfl rfl ?_
  refine la_iload C 0 d_law_848 rfl rfl ?_
  refine la_iconst 1 C d_law_849 rfl ?_
  refine la_iadd C d_law_850 ?_
  refine la_sld (i + 1) (nI_add i 1) (by omega) hL3 C d_law_851 ?_
  refine la_aload C 3 d_law_852 rfl rfl ?_
  refine la_iload C 0 d_law_853 rfl rfl ?_
  refine la_iconst 2 C d_law_854 rfl ?_
  refine la_iadd C d_law_855 ?_
  refine la_sld (i + 2) (nI_add i 2) (by omega) hL3 C d_law_856 ?_
  refine la_aload C 3 d_law_857 rfl rfl ?_
  refine la_iload C 0 d_law_858 rfl rfl ?_
  refine la_iconst 3 C d_law_859 rfl ?_
  refine la_iadd C d_law_860 ?_
  refine la_sld (i + 3) (nI_add i 3) (by omega) hL3 C d_law_861 ?_
  refine la_call (As := [.int (xs (i + 1)), .int (xs (i + 2)), .int (xs (i + 3))]) (rest := [.int r]) C e2 rfl (c_M_seen G (xs (i + 1)) (xs (i + 2)) (xs (i + 3)) h1) co_L_98 io_M_seen o_31 ⟨Nat.le_of_ble_eq_true rfl, Nat.le_of_ble_eq_true rfl⟩ rfl rfl (Nat.le_of_ble_eq_true rfl) d_law_862 ?_
  exact la_ieq 1310 C d_law_865 (by decide) (hk h2 hr)
set_option maxHeartbeats 4000000 in
set_option maxRecDepth 20000 in
theorem law_case_20 {Rel : Hp → Prop} {G : Gt} {p : Program} {e : Env} {s : State} {m : MethodId} {below : List Frame} {meth : Method} {c : Code} {b L : Nat} {xs : Nat → Int32} {h : Hp} (C : LC G p s m meth c b L xs) (hL3 : L ≤ 384) (i : Nat) (hi : i + 6 ≤ L) (ho : OpOK Rel (f_C_forget) (f_M_forget)) (hr0 : Rel h)
    (hk : ∀ h2, Rel h2 → LV G p e s m below meth c b 1310 [(3, .int (nI i)), (2, .ref (ad G 31)), (1, .ref (ad G 0)), (0, .ref b)] [] h2) : LV G p e s m below meth c b 870 [(3, .int (nI i)), (2, .ref (ad G 31)), (1, .ref (ad G 0)), (0, .ref b)] [] h := by
  obtain ⟨r, h1, h2, e1, e2, hr⟩ := ho h hr0
  refine la_aload C 2 d_law_870 rfl rfl ?_
  refine la_call (As := []) (rest := []) C e1 rfl (c_C_forget G h) co_L_99 io_C_forget o_0 ⟨Nat.le_of_ble_eq_true rfl, Nat.le_of_ble_eq_true rfl⟩ rfl rfl (Nat.le_of_ble_eq_true rfl) d_law_871 ?_
  refine la_aload C 1 d_law_874 rfl rfl ?_
  refine la_call (As := []) (rest := [.int r]) C e2 rfl (c_M_forget G h1) co_L_102 io_M_forget o_31 ⟨Nat.le_of_ble_eq_true rfl, Nat.le_of_ble_eq_true rfl⟩ rfl rfl (Nat.le_of_ble_eq_true rfl) d_law_875 ?_
  exact la_ieq 1310 C d_law_878 (by decide) (hk h2 hr)
set_option maxHeartbeats 4000000 in
set_option maxRecDepth 20000 in
theorem law_case_21 {Rel : Hp → Prop} {G : Gt} {p : Program} {e : Env} {s : State} {m : MethodId} {below : List Frame} {meth : Method} {c : Code} {b L : Nat} {xs : Nat → Int32} {h : Hp} (C : LC G p s m meth c b L xs) (hL3 : L ≤ 384) (i : Nat) (hi : i + 6 ≤ L) (ho : OpOK Rel (f_C_fits) (f_M_fits)) (hr0 : Rel h)
    (hk : ∀ h2, Rel h2 → LV G p e s m below meth c b 1310 [(3, .int (nI i)), (2, .ref (ad G 31)), (1, .ref (ad G 0)), (0, .ref b)] [] h2) : LV G p e s m below meth c b 883 [(3, .int (nI i)), (2, .ref (ad G 31)), (1, .ref (ad G 0)), (0, .ref b)] [] h := by
  obtain ⟨r, h1, h2, e1, e2, hr⟩ := ho h hr0
  refine la_aload C 2 d_law_883 rfl rfl ?_
  refine la_call (As := []) (rest := []) C e1 rfl (c_C_fits G h) co_L_103 io_C_fits o_0 ⟨Nat.le_of_ble_eq_true rfl, Nat.le_of_ble_eq_true rfl⟩ rfl rfl (Nat.le_of_ble_eq_true rfl) d_law_884 ?_
  refine la_aload C 1 d_law_887 rfl rfl ?_
  refine la_call (As := []) (rest := [.int r]) C e2 rfl (c_M_fits G h1) co_L_106 io_M_fits o_31 ⟨Nat.le_of_ble_eq_true rfl, Nat.le_of_ble_eq_true rfl⟩ rfl rfl (Nat.le_of_ble_eq_true rfl) d_law_888 ?_
  exact la_ieq 1310 C d_law_891 (by decide) (hk h2 hr)
set_option maxHeartbeats 4000000 in
set_option maxRecDepth 20000 in
theorem law_case_22 {Rel : Hp → Prop} {G : Gt} {p : Program} {e : Env} {s : State} {m : MethodId} {below : List Frame} {meth : Method} {c : Code} {b L : Nat} {xs : Nat → Int32} {h : Hp} (C : LC G p s m meth c b L xs) (hL3 : L ≤ 384) (i : Nat) (hi : i + 6 ≤ L) (ho : OpOK Rel (f_C_tells) (f_M_tells)) (hr0 : Rel h)
    (hk : ∀ h2, Rel h2 → LV G p e s m below meth c b 1310 [(3, .int (nI i)), (2, .ref (ad G 31)), (1, .ref (ad G 0)), (0, .ref b)] [] h2) : LV G p e s m below meth c b 896 [(3, .int (nI i)), (2, .ref (ad G 31)), (1, .ref (ad G 0)), (0, .ref b)] [] h := by
  obtain ⟨r, h1, h2, e1, e2, hr⟩ := ho h hr0
  refine la_aload C 2 d_law_896 rfl rfl ?_
  refine la_call (As := []) (rest := []) C e1 rfl (c_C_tells G h) co_L_107 io_C_tells o_0 ⟨Nat.le_of_ble_eq_true rfl, Nat.le_of_ble_eq_true rfl⟩ rfl rfl (Nat.le_of_ble_eq_true rfl) d_law_897 ?_
  refine la_aload C 1 d_law_900 rfl rfl ?_
  refine la_call (As := []) (rest := [.int r]) C e2 rfl (c_M_tells G h1) co_L_110 io_M_tells o_31 ⟨Nat.le_of_ble_eq_true rfl, Nat.le_of_ble_eq_true rfl⟩ rfl rfl (Nat.le_of_ble_eq_true rfl) d_law_901 ?_
  exact la_ieq 1310 C d_law_904 (by decide) (hk h2 hr)
set_option maxHeartbeats 4000000 in
set_option maxRecDepth 20000 in
theorem law_case_23 {Rel : Hp → Prop} {G : Gt} {p : Program} {e : Env} {s : State} {m : MethodId} {below : List Frame} {meth : Method} {c : Code} {b L : Nat} {xs : Nat → Int32} {h : Hp} (C : LC G p s m meth c b L xs) (hL3 : L ≤ 384) (i : Nat) (hi : i + 6 ≤ L) (ho : ∀ (x1 x2 x3 x4 : Int32), OpOK Rel (f_C_flies x1 x2 x3 x4) (f_M_flies x1 x2 x3 x4)) (hr0 : Rel h)
    (hk : ∀ h2, Rel h2 → LV G p e s m below meth c b 1310 [(3, .int (nI i)), (2, .ref (ad G 31)), (1, .ref (ad G 0)), (0, .ref b)] [] h2) : LV G p e s m below meth c b 909 [(3, .int (nI i)), (2, .ref (ad G 31)), (1, .ref (ad G 0)), (0, .ref b)] [] h := by
  obtain ⟨r, h1, h2, e1, e2, hr⟩ := ho (xs (i + 1)) (xs (i + 2)) (xs (i + 3)) (xs (i + 4)) h hr0
  refine la_aload C 2 d_law_909 rfl rfl ?_
  refine la_aload C 3 d_law_910 rfl rfl ?_
  refine la_iload C 0 d_law_911 rfl rfl ?_
  refine la_iconst 1 C d_law_912 rfl ?_
  refine la_iadd C d_law_913 ?_
  refine la_sld (i + 1) (nI_add i 1) (by omega) hL3 C d_law_914 ?_
  refine la_aload C 3 d_law_915 rfl rfl ?_
  refine la_iload C 0 d_law_916 rfl rfl ?_
  refine la_iconst 2 C d_law_917 rfl ?_
  refine la_iadd C d_law_918 ?_
  refine la_sld (i + 2) (nI_add i 2) (by omega) hL3 C d_law_919 ?_
  refine la_aload C 3 d_law_920 rfl rfl ?_
  refine la_iload C 0 d_law_921 rfl rfl ?_
  refine la_iconst 3 C d_law_922 rfl ?_
  refine la_iadd C d_law_923 ?_
  refine la_sld (i + 3) (nI_add i 3) (by omega) hL3 C d_law_924 ?_
  refine la_aload C 3 d_law_925 rfl rfl ?_
  refine la_iload C 0 d_law_926 rfl rfl ?_
  refine la_iconst 4 C d_law_927 rfl ?_
  refine la_iadd C d_law_928 ?_
  refine la_sld (i + 4) (nI_add i 4) (by omega) hL3 C d_law_929 ?_
  refine la_call (As := [.int (xs (i + 1)), .int (xs (i + 2)), .int (xs (i + 3)), .int (xs (i + 4))]) (rest := []) C e1 rfl (c_C_flies G (xs (i + 1)) (xs (i + 2)) (xs (i + 3)) (xs (i + 4)) h) co_L_111 io_C_flies o_0 ⟨Nat.le_of_ble_eq_true rfl, Nat.le_of_ble_eq_true rfl⟩ rfl rfl (Nat.le_of_ble_eq_true rfl) d_law_930 ?_
  refine la_aload C 1 d_law_933 rfl rfl ?_
  refine la_aload C 3 d_law_934 rfl rfl ?_
  refine la_iload C 0 d_law_935 rfl rfl ?_
  refine la_iconst 1 C d_law_936 rfl ?_
  refine la_iadd C d_law_937 ?_
  refine la_sld (i + 1) (nI_add i 1) (by omega) hL3 C d_law_938 ?_
  refine la_aload C 3 d_law_939 rfl rfl ?_
  refine la_iload C 0 d_law_940 rfl rfl ?_
  refine la_iconst 2 C d_law_941 rfl ?_
  refine la_iadd C d_law_942 ?_
  refine la_sld (i + 2) (nI_add i 2) (by omega) hL3 C d_law_943 ?_
  refine la_aload C 3 d_law_944 rfl rfl ?_
  refine la_iload C 0 d_law_945 rfl rfl ?_
  refine la_iconst 3 C d_law_946 rfl ?_
  refine la_iadd C d_law_947 ?_
  refine la_sld (i + 3) (nI_add i 3) (by omega) hL3 C d_law_948 ?_
  refine la_aload C 3 d_law_949 rfl rfl ?_
  refine la_iload C 0 d_law_950 rfl rfl ?_
  refine la_iconst 4 C d_law_951 rfl ?_
  refine la_iadd C d_law_952 ?_
  refine la_sld (i + 4) (nI_add i 4) (by omega) hL3 C d_law_953 ?_
  refine la_call (As := [.int (xs (i + 1)), .int (xs (i + 2)), .int (xs (i + 3)), .int (xs (i + 4))]) (rest := [.int r]) C e2 rfl (c_M_flies G (xs (i + 1)) (xs (i + 2)) (xs (i + 3)) (xs (i + 4)) h1) co_L_114 io_M_flies o_31 ⟨Nat.le_of_ble_eq_true rfl, Nat.le_of_ble_eq_true rfl⟩ rfl rfl (Nat.le_of_ble_eq_true rfl) d_law_954 ?_
  exact la_ieq 1310 C d_law_957 (by decide) (hk h2 hr)
set_option maxHeartbeats 4000000 in
set_option maxRecDepth 20000 in
theorem law_case_24 {Rel : Hp → Prop} {G : Gt} {p : Program} {e : Env} {s : State} {m : MethodId} {below : List Frame} {meth : Method} {c : Code} {b L : Nat} {xs : Nat → Int32} {h : Hp} (C : LC G p s m meth c b L xs) (hL3 : L ≤ 384) (i : Nat) (hi : i + 6 ≤ L) (ho : ∀ (x1 x2 x3 : Int32), OpOK Rel (f_C_dew x1 x2 x3) (f_M_dew x1 x2 x3)) (hr0 : Rel h)
    (hk : ∀ h2, Rel h2 → LV G p e s m below meth c b 1310 [(3, .int (nI i)), (2, .ref (ad G 31)), (1, .ref (ad G 0)), (0, .ref b)] [] h2) : LV G p e s m below meth c b 962 [(3, .int (nI i)), (2, .ref (ad G 31)), (1, .ref (ad G 0)), (0, .ref b)] [] h := by
  obtain ⟨r, h1, h2, e1, e2, hr⟩ := ho (xs (i + 1)) (xs (i + 2)) (xs (i + 3)) h hr0
  refine la_aload C 2 d_law_962 rfl rfl ?_
  refine la_aload C 3 d_law_963 rfl rfl ?_
  refine la_iload C 0 d_law_964 rfl rfl ?_
  refine la_iconst 1 C d_law_965 rfl ?_
  refine la_iadd C d_law_966 ?_
  refine la_sld (i + 1) (nI_add i 1) (by omega) hL3 C d_law_967 ?_
  refine la_aload C 3 d_law_968 rfl rfl ?_
  refine la_iload C 0 d_law_969 rfl rfl ?_
  refine la_iconst 2 C d_law_970 rfl ?_
  refine la_iadd C d_law_971 ?_
  refine la_sld (i + 2) (nI_add i 2) (by omega) hL3 C d_law_972 ?_
  refine la_aload C 3 d_law_973 rfl rfl ?_
  refine la_iload C 0 d_law_974 rfl rfl ?_
  refine la_iconst 3 C d_law_975 rfl ?_
  refine la_iadd C d_law_976 ?_
  refine la_sld (i + 3) (nI_add i 3) (by omega) hL3 C d_law_977 ?_
  refine la_call (As := [.int (xs (i + 1)), .int (xs (i + 2)), .int (xs (i + 3))]) (rest := []) C e1 rfl (c_C_dew G (xs (i + 1)) (xs (i + 2)) (xs (i + 3)) h) co_L_115 io_C_dew o_0 ⟨Nat.le_of_ble_eq_true rfl, Nat.le_of_ble_eq_true rfl⟩ rfl rfl (Nat.le_of_ble_eq_true rfl) d_law_978 ?_
  refine la_aload C 1 d_law_981 rfl rfl ?_
  refine la_aload C 3 d_law_982 rfl rfl ?_
  refine la_iload C 0 d_law_983 rfl rfl ?_
  refine la_iconst 1 C d_law_984 rfl ?_
  refine la_iadd C d_law_985 ?_
  refine la_sld (i + 1) (nI_add i 1) (by omega) hL3 C d_law_986 ?_
  refine la_aload C 3 d_law_987 rfl rfl ?_
  refine la_iload C 0 d_law_988 rfl rfl ?_
  refine la_iconst 2 C d_law_989 rfl ?_
  refine la_iadd C d_law_990 ?_
  refine la_sld (i + 2) (nI_add i 2) (by omega) hL3 C d_law_991 ?_
  refine la_aload C 3 d_law_992 rfl rfl ?_
  refine la_iload C 0 d_law_993 rfl rfl ?_
  refine la_iconst 3 C d_law_994 rfl ?_
  refine la_iadd C d_law_995 ?_
  refine la_sld (i + 3) (nI_add i 3) (by omega) hL3 C d_law_996 ?_
  refine la_call (As := [.int (xs (i + 1)), .int (xs (i + 2)), .int (xs (i + 3))]) (rest := [.int r]) C e2 rfl (c_M_dew G (xs (i + 1)) (xs (i + 2)) (xs (i + 3)) h1) co_L_118 io_M_dew o_31 ⟨Nat.le_of_ble_eq_true rfl, Nat.le_of_ble_eq_true rfl⟩ rfl rfl (Nat.le_of_ble_eq_true rfl) d_law_997 ?_
  exact la_ieq 1310 C d_law_1000 (by decide) (hk h2 hr)
set_option maxHeartbeats 4000000 in
set_option maxRecDepth 20000 in
theorem law_case_25 {Rel : Hp → Prop} {G : Gt} {p : Program} {e : Env} {s : State} {m : MethodId} {below : List Frame} {meth : Method} {c : Code} {b L : Nat} {xs : Nat → Int32} {h : Hp} (C : LC G p s m meth c b L xs) (hL3 : L ≤ 384) (i : Nat) (hi : i + 6 ≤ L) (ho : ∀ (x1 x2 x3 : Int32), OpOK Rel (f_C_sheet x1 x2 x3) (f_M_sheet x1 x2 x3)) (hr0 : Rel h)
    (hk : ∀ h2, Rel h2 → LV G p e s m below meth c b 1310 [(3, .int (nI i)), (2, .ref (ad G 31)), (1, .ref (ad G 0)), (0, .ref b)] [] h2) : LV G p e s m below meth c b 1005 [(3, .int (nI i)), (2, .ref (ad G 31)), (1, .ref (ad G 0)), (0, .ref b)] [] h := by
  obtain ⟨r, h1, h2, e1, e2, hr⟩ := ho (xs (i + 1)) (xs (i + 2)) (xs (i + 3)) h hr0
  refine la_aload C 2 d_law_1005 rfl rfl ?_
  refine la_aload C 3 d_law_1006 rfl rfl ?_
  refine la_iload C 0 d_law_1007 rfl rfl ?_
  refine la_iconst 1 C d_law_1008 rfl ?_
  refine la_iadd C d_law_1009 ?_
  refine la_sld (i + 1) (nI_add i 1) (by omega) hL3 C d_law_1010 ?_
  refine la_aload C 3 d_law_1011 rfl rfl ?_
  refine la_iload C 0 d_law_1012 rfl rfl ?_
  refine la_iconst 2 C d_law_1013 rfl ?_
  refine la_iadd C d_law_1014 ?_
  refine la_sld (i + 2) (nI_add i 2) (by omega) hL3 C d_law_1015 ?_
  refine la_aload C 3 d_law_1016 rfl rfl ?_
  refine la_iload C 0 d_law_1017 rfl rfl ?_
  refine la_iconst 3 C d_law_1018 rfl ?_
  refine la_iadd C d_law_1019 ?_
  refine la_sld (i + 3) (nI_add i 3) (by omega) hL3 C d_law_1020 ?_
  refine la_call (As := [.int (xs (i + 1)), .int (xs (i + 2)), .int (xs (i + 3))]) (rest := []) C e1 rfl (c_C_sheet G (xs (i + 1)) (xs (i + 2)) (xs (i + 3)) h) co_L_119 io_C_sheet o_0 ⟨Nat.le_of_ble_eq_true rfl, Nat.le_of_ble_eq_true rfl⟩ rfl rfl (Nat.le_of_ble_eq_true rfl) d_law_1021 ?_
  refine la_aload C 1 d_law_1024 rfl rfl ?_
  refine la_aload C 3 d_law_1025 rfl rfl ?_
  refine la_iload C 0 d_law_1026 rfl rfl ?_
  refine la_iconst 1 C d_law_1027 rfl ?_
  refine la_iadd C d_law_1028 ?_
  refine la_sld (i + 1) (nI_add i 1) (by omega) hL3 C d_law_1029 ?_
  refine la_aload C 3 d_law_1030 rfl rfl ?_
  refine la_iload C 0 d_law_1031 rfl rfl ?_
  refine la_iconst 2 C d_law_1032 rfl ?_
  refine la_iadd C d_law_1033 ?_
  refine la_sld (i + 2) (nI_add i 2) (by omega) hL3 C d_law_1034 ?_
  refine la_aload C 3 d_law_1035 rfl rfl ?_
  refine la_iload C 0 d_law_1036 rfl rfl ?_
  refine la_iconst 3 C d_law_1037 rfl ?_
  refine la_iadd C d_law_1038 ?_
  refine la_sld (i + 3) (nI_add i 3) (by omega) hL3 C d_law_1039 ?_
  refine la_call (As := [.int (xs (i + 1)), .int (xs (i + 2)), .int (xs (i + 3))]) (rest := [.int r]) C e2 rfl (c_M_sheet G (xs (i + 1)) (xs (i + 2)) (xs (i + 3)) h1) co_L_122 io_M_sheet o_31 ⟨Nat.le_of_ble_eq_true rfl, Nat.le_of_ble_eq_true rfl⟩ rfl rfl (Nat.le_of_ble_eq_true rfl) d_law_1040 ?_
  exact la_ieq 1310 C d_law_1043 (by decide) (hk h2 hr)
set_option maxHeartbeats 4000000 in
set_option maxRecDepth 20000 in
theorem law_case_26 {Rel : Hp → Prop} {G : Gt} {p : Program} {e : Env} {s : State} {m : MethodId} {below : List Frame} {meth : Method} {c : Code} {b L : Nat} {xs : Nat → Int32} {h : Hp} (C : LC G p s m meth c b L xs) (hL3 : L ≤ 384) (i : Nat) (hi : i + 6 ≤ L) (ho : ∀ (x1 : Int32), OpOK Rel (f_C_lose x1) (f_M_lose x1)) (hr0 : Rel h)
    (hk : ∀ h2, Rel h2 → LV G p e s m below meth c b 1310 [(3, .int (nI i)), (2, .ref (ad G 31)), (1, .ref (ad G 0)), (0, .ref b)] [] h2) : LV G p e s m below meth c b 1048 [(3, .int (nI i)), (2, .ref (ad G 31)), (1, .ref (ad G 0)), (0, .ref b)] [] h := by
  obtain ⟨r, h1, h2, e1, e2, hr⟩ := ho (xs (i + 1)) h hr0
  refine la_aload C 2 d_law_1048 rfl rfl ?_
  refine la_aload C 3 d_law_1049 rfl rfl ?_
  refine la_iload C 0 d_law_1050 rfl rfl ?_
  refine la_iconst 1 C d_law_1051 rfl ?_
  refine la_iadd C d_law_1052 ?_
  refine la_sld (i + 1) (nI_add i 1) (by omega) hL3 C d_law_1053 ?_
  refine la_call (As := [.int (xs (i + 1))]) (rest := []) C e1 rfl (c_C_lose G (xs (i + 1)) h) co_L_123 io_C_lose o_0 ⟨Nat.le_of_ble_eq_true rfl, Nat.le_of_ble_eq_true rfl⟩ rfl rfl (Nat.le_of_ble_eq_true rfl) d_law_1054 ?_
  refine la_aload C 1 d_law_1057 rfl rfl ?_
  refine la_aload C 3 d_law_1058 rfl rfl ?_
  refine la_iload C 0 d_law_1059 rfl rfl ?_
  refine la_iconst 1 C d_law_1060 rfl ?_
  refine la_iadd C d_law_1061 ?_
  refine la_sld (i + 1) (nI_add i 1) (by omega) hL3 C d_law_1062 ?_
  refine la_call (As := [.int (xs (i + 1))]) (rest := [.int r]) C e2 rfl (c_M_lose G (xs (i + 1)) h1) co_L_126 io_M_lose o_31 ⟨Nat.le_of_ble_eq_true rfl, Nat.le_of_ble_eq_true rfl⟩ rfl rfl (Nat.le_of_ble_eq_true rfl) d_law_1063 ?_
  exact la_ieq 1310 C d_law_1066 (by decide) (hk h2 hr)
set_option maxHeartbeats 4000000 in
set_option maxRecDepth 20000 in
theorem law_case_27 {Rel : Hp → Prop} {G : Gt} {p : Program} {e : Env} {s : State} {m : MethodId} {below : List Frame} {meth : Method} {c : Code} {b L : Nat} {xs : Nat → Int32} {h : Hp} (C : LC G p s m meth c b L xs) (hL3 : L ≤ 384) (i : Nat) (hi : i + 6 ≤ L) (ho : ∀ (x1 x2 x3 x4 : Int32), OpOK Rel (f_C_put x1 x2 x3 x4) (f_M_put x1 x2 x3 x4)) (hr0 : Rel h)
    (hk : ∀ h2, Rel h2 → LV G p e s m below meth c b 1310 [(3, .int (nI i)), (2, .ref (ad G 31)), (1, .ref (ad G 0)), (0, .ref b)] [] h2) : LV G p e s m below meth c b 1071 [(3, .int (nI i)), (2, .ref (ad G 31)), (1, .ref (ad G 0)), (0, .ref b)] [] h := by
  obtain ⟨r, h1, h2, e1, e2, hr⟩ := ho (xs (i + 1)) (xs (i + 2)) (xs (i + 3)) (xs (i + 4)) h hr0
  refine la_aload C 2 d_law_1071 rfl rfl ?_
  refine la_aload C 3 d_law_1072 rfl rfl ?_
  refine la_iload C 0 d_law_1073 rfl rfl ?_
  refine la_iconst 1 C d_law_1074 rfl ?_
  refine la_iadd C d_law_1075 ?_
  refine la_sld (i + 1) (nI_add i 1) (by omega) hL3 C d_law_1076 ?_
  refine la_aload C 3 d_law_1077 rfl rfl ?_
  refine la_iload C 0 d_law_1078 rfl rfl ?_
  refine la_iconst 2 C d_law_1079 rfl ?_
  refine la_iadd C d_law_1080 ?_
  refine la_sld (i + 2) (nI_add i 2) (by omega) hL3 C d_law_1081 ?_
  refine la_aload C 3 d_law_1082 rfl rfl ?_
  refine la_iload C 0 d_law_1083 rfl rfl ?_
  refine la_iconst 3 C d_law_1084 rfl ?_
  refine la_iadd C d_law_1085 ?_
  refine la_sld (i + 3) (nI_add i 3) (by omega) hL3 C d_law_1086 ?_
  refine la_aload C 3 d_law_1087 rfl rfl ?_
  refine la_iload C 0 d_law_1088 rfl rfl ?_
  refine la_iconst 4 C d_law_1089 rfl ?_
  refine la_iadd C d_law_1090 ?_
  refine la_sld (i + 4) (nI_add i 4) (by omega) hL3 C d_law_1091 ?_
  refine la_call (As := [.int (xs (i + 1)), .int (xs (i + 2)), .int (xs (i + 3)), .int (xs (i + 4))]) (rest := []) C e1 rfl (c_C_put G (xs (i + 1)) (xs (i + 2)) (xs (i + 3)) (xs (i + 4)) h) co_L_127 io_C_put o_0 ⟨Nat.le_of_ble_eq_true rfl, Nat.le_of_ble_eq_true rfl⟩ rfl rfl (Nat.le_of_ble_eq_true rfl) d_law_1092 ?_
  refine la_aload C 1 d_law_1095 rfl rfl ?_
  refine la_aload C 3 d_law_1096 rfl rfl ?_
  refine la_iload C 0 d_law_1097 rfl rfl ?_
  refine la_iconst 1 C d_law_1098 rfl ?_
  refine la_iadd C d_law_1099 ?_
  refine la_sld (i + 1) (nI_add i 1) (by omega) hL3 C d_law_1100 ?_
  refine la_aload C 3 d_law_1101 rfl rfl ?_
  refine la_iload C 0 d_law_1102 rfl rfl ?_
  refine la_iconst 2 C d_law_1103 rfl ?_
  refine la_iadd C d_law_1104 ?_
  refine la_sld (i + 2) (nI_add i 2) (by omega) hL3 C d_law_1105 ?_
  refine la_aload C 3 d_law_1106 rfl rfl ?_
  refine la_iload C 0 d_law_1107 rfl rfl ?_
  refine la_iconst 3 C d_law_1108 rfl ?_
  refine la_iadd C d_law_1109 ?_
  refine la_sld (i + 3) (nI_add i 3) (by omega) hL3 C d_law_1110 ?_
  refine la_aload C 3 d_law_1111 rfl rfl ?_
  refine la_iload C 0 d_law_1112 rfl rfl ?_
  refine la_iconst 4 C d_law_1113 rfl ?_
  refine la_iadd C d_law_1114 ?_
  refine la_sld (i + 4) (nI_add i 4) (by omega) hL3 C d_law_1115 ?_
  refine la_call (As := [.int (xs (i + 1)), .int (xs (i + 2)), .int (xs (i + 3)), .int (xs (i + 4))]) (rest := [.int r]) C e2 rfl (c_M_put G (xs (i + 1)) (xs (i + 2)) (xs (i + 3)) (xs (i + 4)) h1) co_L_130 io_M_put o_31 ⟨Nat.le_of_ble_eq_true rfl, Nat.le_of_ble_eq_true rfl⟩ rfl rfl (Nat.le_of_ble_eq_true rfl) d_law_1116 ?_
  exact la_ieq 1310 C d_law_1119 (by decide) (hk h2 hr)
set_option maxHeartbeats 4000000 in
set_option maxRecDepth 20000 in
theorem law_case_28 {Rel : Hp → Prop} {G : Gt} {p : Program} {e : Env} {s : State} {m : MethodId} {below : List Frame} {meth : Method} {c : Code} {b L : Nat} {xs : Nat → Int32} {h : Hp} (C : LC G p s m meth c b L xs) (hL3 : L ≤ 384) (i : Nat) (hi : i + 6 ≤ L) (ho : ∀ (x1 x2 x3 : Int32), OpOK Rel (f_C_get x1 x2 x3) (f_M_get x1 x2 x3)) (hr0 : Rel h)
    (hk : ∀ h2, Rel h2 → LV G p e s m below meth c b 1310 [(3, .int (nI i)), (2, .ref (ad G 31)), (1, .ref (ad G 0)), (0, .ref b)] [] h2) : LV G p e s m below meth c b 1124 [(3, .int (nI i)), (2, .ref (ad G 31)), (1, .ref (ad G 0)), (0, .ref b)] [] h := by
  obtain ⟨r, h1, h2, e1, e2, hr⟩ := ho (xs (i + 1)) (xs (i + 2)) (xs (i + 3)) h hr0
  refine la_aload C 2 d_law_1124 rfl rfl ?_
  refine la_aload C 3 d_law_1125 rfl rfl ?_
  refine la_iload C 0 d_law_1126 rfl rfl ?_
  refine la_iconst 1 C d_law_1127 rfl ?_
  refine la_iadd C d_law_1128 ?_
  refine la_sld (i + 1) (nI_add i 1) (by omega) hL3 C d_law_1129 ?_
  refine la_aload C 3 d_law_1130 rfl rfl ?_
  refine la_iload C 0 d_law_1131 rfl rfl ?_
  refine la_iconst 2 C d_law_1132 rfl ?_
  refine la_iadd C d_law_1133 ?_
  refine la_sld (i + 2) (nI_add i 2) (by omega) hL3 C d_law_1134 ?_
  refine la_aload C 3 d_law_1135 rfl rfl ?_
  refine la_iload C 0 d_law_1136 rfl rfl ?_
  refine la_iconst 3 C d_law_1137 rfl ?_
  refine la_iadd C d_law_1138 ?_
  refine la_sld (i + 3) (nI_add i 3) (by omega) hL3 C d_law_1139 ?_
  refine la_call (As := [.int (xs (i + 1)), .int (xs (i + 2)), .int (xs (i + 3))]) (rest := []) C e1 rfl (c_C_get G (xs (i + 1)) (xs (i + 2)) (xs (i + 3)) h) co_L_131 io_C_get o_0 ⟨Nat.le_of_ble_eq_true rfl, Nat.le_of_ble_eq_true rfl⟩ rfl rfl (Nat.le_of_ble_eq_true rfl) d_law_1140 ?_
  refine la_aload C 1 d_law_1143 rfl rfl ?_
  refine la_aload C 3 d_law_1144 rfl rfl ?_
  refine la_iload C 0 d_law_1145 rfl rfl ?_
  refine la_iconst 1 C d_law_1146 rfl ?_
  refine la_iadd C d_law_1147 ?_
  refine la_sld (i + 1) (nI_add i 1) (by omega) hL3 C d_law_1148 ?_
  refine la_aload C 3 d_law_1149 rfl rfl ?_
  refine la_iload C 0 d_law_1150 rfl rfl ?_
  refine la_iconst 2 C d_law_1151 rfl ?_
  refine la_iadd C d_law_1152 ?_
  refine la_sld (i + 2) (nI_add i 2) (by omega) hL3 C d_law_1153 ?_
  refine la_aload C 3 d_law_1154 rfl rfl ?_
  refine la_iload C 0 d_law_1155 rfl rfl ?_
  refine la_iconst 3 C d_law_1156 rfl ?_
  refine la_iadd C d_law_1157 ?_
  refine la_sld (i + 3) (nI_add i 3) (by omega) hL3 C d_law_1158 ?_
  refine la_call (As := [.int (xs (i + 1)), .int (xs (i + 2)), .int (xs (i + 3))]) (rest := [.int r]) C e2 rfl (c_M_get G (xs (i + 1)) (xs (i + 2)) (xs (i + 3)) h1) co_L_134 io_M_get o_31 ⟨Nat.le_of_ble_eq_true rfl, Nat.le_of_ble_eq_true rfl⟩ rfl rfl (Nat.le_of_ble_eq_true rfl) d_law_1159 ?_
  exact la_ieq 1310 C d_law_1162 (by decide) (hk h2 hr)
set_option maxHeartbeats 4000000 in
set_option maxRecDepth 20000 in
theorem law_case_29 {Rel : Hp → Prop} {G : Gt} {p : Program} {e : Env} {s : State} {m : MethodId} {below : List Frame} {meth : Method} {c : Code} {b L : Nat} {xs : Nat → Int32} {h : Hp} (C : LC G p s m meth c b L xs) (hL3 : L ≤ 384) (i : Nat) (hi : i + 6 ≤ L) (ho : ∀ (x1 x2 x3 x4 x5 : Int32), OpOK Rel (f_C_copy x1 x2 x3 x4 x5) (f_M_copy x1 x2 x3 x4 x5)) (hr0 : Rel h)
    (hk : ∀ h2, Rel h2 → LV G p e s m below meth c b 1310 [(3, .int (nI i)), (2, .ref (ad G 31)), (1, .ref (ad G 0)), (0, .ref b)] [] h2) : LV G p e s m below meth c b 1167 [(3, .int (nI i)), (2, .ref (ad G 31)), (1, .ref (ad G 0)), (0, .ref b)] [] h := by
  obtain ⟨r, h1, h2, e1, e2, hr⟩ := ho (xs (i + 1)) (xs (i + 2)) (xs (i + 3)) (xs (i + 4)) (xs (i + 5)) h hr0
  refine la_aload C 2 d_law_1167 rfl rfl ?_
  refine la_aload C 3 d_law_1168 rfl rfl ?_
  refine la_iload C 0 d_law_1169 rfl rfl ?_
  refine la_iconst 1 C d_law_1170 rfl ?_
  refine la_iadd C d_law_1171 ?_
  refine la_sld (i + 1) (nI_add i 1) (by omega) hL3 C d_law_1172 ?_
  refine la_aload C 3 d_law_1173 rfl rfl ?_
  refine la_iload C 0 d_law_1174 rfl rfl ?_
  refine la_iconst 2 C d_law_1175 rfl ?_
  refine la_iadd C d_law_1176 ?_
  refine la_sld (i + 2) (nI_add i 2) (by omega) hL3 C d_law_1177 ?_
  refine la_aload C 3 d_law_1178 rfl rfl ?_
  refine la_iload C 0 d_law_1179 rfl rfl ?_
  refine la_iconst 3 C d_law_1180 rfl ?_
  refine la_iadd C d_law_1181 ?_
  refine la_sld (i + 3) (nI_add i 3) (by omega) hL3 C d_law_1182 ?_
  refine la_aload C 3 d_law_1183 rfl rfl ?_
  refine la_iload C 0 d_law_1184 rfl rfl ?_
  refine la_iconst 4 C d_law_1185 rfl ?_
  refine la_iadd C d_law_1186 ?_
  refine la_sld (i + 4) (nI_add i 4) (by omega) hL3 C d_law_1187 ?_
  refine la_aload C 3 d_law_1188 rfl rfl ?_
  refine la_iload C 0 d_law_1189 rfl rfl ?_
  refine la_iconst 5 C d_law_1190 rfl ?_
  refine la_iadd C d_law_1191 ?_
  refine la_sld (i + 5) (nI_add i 5) (by omega) hL3 C d_law_1192 ?_
  refine la_call (As := [.int (xs (i + 1)), .int (xs (i + 2)), .int (xs (i + 3)), .int (xs (i + 4)), .int (xs (i + 5))]) (rest := []) C e1 rfl (c_C_copy G (xs (i + 1)) (xs (i + 2)) (xs (i + 3)) (xs (i + 4)) (xs (i + 5)) h) co_L_135 io_C_copy o_0 ⟨Nat.le_of_ble_eq_true rfl, Nat.le_of_ble_eq_true rfl⟩ rfl rfl (Nat.le_of_ble_eq_true rfl) d_law_1193 ?_
  refine la_aload C 1 d_law_1196 rfl rfl ?_
  refine la_aload C 3 d_law_1197 rfl rfl ?_
  refine la_iload C 0 d_law_1198 rfl rfl ?_
  refine la_iconst 1 C d_law_1199 rfl ?_
  refine la_iadd C d_law_1200 ?_
  refine la_sld (i + 1) (nI_add i 1) (by omega) hL3 C d_law_1201 ?_
  refine la_aload C 3 d_law_1202 rfl rfl ?_
  refine la_iload C 0 d_law_1203 rfl rfl ?_
  refine la_iconst 2 C d_law_1204 rfl ?_
  refine la_iadd C d_law_1205 ?_
  refine la_sld (i + 2) (nI_add i 2) (by omega) hL3 C d_law_1206 ?_
  refine la_aload C 3 d_law_1207 rfl rfl ?_
  refine la_iload C 0 d_law_1208 rfl rfl ?_
  refine la_iconst 3 C d_law_1209 rfl ?_
  refine la_iadd C d_law_1210 ?_
  refine la_sld (i + 3) (nI_add i 3) (by omega) hL3 C d_law_1211 ?_
  refine la_aload C 3 d_law_1212 rfl rfl ?_
  refine la_iload C 0 d_law_1213 rfl rfl ?_
  refine la_iconst 4 C d_law_1214 rfl ?_
  refine la_iadd C d_law_1215 ?_
  refine la_sld (i + 4) (nI_add i 4) (by omega) hL3 C d_law_1216 ?_
  refine la_aload C 3 d_law_1217 rfl rfl ?_
  refine la_iload C 0 d_law_1218 rfl rfl ?_
  refine la_iconst 5 C d_law_1219 rfl ?_
  refine la_iadd C d_law_1220 ?_
  refine la_sld (i + 5) (nI_add i 5) (by omega) hL3 C d_law_1221 ?_
  refine la_call (As := [.int (xs (i + 1)), .int (xs (i + 2)), .int (xs (i + 3)), .int (xs (i + 4)), .int (xs (i + 5))]) (rest := [.int r]) C e2 rfl (c_M_copy G (xs (i + 1)) (xs (i + 2)) (xs (i + 3)) (xs (i + 4)) (xs (i + 5)) h1) co_L_138 io_M_copy o_31 ⟨Nat.le_of_ble_eq_true rfl, Nat.le_of_ble_eq_true rfl⟩ rfl rfl (Nat.le_of_ble_eq_true rfl) d_law_1222 ?_
  exact la_ieq 1310 C d_law_1225 (by decide) (hk h2 hr)
set_option maxHeartbeats 4000000 in
set_option maxRecDepth 20000 in
theorem law_case_30 {Rel : Hp → Prop} {G : Gt} {p : Program} {e : Env} {s : State} {m : MethodId} {below : List Frame} {meth : Method} {c : Code} {b L : Nat} {xs : Nat → Int32} {h : Hp} (C : LC G p s m meth c b L xs) (hL3 : L ≤ 384) (i : Nat) (hi : i + 6 ≤ L) (ho : ∀ (x1 x2 x3 : Int32), OpOK Rel (f_C_write x1 x2 x3) (f_M_write x1 x2 x3)) (hr0 : Rel h)
    (hk : ∀ h2, Rel h2 → LV G p e s m below meth c b 1310 [(3, .int (nI i)), (2, .ref (ad G 31)), (1, .ref (ad G 0)), (0, .ref b)] [] h2) : LV G p e s m below meth c b 1230 [(3, .int (nI i)), (2, .ref (ad G 31)), (1, .ref (ad G 0)), (0, .ref b)] [] h := by
  obtain ⟨r, h1, h2, e1, e2, hr⟩ := ho (xs (i + 1)) (xs (i + 2)) (xs (i + 3)) h hr0
  refine la_aload C 2 d_law_1230 rfl rfl ?_
  refine la_aload C 3 d_law_1231 rfl rfl ?_
  refine la_iload C 0 d_law_1232 rfl rfl ?_
  refine la_iconst 1 C d_law_1233 rfl ?_
  refine la_iadd C d_law_1234 ?_
  refine la_sld (i + 1) (nI_add i 1) (by omega) hL3 C d_law_1235 ?_
  refine la_aload C 3 d_law_1236 rfl rfl ?_
  refine la_iload C 0 d_law_1237 rfl rfl ?_
  refine la_iconst 2 C d_law_1238 rfl ?_
  refine la_iadd C d_law_1239 ?_
  refine la_sld (i + 2) (nI_add i 2) (by omega) hL3 C d_law_1240 ?_
  refine la_aload C 3 d_law_1241 rfl rfl ?_
  refine la_iload C 0 d_law_1242 rfl rfl ?_
  refine la_iconst 3 C d_law_1243 rfl ?_
  refine la_iadd C d_law_1244 ?_
  refine la_sld (i + 3) (nI_add i 3) (by omega) hL3 C d_law_1245 ?_
  refine la_call (As := [.int (xs (i + 1)), .int (xs (i + 2)), .int (xs (i + 3))]) (rest := []) C e1 rfl (c_C_write G (xs (i + 1)) (xs (i + 2)) (xs (i + 3)) h) co_L_139 io_C_write o_0 ⟨Nat.le_of_ble_eq_true rfl, Nat.le_of_ble_eq_true rfl⟩ rfl rfl (Nat.le_of_ble_eq_true rfl) d_law_1246 ?_
  refine la_aload C 1 d_law_1249 rfl rfl ?_
  refine la_aload C 3 d_law_1250 rfl rfl ?_
  refine la_iload C 0 d_law_1251 rfl rfl ?_
  refine la_iconst 1 C d_law_1252 rfl ?_
  refine la_iadd C d_law_1253 ?_
  refine la_sld (i + 1) (nI_add i 1) (by omega) hL3 C d_law_1254 ?_
  refine la_aload C 3 d_law_1255 rfl rfl ?_
  refine la_iload C 0 d_law_1256 rfl rfl ?_
  refine la_iconst 2 C d_law_1257 rfl ?_
  refine la_iadd C d_law_1258 ?_
  refine la_sld (i + 2) (nI_add i 2) (by omega) hL3 C d_law_1259 ?_
  refine la_aload C 3 d_law_1260 rfl rfl ?_
  refine la_iload C 0 d_law_1261 rfl rfl ?_
  refine la_iconst 3 C d_law_1262 rfl ?_
  refine la_iadd C d_law_1263 ?_
  refine la_sld (i + 3) (nI_add i 3) (by omega) hL3 C d_law_1264 ?_
  refine la_call (As := [.int (xs (i + 1)), .int (xs (i + 2)), .int (xs (i + 3))]) (rest := [.int r]) C e2 rfl (c_M_write G (xs (i + 1)) (xs (i + 2)) (xs (i + 3)) h1) co_L_142 io_M_write o_31 ⟨Nat.le_of_ble_eq_true rfl, Nat.le_of_ble_eq_true rfl⟩ rfl rfl (Nat.le_of_ble_eq_true rfl) d_law_1265 ?_
  exact la_ieq 1310 C d_law_1268 (by decide) (hk h2 hr)
set_option maxHeartbeats 4000000 in
set_option maxRecDepth 20000 in
theorem law_case_31 {Rel : Hp → Prop} {G : Gt} {p : Program} {e : Env} {s : State} {m : MethodId} {below : List Frame} {meth : Method} {c : Code} {b L : Nat} {xs : Nat → Int32} {h : Hp} (C : LC G p s m meth c b L xs) (hL3 : L ≤ 384) (i : Nat) (hi : i + 6 ≤ L) (ho : ∀ (x1 : Int32), OpOK Rel (f_C_count x1) (f_M_count x1)) (hr0 : Rel h)
    (hk : ∀ h2, Rel h2 → LV G p e s m below meth c b 1310 [(3, .int (nI i)), (2, .ref (ad G 31)), (1, .ref (ad G 0)), (0, .ref b)] [] h2) : LV G p e s m below meth c b 1273 [(3, .int (nI i)), (2, .ref (ad G 31)), (1, .ref (ad G 0)), (0, .ref b)] [] h := by
  obtain ⟨r, h1, h2, e1, e2, hr⟩ := ho (xs (i + 1)) h hr0
  refine la_aload C 2 d_law_1273 rfl rfl ?_
  refine la_aload C 3 d_law_1274 rfl rfl ?_
  refine la_iload C 0 d_law_1275 rfl rfl ?_
  refine la_iconst 1 C d_law_1276 rfl ?_
  refine la_iadd C d_law_1277 ?_
  refine la_sld (i + 1) (nI_add i 1) (by omega) hL3 C d_law_1278 ?_
  refine la_call (As := [.int (xs (i + 1))]) (rest := []) C e1 rfl (c_C_count G (xs (i + 1)) h) co_L_143 io_C_count o_0 ⟨Nat.le_of_ble_eq_true rfl, Nat.le_of_ble_eq_true rfl⟩ rfl rfl (Nat.le_of_ble_eq_true rfl) d_law_1279 ?_
  refine la_aload C 1 d_law_1282 rfl rfl ?_
  refine la_aload C 3 d_law_1283 rfl rfl ?_
  refine la_iload C 0 d_law_1284 rfl rfl ?_
  refine la_iconst 1 C d_law_1285 rfl ?_
  refine la_iadd C d_law_1286 ?_
  refine la_sld (i + 1) (nI_add i 1) (by omega) hL3 C d_law_1287 ?_
  refine la_call (As := [.int (xs (i + 1))]) (rest := [.int r]) C e2 rfl (c_M_count G (xs (i + 1)) h1) co_L_146 io_M_count o_31 ⟨Nat.le_of_ble_eq_true rfl, Nat.le_of_ble_eq_true rfl⟩ rfl rfl (Nat.le_of_ble_eq_true rfl) d_law_1288 ?_
  exact la_ieq 1310 C d_law_1291 (by decide) (hk h2 hr)
set_option maxHeartbeats 4000000 in
set_option maxRecDepth 20000 in
theorem law_case_32 {Rel : Hp → Prop} {G : Gt} {p : Program} {e : Env} {s : State} {m : MethodId} {below : List Frame} {meth : Method} {c : Code} {b L : Nat} {xs : Nat → Int32} {h : Hp} (C : LC G p s m meth c b L xs) (hL3 : L ≤ 384) (i : Nat) (hi : i + 6 ≤ L) (ho : OpOK Rel (f_C_digest) (f_M_digest)) (hr0 : Rel h)
    (hk : ∀ h2, Rel h2 → LV G p e s m below meth c b 1310 [(3, .int (nI i)), (2, .ref (ad G 31)), (1, .ref (ad G 0)), (0, .ref b)] [] h2) : LV G p e s m below meth c b 1296 [(3, .int (nI i)), (2, .ref (ad G 31)), (1, .ref (ad G 0)), (0, .ref b)] [] h := by
  obtain ⟨r, h1, h2, e1, e2, hr⟩ := ho h hr0
  refine la_aload C 2 d_law_1296 rfl rfl ?_
  refine la_call (As := []) (rest := []) C e1 rfl (c_C_digest G h) co_L_147 io_C_digest o_0 ⟨Nat.le_of_ble_eq_true rfl, Nat.le_of_ble_eq_true rfl⟩ rfl rfl (Nat.le_of_ble_eq_true rfl) d_law_1297 ?_
  refine la_aload C 1 d_law_1300 rfl rfl ?_
  refine la_call (As := []) (rest := [.long r]) C e2 rfl (c_M_digest G h1) co_L_151 io_M_digest o_31 ⟨Nat.le_of_ble_eq_true rfl, Nat.le_of_ble_eq_true rfl⟩ rfl rfl (Nat.le_of_ble_eq_true rfl) d_law_1301 ?_
  exact la_leq 1310 C d_law_1304 d_law_1305 (by decide) (hk h2 hr)
def AllOK (Rel : Hp → Prop) : Prop :=
  (∀ (x1 : Int32), OpOK Rel (f_C_type x1) (f_M_type x1)) ∧
  (OpOK Rel (f_C_wipe) (f_M_wipe)) ∧
  (OpOK Rel (f_C_undo) (f_M_undo)) ∧
  (OpOK Rel (f_C_fault) (f_M_fault)) ∧
  (∀ (x1 x2 : Int32), OpOK Rel (f_C_peg x1 x2) (f_M_peg x1 x2)) ∧
  (∀ (x1 x2 : Int32), OpOK Rel (f_C_hide x1 x2) (f_M_hide x1 x2)) ∧
  (∀ (x1 x2 : Int32), OpOK Rel (f_C_set x1 x2) (f_M_set x1 x2)) ∧
  (∀ (x1 : Int32), OpOK Rel (f_C_read x1) (f_M_read x1)) ∧
  (∀ (x1 x2 : Int32), OpOK Rel (f_C_far x1 x2) (f_M_far x1 x2)) ∧
  (∀ (x1 x2 x3 : Int32), OpOK Rel (f_C_web x1 x2 x3) (f_M_web x1 x2 x3)) ∧
  (∀ (x1 x2 x3 : Int32), OpOK Rel (f_C_length x1 x2 x3) (f_M_length x1 x2 x3)) ∧
  (∀ (x1 x2 : Int32), OpOK Rel (f_C_crosses x1 x2) (f_M_crosses x1 x2)) ∧
  (∀ (x1 x2 x3 : Int32), OpOK Rel (f_C_hangs x1 x2 x3) (f_M_hangs x1 x2 x3)) ∧
  (∀ (x1 x2 x3 : Int32), OpOK Rel (f_C_pieces x1 x2 x3) (f_M_pieces x1 x2 x3)) ∧
  (∀ (x1 x2 : Int32), OpOK Rel (f_C_turned x1 x2) (f_M_turned x1 x2)) ∧
  (∀ (x1 x2 x3 x4 : Int32), OpOK Rel (f_C_more x1 x2 x3 x4) (f_M_more x1 x2 x3 x4)) ∧
  (∀ (x1 : Int32), OpOK Rel (f_C_begin x1) (f_M_begin x1)) ∧
  (∀ (x1 x2 x3 x4 : Int32), OpOK Rel (f_C_last x1 x2 x3 x4) (f_M_last x1 x2 x3 x4)) ∧
  (∀ (x1 x2 x3 x4 x5 : Int32), OpOK Rel (f_C_two x1 x2 x3 x4 x5) (f_M_two x1 x2 x3 x4 x5)) ∧
  (∀ (x1 x2 x3 : Int32), OpOK Rel (f_C_seen x1 x2 x3) (f_M_seen x1 x2 x3)) ∧
  (OpOK Rel (f_C_forget) (f_M_forget)) ∧
  (OpOK Rel (f_C_fits) (f_M_fits)) ∧
  (OpOK Rel (f_C_tells) (f_M_tells)) ∧
  (∀ (x1 x2 x3 x4 : Int32), OpOK Rel (f_C_flies x1 x2 x3 x4) (f_M_flies x1 x2 x3 x4)) ∧
  (∀ (x1 x2 x3 : Int32), OpOK Rel (f_C_dew x1 x2 x3) (f_M_dew x1 x2 x3)) ∧
  (∀ (x1 x2 x3 : Int32), OpOK Rel (f_C_sheet x1 x2 x3) (f_M_sheet x1 x2 x3)) ∧
  (∀ (x1 : Int32), OpOK Rel (f_C_lose x1) (f_M_lose x1)) ∧
  (∀ (x1 x2 x3 x4 : Int32), OpOK Rel (f_C_put x1 x2 x3 x4) (f_M_put x1 x2 x3 x4)) ∧
  (∀ (x1 x2 x3 : Int32), OpOK Rel (f_C_get x1 x2 x3) (f_M_get x1 x2 x3)) ∧
  (∀ (x1 x2 x3 x4 x5 : Int32), OpOK Rel (f_C_copy x1 x2 x3 x4 x5) (f_M_copy x1 x2 x3 x4 x5)) ∧
  (∀ (x1 x2 x3 : Int32), OpOK Rel (f_C_write x1 x2 x3) (f_M_write x1 x2 x3)) ∧
  (∀ (x1 : Int32), OpOK Rel (f_C_count x1) (f_M_count x1)) ∧
  (OpOK Rel (f_C_digest) (f_M_digest))
set_option maxHeartbeats 4000000 in
set_option maxRecDepth 20000 in
theorem law_switch {Rel : Hp → Prop} {G : Gt} {p : Program} {e : Env} {s : State} {m : MethodId} {below : List Frame} {meth : Method} {c : Code} {b L : Nat} {xs : Nat → Int32} {h : Hp} (C : LC G p s m meth c b L xs) (hL3 : L ≤ 384) (i : Nat) (hi : i + 6 ≤ L) (ho : AllOK Rel) (hr0 : Rel h) (x : Int32) (hx0 : 0 ≤ x.toInt)
    (hk : ∀ h2, Rel h2 → LV G p e s m below meth c b 1310 [(3, .int (nI i)), (2, .ref (ad G 31)), (1, .ref (ad G 0)), (0, .ref b)] [] h2) : LV G p e s m below meth c b 33 [(3, .int (nI i)), (2, .ref (ad G 31)), (1, .ref (ad G 0)), (0, .ref b)] [.int x] h := by
  by_cases q0 : x = 0
  · intro H locs lsA hP hS hL
    exact lv_tableIn (off := 147) (tgt := 180) C.1.1 C.1.2.1 d_law_33 (by rw [q0]; decide) (by rw [q0]; decide) (by rw [q0]; rfl) (by decide) (law_case_0 C hL3 i hi ho.1 hr0 hk H locs lsA hP hS hL)
  by_cases q1 : x = 1
  · intro H locs lsA hP hS hL
    exact lv_tableIn (off := 170) (tgt := 203) C.1.1 C.1.2.1 d_law_33 (by rw [q1]; decide) (by rw [q1]; decide) (by rw [q1]; rfl) (by decide) (law_case_1 C hL3 i hi ho.2.1 hr0 hk H locs lsA hP hS hL)
  by_cases q2 : x = 2
  · intro H locs lsA hP hS hL
    exact lv_tableIn (off := 183) (tgt := 216) C.1.1 C.1.2.1 d_law_33 (by rw [q2]; decide) (by rw [q2]; decide) (by rw [q2]; rfl) (by decide) (law_case_2 C hL3 i hi ho.2.2.1 hr0 hk H locs lsA hP hS hL)
  by_cases q3 : x = 3
  · intro H locs lsA hP hS hL
    exact lv_tableIn (off := 196) (tgt := 229) C.1.1 C.1.2.1 d_law_33 (by rw [q3]; decide) (by rw [q3]; decide) (by rw [q3]; rfl) (by decide) (law_case_3 C hL3 i hi ho.2.2.2.1 hr0 hk H locs lsA hP hS hL)
  by_cases q4 : x = 4
  · intro H locs lsA hP hS hL
    exact lv_tableIn (off := 209) (tgt := 242) C.1.1 C.1.2.1 d_law_33 (by rw [q4]; decide) (by rw [q4]; decide) (by rw [q4]; rfl) (by decide) (law_case_4 C hL3 i hi ho.2.2.2.2.1 hr0 hk H locs lsA hP hS hL)
  by_cases q5 : x = 5
  · intro H locs lsA hP hS hL
    exact lv_tableIn (off := 242) (tgt := 275) C.1.1 C.1.2.1 d_law_33 (by rw [q5]; decide) (by rw [q5]; decide) (by rw [q5]; rfl) (by decide) (law_case_5 C hL3 i hi ho.2.2.2.2.2.1 hr0 hk H locs lsA hP hS hL)
  by_cases q6 : x = 6
  · intro H locs lsA hP hS hL
    exact lv_tableIn (off := 275) (tgt := 308) C.1.1 C.1.2.1 d_law_33 (by rw [q6]; decide) (by rw [q6]; decide) (by rw [q6]; rfl) (by decide) (law_case_6 C hL3 i hi ho.2.2.2.2.2.2.1 hr0 hk H locs lsA hP hS hL)
  by_cases q7 : x = 7
  · intro H locs lsA hP hS hL
    exact lv_tableIn (off := 308) (tgt := 341) C.1.1 C.1.2.1 d_law_33 (by rw [q7]; decide) (by rw [q7]; decide) (by rw [q7]; rfl) (by decide) (law_case_7 C hL3 i hi ho.2.2.2.2.2.2.2.1 hr0 hk H locs lsA hP hS hL)
  by_cases q8 : x = 8
  · intro H locs lsA hP hS hL
    exact lv_tableIn (off := 331) (tgt := 364) C.1.1 C.1.2.1 d_law_33 (by rw [q8]; decide) (by rw [q8]; decide) (by rw [q8]; rfl) (by decide) (law_case_8 C hL3 i hi ho.2.2.2.2.2.2.2.2.1 hr0 hk H locs lsA hP hS hL)
  by_cases q9 : x = 9
  · intro H locs lsA hP hS hL
    exact lv_tableIn (off := 364) (tgt := 397) C.1.1 C.1.2.1 d_law_33 (by rw [q9]; decide) (by rw [q9]; decide) (by rw [q9]; rfl) (by decide) (law_case_9 C hL3 i hi ho.2.2.2.2.2.2.2.2.2.1 hr0 hk H locs lsA hP hS hL)
  by_cases q10 : x = 10
  · intro H locs lsA hP hS hL
    exact lv_tableIn (off := 407) (tgt := 440) C.1.1 C.1.2.1 d_law_33 (by rw [q10]; decide) (by rw [q10]; decide) (by rw [q10]; rfl) (by decide) (law_case_10 C hL3 i hi ho.2.2.2.2.2.2.2.2.2.2.1 hr0 hk H locs lsA hP hS hL)
  by_cases q11 : x = 11
  · intro H locs lsA hP hS hL
    exact lv_tableIn (off := 450) (tgt := 483) C.1.1 C.1.2.1 d_law_33 (by rw [q11]; decide) (by rw [q11]; decide) (by rw [q11]; rfl) (by decide) (law_case_11 C hL3 i hi ho.2.2.2.2.2.2.2.2.2.2.2.1 hr0 hk H locs lsA hP hS hL)
  by_cases q12 : x = 12
  · intro H locs lsA hP hS hL
    exact lv_tableIn (off := 483) (tgt := 516) C.1.1 C.1.2.1 d_law_33 (by rw [q12]; decide) (by rw [q12]; decide) (by rw [q12]; rfl) (by decide) (law_case_12 C hL3 i hi ho.2.2.2.2.2.2.2.2.2.2.2.2.1 hr0 hk H locs lsA hP hS hL)
  by_cases q13 : x = 13
  · intro H locs lsA hP hS hL
    exact lv_tableIn (off := 526) (tgt := 559) C.1.1 C.1.2.1 d_law_33 (by rw [q13]; decide) (by rw [q13]; decide) (by rw [q13]; rfl) (by decide) (law_case_13 C hL3 i hi ho.2.2.2.2.2.2.2.2.2.2.2.2.2.1 hr0 hk H locs lsA hP hS hL)
  by_cases q14 : x = 14
  · intro H locs lsA hP hS hL
    exact lv_tableIn (off := 569) (tgt := 602) C.1.1 C.1.2.1 d_law_33 (by rw [q14]; decide) (by rw [q14]; decide) (by rw [q14]; rfl) (by decide) (law_case_14 C hL3 i hi ho.2.2.2.2.2.2.2.2.2.2.2.2.2.2.1 hr0 hk H locs lsA hP hS hL)
  by_cases q15 : x = 15
  · intro H locs lsA hP hS hL
    exact lv_tableIn (off := 602) (tgt := 635) C.1.1 C.1.2.1 d_law_33 (by rw [q15]; decide) (by rw [q15]; decide) (by rw [q15]; rfl) (by decide) (law_case_15 C hL3 i hi ho.2.2.2.2.2.2.2.2.2.2.2.2.2.2.2.1 hr0 hk H locs lsA hP hS hL)
  by_cases q16 : x = 16
  · intro H locs lsA hP hS hL
    exact lv_tableIn (off := 655) (tgt := 688) C.1.1 C.1.2.1 d_law_33 (by rw [q16]; decide) (by rw [q16]; decide) (by rw [q16]; rfl) (by decide) (law_case_16 C hL3 i hi ho.2.2.2.2.2.2.2.2.2.2.2.2.2.2.2.2.1 hr0 hk H locs lsA hP hS hL)
  by_cases q17 : x = 17
  · intro H locs lsA hP hS hL
    exact lv_tableIn (off := 678) (tgt := 711) C.1.1 C.1.2.1 d_law_33 (by rw [q17]; decide) (by rw [q17]; decide) (by rw [q17]; rfl) (by decide) (law_case_17 C hL3 i hi ho.2.2.2.2.2.2.2.2.2.2.2.2.2.2.2.2.2.1 hr0 hk H locs lsA hP hS hL)
  by_cases q18 : x = 18
  · intro H locs lsA hP hS hL
    exact lv_tableIn (off := 731) (tgt := 764) C.1.1 C.1.2.1 d_law_33 (by rw [q18]; decide) (by rw [q18]; decide) (by rw [q18]; rfl) (by decide) (law_case_18 C hL3 i hi ho.2.2.2.2.2.2.2.2.2.2.2.2.2.2.2.2.2.2.1 hr0 hk H locs lsA hP hS hL)
  by_cases q19 : x = 19
  · intro H locs lsA hP hS hL
    exact lv_tableIn (off := 794) (tgt := 827) C.1.1 C.1.2.1 d_law_33 (by rw [q19]; decide) (by rw [q19]; decide) (by rw [q19]; rfl) (by decide) (law_case_19 C hL3 i hi ho.2.2.2.2.2.2.2.2.2.2.2.2.2.2.2.2.2.2.2.1 hr0 hk H locs lsA hP hS hL)
  by_cases q20 : x = 20
  · intro H locs lsA hP hS hL
    exact lv_tableIn (off := 837) (tgt := 870) C.1.1 C.1.2.1 d_law_33 (by rw [q20]; decide) (by rw [q20]; decide) (by rw [q20]; rfl) (by decide) (law_case_20 C hL3 i hi ho.2.2.2.2.2.2.2.2.2.2.2.2.2.2.2.2.2.2.2.2.1 hr0 hk H locs lsA hP hS hL)
  by_cases q21 : x = 21
  · intro H locs lsA hP hS hL
    exact lv_tableIn (off := 850) (tgt := 883) C.1.1 C.1.2.1 d_law_33 (by rw [q21]; decide) (by rw [q21]; decide) (by rw [q21]; rfl) (by decide) (law_case_21 C hL3 i hi ho.2.2.2.2.2.2.2.2.2.2.2.2.2.2.2.2.2.2.2.2.2.1 hr0 hk H locs lsA hP hS hL)
  by_cases q22 : x = 22
  · intro H locs lsA hP hS hL
    exact lv_tableIn (off := 863) (tgt := 896) C.1.1 C.1.2.1 d_law_33 (by rw [q22]; decide) (by rw [q22]; decide) (by rw [q22]; rfl) (by decide) (law_case_22 C hL3 i hi ho.2.2.2.2.2.2.2.2.2.2.2.2.2.2.2.2.2.2.2.2.2.2.1 hr0 hk H locs lsA hP hS hL)
  by_cases q23 : x = 23
  · intro H locs lsA hP hS hL
    exact lv_tableIn (off := 876) (tgt := 909) C.1.1 C.1.2.1 d_law_33 (by rw [q23]; decide) (by rw [q23]; decide) (by rw [q23]; rfl) (by decide) (law_case_23 C hL3 i hi ho.2.2.2.2.2.2.2.2.2.2.2.2.2.2.2.2.2.2.2.2.2.2.2.1 hr0 hk H locs lsA hP hS hL)
  by_cases q24 : x = 24
  · intro H locs lsA hP hS hL
    exact lv_tableIn (off := 929) (tgt := 962) C.1.1 C.1.2.1 d_law_33 (by rw [q24]; decide) (by rw [q24]; decide) (by rw [q24]; rfl) (by decide) (law_case_24 C hL3 i hi ho.2.2.2.2.2.2.2.2.2.2.2.2.2.2.2.2.2.2.2.2.2.2.2.2.1 hr0 hk H locs lsA hP hS hL)
  by_cases q25 : x = 25
  · intro H locs lsA hP hS hL
    exact lv_tableIn (off := 972) (tgt := 1005) C.1.1 C.1.2.1 d_law_33 (by rw [q25]; decide) (by rw [q25]; decide) (by rw [q25]; rfl) (by decide) (law_case_25 C hL3 i hi ho.2.2.2.2.2.2.2.2.2.2.2.2.2.2.2.2.2.2.2.2.2.2.2.2.2.1 hr0 hk H locs lsA hP hS hL)
  by_cases q26 : x = 26
  · intro H locs lsA hP hS hL
    exact lv_tableIn (off := 1015) (tgt := 1048) C.1.1 C.1.2.1 d_law_33 (by rw [q26]; decide) (by rw [q26]; decide) (by rw [q26]; rfl) (by decide) (law_case_26 C hL3 i hi ho.2.2.2.2.2.2.2.2.2.2.2.2.2.2.2.2.2.2.2.2.2.2.2.2.2.2.1 hr0 hk H locs lsA hP hS hL)
  by_cases q27 : x = 27
  · intro H locs lsA hP hS hL
    exact lv_tableIn (off := 1038) (tgt := 1071) C.1.1 C.1.2.1 d_law_33 (by rw [q27]; decide) (by rw [q27]; decide) (by rw [q27]; rfl) (by decide) (law_case_27 C hL3 i hi ho.2.2.2.2.2.2.2.2.2.2.2.2.2.2.2.2.2.2.2.2.2.2.2.2.2.2.2.1 hr0 hk H locs lsA hP hS hL)
  by_cases q28 : x = 28
  · intro H locs lsA hP hS hL
    exact lv_tableIn (off := 1091) (tgt := 1124) C.1.1 C.1.2.1 d_law_33 (by rw [q28]; decide) (by rw [q28]; decide) (by rw [q28]; rfl) (by decide) (law_case_28 C hL3 i hi ho.2.2.2.2.2.2.2.2.2.2.2.2.2.2.2.2.2.2.2.2.2.2.2.2.2.2.2.2.1 hr0 hk H locs lsA hP hS hL)
  by_cases q29 : x = 29
  · intro H locs lsA hP hS hL
    exact lv_tableIn (off := 1134) (tgt := 1167) C.1.1 C.1.2.1 d_law_33 (by rw [q29]; decide) (by rw [q29]; decide) (by rw [q29]; rfl) (by decide) (law_case_29 C hL3 i hi ho.2.2.2.2.2.2.2.2.2.2.2.2.2.2.2.2.2.2.2.2.2.2.2.2.2.2.2.2.2.1 hr0 hk H locs lsA hP hS hL)
  by_cases q30 : x = 30
  · intro H locs lsA hP hS hL
    exact lv_tableIn (off := 1197) (tgt := 1230) C.1.1 C.1.2.1 d_law_33 (by rw [q30]; decide) (by rw [q30]; decide) (by rw [q30]; rfl) (by decide) (law_case_30 C hL3 i hi ho.2.2.2.2.2.2.2.2.2.2.2.2.2.2.2.2.2.2.2.2.2.2.2.2.2.2.2.2.2.2.1 hr0 hk H locs lsA hP hS hL)
  by_cases q31 : x = 31
  · intro H locs lsA hP hS hL
    exact lv_tableIn (off := 1240) (tgt := 1273) C.1.1 C.1.2.1 d_law_33 (by rw [q31]; decide) (by rw [q31]; decide) (by rw [q31]; rfl) (by decide) (law_case_31 C hL3 i hi ho.2.2.2.2.2.2.2.2.2.2.2.2.2.2.2.2.2.2.2.2.2.2.2.2.2.2.2.2.2.2.2.1 hr0 hk H locs lsA hP hS hL)
  by_cases q32 : x = 32
  · intro H locs lsA hP hS hL
    exact lv_tableIn (off := 1263) (tgt := 1296) C.1.1 C.1.2.1 d_law_33 (by rw [q32]; decide) (by rw [q32]; decide) (by rw [q32]; rfl) (by decide) (law_case_32 C hL3 i hi ho.2.2.2.2.2.2.2.2.2.2.2.2.2.2.2.2.2.2.2.2.2.2.2.2.2.2.2.2.2.2.2.2 hr0 hk H locs lsA hP hS hL)
  have p0 := lv_neT (a := 0) q0 rfl
  have p1 := lv_neT (a := 1) q1 rfl
  have p2 := lv_neT (a := 2) q2 rfl
  have p3 := lv_neT (a := 3) q3 rfl
  have p4 := lv_neT (a := 4) q4 rfl
  have p5 := lv_neT (a := 5) q5 rfl
  have p6 := lv_neT (a := 6) q6 rfl
  have p7 := lv_neT (a := 7) q7 rfl
  have p8 := lv_neT (a := 8) q8 rfl
  have p9 := lv_neT (a := 9) q9 rfl
  have p10 := lv_neT (a := 10) q10 rfl
  have p11 := lv_neT (a := 11) q11 rfl
  have p12 := lv_neT (a := 12) q12 rfl
  have p13 := lv_neT (a := 13) q13 rfl
  have p14 := lv_neT (a := 14) q14 rfl
  have p15 := lv_neT (a := 15) q15 rfl
  have p16 := lv_neT (a := 16) q16 rfl
  have p17 := lv_neT (a := 17) q17 rfl
  have p18 := lv_neT (a := 18) q18 rfl
  have p19 := lv_neT (a := 19) q19 rfl
  have p20 := lv_neT (a := 20) q20 rfl
  have p21 := lv_neT (a := 21) q21 rfl
  have p22 := lv_neT (a := 22) q22 rfl
  have p23 := lv_neT (a := 23) q23 rfl
  have p24 := lv_neT (a := 24) q24 rfl
  have p25 := lv_neT (a := 25) q25 rfl
  have p26 := lv_neT (a := 26) q26 rfl
  have p27 := lv_neT (a := 27) q27 rfl
  have p28 := lv_neT (a := 28) q28 rfl
  have p29 := lv_neT (a := 29) q29 rfl
  have p30 := lv_neT (a := 30) q30 rfl
  have p31 := lv_neT (a := 31) q31 rfl
  have p32 := lv_neT (a := 32) q32 rfl
  intro H locs lsA hP hS hL
  exact lv_tableOut (tgt := 1310) C.1.1 C.1.2.1 d_law_33 (by omega) (by decide) (hk h hr0 H locs lsA hP hS hL)
theorem and63 (x : Int32) : 0 ≤ (x &&& 63).toInt := by
  obtain ⟨j, hj, e⟩ := pk_andE x (m := 63) 6 (by decide)
  rw [e, nI_toInt (by omega)]
  omega
theorem sub6 {i L : Nat} (hL : L ≤ 384) (hi : i ≤ 400) (hc : ¬ nI L - 6 < nI i) : i + 6 ≤ L := by
  have e1 : (nI L - 6).toInt = (L : Int) - 6 := by
    have := pk_sub_toInt (a := L) (b := 6) (by omega) (by omega)
    exact this
  have e2 : (nI i).toInt = (i : Int) := nI_toInt (by omega)
  have h3 : ¬ (nI L - 6).toInt < (nI i).toInt := fun q => hc (Int32.lt_iff_toInt_lt.mpr q)
  rw [e1, e2] at h3
  omega
theorem law_loop {Rel : Hp → Prop} {G : Gt} {p : Program} {e : Env} {s : State} {m : MethodId} {below : List Frame} {meth : Method} {c : Code} {b L : Nat} {xs : Nat → Int32} (C : LC G p s m meth c b L xs) (hL3 : L ≤ 384) (ho : AllOK Rel) : ∀ (n i : Nat) (h : Hp), i ≤ L → L + 6 ≤ i + 6 * n → Rel h → LV G p e s m below meth c b 18 [(3, .int (nI i)), (2, .ref (ad G 31)), (1, .ref (ad G 0)), (0, .ref b)] [] h := by
  intro n
  induction n with
  | zero => intro i h hi hn _; exact absurd hn (by omega)
  | succ n ih =>
    intro i h hi hn hr
    refine la_iload C 0 d_law_18 rfl rfl ?_
    refine la_aload C 3 d_law_19 rfl rfl ?_
    refine la_slen C d_law_20 ?_
    refine la_bipush 6 C d_law_21 rfl ?_
    refine la_isub C d_law_23 ?_
    intro H locs lsA hP hS hL
    refine lv_icmp_gt (tgt := 1316) C.1.1 C.1.2.1 d_law_24 (by decide) (fun hc => ?_) (fun hc => ?_)
    · refine lv_iconst (v := 1) C.1.1 C.1.2.1 d_law_1316 (by decide) ?_
      refine va_forget hS.2.2 ?_
      refine W.widen (k := 600000) (n := 7302250) (Nat.le_of_ble_eq_true rfl) (Nat.le_of_ble_eq_true rfl) ?_
      exact lw_ret C.1.1 C.1.2.1 C.1.2.2.1 C.1.2.2.2.2.2.2.2.2.1 d_law_1317
    · have hi6 : i + 6 ≤ L := sub6 hL3 (by omega) hc
      have K : LV G p e s m below meth c b 27 [(3, .int (nI i)), (2, .ref (ad G 31)), (1, .ref (ad G 0)), (0, .ref b)] [] h := by
        refine la_aload C 3 d_law_27 rfl rfl ?_
        refine la_iload C 0 d_law_28 rfl rfl ?_
        refine la_sld i rfl (by omega) hL3 C d_law_29 ?_
        refine la_bipush 63 C d_law_30 rfl ?_
        refine la_iand C d_law_32 ?_
        refine law_switch C hL3 i hi6 ho hr _ (and63 _) ?_
        intro h2 hr2 H locs lsA hP hS hL
        refine lv_iinc (v := nI (i + 6)) (lv' := [(3, .int (nI (i + 6))), (2, .ref (ad G 31)), (1, .ref (ad G 0)), (0, .ref b)]) C.1.1 C.1.2.1 d_law_1310 hL (k := 0) rfl (nI_add i 6) (by decide) rfl (fun ls hl => ?_)
        refine lv_goto (tgt := 18) C.1.1 C.1.2.1 d_law_1313 (by decide) ?_
        exact ih (i + 6) h2 (by omega) (by omega) hr2 H locs ls hP hS hl
      exact K H locs lsA hP hS hL
