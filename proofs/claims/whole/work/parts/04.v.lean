/-! THE JUDGEMENT V: a method's body at a pc, over the abstract world, comes to the pure value o -/
abbrev Hp : Type := Nat → Nat → Int32
abbrev Gt : Type := Launch × (Nat → Nat) × va_G × (Nat → ClassId)
def ad (G : Gt) (a : Nat) : Nat := G.2.1 a
def isO (ci a : Nat) : Prop := a < NC ∧ shp a = .inl ci
def isA (k n b a : Nat) : Prop := a < NC ∧ shp a = .inr (k, n, b)
def cellF (G : Gt) (h : Hp) (a : Nat) (fl : List (Option Nat)) : List Value := fl.mapIdx fun k o => match o with
  | none => .int (h a k)
  | some d => .ref (ad G (a + d))
def cellE (G : Gt) (h : Hp) (a : Nat) (s : Nat ⊕ (Nat × Nat × Nat)) : va_E := match s with
  | .inl ci => .inr (ci, cellF G h a (flds ci))
  | .inr (k, n, b) => .inl (G.2.2.2 k, n, if k ≤ 1 then .inl (h a) else .inr (.inr (.inr (.inr (fun i => some (ad G (b + 2 * i)))))))
def cellOf (G : Gt) (h : Hp) (a : Nat) : va_E := cellE G h a (shp a)
def world (G : Gt) (h : Hp) : va_W := (List.range NC).map fun a => (ad G a, cellOf G h a)
def tysOf (G : Gt) : List (ClassId × FieldType) := [(G.2.2.2 0, .int), (G.2.2.2 1, .boolean), (G.2.2.2 2, .object "SpiderLoom$Spider"), (G.2.2.2 3, .object "SpiderLoom$Sheet")]
def hset (h : Hp) (a k : Nat) (v : Int32) : Hp := fun b => if b = a then upd (h a) k v else h b
def hcpy (h : Hp) (a b sp dp n : Nat) : Hp := fun c => if c = b then va_cpy (h a) (h b) sp dp n else h c
def wInj (G : Gt) : Prop := ∀ a b, a < NC → b < NC → ad G a = ad G b → a = b
def Aw (G : Gt) : Nat → Prop := fun q => ∃ a, a < NC ∧ q = ad G a
theorem world_at {G : Gt} {h : Hp} {a : Nat} (ha : a < NC) : (world G h)[a]? = some (ad G a, cellOf G h a) := by
  simp [world, ha]
theorem world_set {G : Gt} {h h' : Hp} {a : Nat} (ha : a < NC) (hh : ∀ b, b ≠ a → h' b = h b) : (world G h).set a (ad G a, cellOf G h' a) = world G h' := by
  apply List.ext_getElem?
  intro b
  by_cases hb : b = a
  · subst hb
    rw [List.getElem?_set_self (by simp [world, ha]), world_at ha]
  · rw [List.getElem?_set_ne (Ne.symm hb)]
    by_cases hn : b < NC
    · rw [world_at hn, world_at hn]
      have e : h' b = h b := hh b hb
      have : cellOf G h' b = cellOf G h b := by
        unfold cellOf cellE
        cases shp b with
        | inl ci => simp only [cellF, e]
        | inr q => simp only [e]
      rw [this]
    · rw [List.getElem?_eq_none (by simp [world]; omega), List.getElem?_eq_none (by simp [world]; omega)]
theorem world_D {G : Gt} {h : Hp} (hi : wInj G) : va_D (Aw G) (world G h) := by
  have key : ∀ (k : Nat) (q : Nat × va_E), (world G h)[k]? = some q → k < NC ∧ q.1 = ad G k := by
    intro k q hk
    have hl : k < (world G h).length := (List.getElem?_eq_some_iff.mp hk).1
    have hn : k < NC := by simpa [world] using hl
    rw [world_at hn] at hk
    cases hk
    exact ⟨hn, rfl⟩
  refine ⟨fun i j p q h1 h2 e => ?_, fun k q hk => ?_⟩
  · obtain ⟨a1, a2⟩ := key i p h1
    obtain ⟨b1, b2⟩ := key j q h2
    exact hi i j a1 b1 (a2.symm.trans (e.trans b2))
  · obtain ⟨a1, a2⟩ := key k q hk
    exact ⟨k, a1, a2⟩
theorem cell_O {G : Gt} {h : Hp} {ci a : Nat} (hO : isO ci a) : (world G h)[a]? = some (ad G a, .inr (ci, cellF G h a (flds ci))) := by
  rw [world_at hO.1, cellOf, hO.2]; rfl
theorem cell_A {G : Gt} {h : Hp} {k n b a : Nat} (hA : isA k n b a) (hk : k ≤ 1) : (world G h)[a]? = some (ad G a, .inl (G.2.2.2 k, n, .inl (h a))) := by
  rw [world_at hA.1, cellOf, hA.2]; simp [cellE, hk]
theorem cell_R {G : Gt} {h : Hp} {k n b a : Nat} (hA : isA k n b a) (hk : ¬ k ≤ 1) : (world G h)[a]? = some (ad G a, .inl (G.2.2.2 k, n, .inr (.inr (.inr (.inr (fun i => some (ad G (b + 2 * i)))))))) := by
  rw [world_at hA.1, cellOf, hA.2]; simp [cellE, hk]
theorem cellF_i {G : Gt} {h : Hp} {a k : Nat} {fl : List (Option Nat)} (hk : fl[k]? = some none) : (cellF G h a fl)[k]? = some (.int (h a k)) := by
  simp [cellF, List.getElem?_mapIdx, hk]
theorem cellF_r {G : Gt} {h : Hp} {a k d : Nat} {fl : List (Option Nat)} (hk : fl[k]? = some (some d)) : (cellF G h a fl)[k]? = some (.ref (ad G (a + d))) := by
  simp [cellF, List.getElem?_mapIdx, hk]
theorem cellF_set {G : Gt} {h : Hp} {a k : Nat} {v : Int32} {fl : List (Option Nat)} (hk : fl[k]? = some none) : (cellF G h a fl).set k (.int v) = cellF G (hset h a k v) a fl := by
  apply List.ext_getElem?
  intro j
  by_cases hj : j = k
  · subst hj
    rw [List.getElem?_set_self (by have := (List.getElem?_eq_some_iff.mp (cellF_i (G := G) (h := h) (a := a) hk)).1; exact this)]
    rw [cellF_i hk]
    simp [hset, upd]
  · rw [List.getElem?_set_ne (Ne.symm hj)]
    simp only [cellF, List.getElem?_mapIdx]
    cases fl[j]? with
    | none => rfl
    | some o =>
      cases o with
      | none => simp [hset, upd, hj]
      | some d => rfl
theorem hset_off {h : Hp} {a k : Nat} {v : Int32} {b : Nat} (hb : b ≠ a) : hset h a k v b = h b := by simp [hset, hb]
theorem set_O {G : Gt} {h : Hp} {ci a k : Nat} {v : Int32} (hO : isO ci a) (hk : (flds ci)[k]? = some none) : (world G h).set a (ad G a, .inr (ci, (cellF G h a (flds ci)).set k (.int v))) = world G (hset h a k v) := by
  rw [cellF_set hk]
  have := world_set (G := G) (h := h) (h' := hset h a k v) hO.1 (fun b hb => hset_off hb)
  rw [← this, cellOf, hO.2]; rfl
theorem set_A {G : Gt} {h : Hp} {kd n b a k : Nat} {v : Int32} (hA : isA kd n b a) (hkd : kd ≤ 1) : (world G h).set a (ad G a, .inl (G.2.2.2 kd, n, .inl (upd (h a) k v))) = world G (hset h a k v) := by
  have := world_set (G := G) (h := h) (h' := hset h a k v) hA.1 (fun b hb => hset_off hb)
  rw [← this, cellOf, hA.2]; simp [cellE, hkd, hset]
theorem set_C {G : Gt} {h : Hp} {kd n b a a0 sp dp nn : Nat} (hA : isA kd n b a) (hkd : kd ≤ 1) : (world G h).set a (ad G a, .inl (G.2.2.2 kd, n, .inl (va_cpy (h a0) (h a) sp dp nn))) = world G (hcpy h a0 a sp dp nn) := by
  have := world_set (G := G) (h := h) (h' := hcpy h a0 a sp dp nn) hA.1 (fun b hb => by simp [hcpy, hb])
  rw [← this, cellOf, hA.2]; simp [cellE, hkd, hcpy]
def KK (G : Gt) (U : State) : Prop := va_K G.2.2.1 classes (tysOf G) U ∧ ∀ w ∈ nestW, va_Nw w U
theorem KK.warm {G : Gt} {s U : State} (hW : s.WarmedH U.vm) (h : KK G s) : KK G U := ⟨va_K.moved hW.alike h.1, nest_warm hW h.2⟩
theorem KK.same {G : Gt} {s U : State} (hv : s.vm = U.vm) (h : KK G s) : KK G U := ⟨va_K.moved (by rw [← hv]; exact Vm.Alike.refl s.vm) h.1, nest_same hv h.2⟩
def wsOf (μ : Mt) : List Cond := .code μ.1 μ.2.1 μ.2.2.1 μ.2.2.2.1 :: lwg
def rmOf (μ : Mt) : Room := { frames := μ.2.2.2.2.1, cells := 0, slots := 0, locals := μ.2.2.2.2.2 }
def Qc {ρ : Type} (G : Gt) (κ : ρ → Option Value) (r : ρ) (h : Hp) : Array Value → State → Outcome → State → Prop := fun _ st oc t => oc = .returned (κ r) ∧ va_P G.2.2.1 classes (world G h) t.heap ∧ va_F (Aw G) st t
def WH (G : Gt) (h : Hp) (U : State) : Prop := va_P G.2.2.1 classes (world G h) U.heap ∧ KK G U ∧ wInj G
def Cx (μ : Mt) (p : Program) (s : State) (m : MethodId) (args : Array Value) (meth : Method) (c : Code) : Prop :=
  p.tables.exec = Jvm.exec ∧ c.code = μ.2.1 ∧ meth.sig.returnType = μ.2.2.2.1 ∧ c.maxLocals = μ.2.2.1 ∧ s.vm.findClass μ.1.cls = some m.cls ∧ (∀ w ∈ wsOf μ, w.before args s = true) ∧ meth.locks = false
/-- where o is some (r, h'), the method, from pc on, returns κ r with the world h' -/
def V {ρ : Type} (G : Gt) (μ : Mt) (pc : Nat) (ls : List (Nat × Value)) (st : List Value) (h : Hp) (κ : ρ → Option Value) (o : Option (ρ × Hp)) : Prop :=
  ∀ (r : ρ) (h' : Hp), o = some (r, h') → ∀ (p : Program) (e : Env) (s : State) (m : MethodId) (args : Array Value) (below : List Frame) (meth : Method) (c : Code) (H : Heap) (locs : List Loc) (lsA : Array Slot),
    Cx μ p s m args meth c → KK G s → wInj G → va_P G.2.2.1 classes (world G h) H → va_S (Aw G) s.heap H locs → lv_has lsA μ.2.2.1 ls →
    W p G.1 e (rmOf μ) s m args below meth c H locs 0 0 (MQ below (Qc G κ r h') args s 0 0 (Aw G)) (F0 m pc lsA st)
def Cn {ρ : Type} (G : Gt) (μ : Mt) (av : List Value) (h : Hp) (κ : ρ → Option Value) (o : Option (ρ × Hp)) : Prop :=
  ∀ (r : ρ) (h' : Hp), o = some (r, h') → Met G.1 μ.1 (wsOf μ) (rmOf μ) (va_Pc av (WH G h)) (Qc G κ r h') 0 0 (Aw G)
def κi : Int32 → Option Value := fun r => some (.int r)
def κl : Int64 → Option Value := fun r => some (.long r)
def κv : Unit → Option Value := fun _ => none
def κr (G : Gt) : Nat → Option Value := fun a => some (.ref (ad G a))
def inb (i : Int32) (n : Nat) : Bool := !decide (i < 0) && decide (i.toNatClampNeg < n)
abbrev ix (i : Int32) : Nat := i.toNatClampNeg
/-- the index is looked at -/
def chk {α : Type} (n : Nat) (i : Int32) (o : Option α) : Option α := if inb i n = true then o else none
def bnd {ρ σ : Type} (o : Option (ρ × Hp)) (f : ρ → Hp → Option σ) : Option σ := match o with
  | none => none
  | some q => f q.1 q.2
/-- a boolean answer -/
def zret (v : Int32) (h : Hp) : Option (Int32 × Hp) := if v = 0 then some (0, h) else if v = 1 then some (1, h) else none
def FUEL : Nat := 5000
theorem inb_in {i : Int32} {n : Nat} (h : inb i n = true) : vp_in i n := by
  simp [inb] at h
  rintro (q | q)
  · exact absurd q (Int32.not_lt.mpr h.1)
  · omega
theorem chk_some {α : Type} {n : Nat} {i : Int32} {o : Option α} {q : α} (h : chk n i o = some q) : inb i n = true ∧ o = some q := by
  unfold chk at h
  split at h
  · exact ⟨by assumption, h⟩
  · cases h
theorem Cx.call {μ μz : Mt} {p : Program} {s : State} {m : MethodId} {args : Array Value} {meth : Method} {c : Code} (C : Cx μ p s m args meth c) (hc : Cond.code μz.1 μz.2.1 μz.2.2.1 μz.2.2.2.1 ∈ lwg) : GoodIn (wsOf μ) (wsOf μz) := by
  intro w hw
  have h1 : w ∈ lwg := by
    rcases List.mem_cons.mp hw with e | e
    · rw [e]; exact hc
    · exact e
  exact ⟨List.mem_cons_of_mem _ h1, good_of_word (lwg_good h1)⟩
theorem Cx.word {μ : Mt} {p : Program} {s : State} {m : MethodId} {args : Array Value} {meth : Method} {c : Code} (C : Cx μ p s m args meth c) {w : Cond} (hw : w ∈ lwg) : w.before args s = true := C.2.2.2.2.2.1 w (List.mem_cons_of_mem _ hw)
/-- a method's words in the tables, its descriptor: what a call needs -/
def CallOK (cls : String) (idx : Nat) (μz : Mt) (n : Nat) : Prop :=
  Cond.code μz.1 μz.2.1 μz.2.2.1 μz.2.2.2.1 ∈ lwg ∧ Cond.initialized μz.1.cls ∈ lwg ∧ Cond.methodLink cls idx μz.1 ∈ lwg ∧ (μz.1.cls ≠ "java/lang/invoke/MethodHandle" ∧ μz.1.cls ≠ "java/lang/invoke/VarHandle" ∧ (parseMethodDescriptor μz.1.desc).map (fun d => d.parameters.length) = some n)
def InstOK (μz : Mt) (ci : Nat) : Prop := Cond.instanceMethod μz.1 ∈ lwg ∧ Cond.selects μz.1.cls μz.1 μz.1 ∈ lwg ∧ ∃ q, classes[ci]? = some q ∧ q.1 = μz.1.cls
def StatOK (μz : Mt) : Prop := Cond.static μz.1 ∈ lwg
def RoomOK (μ μz : Mt) : Prop := μz.2.2.2.2.1 + 1 ≤ μ.2.2.2.2.1 ∧ 8 + (μz.2.2.1 + 11) + μz.2.2.2.2.2 ≤ μ.2.2.2.2.2
theorem WH.blind {G : Gt} {h : Hp} {av : List Value} : FrameBlind (va_Pc av (WH G h)) := by
  intro a U g mk q
  obtain ⟨q0, qP, qK, qI⟩ := q
  exact ⟨q0, qP, KK.same (s := U) (U := U.calling g mk a) rfl qK, qI⟩
theorem entryV {ρ : Type} {G : Gt} {μ : Mt} {av : List Value} {ls : List (Nat × Value)} {h : Hp} {κ : ρ → Option Value} {o : Option (ρ × Hp)} (hy : plainName μ.1.cls = true) (hn : (lg_sl av).length ≤ μ.2.2.1) (hl : lv_args 0 av = ls) (k : V G μ 0 ls [] h κ o) : Cn G μ av h κ o := by
  intro r h' ho
  refine Met.ofW (cc := μ.2.1) (maxL := μ.2.2.1) (ret := μ.2.2.2.1) hy rfl ?_
  intro p e s m args below meth c s₁ B hml hv
  obtain ⟨rfl, hP, hK, hI⟩ := hv
  have hts := atoms_spec (ws := wsOf μ) B.pre
  have hown : s.vm.findClass μ.1.cls = some m.cls := findClass_of_methodNamed B.named
  have hl0 := lv_entry av (n := μ.2.2.1) hn
  rw [lg_entry_eq]
  rw [hl] at hl0
  exact k r h' ho p e s m _ below meth c s.heap [] _ ⟨B.exec, B.bytes, B.returns, hml, hown, hts, B.notSynchronized⟩ hK hI hP va_S.rf hl0
section VR
variable {ρ : Type} {G : Gt} {μ : Mt} {pc : Nat} {ls : List (Nat × Value)} {st : List Value} {h : Hp} {κ : ρ → Option Value} {o : Option (ρ × Hp)}
theorem v_sub (ks : List Nat) {ls' : List (Nat × Value)} (hl : lv_pick ls' ks = ls) (k : V G μ pc ls st h κ o) : V G μ pc ls' st h κ o := by
  intro r h' ho p e s m args below meth c H locs lsA C hK hI hP hS hL
  exact k r h' ho p e s m args below meth c H locs lsA C hK hI hP hS (lv_sub hL ks hl)
theorem v_iconst {n : Int} (v : Int32) (hdg : decode μ.2.1 pc = .ok (.iconst n, 1)) (hv : Int32.ofInt n = v) (k : V G μ (pc + 1) ls (.int v :: st) h κ o) : V G μ pc ls st h κ o := by
  intro r h' ho p e s m args below meth c H locs lsA C hK hI hP hS hL
  exact lv_iconst C.1 C.2.1 hdg hv (k r h' ho p e s m args below meth c H locs lsA C hK hI hP hS hL)
theorem v_bipush {n : Int} (v : Int32) (hdg : decode μ.2.1 pc = .ok (.bipush n, 2)) (hv : (Int8.ofInt n).toInt32 = v) (k : V G μ (pc + 2) ls (.int v :: st) h κ o) : V G μ pc ls st h κ o := by
  intro r h' ho p e s m args below meth c H locs lsA C hK hI hP hS hL
  exact lv_bipush C.1 C.2.1 hdg hv (k r h' ho p e s m args below meth c H locs lsA C hK hI hP hS hL)
theorem v_sipush {n : Int} (v : Int32) (hdg : decode μ.2.1 pc = .ok (.sipush n, 3)) (hv : (Int16.ofInt n).toInt32 = v) (k : V G μ (pc + 3) ls (.int v :: st) h κ o) : V G μ pc ls st h κ o := by
  intro r h' ho p e s m args below meth c H locs lsA C hK hI hP hS hL
  exact lv_sipush C.1 C.2.1 hdg hv (k r h' ho p e s m args below meth c H locs lsA C hK hI hP hS hL)
theorem v_ldc {i : Nat} {v : Int32} (hw : Cond.constant μ.1.cls i v ∈ lwg) (hdg : decode μ.2.1 pc = .ok (.ldc i, 2)) (k : V G μ (pc + 2) ls (.int v :: st) h κ o) : V G μ pc ls st h κ o := by
  intro r h' ho p e s m args below meth c H locs lsA C hK hI hP hS hL
  exact lv_ldc C.1 C.2.1 C.2.2.2.2.1 (C.word hw) hdg (k r h' ho p e s m args below meth c H locs lsA C hK hI hP hS hL)
theorem v_ldcw {i : Nat} {v : Int32} (hw : Cond.constant μ.1.cls i v ∈ lwg) (hdg : decode μ.2.1 pc = .ok (.ldc_w i, 3)) (k : V G μ (pc + 3) ls (.int v :: st) h κ o) : V G μ pc ls st h κ o := by
  intro r h' ho p e s m args below meth c H locs lsA C hK hI hP hS hL
  exact lv_ldcw C.1 C.2.1 C.2.2.2.2.1 (C.word hw) hdg (k r h' ho p e s m args below meth c H locs lsA C hK hI hP hS hL)
theorem v_ldc2 {i : Nat} {v : Int64} (hw : Cond.constantLong μ.1.cls i v ∈ lwg) (hdg : decode μ.2.1 pc = .ok (.ldc2_w i, 3)) (k : V G μ (pc + 3) ls (.long v :: st) h κ o) : V G μ pc ls st h κ o := by
  intro r h' ho p e s m args below meth c H locs lsA C hK hI hP hS hL
  exact lv_ldc2 C.1 C.2.1 C.2.2.2.2.1 (C.word hw) hdg (k r h' ho p e s m args below meth c H locs lsA C hK hI hP hS hL)
theorem v_iload_n {f : Fin 4} {i : Nat} {x : Int32} (j : Nat) (hdg : decode μ.2.1 pc = .ok (.iload_n f, 1)) (hi : (f : Nat) = i) (hl : ls[j]? = some (i, .int x)) (k : V G μ (pc + 1) ls (.int x :: st) h κ o) : V G μ pc ls st h κ o := by
  intro r h' ho p e s m args below meth c H locs lsA C hK hI hP hS hL
  exact lv_iload_n C.1 C.2.1 hdg hi (lv_at hL j hl) (k r h' ho p e s m args below meth c H locs lsA C hK hI hP hS hL)
theorem v_iload {i : Nat} {x : Int32} (j : Nat) (hdg : decode μ.2.1 pc = .ok (.iload i, 2)) (hl : ls[j]? = some (i, .int x)) (k : V G μ (pc + 2) ls (.int x :: st) h κ o) : V G μ pc ls st h κ o := by
  intro r h' ho p e s m args below meth c H locs lsA C hK hI hP hS hL
  exact lv_iload C.1 C.2.1 hdg (lv_at hL j hl) (k r h' ho p e s m args below meth c H locs lsA C hK hI hP hS hL)
theorem v_lload_n {f : Fin 4} {i : Nat} {x : Int64} (j : Nat) (hdg : decode μ.2.1 pc = .ok (.lload_n f, 1)) (hi : (f : Nat) = i) (hl : ls[j]? = some (i, .long x)) (k : V G μ (pc + 1) ls (.long x :: st) h κ o) : V G μ pc ls st h κ o := by
  intro r h' ho p e s m args below meth c H locs lsA C hK hI hP hS hL
  exact lv_lload_n C.1 C.2.1 hdg hi (lv_at hL j hl) (k r h' ho p e s m args below meth c H locs lsA C hK hI hP hS hL)
theorem v_lload {i : Nat} {x : Int64} (j : Nat) (hdg : decode μ.2.1 pc = .ok (.lload i, 2)) (hl : ls[j]? = some (i, .long x)) (k : V G μ (pc + 2) ls (.long x :: st) h κ o) : V G μ pc ls st h κ o := by
  intro r h' ho p e s m args below meth c H locs lsA C hK hI hP hS hL
  exact lv_lload C.1 C.2.1 hdg (lv_at hL j hl) (k r h' ho p e s m args below meth c H locs lsA C hK hI hP hS hL)
theorem v_aload_n {f : Fin 4} {i : Nat} {x : Nat} (j : Nat) (hdg : decode μ.2.1 pc = .ok (.aload_n f, 1)) (hi : (f : Nat) = i) (hl : ls[j]? = some (i, .ref x)) (k : V G μ (pc + 1) ls (.ref x :: st) h κ o) : V G μ pc ls st h κ o := by
  intro r h' ho p e s m args below meth c H locs lsA C hK hI hP hS hL
  exact lv_aload_n C.1 C.2.1 hdg hi (lv_at hL j hl) (k r h' ho p e s m args below meth c H locs lsA C hK hI hP hS hL)
theorem v_aload {i : Nat} {x : Nat} (j : Nat) (hdg : decode μ.2.1 pc = .ok (.aload i, 2)) (hl : ls[j]? = some (i, .ref x)) (k : V G μ (pc + 2) ls (.ref x :: st) h κ o) : V G μ pc ls st h κ o := by
  intro r h' ho p e s m args below meth c H locs lsA C hK hI hP hS hL
  exact lv_aload C.1 C.2.1 hdg (lv_at hL j hl) (k r h' ho p e s m args below meth c H locs lsA C hK hI hP hS hL)
theorem v_istore_n {f : Fin 4} {i : Nat} {x : Int32} (ls' : List (Nat × Value)) (hdg : decode μ.2.1 pc = .ok (.istore_n f, 1)) (hi : (f : Nat) = i) (hn : i < μ.2.2.1) (hl : (i, Value.int x) :: ls.filter (fun q => !(q.1 == i) && !(q.1 + 1 == i && q.2.category == 2)) = ls') (k : V G μ (pc + 1) ls' st h κ o) : V G μ pc ls (.int x :: st) h κ o := by
  intro r h' ho p e s m args below meth c H locs lsA C hK hI hP hS hL
  exact lv_istore_n C.1 C.2.1 hdg hi hL hn hl (fun lsB hB => k r h' ho p e s m args below meth c H locs lsB C hK hI hP hS hB)
theorem v_istore {i : Nat} {x : Int32} (ls' : List (Nat × Value)) (hdg : decode μ.2.1 pc = .ok (.istore i, 2)) (hn : i < μ.2.2.1) (hl : (i, Value.int x) :: ls.filter (fun q => !(q.1 == i) && !(q.1 + 1 == i && q.2.category == 2)) = ls') (k : V G μ (pc + 2) ls' st h κ o) : V G μ pc ls (.int x :: st) h κ o := by
  intro r h' ho p e s m args below meth c H locs lsA C hK hI hP hS hL
  exact lv_istore C.1 C.2.1 hdg hL hn hl (fun lsB hB => k r h' ho p e s m args below meth c H locs lsB C hK hI hP hS hB)
theorem v_lstore_n {f : Fin 4} {i : Nat} {x : Int64} (ls' : List (Nat × Value)) (hdg : decode μ.2.1 pc = .ok (.lstore_n f, 1)) (hi : (f : Nat) = i) (hn : i + 1 < μ.2.2.1) (hl : (i, Value.long x) :: ls.filter (fun q => !(q.1 == i) && (!(q.1 == i + 1) && !(q.1 + 1 == i && q.2.category == 2))) = ls') (k : V G μ (pc + 1) ls' st h κ o) : V G μ pc ls (.long x :: st) h κ o := by
  intro r h' ho p e s m args below meth c H locs lsA C hK hI hP hS hL
  exact lv_lstore_n C.1 C.2.1 hdg hi hL hn hl (fun lsB hB => k r h' ho p e s m args below meth c H locs lsB C hK hI hP hS hB)
theorem v_lstore {i : Nat} {x : Int64} (ls' : List (Nat × Value)) (hdg : decode μ.2.1 pc = .ok (.lstore i, 2)) (hn : i + 1 < μ.2.2.1) (hl : (i, Value.long x) :: ls.filter (fun q => !(q.1 == i) && (!(q.1 == i + 1) && !(q.1 + 1 == i && q.2.category == 2))) = ls') (k : V G μ (pc + 2) ls' st h κ o) : V G μ pc ls (.long x :: st) h κ o := by
  intro r h' ho p e s m args below meth c H locs lsA C hK hI hP hS hL
  exact lv_lstore C.1 C.2.1 hdg hL hn hl (fun lsB hB => k r h' ho p e s m args below meth c H locs lsB C hK hI hP hS hB)
theorem v_astore_n {f : Fin 4} {i : Nat} {x : Nat} (ls' : List (Nat × Value)) (hdg : decode μ.2.1 pc = .ok (.astore_n f, 1)) (hi : (f : Nat) = i) (hn : i < μ.2.2.1) (hl : (i, Value.ref x) :: ls.filter (fun q => !(q.1 == i) && !(q.1 + 1 == i && q.2.category == 2)) = ls') (k : V G μ (pc + 1) ls' st h κ o) : V G μ pc ls (.ref x :: st) h κ o := by
  intro r h' ho p e s m args below meth c H locs lsA C hK hI hP hS hL
  exact lv_astore_n C.1 C.2.1 hdg hi hL hn hl (fun lsB hB => k r h' ho p e s m args below meth c H locs lsB C hK hI hP hS hB)
theorem v_astore {i : Nat} {x : Nat} (ls' : List (Nat × Value)) (hdg : decode μ.2.1 pc = .ok (.astore i, 2)) (hn : i < μ.2.2.1) (hl : (i, Value.ref x) :: ls.filter (fun q => !(q.1 == i) && !(q.1 + 1 == i && q.2.category == 2)) = ls') (k : V G μ (pc + 2) ls' st h κ o) : V G μ pc ls (.ref x :: st) h κ o := by
  intro r h' ho p e s m args below meth c H locs lsA C hK hI hP hS hL
  exact lv_astore C.1 C.2.1 hdg hL hn hl (fun lsB hB => k r h' ho p e s m args below meth c H locs lsB C hK hI hP hS hB)
theorem v_iinc {i : Nat} {n : Int} {x : Int32} (v : Int32) (j : Nat) (ls' : List (Nat × Value)) (hdg : decode μ.2.1 pc = .ok (.iinc i n, 3)) (hj : ls[j]? = some (i, .int x)) (hv : x + Int32.ofInt n = v) (hn : i < μ.2.2.1) (hl : (i, Value.int v) :: ls.filter (fun q => !(q.1 == i) && !(q.1 + 1 == i && q.2.category == 2)) = ls') (k : V G μ (pc + 3) ls' st h κ o) : V G μ pc ls st h κ o := by
  intro r h' ho p e s m args below meth c H locs lsA C hK hI hP hS hL
  exact lv_iinc C.1 C.2.1 hdg hL hj hv hn hl (fun lsB hB => k r h' ho p e s m args below meth c H locs lsB C hK hI hP hS hB)
theorem v_iadd {x y : Int32} (hdg : decode μ.2.1 pc = .ok (.iadd, 1)) (k : V G μ (pc + 1) ls (.int (x + y) :: st) h κ o) : V G μ pc ls (.int y :: .int x :: st) h κ o := by
  intro r h' ho p e s m args below meth c H locs lsA C hK hI hP hS hL
  exact lv_iadd C.1 C.2.1 hdg (k r h' ho p e s m args below meth c H locs lsA C hK hI hP hS hL)
theorem v_isub {x y : Int32} (hdg : decode μ.2.1 pc = .ok (.isub, 1)) (k : V G μ (pc + 1) ls (.int (x - y) :: st) h κ o) : V G μ pc ls (.int y :: .int x :: st) h κ o := by
  intro r h' ho p e s m args below meth c H locs lsA C hK hI hP hS hL
  exact lv_isub C.1 C.2.1 hdg (k r h' ho p e s m args below meth c H locs lsA C hK hI hP hS hL)
theorem v_imul {x y : Int32} (hdg : decode μ.2.1 pc = .ok (.imul, 1)) (k : V G μ (pc + 1) ls (.int (x * y) :: st) h κ o) : V G μ pc ls (.int y :: .int x :: st) h κ o := by
  intro r h' ho p e s m args below meth c H locs lsA C hK hI hP hS hL
  exact lv_imul C.1 C.2.1 hdg (k r h' ho p e s m args below meth c H locs lsA C hK hI hP hS hL)
theorem v_iand {x y : Int32} (hdg : decode μ.2.1 pc = .ok (.iand, 1)) (k : V G μ (pc + 1) ls (.int (x &&& y) :: st) h κ o) : V G μ pc ls (.int y :: .int x :: st) h κ o := by
  intro r h' ho p e s m args below meth c H locs lsA C hK hI hP hS hL
  exact lv_iand C.1 C.2.1 hdg (k r h' ho p e s m args below meth c H locs lsA C hK hI hP hS hL)
theorem v_ior {x y : Int32} (hdg : decode μ.2.1 pc = .ok (.ior, 1)) (k : V G μ (pc + 1) ls (.int (x ||| y) :: st) h κ o) : V G μ pc ls (.int y :: .int x :: st) h κ o := by
  intro r h' ho p e s m args below meth c H locs lsA C hK hI hP hS hL
  exact lv_ior C.1 C.2.1 hdg (k r h' ho p e s m args below meth c H locs lsA C hK hI hP hS hL)
theorem v_ixor {x y : Int32} (hdg : decode μ.2.1 pc = .ok (.ixor, 1)) (k : V G μ (pc + 1) ls (.int (x ^^^ y) :: st) h κ o) : V G μ pc ls (.int y :: .int x :: st) h κ o := by
  intro r h' ho p e s m args below meth c H locs lsA C hK hI hP hS hL
  exact lv_ixor C.1 C.2.1 hdg (k r h' ho p e s m args below meth c H locs lsA C hK hI hP hS hL)
theorem v_ishl {x y : Int32} (hdg : decode μ.2.1 pc = .ok (.ishl, 1)) (k : V G μ (pc + 1) ls (.int (x <<< (y &&& 31)) :: st) h κ o) : V G μ pc ls (.int y :: .int x :: st) h κ o := by
  intro r h' ho p e s m args below meth c H locs lsA C hK hI hP hS hL
  exact lv_ishl C.1 C.2.1 hdg (k r h' ho p e s m args below meth c H locs lsA C hK hI hP hS hL)
theorem v_ishr {x y : Int32} (hdg : decode μ.2.1 pc = .ok (.ishr, 1)) (k : V G μ (pc + 1) ls (.int (x >>> (y &&& 31)) :: st) h κ o) : V G μ pc ls (.int y :: .int x :: st) h κ o := by
  intro r h' ho p e s m args below meth c H locs lsA C hK hI hP hS hL
  exact lv_ishr C.1 C.2.1 hdg (k r h' ho p e s m args below meth c H locs lsA C hK hI hP hS hL)
theorem v_ladd {x y : Int64} (hdg : decode μ.2.1 pc = .ok (.ladd, 1)) (k : V G μ (pc + 1) ls (.long (x + y) :: st) h κ o) : V G μ pc ls (.long y :: .long x :: st) h κ o := by
  intro r h' ho p e s m args below meth c H locs lsA C hK hI hP hS hL
  exact lv_ladd C.1 C.2.1 hdg (k r h' ho p e s m args below meth c H locs lsA C hK hI hP hS hL)
theorem v_lmul {x y : Int64} (hdg : decode μ.2.1 pc = .ok (.lmul, 1)) (k : V G μ (pc + 1) ls (.long (x * y) :: st) h κ o) : V G μ pc ls (.long y :: .long x :: st) h κ o := by
  intro r h' ho p e s m args below meth c H locs lsA C hK hI hP hS hL
  exact lv_lmul C.1 C.2.1 hdg (k r h' ho p e s m args below meth c H locs lsA C hK hI hP hS hL)
theorem v_irem {x y : Int32} (hne : ¬ y = 0) (hdg : decode μ.2.1 pc = .ok (.irem, 1)) (k : V G μ (pc + 1) ls (.int (x - x / y * y) :: st) h κ o) : V G μ pc ls (.int y :: .int x :: st) h κ o := by
  intro r h' ho p e s m args below meth c H locs lsA C hK hI hP hS hL
  exact lv_irem C.1 C.2.1 hdg hne (k r h' ho p e s m args below meth c H locs lsA C hK hI hP hS hL)
theorem v_iushr {x y : Int32} (hdg : decode μ.2.1 pc = .ok (.iushr, 1)) (k : V G μ (pc + 1) ls (.int ((x.toUInt32 >>> (y.toUInt32 &&& Int32.toUInt32 31)).toInt32) :: st) h κ o) : V G μ pc ls (.int y :: .int x :: st) h κ o := by
  intro r h' ho p e s m args below meth c H locs lsA C hK hI hP hS hL
  exact lv_iushr C.1 C.2.1 hdg rfl (k r h' ho p e s m args below meth c H locs lsA C hK hI hP hS hL)
theorem v_ineg {x : Int32} (hdg : decode μ.2.1 pc = .ok (.ineg, 1)) (k : V G μ (pc + 1) ls (.int (-x) :: st) h κ o) : V G μ pc ls (.int x :: st) h κ o := by
  intro r h' ho p e s m args below meth c H locs lsA C hK hI hP hS hL
  exact lv_ineg C.1 C.2.1 hdg (k r h' ho p e s m args below meth c H locs lsA C hK hI hP hS hL)
theorem v_i2l {x : Int32} (hdg : decode μ.2.1 pc = .ok (.i2l, 1)) (k : V G μ (pc + 1) ls (.long x.toInt64 :: st) h κ o) : V G μ pc ls (.int x :: st) h κ o := by
  intro r h' ho p e s m args below meth c H locs lsA C hK hI hP hS hL
  exact lv_i2l C.1 C.2.1 hdg rfl (k r h' ho p e s m args below meth c H locs lsA C hK hI hP hS hL)
theorem v_i2b {x : Int32} (hdg : decode μ.2.1 pc = .ok (.i2b, 1)) (k : V G μ (pc + 1) ls (.int x.toInt8.toInt32 :: st) h κ o) : V G μ pc ls (.int x :: st) h κ o := by
  intro r h' ho p e s m args below meth c H locs lsA C hK hI hP hS hL
  exact lv_i2b C.1 C.2.1 hdg rfl (k r h' ho p e s m args below meth c H locs lsA C hK hI hP hS hL)
theorem v_i2s {x : Int32} (hdg : decode μ.2.1 pc = .ok (.i2s, 1)) (k : V G μ (pc + 1) ls (.int x.toInt16.toInt32 :: st) h κ o) : V G μ pc ls (.int x :: st) h κ o := by
  intro r h' ho p e s m args below meth c H locs lsA C hK hI hP hS hL
  exact lv_i2s C.1 C.2.1 hdg rfl (k r h' ho p e s m args below meth c H locs lsA C hK hI hP hS hL)
theorem v_lcmp {x y : Int64} (hdg : decode μ.2.1 pc = .ok (.lcmp, 1)) (k : V G μ (pc + 1) ls (.int (lg_cmp x y) :: st) h κ o) : V G μ pc ls (.long y :: .long x :: st) h κ o := by
  intro r h' ho p e s m args below meth c H locs lsA C hK hI hP hS hL
  exact W.lcmp C.1 C.2.1 hdg (k r h' ho p e s m args below meth c H locs lsA C hK hI hP hS hL)
theorem v_dup {va : Value} (hdg : decode μ.2.1 pc = .ok (.dup, 1)) (hva : va.category = 1) (k : V G μ (pc + 1) ls (va :: va :: st) h κ o) : V G μ pc ls (va :: st) h κ o := by
  intro r h' ho p e s m args below meth c H locs lsA C hK hI hP hS hL
  exact lv_dup C.1 C.2.1 hdg hva (k r h' ho p e s m args below meth c H locs lsA C hK hI hP hS hL)
theorem v_goto {off : Int} (tgt : Nat) (hdg : decode μ.2.1 pc = .ok (.goto off, 3)) (ht : (pc : Int) + off = (tgt : Int)) (k : V G μ tgt ls st h κ o) : V G μ pc ls st h κ o := by
  intro r h' ho p e s m args below meth c H locs lsA C hK hI hP hS hL
  exact lv_goto C.1 C.2.1 hdg ht (k r h' ho p e s m args below meth c H locs lsA C hK hI hP hS hL)
theorem v_if_eq {x : Int32} {o1 o2 : Option (ρ × Hp)} {off : Int} (tgt : Nat) (hdg : decode μ.2.1 pc = .ok (.ifCond .eq off, 3)) (ht : (pc : Int) + off = (tgt : Int)) (k1 : x = 0 → V G μ tgt ls st h κ o1) (k2 : ¬ (x = 0) → V G μ (pc + 3) ls st h κ o2) : V G μ pc ls (.int x :: st) h κ (if x = 0 then o1 else o2) := by
  intro r h' ho p e s m args below meth c H locs lsA C hK hI hP hS hL
  exact lv_if_eq C.1 C.2.1 hdg ht (fun hc => k1 hc r h' (by rw [if_pos hc] at ho; exact ho) p e s m args below meth c H locs lsA C hK hI hP hS hL) (fun hc => k2 hc r h' (by rw [if_neg hc] at ho; exact ho) p e s m args below meth c H locs lsA C hK hI hP hS hL)
theorem v_if_eq_t {x : Int32} {off : Int} (tgt : Nat) (hdg : decode μ.2.1 pc = .ok (.ifCond .eq off, 3)) (ht : (pc : Int) + off = (tgt : Int)) (hc : x = 0) (k1 : V G μ tgt ls st h κ o) : V G μ pc ls (.int x :: st) h κ o := by
  intro r h' ho p e s m args below meth c H locs lsA C hK hI hP hS hL
  exact lv_if_eq C.1 C.2.1 hdg ht (fun _ => k1 r h' ho p e s m args below meth c H locs lsA C hK hI hP hS hL) (fun q => absurd hc q)
theorem v_if_eq_f {x : Int32} {off : Int} (tgt : Nat) (hdg : decode μ.2.1 pc = .ok (.ifCond .eq off, 3)) (ht : (pc : Int) + off = (tgt : Int)) (hc : ¬ (x = 0)) (k2 : V G μ (pc + 3) ls st h κ o) : V G μ pc ls (.int x :: st) h κ o := by
  intro r h' ho p e s m args below meth c H locs lsA C hK hI hP hS hL
  exact lv_if_eq C.1 C.2.1 hdg ht (fun q => absurd q hc) (fun _ => k2 r h' ho p e s m args below meth c H locs lsA C hK hI hP hS hL)
theorem v_icmp_eq {x y : Int32} {o1 o2 : Option (ρ × Hp)} {off : Int} (tgt : Nat) (hdg : decode μ.2.1 pc = .ok (.if_icmp .eq off, 3)) (ht : (pc : Int) + off = (tgt : Int)) (k1 : x = y → V G μ tgt ls st h κ o1) (k2 : ¬ (x = y) → V G μ (pc + 3) ls st h κ o2) : V G μ pc ls (.int y :: .int x :: st) h κ (if x = y then o1 else o2) := by
  intro r h' ho p e s m args below meth c H locs lsA C hK hI hP hS hL
  exact lv_icmp_eq C.1 C.2.1 hdg ht (fun hc => k1 hc r h' (by rw [if_pos hc] at ho; exact ho) p e s m args below meth c H locs lsA C hK hI hP hS hL) (fun hc => k2 hc r h' (by rw [if_neg hc] at ho; exact ho) p e s m args below meth c H locs lsA C hK hI hP hS hL)
theorem v_icmp_eq_t {x y : Int32} {off : Int} (tgt : Nat) (hdg : decode μ.2.1 pc = .ok (.if_icmp .eq off, 3)) (ht : (pc : Int) + off = (tgt : Int)) (hc : x = y) (k1 : V G μ tgt ls st h κ o) : V G μ pc ls (.int y :: .int x :: st) h κ o := by
  intro r h' ho p e s m args below meth c H locs lsA C hK hI hP hS hL
  exact lv_icmp_eq C.1 C.2.1 hdg ht (fun _ => k1 r h' ho p e s m args below meth c H locs lsA C hK hI hP hS hL) (fun q => absurd hc q)
theorem v_icmp_eq_f {x y : Int32} {off : Int} (tgt : Nat) (hdg : decode μ.2.1 pc = .ok (.if_icmp .eq off, 3)) (ht : (pc : Int) + off = (tgt : Int)) (hc : ¬ (x = y)) (k2 : V G μ (pc + 3) ls st h κ o) : V G μ pc ls (.int y :: .int x :: st) h κ o := by
  intro r h' ho p e s m args below meth c H locs lsA C hK hI hP hS hL
  exact lv_icmp_eq C.1 C.2.1 hdg ht (fun q => absurd q hc) (fun _ => k2 r h' ho p e s m args below meth c H locs lsA C hK hI hP hS hL)
theorem v_if_ne {x : Int32} {o1 o2 : Option (ρ × Hp)} {off : Int} (tgt : Nat) (hdg : decode μ.2.1 pc = .ok (.ifCond .ne off, 3)) (ht : (pc : Int) + off = (tgt : Int)) (k1 : x = 0 → V G μ (pc + 3) ls st h κ o1) (k2 : ¬ (x = 0) → V G μ tgt ls st h κ o2) : V G μ pc ls (.int x :: st) h κ (if x = 0 then o1 else o2) := by
  intro r h' ho p e s m args below meth c H locs lsA C hK hI hP hS hL
  exact lv_if_ne C.1 C.2.1 hdg ht (fun hc => k2 hc r h' (by rw [if_neg hc] at ho; exact ho) p e s m args below meth c H locs lsA C hK hI hP hS hL) (fun hc => k1 hc r h' (by rw [if_pos hc] at ho; exact ho) p e s m args below meth c H locs lsA C hK hI hP hS hL)
theorem v_if_ne_t {x : Int32} {off : Int} (tgt : Nat) (hdg : decode μ.2.1 pc = .ok (.ifCond .ne off, 3)) (ht : (pc : Int) + off = (tgt : Int)) (hc : x = 0) (k1 : V G μ (pc + 3) ls st h κ o) : V G μ pc ls (.int x :: st) h κ o := by
  intro r h' ho p e s m args below meth c H locs lsA C hK hI hP hS hL
  exact lv_if_ne C.1 C.2.1 hdg ht (fun q => absurd hc q) (fun _ => k1 r h' ho p e s m args below meth c H locs lsA C hK hI hP hS hL)
theorem v_if_ne_f {x : Int32} {off : Int} (tgt : Nat) (hdg : decode μ.2.1 pc = .ok (.ifCond .ne off, 3)) (ht : (pc : Int) + off = (tgt : Int)) (hc : ¬ (x = 0)) (k2 : V G μ tgt ls st h κ o) : V G μ pc ls (.int x :: st) h κ o := by
  intro r h' ho p e s m args below meth c H locs lsA C hK hI hP hS hL
  exact lv_if_ne C.1 C.2.1 hdg ht (fun _ => k2 r h' ho p e s m args below meth c H locs lsA C hK hI hP hS hL) (fun q => absurd q hc)
theorem v_icmp_ne {x y : Int32} {o1 o2 : Option (ρ × Hp)} {off : Int} (tgt : Nat) (hdg : decode μ.2.1 pc = .ok (.if_icmp .ne off, 3)) (ht : (pc : Int) + off = (tgt : Int)) (k1 : x = y → V G μ (pc + 3) ls st h κ o1) (k2 : ¬ (x = y) → V G μ tgt ls st h κ o2) : V G μ pc ls (.int y :: .int x :: st) h κ (if x = y then o1 else o2) := by
  intro r h' ho p e s m args below meth c H locs lsA C hK hI hP hS hL
  exact lv_icmp_ne C.1 C.2.1 hdg ht (fun hc => k2 hc r h' (by rw [if_neg hc] at ho; exact ho) p e s m args below meth c H locs lsA C hK hI hP hS hL) (fun hc => k1 hc r h' (by rw [if_pos hc] at ho; exact ho) p e s m args below meth c H locs lsA C hK hI hP hS hL)
theorem v_icmp_ne_t {x y : Int32} {off : Int} (tgt : Nat) (hdg : decode μ.2.1 pc = .ok (.if_icmp .ne off, 3)) (ht : (pc : Int) + off = (tgt : Int)) (hc : x = y) (k1 : V G μ (pc + 3) ls st h κ o) : V G μ pc ls (.int y :: .int x :: st) h κ o := by
  intro r h' ho p e s m args below meth c H locs lsA C hK hI hP hS hL
  exact lv_icmp_ne C.1 C.2.1 hdg ht (fun q => absurd hc q) (fun _ => k1 r h' ho p e s m args below meth c H locs lsA C hK hI hP hS hL)
theorem v_icmp_ne_f {x y : Int32} {off : Int} (tgt : Nat) (hdg : decode μ.2.1 pc = .ok (.if_icmp .ne off, 3)) (ht : (pc : Int) + off = (tgt : Int)) (hc : ¬ (x = y)) (k2 : V G μ tgt ls st h κ o) : V G μ pc ls (.int y :: .int x :: st) h κ o := by
  intro r h' ho p e s m args below meth c H locs lsA C hK hI hP hS hL
  exact lv_icmp_ne C.1 C.2.1 hdg ht (fun _ => k2 r h' ho p e s m args below meth c H locs lsA C hK hI hP hS hL) (fun q => absurd q hc)
theorem v_if_lt {x : Int32} {o1 o2 : Option (ρ × Hp)} {off : Int} (tgt : Nat) (hdg : decode μ.2.1 pc = .ok (.ifCond .lt off, 3)) (ht : (pc : Int) + off = (tgt : Int)) (k1 : x < 0 → V G μ tgt ls st h κ o1) (k2 : ¬ (x < 0) → V G μ (pc + 3) ls st h κ o2) : V G μ pc ls (.int x :: st) h κ (if x < 0 then o1 else o2) := by
  intro r h' ho p e s m args below meth c H locs lsA C hK hI hP hS hL
  exact lv_if_lt C.1 C.2.1 hdg ht (fun hc => k1 hc r h' (by rw [if_pos hc] at ho; exact ho) p e s m args below meth c H locs lsA C hK hI hP hS hL) (fun hc => k2 hc r h' (by rw [if_neg hc] at ho; exact ho) p e s m args below meth c H locs lsA C hK hI hP hS hL)
theorem v_if_lt_t {x : Int32} {off : Int} (tgt : Nat) (hdg : decode μ.2.1 pc = .ok (.ifCond .lt off, 3)) (ht : (pc : Int) + off = (tgt : Int)) (hc : x < 0) (k1 : V G μ tgt ls st h κ o) : V G μ pc ls (.int x :: st) h κ o := by
  intro r h' ho p e s m args below meth c H locs lsA C hK hI hP hS hL
  exact lv_if_lt C.1 C.2.1 hdg ht (fun _ => k1 r h' ho p e s m args below meth c H locs lsA C hK hI hP hS hL) (fun q => absurd hc q)
theorem v_if_lt_f {x : Int32} {off : Int} (tgt : Nat) (hdg : decode μ.2.1 pc = .ok (.ifCond .lt off, 3)) (ht : (pc : Int) + off = (tgt : Int)) (hc : ¬ (x < 0)) (k2 : V G μ (pc + 3) ls st h κ o) : V G μ pc ls (.int x :: st) h κ o := by
  intro r h' ho p e s m args below meth c H locs lsA C hK hI hP hS hL
  exact lv_if_lt C.1 C.2.1 hdg ht (fun q => absurd q hc) (fun _ => k2 r h' ho p e s m args below meth c H locs lsA C hK hI hP hS hL)
theorem v_icmp_lt {x y : Int32} {o1 o2 : Option (ρ × Hp)} {off : Int} (tgt : Nat) (hdg : decode μ.2.1 pc = .ok (.if_icmp .lt off, 3)) (ht : (pc : Int) + off = (tgt : Int)) (k1 : x < y → V G μ tgt ls st h κ o1) (k2 : ¬ (x < y) → V G μ (pc + 3) ls st h κ o2) : V G μ pc ls (.int y :: .int x :: st) h κ (if x < y then o1 else o2) := by
  intro r h' ho p e s m args below meth c H locs lsA C hK hI hP hS hL
  exact lv_icmp_lt C.1 C.2.1 hdg ht (fun hc => k1 hc r h' (by rw [if_pos hc] at ho; exact ho) p e s m args below meth c H locs lsA C hK hI hP hS hL) (fun hc => k2 hc r h' (by rw [if_neg hc] at ho; exact ho) p e s m args below meth c H locs lsA C hK hI hP hS hL)
theorem v_icmp_lt_t {x y : Int32} {off : Int} (tgt : Nat) (hdg : decode μ.2.1 pc = .ok (.if_icmp .lt off, 3)) (ht : (pc : Int) + off = (tgt : Int)) (hc : x < y) (k1 : V G μ tgt ls st h κ o) : V G μ pc ls (.int y :: .int x :: st) h κ o := by
  intro r h' ho p e s m args below meth c H locs lsA C hK hI hP hS hL
  exact lv_icmp_lt C.1 C.2.1 hdg ht (fun _ => k1 r h' ho p e s m args below meth c H locs lsA C hK hI hP hS hL) (fun q => absurd hc q)
theorem v_icmp_lt_f {x y : Int32} {off : Int} (tgt : Nat) (hdg : decode μ.2.1 pc = .ok (.if_icmp .lt off, 3)) (ht : (pc : Int) + off = (tgt : Int)) (hc : ¬ (x < y)) (k2 : V G μ (pc + 3) ls st h κ o) : V G μ pc ls (.int y :: .int x :: st) h κ o := by
  intro r h' ho p e s m args below meth c H locs lsA C hK hI hP hS hL
  exact lv_icmp_lt C.1 C.2.1 hdg ht (fun q => absurd q hc) (fun _ => k2 r h' ho p e s m args below meth c H locs lsA C hK hI hP hS hL)
theorem v_if_ge {x : Int32} {o1 o2 : Option (ρ × Hp)} {off : Int} (tgt : Nat) (hdg : decode μ.2.1 pc = .ok (.ifCond .ge off, 3)) (ht : (pc : Int) + off = (tgt : Int)) (k1 : 0 ≤ x → V G μ tgt ls st h κ o1) (k2 : ¬ (0 ≤ x) → V G μ (pc + 3) ls st h κ o2) : V G μ pc ls (.int x :: st) h κ (if 0 ≤ x then o1 else o2) := by
  intro r h' ho p e s m args below meth c H locs lsA C hK hI hP hS hL
  exact lv_if_ge C.1 C.2.1 hdg ht (fun hc => k1 hc r h' (by rw [if_pos hc] at ho; exact ho) p e s m args below meth c H locs lsA C hK hI hP hS hL) (fun hc => k2 hc r h' (by rw [if_neg hc] at ho; exact ho) p e s m args below meth c H locs lsA C hK hI hP hS hL)
theorem v_if_ge_t {x : Int32} {off : Int} (tgt : Nat) (hdg : decode μ.2.1 pc = .ok (.ifCond .ge off, 3)) (ht : (pc : Int) + off = (tgt : Int)) (hc : 0 ≤ x) (k1 : V G μ tgt ls st h κ o) : V G μ pc ls (.int x :: st) h κ o := by
  intro r h' ho p e s m args below meth c H locs lsA C hK hI hP hS hL
  exact lv_if_ge C.1 C.2.1 hdg ht (fun _ => k1 r h' ho p e s m args below meth c H locs lsA C hK hI hP hS hL) (fun q => absurd hc q)
theorem v_if_ge_f {x : Int32} {off : Int} (tgt : Nat) (hdg : decode μ.2.1 pc = .ok (.ifCond .ge off, 3)) (ht : (pc : Int) + off = (tgt : Int)) (hc : ¬ (0 ≤ x)) (k2 : V G μ (pc + 3) ls st h κ o) : V G μ pc ls (.int x :: st) h κ o := by
  intro r h' ho p e s m args below meth c H locs lsA C hK hI hP hS hL
  exact lv_if_ge C.1 C.2.1 hdg ht (fun q => absurd q hc) (fun _ => k2 r h' ho p e s m args below meth c H locs lsA C hK hI hP hS hL)
theorem v_icmp_ge {x y : Int32} {o1 o2 : Option (ρ × Hp)} {off : Int} (tgt : Nat) (hdg : decode μ.2.1 pc = .ok (.if_icmp .ge off, 3)) (ht : (pc : Int) + off = (tgt : Int)) (k1 : y ≤ x → V G μ tgt ls st h κ o1) (k2 : ¬ (y ≤ x) → V G μ (pc + 3) ls st h κ o2) : V G μ pc ls (.int y :: .int x :: st) h κ (if y ≤ x then o1 else o2) := by
  intro r h' ho p e s m args below meth c H locs lsA C hK hI hP hS hL
  exact lv_icmp_ge C.1 C.2.1 hdg ht (fun hc => k1 hc r h' (by rw [if_pos hc] at ho; exact ho) p e s m args below meth c H locs lsA C hK hI hP hS hL) (fun hc => k2 hc r h' (by rw [if_neg hc] at ho; exact ho) p e s m args below meth c H locs lsA C hK hI hP hS hL)
theorem v_icmp_ge_t {x y : Int32} {off : Int} (tgt : Nat) (hdg : decode μ.2.1 pc = .ok (.if_icmp .ge off, 3)) (ht : (pc : Int) + off = (tgt : Int)) (hc : y ≤ x) (k1 : V G μ tgt ls st h κ o) : V G μ pc ls (.int y :: .int x :: st) h κ o := by
  intro r h' ho p e s m args below meth c H locs lsA C hK hI hP hS hL
  exact lv_icmp_ge C.1 C.2.1 hdg ht (fun _ => k1 r h' ho p e s m args below meth c H locs lsA C hK hI hP hS hL) (fun q => absurd hc q)
theorem v_icmp_ge_f {x y : Int32} {off : Int} (tgt : Nat) (hdg : decode μ.2.1 pc = .ok (.if_icmp .ge off, 3)) (ht : (pc : Int) + off = (tgt : Int)) (hc : ¬ (y ≤ x)) (k2 : V G μ (pc + 3) ls st h κ o) : V G μ pc ls (.int y :: .int x :: st) h κ o := by
  intro r h' ho p e s m args below meth c H locs lsA C hK hI hP hS hL
  exact lv_icmp_ge C.1 C.2.1 hdg ht (fun q => absurd q hc) (fun _ => k2 r h' ho p e s m args below meth c H locs lsA C hK hI hP hS hL)
theorem v_if_gt {x : Int32} {o1 o2 : Option (ρ × Hp)} {off : Int} (tgt : Nat) (hdg : decode μ.2.1 pc = .ok (.ifCond .gt off, 3)) (ht : (pc : Int) + off = (tgt : Int)) (k1 : 0 < x → V G μ tgt ls st h κ o1) (k2 : ¬ (0 < x) → V G μ (pc + 3) ls st h κ o2) : V G μ pc ls (.int x :: st) h κ (if 0 < x then o1 else o2) := by
  intro r h' ho p e s m args below meth c H locs lsA C hK hI hP hS hL
  exact lv_if_gt C.1 C.2.1 hdg ht (fun hc => k1 hc r h' (by rw [if_pos hc] at ho; exact ho) p e s m args below meth c H locs lsA C hK hI hP hS hL) (fun hc => k2 hc r h' (by rw [if_neg hc] at ho; exact ho) p e s m args below meth c H locs lsA C hK hI hP hS hL)
theorem v_if_gt_t {x : Int32} {off : Int} (tgt : Nat) (hdg : decode μ.2.1 pc = .ok (.ifCond .gt off, 3)) (ht : (pc : Int) + off = (tgt : Int)) (hc : 0 < x) (k1 : V G μ tgt ls st h κ o) : V G μ pc ls (.int x :: st) h κ o := by
  intro r h' ho p e s m args below meth c H locs lsA C hK hI hP hS hL
  exact lv_if_gt C.1 C.2.1 hdg ht (fun _ => k1 r h' ho p e s m args below meth c H locs lsA C hK hI hP hS hL) (fun q => absurd hc q)
theorem v_if_gt_f {x : Int32} {off : Int} (tgt : Nat) (hdg : decode μ.2.1 pc = .ok (.ifCond .gt off, 3)) (ht : (pc : Int) + off = (tgt : Int)) (hc : ¬ (0 < x)) (k2 : V G μ (pc + 3) ls st h κ o) : V G μ pc ls (.int x :: st) h κ o := by
  intro r h' ho p e s m args below meth c H locs lsA C hK hI hP hS hL
  exact lv_if_gt C.1 C.2.1 hdg ht (fun q => absurd q hc) (fun _ => k2 r h' ho p e s m args below meth c H locs lsA C hK hI hP hS hL)
theorem v_icmp_gt {x y : Int32} {o1 o2 : Option (ρ × Hp)} {off : Int} (tgt : Nat) (hdg : decode μ.2.1 pc = .ok (.if_icmp .gt off, 3)) (ht : (pc : Int) + off = (tgt : Int)) (k1 : y < x → V G μ tgt ls st h κ o1) (k2 : ¬ (y < x) → V G μ (pc + 3) ls st h κ o2) : V G μ pc ls (.int y :: .int x :: st) h κ (if y < x then o1 else o2) := by
  intro r h' ho p e s m args below meth c H locs lsA C hK hI hP hS hL
  exact lv_icmp_gt C.1 C.2.1 hdg ht (fun hc => k1 hc r h' (by rw [if_pos hc] at ho; exact ho) p e s m args below meth c H locs lsA C hK hI hP hS hL) (fun hc => k2 hc r h' (by rw [if_neg hc] at ho; exact ho) p e s m args below meth c H locs lsA C hK hI hP hS hL)
theorem v_icmp_gt_t {x y : Int32} {off : Int} (tgt : Nat) (hdg : decode μ.2.1 pc = .ok (.if_icmp .gt off, 3)) (ht : (pc : Int) + off = (tgt : Int)) (hc : y < x) (k1 : V G μ tgt ls st h κ o) : V G μ pc ls (.int y :: .int x :: st) h κ o := by
  intro r h' ho p e s m args below meth c H locs lsA C hK hI hP hS hL
  exact lv_icmp_gt C.1 C.2.1 hdg ht (fun _ => k1 r h' ho p e s m args below meth c H locs lsA C hK hI hP hS hL) (fun q => absurd hc q)
theorem v_icmp_gt_f {x y : Int32} {off : Int} (tgt : Nat) (hdg : decode μ.2.1 pc = .ok (.if_icmp .gt off, 3)) (ht : (pc : Int) + off = (tgt : Int)) (hc : ¬ (y < x)) (k2 : V G μ (pc + 3) ls st h κ o) : V G μ pc ls (.int y :: .int x :: st) h κ o := by
  intro r h' ho p e s m args below meth c H locs lsA C hK hI hP hS hL
  exact lv_icmp_gt C.1 C.2.1 hdg ht (fun q => absurd q hc) (fun _ => k2 r h' ho p e s m args below meth c H locs lsA C hK hI hP hS hL)
theorem v_if_le {x : Int32} {o1 o2 : Option (ρ × Hp)} {off : Int} (tgt : Nat) (hdg : decode μ.2.1 pc = .ok (.ifCond .le off, 3)) (ht : (pc : Int) + off = (tgt : Int)) (k1 : x ≤ 0 → V G μ tgt ls st h κ o1) (k2 : ¬ (x ≤ 0) → V G μ (pc + 3) ls st h κ o2) : V G μ pc ls (.int x :: st) h κ (if x ≤ 0 then o1 else o2) := by
  intro r h' ho p e s m args below meth c H locs lsA C hK hI hP hS hL
  exact lv_if_le C.1 C.2.1 hdg ht (fun hc => k1 hc r h' (by rw [if_pos hc] at ho; exact ho) p e s m args below meth c H locs lsA C hK hI hP hS hL) (fun hc => k2 hc r h' (by rw [if_neg hc] at ho; exact ho) p e s m args below meth c H locs lsA C hK hI hP hS hL)
theorem v_if_le_t {x : Int32} {off : Int} (tgt : Nat) (hdg : decode μ.2.1 pc = .ok (.ifCond .le off, 3)) (ht : (pc : Int) + off = (tgt : Int)) (hc : x ≤ 0) (k1 : V G μ tgt ls st h κ o) : V G μ pc ls (.int x :: st) h κ o := by
  intro r h' ho p e s m args below meth c H locs lsA C hK hI hP hS hL
  exact lv_if_le C.1 C.2.1 hdg ht (fun _ => k1 r h' ho p e s m args below meth c H locs lsA C hK hI hP hS hL) (fun q => absurd hc q)
theorem v_if_le_f {x : Int32} {off : Int} (tgt : Nat) (hdg : decode μ.2.1 pc = .ok (.ifCond .le off, 3)) (ht : (pc : Int) + off = (tgt : Int)) (hc : ¬ (x ≤ 0)) (k2 : V G μ (pc + 3) ls st h κ o) : V G μ pc ls (.int x :: st) h κ o := by
  intro r h' ho p e s m args below meth c H locs lsA C hK hI hP hS hL
  exact lv_if_le C.1 C.2.1 hdg ht (fun q => absurd q hc) (fun _ => k2 r h' ho p e s m args below meth c H locs lsA C hK hI hP hS hL)
theorem v_icmp_le {x y : Int32} {o1 o2 : Option (ρ × Hp)} {off : Int} (tgt : Nat) (hdg : decode μ.2.1 pc = .ok (.if_icmp .le off, 3)) (ht : (pc : Int) + off = (tgt : Int)) (k1 : x ≤ y → V G μ tgt ls st h κ o1) (k2 : ¬ (x ≤ y) → V G μ (pc + 3) ls st h κ o2) : V G μ pc ls (.int y :: .int x :: st) h κ (if x ≤ y then o1 else o2) := by
  intro r h' ho p e s m args below meth c H locs lsA C hK hI hP hS hL
  exact lv_icmp_le C.1 C.2.1 hdg ht (fun hc => k1 hc r h' (by rw [if_pos hc] at ho; exact ho) p e s m args below meth c H locs lsA C hK hI hP hS hL) (fun hc => k2 hc r h' (by rw [if_neg hc] at ho; exact ho) p e s m args below meth c H locs lsA C hK hI hP hS hL)
theorem v_icmp_le_t {x y : Int32} {off : Int} (tgt : Nat) (hdg : decode μ.2.1 pc = .ok (.if_icmp .le off, 3)) (ht : (pc : Int) + off = (tgt : Int)) (hc : x ≤ y) (k1 : V G μ tgt ls st h κ o) : V G μ pc ls (.int y :: .int x :: st) h κ o := by
  intro r h' ho p e s m args below meth c H locs lsA C hK hI hP hS hL
  exact lv_icmp_le C.1 C.2.1 hdg ht (fun _ => k1 r h' ho p e s m args below meth c H locs lsA C hK hI hP hS hL) (fun q => absurd hc q)
theorem v_icmp_le_f {x y : Int32} {off : Int} (tgt : Nat) (hdg : decode μ.2.1 pc = .ok (.if_icmp .le off, 3)) (ht : (pc : Int) + off = (tgt : Int)) (hc : ¬ (x ≤ y)) (k2 : V G μ (pc + 3) ls st h κ o) : V G μ pc ls (.int y :: .int x :: st) h κ o := by
  intro r h' ho p e s m args below meth c H locs lsA C hK hI hP hS hL
  exact lv_icmp_le C.1 C.2.1 hdg ht (fun q => absurd q hc) (fun _ => k2 r h' ho p e s m args below meth c H locs lsA C hK hI hP hS hL)
theorem v_ite {P : Prop} [Decidable P] {o1 o2 : Option (ρ × Hp)} (k1 : P → V G μ pc ls st h κ o1) (k2 : ¬ P → V G μ pc ls st h κ o2) : V G μ pc ls st h κ (if P then o1 else o2) := by
  by_cases hc : P
  · rw [if_pos hc]; exact k1 hc
  · rw [if_neg hc]; exact k2 hc
theorem v_tabIn {dflt lo hi off : Int} {offs : Array Int} {len : Nat} {x : Int32} (tgt : Nat) (hdg : decode μ.2.1 pc = .ok (.tableswitch dflt lo hi offs, len)) (h1 : ¬ x.toInt < lo) (h2 : ¬ hi < x.toInt) (ho : offs[(x.toInt - lo).toNat]? = some off) (ht : (pc : Int) + off = (tgt : Int)) (k : V G μ tgt ls st h κ o) : V G μ pc ls (.int x :: st) h κ o := by
  intro r h' hoo p e s m args below meth c H locs lsA C hK hI hP hS hL
  exact lv_tableIn C.1 C.2.1 hdg h1 h2 ho ht (k r h' hoo p e s m args below meth c H locs lsA C hK hI hP hS hL)
theorem v_tabOut {dflt lo hi : Int} {offs : Array Int} {len : Nat} {x : Int32} (tgt : Nat) (hdg : decode μ.2.1 pc = .ok (.tableswitch dflt lo hi offs, len)) (h1 : x.toInt < lo ∨ hi < x.toInt) (ht : (pc : Int) + dflt = (tgt : Int)) (k : V G μ tgt ls st h κ o) : V G μ pc ls (.int x :: st) h κ o := by
  intro r h' hoo p e s m args below meth c H locs lsA C hK hI hP hS hL
  exact lv_tableOut C.1 C.2.1 hdg h1 ht (k r h' hoo p e s m args below meth c H locs lsA C hK hI hP hS hL)
theorem v_lookup {dflt : Int} {ps : Array (Int × Int)} {len : Nat} {x : Int32} {off : Int} (tgt : Nat) (hdg : decode μ.2.1 pc = .ok (.lookupswitch dflt ps, len)) (hp : (ps.toList.zip (ps.toList.drop 1)).all (fun (a, next) => a.1 < next.1) = true) (ho : Op.lookupswitch.offset ps.toList dflt x.toInt = off) (ht : (pc : Int) + off = (tgt : Int)) (k : V G μ tgt ls st h κ o) : V G μ pc ls (.int x :: st) h κ o := by
  intro r h' hoo p e s m args below meth c H locs lsA C hK hI hP hS hL
  exact lv_lookup C.1 C.2.1 hdg hp ho ht (k r h' hoo p e s m args below meth c H locs lsA C hK hI hP hS hL)
/-- a field's link, as the tables have it -/
def FL (cls : String) (idx ci k : Nat) : Prop := ∃ q, classes[ci]? = some q ∧ k < q.2.2 ∧ (Cond.fieldLink cls idx q.1 (q.2.1 k).2.1 (q.2.1 k).2.2.1 ∈ lwg ∨ ∃ host, Cond.fieldLinkNest cls idx q.1 (q.2.1 k).2.1 (q.2.1 k).2.2.1 host ∈ nestW) ∧ (q.2.1 k).1 = q.1
def FT (ci k : Nat) (ty : FieldType) : Prop := ∃ q, classes[ci]? = some q ∧ (q.2.1 k).2.2.2 = false ∧ parseFieldDescriptor (q.2.1 k).2.2.1 = some ty
theorem cl_ok : ∀ (ci : Nat) (q : vw_C), classes[ci]? = some q → (∀ w ∈ u_ws q.1 q.2.1 q.2.2, w ∈ lwg) ∧ (∃ ty0 : Nat → FieldType, ∀ k, k < q.2.2 → parseFieldDescriptor (q.2.1 k).2.2.1 = some (ty0 k)) ∧ (∀ a, a < q.2.2 → ∀ b, b < q.2.2 → a ≠ b → (q.2.1 a).2.1 ≠ (q.2.1 b).2.1)
  | 0, _, h => by cases h; exact ⟨inX0, ⟨tyX0, tyX0_ok⟩, nmX0⟩
  | 1, _, h => by cases h; exact ⟨inX1, ⟨tyX1, tyX1_ok⟩, nmX1⟩
  | 2, _, h => by cases h; exact ⟨inX2, ⟨tyX2, tyX2_ok⟩, nmX2⟩
  | 3, _, h => by cases h; exact ⟨inX3, ⟨tyX3, tyX3_ok⟩, nmX3⟩
  | 4, _, h => by cases h; exact ⟨inX4, ⟨tyX4, tyX4_ok⟩, nmX4⟩
  | 5, _, h => by cases h; exact ⟨inX5, ⟨tyX5, tyX5_ok⟩, nmX5⟩
  | 6, _, h => by cases h; exact ⟨inX6, ⟨tyX6, tyX6_ok⟩, nmX6⟩
  | n + 7, _, h => by simp [classes] at h
theorem v_getv {ci a k idx : Nat} {v : Value} (hF : FL μ.1.cls idx ci k) (hO : isO ci a) (hv : (cellF G h a (flds ci))[k]? = some v) (hdg : decode μ.2.1 pc = .ok (.getfield idx, 3)) (kk : V G μ (pc + 3) ls (v :: st) h κ o) : V G μ pc ls (.ref (ad G a) :: st) h κ o := by
  intro r h' ho p e s m args below meth c H locs lsA C hK hI hP hS hL
  obtain ⟨⟨q1, q2, q3⟩, hq, hk, hl, hs⟩ := hF
  dsimp only at hk hl hs
  have hin := (cl_ok ci _ hq).1
  rcases hl with hl | ⟨host, hl⟩
  · exact va_get C.1 C.2.1 (fun w hw => C.word hw) hin C.2.2.2.2.1 hK.1 hP a (cell_O hO) hq k hk (C.word hl) (fun x hx => by rw [← hs]; exact hx) hv hdg (kk r h' ho p e s m args below meth c H locs lsA C hK hI hP hS hL)
  · exact va_getN C.1 C.2.1 (fun w hw => C.word hw) hin C.2.2.2.2.1 hK.1 hP a (cell_O hO) hq k hk (va_Nw.use rfl (hK.2 _ hl)) (fun x hx => by rw [← hs]; exact hx) hv hdg (kk r h' ho p e s m args below meth c H locs lsA C hK hI hP hS hL)
theorem v_geti {ci a k idx : Nat} (hF : FL μ.1.cls idx ci k) (hO : isO ci a) (hk : (flds ci)[k]? = some none) (hdg : decode μ.2.1 pc = .ok (.getfield idx, 3)) (kk : V G μ (pc + 3) ls (.int (h a k) :: st) h κ o) : V G μ pc ls (.ref (ad G a) :: st) h κ o := v_getv hF hO (cellF_i hk) hdg kk
theorem v_getr {ci a k idx d : Nat} (b : Nat) (hF : FL μ.1.cls idx ci k) (hO : isO ci a) (hk : (flds ci)[k]? = some (some d)) (hb : a + d = b) (hdg : decode μ.2.1 pc = .ok (.getfield idx, 3)) (kk : V G μ (pc + 3) ls (.ref (ad G b) :: st) h κ o) : V G μ pc ls (.ref (ad G a) :: st) h κ o := v_getv hF hO (cellF_r hk) hdg (by rw [hb]; exact kk)
theorem v_puti {ci a k idx : Nat} {x : Int32} {ty : FieldType} (hF : FL μ.1.cls idx ci k) (hT : FT ci k ty) (hn : narrow ty (.int x) = .int x) (hfit : fits ty (.int x) = true) (hO : isO ci a) (hk : (flds ci)[k]? = some none) (hdg : decode μ.2.1 pc = .ok (.putfield idx, 3)) (kk : V G μ (pc + 3) ls st (hset h a k x) κ o) : V G μ pc ls (.int x :: .ref (ad G a) :: st) h κ o := by
  intro r h' ho p e s m args below meth c H locs lsA C hK hI hP hS hL
  obtain ⟨⟨q1, q2, q3⟩, hq, hk1, hl, hs⟩ := hF
  obtain ⟨q', hq', hfin, hd⟩ := hT
  cases hq.symm.trans hq'
  dsimp only at hk1 hl hs
  obtain ⟨hin, ⟨ty0, hty⟩, hnm⟩ := cl_ok ci _ hq
  have hlen : k < (cellF G h a (flds ci)).length := (List.getElem?_eq_some_iff.mp (cellF_i (G := G) (h := h) (a := a) hk)).1
  rcases hl with hl | ⟨host, hl⟩
  · exact va_put C.1 C.2.1 (fun w hw => C.word hw) hin ty0 hty hnm C.2.2.2.2.1 hK.1 hP (world_D hI) hS a (cell_O hO) hq k hk1 (C.word hl) (fun x hx => by rw [← hs]; exact hx) hfin hd hn hfit hlen hdg
      (fun H1 locs1 hP1 _ hS1 => by rw [set_O hO hk] at hP1; exact kk r h' ho p e s m args below meth c H1 locs1 lsA C hK hI hP1 hS1 hL)
  · exact va_putN C.1 C.2.1 (fun w hw => C.word hw) hin ty0 hty hnm C.2.2.2.2.1 hK.1 hP (world_D hI) hS a (cell_O hO) hq k hk1 (va_Nw.use rfl (hK.2 _ hl)) (fun x hx => by rw [← hs]; exact hx) hfin hd hn hfit hlen hdg
      (fun H1 locs1 hP1 _ hS1 => by rw [set_O hO hk] at hP1; exact kk r h' ho p e s m args below meth c H1 locs1 lsA C hK hI hP1 hS1 hL)
theorem v_iald {n b a : Nat} {i : Int32} (hA : isA 0 n b a) (hdg : decode μ.2.1 pc = .ok (.iaload, 1)) (kk : V G μ (pc + 1) ls (.int (h a (ix i)) :: st) h κ o) : V G μ pc ls (.int i :: .ref (ad G a) :: st) h κ (chk n i o) := by
  intro r h' ho p e s m args below meth c H locs lsA C hK hI hP hS hL
  obtain ⟨hi, ho⟩ := chk_some ho
  exact va_iald C.1 C.2.1 hK.1 hP a 0 (cell_A hA (by decide)) rfl (inb_in hi) hdg (kk r h' ho p e s m args below meth c H locs lsA C hK hI hP hS hL)
theorem v_zald {n b a : Nat} {i : Int32} (hA : isA 1 n b a) (hdg : decode μ.2.1 pc = .ok (.baload, 1)) (kk : V G μ (pc + 1) ls (.int (h a (ix i)) :: st) h κ o) : V G μ pc ls (.int i :: .ref (ad G a) :: st) h κ (chk n i o) := by
  intro r h' ho p e s m args below meth c H locs lsA C hK hI hP hS hL
  obtain ⟨hi, ho⟩ := chk_some ho
  exact va_zald C.1 C.2.1 hK.1 hP a 1 (cell_A hA (by decide)) rfl (inb_in hi) hdg (kk r h' ho p e s m args below meth c H locs lsA C hK hI hP hS hL)
theorem v_iast {n b a : Nat} {i x : Int32} (hA : isA 0 n b a) (hdg : decode μ.2.1 pc = .ok (.iastore, 1)) (kk : V G μ (pc + 1) ls st (hset h a (ix i) x) κ o) : V G μ pc ls (.int x :: .int i :: .ref (ad G a) :: st) h κ (chk n i o) := by
  intro r h' ho p e s m args below meth c H locs lsA C hK hI hP hS hL
  obtain ⟨hi, ho⟩ := chk_some ho
  exact va_iast C.1 C.2.1 hK.1 hP (world_D hI) hS a 0 (cell_A hA (by decide)) rfl (inb_in hi) hdg (fun H1 locs1 hP1 _ hS1 => by rw [set_A hA (by decide)] at hP1; exact kk r h' ho p e s m args below meth c H1 locs1 lsA C hK hI hP1 hS1 hL)
theorem v_zast {n b a : Nat} {i x : Int32} (hx : vp_nar .boolean x = x) (hA : isA 1 n b a) (hdg : decode μ.2.1 pc = .ok (.bastore, 1)) (kk : V G μ (pc + 1) ls st (hset h a (ix i) x) κ o) : V G μ pc ls (.int x :: .int i :: .ref (ad G a) :: st) h κ (chk n i o) := by
  intro r h' ho p e s m args below meth c H locs lsA C hK hI hP hS hL
  obtain ⟨hi, ho⟩ := chk_some ho
  exact va_zast C.1 C.2.1 hK.1 hP (world_D hI) hS a 1 (cell_A hA (by decide)) rfl (inb_in hi) hdg (fun H1 locs1 hP1 _ hS1 => by rw [hx, set_A hA (by decide)] at hP1; exact kk r h' ho p e s m args below meth c H1 locs1 lsA C hK hI hP1 hS1 hL)
theorem v_aald2 {n b a : Nat} {i : Int32} (d : Nat) (hd : b + 2 * ix i = d) (hA : isA 2 n b a) (hdg : decode μ.2.1 pc = .ok (.aaload, 1)) (kk : inb i n = true → V G μ (pc + 1) ls (.ref (ad G d) :: st) h κ o) : V G μ pc ls (.int i :: .ref (ad G a) :: st) h κ (chk n i o) := by
  intro r h' ho p e s m args below meth c H locs lsA C hK hI hP hS hL
  obtain ⟨hi, ho⟩ := chk_some ho
  exact va_aldq C.1 C.2.1 hK.1 hP a 2 (cell_R hA (by decide)) rfl (inb_in hi) hdg (by subst hd; exact kk hi r h' ho p e s m args below meth c H locs lsA C hK hI hP hS hL)
theorem v_aald3 {n b a : Nat} {i : Int32} (d : Nat) (hd : b + 2 * ix i = d) (hA : isA 3 n b a) (hdg : decode μ.2.1 pc = .ok (.aaload, 1)) (kk : inb i n = true → V G μ (pc + 1) ls (.ref (ad G d) :: st) h κ o) : V G μ pc ls (.int i :: .ref (ad G a) :: st) h κ (chk n i o) := by
  intro r h' ho p e s m args below meth c H locs lsA C hK hI hP hS hL
  obtain ⟨hi, ho⟩ := chk_some ho
  exact va_aldq C.1 C.2.1 hK.1 hP a 3 (cell_R hA (by decide)) rfl (inb_in hi) hdg (by subst hd; exact kk hi r h' ho p e s m args below meth c H locs lsA C hK hI hP hS hL)
theorem v_iret {x : Int32} (hr : μ.2.2.2.1 = some .int) (hdg : decode μ.2.1 pc = .ok (.ireturn, 1)) : V G μ pc ls [.int x] h κi (some (x, h)) := by
  intro r h' ho p e s m args below meth c H locs lsA C hK hI hP hS hL
  cases ho
  exact W.iret C.1 C.2.1 (C.2.2.1.trans hr) (fun t ht hW => ⟨rfl, by rw [ht]; exact hP, hS.F ht⟩) hS.2.2 hdg C.2.2.2.2.2.2
theorem v_zretL {x : Int32} (hr : μ.2.2.2.1 = some .boolean) (hn : narrow .boolean (.int x) = .int x) (hdg : decode μ.2.1 pc = .ok (.ireturn, 1)) : V G μ pc ls [.int x] h κi (some (x, h)) := by
  intro r h' ho p e s m args below meth c H locs lsA C hK hI hP hS hL
  cases ho
  exact W.zret C.1 C.2.1 (C.2.2.1.trans hr) hn (fun t ht hW => ⟨rfl, by rw [ht]; exact hP, hS.F ht⟩) hS.2.2 hdg C.2.2.2.2.2.2
theorem v_zret {x : Int32} (hr : μ.2.2.2.1 = some .boolean) (hdg : decode μ.2.1 pc = .ok (.ireturn, 1)) : V G μ pc ls [.int x] h κi (zret x h) := by
  unfold zret
  refine v_ite (fun hc => ?_) (fun _ => v_ite (fun hc => ?_) (fun _ r h' ho => by cases ho))
  · subst hc; exact v_zretL hr rfl hdg
  · subst hc; exact v_zretL hr rfl hdg
theorem v_lret {x : Int64} (hr : μ.2.2.2.1 = some .long) (hdg : decode μ.2.1 pc = .ok (.lreturn, 1)) : V G μ pc ls [.long x] h κl (some (x, h)) := by
  intro r h' ho p e s m args below meth c H locs lsA C hK hI hP hS hL
  cases ho
  exact W.lret C.1 C.2.1 (C.2.2.1.trans hr) (fun t ht hW => ⟨rfl, by rw [ht]; exact hP, hS.F ht⟩) hS.2.2 hdg C.2.2.2.2.2.2
theorem v_vret (hr : μ.2.2.2.1 = none) (hdg : decode μ.2.1 pc = .ok (.return_, 1)) : V G μ pc ls [] h κv (some ((), h)) := by
  intro r h' ho p e s m args below meth c H locs lsA C hK hI hP hS hL
  cases ho
  exact W.vret C.1 C.2.1 (C.2.2.1.trans hr) (fun t ht hW => ⟨rfl, by rw [ht]; exact hP, hS.F ht⟩) hS.2.2 hdg C.2.2.2.2.2.2
theorem v_aret {a : Nat} {nm : String} (hr : μ.2.2.2.1 = some (.object nm)) (hdg : decode μ.2.1 pc = .ok (.areturn, 1)) : V G μ pc ls [.ref (ad G a)] h (κr G) (some (a, h)) := by
  intro r h' ho p e s m args below meth c H locs lsA C hK hI hP hS hL
  cases ho
  exact W.aret C.1 C.2.1 (C.2.2.1.trans hr) (Or.inl ⟨_, rfl⟩) (Or.inr ⟨_, rfl⟩) (fun t ht hW => ⟨rfl, by rw [ht]; exact hP, hS.F ht⟩) hS.2.2 hdg C.2.2.2.2.2.2
theorem bnd_inv {σ τ : Type} {o : Option (σ × Hp)} {f : σ → Hp → Option τ} {q : τ} (h : bnd o f = some q) : ∃ r1 h1, o = some (r1, h1) ∧ f r1 h1 = some q := by
  cases o with
  | none => cases h
  | some z => exact ⟨z.1, z.2, rfl, h⟩
theorem v_after {σ : Type} {κz : σ → Option Value} {rest st0 : List Value} {oz : Option (σ × Hp)} {f : σ → Hp → Option (ρ × Hp)}
    (hrun : ∀ r1 h1, oz = some (r1, h1) → ∀ (p : Program) (e : Env) (s : State) (m : MethodId) (args : Array Value) (below : List Frame) (meth : Method) (c : Code) (H : Heap) (locs : List Loc) (lsA : Array Slot),
      Cx μ p s m args meth c → KK G s → wInj G → va_P G.2.2.1 classes (world G h) H → va_S (Aw G) s.heap H locs → lv_has lsA μ.2.2.1 ls →
      ∃ a, va_Run p G.1 e (rmOf μ) s m args below meth c H locs 0 0 0 0 (F0 m pc lsA st0) rest (Qc G κz r1 h1 a) (Aw G))
    (k : ∀ r1 h1, oz = some (r1, h1) → V G μ (pc + 3) ls ((κz r1).toList ++ rest) h1 κ (f r1 h1)) : V G μ pc ls st0 h κ (bnd oz f) := by
  intro r h' ho p e s m args below meth c H locs lsA C hK hI hP hS hL
  obtain ⟨r1, h1, hz, hf⟩ := bnd_inv ho
  obtain ⟨a, hr⟩ := hrun r1 h1 hz p e s m args below meth c H locs lsA C hK hI hP hS hL
  intro T hT X
  obtain ⟨v, st₀, t, T', L, h0, X', hLc, e1, e2, ⟨hv, hP1, hz1, hk1⟩, stp⟩ := hr T hT X
  cases hv
  rw [h0] at hz1 hk1
  have hS1 : va_S (Aw G) s.heap T'.heap (locs ++ L) := ⟨Nat.le_trans hS.1 (by rw [e1]; exact hz1), fun q g1 g2 => by rw [e1, hk1 q (Nat.lt_of_lt_of_le g1 hS.1) g2]; exact hS.2.1 q g1 g2, fun q hq => by
    rcases List.mem_append.mp hq with g | g
    · exact hS.2.2 q g
    · exact hLc q g⟩
  obtain ⟨t2, a1, b1⟩ := k r1 h1 hz r h' hf p e s m args below meth c T'.heap (locs ++ L) lsA C hK hI (by rw [e1]; exact hP1) hS1 hL T' rfl X'
  exact ⟨t2, stp t2 a1, b1⟩
theorem v_callV {σ : Type} {κz : σ → Option Value} {μz : Mt} {ci a idx n : Nat} {As rest st0 : List Value} {oz : Option (σ × Hp)} {f : σ → Hp → Option (ρ × Hp)}
    (hC : Cn G μz (.ref (ad G a) :: As) h κz oz) (hok : CallOK μ.1.cls idx μz n) (hin : InstOK μz ci) (hO : isO ci a) (hR : RoomOK μ μz) (hn : As.length = n) (hst : st0 = As.reverse ++ .ref (ad G a) :: rest) (hw : (rest.map fun v => v.category).sum ≤ 8) (hdg : decode μ.2.1 pc = .ok (.invokevirtual idx, 3))
    (k : ∀ r1 h1, oz = some (r1, h1) → V G μ (pc + 3) ls ((κz r1).toList ++ rest) h1 κ (f r1 h1)) : V G μ pc ls st0 h κ (bnd oz f) := by
  refine v_after (fun r1 h1 hz p e s m args below meth c H locs lsA C hK hI hP hS hL => ?_) k
  obtain ⟨hcode, hini, hlink, hd⟩ := hok
  obtain ⟨hinst, hsel, q, hq, hqc⟩ := hin
  have hcb := callB_of (R := rmOf μ) (rm := rmOf μz) (mc := 0) (ms := 0) n C.2.2.2.2.2.1 (C.call hcode) rfl rfl rfl (C.word hini) (C.word hlink) hd hR
  refine ⟨_, va_runV (As := As) (rest := rest) (C := μz.1.cls) ⟨C.1, C.2.1, C.2.2.2.1, C.2.2.2.2.1, C.2.2.2.2.2.1⟩ (hC r1 h1 hz) ⟨hcb, C.word hinst, C.word hsel⟩ ⟨WH.blind, ?_, fun U hU hW => ⟨rfl, by rw [hU]; exact hP, KK.warm hW hK, hI⟩⟩ rfl hn hL.1 hst (lv_room hw) hdg ⟨Nat.le_refl 0, Nat.le_refl 0⟩⟩
  obtain ⟨cell, g1, g2, g3⟩ := va_recv hK.1 hP hq (cell_O hO)
  exact ⟨cell, g1, g2, by rw [← hqc]; exact g3⟩
theorem v_callS {σ : Type} {κz : σ → Option Value} {μz : Mt} {idx n : Nat} {As rest st0 : List Value} {oz : Option (σ × Hp)} {f : σ → Hp → Option (ρ × Hp)}
    (hC : Cn G μz As h κz oz) (hok : CallOK μ.1.cls idx μz n) (hin : StatOK μz) (hR : RoomOK μ μz) (hn : As.length = n) (hst : st0 = As.reverse ++ rest) (hw : (rest.map fun v => v.category).sum ≤ 8) (hdg : decode μ.2.1 pc = .ok (.invokestatic idx, 3))
    (k : ∀ r1 h1, oz = some (r1, h1) → V G μ (pc + 3) ls ((κz r1).toList ++ rest) h1 κ (f r1 h1)) : V G μ pc ls st0 h κ (bnd oz f) := by
  refine v_after (fun r1 h1 hz p e s m args below meth c H locs lsA C hK hI hP hS hL => ?_) k
  obtain ⟨hcode, hini, hlink, hd⟩ := hok
  have hcb := callB_of (R := rmOf μ) (rm := rmOf μz) (mc := 0) (ms := 0) n C.2.2.2.2.2.1 (C.call hcode) rfl rfl rfl (C.word hini) (C.word hlink) hd hR
  exact ⟨_, va_runS (As := As) (rest := rest) ⟨C.1, C.2.1, C.2.2.2.1, C.2.2.2.2.1, C.2.2.2.2.2.1⟩ (hC r1 h1 hz) ⟨hcb, C.word hin⟩ ⟨WH.blind, fun U hU hW => ⟨rfl, by rw [hU]; exact hP, KK.warm hW hK, hI⟩⟩ rfl hn hL.1 hst (lv_room hw) hdg ⟨Nat.le_refl 0, Nat.le_refl 0⟩⟩
theorem v_callVi {μz : Mt} {ci a idx n : Nat} {As rest st0 : List Value} {oz : Option (Int32 × Hp)} {f : Int32 → Hp → Option (ρ × Hp)}
    (hC : Cn G μz (.ref (ad G a) :: As) h κi oz) (hok : CallOK μ.1.cls idx μz n) (hin : InstOK μz ci) (hO : isO ci a) (hR : RoomOK μ μz) (hn : As.length = n) (hst : st0 = As.reverse ++ .ref (ad G a) :: rest) (hw : (rest.map fun v => v.category).sum ≤ 8) (hdg : decode μ.2.1 pc = .ok (.invokevirtual idx, 3))
    (k : ∀ r1 h1, oz = some (r1, h1) → V G μ (pc + 3) ls (.int r1 :: rest) h1 κ (f r1 h1)) : V G μ pc ls st0 h κ (bnd oz f) := v_callV hC hok hin hO hR hn hst hw hdg k
theorem v_callSi {μz : Mt} {idx n : Nat} {As rest st0 : List Value} {oz : Option (Int32 × Hp)} {f : Int32 → Hp → Option (ρ × Hp)}
    (hC : Cn G μz As h κi oz) (hok : CallOK μ.1.cls idx μz n) (hin : StatOK μz) (hR : RoomOK μ μz) (hn : As.length = n) (hst : st0 = As.reverse ++ rest) (hw : (rest.map fun v => v.category).sum ≤ 8) (hdg : decode μ.2.1 pc = .ok (.invokestatic idx, 3))
    (k : ∀ r1 h1, oz = some (r1, h1) → V G μ (pc + 3) ls (.int r1 :: rest) h1 κ (f r1 h1)) : V G μ pc ls st0 h κ (bnd oz f) := v_callS hC hok hin hR hn hst hw hdg k
theorem v_callVl {μz : Mt} {ci a idx n : Nat} {As rest st0 : List Value} {oz : Option (Int64 × Hp)} {f : Int64 → Hp → Option (ρ × Hp)}
    (hC : Cn G μz (.ref (ad G a) :: As) h κl oz) (hok : CallOK μ.1.cls idx μz n) (hin : InstOK μz ci) (hO : isO ci a) (hR : RoomOK μ μz) (hn : As.length = n) (hst : st0 = As.reverse ++ .ref (ad G a) :: rest) (hw : (rest.map fun v => v.category).sum ≤ 8) (hdg : decode μ.2.1 pc = .ok (.invokevirtual idx, 3))
    (k : ∀ r1 h1, oz = some (r1, h1) → V G μ (pc + 3) ls (.long r1 :: rest) h1 κ (f r1 h1)) : V G μ pc ls st0 h κ (bnd oz f) := v_callV hC hok hin hO hR hn hst hw hdg k
theorem v_callSl {μz : Mt} {idx n : Nat} {As rest st0 : List Value} {oz : Option (Int64 × Hp)} {f : Int64 → Hp → Option (ρ × Hp)}
    (hC : Cn G μz As h κl oz) (hok : CallOK μ.1.cls idx μz n) (hin : StatOK μz) (hR : RoomOK μ μz) (hn : As.length = n) (hst : st0 = As.reverse ++ rest) (hw : (rest.map fun v => v.category).sum ≤ 8) (hdg : decode μ.2.1 pc = .ok (.invokestatic idx, 3))
    (k : ∀ r1 h1, oz = some (r1, h1) → V G μ (pc + 3) ls (.long r1 :: rest) h1 κ (f r1 h1)) : V G μ pc ls st0 h κ (bnd oz f) := v_callS hC hok hin hR hn hst hw hdg k
theorem v_callVv {μz : Mt} {ci a idx n : Nat} {As rest st0 : List Value} {oz : Option (Unit × Hp)} {f : Unit → Hp → Option (ρ × Hp)}
    (hC : Cn G μz (.ref (ad G a) :: As) h κv oz) (hok : CallOK μ.1.cls idx μz n) (hin : InstOK μz ci) (hO : isO ci a) (hR : RoomOK μ μz) (hn : As.length = n) (hst : st0 = As.reverse ++ .ref (ad G a) :: rest) (hw : (rest.map fun v => v.category).sum ≤ 8) (hdg : decode μ.2.1 pc = .ok (.invokevirtual idx, 3))
    (k : ∀ r1 h1, oz = some (r1, h1) → V G μ (pc + 3) ls (rest) h1 κ (f r1 h1)) : V G μ pc ls st0 h κ (bnd oz f) := v_callV hC hok hin hO hR hn hst hw hdg k
theorem v_callSv {μz : Mt} {idx n : Nat} {As rest st0 : List Value} {oz : Option (Unit × Hp)} {f : Unit → Hp → Option (ρ × Hp)}
    (hC : Cn G μz As h κv oz) (hok : CallOK μ.1.cls idx μz n) (hin : StatOK μz) (hR : RoomOK μ μz) (hn : As.length = n) (hst : st0 = As.reverse ++ rest) (hw : (rest.map fun v => v.category).sum ≤ 8) (hdg : decode μ.2.1 pc = .ok (.invokestatic idx, 3))
    (k : ∀ r1 h1, oz = some (r1, h1) → V G μ (pc + 3) ls (rest) h1 κ (f r1 h1)) : V G μ pc ls st0 h κ (bnd oz f) := v_callS hC hok hin hR hn hst hw hdg k
theorem v_callVr {μz : Mt} {ci a idx n : Nat} {As rest st0 : List Value} {oz : Option (Nat × Hp)} {f : Nat → Hp → Option (ρ × Hp)}
    (hC : Cn G μz (.ref (ad G a) :: As) h (κr G) oz) (hok : CallOK μ.1.cls idx μz n) (hin : InstOK μz ci) (hO : isO ci a) (hR : RoomOK μ μz) (hn : As.length = n) (hst : st0 = As.reverse ++ .ref (ad G a) :: rest) (hw : (rest.map fun v => v.category).sum ≤ 8) (hdg : decode μ.2.1 pc = .ok (.invokevirtual idx, 3))
    (k : ∀ r1 h1, oz = some (r1, h1) → V G μ (pc + 3) ls (.ref (ad G r1) :: rest) h1 κ (f r1 h1)) : V G μ pc ls st0 h κ (bnd oz f) := v_callV hC hok hin hO hR hn hst hw hdg k
theorem v_callSr {μz : Mt} {idx n : Nat} {As rest st0 : List Value} {oz : Option (Nat × Hp)} {f : Nat → Hp → Option (ρ × Hp)}
    (hC : Cn G μz As h (κr G) oz) (hok : CallOK μ.1.cls idx μz n) (hin : StatOK μz) (hR : RoomOK μ μz) (hn : As.length = n) (hst : st0 = As.reverse ++ rest) (hw : (rest.map fun v => v.category).sum ≤ 8) (hdg : decode μ.2.1 pc = .ok (.invokestatic idx, 3))
    (k : ∀ r1 h1, oz = some (r1, h1) → V G μ (pc + 3) ls (.ref (ad G r1) :: rest) h1 κ (f r1 h1)) : V G μ pc ls st0 h κ (bnd oz f) := v_callS hC hok hin hR hn hst hw hdg k
/-- System.arraycopy of int rows -/
def acp (h : Hp) (a b na nb : Nat) (sp dp n : Int32) : Option (Unit × Hp) := if ¬ sp < 0 ∧ ¬ dp < 0 ∧ ¬ n < 0 ∧ ix sp + ix n ≤ na ∧ ix dp + ix n ≤ nb then some ((), hcpy h a b (ix sp) (ix dp) (ix n)) else none
theorem v_acopy {a b na nb b1 b2 idx : Nat} {sp dp n : Int32} {f : Unit → Hp → Option (ρ × Hp)} (hA : isA 0 na b1 a) (hB : isA 0 nb b2 b) (hlink : Cond.methodLink μ.1.cls idx arraycopyName ∈ lwg) (hnat : Cond.native arraycopyName ∈ lwg) (hstat : Cond.static arraycopyName ∈ lwg) (hini : Cond.initialized "java/lang/System" ∈ lwg) (hR : 1 ≤ μ.2.2.2.2.1 ∧ 8 + (nativeFrameWords "java/lang/System" "arraycopy" 5 + 11) ≤ μ.2.2.2.2.2) (hw : (st.map fun v => v.category).sum ≤ 8) (hdg : decode μ.2.1 pc = .ok (.invokestatic idx, 3))
    (k : ∀ h1, V G μ (pc + 3) ls st h1 κ (f () h1)) : V G μ pc ls (.int n :: .int dp :: .ref (ad G b) :: .int sp :: .ref (ad G a) :: st) h κ (bnd (acp h a b na nb sp dp n) f) := by
  intro r h' ho p e s m args below meth c H locs lsA C hK hI hP hS hL
  obtain ⟨r1, h1, hz, hf⟩ := bnd_inv ho
  unfold acp at hz
  split at hz
  · next hc =>
    cases hz
    refine va_copyi (ty := .int) C.1 C.2.1 (C.2.2.2.1.trans hL.1.symm) C.2.2.2.2.1 (C.word hlink) (C.word hnat) (C.word hstat) (C.word hini) hK.1 hP (world_D hI) hS a b 0 0 (cell_A hA (by decide)) (cell_A hB (by decide)) rfl rfl rfl hc.1 hc.2.1 hc.2.2.1 hc.2.2.2.1 hc.2.2.2.2 (fun i _ => rfl) hR.1 (Nat.le_trans (Nat.add_le_add_right hw _) hR.2) hdg
      (fun H1 locs1 hP1 _ hS1 => by rw [set_C hB (by decide)] at hP1; exact k _ r h' hf p e s m args below meth c H1 locs1 lsA C hK hI hP1 hS1 hL)
  · cases hz
end VR
theorem v_none {ρ : Type} {G : Gt} {μ : Mt} {pc : Nat} {ls : List (Nat × Value)} {st : List Value} {h : Hp} {κ : ρ → Option Value} : V G μ pc ls st h κ none := fun r h' ho => by cases ho
theorem ofs_0_1 : ∀ a, a < 46 → shp a = .inl 0 → (a + 1 < 46 ∧ shp (a + 1) = .inr (0, 10, 0)) := by decide
theorem ofs_0_2 : ∀ a, a < 46 → shp a = .inl 0 → (a + 2 < 46 ∧ shp (a + 2) = .inr (0, 10, 0)) := by decide
theorem ofs_1_1 : ∀ a, a < 46 → shp a = .inl 1 → (a + 1 < 46 ∧ shp (a + 1) = .inr (0, 8, 0)) := by decide
theorem ofs_1_2 : ∀ a, a < 46 → shp a = .inl 1 → (a + 2 < 46 ∧ shp (a + 2) = .inr (0, 8, 0)) := by decide
theorem ofs_1_3 : ∀ a, a < 46 → shp a = .inl 1 → (a + 3 < 46 ∧ shp (a + 3) = .inr (0, 8, 0)) := by decide
theorem frA {a : Nat} (h : isO 0 a) : isA 0 10 0 (a + 1) ∧ isA 0 10 0 (a + 2) := ⟨ofs_0_1 a h.1 h.2, ofs_0_2 a h.1 h.2⟩
theorem noA {a : Nat} (h : isO 1 a) : isA 0 8 0 (a + 1) ∧ isA 0 8 0 (a + 2) ∧ isA 0 8 0 (a + 3) := ⟨ofs_1_1 a h.1 h.2, ofs_1_2 a h.1 h.2, ofs_1_3 a h.1 h.2⟩
theorem shA {a : Nat} (h : isO 2 a) : isA 0 48 0 (a + 1) := by
  have key : ∀ a, a < 46 → shp a = .inl 2 → (a + 1 < 46 ∧ shp (a + 1) = .inr (0, 48, 0)) := by decide
  exact key a h.1 h.2
theorem spA {a : Nat} (h : isO 3 a) : isA 0 10 0 (a + 1) := by
  have key : ∀ a, a < 46 → shp a = .inl 3 → (a + 1 < 46 ∧ shp (a + 1) = .inr (0, 10, 0)) := by decide
  exact key a h.1 h.2
theorem txA {a : Nat} (h : isO 4 a) : isA 0 40 0 (a + 1) := by
  have key : ∀ a, a < 46 → shp a = .inl 4 → (a + 1 < 46 ∧ shp (a + 1) = .inr (0, 40, 0)) := by decide
  exact key a h.1 h.2
theorem sp_o {i : Int32} (h : inb i 4 = true) : isO 3 (15 + 2 * ix i) := by
  have hi : ix i < 4 := by simp [inb] at h; exact h.2
  have key : ∀ j, j < 4 → (15 + 2 * j < 46 ∧ shp (15 + 2 * j) = .inl 3) := by decide
  exact key _ hi
theorem sh_o {i : Int32} (h : inb i 4 = true) : isO 2 (23 + 2 * ix i) := by
  have hi : ix i < 4 := by simp [inb] at h; exact h.2
  have key : ∀ j, j < 4 → (23 + 2 * j < 46 ∧ shp (23 + 2 * j) = .inl 2) := by decide
  exact key _ hi
theorem o_0 : isO 5 0 := ⟨by decide, rfl⟩
theorem o_1 : isO 4 1 := ⟨by decide, rfl⟩
theorem ar_2 : isA 0 40 0 2 := ⟨by decide, rfl⟩
theorem o_3 : isO 0 3 := ⟨by decide, rfl⟩
theorem ar_4 : isA 0 10 0 4 := ⟨by decide, rfl⟩
theorem ar_5 : isA 0 10 0 5 := ⟨by decide, rfl⟩
theorem o_6 : isO 0 6 := ⟨by decide, rfl⟩
theorem ar_7 : isA 0 10 0 7 := ⟨by decide, rfl⟩
theorem ar_8 : isA 0 10 0 8 := ⟨by decide, rfl⟩
theorem ar_9 : isA 2 4 15 9 := ⟨by decide, rfl⟩
theorem o_10 : isO 1 10 := ⟨by decide, rfl⟩
theorem ar_11 : isA 0 8 0 11 := ⟨by decide, rfl⟩
theorem ar_12 : isA 0 8 0 12 := ⟨by decide, rfl⟩
theorem ar_13 : isA 0 8 0 13 := ⟨by decide, rfl⟩
theorem ar_14 : isA 3 4 23 14 := ⟨by decide, rfl⟩
theorem o_15 : isO 3 15 := ⟨by decide, rfl⟩
theorem ar_16 : isA 0 10 0 16 := ⟨by decide, rfl⟩
theorem o_17 : isO 3 17 := ⟨by decide, rfl⟩
theorem ar_18 : isA 0 10 0 18 := ⟨by decide, rfl⟩
theorem o_19 : isO 3 19 := ⟨by decide, rfl⟩
theorem ar_20 : isA 0 10 0 20 := ⟨by decide, rfl⟩
theorem o_21 : isO 3 21 := ⟨by decide, rfl⟩
theorem ar_22 : isA 0 10 0 22 := ⟨by decide, rfl⟩
theorem o_23 : isO 2 23 := ⟨by decide, rfl⟩
theorem ar_24 : isA 0 48 0 24 := ⟨by decide, rfl⟩
theorem o_25 : isO 2 25 := ⟨by decide, rfl⟩
theorem ar_26 : isA 0 48 0 26 := ⟨by decide, rfl⟩
theorem o_27 : isO 2 27 := ⟨by decide, rfl⟩
theorem ar_28 : isA 0 48 0 28 := ⟨by decide, rfl⟩
theorem o_29 : isO 2 29 := ⟨by decide, rfl⟩
theorem ar_30 : isA 0 48 0 30 := ⟨by decide, rfl⟩
theorem o_31 : isO 6 31 := ⟨by decide, rfl⟩
theorem ar_32 : isA 0 40 0 32 := ⟨by decide, rfl⟩
theorem ar_33 : isA 0 11 0 33 := ⟨by decide, rfl⟩
theorem ar_34 : isA 0 11 0 34 := ⟨by decide, rfl⟩
theorem ar_35 : isA 0 11 0 35 := ⟨by decide, rfl⟩
theorem ar_36 : isA 0 11 0 36 := ⟨by decide, rfl⟩
theorem ar_37 : isA 0 8 0 37 := ⟨by decide, rfl⟩
theorem ar_38 : isA 0 8 0 38 := ⟨by decide, rfl⟩
theorem ar_39 : isA 0 8 0 39 := ⟨by decide, rfl⟩
theorem ar_40 : isA 0 44 0 40 := ⟨by decide, rfl⟩
theorem ar_41 : isA 1 4 0 41 := ⟨by decide, rfl⟩
theorem ar_42 : isA 0 4 0 42 := ⟨by decide, rfl⟩
theorem ar_43 : isA 0 4 0 43 := ⟨by decide, rfl⟩
theorem ar_44 : isA 0 192 0 44 := ⟨by decide, rfl⟩
theorem ar_45 : isA 0 48 0 45 := ⟨by decide, rfl⟩
def jabs (x : Int32) : Int32 := if 0 ≤ x then x else 0 - x
def jmax (x y : Int32) : Int32 := if x < y then y else x
def jmin (x y : Int32) : Int32 := if y < x then y else x
theorem v_mabs {ρ : Type} {G : Gt} {μ : Mt} {pc : Nat} {ls : List (Nat × Value)} {st : List Value} {h : Hp} {κ : ρ → Option Value} {o : Option (ρ × Hp)} {x : Int32} {idx : Nat} (hlink : Cond.methodLink μ.1.cls idx Lib.Math.abs.name ∈ lwg) (hR : 1 ≤ μ.2.2.2.2.1 ∧ 21 ≤ μ.2.2.2.2.2) (hw : (st.map fun v => v.category).sum ≤ 8) (hdg : decode μ.2.1 pc = .ok (.invokestatic idx, 3)) (k : V G μ (pc + 3) ls (.int (jabs x) :: st) h κ o) : V G μ pc ls (.int x :: st) h κ o := by
  intro r h' ho p e s m args below meth c H locs lsA C hK hI hP hS hL
  exact va_mabs C.1 C.2.1 (C.2.2.2.1.trans hL.1.symm) C.2.2.2.2.1 (C.word hlink) (C.word (mem_t 253 (by decide +kernel) rfl)) (C.word (mem_t 8 (by decide +kernel) rfl)) (C.word (mem_t 254 (by decide +kernel) rfl)) hR.1 (Nat.le_trans (Nat.add_le_add_right hw _) hR.2) (Nat.le_refl 0) (Nat.le_refl 0) hdg (k r h' ho p e s m args below meth c H locs lsA C hK hI hP hS hL)
theorem v_mmax {ρ : Type} {G : Gt} {μ : Mt} {pc : Nat} {ls : List (Nat × Value)} {st : List Value} {h : Hp} {κ : ρ → Option Value} {o : Option (ρ × Hp)} {x y : Int32} {idx : Nat} (hlink : Cond.methodLink μ.1.cls idx Lib.Math.max.name ∈ lwg) (hR : 1 ≤ μ.2.2.2.2.1 ∧ 21 ≤ μ.2.2.2.2.2) (hw : (st.map fun v => v.category).sum ≤ 8) (hdg : decode μ.2.1 pc = .ok (.invokestatic idx, 3)) (k : V G μ (pc + 3) ls (.int (jmax x y) :: st) h κ o) : V G μ pc ls (.int y :: .int x :: st) h κ o := by
  intro r h' ho p e s m args below meth c H locs lsA C hK hI hP hS hL
  exact va_mmax C.1 C.2.1 (C.2.2.2.1.trans hL.1.symm) C.2.2.2.2.1 (C.word hlink) (C.word (mem_t 314 (by decide +kernel) rfl)) (C.word (mem_t 8 (by decide +kernel) rfl)) (C.word (mem_t 315 (by decide +kernel) rfl)) hR.1 (Nat.le_trans (Nat.add_le_add_right hw _) hR.2) (Nat.le_refl 0) (Nat.le_refl 0) hdg (k r h' ho p e s m args below meth c H locs lsA C hK hI hP hS hL)
theorem v_mmin {ρ : Type} {G : Gt} {μ : Mt} {pc : Nat} {ls : List (Nat × Value)} {st : List Value} {h : Hp} {κ : ρ → Option Value} {o : Option (ρ × Hp)} {x y : Int32} {idx : Nat} (hlink : Cond.methodLink μ.1.cls idx Lib.Math.min.name ∈ lwg) (hR : 1 ≤ μ.2.2.2.2.1 ∧ 21 ≤ μ.2.2.2.2.2) (hw : (st.map fun v => v.category).sum ≤ 8) (hdg : decode μ.2.1 pc = .ok (.invokestatic idx, 3)) (k : V G μ (pc + 3) ls (.int (jmin x y) :: st) h κ o) : V G μ pc ls (.int y :: .int x :: st) h κ o := by
  intro r h' ho p e s m args below meth c H locs lsA C hK hI hP hS hL
  exact va_mmin C.1 C.2.1 (C.2.2.2.1.trans hL.1.symm) C.2.2.2.2.1 (C.word hlink) (C.word (mem_t 242 (by decide +kernel) rfl)) (C.word (mem_t 8 (by decide +kernel) rfl)) (C.word (mem_t 243 (by decide +kernel) rfl)) hR.1 (Nat.le_trans (Nat.add_le_add_right hw _) hR.2) (Nat.le_refl 0) (Nat.le_refl 0) hdg (k r h' ho p e s m args below meth c H locs lsA C hK hI hP hS hL)
