/-- the world of a fresh pair of objects -/
def hp0 : Hp := fun a => if a = 0 then (fun k => if k = 6 then (-1) else if k = 8 then 99 else if k = 10 then 1 else 0) else if a = 23 then (fun k => if k = 1 then 1 else 0) else if a = 25 then (fun k => if k = 1 then 1 else 0) else if a = 27 then (fun k => if k = 1 then 1 else 0) else if a = 29 then (fun k => if k = 1 then 1 else 0) else if a = 31 then (fun k => if k = 6 then 99 else if k = 8 then 1 else 0) else (fun _ => 0)
theorem arrV_congr {cA : ClassId} {n : Nat} {f g : Nat → Value} (h : ∀ j, j < n → f j = g j) : arrV cA n f = arrV cA n g := by
  unfold arrV
  congr 2
  funext j
  exact h j.val j.isLt
theorem adl_at {A : Nat → Prop} {ws : va_W} {l : List Nat} (hD : va_D A ws) (hm : ws.map Prod.fst = l) : (∀ a b, a < l.length → b < l.length → l.getD a 0 = l.getD b 0 → a = b) ∧ ∀ a, a < l.length → A (l.getD a 0) := by
  subst hm
  have key : ∀ a, a < (ws.map Prod.fst).length → ∃ q, ws[a]? = some q ∧ (ws.map Prod.fst).getD a 0 = q.1 := by
    intro a ha
    rw [List.length_map] at ha
    refine ⟨ws[a], List.getElem?_eq_getElem ha, ?_⟩
    simp [List.getD, ha]
  refine ⟨fun a b ha hb e => ?_, fun a ha => ?_⟩
  · obtain ⟨q1, e1, f1⟩ := key a ha
    obtain ⟨q2, e2, f2⟩ := key b hb
    exact hD.1 a b q1 q2 e1 e2 (f1.symm.trans (e.trans f2))
  · obtain ⟨q1, e1, f1⟩ := key a ha
    rw [f1]
    exact hD.2 a q1 e1
theorem int_same {s : State} {c1 c2 : ClassId} {ty : FieldType} (h1 : s.vm.findClass ("[" ++ ty.toString) = some c1) (h2 : s.vm.findClass ("[" ++ ty.toString) = some c2) : c2 = c1 := Option.some.inj (h2.symm.trans h1)
def cellG (G : Gt) (h : Hp) (a : Nat) : Nat → List (Option Nat) → List Value
  | _, [] => []
  | k, none :: l => .int (h a k) :: cellG G h a (k + 1) l
  | k, some d :: l => .ref (ad G (a + d)) :: cellG G h a (k + 1) l
theorem cellG_at (G : Gt) (h : Hp) (a : Nat) : ∀ (fl : List (Option Nat)) (k j : Nat), (cellG G h a k fl)[j]? = fl[j]?.map fun o => match o with
    | none => Value.int (h a (k + j))
    | some d => .ref (ad G (a + d))
  | [], k, j => by simp [cellG]
  | none :: l, k, 0 => by simp [cellG]
  | some d :: l, k, 0 => by simp [cellG]
  | none :: l, k, j + 1 => by
    have e : k + 1 + j = k + (j + 1) := by omega
    simp [cellG, cellG_at G h a l (k + 1) j, e]
  | some d :: l, k, j + 1 => by
    have e : k + 1 + j = k + (j + 1) := by omega
    simp [cellG, cellG_at G h a l (k + 1) j, e]
theorem cellG_eq (G : Gt) (h : Hp) (a : Nat) (fl : List (Option Nat)) : cellF G h a fl = cellG G h a 0 fl := by
  apply List.ext_getElem?
  intro j
  rw [cellG_at, cellF, List.getElem?_mapIdx, Nat.zero_add]
  cases fl[j]? with
  | none => rfl
  | some o => cases o <;> rfl
theorem at_O {G : Gt} {h : Hp} {a ci q : Nat} {fs : List Value} {D : va_G} {cl : List vw_C} {H : Heap} (hs : shp a = .inl ci) (hq : ad G a = q) (hc : cellG G h a 0 (flds ci) = fs) (hz : va_at D cl (q, .inr (ci, fs)) H) : va_at D cl (ad G a, cellOf G h a) H := by
  rw [cellOf, hs, hq, cellE, cellG_eq, hc]; exact hz
theorem at_A {G : Gt} {h : Hp} {a k n b q : Nat} {cA : ClassId} {D : va_G} {cl : List vw_C} {H : Heap} (hs : shp a = .inr (k, n, b)) (hk : k ≤ 1) (hq : ad G a = q) (hA : cA = G.2.2.2 k) (hf : h a = fun _ => 0) (hz : va_at D cl (q, .inl (cA, n, .inl (fun _ => 0))) H) : va_at D cl (ad G a, cellOf G h a) H := by
  rw [cellOf, hs, hq, cellE]
  simp only [hk, if_true, hf]
  rw [← hA]; exact hz
theorem at_R {G : Gt} {h : Hp} {a k n b q : Nat} {cA : ClassId} {f : Nat → Option Nat} {D : va_G} {cl : List vw_C} {H : Heap} (hs : shp a = .inr (k, n, b)) (hk : ¬ k ≤ 1) (hq : ad G a = q) (hA : cA = G.2.2.2 k) (hf : ∀ j, j < n → f j = some (ad G (b + 2 * j))) (hz : va_at D cl (q, .inl (cA, n, .inr (.inr (.inr (.inr f))))) H) : va_at D cl (ad G a, cellOf G h a) H := by
  rw [cellOf, hs, hq, cellE]
  simp only [hk, if_false]
  refine Eq.trans (show H[q]? = some (vp_cell _ _) from hz) ?_
  rw [vp_cell_q, vp_cell_q, ← hA]
  refine congrArg some (arrV_congr (fun j hj => ?_))
  rw [hf j hj]
def adf (g0 g1 : Nat) (u1 v1 : Nat → Nat) (k : Nat) : Nat := if k = 0 then g0 else if k < 31 then u1 k else if k = 31 then g1 else v1 (k - 31)
def clf (a b c d : ClassId) (k : Nat) : ClassId := if k = 0 then a else if k = 1 then b else if k = 2 then c else d
set_option maxHeartbeats 8000000 in
set_option maxRecDepth 100000 in
/-- the cells that the two constructors left are the world of hp0 -/
theorem made {l : Launch} {dC : Nat → ClassId} {dI : Nat → Nat → Nat} {s : State} {H : Heap} {A : Nat → Prop} {g0 g1 : Nat} {u1 v1 : Nat → Nat} {u2 v2 : Nat → ClassId} (hK : va_K (dC, dI) classes [((u2 0), .int), ((u2 1), .int), ((u2 2), .int), ((u2 3), .int), ((u2 4), .int), ((u2 5), .object "SpiderLoom$Spider"), ((u2 6), .int), ((u2 7), .int), ((u2 8), .int), ((u2 9), .object "SpiderLoom$Sheet"), ((u2 10), .int), ((u2 11), .int), ((u2 12), .int), ((u2 13), .int), ((u2 14), .int), ((u2 15), .int), ((u2 16), .int), ((u2 17), .int), ((v2 0), .int), ((v2 1), .int), ((v2 2), .int), ((v2 3), .int), ((v2 4), .int), ((v2 5), .int), ((v2 6), .int), ((v2 7), .int), ((v2 8), .int), ((v2 9), .boolean), ((v2 10), .int), ((v2 11), .int), ((v2 12), .int), ((v2 13), .int)] s) (hP : va_P (dC, dI) classes [(g0, .inr (5, [.ref (u1 1), .ref (u1 3), .ref (u1 6), .ref (u1 9), .ref (u1 10), .ref (u1 14), .int (-1), .int 0, .int 99, .int 0, .int 1, .int 0])), ((u1 1), .inr (4, [.ref (u1 2), .int 0])), ((u1 2), .inl ((u2 0), 40, .inl (fun _ => 0))), ((u1 3), .inr (0, [.ref (u1 4), .ref (u1 5), .int 0])), ((u1 4), .inl ((u2 1), 10, .inl (fun _ => 0))), ((u1 5), .inl ((u2 2), 10, .inl (fun _ => 0))), ((u1 6), .inr (0, [.ref (u1 7), .ref (u1 8), .int 0])), ((u1 7), .inl ((u2 3), 10, .inl (fun _ => 0))), ((u1 8), .inl ((u2 4), 10, .inl (fun _ => 0))), ((u1 9), .inl ((u2 5), 4, .inr (.inr (.inr (.inr (va_up (va_up (va_up (va_up (fun _ => none) 0 (some (u1 15))) 1 (some (u1 17))) 2 (some (u1 19))) 3 (some (u1 21)))))))), ((u1 10), .inr (1, [.ref (u1 11), .ref (u1 12), .ref (u1 13), .int 0])), ((u1 11), .inl ((u2 6), 8, .inl (fun _ => 0))), ((u1 12), .inl ((u2 7), 8, .inl (fun _ => 0))), ((u1 13), .inl ((u2 8), 8, .inl (fun _ => 0))), ((u1 14), .inl ((u2 9), 4, .inr (.inr (.inr (.inr (va_up (va_up (va_up (va_up (fun _ => none) 0 (some (u1 23))) 1 (some (u1 25))) 2 (some (u1 27))) 3 (some (u1 29)))))))), ((u1 15), .inr (3, [.ref (u1 16), .int 0, .int 0, .int 0, .int 0])), ((u1 16), .inl ((u2 10), 10, .inl (fun _ => 0))), ((u1 17), .inr (3, [.ref (u1 18), .int 0, .int 0, .int 0, .int 0])), ((u1 18), .inl ((u2 11), 10, .inl (fun _ => 0))), ((u1 19), .inr (3, [.ref (u1 20), .int 0, .int 0, .int 0, .int 0])), ((u1 20), .inl ((u2 12), 10, .inl (fun _ => 0))), ((u1 21), .inr (3, [.ref (u1 22), .int 0, .int 0, .int 0, .int 0])), ((u1 22), .inl ((u2 13), 10, .inl (fun _ => 0))), ((u1 23), .inr (2, [.ref (u1 24), .int 1, .int 0, .int 0])), ((u1 24), .inl ((u2 14), 48, .inl (fun _ => 0))), ((u1 25), .inr (2, [.ref (u1 26), .int 1, .int 0, .int 0])), ((u1 26), .inl ((u2 15), 48, .inl (fun _ => 0))), ((u1 27), .inr (2, [.ref (u1 28), .int 1, .int 0, .int 0])), ((u1 28), .inl ((u2 16), 48, .inl (fun _ => 0))), ((u1 29), .inr (2, [.ref (u1 30), .int 1, .int 0, .int 0])), ((u1 30), .inl ((u2 17), 48, .inl (fun _ => 0))), (g1, .inr (6, [.ref (v1 1), .int 0, .int 0, .ref (v1 2), .ref (v1 3), .int 0, .int 99, .int 0, .int 1, .ref (v1 4), .int 0, .int 0, .int 0, .ref (v1 5), .int 0, .ref (v1 6), .ref (v1 7), .ref (v1 8), .ref (v1 9), .ref (v1 10), .ref (v1 11), .ref (v1 12), .ref (v1 13), .ref (v1 14), .int 0])), ((v1 1), .inl ((v2 0), 40, .inl (fun _ => 0))), ((v1 2), .inl ((v2 1), 11, .inl (fun _ => 0))), ((v1 3), .inl ((v2 2), 11, .inl (fun _ => 0))), ((v1 4), .inl ((v2 3), 11, .inl (fun _ => 0))), ((v1 5), .inl ((v2 4), 11, .inl (fun _ => 0))), ((v1 6), .inl ((v2 5), 8, .inl (fun _ => 0))), ((v1 7), .inl ((v2 6), 8, .inl (fun _ => 0))), ((v1 8), .inl ((v2 7), 8, .inl (fun _ => 0))), ((v1 9), .inl ((v2 8), 44, .inl (fun _ => 0))), ((v1 10), .inl ((v2 9), 4, .inl (fun _ => 0))), ((v1 11), .inl ((v2 10), 4, .inl (fun _ => 0))), ((v1 12), .inl ((v2 11), 4, .inl (fun _ => 0))), ((v1 13), .inl ((v2 12), 192, .inl (fun _ => 0))), ((v1 14), .inl ((v2 13), 48, .inl (fun _ => 0)))] H) (hD : va_D A [(g0, .inr (5, [.ref (u1 1), .ref (u1 3), .ref (u1 6), .ref (u1 9), .ref (u1 10), .ref (u1 14), .int (-1), .int 0, .int 99, .int 0, .int 1, .int 0])), ((u1 1), .inr (4, [.ref (u1 2), .int 0])), ((u1 2), .inl ((u2 0), 40, .inl (fun _ => 0))), ((u1 3), .inr (0, [.ref (u1 4), .ref (u1 5), .int 0])), ((u1 4), .inl ((u2 1), 10, .inl (fun _ => 0))), ((u1 5), .inl ((u2 2), 10, .inl (fun _ => 0))), ((u1 6), .inr (0, [.ref (u1 7), .ref (u1 8), .int 0])), ((u1 7), .inl ((u2 3), 10, .inl (fun _ => 0))), ((u1 8), .inl ((u2 4), 10, .inl (fun _ => 0))), ((u1 9), .inl ((u2 5), 4, .inr (.inr (.inr (.inr (va_up (va_up (va_up (va_up (fun _ => none) 0 (some (u1 15))) 1 (some (u1 17))) 2 (some (u1 19))) 3 (some (u1 21)))))))), ((u1 10), .inr (1, [.ref (u1 11), .ref (u1 12), .ref (u1 13), .int 0])), ((u1 11), .inl ((u2 6), 8, .inl (fun _ => 0))), ((u1 12), .inl ((u2 7), 8, .inl (fun _ => 0))), ((u1 13), .inl ((u2 8), 8, .inl (fun _ => 0))), ((u1 14), .inl ((u2 9), 4, .inr (.inr (.inr (.inr (va_up (va_up (va_up (va_up (fun _ => none) 0 (some (u1 23))) 1 (some (u1 25))) 2 (some (u1 27))) 3 (some (u1 29)))))))), ((u1 15), .inr (3, [.ref (u1 16), .int 0, .int 0, .int 0, .int 0])), ((u1 16), .inl ((u2 10), 10, .inl (fun _ => 0))), ((u1 17), .inr (3, [.ref (u1 18), .int 0, .int 0, .int 0, .int 0])), ((u1 18), .inl ((u2 11), 10, .inl (fun _ => 0))), ((u1 19), .inr (3, [.ref (u1 20), .int 0, .int 0, .int 0, .int 0])), ((u1 20), .inl ((u2 12), 10, .inl (fun _ => 0))), ((u1 21), .inr (3, [.ref (u1 22), .int 0, .int 0, .int 0, .int 0])), ((u1 22), .inl ((u2 13), 10, .inl (fun _ => 0))), ((u1 23), .inr (2, [.ref (u1 24), .int 1, .int 0, .int 0])), ((u1 24), .inl ((u2 14), 48, .inl (fun _ => 0))), ((u1 25), .inr (2, [.ref (u1 26), .int 1, .int 0, .int 0])), ((u1 26), .inl ((u2 15), 48, .inl (fun _ => 0))), ((u1 27), .inr (2, [.ref (u1 28), .int 1, .int 0, .int 0])), ((u1 28), .inl ((u2 16), 48, .inl (fun _ => 0))), ((u1 29), .inr (2, [.ref (u1 30), .int 1, .int 0, .int 0])), ((u1 30), .inl ((u2 17), 48, .inl (fun _ => 0))), (g1, .inr (6, [.ref (v1 1), .int 0, .int 0, .ref (v1 2), .ref (v1 3), .int 0, .int 99, .int 0, .int 1, .ref (v1 4), .int 0, .int 0, .int 0, .ref (v1 5), .int 0, .ref (v1 6), .ref (v1 7), .ref (v1 8), .ref (v1 9), .ref (v1 10), .ref (v1 11), .ref (v1 12), .ref (v1 13), .ref (v1 14), .int 0])), ((v1 1), .inl ((v2 0), 40, .inl (fun _ => 0))), ((v1 2), .inl ((v2 1), 11, .inl (fun _ => 0))), ((v1 3), .inl ((v2 2), 11, .inl (fun _ => 0))), ((v1 4), .inl ((v2 3), 11, .inl (fun _ => 0))), ((v1 5), .inl ((v2 4), 11, .inl (fun _ => 0))), ((v1 6), .inl ((v2 5), 8, .inl (fun _ => 0))), ((v1 7), .inl ((v2 6), 8, .inl (fun _ => 0))), ((v1 8), .inl ((v2 7), 8, .inl (fun _ => 0))), ((v1 9), .inl ((v2 8), 44, .inl (fun _ => 0))), ((v1 10), .inl ((v2 9), 4, .inl (fun _ => 0))), ((v1 11), .inl ((v2 10), 4, .inl (fun _ => 0))), ((v1 12), .inl ((v2 11), 4, .inl (fun _ => 0))), ((v1 13), .inl ((v2 12), 192, .inl (fun _ => 0))), ((v1 14), .inl ((v2 13), 48, .inl (fun _ => 0)))]) (hA : ∀ q, A q → s.heap.size ≤ q) (hN : ∀ w ∈ nestW, va_Nw w s) :
    ∃ G : Gt, G.1 = l ∧ ad G 0 = g0 ∧ ad G 31 = g1 ∧ KK G s ∧ wInj G ∧ (∀ a, a < NC → s.heap.size ≤ ad G a) ∧ va_P G.2.2.1 classes (world G hp0) H := by
  obtain ⟨G, hG⟩ : ∃ G : Gt, G = ((l, adf g0 g1 u1 v1, (dC, dI), clf (u2 0) (v2 9) (u2 5) (u2 9)) : Gt) := ⟨_, rfl⟩
  have had : ∀ a, ad G a = adf g0 g1 u1 v1 a := fun a => by rw [hG]; rfl
  have hcl : ∀ a, G.2.2.2 a = clf (u2 0) (v2 9) (u2 5) (u2 9) a := fun a => by rw [hG]
  have hGD : G.2.2.1 = (dC, dI) := by rw [hG]
  have key : ∀ a, a < 46 → ∃ q, ([(g0, .inr (5, [.ref (u1 1), .ref (u1 3), .ref (u1 6), .ref (u1 9), .ref (u1 10), .ref (u1 14), .int (-1), .int 0, .int 99, .int 0, .int 1, .int 0])), ((u1 1), .inr (4, [.ref (u1 2), .int 0])), ((u1 2), .inl ((u2 0), 40, .inl (fun _ => 0))), ((u1 3), .inr (0, [.ref (u1 4), .ref (u1 5), .int 0])), ((u1 4), .inl ((u2 1), 10, .inl (fun _ => 0))), ((u1 5), .inl ((u2 2), 10, .inl (fun _ => 0))), ((u1 6), .inr (0, [.ref (u1 7), .ref (u1 8), .int 0])), ((u1 7), .inl ((u2 3), 10, .inl (fun _ => 0))), ((u1 8), .inl ((u2 4), 10, .inl (fun _ => 0))), ((u1 9), .inl ((u2 5), 4, .inr (.inr (.inr (.inr (va_up (va_up (va_up (va_up (fun _ => none) 0 (some (u1 15))) 1 (some (u1 17))) 2 (some (u1 19))) 3 (some (u1 21)))))))), ((u1 10), .inr (1, [.ref (u1 11), .ref (u1 12), .ref (u1 13), .int 0])), ((u1 11), .inl ((u2 6), 8, .inl (fun _ => 0))), ((u1 12), .inl ((u2 7), 8, .inl (fun _ => 0))), ((u1 13), .inl ((u2 8), 8, .inl (fun _ => 0))), ((u1 14), .inl ((u2 9), 4, .inr (.inr (.inr (.inr (va_up (va_up (va_up (va_up (fun _ => none) 0 (some (u1 23))) 1 (some (u1 25))) 2 (some (u1 27))) 3 (some (u1 29)))))))), ((u1 15), .inr (3, [.ref (u1 16), .int 0, .int 0, .int 0, .int 0])), ((u1 16), .inl ((u2 10), 10, .inl (fun _ => 0))), ((u1 17), .inr (3, [.ref (u1 18), .int 0, .int 0, .int 0, .int 0])), ((u1 18), .inl ((u2 11), 10, .inl (fun _ => 0))), ((u1 19), .inr (3, [.ref (u1 20), .int 0, .int 0, .int 0, .int 0])), ((u1 20), .inl ((u2 12), 10, .inl (fun _ => 0))), ((u1 21), .inr (3, [.ref (u1 22), .int 0, .int 0, .int 0, .int 0])), ((u1 22), .inl ((u2 13), 10, .inl (fun _ => 0))), ((u1 23), .inr (2, [.ref (u1 24), .int 1, .int 0, .int 0])), ((u1 24), .inl ((u2 14), 48, .inl (fun _ => 0))), ((u1 25), .inr (2, [.ref (u1 26), .int 1, .int 0, .int 0])), ((u1 26), .inl ((u2 15), 48, .inl (fun _ => 0))), ((u1 27), .inr (2, [.ref (u1 28), .int 1, .int 0, .int 0])), ((u1 28), .inl ((u2 16), 48, .inl (fun _ => 0))), ((u1 29), .inr (2, [.ref (u1 30), .int 1, .int 0, .int 0])), ((u1 30), .inl ((u2 17), 48, .inl (fun _ => 0))), (g1, .inr (6, [.ref (v1 1), .int 0, .int 0, .ref (v1 2), .ref (v1 3), .int 0, .int 99, .int 0, .int 1, .ref (v1 4), .int 0, .int 0, .int 0, .ref (v1 5), .int 0, .ref (v1 6), .ref (v1 7), .ref (v1 8), .ref (v1 9), .ref (v1 10), .ref (v1 11), .ref (v1 12), .ref (v1 13), .ref (v1 14), .int 0])), ((v1 1), .inl ((v2 0), 40, .inl (fun _ => 0))), ((v1 2), .inl ((v2 1), 11, .inl (fun _ => 0))), ((v1 3), .inl ((v2 2), 11, .inl (fun _ => 0))), ((v1 4), .inl ((v2 3), 11, .inl (fun _ => 0))), ((v1 5), .inl ((v2 4), 11, .inl (fun _ => 0))), ((v1 6), .inl ((v2 5), 8, .inl (fun _ => 0))), ((v1 7), .inl ((v2 6), 8, .inl (fun _ => 0))), ((v1 8), .inl ((v2 7), 8, .inl (fun _ => 0))), ((v1 9), .inl ((v2 8), 44, .inl (fun _ => 0))), ((v1 10), .inl ((v2 9), 4, .inl (fun _ => 0))), ((v1 11), .inl ((v2 10), 4, .inl (fun _ => 0))), ((v1 12), .inl ((v2 11), 4, .inl (fun _ => 0))), ((v1 13), .inl ((v2 12), 192, .inl (fun _ => 0))), ((v1 14), .inl ((v2 13), 48, .inl (fun _ => 0)))] : va_W)[a]? = some q ∧ q.1 = adf g0 g1 u1 v1 a := by
    intro a ha
    match a, ha with
    | 0, _ => exact ⟨_, rfl, rfl⟩
    | 1, _ => exact ⟨_, rfl, rfl⟩
    | 2, _ => exact ⟨_, rfl, rfl⟩
    | 3, _ => exact ⟨_, rfl, rfl⟩
    | 4, _ => exact ⟨_, rfl, rfl⟩
    | 5, _ => exact ⟨_, rfl, rfl⟩
    | 6, _ => exact ⟨_, rfl, rfl⟩
    | 7, _ => exact ⟨_, rfl, rfl⟩
    | 8, _ => exact ⟨_, rfl, rfl⟩
    | 9, _ => exact ⟨_, rfl, rfl⟩
    | 10, _ => exact ⟨_, rfl, rfl⟩
    | 11, _ => exact ⟨_, rfl, rfl⟩
    | 12, _ => exact ⟨_, rfl, rfl⟩
    | 13, _ => exact ⟨_, rfl, rfl⟩
    | 14, _ => exact ⟨_, rfl, rfl⟩
    | 15, _ => exact ⟨_, rfl, rfl⟩
    | 16, _ => exact ⟨_, rfl, rfl⟩
    | 17, _ => exact ⟨_, rfl, rfl⟩
    | 18, _ => exact ⟨_, rfl, rfl⟩
    | 19, _ => exact ⟨_, rfl, rfl⟩
    | 20, _ => exact ⟨_, rfl, rfl⟩
    | 21, _ => exact ⟨_, rfl, rfl⟩
    | 22, _ => exact ⟨_, rfl, rfl⟩
    | 23, _ => exact ⟨_, rfl, rfl⟩
    | 24, _ => exact ⟨_, rfl, rfl⟩
    | 25, _ => exact ⟨_, rfl, rfl⟩
    | 26, _ => exact ⟨_, rfl, rfl⟩
    | 27, _ => exact ⟨_, rfl, rfl⟩
    | 28, _ => exact ⟨_, rfl, rfl⟩
    | 29, _ => exact ⟨_, rfl, rfl⟩
    | 30, _ => exact ⟨_, rfl, rfl⟩
    | 31, _ => exact ⟨_, rfl, rfl⟩
    | 32, _ => exact ⟨_, rfl, rfl⟩
    | 33, _ => exact ⟨_, rfl, rfl⟩
    | 34, _ => exact ⟨_, rfl, rfl⟩
    | 35, _ => exact ⟨_, rfl, rfl⟩
    | 36, _ => exact ⟨_, rfl, rfl⟩
    | 37, _ => exact ⟨_, rfl, rfl⟩
    | 38, _ => exact ⟨_, rfl, rfl⟩
    | 39, _ => exact ⟨_, rfl, rfl⟩
    | 40, _ => exact ⟨_, rfl, rfl⟩
    | 41, _ => exact ⟨_, rfl, rfl⟩
    | 42, _ => exact ⟨_, rfl, rfl⟩
    | 43, _ => exact ⟨_, rfl, rfl⟩
    | 44, _ => exact ⟨_, rfl, rfl⟩
    | 45, _ => exact ⟨_, rfl, rfl⟩
    | k + 46, hn => exact absurd hn (by omega)
  refine ⟨G, by rw [hG], had 0, had 31, ⟨?_, hN⟩, ?_, ?_, ?_⟩
  · rw [hGD, tysOf, hcl, hcl, hcl, hcl]
    exact hK.sub [0, 27, 5, 9] rfl
  · intro a b ha hb he
    obtain ⟨q1, e1, f1⟩ := key a ha
    obtain ⟨q2, e2, f2⟩ := key b hb
    rw [had, had, ← f1, ← f2] at he
    exact hD.1 a b q1 q2 e1 e2 he
  · intro a ha
    obtain ⟨q1, e1, f1⟩ := key a ha
    rw [had, ← f1]
    exact hA _ (hD.2 a q1 e1)
  · have E1 : u2 1 = u2 0 := int_same (ty := .int) (hK.2 0 _ rfl).2 (hK.2 1 _ rfl).2
    have E2 : u2 2 = u2 0 := int_same (ty := .int) (hK.2 0 _ rfl).2 (hK.2 2 _ rfl).2
    have E3 : u2 3 = u2 0 := int_same (ty := .int) (hK.2 0 _ rfl).2 (hK.2 3 _ rfl).2
    have E4 : u2 4 = u2 0 := int_same (ty := .int) (hK.2 0 _ rfl).2 (hK.2 4 _ rfl).2
    have E6 : u2 6 = u2 0 := int_same (ty := .int) (hK.2 0 _ rfl).2 (hK.2 6 _ rfl).2
    have E7 : u2 7 = u2 0 := int_same (ty := .int) (hK.2 0 _ rfl).2 (hK.2 7 _ rfl).2
    have E8 : u2 8 = u2 0 := int_same (ty := .int) (hK.2 0 _ rfl).2 (hK.2 8 _ rfl).2
    have E10 : u2 10 = u2 0 := int_same (ty := .int) (hK.2 0 _ rfl).2 (hK.2 10 _ rfl).2
    have E11 : u2 11 = u2 0 := int_same (ty := .int) (hK.2 0 _ rfl).2 (hK.2 11 _ rfl).2
    have E12 : u2 12 = u2 0 := int_same (ty := .int) (hK.2 0 _ rfl).2 (hK.2 12 _ rfl).2
    have E13 : u2 13 = u2 0 := int_same (ty := .int) (hK.2 0 _ rfl).2 (hK.2 13 _ rfl).2
    have E14 : u2 14 = u2 0 := int_same (ty := .int) (hK.2 0 _ rfl).2 (hK.2 14 _ rfl).2
    have E15 : u2 15 = u2 0 := int_same (ty := .int) (hK.2 0 _ rfl).2 (hK.2 15 _ rfl).2
    have E16 : u2 16 = u2 0 := int_same (ty := .int) (hK.2 0 _ rfl).2 (hK.2 16 _ rfl).2
    have E17 : u2 17 = u2 0 := int_same (ty := .int) (hK.2 0 _ rfl).2 (hK.2 17 _ rfl).2
    have E18 : v2 0 = u2 0 := int_same (ty := .int) (hK.2 0 _ rfl).2 (hK.2 18 _ rfl).2
    have E19 : v2 1 = u2 0 := int_same (ty := .int) (hK.2 0 _ rfl).2 (hK.2 19 _ rfl).2
    have E20 : v2 2 = u2 0 := int_same (ty := .int) (hK.2 0 _ rfl).2 (hK.2 20 _ rfl).2
    have E21 : v2 3 = u2 0 := int_same (ty := .int) (hK.2 0 _ rfl).2 (hK.2 21 _ rfl).2
    have E22 : v2 4 = u2 0 := int_same (ty := .int) (hK.2 0 _ rfl).2 (hK.2 22 _ rfl).2
    have E23 : v2 5 = u2 0 := int_same (ty := .int) (hK.2 0 _ rfl).2 (hK.2 23 _ rfl).2
    have E24 : v2 6 = u2 0 := int_same (ty := .int) (hK.2 0 _ rfl).2 (hK.2 24 _ rfl).2
    have E25 : v2 7 = u2 0 := int_same (ty := .int) (hK.2 0 _ rfl).2 (hK.2 25 _ rfl).2
    have E26 : v2 8 = u2 0 := int_same (ty := .int) (hK.2 0 _ rfl).2 (hK.2 26 _ rfl).2
    have E28 : v2 10 = u2 0 := int_same (ty := .int) (hK.2 0 _ rfl).2 (hK.2 28 _ rfl).2
    have E29 : v2 11 = u2 0 := int_same (ty := .int) (hK.2 0 _ rfl).2 (hK.2 29 _ rfl).2
    have E30 : v2 12 = u2 0 := int_same (ty := .int) (hK.2 0 _ rfl).2 (hK.2 30 _ rfl).2
    have E31 : v2 13 = u2 0 := int_same (ty := .int) (hK.2 0 _ rfl).2 (hK.2 31 _ rfl).2
    intro k q hk
    have hn : k < NC := by have := (List.getElem?_eq_some_iff.mp hk).1; simpa [world] using this
    rw [world_at hn] at hk
    cases hk
    rw [hGD]
    match k, hn with
    | 0, _ =>
      refine at_O (fs := [.ref (u1 1), .ref (u1 3), .ref (u1 6), .ref (u1 9), .ref (u1 10), .ref (u1 14), .int (-1), .int 0, .int 99, .int 0, .int 1, .int 0]) rfl (had 0) ?_ (hP 0 _ rfl)
      simp only [flds, cellG, had]
      rfl
    | 1, _ =>
      refine at_O (fs := [.ref (u1 2), .int 0]) rfl (had 1) ?_ (hP 1 _ rfl)
      simp only [flds, cellG, had]
      rfl
    | 2, _ => exact at_A rfl (by decide) (had 2) ((hcl 0).symm) rfl (hP 2 _ rfl)
    | 3, _ =>
      refine at_O (fs := [.ref (u1 4), .ref (u1 5), .int 0]) rfl (had 3) ?_ (hP 3 _ rfl)
      simp only [flds, cellG, had]
      rfl
    | 4, _ => exact at_A rfl (by decide) (had 4) (E1.trans (hcl 0).symm) rfl (hP 4 _ rfl)
    | 5, _ => exact at_A rfl (by decide) (had 5) (E2.trans (hcl 0).symm) rfl (hP 5 _ rfl)
    | 6, _ =>
      refine at_O (fs := [.ref (u1 7), .ref (u1 8), .int 0]) rfl (had 6) ?_ (hP 6 _ rfl)
      simp only [flds, cellG, had]
      rfl
    | 7, _ => exact at_A rfl (by decide) (had 7) (E3.trans (hcl 0).symm) rfl (hP 7 _ rfl)
    | 8, _ => exact at_A rfl (by decide) (had 8) (E4.trans (hcl 0).symm) rfl (hP 8 _ rfl)
    | 9, _ =>
      refine at_R rfl (by decide) (had 9) (hcl 2).symm (fun j hj => ?_) (hP 9 _ rfl)
      rw [had]
      match j, hj with
      | 0, _ => rfl
      | 1, _ => rfl
      | 2, _ => rfl
      | 3, _ => rfl
      | j + 4, hj => exact absurd hj (by omega)
    | 10, _ =>
      refine at_O (fs := [.ref (u1 11), .ref (u1 12), .ref (u1 13), .int 0]) rfl (had 10) ?_ (hP 10 _ rfl)
      simp only [flds, cellG, had]
      rfl
    | 11, _ => exact at_A rfl (by decide) (had 11) (E6.trans (hcl 0).symm) rfl (hP 11 _ rfl)
    | 12, _ => exact at_A rfl (by decide) (had 12) (E7.trans (hcl 0).symm) rfl (hP 12 _ rfl)
    | 13, _ => exact at_A rfl (by decide) (had 13) (E8.trans (hcl 0).symm) rfl (hP 13 _ rfl)
    | 14, _ =>
      refine at_R rfl (by decide) (had 14) (hcl 3).symm (fun j hj => ?_) (hP 14 _ rfl)
      rw [had]
      match j, hj with
      | 0, _ => rfl
      | 1, _ => rfl
      | 2, _ => rfl
      | 3, _ => rfl
      | j + 4, hj => exact absurd hj (by omega)
    | 15, _ =>
      refine at_O (fs := [.ref (u1 16), .int 0, .int 0, .int 0, .int 0]) rfl (had 15) ?_ (hP 15 _ rfl)
      simp only [flds, cellG, had]
      rfl
    | 16, _ => exact at_A rfl (by decide) (had 16) (E10.trans (hcl 0).symm) rfl (hP 16 _ rfl)
    | 17, _ =>
      refine at_O (fs := [.ref (u1 18), .int 0, .int 0, .int 0, .int 0]) rfl (had 17) ?_ (hP 17 _ rfl)
      simp only [flds, cellG, had]
      rfl
    | 18, _ => exact at_A rfl (by decide) (had 18) (E11.trans (hcl 0).symm) rfl (hP 18 _ rfl)
    | 19, _ =>
      refine at_O (fs := [.ref (u1 20), .int 0, .int 0, .int 0, .int 0]) rfl (had 19) ?_ (hP 19 _ rfl)
      simp only [flds, cellG, had]
      rfl
    | 20, _ => exact at_A rfl (by decide) (had 20) (E12.trans (hcl 0).symm) rfl (hP 20 _ rfl)
    | 21, _ =>
      refine at_O (fs := [.ref (u1 22), .int 0, .int 0, .int 0, .int 0]) rfl (had 21) ?_ (hP 21 _ rfl)
      simp only [flds, cellG, had]
      rfl
    | 22, _ => exact at_A rfl (by decide) (had 22) (E13.trans (hcl 0).symm) rfl (hP 22 _ rfl)
    | 23, _ =>
      refine at_O (fs := [.ref (u1 24), .int 1, .int 0, .int 0]) rfl (had 23) ?_ (hP 23 _ rfl)
      simp only [flds, cellG, had]
      rfl
    | 24, _ => exact at_A rfl (by decide) (had 24) (E14.trans (hcl 0).symm) rfl (hP 24 _ rfl)
    | 25, _ =>
      refine at_O (fs := [.ref (u1 26), .int 1, .int 0, .int 0]) rfl (had 25) ?_ (hP 25 _ rfl)
      simp only [flds, cellG, had]
      rfl
    | 26, _ => exact at_A rfl (by decide) (had 26) (E15.trans (hcl 0).symm) rfl (hP 26 _ rfl)
    | 27, _ =>
      refine at_O (fs := [.ref (u1 28), .int 1, .int 0, .int 0]) rfl (had 27) ?_ (hP 27 _ rfl)
      simp only [flds, cellG, had]
      rfl
    | 28, _ => exact at_A rfl (by decide) (had 28) (E16.trans (hcl 0).symm) rfl (hP 28 _ rfl)
    | 29, _ =>
      refine at_O (fs := [.ref (u1 30), .int 1, .int 0, .int 0]) rfl (had 29) ?_ (hP 29 _ rfl)
      simp only [flds, cellG, had]
      rfl
    | 30, _ => exact at_A rfl (by decide) (had 30) (E17.trans (hcl 0).symm) rfl (hP 30 _ rfl)
    | 31, _ =>
      refine at_O (fs := [.ref (v1 1), .int 0, .int 0, .ref (v1 2), .ref (v1 3), .int 0, .int 99, .int 0, .int 1, .ref (v1 4), .int 0, .int 0, .int 0, .ref (v1 5), .int 0, .ref (v1 6), .ref (v1 7), .ref (v1 8), .ref (v1 9), .ref (v1 10), .ref (v1 11), .ref (v1 12), .ref (v1 13), .ref (v1 14), .int 0]) rfl (had 31) ?_ (hP 31 _ rfl)
      simp only [flds, cellG, had]
      rfl
    | 32, _ => exact at_A rfl (by decide) (had 32) (E18.trans (hcl 0).symm) rfl (hP 32 _ rfl)
    | 33, _ => exact at_A rfl (by decide) (had 33) (E19.trans (hcl 0).symm) rfl (hP 33 _ rfl)
    | 34, _ => exact at_A rfl (by decide) (had 34) (E20.trans (hcl 0).symm) rfl (hP 34 _ rfl)
    | 35, _ => exact at_A rfl (by decide) (had 35) (E21.trans (hcl 0).symm) rfl (hP 35 _ rfl)
    | 36, _ => exact at_A rfl (by decide) (had 36) (E22.trans (hcl 0).symm) rfl (hP 36 _ rfl)
    | 37, _ => exact at_A rfl (by decide) (had 37) (E23.trans (hcl 0).symm) rfl (hP 37 _ rfl)
    | 38, _ => exact at_A rfl (by decide) (had 38) (E24.trans (hcl 0).symm) rfl (hP 38 _ rfl)
    | 39, _ => exact at_A rfl (by decide) (had 39) (E25.trans (hcl 0).symm) rfl (hP 39 _ rfl)
    | 40, _ => exact at_A rfl (by decide) (had 40) (E26.trans (hcl 0).symm) rfl (hP 40 _ rfl)
    | 41, _ => exact at_A rfl (by decide) (had 41) ((hcl 1).symm) rfl (hP 41 _ rfl)
    | 42, _ => exact at_A rfl (by decide) (had 42) (E28.trans (hcl 0).symm) rfl (hP 42 _ rfl)
    | 43, _ => exact at_A rfl (by decide) (had 43) (E29.trans (hcl 0).symm) rfl (hP 43 _ rfl)
    | 44, _ => exact at_A rfl (by decide) (had 44) (E30.trans (hcl 0).symm) rfl (hP 44 _ rfl)
    | 45, _ => exact at_A rfl (by decide) (had 45) (E31.trans (hcl 0).symm) rfl (hP 45 _ rfl)
    | k + 46, hn => exact absurd hn (by unfold NC; omega)
