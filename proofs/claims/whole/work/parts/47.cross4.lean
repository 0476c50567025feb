section CRV
variable {h : Hp} {n : Nat} {x y : Nat → Nat} {thr hun rea : Nat} {hid flt : Int32}
def croV (x y : Nat → Nat) (n hun thr : Nat) (hid : Int32) (p l : Nat) : Int32 := if bt hid p = true then -3 else itr (crO x y (rowP x y n hun thr hid p l)) ((rowP x y n hun thr hid p l).length - 1) 0 0
theorem C_crossesP (c : Ctx h n x y thr hun rea hid flt) {p l : Nat} (hp : p < n) (hl : l < 4) : Ans (f_C_crosses (nI p) (nI l)) (croV x y n hun thr hid p l) h := by
  have hn := c.1.1
  unfold Ans f_C_crosses
  rw [C_can c, inN_nI hp (by omega), inN_nI hl (by omega), bnd_some, if_neg (by decide), C_isHidden c (by omega), bnd_some]
  unfold croV
  cases hb : bt hid p with
  | true => exact ⟨h, by rw [if_neg (by decide), if_pos rfl], Same.rf h⟩
  | false =>
    obtain ⟨h', g1, g2, g3, g4⟩ := C_layS c (Or.inl rfl) hp hl hid
    have o := rowP_ok (x := x) (y := y) (hun := hun) (thr := thr) (hid := hid) hn hp l
    have o1 := o.1
    have u := C_cr2 (c.same g4) (R := rowP x y n hun thr hid p l) g2.2.1 g2.1 o.1 (fun k hk => rowP_lt hp hk) ((rowP x y n hun thr hid p l).length - 1) 0 FUEL 0 (by omega) (by omega) (show (rowP x y n hun thr hid p l).length - 1 < 5000 by omega)
    rw [show nI 0 = (0 : Int32) from rfl] at u
    rw [if_pos (by decide), chk40, c.2.1.2.2.1, g1, bnd_some, if_neg (show ¬ false = true by decide)]
    exact ⟨h', u, g4⟩
theorem M_crossesOf (c : Ctx h n x y thr hun rea hid flt) (hM : MP h n x y) {p l : Nat} (hp : p < n) (hl : l < 4) : AnsM n x y (f_M_crossesOf (nI p) (nI l)) (croV x y n hun thr hid p l) h := by
  have hn := c.1.1
  unfold AnsM f_M_crossesOf
  rw [M_isHidden c (by omega), bnd_some]
  unfold croV
  cases hb : bt hid p with
  | true => exact ⟨h, by rw [if_neg (by decide), if_pos rfl], Same.rf h, hM⟩
  | false =>
    obtain ⟨h', g1, g2, g3, g4, g5, g6⟩ := M_layS c hM hp hl hid
    have o := rowP_ok (x := x) (y := y) (hun := hun) (thr := thr) (hid := hid) hn hp l
    have o1 := o.1
    have u := M_cr2 g6 g5 (R := rowP x y n hun thr hid p l) g2.2.1 g2.1 o.1 (fun k hk => rowP_lt hp hk) (fun k hk => row_ne hk) ((rowP x y n hun thr hid p l).length - 1) 0 FUEL 0 (by omega) (by omega) (show (rowP x y n hun thr hid p l).length - 1 < 5000 by omega)
    rw [show nI 0 = (0 : Int32) from rfl] at u
    rw [if_pos (by decide), c.2.2.1.1, g1, bnd_some, if_neg (show ¬ false = true by decide)]
    exact ⟨h', u, g4, g5⟩
end CRV
theorem op_crosses (x1 x2 : Int32) : OpOK Rel (f_C_crosses x1 x2) (f_M_crosses x1 x2) := by
  refine op_of (fun h n x y thr hun rea hid flt c => ?_)
  have hn := c.1.1
  by_cases hb : (inN x1 n && inN x2 4) = true
  · obtain ⟨b1, b2⟩ := Bool.and_eq_true_iff.mp hb
    obtain ⟨p, hp, rfl⟩ := inN_ex b1 (by omega)
    obtain ⟨l, hl, rfl⟩ := inN_ex b2 (by omega)
    refine ⟨_, C_crossesP c hp hl, fun g cg => ?_⟩
    obtain ⟨h1, g1, g2, g3, g4⟩ := M_isWeb cg (nI p) (nI l)
    obtain ⟨h2, k1, k2, k3⟩ := M_crossesOf g4 g3 hp hl
    refine ⟨h2, ?_, g2.tr k2⟩
    unfold f_M_crosses
    rw [g1, hb, bnd_some, if_neg (by decide), k1, bnd_some]
  · refine ⟨-2, ⟨h, ?_, Same.rf h⟩, fun g cg => ?_⟩
    · unfold f_C_crosses
      rw [C_can c, bnd_some, if_neg hb, if_pos rfl]
    · obtain ⟨h1, g1, g2, g3, g4⟩ := M_isWeb cg x1 x2
      refine ⟨h1, ?_, g2⟩
      unfold f_M_crosses
      rw [g1, bnd_some, if_neg hb, if_pos rfl]
