/-! PURE: count -/
def bcE (x0 : Int32) : Int32 := match f_In_bitCount x0 (fun _ _ => 0) with
  | none => 0
  | some q => q.1
theorem bc_E (u : Int32) (h : Hp) : f_In_bitCount u h = some (bcE u, h) := rfl
def sbits (fr : Nat → Bool) : Nat → Int32
  | 0 => 0
  | k + 1 => sbits fr k + (if fr k = true then 1 else 0)
theorem sbits_congr {fr fr' : Nat → Bool} : ∀ {n : Nat}, (∀ k, k < n → fr k = fr' k) → sbits fr n = sbits fr' n
  | 0, _ => rfl
  | n + 1, h => by rw [sbits, sbits, h n (by omega), sbits_congr (n := n) (fun k hk => h k (by omega))]
theorem sbits_cut {fr : Nat → Bool} {n : Nat} : ∀ {m : Nat}, n ≤ m → (∀ k, n ≤ k → k < m → fr k = false) → sbits fr m = sbits fr n
  | 0, h, _ => by have : n = 0 := by omega
                  subst this; rfl
  | m + 1, h, hf => by
    by_cases e : n = m + 1
    · subst e; rfl
    · rw [sbits, hf m (by omega) (by omega), sbits_cut (m := m) (by omega) (fun k h1 h2 => hf k h1 (by omega))]
      simp
theorem bc_b : ((List.range 1024).all fun v => decide (bcE (nI v) = sbits (bt (nI v)) 10)) = true := by decide +kernel
theorem bc_v {v : Nat} (hv : v < 1024) : bcE (nI v) = sbits (bt (nI v)) 10 := by
  have := List.all_eq_true.mp bc_b v (List.mem_range.mpr hv)
  simpa using this
theorem all_n : ∀ n, n < 12 → (((1 : Int32) <<< (nI n &&& 31)) - 1).toBitVec.toNat = 2 ^ n - 1 := by decide
theorem and_all {n : Nat} (hn : n ≤ 10) (f : Int32) : ∃ v, v < 1024 ∧ (((1 : Int32) <<< (nI n &&& 31)) - 1) &&& f = nI v := by
  have e := pk_and f (m := ((1 : Int32) <<< (nI n &&& 31)) - 1) n (all_n n (by omega))
  refine ⟨f.toBitVec.toNat % 2 ^ n, ?_, ?_⟩
  · have h1 : f.toBitVec.toNat % 2 ^ n < 2 ^ n := Nat.mod_lt _ (Nat.two_pow_pos n)
    have h2 : 2 ^ n ≤ 2 ^ 10 := Nat.pow_le_pow_right (by omega) hn
    omega
  · rw [← e]
    apply Int32.toBitVec_inj.mp
    rw [Int32.toBitVec_and, Int32.toBitVec_and, BitVec.and_comm]
def sumR (f : Nat → Nat) : Nat → Nat → Nat
  | _, 0 => 0
  | lo, c + 1 => f lo + sumR f (lo + 1) c
theorem sumR_last (f : Nat → Nat) : ∀ (c lo : Nat), sumR f lo (c + 1) = sumR f lo c + f (lo + c)
  | 0, lo => by simp [sumR]
  | c + 1, lo => by
    rw [sumR, sumR_last f c (lo + 1), sumR, show lo + 1 + c = lo + (c + 1) by omega]; omega
theorem sumR_congr {f g : Nat → Nat} : ∀ (c lo : Nat), (∀ k, lo ≤ k → k < lo + c → f k = g k) → sumR f lo c = sumR g lo c
  | 0, _, _ => rfl
  | c + 1, lo, h => by rw [sumR, sumR, h lo (by omega) (by omega), sumR_congr c (lo + 1) (fun k h1 h2 => h k (by omega) (by omega))]
theorem sumR_add (f g : Nat → Nat) : ∀ (c lo : Nat), sumR (fun k => f k + g k) lo c = sumR f lo c + sumR g lo c
  | 0, _ => rfl
  | c + 1, lo => by rw [sumR, sumR, sumR, sumR_add f g c (lo + 1)]; omega
theorem sumR_le {f : Nat → Nat} {b : Nat} : ∀ (c lo : Nat), (∀ k, lo ≤ k → k < lo + c → f k ≤ b) → sumR f lo c ≤ b * c
  | 0, _, _ => Nat.zero_le _
  | c + 1, lo, h => by
    have h1 := h lo (by omega) (by omega)
    have h2 := sumR_le c (lo + 1) (fun k g1 g2 => h k (by omega) (by omega))
    rw [sumR, Nat.mul_add, Nat.mul_one]; omega
theorem farN_symm (x y : Nat → Nat) (p q : Nat) : farN x y p q = farN x y q p := by unfold farN; omega
def sC (x y : Nat → Nat) (n : Nat) : Nat := sumR (fun a => sumR (farN x y a) (a + 1) (n - (a + 1))) 0 n
def sM (x y : Nat → Nat) (n : Nat) : Nat := sumR (fun a => sumR (farN x y a) 0 a) 0 n
theorem sC_M (x y : Nat → Nat) : ∀ n, sC x y n = sM x y n
  | 0 => rfl
  | n + 1 => by
    have e1 : sC x y (n + 1) = sC x y n + sumR (fun a => farN x y a n) 0 n := by
      unfold sC
      rw [sumR_last, show (0 + n) = n by omega, show n + 1 - (n + 1) = 0 by omega]
      rw [sumR_congr (g := fun a => sumR (farN x y a) (a + 1) (n - (a + 1)) + farN x y a n) n 0 (fun a _ ha => by
        show sumR (farN x y a) (a + 1) (n + 1 - (a + 1)) = _
        rw [show n + 1 - (a + 1) = (n - (a + 1)) + 1 by omega, sumR_last, show a + 1 + (n - (a + 1)) = n by omega]), sumR_add]
      rfl
    have e2 : sM x y (n + 1) = sM x y n + sumR (farN x y n) 0 n := by
      unfold sM
      rw [sumR_last, show (0 + n) = n by omega]
    rw [e1, e2, sC_M x y n, sumR_congr n 0 (fun a _ _ => farN_symm x y a n)]
section CNT
variable {h : Hp} {n : Nat} {x y : Nat → Nat} {thr hun rea : Nat} {hid flt : Int32}
theorem C_pairs (c : Ctx h n x y thr hun rea hid flt) : f_Fr_apartOfAllPairs 3 h = some (nI (sC x y n), h) := by
  have hn := c.1.1
  have inner : ∀ (K : Nat → Int32 → Int32 → Hp → Option (Int32 × Hp)) (a : Nat), a < n → ∀ (j k m acc : Nat), k + j = n → j < m → l_Fr_apartOfAllPairs_16 K m 3 (nI acc) (nI a) (nI k) h = K 3 (nI (acc + sumR (farN x y a) k j)) (nI (a + 1)) h := by
    intro K a ha j
    induction j with
    | zero =>
      intro k m acc hk hm
      obtain ⟨m, rfl⟩ : ∃ m', m = m' + 1 := ⟨m - 1, by omega⟩
      rw [l_Fr_apartOfAllPairs_16, c.2.1.1, if_pos (nI_le (by omega) (by omega)), nI_1]; rfl
    | succ j ih =>
      intro k m acc hk hm
      obtain ⟨m, rfl⟩ : ∃ m', m = m' + 1 := ⟨m - 1, by omega⟩
      rw [l_Fr_apartOfAllPairs_16, c.2.1.1, if_neg (nI_ge (by omega) (by omega)), Fr_apart c.2.1.2.1 hn ha (by omega), bnd_some, nI_add, nI_1, ih (k + 1) m _ (by omega) (by omega), sumR, Nat.add_assoc]
  have outer : ∀ (j k m acc : Nat), k + j = n → j < m → l_Fr_apartOfAllPairs_4 m 3 (nI acc) (nI k) h = some (nI (acc + sumR (fun a => sumR (farN x y a) (a + 1) (n - (a + 1))) k j), h) := by
    intro j
    induction j with
    | zero =>
      intro k m acc hk hm
      obtain ⟨m, rfl⟩ : ∃ m', m = m' + 1 := ⟨m - 1, by omega⟩
      rw [l_Fr_apartOfAllPairs_4, c.2.1.1, if_pos (nI_le (by omega) (by omega))]; rfl
    | succ j ih =>
      intro k m acc hk hm
      obtain ⟨m, rfl⟩ : ∃ m', m = m' + 1 := ⟨m - 1, by omega⟩
      rw [l_Fr_apartOfAllPairs_4, c.2.1.1, if_neg (nI_ge (by omega) (by omega)), nI_1, inner _ k (by omega) (n - (k + 1)) (k + 1) FUEL acc (by omega) (by unfold FUEL; omega), ih (k + 1) m _ (by omega) (by omega), sumR, Nat.add_assoc]
  unfold f_Fr_apartOfAllPairs sC
  have := outer n 0 FUEL 0 (by omega) (by unfold FUEL; omega)
  rw [Nat.zero_add] at this
  exact this
theorem M_sumL (c : Ctx h n x y thr hun rea hid flt) (hM : MP h n x y) (w : Int32) : f_M_sumOf w h = bnd (f_M_faultNow h) fun _ h1 => l_M_sumOf_10 FUEL w 0 0 h1 := rfl
theorem M_sum7 (c : Ctx h n x y thr hun rea hid flt) (hM : MP h n x y) : l_M_sumOf_10 FUEL 7 0 0 h = some (nI (sM x y n), h) := by
  have hn := c.1.1
  have inner : ∀ (K : Int32 → Int32 → Int32 → Hp → Option (Int32 × Hp)) (a : Nat), a < n → ∀ (j k m acc : Nat), k + j = a → j < m → l_M_sumOf_43 K m 7 (nI acc) (nI a) (nI k) h = K 7 (nI (acc + sumR (farN x y a) k j)) (nI (a + 1)) h := by
    intro K a ha j
    induction j with
    | zero =>
      intro k m acc hk hm
      obtain ⟨m, rfl⟩ : ∃ m', m = m' + 1 := ⟨m - 1, by omega⟩
      rw [l_M_sumOf_43, if_pos (nI_le (by omega) (by omega)), nI_1]; rfl
    | succ j ih =>
      intro k m acc hk hm
      obtain ⟨m, rfl⟩ : ∃ m', m = m' + 1 := ⟨m - 1, by omega⟩
      rw [l_M_sumOf_43, if_neg (nI_ge (by omega) (by omega)), if_pos rfl, M_farOf hM.2 (by omega) ha (by omega), bnd_some, nI_add, nI_1, ih (k + 1) m _ (by omega) (by omega), sumR, Nat.add_assoc]
  have outer : ∀ (j k m acc : Nat), k + j = n → j < m → l_M_sumOf_10 m 7 (nI acc) (nI k) h = some (nI (acc + sumR (fun a => sumR (farN x y a) 0 a) k j), h) := by
    intro j
    induction j with
    | zero =>
      intro k m acc hk hm
      obtain ⟨m, rfl⟩ : ∃ m', m = m' + 1 := ⟨m - 1, by omega⟩
      rw [l_M_sumOf_10, hM.1, if_pos (nI_le (by omega) (by omega)), if_neg (by decide)]; rfl
    | succ j ih =>
      intro k m acc hk hm
      obtain ⟨m, rfl⟩ : ∃ m', m = m' + 1 := ⟨m - 1, by omega⟩
      rw [l_M_sumOf_10, hM.1, if_neg (nI_ge (by omega) (by omega)), if_neg (by decide), show nI acc + 0 = nI acc from by simp, show (0 : Int32) = nI 0 from rfl, inner _ k (by omega) k 0 FUEL acc (by omega) (by unfold FUEL; omega), ih (k + 1) m _ (by omega) (by omega), sumR, Nat.add_assoc]
  have := outer n 0 FUEL 0 (by omega) (by unfold FUEL; omega)
  rw [Nat.zero_add] at this
  exact this
theorem M_sumB (c : Ctx h n x y thr hun rea hid flt) (hM : MP h n x y) (w : Int32) (hw : ¬ w = 7) : ∀ (j k m : Nat) (acc : Int32), k + j = n → j < m → acc = (if w = 2 then sbits (bt hid) k else 0) → l_M_sumOf_10 m w acc (nI k) h = some (if w = 0 then nI n else (if w = 2 then sbits (bt hid) n else 0), h) := by
  have hn := c.1.1
  intro j
  induction j with
  | zero =>
    intro k m acc hk hm ha
    obtain ⟨m, rfl⟩ : ∃ m', m = m' + 1 := ⟨m - 1, by omega⟩
    have : k = n := by omega
    subst this
    rw [l_M_sumOf_10, hM.1, if_pos (nI_le (by omega) (by omega)), ha]
    split <;> rfl
  | succ j ih =>
    intro k m acc hk hm ha
    obtain ⟨m, rfl⟩ : ∃ m', m = m' + 1 := ⟨m - 1, by omega⟩
    have skip : ∀ (K : Int32 → Int32 → Int32 → Hp → Option (Int32 × Hp)) (v : Int32), l_M_sumOf_43 K FUEL w v (nI k) 0 h = K w v (nI (k + 1)) h := by
      intro K v
      show l_M_sumOf_43 K (4999 + 1) w v (nI k) 0 h = _
      rw [l_M_sumOf_43, if_neg hw, nI_1]
      split <;> rfl
    rw [l_M_sumOf_10, hM.1, if_neg (nI_ge (by omega) (by omega)), skip, skip, c.2.2.1.1, bt_shr hid (by omega)]
    by_cases w2 : w = 2
    · rw [if_pos w2]
      exact ih (k + 1) m _ (by omega) (by omega) (by rw [if_pos w2, ha, if_pos w2, sbits])
    · rw [if_neg w2]
      exact ih (k + 1) m _ (by omega) (by omega) (by rw [if_neg w2, ha, if_neg w2]; rfl)
def cntV (x y : Nat → Nat) (n : Nat) (hid : Int32) (w : Int32) : Int32 := if w = 0 then nI n else if w = 2 then sbits (bt hid) n else nI (sM x y n)
theorem C_bits (c : Ctx h n x y thr hun rea hid flt) : bnd (f_Fr_all 3 h) (fun r4 h4 => bnd (f_In_bitCount (r4 &&& (h4 0 7)) h4) fun r5 h5 => some (r5, h5)) = some (sbits (bt hid) n, h) := by
  have hn := c.1.1
  unfold f_Fr_all
  rw [bnd_some, c.2.1.1, c.2.1.2.2.1, bc_E, bnd_some]
  obtain ⟨v, hv, e⟩ := and_all hn hid
  rw [e, bc_v hv, ← e]
  rw [sbits_cut (n := n) (by omega) (fun k h1 h2 => by rw [bt_and, bt_all n (by omega) k (by omega)]; simp; omega), sbits_congr (fr' := bt hid) (fun k hk => by rw [bt_and, bt_all n (by omega) k (by omega)]; simp [hk])]
end CNT
theorem op_count (x1 : Int32) : OpOK Rel (f_C_count x1) (f_M_count x1) := by
  intro h hr
  obtain ⟨n, x, y, thr, hun, rea, hid, flt, c⟩ := hr.ctx
  have hn := c.1.1
  obtain ⟨r1, r2, r3, r4⟩ := id hr
  obtain ⟨tl, -, t2, t3, -⟩ := r1
  obtain ⟨-, -, -, ns, -, k2, k3, -⟩ := r3
  have hs : ∀ w : Int32, w = 0 ∨ w = 2 ∨ w = 7 → ∃ h2, f_M_sumOf w h = some (cntV x y n hid w, h2) ∧ Same h h2 := by
    intro w hw
    obtain ⟨g, a1, a2, a3, a4⟩ := c.fault
    refine ⟨g, ?_, a2⟩
    unfold f_M_sumOf
    rw [a1, bnd_some]
    rcases hw with rfl | rfl | rfl
    · exact M_sumB a4 a3 0 (by decide) n 0 FUEL 0 (by omega) (by unfold FUEL; omega) rfl
    · exact M_sumB a4 a3 2 (by decide) n 0 FUEL 0 (by omega) (by unfold FUEL; omega) rfl
    · exact M_sum7 a4 a3
  unfold f_C_count f_M_count
  by_cases q0 : x1 = 0
  · obtain ⟨h2, e, s⟩ := hs x1 (Or.inl q0)
    refine ⟨nI n, h, h2, by rw [if_pos q0, c.2.1.1], ?_, hr.same s⟩
    rw [if_pos q0, e, bnd_some]; unfold cntV; rw [if_pos q0]
  · by_cases q1 : x1 = 1
    · exact ⟨nI tl, h, h, by rw [if_neg q0, if_pos q1, t2], by rw [if_neg q0, if_pos q1, t3], hr⟩
    · by_cases q2 : x1 = 2
      · obtain ⟨h2, e, s⟩ := hs x1 (Or.inr (Or.inl q2))
        refine ⟨sbits (bt hid) n, h, h2, by rw [if_neg q0, if_neg q1, if_pos q2]; exact C_bits c, ?_, hr.same s⟩
        rw [if_neg q0, if_neg q1, if_pos q2, e, bnd_some]; unfold cntV; rw [if_neg q0, if_pos q2]
      · by_cases q3 : x1 = 3
        · exact ⟨nI thr, h, h, by rw [if_neg q0, if_neg q1, if_neg q2, if_pos q3, c.2.1.2.2.2.1], by rw [if_neg q0, if_neg q1, if_neg q2, if_pos q3, c.2.2.1.2.1], hr⟩
        · by_cases q4 : x1 = 4
          · exact ⟨nI hun, h, h, by rw [if_neg q0, if_neg q1, if_neg q2, if_neg q3, if_pos q4, c.2.1.2.2.2.2.1], by rw [if_neg q0, if_neg q1, if_neg q2, if_neg q3, if_pos q4, c.2.2.1.2.2.1], hr⟩
          · by_cases q5 : x1 = 5
            · exact ⟨nI rea, h, h, by rw [if_neg q0, if_neg q1, if_neg q2, if_neg q3, if_neg q4, if_pos q5, c.2.1.2.2.2.2.2.1], by rw [if_neg q0, if_neg q1, if_neg q2, if_neg q3, if_neg q4, if_pos q5, c.2.2.1.2.2.2], hr⟩
            · by_cases q6 : x1 = 6
              · exact ⟨nI ns, h, h, by rw [if_neg q0, if_neg q1, if_neg q2, if_neg q3, if_neg q4, if_neg q5, if_pos q6, k2], by rw [if_neg q0, if_neg q1, if_neg q2, if_neg q3, if_neg q4, if_neg q5, if_pos q6, k3], hr⟩
              · by_cases q7 : x1 = 7
                · obtain ⟨h2, e, s⟩ := hs x1 (Or.inr (Or.inr q7))
                  refine ⟨nI (sM x y n), h, h2, by rw [if_neg q0, if_neg q1, if_neg q2, if_neg q3, if_neg q4, if_neg q5, if_neg q6, if_pos q7, C_pairs c, bnd_some, sC_M], ?_, hr.same s⟩
                  rw [if_neg q0, if_neg q1, if_neg q2, if_neg q3, if_neg q4, if_neg q5, if_neg q6, if_pos q7, e, bnd_some]; unfold cntV; rw [if_neg q0, if_neg q2]
                · by_cases q8 : x1 = 8
                  · exact ⟨h 31 24, h, h, by rw [if_neg q0, if_neg q1, if_neg q2, if_neg q3, if_neg q4, if_neg q5, if_neg q6, if_neg q7, if_pos q8, r2.2.2.2.2], by rw [if_neg q0, if_neg q1, if_neg q2, if_neg q3, if_neg q4, if_neg q5, if_neg q6, if_neg q7, if_pos q8], hr⟩
                  · exact ⟨-2, h, h, by rw [if_neg q0, if_neg q1, if_neg q2, if_neg q3, if_neg q4, if_neg q5, if_neg q6, if_neg q7, if_neg q8], by rw [if_neg q0, if_neg q1, if_neg q2, if_neg q3, if_neg q4, if_neg q5, if_neg q6, if_neg q7, if_neg q8], hr⟩
