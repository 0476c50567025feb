/-! PURE: digest: its loops -/
theorem Sm.loop0 {ρ σ : Type} {D J J' : Hp → Prop} {Fc Fm : Nat → σ → Int32 → Hp → Option (ρ × Hp)} {N : Nat} (hN : N < 5000)
    (hend : ∀ m m' s, Sm D J J' (Fc (m + 1) s (nI N)) (Fm (m' + 1) s (nI N)))
    (hstep : ∀ m m' k s, k < N → (∀ s', Sm D J J' (Fc m s' (nI (k + 1))) (Fm m' s' (nI (k + 1)))) → Sm D J J' (Fc (m + 1) s (nI k)) (Fm (m' + 1) s (nI k))) (s : σ) : Sm D J J' (Fc FUEL s 0) (Fm FUEL s 0) := by
  have w := Sm.loop hend hstep N 0 s FUEL FUEL (Nat.zero_add N) (by unfold FUEL; exact hN) (by unfold FUEL; exact hN)
  rw [show nI 0 = (0 : Int32) from rfl] at w
  exact w
section DL
variable {n : Nat} {x y : Nat → Nat} {thr hun rea : Nat} {hid flt : Int32} {ns : Nat} {F T Q : Nat → Nat} {tl : Nat}
theorem dc_same (h g : Hp) (s : Same h g) (d : DC n x y thr hun rea hid flt ns F T Q tl h) : DC n x y thr hun rea hid flt ns F T Q tl g := d.same s
theorem dg_143 (h0 : ∃ h, DC n x y thr hun rea hid flt ns F T Q tl h) (s : Int64) : Sm (DC n x y thr hun rea hid flt ns F T Q tl) (DC n x y thr hun rea hid flt ns F T Q tl) (DC n x y thr hun rea hid flt ns F T Q tl) (l_C_digest_143 FUEL s 0) (l_M_digest_263 FUEL s 0) := by
  refine Sm.loop0 (Fc := l_C_digest_143) (Fm := l_M_digest_263) (N := 3) (by omega) ?_ ?_ s
  · intro m m' s
    refine Sm.cg (Sm.bind dc_same (sm_hv h0 (hv_more 0 0 5 5)) (fun a => Sm.bind dc_same sm_fits (fun b => Sm.bind dc_same sm_tells (fun c => Sm.pure ((31 * ((31 * ((31 * s) + (Int32.toInt64 a))) + (Int32.toInt64 b))) + (Int32.toInt64 c)))))) (fun h _ => ?_) (fun h _ => ?_)
    · show l_C_digest_143 (m + 1) s (nI 3) h = _
      rw [l_C_digest_143, if_pos (show (3 : Int32) ≤ nI 3 by decide)]
    · show l_M_digest_263 (m' + 1) s (nI 3) h = _
      rw [l_M_digest_263, if_pos (show (3 : Int32) ≤ nI 3 by decide)]
  · intro m m' k s hk ih
    refine Sm.cg (Sm.bind dc_same (sm_hv h0 (hv_two 0 0 1 1 (nI k))) (fun a => ih ((31 * s) + (Int32.toInt64 a)))) (fun h _ => ?_) (fun h _ => ?_)
    · show l_C_digest_143 (m + 1) s (nI k) h = _
      rw [l_C_digest_143, if_neg (show ¬ (3 : Int32) ≤ nI k from nI_ge (b := 3) hk (by omega)), nI_1]
    · show l_M_digest_263 (m' + 1) s (nI k) h = _
      rw [l_M_digest_263, if_neg (show ¬ (3 : Int32) ≤ nI k from nI_ge (b := 3) hk (by omega)), nI_1]
theorem dg_114 (s : Int64) (h : Hp) : l_C_digest_114 FUEL s 0 h = bnd (f_C_last 0 0 1 0 h) fun a h1 => bnd (f_C_last 0 0 1 1 h1) fun b h2 => l_C_digest_143 FUEL ((31 * ((31 * s) + (Int32.toInt64 a))) + (Int32.toInt64 b)) 0 h2 := by
  have key : ∀ f : Nat, f = FUEL → l_C_digest_114 f s 0 h = bnd (f_C_last 0 0 1 0 h) fun a h1 => bnd (f_C_last 0 0 1 1 h1) fun b h2 => l_C_digest_143 FUEL ((31 * ((31 * s) + (Int32.toInt64 a))) + (Int32.toInt64 b)) 0 h2 := by
    intro f hf
    obtain ⟨m, rfl⟩ : ∃ m, f = m + 3 := ⟨f - 3, by unfold FUEL at hf; omega⟩
    have e2 : ∀ s h, l_C_digest_114 (m + 1) s 2 h = l_C_digest_143 FUEL s 0 h := by
      intro s h
      rw [l_C_digest_114, if_pos (show (2 : Int32) ≤ 2 by decide)]
    have e1 : ∀ s h, l_C_digest_114 (m + 2) s 1 h = bnd (f_C_last 0 0 1 1 h) fun b h2 => l_C_digest_143 FUEL ((31 * s) + (Int32.toInt64 b)) 0 h2 := by
      intro s h
      rw [l_C_digest_114, if_neg (show ¬ (2 : Int32) ≤ 1 by decide), show (1 : Int32) + 1 = 2 from rfl]
      exact congrArg _ (funext fun a => funext fun g => e2 _ g)
    rw [l_C_digest_114, if_neg (show ¬ (2 : Int32) ≤ 0 by decide), show (0 : Int32) + 1 = 1 from rfl]
    exact congrArg _ (funext fun a => funext fun g => e1 _ g)
  exact key FUEL rfl
theorem dg_88 (h0 : ∃ h, DC n x y thr hun rea hid flt ns F T Q tl h) (s : Int64) : Sm (DC n x y thr hun rea hid flt ns F T Q tl) (DC n x y thr hun rea hid flt ns F T Q tl) (DC n x y thr hun rea hid flt ns F T Q tl) (l_C_digest_88 FUEL s 0) (l_M_digest_205 FUEL s 0) := by
  refine Sm.loop0 (Fc := l_C_digest_88) (Fm := l_M_digest_205) (N := 4) (by omega) ?_ ?_ s
  · intro m m' s
    refine Sm.cg (Sm.bind dc_same (sm_hv h0 (hv_last 0 0 1 0)) (fun a => Sm.bind dc_same (sm_hv h0 (hv_last 0 0 1 1)) (fun b => dg_143 h0 ((31 * ((31 * s) + (Int32.toInt64 a))) + (Int32.toInt64 b))))) (fun h _ => ?_) (fun h _ => ?_)
    · show l_C_digest_88 (m + 1) s (nI 4) h = _
      rw [l_C_digest_88, if_pos (show (4 : Int32) ≤ nI 4 by decide), dg_114]
    · show l_M_digest_205 (m' + 1) s (nI 4) h = _
      rw [l_M_digest_205, if_pos (show (4 : Int32) ≤ nI 4 by decide)]
  · intro m m' k s hk ih
    refine Sm.cg (Sm.bind dc_same (sm_begin hk) (fun a => ih ((31 * s) + (Int32.toInt64 a)))) (fun h _ => ?_) (fun h _ => ?_)
    · show l_C_digest_88 (m + 1) s (nI k) h = _
      rw [l_C_digest_88, if_neg (show ¬ (4 : Int32) ≤ nI k from nI_ge (b := 4) hk (by omega)), nI_1]
    · show l_M_digest_205 (m' + 1) s (nI k) h = _
      rw [l_M_digest_205, if_neg (show ¬ (4 : Int32) ≤ nI k from nI_ge (b := 4) hk (by omega)), nI_1]
theorem dg_mix {p l : Nat} (hp : p < n) (hl : l < 4) {kc : Int64 → Hp → Option (Int64 × Hp)} {K45 : Int64 → Int32 → Hp → Option (Int64 × Hp)} {K56 : Int64 → Int32 → Int32 → Hp → Option (Int64 × Hp)} {J' : Hp → Prop} (H : ∀ v, Sm (DC n x y thr hun rea hid flt ns F T Q tl) (DM n x y thr hun rea hid flt ns F T Q tl) J' (kc v) (K56 v (nI p) (nI (l + 1)))) (s : Int64) : Sm (DC n x y thr hun rea hid flt ns F T Q tl) (DM n x y thr hun rea hid flt ns F T Q tl) J' (fun h => bnd (f_C_mixWeb s (nI p) (nI l) h) kc) (l_M_digest_65 K45 K56 FUEL s (nI p) (nI l) 0) := by
  refine Sm.cg (fc := fun h => bnd (l_C_mixWeb_6 FUEL (nI p) (nI l) s 0 h) kc) (Sm.loop0 (Fc := fun m s i h => bnd (l_C_mixWeb_6 m (nI p) (nI l) s i h) kc) (Fm := fun m s i => l_M_digest_65 K45 K56 m s (nI p) (nI l) i) (N := 3) (by omega) ?_ ?_ s) (fun h _ => by show bnd (f_C_mixWeb s (nI p) (nI l) h) kc = _; unfold f_C_mixWeb; exact Eq.refl _) (fun h _ => Eq.refl _)
  · intro m m' s
    refine Sm.cg (Sm.bind dc_same (sm_crosses hp hl) (fun a => Sm.bind dc_same (sm_turned hp hl) (fun b => Sm.bind dc_same (sm_web hp hl) (fun c => Sm.bind dc_same (sm_hangs hp hl) (fun d => Sm.bind dc_same (sm_pieces hp hl) (fun e => Sm.bind dc_same (sm_flies hp hl) (fun f => H ((31 * ((31 * ((31 * ((31 * ((31 * ((31 * s) + (Int32.toInt64 a))) + (Int32.toInt64 b))) + (Int32.toInt64 c))) + (Int32.toInt64 d))) + (Int32.toInt64 e))) + (Int32.toInt64 f))))))))) (fun h _ => ?_) (fun h _ => ?_)
    · show bnd (l_C_mixWeb_6 (m + 1) (nI p) (nI l) s (nI 3) h) kc = _
      rw [l_C_mixWeb_6, if_pos (show (3 : Int32) ≤ nI 3 by decide)]
      simp only [bnd_bnd, bnd_some]
    · show l_M_digest_65 K45 K56 (m' + 1) s (nI p) (nI l) (nI 3) h = _
      rw [l_M_digest_65, if_pos (show (3 : Int32) ≤ nI 3 by decide), nI_1]
  · intro m m' k s hk ih
    refine Sm.cg (Sm.bind dc_same (sm_length hp hl hk) (fun a => ih ((31 * s) + (Int32.toInt64 a)))) (fun h _ => ?_) (fun h _ => ?_)
    · show bnd (l_C_mixWeb_6 (m + 1) (nI p) (nI l) s (nI k) h) kc = _
      rw [l_C_mixWeb_6, if_neg (show ¬ (3 : Int32) ≤ nI k from nI_ge (b := 3) hk (by omega)), nI_1, bnd_bnd]
    · show l_M_digest_65 K45 K56 (m' + 1) s (nI p) (nI l) (nI k) h = _
      rw [l_M_digest_65, if_neg (show ¬ (3 : Int32) ≤ nI k from nI_ge (b := 3) hk (by omega)), nI_1]
theorem dg_59 {p : Nat} (hp : p < n) {KC KM : Int64 → Int32 → Hp → Option (Int64 × Hp)} {J' : Hp → Prop} (H : ∀ v, Sm (DC n x y thr hun rea hid flt ns F T Q tl) (DM n x y thr hun rea hid flt ns F T Q tl) J' (KC v (nI (p + 1))) (KM v (nI (p + 1)))) (s : Int64) : Sm (DC n x y thr hun rea hid flt ns F T Q tl) (DM n x y thr hun rea hid flt ns F T Q tl) J' (l_C_digest_59 KC FUEL s (nI p) 0) (l_M_digest_56 KM FUEL s (nI p) 0) := by
  refine Sm.loop0 (Fc := fun m s i => l_C_digest_59 KC m s (nI p) i) (Fm := fun m s i => l_M_digest_56 KM m s (nI p) i) (N := 4) (by omega) ?_ ?_ s
  · intro m m' s
    refine Sm.cg (H s) (fun h _ => ?_) (fun h _ => ?_)
    · show l_C_digest_59 KC (m + 1) s (nI p) (nI 4) h = _
      rw [l_C_digest_59, if_pos (show (4 : Int32) ≤ nI 4 by decide), nI_1]
    · show l_M_digest_56 KM (m' + 1) s (nI p) (nI 4) h = _
      rw [l_M_digest_56, if_pos (show (4 : Int32) ≤ nI 4 by decide), nI_1]
  · intro m m' k s hk ih
    refine Sm.cg (dg_mix (K45 := KM) (K56 := l_M_digest_56 KM m') (kc := fun v h => l_C_digest_59 KC m v (nI p) (nI (k + 1)) h) hp hk (fun v => ih v) s) (fun h _ => ?_) (fun h _ => ?_)
    · show l_C_digest_59 KC (m + 1) s (nI p) (nI k) h = _
      rw [l_C_digest_59, if_neg (show ¬ (4 : Int32) ≤ nI k from nI_ge (b := 4) hk (by omega)), nI_1]
    · show l_M_digest_56 KM (m' + 1) s (nI p) (nI k) h = _
      rw [l_M_digest_56, if_neg (show ¬ (4 : Int32) ≤ nI k from nI_ge (b := 4) hk (by omega))]
theorem dg_45 (h0 : ∃ h, DC n x y thr hun rea hid flt ns F T Q tl h) (s : Int64) : Sm (DC n x y thr hun rea hid flt ns F T Q tl) (DM n x y thr hun rea hid flt ns F T Q tl) (DC n x y thr hun rea hid flt ns F T Q tl) (l_C_digest_45 FUEL s 0) (l_M_digest_45 FUEL s 0) := by
  have hn : n ≤ 10 := by obtain ⟨h, d⟩ := h0; exact d.1.1.1
  refine Sm.loop0 (Fc := l_C_digest_45) (Fm := l_M_digest_45) (N := n) (by omega) ?_ ?_ s
  · intro m m' s
    refine Sm.cg (Sm.mono (dg_88 h0 s) (fun h d => d.1) (fun h d => d)) (fun h d => ?_) (fun h d => ?_)
    · show l_C_digest_45 (m + 1) s (nI n) h = _
      rw [l_C_digest_45, d.1.2.1.1, if_pos (nI_le (Nat.le_refl _) (by omega))]
    · show l_M_digest_45 (m' + 1) s (nI n) h = _
      rw [l_M_digest_45, d.2.1, if_pos (nI_le (Nat.le_refl _) (by omega))]
  · intro m m' k s hk ih
    refine Sm.cg (dg_59 (KC := l_C_digest_45 m) (KM := l_M_digest_45 m') hk (fun v => ih v) s) (fun h d => ?_) (fun h d => ?_)
    · show l_C_digest_45 (m + 1) s (nI k) h = _
      rw [l_C_digest_45, d.1.2.1.1, if_neg (nI_ge hk (by omega))]
    · show l_M_digest_45 (m' + 1) s (nI k) h = _
      rw [l_M_digest_45, d.2.1, if_neg (nI_ge hk (by omega))]
theorem dg_6 (h0 : ∃ h, DC n x y thr hun rea hid flt ns F T Q tl h) (s : Int64) : Sm (DC n x y thr hun rea hid flt ns F T Q tl) (DC n x y thr hun rea hid flt ns F T Q tl) (DC n x y thr hun rea hid flt ns F T Q tl) (l_C_digest_6 FUEL s 0) (l_M_digest_6 FUEL s 0) := by
  refine Sm.loop0 (Fc := l_C_digest_6) (Fm := l_M_digest_6) (N := 8) (by omega) ?_ ?_ s
  · intro m m' s
    refine Sm.cg (Sm.bind dc_same sm_fault (fun a => dg_45 h0 ((31 * s) + (Int32.toInt64 a)))) (fun h _ => ?_) (fun h _ => ?_)
    · show l_C_digest_6 (m + 1) s (nI 8) h = _
      rw [l_C_digest_6, if_pos (show (8 : Int32) ≤ nI 8 by decide)]
    · show l_M_digest_6 (m' + 1) s (nI 8) h = _
      rw [l_M_digest_6, if_pos (show (8 : Int32) ≤ nI 8 by decide)]
  · intro m m' k s hk ih
    refine Sm.cg (Sm.bind dc_same (sm_count (nI k) (fun z => absurd (nI_inj (a := k) (b := 8) (by omega) (by omega) z) (by omega))) (fun a => ih ((31 * s) + (Int32.toInt64 a)))) (fun h _ => ?_) (fun h _ => ?_)
    · show l_C_digest_6 (m + 1) s (nI k) h = _
      rw [l_C_digest_6, if_neg (show ¬ (8 : Int32) ≤ nI k from nI_ge (b := 8) hk (by omega)), nI_1]
    · show l_M_digest_6 (m' + 1) s (nI k) h = _
      rw [l_M_digest_6, if_neg (show ¬ (8 : Int32) ≤ nI k from nI_ge (b := 8) hk (by omega)), nI_1]
end DL
theorem op_digest : OpOK Rel f_C_digest f_M_digest := by
  intro h hr
  obtain ⟨n, x, y, thr, hun, rea, hid, flt, c⟩ := hr.ctx
  obtain ⟨ns, F, T, Q, cn⟩ := hr.nctx
  obtain ⟨tl, -, t1, t2, -⟩ := hr.1
  have d : DC n x y thr hun rea hid flt ns F T Q tl h := ⟨c, cn, t1, t2⟩
  obtain ⟨v, a, b⟩ := dg_6 ⟨h, d⟩ 17
  obtain ⟨h1, e1, s1⟩ := a h d
  obtain ⟨h2, e2, s2, -⟩ := b h1 (d.same s1)
  exact ⟨v, h1, h2, e1, e2, hr.same (s1.tr s2)⟩
