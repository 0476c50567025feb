/-! PURE: put, get -/
def lk (th : Bool) (f f' z : Nat) (u : Int32) : Nat := if th = false then 1 else if f = f' then (if inN u z = true then 0 else 2) else 3
theorem C_refusal {h : Hp} {s f f' z : Nat} {th : Bool} (u : Int32) (hs : s < 4) (hf : f < 3) (hf' : f' < 3) (hz : z ≤ 48) (s4 : h (23 + 2 * s) 1 = (if th = true then 0 else 1)) (s5 : h (23 + 2 * s) 2 = nI f) (s7 : h (23 + 2 * s) 3 = nI z) :
    f_C_refusalOfItem (nI s) (nI f') u h = if lk th f f' z u = 0 then some (0, h) else some ((-10) - nI (lk th f f' z u), hset h 0 11 (nI (lk th f f' z u))) := by
  unfold f_C_refusalOfItem f_C_found
  rw [C_isSheet, ns hs, bnd_some, if_neg (by decide), C_isForm, inN_nI hf' (by omega), bnd_some, if_neg (by decide), chk_nI hs (by omega), ix_nI (by omega), s4, s5, s7]
  cases th with
  | false => rfl
  | true =>
    rw [if_pos (by decide)]
    unfold lk
    rw [if_neg (show ¬ true = false by decide)]
    by_cases e : f = f'
    · rw [if_pos e, if_pos (by rw [e])]
      by_cases hu : inN u z = true
      · obtain ⟨i, hi, rfl⟩ := inN_ex hu (by omega)
        rw [if_pos hu, if_pos rfl, if_neg (nI_pos (by omega)), if_pos (nI_lt hi (by omega))]
      · rw [if_neg hu, if_neg (show ¬ 2 = 0 by decide)]
        by_cases q : u < 0
        · rw [if_pos q]; rfl
        · rw [if_neg q, if_neg (fun w => hu ((inN_lt u (by omega)).mp ⟨q, w⟩))]; rfl
    · rw [if_neg e, if_neg (fun w => e (nI_inj (by omega) (by omega) w)), if_neg (show ¬ 3 = 0 by decide)]; rfl
theorem M_lacks {h : Hp} {s f f' z : Nat} {th : Bool} (u : Int32) (hs : s < 4) (hf : f < 3) (hf' : f' < 3) (hz : z ≤ 48) (s3 : h 41 s = (if th = true then 1 else 0)) (s6 : h 42 s = nI f) (s8 : h 43 s = nI z) :
    f_M_lacks (nI s) (nI f') u h = some (nI (lk th f f' z u), h) := by
  unfold f_M_lacks
  rw [chk_nI hs (by omega), ix_nI (by omega), s3, s6, s8, chk_nI hs (by omega), chk_nI hs (by omega), in_pred u (by omega), bnd_some]
  cases th with
  | false => rfl
  | true =>
    rw [if_neg (by decide)]
    unfold lk
    rw [if_neg (show ¬ true = false by decide)]
    by_cases e : f = f'
    · rw [if_pos e, if_pos (by rw [e])]
      cases inN u z <;> rfl
    · rw [if_neg e, if_neg (fun w => e (nI_inj (by omega) (by omega) w))]; rfl
def nar (f : Nat) (v : Int32) : Int32 := if f = 0 then (Int32.toInt8 v).toInt32 else if f = 1 then (Int32.toInt16 v).toInt32 else v
theorem Sh_store {h : Hp} {a f z i : Nat} (v : Int32) (hf : f < 3) (hz : z ≤ 48) (hi : i < z) (s5 : h a 2 = nI f) (s7 : h a 3 = nI z) : f_Sh_store a (nI i) v h = some ((), hset h (a + 1) i (nar f v)) := by
  unfold f_Sh_store nar
  rw [if_neg (nI_pos (by omega)), s7, if_pos (nI_lt hi (by omega)), s5, chk_nI (by omega) (by omega), chk_nI (by omega) (by omega), chk_nI (by omega) (by omega), ix_nI (by omega)]
  match f, hf with
  | 0, _ => rfl
  | 1, _ => rfl
  | 2, _ => rfl
theorem M_keep {h : Hp} {s f i : Nat} (v : Int32) (hs : s < 4) (hf : f < 3) (hi : i < 48) (s6 : h 42 s = nI f) : f_M_keep (nI s) (nI i) v h = some ((), hset h 44 (48 * s + i) (nar f v)) := by
  unfold f_M_keep nar
  rw [chk_nI hs (by omega), ix_nI (by omega), s6, chk_nI hs (by omega), ix48, chk_nI (by omega) (by omega), chk_nI (by omega) (by omega), chk_nI (by omega) (by omega), ix_nI (by omega)]
  match f, hf with
  | 0, _ => rfl
  | 1, _ => rfl
  | 2, _ => rfl
theorem lk_lt (th : Bool) (f f' z : Nat) (u : Int32) : lk th f f' z u ≤ 3 := by
  unfold lk
  split
  · omega
  · split
    · split <;> omega
    · omega
theorem item_set {h : Hp} {s i : Nat} (v : Int32) (hr : Rel h) (hs : s < 4) (hi : i < 48) : Rel (hset (hset h (24 + 2 * s) i v) 44 (48 * s + i) v) := by
  obtain ⟨th, f, z, s1, s2, s3, s4, s5, s6, s7, s8, s9⟩ := hr.2.2.2 s hs
  refine sheet_ok hr hs (fun b c1 c2 c3 c4 c5 c6 c7 => by rw [hset_off c6, hset_off c2]) (fun t ht => by rw [hset_ne (by omega), hset_ne (by omega)]) (fun t ht => by rw [hset_ne (by omega), hset_ne (by omega)]) (fun t ht => by rw [hset_ne (by omega), hset_ne (by omega)]) (fun j hj => by rw [hset_ne (by omega), hset_ne (by omega)]) ⟨th, f, z, s1, s2, by rw [hset_ne (by omega), hset_ne (by omega)]; exact s3, by rw [hset_ne (by omega), hset_ne (by omega)]; exact s4, by rw [hset_ne (by omega), hset_ne (by omega)]; exact s5, by rw [hset_ne (by omega), hset_ne (by omega)]; exact s6, by rw [hset_ne (by omega), hset_ne (by omega)]; exact s7, by rw [hset_ne (by omega), hset_ne (by omega)]; exact s8, fun k hk => ?_⟩
  by_cases e : k = i
  · subst e; rw [hset_eq, hset_ne (by omega), hset_eq]
  · rw [hset_ne (by omega), hset_ne (by omega), hset_ne (by omega), hset_ne (by omega)]; exact s9 k hk
theorem op_put (x1 x2 x3 x4 : Int32) : OpOK Rel (f_C_put x1 x2 x3 x4) (f_M_put x1 x2 x3 x4) := by
  intro h hr
  by_cases h1 : inN x1 4 = true
  · by_cases h2 : inN x2 3 = true
    · obtain ⟨s, hs, rfl⟩ := inN_ex h1 (by omega)
      obtain ⟨f', hf', rfl⟩ := inN_ex h2 (by omega)
      obtain ⟨th, f, z, s1, s2, s3, s4, s5, s6, s7, s8, s9⟩ := hr.2.2.2 s hs
      have eC := C_refusal (f' := f') x3 hs s1 hf' s2 s4 s5 s7
      by_cases h0 : lk th f f' z x3 = 0
      · rw [if_pos h0] at eC
        have hz3 : inN x3 z = true := by
          unfold lk at h0
          split at h0
          · omega
          · split at h0
            · split at h0
              · assumption
              · omega
            · omega
        obtain ⟨i, hi, rfl⟩ := inN_ex hz3 (by omega)
        have z6 : (hset h (23 + 2 * s + 1) i (nar f x4)) 42 s = nI f := by rw [hset_ne (by omega)]; exact s6
        have eM := M_lacks (h := hset h (23 + 2 * s + 1) i (nar f x4)) (f' := f') (th := th) (nI i) hs s1 hf' s2 (by rw [hset_ne (by omega)]; exact s3) z6 (by rw [hset_ne (by omega)]; exact s8)
        refine ⟨1, hset h (23 + 2 * s + 1) i (nar f x4), hset (hset h (23 + 2 * s + 1) i (nar f x4)) 44 (48 * s + i) (nar f x4), ?_, ?_, ?_⟩
        · unfold f_C_put
          rw [eC, bnd_some, if_pos rfl, chk_nI hs (by omega), ix_nI (by omega), Sh_store x4 s1 s2 hi s5 s7, bnd_some]
        · unfold f_M_put
          rw [M_isSheet, h1, bnd_some, if_neg (by decide), M_form, h2, bnd_some, if_neg (by decide), eM, h0, bnd_some, if_pos (by decide), M_keep x4 hs s1 (by omega) z6, bnd_some]
        · have := item_set (i := i) (nar f x4) hr hs (by omega)
          rw [show 23 + 2 * s + 1 = 24 + 2 * s by omega]; exact this
      · rw [if_neg h0] at eC
        have hl := lk_lt th f f' z x3
        generalize hk : lk th f f' z x3 = q at eC h0 hl
        have z41 : ∀ c, c ≠ 0 → (hset h 0 11 (nI q)) c = h c := fun c hc => hset_off hc
        have eM := M_lacks (h := hset h 0 11 (nI q)) (f' := f') (th := th) x3 hs s1 hf' s2 (by rw [z41 41 (by omega)]; exact s3) (by rw [z41 42 (by omega)]; exact s6) (by rw [z41 43 (by omega)]; exact s8)
        rw [hk] at eM
        refine ⟨(-10) - nI q, hset h 0 11 (nI q), hset (hset h 0 11 (nI q)) 31 24 (nI q), ?_, ?_, found_ok hr _⟩
        · unfold f_C_put
          rw [eC, bnd_some, if_neg (show ¬ (-10) - nI q = 0 by rcases (show q = 1 ∨ q = 2 ∨ q = 3 by omega) with rfl | rfl | rfl <;> decide)]
        · unfold f_M_put f_M_meets
          rw [M_isSheet, h1, bnd_some, if_neg (by decide), M_form, h2, bnd_some, if_neg (by decide), eM, bnd_some, if_neg (nI_nle (by omega) (by omega)), bnd_some]
    · refine ⟨-2, h, h, ?_, ?_, hr⟩
      · unfold f_C_put f_C_refusalOfItem
        rw [C_isSheet, h1, bnd_some, if_neg (by decide), C_isForm, bnd_some, if_neg h2, if_pos rfl, bnd_some, if_neg (by decide)]
      · unfold f_M_put
        rw [M_isSheet, h1, bnd_some, if_neg (by decide), M_form, bnd_some, if_neg h2, if_pos rfl]
  · refine ⟨-2, h, h, ?_, ?_, hr⟩
    · unfold f_C_put f_C_refusalOfItem
      rw [C_isSheet, bnd_some, if_neg h1, if_pos rfl, bnd_some, if_neg (by decide)]
    · unfold f_M_put
      rw [M_isSheet, bnd_some, if_neg h1, if_pos rfl]
theorem op_get (x1 x2 x3 : Int32) : OpOK Rel (f_C_get x1 x2 x3) (f_M_get x1 x2 x3) := by
  intro h hr
  by_cases h1 : inN x1 4 = true
  · by_cases h2 : inN x2 3 = true
    · obtain ⟨s, hs, rfl⟩ := inN_ex h1 (by omega)
      obtain ⟨f', hf', rfl⟩ := inN_ex h2 (by omega)
      obtain ⟨th, f, z, s1, s2, s3, s4, s5, s6, s7, s8, s9⟩ := hr.2.2.2 s hs
      have eC := C_refusal (f' := f') x3 hs s1 hf' s2 s4 s5 s7
      by_cases h0 : lk th f f' z x3 = 0
      · rw [if_pos h0] at eC
        have hz3 : inN x3 z = true := by
          unfold lk at h0
          split at h0
          · omega
          · split at h0
            · split at h0
              · assumption
              · omega
            · omega
        obtain ⟨i, hi, rfl⟩ := inN_ex hz3 (by omega)
        have eM := M_lacks (h := h) (f' := f') (th := th) (nI i) hs s1 hf' s2 s3 s6 s8
        refine ⟨h 44 (48 * s + i), h, h, ?_, ?_, hr⟩
        · unfold f_C_get
          rw [eC, bnd_some, if_pos rfl, chk_nI hs (by omega), chk_nI (by omega) (by omega), ix_nI (by omega), ix_nI (by omega), show 23 + 2 * s + 1 = 24 + 2 * s by omega, s9 i hi]
        · unfold f_M_get
          rw [M_isSheet, h1, bnd_some, if_neg (by decide), M_form, h2, bnd_some, if_neg (by decide), eM, h0, bnd_some, if_pos (by decide), ix48, chk_nI (by omega) (by omega), ix_nI (by omega)]
      · rw [if_neg h0] at eC
        have hl := lk_lt th f f' z x3
        generalize hk : lk th f f' z x3 = q at eC h0 hl
        have z41 : ∀ c, c ≠ 0 → (hset h 0 11 (nI q)) c = h c := fun c hc => hset_off hc
        have eM := M_lacks (h := hset h 0 11 (nI q)) (f' := f') (th := th) x3 hs s1 hf' s2 (by rw [z41 41 (by omega)]; exact s3) (by rw [z41 42 (by omega)]; exact s6) (by rw [z41 43 (by omega)]; exact s8)
        rw [hk] at eM
        refine ⟨-2147483648, hset h 0 11 (nI q), hset (hset h 0 11 (nI q)) 31 24 (nI q), ?_, ?_, found_ok hr _⟩
        · unfold f_C_get
          rw [eC, bnd_some, if_neg (show ¬ (-10) - nI q = 0 by rcases (show q = 1 ∨ q = 2 ∨ q = 3 by omega) with rfl | rfl | rfl <;> decide)]
        · unfold f_M_get
          rw [M_isSheet, h1, bnd_some, if_neg (by decide), M_form, h2, bnd_some, if_neg (by decide), eM, bnd_some, if_neg (nI_nle (by omega) (by omega))]
    · refine ⟨-2147483648, h, h, ?_, ?_, hr⟩
      · unfold f_C_get f_C_refusalOfItem
        rw [C_isSheet, h1, bnd_some, if_neg (by decide), C_isForm, bnd_some, if_neg h2, if_pos rfl, bnd_some, if_neg (by decide)]
      · unfold f_M_get
        rw [M_isSheet, h1, bnd_some, if_neg (by decide), M_form, bnd_some, if_neg h2, if_pos rfl]
  · refine ⟨-2147483648, h, h, ?_, ?_, hr⟩
    · unfold f_C_get f_C_refusalOfItem
      rw [C_isSheet, bnd_some, if_neg h1, if_pos rfl, bnd_some, if_neg (by decide)]
    · unfold f_M_get
      rw [M_isSheet, bnd_some, if_neg h1, if_pos rfl]
