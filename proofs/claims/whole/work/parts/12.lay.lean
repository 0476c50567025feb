/-! PURE: ranks alike; the web -/
theorem rk2_b : ((List.range 10).all fun a => (List.range 10).all fun p => (List.range 10).all fun q => (p == a) || ((q == a) || (decide (rk2 10 a q ≤ rk2 10 a p) == decide (rk2 11 a q ≤ rk2 11 a p)))) = true := by decide +kernel
theorem rk2_eqv (a : Nat) (ha : a < 10) (p : Nat) (hp : p < 10) (q : Nat) (hq : q < 10) (h1 : p ≠ a) (h2 : q ≠ a) : (rk2 10 a q ≤ rk2 10 a p ↔ rk2 11 a q ≤ rk2 11 a p) := by
  have e := List.all_eq_true.mp (List.all_eq_true.mp (List.all_eq_true.mp rk2_b a (List.mem_range.mpr ha)) p (List.mem_range.mpr hp)) q (List.mem_range.mpr hq)
  simpa [h1, h2] using e
theorem nI_row (y x : Nat) : (10 : Int32) * nI y + nI x = nI (10 * y + x) := by
  rw [show (10 : Int32) = nI 10 from rfl, pk_mul, nI_add]
theorem dRow_eq (x y : Nat → Nat) (a p : Nat) : dRow x y a p = nI (10 * y p + x p) - nI (10 * y a + x a) := by
  rw [← nI_row, ← nI_row]
  unfold dRow
  generalize nI (y p) = u
  generalize nI (y a) = v
  generalize nI (x p) = w
  generalize nI (x a) = z
  grind
theorem nI_sub100 {P A : Nat} (h : A ≤ P + 100) : nI P - nI A + 100 = nI (P + 100 - A) := by
  rw [← pk_sub h, ← nI_add, show nI 100 = (100 : Int32) from rfl]
  generalize nI P = u
  generalize nI A = v
  grind
theorem rk3_eq {x y : Nat → Nat} {a p : Nat} (h1 : x p < 10) (h2 : x a < 10) (h3 : y p < 10) (h4 : y a < 10) (hne : 10 * y p + x p ≠ 10 * y a + x a) : rkC x y 3 a p = rkM x y 3 a p := by
  show (if dRow x y a p ≤ 0 then dRow x y a p + 100 else dRow x y a p) = eRow x y a p - eRow x y a p / 100 * 100
  unfold eRow
  rw [nI_row, nI_row, dRow_eq]
  generalize hP : 10 * y p + x p = P at hne ⊢
  generalize hA : 10 * y a + x a = A at hne ⊢
  rw [nI_sub100 (by omega), show (100 : Int32) = nI 100 from rfl, pk_rem (by omega) (by omega) (by omega)]
  by_cases hc : P < A
  · have hlt : nI P - nI A ≤ 0 := by
      have := pk_sneg (a := P) (b := A) (by omega) hc
      rw [le_iff]; rw [lt_iff] at this; omega
    rw [if_pos hlt]
    congr 1; omega
  · rw [pk_sub (by omega), if_neg (nI_nle (by omega) (by omega))]
    congr 1; omega
def Dist (n : Nat) (x y : Nat → Nat) : Prop := (∀ i, i < n → x i < 10 ∧ y i < 10) ∧ ∀ i j, i < n → j < n → x i = x j → y i = y j → i = j
theorem sel_M {n law a : Nat} {x y : Nat → Nat} {fr : Nat → Bool} (hD : Dist n x y) (hn : n ≤ 10) (hl : law < 4) (ha : a < n) (hfa : fr a = false) : sel (rkM x y law a) fr n = sel (rkC x y law a) fr n := by
  refine sel_congr (fun _ _ => rfl) (fun p q hp hq hfp hfq => ?_)
  have hpa : p ≠ a := fun e => by rw [e, hfa] at hfp; cases hfp
  have hqa : q ≠ a := fun e => by rw [e, hfa] at hfq; cases hfq
  have row : ∀ p, p < n → p ≠ a → 10 * y p + x p ≠ 10 * y a + x a := by
    intro p hp hpa e
    have := hD.1 p hp
    have := hD.1 a ha
    exact hpa (hD.2 p a hp ha (by omega) (by omega))
  match law, hl with
  | 0, _ => exact Iff.rfl
  | 1, _ => exact Iff.rfl
  | 2, _ => exact (rk2_eqv a (by omega) p (by omega) q (by omega) hpa hqa).symm
  | 3, _ =>
    have b1 := hD.1 p hp
    have b2 := hD.1 a ha
    have b3 := hD.1 q hq
    rw [rk3_eq b1.1 b2.1 b1.2 b2.2 (row p hp hpa), rk3_eq b3.1 b2.1 b3.2 b2.2 (row q hq hqa)]
def del (fr : Nat → Bool) (t : Nat) : Nat → Bool := fun p => fr p && !decide (p = t)
def nx (x y : Nat → Nat) (law n a : Nat) (fr : Nat → Bool) : Option Nat := sel (rkC x y law a) fr n
def layS (x y : Nat → Nat) (law n hun : Nat) : Nat → Nat → (Nat → Bool) → Nat → List Nat
  | 0, _, _, _ => []
  | k + 1, a, fr, left => match nx x y law n a fr with
    | none => []
    | some t => if farN x y a t + hun ≤ left then t :: layS x y law n hun k t (del fr t) (left - (farN x y a t + hun)) else []
def wayL (x y : Nat → Nat) : Nat → List Nat → Nat
  | _, [] => 0
  | a, t :: l => farN x y a t + wayL x y t l
theorem layS_congr {x y : Nat → Nat} {law n hun : Nat} : ∀ (k a : Nat) (fr fr' : Nat → Bool) (left : Nat), (∀ p, p < n → fr p = fr' p) → layS x y law n hun k a fr left = layS x y law n hun k a fr' left := by
  intro k
  induction k with
  | zero => intros; rfl
  | succ k ih =>
    intro a fr fr' left he
    have e : nx x y law n a fr = nx x y law n a fr' := sel_congr he (fun _ _ _ _ _ _ => Iff.rfl)
    rw [layS, layS, e]
    cases nx x y law n a fr' with
    | none => rfl
    | some t =>
      dsimp only
      rw [ih t (del fr t) (del fr' t) _ (fun p hp => by unfold del; rw [he p hp])]
def cnt (fr : Nat → Bool) : Nat → Nat
  | 0 => 0
  | k + 1 => (if fr k = true then 1 else 0) + cnt fr k
theorem cnt_le (fr : Nat → Bool) : ∀ n, cnt fr n ≤ n
  | 0 => Nat.le_refl 0
  | n + 1 => by have := cnt_le fr n; rw [cnt]; split <;> omega
theorem cnt_lt {fr : Nat → Bool} {t : Nat} (ht : fr t = false) : ∀ {n : Nat}, t < n → cnt fr n + 1 ≤ n
  | 0, h => by omega
  | n + 1, h => by
    rw [cnt]
    by_cases e : t = n
    · subst e; rw [ht]; have := cnt_le fr t; simp; omega
    · have := cnt_lt ht (n := n) (by omega); split <;> omega
theorem cnt_congr {fr fr' : Nat → Bool} : ∀ {n : Nat}, (∀ p, p < n → fr p = fr' p) → cnt fr n = cnt fr' n
  | 0, _ => rfl
  | n + 1, h => by rw [cnt, cnt, h n (by omega), cnt_congr (n := n) (fun p hp => h p (by omega))]
theorem cnt_del {fr : Nat → Bool} {t : Nat} (ht : fr t = true) : ∀ {n : Nat}, t < n → cnt (del fr t) n + 1 = cnt fr n
  | 0, h => by omega
  | n + 1, h => by
    rw [cnt, cnt]
    by_cases e : t = n
    · subst e
      have e1 : del fr t t = false := by simp [del]
      have e2 : cnt (del fr t) t = cnt fr t := cnt_congr (fun p hp => by simp [del, show p ≠ t by omega])
      rw [e1, ht, e2]; simp; omega
    · have e1 : del fr t n = fr n := by simp [del, show n ≠ t by omega]
      have := cnt_del ht (n := n) (by omega)
      rw [e1]; omega
theorem cnt_pos {fr : Nat → Bool} {t : Nat} (ht : fr t = true) {n : Nat} (h : t < n) : 1 ≤ cnt fr n := by have := cnt_del ht h; omega
theorem del_bt {f : Int32} {t n : Nat} (ht : t < n) (hn : n ≤ 11) : ∀ p, p < n → bt (f &&& (((1 : Int32) <<< (nI t &&& 31)) ^^^ (-1))) p = del (bt f) t p := fun p hp => by
  rw [bt_del f (by omega) (by omega)]; rfl
/-- a row of a web, its way, what is left, as they lie in cells -/
def RowAt (X : Nat → Int32) (R : List Nat) : Prop := ∀ i t, R[i]? = some t → X i = nI t
theorem RowAt.push {X : Nat → Int32} {R : List Nat} {t : Nat} (h : RowAt X R) : RowAt (upd X R.length (nI t)) (R ++ [t]) := by
  intro i q hq
  by_cases e : i < R.length
  · rw [List.getElem?_append_left e] at hq
    simp [upd, show i ≠ R.length by omega, h i q hq]
  · rw [List.getElem?_append_right (by omega)] at hq
    have : i - R.length < 1 := (List.getElem?_eq_some_iff.mp hq).1
    have e2 : i = R.length := by omega
    subst e2
    simp at hq
    simp [upd, hq]
def SpR (h : Hp) (a : Nat) (R : List Nat) (way left : Nat) : Prop := h a 1 = nI R.length ∧ RowAt (h (a + 1)) R ∧ h a 3 = nI way ∧ h a 4 = nI left
def MR (h : Hp) (R : List Nat) (way left : Nat) : Prop := h 31 10 = nI R.length ∧ RowAt (h 35) R ∧ h 31 11 = nI way ∧ h 31 12 = nI left
