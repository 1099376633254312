/-! small rows on numbers -/
theorem mb_ml (k a : Nat) : nI a * nI k = nI (k * a) := by rw [pk_mul, Nat.mul_comm]
theorem mb_mr (k a : Nat) : nI k * nI a = nI (k * a) := pk_mul k a
theorem mb_4000 : (4000 : Int32).toInt = 4000 ∧ (-4000 : Int32).toInt = -4000 := by decide
theorem mb_k (x : Int32) : ma_bd 4000 x ↔ ¬ x < -4000 ∧ ¬ 4000 < x := by
  rw [Int32.lt_iff_toInt_lt, Int32.lt_iff_toInt_lt, mb_4000.1, mb_4000.2]
  unfold ma_bd
  omega
theorem mb_0t : (0 : Int32).toInt = 0 := by decide
theorem mb_c1 (x : Int32) : rr_c1 x ↔ ¬ x < 0 ∧ ¬ 255 < x := by
  rw [Int32.lt_iff_toInt_lt, Int32.lt_iff_toInt_lt, mb_0t, show (255 : Int32).toInt = 255 from by decide]
  unfold rr_c1
  omega
theorem mb_16 (x : Int32) : (0 ≤ x.toInt ∧ x.toInt ≤ 16) ↔ ¬ x < 0 ∧ ¬ 16 < x := by
  rw [Int32.lt_iff_toInt_lt, Int32.lt_iff_toInt_lt, mb_0t, show (16 : Int32).toInt = 16 from by decide]
  omega
theorem mb_n1 {x : Int32} (h : 0 ≤ x.toInt) : x ≠ -1 ∧ ¬ x < 0 ∧ 0 ≤ x := by
  refine ⟨fun e => ?_, ?_, ?_⟩
  · rw [e] at h
    exact absurd h (by decide)
  · rw [Int32.lt_iff_toInt_lt, mb_0t]
    omega
  · rw [Int32.le_iff_toInt_le, mb_0t]
    exact h
theorem mb_nn1 {n : Nat} (h : n < 2 ^ 31) : ¬ nI n = -1 := (mb_n1 (by rw [nI_toInt h]; omega)).1
theorem mb_vb0 : vp_nar .boolean 0 = 0 := by decide
theorem mb_vb1 : vp_nar .boolean 1 = 1 := by decide
def ma_cn (f : Nat → Int32) (c : Int32) : Nat → Nat
  | 0 => 0
  | n + 1 => ma_cn f c n + if f n = c then 1 else 0
theorem ma_cnb (f : Nat → Int32) (c : Int32) : ∀ n, ma_cn f c n ≤ n
  | 0 => Nat.le_refl 0
  | n + 1 => by
    have ih := ma_cnb f c n
    show ma_cn f c n + (if f n = c then 1 else 0) ≤ n + 1
    split <;> omega
def ma_ro (f : Nat → Int32) (b : Nat) : Nat → Int32
  | 0 => 0
  | n + 1 => if f (b + n) = 0 then ma_ro f b n else ma_ro f b n ||| ((1 : Int32) <<< (nI n &&& 31))
def rr_need (k : Int32) : Nat := if k = 1 ∨ k = 2 ∨ k = 17 then 2 else if k = 4 then 4 else if k = 12 then 6 else if k = 13 ∨ k = 14 ∨ k = 16 then 1 else 0
theorem rr_needb (k : Int32) : rr_need k ≤ 6 := by
  unfold rr_need
  split
  · omega
  · split
    · omega
    · split
      · omega
      · split <;> omega
