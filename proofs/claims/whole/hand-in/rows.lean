section
theorem pk_us {f : Nat → Int32} {k : Nat} {x : Int32} : upd f k x k = x := if_pos rfl
theorem pk_un {f : Nat → Int32} {k j : Nat} {x : Int32} (h : j ≠ k) : upd f k x j = f j := if_neg h
theorem pk_sub {a b : Nat} (h : b ≤ a) : nI a - nI b = nI (a - b) := by
  obtain ⟨c, rfl⟩ : ∃ c, a = c + b := ⟨a - b, by omega⟩
  rw [← nI_add, Int32.add_sub_cancel, Nat.add_sub_cancel]
theorem pk_m1 (n : Nat) : nI (n + 1) + (-1) = nI n := by
  rw [← nI_1, Int32.add_assoc, show (1 : Int32) + (-1) = 0 from rfl, Int32.add_zero]
theorem pk_mul (a b : Nat) : nI a * nI b = nI (a * b) := (Int32.ofNat_mul a b).symm
theorem pk_div {a d : Nat} (ha : a < 2 ^ 31) (h0 : 0 < d) (hd : d < 2 ^ 31) : nI a / nI d = nI (a / d) := by
  apply Int32.toInt_inj.mp
  rw [lg_idiv_nonneg (by rw [nI_toInt ha]; omega) (by rw [nI_toInt hd]; omega), nI_toInt ha, nI_toInt hd, nI_toInt (Nat.lt_of_le_of_lt (Nat.div_le_self a d) ha)]
  first | rfl | exact (Int.natCast_ediv _ _).symm
theorem pk_rem {a d : Nat} (ha : a < 2 ^ 31) (h0 : 0 < d) (hd : d < 2 ^ 31) : nI a - nI a / nI d * nI d = nI (a % d) := by
  rw [pk_div ha h0 hd, pk_mul, pk_sub (Nat.div_mul_le_self a d)]
  exact congrArg nI (by have := Nat.div_add_mod' a d; omega)
theorem pk_sub_toInt {a b : Nat} (ha : a < 2 ^ 30) (hb : b < 2 ^ 30) : (nI a - nI b).toInt = (a : Int) - b := by
  rw [Int32.toInt_sub, nI_toInt (by omega), nI_toInt (by omega)]
  exact Int.bmod_eq_of_le (by omega) (by omega)
theorem pk_sneg {a b : Nat} (hb : b < 2 ^ 30) (h : a < b) : nI a - nI b < 0 := by
  rw [Int32.lt_iff_toInt_lt, pk_sub_toInt (by omega) hb, show (0 : Int32).toInt = 0 from by decide]
  omega
theorem pk_ix (x : Int32) {n : Nat} (hn : n < 2 ^ 31) : x < 0 ∨ nI n ≤ x ∨ ∃ j : Nat, j < n ∧ x = nI j := by
  by_cases h : x < 0
  · exact Or.inl h
  · obtain ⟨j, hj, rfl⟩ := nI_of h
    by_cases h2 : j < n
    · exact Or.inr (Or.inr ⟨j, h2, rfl⟩)
    · exact Or.inr (Or.inl (nI_le (by omega) hj))
theorem pk_le {x y : Int32} {A B : Prop} (a b : Nat) (f : a ≤ b → A) (g : b < a → B) (hx : x = nI a := by rfl) (hy : y = nI b := by rfl) (ha : a < 2 ^ 31 := by omega) (hb : b < 2 ^ 31 := by omega) : (x ≤ y → A) ∧ (¬ x ≤ y → B) := by
  subst hx hy
  rw [nI_leI ha hb]
  exact ⟨f, fun z => g (by omega)⟩
theorem pk_lt {x y : Int32} {A B : Prop} (a b : Nat) (f : a < b → A) (g : b ≤ a → B) (hx : x = nI a := by rfl) (hy : y = nI b := by rfl) (ha : a < 2 ^ 31 := by omega) (hb : b < 2 ^ 31 := by omega) : (x < y → A) ∧ (¬ x < y → B) := by
  subst hx hy
  rw [nI_ltI ha hb]
  exact ⟨f, fun z => g (by omega)⟩
theorem pk_eq {x y : Int32} {A B : Prop} (a b : Nat) (f : a = b → A) (g : a ≠ b → B) (hx : x = nI a := by rfl) (hy : y = nI b := by rfl) (ha : a < 2 ^ 31 := by omega) (hb : b < 2 ^ 31 := by omega) : (x = y → A) ∧ (¬ x = y → B) := by
  subst hx hy
  rw [nI_eq ha hb]
  exact ⟨f, g⟩
theorem pk_in {x : Int32} (n N : Nat) (h : n < N) (hx : x = nI n := by rfl) (hN : N < 2 ^ 31 := by omega) : vp_in x N := by
  subst hx
  exact vp_in_nI h hN
theorem pk_cl {x : Int32} (n : Nat) (hx : x = nI n := by rfl) (h : n < 2 ^ 31 := by omega) : x.toNatClampNeg = n := by
  subst hx
  exact nI_clamp h
theorem pk_tn {n : Nat} (h : n < 2 ^ 32) : (nI n).toBitVec.toNat = n := Nat.mod_eq_of_lt h
theorem pk_and (x : Int32) {m : Int32} (k : Nat) (hm : m.toBitVec.toNat = 2 ^ k - 1) : x &&& m = nI (x.toBitVec.toNat % 2 ^ k) := by
  apply Int32.toBitVec_inj.mp
  apply BitVec.eq_of_toNat_eq
  rw [Int32.toBitVec_and, BitVec.toNat_and, hm, Nat.and_two_pow_sub_one_eq_mod]
  show _ = (BitVec.ofNat 32 _).toNat
  rw [BitVec.toNat_ofNat]
  exact (Nat.mod_eq_of_lt (Nat.lt_of_le_of_lt (Nat.mod_le _ _) x.toBitVec.isLt)).symm
/-! own rows: writes of a stretch, sums, the arithmetic of both sides -/
def ma_w (f g : Nat → Int32) (b i : Nat) : Nat → Int32 := fun j => if b ≤ j ∧ j < b + i then g (j - b) else f j
theorem ma_w0 (f g : Nat → Int32) (b : Nat) : ma_w f g b 0 = f := by
  funext j
  unfold ma_w
  exact if_neg (by omega)
theorem ma_ws (f g : Nat → Int32) (b i : Nat) : upd (ma_w f g b i) (b + i) (g i) = ma_w f g b (i + 1) := by
  funext j
  unfold upd ma_w
  by_cases h : j = b + i
  · subst h
    rw [if_pos rfl, if_pos (by omega), Nat.add_sub_cancel_left]
  · rw [if_neg h]
    by_cases h2 : b ≤ j ∧ j < b + i
    · rw [if_pos h2, if_pos (by omega)]
    · rw [if_neg h2, if_neg (by omega)]
theorem ma_wk {f g : Nat → Int32} {b i : Nat} (h : g i = f (b + i)) : ma_w f g b i = ma_w f g b (i + 1) := by
  funext j
  unfold ma_w
  by_cases e : j = b + i
  · subst e
    rw [if_neg (by omega), if_pos (by omega), Nat.add_sub_cancel_left, h]
  · by_cases h2 : b ≤ j ∧ j < b + i
    · rw [if_pos h2, if_pos (by omega)]
    · rw [if_neg h2, if_neg (by omega)]
theorem ma_wr {f g : Nat → Int32} {b i j : Nat} (h : j < b ∨ b + i ≤ j) : ma_w f g b i j = f j := by
  unfold ma_w
  exact if_neg (by omega)
theorem ma_wg {f g : Nat → Int32} {b i t : Nat} (h : t < i) : ma_w f g b i (b + t) = g t := by
  unfold ma_w
  rw [if_pos (by omega), Nat.add_sub_cancel_left]
theorem ma_wg0 {f g : Nat → Int32} {i t : Nat} (h : t < i) : ma_w f g 0 i t = g t := by
  have := ma_wg (f := f) (g := g) (b := 0) h
  rw [Nat.zero_add] at this
  exact this
theorem ma_wc {f g g' : Nat → Int32} {b i : Nat} (h : ∀ t, t < i → g t = g' t) : ma_w f g b i = ma_w f g' b i := by
  funext j
  unfold ma_w
  by_cases h2 : b ≤ j ∧ j < b + i
  · rw [if_pos h2, if_pos h2, h _ (by omega)]
  · rw [if_neg h2, if_neg h2]
theorem ma_wall {P : Int32 → Prop} {f g : Nat → Int32} {b i : Nat} (hf : ∀ j, P (f j)) (hg : ∀ t, t < i → P (g t)) : ∀ j, P (ma_w f g b i j) := by
  intro j
  unfold ma_w
  by_cases h2 : b ≤ j ∧ j < b + i
  · rw [if_pos h2]
    exact hg _ (by omega)
  · rw [if_neg h2]
    exact hf j

def ma_sum (f : Nat → Int) : Nat → Int
  | 0 => 0
  | n + 1 => ma_sum f n + f n
theorem ma_sumc {f g : Nat → Int} : ∀ n : Nat, (∀ k, k < n → f k = g k) → ma_sum f n = ma_sum g n
  | 0, _ => rfl
  | n + 1, h => by
    show ma_sum f n + f n = ma_sum g n + g n
    rw [ma_sumc n (fun k hk => h k (by omega)), h n (by omega)]
theorem ma_suma (f g : Nat → Int) : ∀ n : Nat, ma_sum (fun k => f k + g k) n = ma_sum f n + ma_sum g n
  | 0 => rfl
  | n + 1 => by
    show ma_sum (fun k => f k + g k) n + (f n + g n) = (ma_sum f n + f n) + (ma_sum g n + g n)
    rw [ma_suma f g n]
    omega
theorem ma_sumb {f : Nat → Int} : ∀ n : Nat, (∀ k, k < n → -1 ≤ f k ∧ f k ≤ 1) → -(n : Int) ≤ ma_sum f n ∧ ma_sum f n ≤ n
  | 0, _ => by simp [ma_sum]
  | n + 1, h => by
    have ih := ma_sumb n (fun k hk => h k (by omega))
    have h2 := h n (by omega)
    show -((n + 1 : Nat) : Int) ≤ ma_sum f n + f n ∧ ma_sum f n + f n ≤ ((n + 1 : Nat) : Int)
    omega
theorem ma_sq {c : Int} (h : -1 ≤ c ∧ c ≤ 1) : (c * c = 0 ∧ c = 0) ∨ (c * c = 1 ∧ (c = 1 ∨ c = -1)) := by
  have h3 : c = -1 ∨ c = 0 ∨ c = 1 := by omega
  rcases h3 with rfl | rfl | rfl <;> decide
theorem ma_sump {f : Nat → Int} : ∀ n : Nat, (∀ k, k < n → -1 ≤ f k ∧ f k ≤ 1) → ma_sum f n % 2 = ma_sum (fun k => f k * f k) n % 2 ∧ 0 ≤ ma_sum (fun k => f k * f k) n ∧ ma_sum (fun k => f k * f k) n ≤ n
  | 0, _ => by simp [ma_sum]
  | n + 1, h => by
    have ih := ma_sump n (fun k hk => h k (by omega))
    show (ma_sum f n + f n) % 2 = (ma_sum (fun k => f k * f k) n + f n * f n) % 2 ∧ 0 ≤ ma_sum (fun k => f k * f k) n + f n * f n ∧ ma_sum (fun k => f k * f k) n + f n * f n ≤ ((n + 1 : Nat) : Int)
    rcases ma_sq (h n (by omega)) with ⟨e, e'⟩ | ⟨e, e' | e'⟩ <;> rw [e, e'] <;> omega

theorem ma_pb {a b A B : Int} (ha : -A ≤ a) (ha' : a ≤ A) (hb : -B ≤ b) (hb' : b ≤ B) : -(A * B) ≤ a * b ∧ a * b ≤ A * B := by
  have h1 := Int.mul_nonneg (show 0 ≤ A - a by omega) (show 0 ≤ B + b by omega)
  have h2 := Int.mul_nonneg (show 0 ≤ A + a by omega) (show 0 ≤ B - b by omega)
  have h3 := Int.mul_nonneg (show 0 ≤ A - a by omega) (show 0 ≤ B - b by omega)
  have h4 := Int.mul_nonneg (show 0 ≤ A + a by omega) (show 0 ≤ B + b by omega)
  rw [Int.sub_mul, Int.mul_add, Int.mul_add] at h1
  rw [Int.add_mul, Int.mul_sub, Int.mul_sub] at h2
  rw [Int.sub_mul, Int.mul_sub, Int.mul_sub] at h3
  rw [Int.add_mul, Int.mul_add, Int.mul_add] at h4
  omega
def ma_bd (A : Int) (x : Int32) : Prop := -A ≤ x.toInt ∧ x.toInt ≤ A
def ma_bl (A : Int) (x : Int64) : Prop := -A ≤ x.toInt ∧ x.toInt ≤ A
theorem ma_ad {x y : Int32} {A B : Int} (hx : ma_bd A x) (hy : ma_bd B y) (h : A + B < 2 ^ 31) : (x + y).toInt = x.toInt + y.toInt ∧ ma_bd (A + B) (x + y) := by
  obtain ⟨h1, h2⟩ := hx
  obtain ⟨h3, h4⟩ := hy
  have e : (x + y).toInt = x.toInt + y.toInt := by
    rw [Int32.toInt_add]
    exact Int.bmod_eq_of_le (by omega) (by omega)
  refine ⟨e, ?_⟩
  unfold ma_bd
  omega
theorem ma_sb {x y : Int32} {A B : Int} (hx : ma_bd A x) (hy : ma_bd B y) (h : A + B < 2 ^ 31) : (x - y).toInt = x.toInt - y.toInt ∧ ma_bd (A + B) (x - y) := by
  obtain ⟨h1, h2⟩ := hx
  obtain ⟨h3, h4⟩ := hy
  have e : (x - y).toInt = x.toInt - y.toInt := by
    rw [Int32.toInt_sub]
    exact Int.bmod_eq_of_le (by omega) (by omega)
  refine ⟨e, ?_⟩
  unfold ma_bd
  omega
theorem ma_mu {x y : Int32} {A B : Int} (hx : ma_bd A x) (hy : ma_bd B y) (h : A * B < 2 ^ 31) : (x * y).toInt = x.toInt * y.toInt ∧ ma_bd (A * B) (x * y) := by
  obtain ⟨h1, h2⟩ := hx
  obtain ⟨h3, h4⟩ := hy
  have hp := ma_pb h1 h2 h3 h4
  have e : (x * y).toInt = x.toInt * y.toInt := by
    rw [Int32.toInt_mul]
    exact Int.bmod_eq_of_le (by omega) (by omega)
  refine ⟨e, ?_⟩
  unfold ma_bd
  omega
theorem ma_lsb {x y : Int64} {A B : Int} (hx : ma_bl A x) (hy : ma_bl B y) (h : A + B < 2 ^ 63) : (x - y).toInt = x.toInt - y.toInt ∧ ma_bl (A + B) (x - y) := by
  obtain ⟨h1, h2⟩ := hx
  obtain ⟨h3, h4⟩ := hy
  have e : (x - y).toInt = x.toInt - y.toInt := by
    rw [Int64.toInt_sub]
    exact Int.bmod_eq_of_le (by omega) (by omega)
  refine ⟨e, ?_⟩
  unfold ma_bl
  omega
theorem ma_lmu {x y : Int64} {A B : Int} (hx : ma_bl A x) (hy : ma_bl B y) (h : A * B < 2 ^ 63) : (x * y).toInt = x.toInt * y.toInt ∧ ma_bl (A * B) (x * y) := by
  obtain ⟨h1, h2⟩ := hx
  obtain ⟨h3, h4⟩ := hy
  have hp := ma_pb h1 h2 h3 h4
  have e : (x * y).toInt = x.toInt * y.toInt := by
    rw [Int64.toInt_mul]
    exact Int.bmod_eq_of_le (by omega) (by omega)
  refine ⟨e, ?_⟩
  unfold ma_bl
  omega
theorem ma_li {x : Int32} {A : Int} (h : ma_bd A x) : ma_bl A x.toInt64 := by
  unfold ma_bl
  rw [Int32.toInt_toInt64]
  exact h
theorem ma_2d : ma_bd 2 2 := by
  unfold ma_bd
  decide
theorem ma_2l : ma_bl 2 2 := by
  unfold ma_bl
  decide
theorem ma_2t : (2 : Int32).toInt = 2 := by decide
theorem ma_2tl : (2 : Int64).toInt = 2 := by decide
theorem ma_nbd {n : Nat} {A : Int} (h : (n : Int) ≤ A) (hA : A < 2 ^ 31) : ma_bd A (nI n) := by
  unfold ma_bd
  rw [nI_toInt (by omega)]
  omega
theorem ma_mix {a c b : Int32} (ha : 0 ≤ a.toInt ∧ a.toInt ≤ 16) (hc : 0 ≤ c.toInt ∧ c.toInt ≤ 255) (hb : 0 ≤ b.toInt ∧ b.toInt ≤ 255) : 0 ≤ ((a * c + (16 - a) * b) / 16).toInt ∧ ((a * c + (16 - a) * b) / 16).toInt ≤ 255 := by
  have b16 : ma_bd 16 16 := by
    unfold ma_bd
    decide
  have hA : ma_bd 16 a := ⟨by omega, ha.2⟩
  have hC : ma_bd 255 c := ⟨by omega, hc.2⟩
  have hB : ma_bd 255 b := ⟨by omega, hb.2⟩
  have e1 := ma_mu hA hC (by omega)
  have e2 := ma_sb b16 hA (by omega)
  have e3 := ma_mu e2.2 hB (by omega)
  have e4 := ma_ad e1.2 e3.2 (by omega)
  have t16 : (16 : Int32).toInt = 16 := by decide
  have p1 := Int.mul_nonneg ha.1 hc.1
  have p2 := Int.mul_nonneg (show 0 ≤ 16 - a.toInt by omega) hb.1
  have p3 := Int.mul_nonneg ha.1 (show 0 ≤ 255 - c.toInt by omega)
  have p4 := Int.mul_nonneg (show 0 ≤ 16 - a.toInt by omega) (show 0 ≤ 255 - b.toInt by omega)
  rw [Int.mul_sub] at p3 p4
  have e : (a * c + (16 - a) * b).toInt = a.toInt * c.toInt + (16 - a.toInt) * b.toInt := by
    rw [e4.1, e1.1, e3.1, e2.1, t16]
  have h0 : 0 ≤ (a * c + (16 - a) * b).toInt := by
    rw [e]
    omega
  have h1 : (a * c + (16 - a) * b).toInt ≤ 4080 := by
    rw [e]
    omega
  rw [lg_idiv_nonneg h0 (by rw [t16]; decide), t16]
  omega
end
section
/-! the crossings of an edge with a pixel's ray, over Int; both sides reckon it -/
def ma_c (x1 y1 x2 y2 px py : Int) : Int :=
  if 2 * y1 < py ∧ py < 2 * y2 then (if (x2 - x1) * (py - 2 * y1) < (px - 2 * x1) * (y2 - y1) then 1 else 0)
  else if 2 * y2 < py ∧ py < 2 * y1 then (if (px - 2 * x1) * (y2 - y1) < (x2 - x1) * (py - 2 * y1) then -1 else 0)
  else 0
theorem ma_cb (x1 y1 x2 y2 px py : Int) : -1 ≤ ma_c x1 y1 x2 y2 px py ∧ ma_c x1 y1 x2 y2 px py ≤ 1 := by
  unfold ma_c
  split
  · split <;> decide
  · split
    · split <;> decide
    · decide
theorem ma_c0 (x y px py : Int) : ma_c x y x y px py = 0 := by
  unfold ma_c
  rw [if_neg (by omega), if_neg (by omega)]
def ma_px (p : Nat) : Nat := 8 * (p % 16) + 5
def ma_py (p : Nat) : Nat := 8 * (p / 16) + 5
theorem ma_pxb (p : Nat) : ma_px p ≤ 125 := by
  unfold ma_px
  omega
theorem ma_pyb {p : Nat} (h : p < 192) : ma_py p ≤ 93 := by
  unfold ma_py
  omega
theorem ma_xpx {p : Nat} (h : p < 192) : (8 : Int32) * (nI p - nI p / 16 * 16) + 5 = nI (ma_px p) := by
  have e : nI p - nI p / 16 * 16 = nI (p % 16) := pk_rem (a := p) (d := 16) (by omega) (by decide) (by decide)
  rw [e]
  show nI 8 * nI (p % 16) + nI 5 = _
  rw [pk_mul, nI_add]
  rfl
theorem ma_xpy {p : Nat} (h : p < 192) : (8 : Int32) * (nI p / 16) + 5 = nI (ma_py p) := by
  have e : nI p / 16 = nI (p / 16) := pk_div (a := p) (d := 16) (by omega) (by decide) (by decide)
  rw [e]
  show nI 8 * nI (p / 16) + nI 5 = _
  rw [pk_mul, nI_add]
  rfl
def ma_cp (x1 y1 x2 y2 : Int32) (p : Nat) : Int := ma_c x1.toInt y1.toInt x2.toInt y2.toInt (ma_px p) (ma_py p)
theorem ma_cpb (x1 y1 x2 y2 : Int32) (p : Nat) : -1 ≤ ma_cp x1 y1 x2 y2 p ∧ ma_cp x1 y1 x2 y2 p ≤ 1 := ma_cb _ _ _ _ _ _
theorem ma_cp0 (p : Nat) (x y : Int32) : ma_cp x y x y p = 0 := ma_c0 _ _ _ _
/-- the doubled height against the pixel's -/
theorem ma_hx {y : Int32} {p : Nat} (h : ma_bd 4000 y) (hp : p < 192) : (2 * y < nI (ma_py p) ↔ 2 * y.toInt < (ma_py p : Int)) ∧ (nI (ma_py p) < 2 * y ↔ (ma_py p : Int) < 2 * y.toInt) := by
  have e := ma_mu ma_2d h (by omega)
  have hb := ma_pyb hp
  rw [Int32.lt_iff_toInt_lt, Int32.lt_iff_toInt_lt, e.1, ma_2t, nI_toInt (by omega)]
  exact ⟨Iff.rfl, Iff.rfl⟩
theorem ma_side {x1 y1 x2 y2 : Int32} {p : Nat} (h1 : ma_bd 4000 x1) (h2 : ma_bd 4000 y1) (h3 : ma_bd 4000 x2) (h4 : ma_bd 4000 y2) (hp : p < 192) :
    ((nI (ma_px p) - 2 * x1) * (y2 - y1) - (nI (ma_py p) - 2 * y1) * (x2 - x1)).toInt = ((ma_px p : Int) - 2 * x1.toInt) * (y2.toInt - y1.toInt) - (x2.toInt - x1.toInt) * ((ma_py p : Int) - 2 * y1.toInt) := by
  have a1 := ma_mu ma_2d h1 (by omega)
  have a2 := ma_mu ma_2d h2 (by omega)
  have hx := ma_pxb p
  have hy := ma_pyb hp
  have b1 := ma_sb (ma_nbd (n := ma_px p) (A := 125) (by omega) (by omega)) a1.2 (by omega)
  have b2 := ma_sb (ma_nbd (n := ma_py p) (A := 125) (by omega) (by omega)) a2.2 (by omega)
  have c1 := ma_sb h4 h2 (by omega)
  have c2 := ma_sb h3 h1 (by omega)
  have d1 := ma_mu b1.2 c1.2 (by omega)
  have d2 := ma_mu b2.2 c2.2 (by omega)
  have e := ma_sb d1.2 d2.2 (by omega)
  rw [e.1, d1.1, d2.1, b1.1, b2.1, c1.1, c2.1, a1.1, a2.1, ma_2t, nI_toInt (by omega), nI_toInt (by omega), Int.mul_comm ((ma_py p : Int) - 2 * y1.toInt)]
theorem ma_xcase {x1 y1 x2 y2 : Int32} {p : Nat} (h1 : ma_bd 4000 x1) (h2 : ma_bd 4000 y1) (h3 : ma_bd 4000 x2) (h4 : ma_bd 4000 y2) (hp : p < 192) (s : Int32) (hs : s = (nI (ma_px p) - 2 * x1) * (y2 - y1) - (nI (ma_py p) - 2 * y1) * (x2 - x1)) :
    ((2 * y1 < nI (ma_py p) ∧ nI (ma_py p) < 2 * y2 ∧ 0 < s) ∧ ¬ (2 * y2 < nI (ma_py p) ∧ nI (ma_py p) < 2 * y1 ∧ s < 0) ∧ ma_cp x1 y1 x2 y2 p = 1) ∨
    (¬ (2 * y1 < nI (ma_py p) ∧ nI (ma_py p) < 2 * y2 ∧ 0 < s) ∧ (2 * y2 < nI (ma_py p) ∧ nI (ma_py p) < 2 * y1 ∧ s < 0) ∧ ma_cp x1 y1 x2 y2 p = -1) ∨
    (¬ (2 * y1 < nI (ma_py p) ∧ nI (ma_py p) < 2 * y2 ∧ 0 < s) ∧ ¬ (2 * y2 < nI (ma_py p) ∧ nI (ma_py p) < 2 * y1 ∧ s < 0) ∧ ma_cp x1 y1 x2 y2 p = 0) := by
  have e : s.toInt = ((ma_px p : Int) - 2 * x1.toInt) * (y2.toInt - y1.toInt) - (x2.toInt - x1.toInt) * ((ma_py p : Int) - 2 * y1.toInt) := by
    rw [hs]
    exact ma_side h1 h2 h3 h4 hp
  rw [(ma_hx h2 hp).1, (ma_hx h2 hp).2, (ma_hx h4 hp).1, (ma_hx h4 hp).2, Int32.lt_iff_toInt_lt, Int32.lt_iff_toInt_lt, e, show (0 : Int32).toInt = 0 from by decide]
  unfold ma_cp ma_c
  generalize ((ma_px p : Int) - 2 * x1.toInt) * (y2.toInt - y1.toInt) = R
  generalize (x2.toInt - x1.toInt) * ((ma_py p : Int) - 2 * y1.toInt) = L
  generalize x1.toInt = X1
  generalize y1.toInt = Y1
  generalize y2.toInt = Y2
  generalize (ma_py p : Int) = Q
  split
  · split <;> omega
  · split
    · split <;> omega
    · omega
theorem ma_hy {y : Int32} {p : Nat} (h : ma_bd 4000 y) (hp : p < 192) : (2 * y.toInt64 < (nI (ma_py p)).toInt64 ↔ 2 * y.toInt < (ma_py p : Int)) ∧ ((nI (ma_py p)).toInt64 < 2 * y.toInt64 ↔ (ma_py p : Int) < 2 * y.toInt) := by
  have e := ma_lmu ma_2l (ma_li h) (by omega)
  have hb := ma_pyb hp
  rw [Int64.lt_iff_toInt_lt, Int64.lt_iff_toInt_lt, e.1, ma_2tl, Int32.toInt_toInt64, Int32.toInt_toInt64, nI_toInt (by omega)]
  exact ⟨Iff.rfl, Iff.rfl⟩
theorem ma_yl {x1 y1 x2 y2 : Int32} {p : Nat} (h1 : ma_bd 4000 x1) (h2 : ma_bd 4000 y1) (h3 : ma_bd 4000 x2) (h4 : ma_bd 4000 y2) (hp : p < 192) :
    ((x2.toInt64 - x1.toInt64) * ((nI (ma_py p)).toInt64 - 2 * y1.toInt64)).toInt = (x2.toInt - x1.toInt) * ((ma_py p : Int) - 2 * y1.toInt) := by
  have a2 := ma_lmu ma_2l (ma_li h2) (by omega)
  have hy := ma_pyb hp
  have b2 := ma_lsb (ma_li (ma_nbd (n := ma_py p) (A := 125) (by omega) (by omega))) a2.2 (by omega)
  have c2 := ma_lsb (ma_li h3) (ma_li h1) (by omega)
  have d2 := ma_lmu c2.2 b2.2 (by omega)
  rw [d2.1, b2.1, c2.1, a2.1, ma_2tl, Int32.toInt_toInt64, Int32.toInt_toInt64, Int32.toInt_toInt64, Int32.toInt_toInt64, nI_toInt (by omega)]
theorem ma_yr {x1 y1 x2 y2 : Int32} {p : Nat} (h1 : ma_bd 4000 x1) (h2 : ma_bd 4000 y1) (h3 : ma_bd 4000 x2) (h4 : ma_bd 4000 y2) (hp : p < 192) :
    (((nI (ma_px p)).toInt64 - 2 * x1.toInt64) * (y2.toInt64 - y1.toInt64)).toInt = ((ma_px p : Int) - 2 * x1.toInt) * (y2.toInt - y1.toInt) := by
  have a2 := ma_lmu ma_2l (ma_li h1) (by omega)
  have hy := ma_pxb p
  have b2 := ma_lsb (ma_li (ma_nbd (n := ma_px p) (A := 125) (by omega) (by omega))) a2.2 (by omega)
  have c2 := ma_lsb (ma_li h4) (ma_li h2) (by omega)
  have d2 := ma_lmu b2.2 c2.2 (by omega)
  rw [d2.1, b2.1, c2.1, a2.1, ma_2tl, Int32.toInt_toInt64, Int32.toInt_toInt64, Int32.toInt_toInt64, Int32.toInt_toInt64, nI_toInt (by omega)]
/-- the reference's answer as the branches of its text find it -/
theorem ma_ycase {x1 y1 x2 y2 : Int32} {p : Nat} (h1 : ma_bd 4000 x1) (h2 : ma_bd 4000 y1) (h3 : ma_bd 4000 x2) (h4 : ma_bd 4000 y2) (hp : p < 192) (l r : Int64) (hl : l = (x2.toInt64 - x1.toInt64) * ((nI (ma_py p)).toInt64 - 2 * y1.toInt64)) (hr : r = ((nI (ma_px p)).toInt64 - 2 * x1.toInt64) * (y2.toInt64 - y1.toInt64)) :
    ((2 * y1.toInt64 < (nI (ma_py p)).toInt64 ∧ (nI (ma_py p)).toInt64 < 2 * y2.toInt64) ∧ (l < r ∧ ma_cp x1 y1 x2 y2 p = 1 ∨ ¬ l < r ∧ ma_cp x1 y1 x2 y2 p = 0)) ∨
    (¬ (2 * y1.toInt64 < (nI (ma_py p)).toInt64 ∧ (nI (ma_py p)).toInt64 < 2 * y2.toInt64) ∧ (2 * y2.toInt64 < (nI (ma_py p)).toInt64 ∧ (nI (ma_py p)).toInt64 < 2 * y1.toInt64) ∧ (r < l ∧ ma_cp x1 y1 x2 y2 p = -1 ∨ ¬ r < l ∧ ma_cp x1 y1 x2 y2 p = 0)) ∨
    (¬ (2 * y1.toInt64 < (nI (ma_py p)).toInt64 ∧ (nI (ma_py p)).toInt64 < 2 * y2.toInt64) ∧ ¬ (2 * y2.toInt64 < (nI (ma_py p)).toInt64 ∧ (nI (ma_py p)).toInt64 < 2 * y1.toInt64) ∧ ma_cp x1 y1 x2 y2 p = 0) := by
  have el : l.toInt = (x2.toInt - x1.toInt) * ((ma_py p : Int) - 2 * y1.toInt) := by
    rw [hl]
    exact ma_yl h1 h2 h3 h4 hp
  have er : r.toInt = ((ma_px p : Int) - 2 * x1.toInt) * (y2.toInt - y1.toInt) := by
    rw [hr]
    exact ma_yr h1 h2 h3 h4 hp
  rw [(ma_hy h2 hp).1, (ma_hy h2 hp).2, (ma_hy h4 hp).1, (ma_hy h4 hp).2, Int64.lt_iff_toInt_lt (x := l), Int64.lt_iff_toInt_lt (x := r), el, er]
  unfold ma_cp ma_c
  generalize ((ma_px p : Int) - 2 * x1.toInt) * (y2.toInt - y1.toInt) = R
  generalize (x2.toInt - x1.toInt) * ((ma_py p : Int) - 2 * y1.toInt) = L
  generalize x1.toInt = X1
  generalize y1.toInt = Y1
  generalize y2.toInt = Y2
  generalize (ma_py p : Int) = Q
  split
  · split <;> omega
  · split
    · split <;> omega
    · omega

/-! nearness to an edge, over Int64 -/
def ma_nr (rx ry dx dy w : Int64) : Int32 :=
  if 0 < rx * dx + ry * dy then
    (if rx * dx + ry * dy < dx * dx + dy * dy then (if w * w * (dx * dx + dy * dy) < (dx * ry - dy * rx) * (dx * ry - dy * rx) then 0 else 1)
     else (if w * w < (rx - dx) * (rx - dx) + (ry - dy) * (ry - dy) then 0 else 1))
  else (if w * w < rx * rx + ry * ry then 0 else 1)
theorem ma_nr01 (rx ry dx dy w : Int64) : ma_nr rx ry dx dy w = 0 ∨ ma_nr rx ry dx dy w = 1 := by
  unfold ma_nr
  split
  · split
    · split
      · exact Or.inl rfl
      · exact Or.inr rfl
    · split
      · exact Or.inl rfl
      · exact Or.inr rfl
  · split
    · exact Or.inl rfl
    · exact Or.inr rfl
theorem ma_acr (rx ry dx dy : Int64) : (rx * dy - ry * dx) * (rx * dy - ry * dx) = (dx * ry - dy * rx) * (dx * ry - dy * rx) := by grind
theorem ma_nrz (A : Int32 → Prop) {rx ry dx dy w q : Int64} (hq : q * q = (dx * ry - dy * rx) * (dx * ry - dy * rx)) (h : A (ma_nr rx ry dx dy w)) :
    (0 < rx * dx + ry * dy → ((rx * dx + ry * dy < dx * dx + dy * dy → (∀ z, z = q → ((w * w * (dx * dx + dy * dy) < z * z → A 0) ∧ (¬ w * w * (dx * dx + dy * dy) < z * z → A 1)))) ∧
      (¬ rx * dx + ry * dy < dx * dx + dy * dy → ((w * w < (rx - dx) * (rx - dx) + (ry - dy) * (ry - dy) → A 0) ∧ (¬ w * w < (rx - dx) * (rx - dx) + (ry - dy) * (ry - dy) → A 1))))) ∧
    (¬ 0 < rx * dx + ry * dy → ((w * w < rx * rx + ry * ry → A 0) ∧ (¬ w * w < rx * rx + ry * ry → A 1))) := by
  unfold ma_nr at h
  refine br_c (fun a => br_c (fun b => ?_) (fun b => br_c (fun c => ?_) (fun c => ?_))) (fun a => br_c (fun c => ?_) (fun c => ?_))
  · intro z hz
    rw [hz, hq]
    rw [if_pos a, if_pos b] at h
    refine br_c (fun c => ?_) (fun c => ?_)
    · rw [if_pos c] at h
      exact h
    · rw [if_neg c] at h
      exact h
  · rw [if_pos a, if_neg b, if_pos c] at h
    exact h
  · rw [if_pos a, if_neg b, if_neg c] at h
    exact h
  · rw [if_neg a, if_pos c] at h
    exact h
  · rw [if_neg a, if_neg c] at h
    exact h
def ma_np (fx fy tx ty w : Int32) (p : Nat) : Int32 := ma_nr ((nI (ma_px p)).toInt64 - (2 * fx).toInt64) ((nI (ma_py p)).toInt64 - (2 * fy).toInt64) ((2 * tx).toInt64 - (2 * fx).toInt64) ((2 * ty).toInt64 - (2 * fy).toInt64) w.toInt64
theorem ma_np01 (fx fy tx ty w : Int32) (p : Nat) : ma_np fx fy tx ty w p = 0 ∨ ma_np fx fy tx ty w p = 1 := ma_nr01 _ _ _ _ _
theorem ma_xr {n : Nat} {x : Int32} (hn : n ≤ 125) (h : ma_bd 4000 x) : (nI n - 2 * x).toInt64 = (nI n).toInt64 - (2 * x).toInt64 := by
  have a := ma_mu ma_2d h (by omega)
  have hn' := ma_nbd (n := n) (A := 125) (by omega) (by omega)
  have b := ma_sb hn' a.2 (by omega)
  have c := ma_lsb (ma_li hn') (ma_li a.2) (by omega)
  apply Int64.toInt_inj.mp
  rw [c.1, Int32.toInt_toInt64, Int32.toInt_toInt64, Int32.toInt_toInt64, b.1]
theorem ma_xe {x y : Int32} (hx : ma_bd 4000 x) (hy : ma_bd 4000 y) : 2 * (x - y).toInt64 = (2 * x).toInt64 - (2 * y).toInt64 := by
  have a := ma_mu ma_2d hx (by omega)
  have a' := ma_mu ma_2d hy (by omega)
  have b := ma_sb hx hy (by omega)
  have c := ma_lsb (ma_li a.2) (ma_li a'.2) (by omega)
  have d := ma_lmu ma_2l (ma_li b.2) (by omega)
  apply Int64.toInt_inj.mp
  rw [c.1, d.1, Int32.toInt_toInt64, Int32.toInt_toInt64, Int32.toInt_toInt64, b.1, a.1, a'.1, ma_2t, ma_2tl]
  omega
def ma_any (f : Nat → Int32) : Nat → Int32
  | 0 => 0
  | n + 1 => if f n = 1 then 1 else ma_any f n
theorem ma_any01 (f : Nat → Int32) : ∀ n, ma_any f n = 0 ∨ ma_any f n = 1
  | 0 => Or.inl rfl
  | n + 1 => by
    show (if f n = 1 then 1 else ma_any f n) = 0 ∨ (if f n = 1 then 1 else ma_any f n) = 1
    split
    · exact Or.inr rfl
    · exact ma_any01 f n

/-! the newest revision of a stream among the first n -/
def ma_nw (st : Nat → Int32) (s : Int32) : Nat → Int32
  | 0 => -1
  | n + 1 => if st n = s then nI n else ma_nw st s n
theorem ma_nwb (st : Nat → Int32) (s : Int32) : ∀ n, ma_nw st s n = -1 ∨ ∃ r, r < n ∧ ma_nw st s n = nI r
  | 0 => Or.inl rfl
  | n + 1 => by
    show (if st n = s then nI n else ma_nw st s n) = -1 ∨ ∃ r, r < n + 1 ∧ (if st n = s then nI n else ma_nw st s n) = nI r
    split
    · exact Or.inr ⟨n, by omega, rfl⟩
    · rcases ma_nwb st s n with h | ⟨r, hr, h⟩
      · exact Or.inl h
      · exact Or.inr ⟨r, by omega, h⟩
end
section
/-! the path: the component's firsts against the reference's parts -/
def ma_cl (C : Int32 → Int32 → Int32 → Int32 → Int) (fx fy tx ty fi : Nat → Int32) (E k : Nat) : Int :=
  if k + 1 = E ∨ fi (k + 1) ≠ fi k then C (tx k) (ty k) (fx (fi k).toNatClampNeg) (fy (fi k).toNatClampNeg) else 0
def ma_ce (C : Int32 → Int32 → Int32 → Int32 → Int) (bx bo ex ey : Nat → Int32) (j : Nat) : Int := C (ex j) (ey j) (bx j) (bo j)
def ma_pe (E P : Nat) (fx fy tx ty fi bx bo ex ey : Nat → Int32) : Prop := ∀ C : Int32 → Int32 → Int32 → Int32 → Int, (∀ x y, C x y x y = 0) → ma_sum (ma_cl C fx fy tx ty fi E) E = ma_sum (ma_ce C bx bo ex ey) P
def ma_q4 (n : Nat) (a b c d : Nat → Int32) : Prop := ∀ j, j < n → ma_bd 4000 (a j) ∧ ma_bd 4000 (b j) ∧ ma_bd 4000 (c j) ∧ ma_bd 4000 (d j)
def ma_fb (E : Nat) (fi : Nat → Int32) : Prop := ∀ k, k < E → ∃ m, m ≤ k ∧ fi k = nI m
def ma_path (E P F : Nat) (bg sx sy cx cy : Int32) (fx fy tx ty fi bx bo ex ey : Nat → Int32) : Prop :=
  E ≤ 24 ∧ ma_q4 E fx fy tx ty ∧ ma_fb E fi ∧ ma_q4 P bx bo ex ey ∧ ma_pe E P fx fy tx ty fi bx bo ex ey ∧
  ((bg = 0 ∧ P = 0 ∧ E = 0) ∨ (bg = 1 ∧ ∃ p, P = p + 1 ∧ p ≤ E ∧ F ≤ E ∧ sx = bx p ∧ sy = bo p ∧ cx = ex p ∧ cy = ey p ∧ (F = E → cx = sx ∧ cy = sy) ∧
    (F < E → p + 1 ≤ E ∧ fi (E - 1) = nI F ∧ cx = tx (E - 1) ∧ cy = ty (E - 1) ∧ sx = fx F ∧ sy = fy F)))
theorem ma_p0 (F : Nat) (sx sy cx cy : Int32) (fx fy tx ty fi bx bo ex ey : Nat → Int32) : ma_path 0 0 F 0 sx sy cx cy fx fy tx ty fi bx bo ex ey :=
  ⟨by omega, fun k h => absurd h (Nat.not_lt_zero k), fun k h => absurd h (Nat.not_lt_zero k), fun k h => absurd h (Nat.not_lt_zero k), fun _ _ => rfl, Or.inl ⟨rfl, rfl, rfl⟩⟩
section
variable {E P F : Nat} {bg sx sy cx cy x y : Int32} {fx fy tx ty fi bx bo ex ey : Nat → Int32}
theorem ma_pmove (h : ma_path E P F bg sx sy cx cy fx fy tx ty fi bx bo ex ey) (hx : ma_bd 4000 x) (hy : ma_bd 4000 y) (q : Nat) (hq : (P = q ∧ (bg = 0 ∨ F < E)) ∨ (P = q + 1 ∧ F = E ∧ bg = 1)) :
    ma_path E (q + 1) E 1 x y x y fx fy tx ty fi (upd bx q x) (upd bo q y) (upd ex q x) (upd ey q y) := by
  obtain ⟨hE, hk, hf, hj, he, hb⟩ := h
  refine ⟨hE, hk, hf, ?_, ?_, Or.inr ⟨rfl, q, rfl, ?_, Nat.le_refl _, pk_us.symm, pk_us.symm, pk_us.symm, pk_us.symm, fun _ => ⟨rfl, rfl⟩, fun hh => absurd hh (Nat.lt_irrefl _)⟩⟩
  · intro j hj'
    by_cases e : j = q
    · rw [e, pk_us, pk_us, pk_us, pk_us]
      exact ⟨hx, hy, hx, hy⟩
    · rw [pk_un e, pk_un e, pk_un e, pk_un e]
      exact hj j (by omega)
  · intro C hC
    have e0 := he C hC
    have e1 : ma_ce C (upd bx q x) (upd bo q y) (upd ex q x) (upd ey q y) q = 0 := by
      unfold ma_ce
      rw [pk_us, pk_us, pk_us, pk_us]
      exact hC _ _
    have e2 : ma_sum (ma_ce C (upd bx q x) (upd bo q y) (upd ex q x) (upd ey q y)) q = ma_sum (ma_ce C bx bo ex ey) q := ma_sumc q (fun k hk => by
      have hne : k ≠ q := Nat.ne_of_lt hk
      unfold ma_ce
      rw [pk_un hne, pk_un hne, pk_un hne, pk_un hne])
    show _ = ma_sum (ma_ce C (upd bx q x) (upd bo q y) (upd ex q x) (upd ey q y)) q + ma_ce C (upd bx q x) (upd bo q y) (upd ex q x) (upd ey q y) q
    rw [e1, e2, e0]
    rcases hq with ⟨h1, _⟩ | ⟨h1, hF, hbg⟩
    · rw [h1]
      exact (Int.add_zero _).symm
    · rw [h1]
      show ma_sum (ma_ce C bx bo ex ey) q + ma_ce C bx bo ex ey q = _
      have e3 : ma_ce C bx bo ex ey q = 0 := by
        rcases hb with ⟨h0, hP, _⟩ | ⟨_, p, hp, _, _, s1, s2, c1, c2, hFE, _⟩
        · omega
        · have hpq : q = p := by omega
          have h3 := hFE hF
          unfold ma_ce
          rw [hpq, ← c1, ← c2, ← s1, ← s2, h3.1, h3.2]
          exact hC _ _
      rw [e3]
  · rcases hb with ⟨h0, hP, h3⟩ | ⟨h1, p, hp, hpE, _, _, _, _, _, _, hlt⟩
    · omega
    · rcases hq with ⟨h4, h5 | h5⟩ | ⟨h4, _, _⟩
      · rw [h1] at h5
        exact absurd h5 (by decide)
      · have := (hlt h5).1
        omega
      · omega
theorem ma_pedge (h : ma_path E P F bg sx sy cx cy fx fy tx ty fi bx bo ex ey) (hbg : bg = 1) (hE : E < 24) (hx : ma_bd 4000 x) (hy : ma_bd 4000 y) (p : Nat) (hq : P = p + 1) :
    ma_path (E + 1) P F bg sx sy x y (upd fx E cx) (upd fy E cy) (upd tx E x) (upd ty E y) (upd fi E (nI F)) bx bo (upd ex p x) (upd ey p y) := by
  obtain ⟨_, hk, hf, hj, he, hb⟩ := h
  rcases hb with ⟨h0, _⟩ | ⟨_, p', hp, hpE, hFE, s1, s2, c1, c2, hF1, hF2⟩
  · rw [h0] at hbg
    exact absurd hbg (by decide)
  have ep : p' = p := by omega
  rw [ep] at s1 s2 c1 c2 hF2
  have kc := hj p (by omega)
  rw [← c1, ← c2] at kc
  have sF : upd fx E cx F = sx ∧ upd fy E cy F = sy := by
    by_cases e : F = E
    · rw [e, pk_us, pk_us]
      exact hF1 e
    · have h2 := hF2 (by omega)
      rw [pk_un e, pk_un e]
      exact ⟨h2.2.2.2.2.1.symm, h2.2.2.2.2.2.symm⟩
  refine ⟨by omega, ?_, ?_, ?_, ?_, Or.inr ⟨hbg, p, hq, by omega, by omega, s1, s2, pk_us.symm, pk_us.symm, fun e => by omega, fun _ => ⟨by omega, ?_, ?_, ?_, sF.1.symm, sF.2.symm⟩⟩⟩
  · intro k hk'
    by_cases e : k = E
    · rw [e, pk_us, pk_us, pk_us, pk_us]
      exact ⟨kc.2.2.1, kc.2.2.2, hx, hy⟩
    · rw [pk_un e, pk_un e, pk_un e, pk_un e]
      exact hk k (by omega)
  · intro k hk'
    by_cases e : k = E
    · rw [e, pk_us]
      exact ⟨F, hFE, rfl⟩
    · rw [pk_un e]
      exact hf k (by omega)
  · intro j hj'
    have h4 := hj j hj'
    by_cases e : j = p
    · rw [e] at h4
      rw [e, pk_us, pk_us]
      exact ⟨h4.1, h4.2.1, hx, hy⟩
    · rw [pk_un e, pk_un e]
      exact h4
  · intro C hC
    have e0 := he C hC
    have a1 : ma_sum (ma_ce C bx bo (upd ex p x) (upd ey p y)) p = ma_sum (ma_ce C bx bo ex ey) p := ma_sumc p (fun k hk => by
      have hne : k ≠ p := Nat.ne_of_lt hk
      unfold ma_ce
      rw [pk_un hne, pk_un hne])
    have a2 : ma_ce C bx bo (upd ex p x) (upd ey p y) p = C x y sx sy := by
      unfold ma_ce
      rw [pk_us, pk_us, s1, s2]
    have a3 : ma_ce C bx bo ex ey p = C cx cy sx sy := by
      unfold ma_ce
      rw [← c1, ← c2, ← s1, ← s2]
    have b2 : ma_cl C (upd fx E cx) (upd fy E cy) (upd tx E x) (upd ty E y) (upd fi E (nI F)) (E + 1) E = C x y sx sy := by
      unfold ma_cl
      rw [if_pos (Or.inl rfl), pk_us, pk_us, pk_us, nI_clamp (by omega), sF.1, sF.2]
    have lo : ∀ k, k < E → (k + 1 < E ∨ F = E) → ma_cl C (upd fx E cx) (upd fy E cy) (upd tx E x) (upd ty E y) (upd fi E (nI F)) (E + 1) k = ma_cl C fx fy tx ty fi E k := by
      intro k hkE hk1
      obtain ⟨m, hm, em⟩ := hf k hkE
      have n1 : k ≠ E := Nat.ne_of_lt hkE
      have n2 : (fi k).toNatClampNeg ≠ E := by
        rw [em, nI_clamp (by omega)]
        omega
      unfold ma_cl
      by_cases n3 : k + 1 = E
      · have hF : F = E := by omega
        have n4 : upd fi E (nI F) (k + 1) ≠ upd fi E (nI F) k := by
          rw [n3, pk_us, pk_un n1, em]
          intro z
          rw [nI_eq (by omega) (by omega)] at z
          omega
        rw [if_pos (Or.inr n4), if_pos (Or.inl n3), pk_un n1, pk_un n1, pk_un n1, pk_un n2, pk_un n2]
      · rw [pk_un n3, pk_un n1, pk_un n1, pk_un n1, pk_un n2, pk_un n2]
        by_cases c : fi (k + 1) ≠ fi k
        · rw [if_pos (Or.inr c), if_pos (Or.inr c)]
        · rw [if_neg (fun z => z.elim (fun z => by omega) c), if_neg (fun z => z.elim n3 c)]
    show ma_sum (ma_cl C (upd fx E cx) (upd fy E cy) (upd tx E x) (upd ty E y) (upd fi E (nI F)) (E + 1)) E + ma_cl C (upd fx E cx) (upd fy E cy) (upd tx E x) (upd ty E y) (upd fi E (nI F)) (E + 1) E = _
    rw [hq] at e0 ⊢
    show _ = ma_sum (ma_ce C bx bo (upd ex p x) (upd ey p y)) p + ma_ce C bx bo (upd ex p x) (upd ey p y) p
    rw [a1, a2, b2]
    have e0' : ma_sum (ma_cl C fx fy tx ty fi E) E = ma_sum (ma_ce C bx bo ex ey) p + C cx cy sx sy := by
      rw [← a3]
      exact e0
    by_cases hF : F = E
    · have h3 := hF1 hF
      rw [ma_sumc E (fun k hk => lo k hk (Or.inr hF)), e0', h3.1, h3.2, hC, Int.add_zero]
    · have h2 := hF2 (by omega)
      obtain ⟨e, he⟩ : ∃ e, E = e + 1 := ⟨E - 1, by omega⟩
      have h21 : fi e = nI F := by
        have := h2.2.1
        rw [he, Nat.add_sub_cancel] at this
        exact this
      have h22 : cx = tx e := by
        have := h2.2.2.1
        rw [he, Nat.add_sub_cancel] at this
        exact this
      have h23 : cy = ty e := by
        have := h2.2.2.2.1
        rw [he, Nat.add_sub_cancel] at this
        exact this
      have d1 : ma_cl C fx fy tx ty fi E e = C cx cy sx sy := by
        unfold ma_cl
        rw [if_pos (Or.inl he.symm), h21, nI_clamp (by omega), ← h22, ← h23, ← h2.2.2.2.2.1, ← h2.2.2.2.2.2]
      have d2 : ma_cl C (upd fx E cx) (upd fy E cy) (upd tx E x) (upd ty E y) (upd fi E (nI F)) (E + 1) e = 0 := by
        unfold ma_cl
        have ne : e ≠ E := by omega
        rw [if_neg]
        intro z
        rcases z with z | z
        · omega
        · apply z
          rw [← he, pk_us, pk_un ne, h21]
      have d3 : ∀ n, ma_sum (ma_cl C (upd fx E cx) (upd fy E cy) (upd tx E x) (upd ty E y) (upd fi E (nI F)) (E + 1)) (n + 1) = ma_sum (ma_cl C (upd fx E cx) (upd fy E cy) (upd tx E x) (upd ty E y) (upd fi E (nI F)) (E + 1)) n + ma_cl C (upd fx E cx) (upd fy E cy) (upd tx E x) (upd ty E y) (upd fi E (nI F)) (E + 1) n := fun _ => rfl
      have d4 : ∀ n, ma_sum (ma_cl C fx fy tx ty fi E) (n + 1) = ma_sum (ma_cl C fx fy tx ty fi E) n + ma_cl C fx fy tx ty fi E n := fun _ => rfl
      have d5 := ma_sumc e (fun k hk => lo k (by omega) (Or.inl (by omega)))
      have d6 : ma_sum (ma_cl C (upd fx E cx) (upd fy E cy) (upd tx E x) (upd ty E y) (upd fi E (nI F)) (E + 1)) E = ma_sum (ma_cl C fx fy tx ty fi E) e := by
        have := d3 e
        rw [← he, d2, d5, Int.add_zero] at this
        exact this
      have d7 : ma_sum (ma_cl C fx fy tx ty fi E) E = ma_sum (ma_cl C fx fy tx ty fi E) e + C cx cy sx sy := by
        have := d4 e
        rw [← he, d1] at this
        exact this
      rw [d6]
      omega
  · rw [Nat.add_sub_cancel, pk_us]
  · rw [Nat.add_sub_cancel, pk_us]
  · rw [Nat.add_sub_cancel, pk_us]
end
/-! what both sides find at a pixel -/
def ma_S (E P : Nat) (fx fy tx ty bx bo ex ey : Nat → Int32) (p : Nat) : Int := ma_sum (fun k => ma_cp (fx k) (fy k) (tx k) (ty k) p) E + ma_sum (fun j => ma_cp (ex j) (ey j) (bx j) (bo j) p) P
def ma_M (E P : Nat) (fx fy tx ty bx bo ex ey : Nat → Int32) (p : Nat) : Int := ma_sum (fun k => ma_cp (fx k) (fy k) (tx k) (ty k) p * ma_cp (fx k) (fy k) (tx k) (ty k) p) E + ma_sum (fun j => ma_cp (ex j) (ey j) (bx j) (bo j) p * ma_cp (ex j) (ey j) (bx j) (bo j) p) P
def ma_T (E : Nat) (fx fy tx ty fi : Nat → Int32) (p k : Nat) : Int := ma_cp (fx k) (fy k) (tx k) (ty k) p + ma_cl (fun a b c d => ma_cp a b c d p) fx fy tx ty fi E k
theorem ma_ST {E P : Nat} {fx fy tx ty fi bx bo ex ey : Nat → Int32} (h : ma_pe E P fx fy tx ty fi bx bo ex ey) (p : Nat) : ma_sum (ma_T E fx fy tx ty fi p) E = ma_S E P fx fy tx ty bx bo ex ey p := by
  have h1 := ma_suma (fun k => ma_cp (fx k) (fy k) (tx k) (ty k) p) (ma_cl (fun a b c d => ma_cp a b c d p) fx fy tx ty fi E) E
  have h2 := h (fun a b c d => ma_cp a b c d p) (ma_cp0 p)
  have e : ma_sum (ma_T E fx fy tx ty fi p) E = ma_sum (fun k => ma_cp (fx k) (fy k) (tx k) (ty k) p + ma_cl (fun a b c d => ma_cp a b c d p) fx fy tx ty fi E k) E := rfl
  rw [e, h1, h2]
  rfl
theorem ma_SM (E P : Nat) (fx fy tx ty bx bo ex ey : Nat → Int32) (p : Nat) : ma_S E P fx fy tx ty bx bo ex ey p % 2 = ma_M E P fx fy tx ty bx bo ex ey p % 2 ∧ 0 ≤ ma_M E P fx fy tx ty bx bo ex ey p ∧ ma_M E P fx fy tx ty bx bo ex ey p ≤ E + P ∧ -(E + P : Int) ≤ ma_S E P fx fy tx ty bx bo ex ey p ∧ ma_S E P fx fy tx ty bx bo ex ey p ≤ E + P := by
  have h1 := ma_sump (f := fun k => ma_cp (fx k) (fy k) (tx k) (ty k) p) E (fun k _ => ma_cpb _ _ _ _ _)
  have h2 := ma_sump (f := fun j => ma_cp (ex j) (ey j) (bx j) (bo j) p) P (fun k _ => ma_cpb _ _ _ _ _)
  have h3 := ma_sumb (f := fun k => ma_cp (fx k) (fy k) (tx k) (ty k) p) E (fun k _ => ma_cpb _ _ _ _ _)
  have h4 := ma_sumb (f := fun j => ma_cp (ex j) (ey j) (bx j) (bo j) p) P (fun k _ => ma_cpb _ _ _ _ _)
  unfold ma_S ma_M
  generalize ma_sum (fun k => ma_cp (fx k) (fy k) (tx k) (ty k) p) E = a at *
  generalize ma_sum (fun j => ma_cp (ex j) (ey j) (bx j) (bo j) p) P = b at *
  generalize ma_sum (fun k => ma_cp (fx k) (fy k) (tx k) (ty k) p * ma_cp (fx k) (fy k) (tx k) (ty k) p) E = c at *
  generalize ma_sum (fun j => ma_cp (ex j) (ey j) (bx j) (bo j) p * ma_cp (ex j) (ey j) (bx j) (bo j) p) P = d at *
  omega
/-- inside, by the one rule (o = 0) or the other -/
def ma_ins (o : Int32) (S : Int) : Int32 := if o = 0 then (if S = 0 then 0 else 1) else (if S % 2 = 0 then 0 else 1)
theorem ma_ins01 (o : Int32) (S : Int) : ma_ins o S = 0 ∨ ma_ins o S = 1 := by
  unfold ma_ins
  split
  · split
    · exact Or.inl rfl
    · exact Or.inr rfl
  · split
    · exact Or.inl rfl
    · exact Or.inr rfl
theorem ma_of0 {S : Int} (h : -100 ≤ S) (h' : S ≤ 100) : Int32.ofInt S = 0 ↔ S = 0 := by
  rw [← Int32.toInt_inj, Int32.toInt_ofInt_of_le (by omega) (by omega), show (0 : Int32).toInt = 0 from by decide]
theorem ma_of1 (S : Int) : (Int32.ofInt S) &&& 1 = 0 ↔ S % 2 = 0 := by
  rw [pk_and (Int32.ofInt S) (m := 1) 1 (by decide)]
  have e : (Int32.ofInt S).toBitVec.toNat = (S % 4294967296).toNat := by
    rw [Int32.toBitVec_ofInt, BitVec.toNat_ofInt]
    rfl
  rw [e, show (0 : Int32) = nI 0 from rfl, nI_eq (by omega) (by omega)]
  omega
end
section
/-! the pieces of the relation, and how they last -/
def rr_doc (c d : Nat) (rs rk rv dk dv ln kd nm : Nat → Int32) : Prop :=
  c ≤ 8 ∧ d ≤ 40 ∧ ln 8 = nI d ∧ (∀ r, r < 8 → rs r = ln r ∧ ∃ l, l ≤ 40 ∧ ln r = nI l) ∧ (∀ i, i < 320 → rk i = kd i ∧ rv i = nm i) ∧ (∀ i, i < 40 → dk i = kd (320 + i) ∧ dv i = nm (320 + i))
theorem rr_tok {c d : Nat} {rs rk rv dk dv ln kd nm : Nat → Int32} (h : rr_doc c d rs rk rv dk dv ln kd nm) (hd : d < 40) (a b : Int32) :
    rr_doc c (d + 1) rs rk rv (upd dk d a) (upd dv d b) (upd ln 8 (nI (d + 1))) (upd kd (320 + d) a) (upd nm (320 + d) b) := by
  obtain ⟨h1, h2, h3, h4, h5, h6⟩ := h
  refine ⟨h1, by omega, pk_us, ?_, ?_, ?_⟩
  · intro r hr
    have ne : r ≠ 8 := by omega
    rw [pk_un ne]
    exact h4 r hr
  · intro i hi
    have ne : i ≠ 320 + d := by omega
    rw [pk_un ne, pk_un ne]
    exact h5 i hi
  · intro i hi
    by_cases e : i = d
    · rw [e, pk_us, pk_us, pk_us, pk_us]
      exact ⟨rfl, rfl⟩
    · have ne : 320 + i ≠ 320 + d := by omega
      rw [pk_un e, pk_un e, pk_un ne, pk_un ne]
      exact h6 i hi
theorem rr_wip {c d : Nat} {rs rk rv dk dv ln kd nm : Nat → Int32} (h : rr_doc c d rs rk rv dk dv ln kd nm) :
    rr_doc c 0 rs rk rv dk dv (upd ln 8 0) kd nm := by
  obtain ⟨h1, h2, h3, h4, h5, h6⟩ := h
  refine ⟨h1, by omega, pk_us, ?_, h5, h6⟩
  intro r hr
  have ne : r ≠ 8 := by omega
  rw [pk_un ne]
  exact h4 r hr
theorem rr_com {c d : Nat} {rs rk rv dk dv ln kd nm : Nat → Int32} (h : rr_doc c d rs rk rv dk dv ln kd nm) (hc : c < 8) :
    rr_doc (c + 1) 0 (upd rs c (nI d)) (ma_w rk dk (40 * c) d) (ma_w rv dv (40 * c) d) dk dv (upd (upd ln c (nI d)) 8 0) (ma_w kd (fun t => kd (320 + t)) (40 * c) d) (ma_w nm (fun t => nm (320 + t)) (40 * c) d) := by
  obtain ⟨h1, h2, h3, h4, h5, h6⟩ := h
  refine ⟨by omega, by omega, pk_us, ?_, ?_, ?_⟩
  · intro r hr
    have ne : r ≠ 8 := by omega
    rw [pk_un ne]
    by_cases e : r = c
    · rw [e, pk_us, pk_us]
      exact ⟨rfl, d, h2, rfl⟩
    · rw [pk_un e, pk_un e]
      exact h4 r hr
  · intro i hi
    by_cases e : 40 * c ≤ i ∧ i < 40 * c + d
    · obtain ⟨t, rfl⟩ : ∃ t, i = 40 * c + t := ⟨i - 40 * c, by omega⟩
      rw [ma_wg (by omega), ma_wg (by omega), ma_wg (by omega), ma_wg (by omega)]
      exact h6 t (by omega)
    · rw [ma_wr (by omega), ma_wr (by omega), ma_wr (by omega), ma_wr (by omega)]
      exact h5 i hi
  · intro i hi
    rw [ma_wr (by omega), ma_wr (by omega)]
    exact h6 i hi
theorem rr_rev {c d : Nat} {rs rk rv dk dv ln kd nm : Nat → Int32} (h : rr_doc (c + 1) d rs rk rv dk dv ln kd nm) : rr_doc c d rs rk rv dk dv ln kd nm := by
  obtain ⟨h1, h2⟩ := h
  exact ⟨by omega, h2⟩

def rr_c1 (x : Int32) : Prop := 0 ≤ x.toInt ∧ x.toInt ≤ 255
def rr_st (st mt co wi : Nat → Int32) : Prop := ∀ l, l < 7 → (∀ n, n < 6 → st (8 * l + n) = mt (6 * l + n)) ∧ st (8 * l + 6) = co l ∧ st (8 * l + 7) = wi l ∧ rr_c1 (co l)
theorem rr_stg {st mt co wi st' mt' co' wi' : Nat → Int32} (l0 : Nat) (h : rr_st st mt co wi) (hs : ∀ j, (j < 8 * l0 ∨ 8 * l0 + 8 ≤ j) → st' j = st j) (hm : ∀ j, (j < 6 * l0 ∨ 6 * l0 + 6 ≤ j) → mt' j = mt j)
    (hc : ∀ j, j ≠ l0 → co' j = co j) (hw : ∀ j, j ≠ l0 → wi' j = wi j) (h0 : (∀ n, n < 6 → st' (8 * l0 + n) = mt' (6 * l0 + n)) ∧ st' (8 * l0 + 6) = co' l0 ∧ st' (8 * l0 + 7) = wi' l0 ∧ rr_c1 (co' l0)) : rr_st st' mt' co' wi' := by
  intro l hl
  by_cases e : l = l0
  · rw [e]
    exact h0
  · obtain ⟨h1, h2, h3, h4⟩ := h l hl
    refine ⟨fun n hn => ?_, ?_, ?_, ?_⟩
    · rw [hs _ (by omega), hm _ (by omega)]
      exact h1 n hn
    · rw [hs _ (by omega), hc _ e]
      exact h2
    · rw [hs _ (by omega), hw _ e]
      exact h3
    · rw [hc _ e]
      exact h4
theorem rr_sts {st mt co wi : Nat → Int32} {V : Nat} (h : rr_st st mt co wi) (hV : V < 7) : rr_st (ma_w st (fun n => st (8 * V + n)) (8 * V + 8) 8) (ma_w mt (fun n => mt (6 * V + n)) (6 * V + 6) 6) (upd co (V + 1) (co V)) (upd wi (V + 1) (wi V)) := by
  obtain ⟨h1, h2, h3, h4⟩ := h V hV
  refine rr_stg (V + 1) h (fun j hj => ma_wr (by omega)) (fun j hj => ma_wr (by omega)) (fun j hj => pk_un hj) (fun j hj => pk_un hj) ⟨fun n hn => ?_, ?_, ?_, ?_⟩
  · rw [show 8 * (V + 1) + n = 8 * V + 8 + n by omega, show 6 * (V + 1) + n = 6 * V + 6 + n by omega, ma_wg (by omega), ma_wg hn]
    exact h1 n hn
  · rw [show 8 * (V + 1) + 6 = 8 * V + 8 + 6 by omega, ma_wg (by omega), pk_us]
    exact h2
  · rw [show 8 * (V + 1) + 7 = 8 * V + 8 + 7 by omega, ma_wg (by omega), pk_us]
    exact h3
  · rw [pk_us]
    exact h4
theorem rr_stc {st mt co wi : Nat → Int32} {V : Nat} (h : rr_st st mt co wi) (hV : V < 7) {x : Int32} (hx : rr_c1 x) : rr_st (upd st (8 * V + 6) x) mt (upd co V x) wi := by
  obtain ⟨h1, h2, h3, h4⟩ := h V hV
  refine rr_stg V h (fun j hj => pk_un (by omega)) (fun j hj => rfl) (fun j hj => pk_un hj) (fun j hj => rfl) ⟨fun n hn => ?_, ?_, ?_, ?_⟩
  · rw [pk_un (by omega)]
    exact h1 n hn
  · rw [pk_us, pk_us]
  · rw [pk_un (by omega)]
    exact h3
  · rw [pk_us]
    exact hx
theorem rr_stw {st mt co wi : Nat → Int32} {V : Nat} (h : rr_st st mt co wi) (hV : V < 7) (x : Int32) : rr_st (upd st (8 * V + 7) x) mt co (upd wi V x) := by
  obtain ⟨h1, h2, h3, h4⟩ := h V hV
  refine rr_stg V h (fun j hj => pk_un (by omega)) (fun j hj => rfl) (fun j hj => rfl) (fun j hj => pk_un hj) ⟨fun n hn => ?_, ?_, ?_, h4⟩
  · rw [pk_un (by omega)]
    exact h1 n hn
  · rw [pk_un (by omega)]
    exact h2
  · rw [pk_us, pk_us]
/-- six stores in a row -/
def rr_m6 (mt : Nat → Int32) (b : Nat) (x0 x1 x2 x3 x4 x5 : Int32) : Nat → Int32 := upd (upd (upd (upd (upd (upd mt b x0) (b + 1) x1) (b + 2) x2) (b + 3) x3) (b + 4) x4) (b + 5) x5
theorem rr_m6o {mt : Nat → Int32} {b j : Nat} {x0 x1 x2 x3 x4 x5 : Int32} (h : j < b ∨ b + 6 ≤ j) : rr_m6 mt b x0 x1 x2 x3 x4 x5 j = mt j := by
  unfold rr_m6
  rw [pk_un (by omega), pk_un (by omega), pk_un (by omega), pk_un (by omega), pk_un (by omega), pk_un (by omega)]
theorem rr_m6v (mt : Nat → Int32) (b : Nat) (x0 x1 x2 x3 x4 x5 : Int32) : rr_m6 mt b x0 x1 x2 x3 x4 x5 b = x0 ∧ rr_m6 mt b x0 x1 x2 x3 x4 x5 (b + 1) = x1 ∧ rr_m6 mt b x0 x1 x2 x3 x4 x5 (b + 2) = x2 ∧ rr_m6 mt b x0 x1 x2 x3 x4 x5 (b + 3) = x3 ∧ rr_m6 mt b x0 x1 x2 x3 x4 x5 (b + 4) = x4 ∧ rr_m6 mt b x0 x1 x2 x3 x4 x5 (b + 5) = x5 := by
  unfold rr_m6
  refine ⟨?_, ?_, ?_, ?_, ?_, pk_us⟩
  · rw [pk_un (by omega), pk_un (by omega), pk_un (by omega), pk_un (by omega), pk_un (by omega), pk_us]
  · rw [pk_un (by omega), pk_un (by omega), pk_un (by omega), pk_un (by omega), pk_us]
  · rw [pk_un (by omega), pk_un (by omega), pk_un (by omega), pk_us]
  · rw [pk_un (by omega), pk_un (by omega), pk_us]
  · rw [pk_un (by omega), pk_us]
theorem rr_stm {st mt co wi xo : Nat → Int32} {V : Nat} (h : rr_st st mt co wi) (hV : V < 7) : rr_st (ma_w st xo (8 * V) 6) (rr_m6 mt (6 * V) (xo 0) (xo 1) (xo 2) (xo 3) (xo 4) (xo 5)) co wi := by
  obtain ⟨h1, h2, h3, h4⟩ := h V hV
  obtain ⟨e0, e1, e2, e3, e4, e5⟩ := rr_m6v mt (6 * V) (xo 0) (xo 1) (xo 2) (xo 3) (xo 4) (xo 5)
  refine rr_stg V h (fun j hj => ma_wr (by omega)) (fun j hj => rr_m6o (by omega)) (fun j hj => rfl) (fun j hj => rfl) ⟨fun n hn => ?_, ?_, ?_, h4⟩
  · rw [ma_wg hn]
    have hn' : n = 0 ∨ n = 1 ∨ n = 2 ∨ n = 3 ∨ n = 4 ∨ n = 5 := by omega
    rcases hn' with rfl | rfl | rfl | rfl | rfl | rfl
    · exact e0.symm
    · exact e1.symm
    · exact e2.symm
    · exact e3.symm
    · exact e4.symm
    · exact e5.symm
  · rw [ma_wr (by omega)]
    exact h2
  · rw [ma_wr (by omega)]
    exact h3
theorem rr_st0 {st mt co wi : Nat → Int32} (h : rr_st st mt co wi) : rr_st (upd (upd (upd (upd (ma_w st (fun _ => 0) 0 8) 0 1) 3 1) 6 1) 7 4) (ma_w mt (fun m => if m = 0 ∨ m = 3 then 1 else 0) 0 6) (upd co 0 1) (upd wi 0 4) := by
  refine rr_stg 0 h (fun j hj => ?_) (fun j hj => ma_wr (by omega)) (fun j hj => pk_un hj) (fun j hj => pk_un hj) ⟨fun n hn => ?_, ?_, ?_, ?_⟩
  · rw [pk_un (by omega), pk_un (by omega), pk_un (by omega), pk_un (by omega), ma_wr (by omega)]
  · rw [show 8 * 0 + n = n by omega, ma_wg0 hn, pk_un (by omega), pk_un (by omega)]
    by_cases e3 : n = 3
    · rw [e3, pk_us]
      rfl
    · rw [pk_un e3]
      by_cases e0 : n = 0
      · rw [e0, pk_us]
        rfl
      · rw [pk_un e0, ma_wg0 (by omega), if_neg (by omega)]
  · rw [pk_un (by omega), pk_us, pk_us]
  · rw [pk_us, pk_us]
  · rw [pk_us]
    unfold rr_c1
    decide

def rr_pa (pa : Nat → Int32) : Prop := ∀ j, pa j = -1 ∨ rr_c1 (pa j)
def rr_op (q : Nat) (xo yo : Nat → Int32) : Prop := q ≤ 6 ∧ ∀ i, i < q → xo i = yo i
def rr_ct (K : Nat) (ct sr : Nat → Int32) : Prop := ∀ s, s < 6 → ct s = ma_nw sr (nI s) K

/-! the frames -/
def rr_up (A : Nat → Nat) (k v : Nat) : Nat → Nat := fun j => if j = k then v else A j
theorem rr_us (A : Nat → Nat) (k v : Nat) : rr_up A k v k = v := if_pos rfl
theorem rr_un {A : Nat → Nat} {k v j : Nat} (h : j ≠ k) : rr_up A k v j = A j := if_neg h
def rr_pt (A : Nat → Nat) : Nat → Nat
  | 0 => 0
  | n + 1 => rr_pt A n + (41 - A n)
theorem rr_ptc {A A' : Nat → Nat} : ∀ n, (∀ k, k < n → A k = A' k) → rr_pt A n = rr_pt A' n
  | 0, _ => rfl
  | n + 1, h => by
    show rr_pt A n + (41 - A n) = rr_pt A' n + (41 - A' n)
    rw [rr_ptc n (fun k hk => h k (by omega)), h n (by omega)]
def rr_cg (mx : Nat → Int32) : Nat → Nat
  | 0 => 0
  | n + 1 => rr_cg mx n + (if mx n = -1 then 0 else 1)
theorem rr_cgc {A A' : Nat → Int32} : ∀ n, (∀ k, k < n → A k = A' k) → rr_cg A n = rr_cg A' n
  | 0, _ => rfl
  | n + 1, h => by
    show rr_cg A n + (if A n = -1 then 0 else 1) = rr_cg A' n + (if A' n = -1 then 0 else 1)
    rw [rr_cgc n (fun k hk => h k (by omega)), h n (by omega)]
theorem rr_cgb {mx : Nat → Int32} (h0 : mx 0 = -1) : ∀ n, rr_cg mx (n + 1) ≤ n
  | 0 => by
    show 0 + (if mx 0 = -1 then 0 else 1) ≤ 0
    rw [if_pos h0]
    omega
  | n + 1 => by
    have ih := rr_cgb h0 n
    show rr_cg mx (n + 1) + (if mx (n + 1) = -1 then 0 else 1) ≤ n + 1
    split <;> omega
def rr_mx (x : Int32) : Prop := x = -1 ∨ (0 ≤ x.toInt ∧ x.toInt ≤ 16)
/-- D frames (one more than T), L layers above the page, V states saved, U units; of each frame its place A, the states saved below it B, those saved in it G -/
def rr_fr (T L V U : Nat) (ru pl be sv mx : Nat → Int32) (A B G : Nat → Nat) : Prop :=
  (∀ f, f < T + 1 → (∃ s, s < 6 ∧ ru f = nI s) ∧ pl f = nI (A f) ∧ A f ≤ 40 ∧ be f = nI (B f) ∧ sv f = nI (G f) ∧ f ≤ B f ∧ rr_mx (mx f)) ∧ mx 0 = -1 ∧ (∀ f, f < T → B (f + 1) = B f + G f + 1) ∧ V = B T + G T ∧ V ≤ 6 ∧ L = rr_cg mx (T + 1) ∧ U ≤ 200
def rr_ph (U T : Nat) (A : Nat → Nat) : Nat := 41 * (200 - U) + rr_pt A (T + 1)
section
variable {T L V U : Nat} {ru pl be sv mx : Nat → Int32} {A B G : Nat → Nat}
theorem rr_frb (h : rr_fr T L V U ru pl be sv mx A B G) : T ≤ V ∧ V ≤ 6 ∧ L ≤ T := by
  obtain ⟨h1, h2, h3, h4, h5, h6, h7⟩ := h
  have := (h1 T (by omega)).2.2.2.2.2.1
  have := rr_cgb h2 T
  omega
theorem rr_fr0 {ru pl be sv mx : Nat → Int32} : rr_fr 0 0 0 0 (upd ru 0 0) (upd pl 0 0) (upd be 0 0) (upd sv 0 0) (upd mx 0 (-1)) (fun _ => 0) (fun _ => 0) (fun _ => 0) := by
  refine ⟨fun f hf => ?_, pk_us, fun f hf => absurd hf (Nat.not_lt_zero f), rfl, by omega, ?_, by omega⟩
  · have e : f = 0 := by omega
    rw [e, pk_us, pk_us, pk_us, pk_us, pk_us]
    exact ⟨⟨0, by omega, rfl⟩, rfl, Nat.zero_le 40, rfl, rfl, Nat.zero_le _, Or.inl rfl⟩
  · show 0 = 0 + (if upd mx 0 (-1) 0 = -1 then 0 else 1)
    rw [pk_us, if_pos rfl]
theorem rr_ph0 : rr_ph 0 0 (fun _ => 0) = 8241 := rfl
/-- a token is taken -/
theorem rr_frt (h : rr_fr T L V U ru pl be sv mx A B G) (ha : A T < 40) : rr_fr T L V U ru (upd pl T (nI (A T + 1))) be sv mx (rr_up A T (A T + 1)) B G ∧ rr_ph U T (rr_up A T (A T + 1)) + 1 = rr_ph U T A := by
  obtain ⟨h1, h2, h3, h4, h5, h6, h7⟩ := h
  refine ⟨⟨fun f hf => ?_, h2, h3, h4, h5, h6, h7⟩, ?_⟩
  · obtain ⟨g1, g2, g3, g4⟩ := h1 f hf
    by_cases e : f = T
    · rw [e, pk_us, rr_us]
      rw [e] at g1 g4
      exact ⟨g1, rfl, by omega, g4⟩
    · rw [pk_un e, rr_un e]
      exact ⟨g1, g2, g3, g4⟩
  · show 41 * (200 - U) + (rr_pt (rr_up A T (A T + 1)) T + (41 - rr_up A T (A T + 1) T)) + 1 = 41 * (200 - U) + (rr_pt A T + (41 - A T))
    rw [rr_us, rr_ptc T (A' := A) (fun k hk => rr_un (Nat.ne_of_lt hk))]
    omega
/-- a unit is used -/
theorem rr_fru (h : rr_fr T L V U ru pl be sv mx A B G) (hU : U < 200) : rr_fr T L V (U + 1) ru pl be sv mx A B G ∧ rr_ph (U + 1) T A + 41 = rr_ph U T A := by
  obtain ⟨h1, h2, h3, h4, h5, h6, h7⟩ := h
  refine ⟨⟨h1, h2, h3, h4, h5, h6, by omega⟩, ?_⟩
  unfold rr_ph
  omega
/-- q -/
theorem rr_frq (h : rr_fr T L V U ru pl be sv mx A B G) (hV : V < 6) : rr_fr T L (V + 1) U ru pl be (upd sv T (nI (G T + 1))) mx A B (rr_up G T (G T + 1)) := by
  obtain ⟨h1, h2, h3, h4, h5, h6, h7⟩ := h
  refine ⟨fun f hf => ?_, h2, fun f hf => ?_, ?_, by omega, h6, h7⟩
  · obtain ⟨g1, g2, g3, g4, g5, g6⟩ := h1 f hf
    by_cases e : f = T
    · rw [e, pk_us, rr_us]
      rw [e] at g1 g2 g3 g4 g6
      exact ⟨g1, g2, g3, g4, rfl, g6⟩
    · rw [pk_un e, rr_un e]
      exact ⟨g1, g2, g3, g4, g5, g6⟩
  · rw [rr_un (by omega)]
    exact h3 f hf
  · rw [rr_us]
    omega
/-- Q -/
theorem rr_frQ (h : rr_fr T L V U ru pl be sv mx A B G) (hG : 0 < G T) : rr_fr T L (V - 1) U ru pl be (upd sv T (nI (G T - 1))) mx A B (rr_up G T (G T - 1)) := by
  obtain ⟨h1, h2, h3, h4, h5, h6, h7⟩ := h
  refine ⟨fun f hf => ?_, h2, fun f hf => ?_, ?_, by omega, h6, h7⟩
  · obtain ⟨g1, g2, g3, g4, g5, g6⟩ := h1 f hf
    by_cases e : f = T
    · rw [e, pk_us, rr_us]
      rw [e] at g1 g2 g3 g4 g6
      exact ⟨g1, g2, g3, g4, rfl, g6⟩
    · rw [pk_un e, rr_un e]
      exact ⟨g1, g2, g3, g4, g5, g6⟩
  · rw [rr_un (by omega)]
    exact h3 f hf
  · rw [rr_us]
    omega
/-- a stream is entered: Do and Dg -/
theorem rr_fre (h : rr_fr T L V U ru pl be sv mx A B G) (hV : V < 6) {s : Nat} (hs : s < 6) {a : Int32} (ha : rr_mx a) : rr_fr (T + 1) (L + if a = -1 then 0 else 1) (V + 1) U (upd ru (T + 1) (nI s)) (upd pl (T + 1) 0) (upd be (T + 1) (nI (V + 1))) (upd sv (T + 1) 0) (upd mx (T + 1) a) (rr_up A (T + 1) 0) (rr_up B (T + 1) (V + 1)) (rr_up G (T + 1) 0) ∧ rr_ph U (T + 1) (rr_up A (T + 1) 0) = rr_ph U T A + 41 := by
  obtain ⟨h1, h2, h3, h4, h5, h6, h7⟩ := h
  have hT := (h1 T (by omega)).2.2.2.2.2.1
  refine ⟨⟨fun f hf => ?_, ?_, fun f hf => ?_, ?_, by omega, ?_, h7⟩, ?_⟩
  · by_cases e : f = T + 1
    · rw [e, pk_us, pk_us, pk_us, pk_us, pk_us, rr_us, rr_us, rr_us]
      exact ⟨⟨s, hs, rfl⟩, rfl, by omega, rfl, rfl, by omega, ha⟩
    · rw [pk_un e, pk_un e, pk_un e, pk_un e, pk_un e, rr_un e, rr_un e, rr_un e]
      exact h1 f (by omega)
  · rw [pk_un (by omega)]
    exact h2
  · by_cases e : f = T
    · rw [e, rr_us, rr_un (by omega), rr_un (by omega)]
      omega
    · rw [rr_un (by omega), rr_un (by omega), rr_un (by omega)]
      exact h3 f (by omega)
  · rw [rr_us, rr_us]
  · show _ = rr_cg (upd mx (T + 1) a) (T + 1) + (if upd mx (T + 1) a (T + 1) = -1 then 0 else 1)
    rw [pk_us, h6, rr_cgc (T + 1) (A' := mx) (fun k hk => pk_un (Nat.ne_of_lt hk))]
  · show 41 * (200 - U) + (rr_pt (rr_up A (T + 1) 0) (T + 1) + (41 - rr_up A (T + 1) 0 (T + 1))) = 41 * (200 - U) + rr_pt A (T + 1) + 41
    rw [rr_us, rr_ptc (T + 1) (A' := A) (fun k hk => rr_un (Nat.ne_of_lt hk))]
    omega
/-- a stream's end, not the lowest's -/
theorem rr_frx (h : rr_fr (T + 1) L V U ru pl be sv mx A B G) : rr_fr T (L - if mx (T + 1) = -1 then 0 else 1) (B (T + 1) - 1) U ru pl be sv mx A B G ∧ rr_ph U T A + 1 ≤ rr_ph U (T + 1) A ∧ 1 ≤ B (T + 1) ∧ (mx (T + 1) ≠ -1 → 1 ≤ L) := by
  obtain ⟨h1, h2, h3, h4, h5, h6, h7⟩ := h
  have e3 := h3 T (by omega)
  have e1 := (h1 (T + 1) (by omega)).2.2.1
  have e6 : L = rr_cg mx (T + 1) + (if mx (T + 1) = -1 then 0 else 1) := h6
  refine ⟨⟨fun f hf => h1 f (by omega), h2, fun f hf => h3 f (by omega), by omega, by omega, by omega, h7⟩, ?_, by omega, fun hm => ?_⟩
  · show 41 * (200 - U) + rr_pt A (T + 1) + 1 ≤ 41 * (200 - U) + (rr_pt A (T + 1) + (41 - A (T + 1)))
    omega
  · rw [if_neg hm] at e6
    omega
theorem rr_ph1 (h : rr_fr T L V U ru pl be sv mx A B G) : 1 ≤ rr_ph U T A := by
  obtain ⟨h1, _⟩ := h
  have e1 := (h1 T (by omega)).2.2.1
  show 1 ≤ 41 * (200 - U) + (rr_pt A T + (41 - A T))
  omega
end
/-- no frame's place is beyond its stream's end -/
def rr_pl (K T : Nat) (ru sr ln : Nat → Int32) (A : Nat → Nat) : Prop := ∀ f, f < T + 1 → ∀ r l, r < 8 → l ≤ 40 → ma_nw sr (ru f) K = nI r → ln r = nI l → A f ≤ l
theorem rr_pl0 (K : Nat) (ru sr ln : Nat → Int32) : rr_pl K 0 ru sr ln (fun _ => 0) := fun _ _ _ _ _ _ _ _ => Nat.zero_le _
theorem rr_plt {K T : Nat} {ru sr ln : Nat → Int32} {A : Nat → Nat} (h : rr_pl K T ru sr ln A) {r l : Nat} (hr : r < 8) (hl : l ≤ 40) (e : ma_nw sr (ru T) K = nI r) (e' : ln r = nI l) (ha : A T < l) : rr_pl K T ru sr ln (rr_up A T (A T + 1)) := by
  intro f hf r' l' hr' hl' g g'
  by_cases z : f = T
  · rw [z] at g
    rw [e, nI_eq (by omega) (by omega)] at g
    rw [← g, e', nI_eq (by omega) (by omega)] at g'
    rw [z, rr_us]
    omega
  · rw [rr_un z]
    exact h f hf r' l' hr' hl' g g'
theorem rr_ple {K T : Nat} {ru sr ln : Nat → Int32} {A : Nat → Nat} (h : rr_pl K T ru sr ln A) (s : Int32) : rr_pl K (T + 1) (upd ru (T + 1) s) sr ln (rr_up A (T + 1) 0) := by
  intro f hf r' l' hr' hl' g g'
  by_cases z : f = T + 1
  · rw [z, rr_us]
    omega
  · rw [rr_un z]
    rw [pk_un z] at g
    exact h f (by omega) r' l' hr' hl' g g'
theorem rr_plx {K T : Nat} {ru sr ln : Nat → Int32} {A : Nat → Nat} (h : rr_pl K (T + 1) ru sr ln A) : rr_pl K T ru sr ln A := fun f hf => h f (by omega)
end
section
/-! small rows on numbers -/
theorem mb_ml (k a : Nat) : nI a * nI k = nI (k * a) := by rw [pk_mul, Nat.mul_comm]
theorem mb_mr (k a : Nat) : nI k * nI a = nI (k * a) := pk_mul k a
theorem mb_4000 : (4000 : Int32).toInt = 4000 ∧ (-4000 : Int32).toInt = -4000 := by decide
theorem mb_k (x : Int32) : ma_bd 4000 x ↔ ¬ x < -4000 ∧ ¬ 4000 < x := by
  rw [Int32.lt_iff_toInt_lt, Int32.lt_iff_toInt_lt, mb_4000.1, mb_4000.2]
  unfold ma_bd
  omega
theorem mb_0t : (0 : Int32).toInt = 0 := by decide
theorem mb_c1 (x : Int32) : rr_c1 x ↔ ¬ x < 0 ∧ ¬ 255 < x := by
  rw [Int32.lt_iff_toInt_lt, Int32.lt_iff_toInt_lt, mb_0t, show (255 : Int32).toInt = 255 from by decide]
  unfold rr_c1
  omega
theorem mb_16 (x : Int32) : (0 ≤ x.toInt ∧ x.toInt ≤ 16) ↔ ¬ x < 0 ∧ ¬ 16 < x := by
  rw [Int32.lt_iff_toInt_lt, Int32.lt_iff_toInt_lt, mb_0t, show (16 : Int32).toInt = 16 from by decide]
  omega
theorem mb_n1 {x : Int32} (h : 0 ≤ x.toInt) : x ≠ -1 ∧ ¬ x < 0 ∧ 0 ≤ x := by
  refine ⟨fun e => ?_, ?_, ?_⟩
  · rw [e] at h
    exact absurd h (by decide)
  · rw [Int32.lt_iff_toInt_lt, mb_0t]
    omega
  · rw [Int32.le_iff_toInt_le, mb_0t]
    exact h
theorem mb_nn1 {n : Nat} (h : n < 2 ^ 31) : ¬ nI n = -1 := (mb_n1 (by rw [nI_toInt h]; omega)).1
theorem mb_vb0 : vp_nar .boolean 0 = 0 := by decide
theorem mb_vb1 : vp_nar .boolean 1 = 1 := by decide
def ma_cn (f : Nat → Int32) (c : Int32) : Nat → Nat
  | 0 => 0
  | n + 1 => ma_cn f c n + if f n = c then 1 else 0
theorem ma_cnb (f : Nat → Int32) (c : Int32) : ∀ n, ma_cn f c n ≤ n
  | 0 => Nat.le_refl 0
  | n + 1 => by
    have ih := ma_cnb f c n
    show ma_cn f c n + (if f n = c then 1 else 0) ≤ n + 1
    split <;> omega
def ma_ro (f : Nat → Int32) (b : Nat) : Nat → Int32
  | 0 => 0
  | n + 1 => if f (b + n) = 0 then ma_ro f b n else ma_ro f b n ||| ((1 : Int32) <<< (nI n &&& 31))
def rr_need (k : Int32) : Nat := if k = 1 ∨ k = 2 ∨ k = 17 then 2 else if k = 4 then 4 else if k = 12 then 6 else if k = 13 ∨ k = 14 ∨ k = 16 then 1 else 0
theorem rr_needb (k : Int32) : rr_need k ≤ 6 := by
  unfold rr_need
  split
  · omega
  · split
    · omega
    · split
      · omega
      · split <;> omega
end
section
/-! the relation at the head of a turn, and that of a rendering under way -/
def rr_I (u : SX) (v : SY) : Prop := ∃ (c d : Nat) (xde xoc xun xfp xsc xtl xec xpb xpf xsx xsy xcx xcy ysh yle yla yde ypa yed yoc yfa ype : Int32) (dk dv sr rs rk rv ct ru pl be mx xo st cp pa pn fx fy tx ty fi cr cv ln kd nm mt co wi sv bx bo ex ey yo : Nat → Int32),
  u = (nI d, nI c, xde, xoc, xun, xfp, xsc, xtl, xec, xpb, xpf, xsx, xsy, xcx, xcy, dk, dv, sr, rs, rk, rv, ct, ru, pl, be, mx, xo, st, cp, pa, pn, fx, fy, tx, ty, fi, cr, cv) ∧ v = (nI c, ysh, yle, yla, yde, ypa, yed, yoc, xun, yfa, xfp, ype, sr, ln, kd, nm, mt, co, wi, cp, pa, pn, ru, pl, sv, be, mx, bx, bo, ex, ey, fx, fy, tx, ty, yo) ∧ rr_doc c d rs rk rv dk dv ln kd nm ∧ rr_st st mt co wi ∧ rr_pa pa
def i_Rel (_ : Nat) (u : SX) (v : SY) : Prop := rr_I u v
theorem i_up {k : Nat} {u : SX} {v : SY} (h : i_Rel k u v) : i_Rel (k + 3) u v := h
/-- a rendering under way: the first K revisions, the potential H, q operands, of which n are alike -/
def rr_G (K H q n : Nat) (u : SX) (v : SY) : Prop := ∃ (c d T L V U E P F : Nat) (A B G : Nat → Nat) (xpb xpf xsx xsy xcx xcy ype : Int32) (dk dv sr rs rk rv ct ru pl be mx xo st cp pa pn fx fy tx ty fi cr cv ln kd nm mt co wi sv bx bo ex ey yo : Nat → Int32),
  u = (nI d, nI c, nI (T + 1), nI q, nI U, -1, nI V, nI L, nI E, xpb, xpf, xsx, xsy, xcx, xcy, dk, dv, sr, rs, rk, rv, ct, ru, pl, be, mx, xo, st, cp, pa, pn, fx, fy, tx, ty, fi, cr, cv) ∧
  v = (nI c, nI K, nI V, nI L, nI (T + 1), nI P, nI E, nI q, nI U, 0, -1, ype, sr, ln, kd, nm, mt, co, wi, cp, pa, pn, ru, pl, sv, be, mx, bx, bo, ex, ey, fx, fy, tx, ty, yo) ∧
  rr_doc c d rs rk rv dk dv ln kd nm ∧ rr_st st mt co wi ∧ rr_pa pa ∧ rr_op n xo yo ∧ q ≤ 6 ∧ rr_ct K ct sr ∧ K ≤ 8 ∧ rr_fr T L V U ru pl be sv mx A B G ∧ rr_pl K T ru sr ln A ∧
  ma_path E P F xpb xsx xsy xcx xcy fx fy tx ty fi bx bo ex ey ∧ (xpb = 1 → xpf = nI F ∧ ype = nI (E - F)) ∧ H = rr_ph U T A
/-- a rendering that ended with fault r, where it is not yet written -/
def rr_E (r : Int32) (u : SX) (v : SY) : Prop := ∃ (c d : Nat) (xde xoc xun xsc xtl xec xpb xpf xsx xsy xcx xcy ysh yle yla yde ypa yed yoc ype : Int32) (dk dv sr rs rk rv ct ru pl be mx xo st cp pa pn fx fy tx ty fi cr cv ln kd nm mt co wi sv bx bo ex ey yo : Nat → Int32),
  u = (nI d, nI c, xde, xoc, xun, -1, xsc, xtl, xec, xpb, xpf, xsx, xsy, xcx, xcy, dk, dv, sr, rs, rk, rv, ct, ru, pl, be, mx, xo, st, cp, pa, pn, fx, fy, tx, ty, fi, cr, cv) ∧ v = (nI c, ysh, yle, yla, yde, ypa, yed, yoc, xun, r, -1, ype, sr, ln, kd, nm, mt, co, wi, cp, pa, pn, ru, pl, sv, be, mx, bx, bo, ex, ey, fx, fy, tx, ty, yo) ∧ rr_doc c d rs rk rv dk dv ln kd nm ∧ rr_st st mt co wi ∧ rr_pa pa
/-- how an operator ends -/
def rr_O (K H : Nat) (r : Int32) (u : SX) (v : SY) : Prop := (r = 0 ∧ ∃ H', H' ≤ H + 41 ∧ rr_G K H' 0 0 u v) ∨ (r ≠ 0 ∧ rr_E r u v)
end
section
variable {xds xrc xde xoc xun xfp xsc xtl xec xpb xpf xsx xsy xcx xcy yrc ysh yle yla yde ypa yed yoc yun yfa ywh ype : Int32} {dk dv sr rs rk rv ct ru pl be mx xo st cp pa pn fx fy tx ty fi cr cv ln kd nm mt co wi sv bx bo ex ey yo : Nat → Int32}
theorem ma_ws0 (f g : Nat → Int32) (i : Nat) : upd (ma_w f g 0 i) i (g i) = ma_w f g 0 (i + 1) := by
  have h := ma_ws f g 0 i
  rw [Nat.zero_add] at h
  exact h
/-! clearLayer, clearPage -/
theorem xw_cl9 {post : SX → Prop} {c : Int32} {b : Nat} (hb : b + 192 ≤ 1344) (hp : post (xds, xrc, xde, xoc, xun, xfp, xsc, xtl, xec, xpb, xpf, xsx, xsy, xcx, xcy, dk, dv, sr, rs, rk, rv, ct, ru, pl, be, mx, xo, st, cp, ma_w pa (fun _ => c) b 192, ma_w pn (fun _ => -1) b 192, fx, fy, tx, ty, fi, cr, cv)) :
    ∀ d i, i + d = 192 → wX_clearLayer_9 post c (nI b) xds xrc xde xoc xun xfp xsc xtl xec xpb xpf xsx xsy xcx xcy (d + 1) (nI i) dk dv sr rs rk rv ct ru pl be mx xo st cp (ma_w pa (fun _ => c) b i) (ma_w pn (fun _ => -1) b i) fx fy tx ty fi cr cv := by
  intro d
  induction d with
  | zero =>
    intro i hi
    have e : i = 192 := by omega
    rw [e]
    exact pk_le 192 192 (fun _ => hp) (fun h => absurd h (by omega))
  | succ d ih =>
    intro i hi
    have ein : nI b + nI i = nI (b + i) := nI_add b i
    have hin : vp_in (nI b + nI i) 1344 := pk_in (b + i) 1344 (by omega) ein
    have ec : (nI b + nI i).toNatClampNeg = b + i := pk_cl (b + i) ein
    exact pk_le 192 i (fun h => absurd h (by omega)) (fun _ => ⟨hin, nm_r (by rw [ec]; exact ma_ws pa (fun _ => c) b i) ⟨hin, nm_r (by rw [ec]; exact ma_ws pn (fun _ => -1) b i) (nm_r (nI_1 i) (ih (i + 1) (by omega)))⟩⟩)
theorem xp_cl {post : SX → Prop} {c : Int32} {l : Nat} (hl : l ≤ 6) (hp : post (xds, xrc, xde, xoc, xun, xfp, xsc, xtl, xec, xpb, xpf, xsx, xsy, xcx, xcy, dk, dv, sr, rs, rk, rv, ct, ru, pl, be, mx, xo, st, cp, ma_w pa (fun _ => c) (192 * l) 192, ma_w pn (fun _ => -1) (192 * l) 192, fx, fy, tx, ty, fi, cr, cv)) : wpX_clearLayer post (xds, xrc, xde, xoc, xun, xfp, xsc, xtl, xec, xpb, xpf, xsx, xsy, xcx, xcy, dk, dv, sr, rs, rk, rv, ct, ru, pl, be, mx, xo, st, cp, pa, pn, fx, fy, tx, ty, fi, cr, cv) (nI l) c := by
  have h := xw_cl9 (b := 192 * l) (by omega) hp 192 0 rfl
  rw [ma_w0, ma_w0] at h
  exact nm_r (mb_ml 192 l) ⟨193, h⟩
theorem yw_cl2 {post : SY → Prop} (hp : post (yrc, ysh, yle, yla, yde, ypa, yed, yoc, yun, yfa, ywh, ype, sr, ln, kd, nm, mt, co, wi, cp, ma_w pa (fun _ => 0) 0 192, ma_w pn (fun _ => -1) 0 192, ru, pl, sv, be, mx, bx, bo, ex, ey, fx, fy, tx, ty, yo)) :
    ∀ d i, i + d = 192 → wY_clearPage_2 post yrc ysh yle yla yde ypa yed yoc yun yfa ywh ype (d + 1) (nI i) sr ln kd nm mt co wi cp (ma_w pa (fun _ => 0) 0 i) (ma_w pn (fun _ => -1) 0 i) ru pl sv be mx bx bo ex ey fx fy tx ty yo := by
  intro d
  induction d with
  | zero =>
    intro i hi
    have e : i = 192 := by omega
    rw [e]
    exact pk_le 192 192 (fun _ => hp) (fun h => absurd h (by omega))
  | succ d ih =>
    intro i hi
    have hin : vp_in (nI i) 1344 := pk_in i 1344 (by omega)
    have ec : (nI i).toNatClampNeg = i := pk_cl i
    exact pk_le 192 i (fun h => absurd h (by omega)) (fun _ => ⟨hin, nm_r (by rw [ec]; exact ma_ws0 pa (fun _ => 0) i) ⟨hin, nm_r (by rw [ec]; exact ma_ws0 pn (fun _ => -1) i) (nm_r (nI_1 i) (ih (i + 1) (by omega)))⟩⟩)
theorem yp_cl {post : SY → Prop} (hp : post (yrc, ysh, yle, yla, yde, ypa, yed, yoc, yun, yfa, ywh, ype, sr, ln, kd, nm, mt, co, wi, cp, ma_w pa (fun _ => 0) 0 192, ma_w pn (fun _ => -1) 0 192, ru, pl, sv, be, mx, bx, bo, ex, ey, fx, fy, tx, ty, yo)) : wpY_clearPage post (yrc, ysh, yle, yla, yde, ypa, yed, yoc, yun, yfa, ywh, ype, sr, ln, kd, nm, mt, co, wi, cp, pa, pn, ru, pl, sv, be, mx, bx, bo, ex, ey, fx, fy, tx, ty, yo) := by
  have h := yw_cl2 hp 192 0 rfl
  rw [ma_w0, ma_w0] at h
  exact ⟨193, h⟩
theorem rr_c10 : rr_c1 0 := by
  unfold rr_c1
  decide
theorem rr_pa0 {pa : Nat → Int32} (h : rr_pa pa) : rr_pa (ma_w pa (fun _ => 0) 0 192) := ma_wall (P := fun x => x = -1 ∨ rr_c1 x) h (fun _ _ => Or.inr (by unfold rr_c1; decide))
theorem i_vc0 : wpX_init (fun u => wpY_init (fun v => i_Rel 0 u v)) := by
  unfold wpX_init
  refine xp_cl (l := 0) (by omega) ?_
  dsimp only
  unfold wpY_init
  refine yp_cl ?_
  dsimp only
  exact ⟨0, 0, 0, 0, 0, -1, 0, 0, 0, 0, 0, 0, 0, 0, 0, 0, 0, 0, 0, 0, 0, 0, 0, 0, _, _, _, _, _, _, _, _, _, _, _, _, _, _, _, _, _, _, _, _, _, _, _, _, _, _, _, _, _, _, _, _, _, _, _, rfl, rfl, ⟨by omega, by omega, rfl, fun r hr => ⟨rfl, 0, by omega, rfl⟩, fun i hi => ⟨rfl, rfl⟩, fun i hi => ⟨rfl, rfl⟩⟩, fun l hl => ⟨fun n hn => rfl, rfl, rfl, rr_c10⟩, rr_pa0 (fun _ => Or.inr rr_c10)⟩
/-! token, wipe, commit, revert -/
theorem yt_28 {post : Int32 → SY → Prop} {d : Nat} {a b : Int32} (hd : ln 8 = nI d) (h : d < 40) (H : post 1 (yrc, ysh, yle, yla, yde, ypa, yed, yoc, yun, yfa, ywh, ype, sr, upd ln 8 (nI (d + 1)), upd kd (320 + d) a, upd nm (320 + d) b, mt, co, wi, cp, pa, pn, ru, pl, sv, be, mx, bx, bo, ex, ey, fx, fy, tx, ty, yo)) : wY_token_28 post a b yrc ysh yle yla yde ypa yed yoc yun yfa ywh ype sr ln kd nm mt co wi cp pa pn ru pl sv be mx bx bo ex ey fx fy tx ty yo := by
  have e : (320 : Int32) + ln 8 = nI (320 + d) := by
    rw [hd]
    exact nI_add 320 d
  have ec : ((320 : Int32) + ln 8).toNatClampNeg = 320 + d := pk_cl (320 + d) e
  have hin : vp_in ((320 : Int32) + ln 8) 360 := pk_in (320 + d) 360 (by omega) e
  exact pk_eq d 40 (fun h => absurd h (by omega)) (fun _ => ⟨hin, nm_r (by rw [ec]) ⟨hin, nm_r (by rw [ec]) (nm_r (by rw [hd, nI_1]) H)⟩⟩) hd
theorem yt_28f {post : Int32 → SY → Prop} {d : Nat} {a b : Int32} (hd : ln 8 = nI d) (h : d = 40) (H : post 0 (yrc, ysh, yle, yla, yde, ypa, yed, yoc, yun, yfa, ywh, ype, sr, ln, kd, nm, mt, co, wi, cp, pa, pn, ru, pl, sv, be, mx, bx, bo, ex, ey, fx, fy, tx, ty, yo)) : wY_token_28 post a b yrc ysh yle yla yde ypa yed yoc yun yfa ywh ype sr ln kd nm mt co wi cp pa pn ru pl sv be mx bx bo ex ey fx fy tx ty yo := pk_eq d 40 (fun _ => H) (fun z => absurd h z) hd
theorem xt_41 {post : Int32 → SX → Prop} {d : Nat} {a b : Int32} (h : d < 40) (H : post 1 (nI (d + 1), xrc, xde, xoc, xun, xfp, xsc, xtl, xec, xpb, xpf, xsx, xsy, xcx, xcy, upd dk d a, upd dv d b, sr, rs, rk, rv, ct, ru, pl, be, mx, xo, st, cp, pa, pn, fx, fy, tx, ty, fi, cr, cv)) : wX_token_41 post a b (nI d) xrc xde xoc xun xfp xsc xtl xec xpb xpf xsx xsy xcx xcy dk dv sr rs rk rv ct ru pl be mx xo st cp pa pn fx fy tx ty fi cr cv := by
  have ec : (nI d).toNatClampNeg = d := pk_cl d
  have hin : vp_in (nI d) 40 := pk_in d 40 h
  exact ⟨hin, nm_r (by rw [ec]) ⟨hin, nm_r (by rw [ec]) (nm_r (nI_1 d) H)⟩⟩
theorem i_vc_token {k : Nat} {u : SX} {v : SY} (I : i_Rel k u v) (hk : k + 3 ≤ 1536) (v1 : Int32) (v2 : Int32) : wpX_token (fun r u' => wpY_token (fun r' v' => r' = r ∧ i_Rel (k + 3) u' v') v v1 v2) u v1 v2 := by
  obtain ⟨c, d, xde, xoc, xun, xfp, xsc, xtl, xec, xpb, xpf, xsx, xsy, xcx, xcy, ysh, yle, yla, yde, ypa, yed, yoc, yfa, ype, dk, dv, sr, rs, rk, rv, ct, ru, pl, be, mx, xo, st, cp, pa, pn, fx, fy, tx, ty, fi, cr, cv, ln, kd, nm, mt, co, wi, sv, bx, bo, ex, ey, yo, rfl, rfl, hd, hs, hp⟩ := I
  have J : i_Rel (k + 3) (nI d, nI c, xde, xoc, xun, xfp, xsc, xtl, xec, xpb, xpf, xsx, xsy, xcx, xcy, dk, dv, sr, rs, rk, rv, ct, ru, pl, be, mx, xo, st, cp, pa, pn, fx, fy, tx, ty, fi, cr, cv) (nI c, ysh, yle, yla, yde, ypa, yed, yoc, xun, yfa, xfp, ype, sr, ln, kd, nm, mt, co, wi, cp, pa, pn, ru, pl, sv, be, mx, bx, bo, ex, ey, fx, fy, tx, ty, yo) := ⟨_, _, _, _, _, _, _, _, _, _, _, _, _, _, _, _, _, _, _, _, _, _, _, _, _, _, _, _, _, _, _, _, _, _, _, _, _, _, _, _, _, _, _, _, _, _, _, _, _, _, _, _, _, _, _, _, _, _, _, rfl, rfl, hd, hs, hp⟩
  have hl := hd.2.2.1
  by_cases h1 : v1 < 0
  · exact br_t h1 (br_t h1 ⟨rfl, J⟩)
  by_cases h2 : 17 < v1
  · exact br_f h1 (br_t h2 (br_f h1 (br_t h2 ⟨rfl, J⟩)))
  by_cases h3 : d < 40
  · have J' := rr_tok hd h3 v1 v2
    by_cases h4 : v1 = 0
    · by_cases h5 : v2 < -1000
      · exact br_f h1 (br_f h2 (pk_lt d 40 (fun _ => br_t h4 (br_t h5 (br_f h1 (br_f h2 (br_t h4 (br_t h5 ⟨rfl, J⟩)))))) (fun h => absurd h (by omega))))
      by_cases h6 : v2 ≤ 1000
      · have h6' : ¬ 1000 < v2 := Int32.not_lt.mpr h6
        exact br_f h1 (br_f h2 (pk_lt d 40 (fun _ => br_t h4 (br_f h5 (br_t h6 (xt_41 h3 (br_f h1 (br_f h2 (br_t h4 (br_f h5 (br_f h6' (yt_28 hl h3 ⟨rfl, ⟨_, _, _, _, _, _, _, _, _, _, _, _, _, _, _, _, _, _, _, _, _, _, _, _, _, _, _, _, _, _, _, _, _, _, _, _, _, _, _, _, _, _, _, _, _, _, _, _, _, _, _, _, _, _, _, _, _, _, _, rfl, rfl, J', hs, hp⟩⟩)))))))))) (fun h => absurd h (by omega))))
      · have h6' : 1000 < v2 := Int32.not_le.mp h6
        exact br_f h1 (br_f h2 (pk_lt d 40 (fun _ => br_t h4 (br_f h5 (br_f h6 (br_f h1 (br_f h2 (br_t h4 (br_f h5 (br_t h6' ⟨rfl, J⟩)))))))) (fun h => absurd h (by omega))))
    · exact br_f h1 (br_f h2 (pk_lt d 40 (fun _ => br_f h4 (xt_41 h3 (br_f h1 (br_f h2 (br_f h4 (yt_28 hl h3 ⟨rfl, ⟨_, _, _, _, _, _, _, _, _, _, _, _, _, _, _, _, _, _, _, _, _, _, _, _, _, _, _, _, _, _, _, _, _, _, _, _, _, _, _, _, _, _, _, _, _, _, _, _, _, _, _, _, _, _, _, _, _, _, _, rfl, rfl, J', hs, hp⟩⟩)))))) (fun h => absurd h (by omega))))
  · have hd40 : d = 40 := by
      have := hd.2.1
      omega
    refine br_f h1 (br_f h2 (pk_lt d 40 (fun h => absurd h h3) (fun _ => br_f h1 (br_f h2 ?_))))
    by_cases h4 : v1 = 0
    · by_cases h5 : v2 < -1000
      · exact br_t h4 (br_t h5 ⟨rfl, J⟩)
      by_cases h6 : 1000 < v2
      · exact br_t h4 (br_f h5 (br_t h6 ⟨rfl, J⟩))
      · exact br_t h4 (br_f h5 (br_f h6 (yt_28f hl hd40 ⟨rfl, J⟩)))
    · exact br_f h4 (yt_28f hl hd40 ⟨rfl, J⟩)
theorem i_vc_wipe {k : Nat} {u : SX} {v : SY} (I : i_Rel k u v) (hk : k + 3 ≤ 1536) : wpX_wipe (fun r u' => wpY_wipe (fun r' v' => r' = r ∧ i_Rel (k + 3) u' v') v) u := by
  obtain ⟨c, d, xde, xoc, xun, xfp, xsc, xtl, xec, xpb, xpf, xsx, xsy, xcx, xcy, ysh, yle, yla, yde, ypa, yed, yoc, yfa, ype, dk, dv, sr, rs, rk, rv, ct, ru, pl, be, mx, xo, st, cp, pa, pn, fx, fy, tx, ty, fi, cr, cv, ln, kd, nm, mt, co, wi, sv, bx, bo, ex, ey, yo, rfl, rfl, hd, hs, hp⟩ := I
  have hl := hd.2.2.1
  exact nm_r hl (nm_e ⟨rfl, ⟨_, _, _, _, _, _, _, _, _, _, _, _, _, _, _, _, _, _, _, _, _, _, _, _, _, _, _, _, _, _, _, _, _, _, _, _, _, _, _, _, _, _, _, _, _, _, _, _, _, _, _, _, _, _, _, _, _, _, _, rfl, rfl, rr_wip hd, hs, hp⟩⟩)
theorem xw_com {post : Int32 → SX → Prop} {s : Int32} {c d : Nat} (hc : c < 8) (hd : d ≤ 40) (hp : post 1 (0, nI (c + 1), xde, xoc, xun, xfp, xsc, xtl, xec, xpb, xpf, xsx, xsy, xcx, xcy, dk, dv, upd sr c s, upd rs c (nI d), ma_w rk dk (40 * c) d, ma_w rv dv (40 * c) d, ct, ru, pl, be, mx, xo, st, cp, pa, pn, fx, fy, tx, ty, fi, cr, cv)) :
    ∀ e i, i + e = d → wX_commit_31 post s (nI (40 * c)) (nI d) (nI c) xde xoc xun xfp xsc xtl xec xpb xpf xsx xsy xcx xcy (e + 1) (nI i) dk dv sr rs (ma_w rk dk (40 * c) i) (ma_w rv dv (40 * c) i) ct ru pl be mx xo st cp pa pn fx fy tx ty fi cr cv := by
  have ecc : (nI c).toNatClampNeg = c := pk_cl c
  have hic : vp_in (nI c) 8 := pk_in c 8 hc
  intro e
  induction e with
  | zero =>
    intro i hi
    have e : i = d := by omega
    rw [e]
    exact pk_le d d (fun _ => ⟨hic, nm_r (by rw [ecc]) ⟨hic, nm_r (by rw [ecc]) (nm_r (nI_1 c) hp)⟩⟩) (fun h => absurd h (by omega))
  | succ e ih =>
    intro i hi
    have ein : nI (40 * c) + nI i = nI (40 * c + i) := nI_add _ i
    have hin : vp_in (nI (40 * c) + nI i) 320 := pk_in (40 * c + i) 320 (by omega) ein
    have ec : (nI (40 * c) + nI i).toNatClampNeg = 40 * c + i := pk_cl (40 * c + i) ein
    have hi4 : vp_in (nI i) 40 := pk_in i 40 (by omega)
    have ei : (nI i).toNatClampNeg = i := pk_cl i
    exact pk_le d i (fun h => absurd h (by omega)) (fun _ => ⟨hi4, hin, nm_r (by rw [ec, ei]; exact ma_ws rk dk (40 * c) i) ⟨hi4, hin, nm_r (by rw [ec, ei]; exact ma_ws rv dv (40 * c) i) (nm_r (nI_1 i) (ih (i + 1) (by omega)))⟩⟩)
theorem yw_com {post : Int32 → SY → Prop} {c d : Nat} (hc : c < 8) (hd : d ≤ 40) (hl : ln 8 = nI d) (hp : post 1 (nI (c + 1), ysh, yle, yla, yde, ypa, yed, yoc, yun, yfa, ywh, ype, sr, upd ln 8 0, ma_w kd (fun t => kd (320 + t)) (40 * c) d, ma_w nm (fun t => nm (320 + t)) (40 * c) d, mt, co, wi, cp, pa, pn, ru, pl, sv, be, mx, bx, bo, ex, ey, fx, fy, tx, ty, yo)) :
    ∀ e i, i + e = d → wY_commit_48 post (nI c) ysh yle yla yde ypa yed yoc yun yfa ywh ype (e + 1) (nI i) sr ln (ma_w kd (fun t => kd (320 + t)) (40 * c) i) (ma_w nm (fun t => nm (320 + t)) (40 * c) i) mt co wi cp pa pn ru pl sv be mx bx bo ex ey fx fy tx ty yo := by
  intro e
  induction e with
  | zero =>
    intro i hi
    have e : i = d := by omega
    rw [e]
    exact pk_le d d (fun _ => nm_e (nm_r (nI_1 c) hp)) (fun h => absurd h (by omega)) hl
  | succ e ih =>
    intro i hi
    have ein : (40 : Int32) * nI c + nI i = nI (40 * c + i) := nI_add (40 * c) i ▸ congrArg (· + nI i) (mb_mr 40 c)
    have hin : vp_in ((40 : Int32) * nI c + nI i) 360 := pk_in (40 * c + i) 360 (by omega) ein
    have ec : ((40 : Int32) * nI c + nI i).toNatClampNeg = 40 * c + i := pk_cl (40 * c + i) ein
    have e3 : (320 : Int32) + nI i = nI (320 + i) := nI_add 320 i
    have hi3 : vp_in ((320 : Int32) + nI i) 360 := pk_in (320 + i) 360 (by omega) e3
    have ei : ((320 : Int32) + nI i).toNatClampNeg = 320 + i := pk_cl (320 + i) e3
    exact pk_le d i (fun h => absurd h (by omega)) (fun _ => ⟨hi3, hin, nm_r (by rw [ec, ei, ma_wr (by omega)]; exact ma_ws kd (fun t => kd (320 + t)) (40 * c) i) ⟨hi3, hin, nm_r (by rw [ec, ei, ma_wr (by omega)]; exact ma_ws nm (fun t => nm (320 + t)) (40 * c) i) (nm_r (nI_1 i) (ih (i + 1) (by omega)))⟩⟩) hl
theorem xp_com {post : Int32 → SX → Prop} {s c d : Nat} (hs : s < 6) (hc : c < 8) (hd : d ≤ 40) (hp : post 1 (0, nI (c + 1), xde, xoc, xun, xfp, xsc, xtl, xec, xpb, xpf, xsx, xsy, xcx, xcy, dk, dv, upd sr c (nI s), upd rs c (nI d), ma_w rk dk (40 * c) d, ma_w rv dv (40 * c) d, ct, ru, pl, be, mx, xo, st, cp, pa, pn, fx, fy, tx, ty, fi, cr, cv)) :
    wpX_commit post (nI d, nI c, xde, xoc, xun, xfp, xsc, xtl, xec, xpb, xpf, xsx, xsy, xcx, xcy, dk, dv, sr, rs, rk, rv, ct, ru, pl, be, mx, xo, st, cp, pa, pn, fx, fy, tx, ty, fi, cr, cv) (nI s) := by
  have h := xw_com hc hd hp d 0 (by omega)
  rw [ma_w0, ma_w0] at h
  exact br_f (nI_pos (by omega)) (pk_le 6 s (fun h => absurd h (by omega)) (fun _ => pk_lt c 8 (fun _ => nm_r (mb_ml 40 c) ⟨d + 1, h⟩) (fun h => absurd h (by omega))))
theorem yp_com {post : Int32 → SY → Prop} {s c d : Nat} (hs : s < 6) (hc : c < 8) (hd : d ≤ 40) (hl : ln 8 = nI d) (hp : post 1 (nI (c + 1), ysh, yle, yla, yde, ypa, yed, yoc, yun, yfa, ywh, ype, upd sr c (nI s), upd (upd ln c (nI d)) 8 0, ma_w kd (fun t => kd (320 + t)) (40 * c) d, ma_w nm (fun t => nm (320 + t)) (40 * c) d, mt, co, wi, cp, pa, pn, ru, pl, sv, be, mx, bx, bo, ex, ey, fx, fy, tx, ty, yo)) :
    wpY_commit post (nI c, ysh, yle, yla, yde, ypa, yed, yoc, yun, yfa, ywh, ype, sr, ln, kd, nm, mt, co, wi, cp, pa, pn, ru, pl, sv, be, mx, bx, bo, ex, ey, fx, fy, tx, ty, yo) (nI s) := by
  have hl' : upd ln c (nI d) 8 = nI d := by
    rw [pk_un (by omega)]
    exact hl
  have h := yw_com (ln := upd ln c (nI d)) hc hd hl' hp d 0 (by omega)
  rw [ma_w0, ma_w0] at h
  have ecc : (nI c).toNatClampNeg = c := pk_cl c
  exact br_f (nI_pos (by omega)) (pk_lt 5 s (fun h => absurd h (by omega)) (fun _ => pk_eq c 8 (fun h => absurd h (by omega)) (fun _ => ⟨pk_in c 8 hc, nm_r (by rw [ecc]) ⟨pk_in c 9 (by omega), nm_r (by rw [ecc, hl]) ⟨d + 1, h⟩⟩⟩)))
theorem i_vc_commit {k : Nat} {u : SX} {v : SY} (I : i_Rel k u v) (hk : k + 3 ≤ 1536) (v1 : Int32) : wpX_commit (fun r u' => wpY_commit (fun r' v' => r' = r ∧ i_Rel (k + 3) u' v') v v1) u v1 := by
  obtain ⟨c, d, xde, xoc, xun, xfp, xsc, xtl, xec, xpb, xpf, xsx, xsy, xcx, xcy, ysh, yle, yla, yde, ypa, yed, yoc, yfa, ype, dk, dv, sr, rs, rk, rv, ct, ru, pl, be, mx, xo, st, cp, pa, pn, fx, fy, tx, ty, fi, cr, cv, ln, kd, nm, mt, co, wi, sv, bx, bo, ex, ey, yo, rfl, rfl, hd, hs, hp⟩ := I
  have J : i_Rel (k + 3) (nI d, nI c, xde, xoc, xun, xfp, xsc, xtl, xec, xpb, xpf, xsx, xsy, xcx, xcy, dk, dv, sr, rs, rk, rv, ct, ru, pl, be, mx, xo, st, cp, pa, pn, fx, fy, tx, ty, fi, cr, cv) (nI c, ysh, yle, yla, yde, ypa, yed, yoc, xun, yfa, xfp, ype, sr, ln, kd, nm, mt, co, wi, cp, pa, pn, ru, pl, sv, be, mx, bx, bo, ex, ey, fx, fy, tx, ty, yo) := ⟨_, _, _, _, _, _, _, _, _, _, _, _, _, _, _, _, _, _, _, _, _, _, _, _, _, _, _, _, _, _, _, _, _, _, _, _, _, _, _, _, _, _, _, _, _, _, _, _, _, _, _, _, _, _, _, _, _, _, _, rfl, rfl, hd, hs, hp⟩
  have hc8 := hd.1
  have hd40 := hd.2.1
  have hl := hd.2.2.1
  rcases pk_ix v1 (n := 6) (by omega) with h1 | h1 | ⟨s, hs6, rfl⟩
  · exact br_t h1 (br_t h1 ⟨rfl, J⟩)
  · rw [Int32.le_iff_toInt_le, nI_toInt (by omega)] at h1
    have h1' : ¬ v1 < 0 := by
      rw [Int32.lt_iff_toInt_lt, mb_0t]
      omega
    have h2 : 6 ≤ v1 := by
      rw [Int32.le_iff_toInt_le, show (6 : Int32).toInt = 6 from by decide]
      omega
    have h3 : 5 < v1 := by
      rw [Int32.lt_iff_toInt_lt, show (5 : Int32).toInt = 5 from by decide]
      omega
    exact br_f h1' (br_t h2 (br_f h1' (br_t h3 ⟨rfl, J⟩)))
  · by_cases hc : c < 8
    · exact xp_com hs6 hc hd40 (yp_com hs6 hc hd40 hl ⟨rfl, ⟨_, _, _, _, _, _, _, _, _, _, _, _, _, _, _, _, _, _, _, _, _, _, _, _, _, _, _, _, _, _, _, _, _, _, _, _, _, _, _, _, _, _, _, _, _, _, _, _, _, _, _, _, _, _, _, _, _, _, _, rfl, rfl, rr_com hd hc, hs, hp⟩⟩)
    · have e8 : c = 8 := by omega
      have h0 : ¬ nI s < 0 := nI_pos (by omega)
      exact br_f h0 (pk_le 6 s (fun h => absurd h (by omega)) (fun _ => pk_lt c 8 (fun h => absurd h hc) (fun _ => br_f h0 (pk_lt 5 s (fun h => absurd h (by omega)) (fun _ => pk_eq c 8 (fun _ => ⟨rfl, J⟩) (fun z => absurd e8 z))))))
theorem i_vc_revert {k : Nat} {u : SX} {v : SY} (I : i_Rel k u v) (hk : k + 3 ≤ 1536) : wpX_revert (fun r u' => wpY_revert (fun r' v' => r' = r ∧ i_Rel (k + 3) u' v') v) u := by
  obtain ⟨c, d, xde, xoc, xun, xfp, xsc, xtl, xec, xpb, xpf, xsx, xsy, xcx, xcy, ysh, yle, yla, yde, ypa, yed, yoc, yfa, ype, dk, dv, sr, rs, rk, rv, ct, ru, pl, be, mx, xo, st, cp, pa, pn, fx, fy, tx, ty, fi, cr, cv, ln, kd, nm, mt, co, wi, sv, bx, bo, ex, ey, yo, rfl, rfl, hd, hs, hp⟩ := I
  have hc8 := hd.1
  cases c with
  | zero => exact br_t rfl (br_t rfl ⟨rfl, ⟨_, _, _, _, _, _, _, _, _, _, _, _, _, _, _, _, _, _, _, _, _, _, _, _, _, _, _, _, _, _, _, _, _, _, _, _, _, _, _, _, _, _, _, _, _, _, _, _, _, _, _, _, _, _, _, _, _, _, _, rfl, rfl, hd, hs, hp⟩⟩)
  | succ c =>
    have hin : vp_in (nI c) 8 := pk_in c 8 (by omega)
    exact pk_eq (c + 1) 0 (fun h => absurd h (by omega)) (fun _ => nm_r (nI_pred c) ⟨hin, pk_eq (c + 1) 0 (fun h => absurd h (by omega)) (fun _ => nm_r (nI_pred c) ⟨hin, rfl, ⟨_, _, _, _, _, _, _, _, _, _, _, _, _, _, _, _, _, _, _, _, _, _, _, _, _, _, _, _, _, _, _, _, _, _, _, _, _, _, _, _, _, _, _, _, _, _, _, _, _, _, _, _, _, _, _, _, _, _, _, rfl, rfl, rr_rev hd, hs, hp⟩⟩)⟩)
theorem i_vc_faultAt {k : Nat} {u : SX} {v : SY} (I : i_Rel k u v) (hk : k + 3 ≤ 1536) : wpX_faultAt (fun r => wpY_faultAt (fun r' => r' = r ∧ i_Rel (k + 3) u v) v) u := by
  obtain ⟨c, d, xde, xoc, xun, xfp, xsc, xtl, xec, xpb, xpf, xsx, xsy, xcx, xcy, ysh, yle, yla, yde, ypa, yed, yoc, yfa, ype, dk, dv, sr, rs, rk, rv, ct, ru, pl, be, mx, xo, st, cp, pa, pn, fx, fy, tx, ty, fi, cr, cv, ln, kd, nm, mt, co, wi, sv, bx, bo, ex, ey, yo, rfl, rfl, hd, hs, hp⟩ := I
  exact ⟨rfl, ⟨_, _, _, _, _, _, _, _, _, _, _, _, _, _, _, _, _, _, _, _, _, _, _, _, _, _, _, _, _, _, _, _, _, _, _, _, _, _, _, _, _, _, _, _, _, _, _, _, _, _, _, _, _, _, _, _, _, _, _, rfl, rfl, hd, hs, hp⟩⟩
theorem i_vc_used {k : Nat} {u : SX} {v : SY} (I : i_Rel k u v) (hk : k + 3 ≤ 1536) : wpX_used (fun r => wpY_used (fun r' => r' = r ∧ i_Rel (k + 3) u v) v) u := by
  obtain ⟨c, d, xde, xoc, xun, xfp, xsc, xtl, xec, xpb, xpf, xsx, xsy, xcx, xcy, ysh, yle, yla, yde, ypa, yed, yoc, yfa, ype, dk, dv, sr, rs, rk, rv, ct, ru, pl, be, mx, xo, st, cp, pa, pn, fx, fy, tx, ty, fi, cr, cv, ln, kd, nm, mt, co, wi, sv, bx, bo, ex, ey, yo, rfl, rfl, hd, hs, hp⟩ := I
  exact ⟨rfl, ⟨_, _, _, _, _, _, _, _, _, _, _, _, _, _, _, _, _, _, _, _, _, _, _, _, _, _, _, _, _, _, _, _, _, _, _, _, _, _, _, _, _, _, _, _, _, _, _, _, _, _, _, _, _, _, _, _, _, _, _, rfl, rfl, hd, hs, hp⟩⟩
end
section
variable {xds xrc xde xoc xun xfp xsc xtl xec xpb xpf xsx xsy xcx xcy yrc ysh yle yla yde ypa yed yoc yun yfa ywh ype : Int32} {dk dv sr rs rk rv ct ru pl be mx xo st cp pa pn fx fy tx ty fi cr cv ln kd nm mt co wi sv bx bo ex ey yo : Nat → Int32}
/-! the newest revision, size -/
theorem xw_nr {post : Int32 → Prop} {s : Int32} {n : Nat} (hn : n ≤ 8) (hp : post (ma_nw sr s n)) : ∀ d r, r + d = n → wX_newestRevision_5 post s (nI n) xds xrc xde xoc xun xfp xsc xtl xec xpb xpf xsx xsy xcx xcy dk dv sr rs rk rv ct ru pl be mx xo st cp pa pn fx fy tx ty fi cr cv (d + 1) (ma_nw sr s r) (nI r) := by
  intro d
  induction d with
  | zero =>
    intro r hr
    have e : r = n := by omega
    rw [e]
    exact pk_le n n (fun _ => hp) (fun h => absurd h (by omega))
  | succ d ih =>
    intro r hr
    have ec : (nI r).toNatClampNeg = r := pk_cl r
    have h := ih (r + 1) (by omega)
    have e : ma_nw sr s (r + 1) = if sr r = s then nI r else ma_nw sr s r := rfl
    by_cases z : sr r = s
    · rw [e, if_pos z] at h
      exact pk_le n r (fun h => absurd h (by omega)) (fun _ => ⟨pk_in r 8 (by omega), br_t (by rw [ec]; exact z) (nm_r (nI_1 r) h)⟩)
    · rw [e, if_neg z] at h
      exact pk_le n r (fun h => absurd h (by omega)) (fun _ => ⟨pk_in r 8 (by omega), br_f (by rw [ec]; exact z) (nm_r (nI_1 r) h)⟩)
theorem xp_nr {post : Int32 → Prop} {s : Int32} {n : Nat} (hn : n ≤ 8) (hp : post (ma_nw sr s n)) : wpX_newestRevision post (xds, xrc, xde, xoc, xun, xfp, xsc, xtl, xec, xpb, xpf, xsx, xsy, xcx, xcy, dk, dv, sr, rs, rk, rv, ct, ru, pl, be, mx, xo, st, cp, pa, pn, fx, fy, tx, ty, fi, cr, cv) s (nI n) := ⟨n + 1, xw_nr hn hp n 0 (by omega)⟩
theorem yw_nw {s : Int32} : ∀ n, n ≤ 8 → ∀ post : Int32 → Prop, post (ma_nw sr s n) → wY_newest_4 post s yrc ysh yle yla yde ypa yed yoc yun yfa ywh ype sr ln kd nm mt co wi cp pa pn ru pl sv be mx bx bo ex ey fx fy tx ty yo (n + 1) (nI n - 1) := by
  intro n
  induction n with
  | zero =>
    intro _ post hp
    exact br_t (by decide) hp
  | succ n ih =>
    intro hn post hp
    have ec : (nI n).toNatClampNeg = n := pk_cl n
    have e : ma_nw sr s (n + 1) = if sr n = s then nI n else ma_nw sr s n := rfl
    rw [nI_pred]
    by_cases z : sr n = s
    · rw [e, if_pos z] at hp
      exact br_f (nI_pos (by omega)) ⟨pk_in n 8 (by omega), br_t (by rw [ec]; exact z) hp⟩
    · rw [e, if_neg z] at hp
      exact br_f (nI_pos (by omega)) ⟨pk_in n 8 (by omega), br_f (by rw [ec]; exact z) (nm_r (Int32.sub_eq_add_neg _ _).symm (ih (by omega) post hp))⟩
theorem yp_nw {post : Int32 → Prop} {s : Int32} {n : Nat} (hn : n ≤ 8) (hp : post (ma_nw sr s n)) : wpY_newest post (yrc, ysh, yle, yla, yde, ypa, yed, yoc, yun, yfa, ywh, ype, sr, ln, kd, nm, mt, co, wi, cp, pa, pn, ru, pl, sv, be, mx, bx, bo, ex, ey, fx, fy, tx, ty, yo) s (nI n) := nm_e ⟨n + 1, yw_nw n hn post hp⟩
theorem i_vc_size {k : Nat} {u : SX} {v : SY} (I : i_Rel k u v) (hk : k + 3 ≤ 1536) (v1 : Int32) : wpX_size (fun r => wpY_size (fun r' => r' = r ∧ i_Rel (k + 3) u v) v v1) u v1 := by
  obtain ⟨c, d, xde, xoc, xun, xfp, xsc, xtl, xec, xpb, xpf, xsx, xsy, xcx, xcy, ysh, yle, yla, yde, ypa, yed, yoc, yfa, ype, dk, dv, sr, rs, rk, rv, ct, ru, pl, be, mx, xo, st, cp, pa, pn, fx, fy, tx, ty, fi, cr, cv, ln, kd, nm, mt, co, wi, sv, bx, bo, ex, ey, yo, rfl, rfl, hd, hs, hp⟩ := I
  have J : i_Rel (k + 3) (nI d, nI c, xde, xoc, xun, xfp, xsc, xtl, xec, xpb, xpf, xsx, xsy, xcx, xcy, dk, dv, sr, rs, rk, rv, ct, ru, pl, be, mx, xo, st, cp, pa, pn, fx, fy, tx, ty, fi, cr, cv) (nI c, ysh, yle, yla, yde, ypa, yed, yoc, xun, yfa, xfp, ype, sr, ln, kd, nm, mt, co, wi, cp, pa, pn, ru, pl, sv, be, mx, bx, bo, ex, ey, fx, fy, tx, ty, yo) := ⟨_, _, _, _, _, _, _, _, _, _, _, _, _, _, _, _, _, _, _, _, _, _, _, _, _, _, _, _, _, _, _, _, _, _, _, _, _, _, _, _, _, _, _, _, _, _, _, _, _, _, _, _, _, _, _, _, _, _, _, rfl, rfl, hd, hs, hp⟩
  have hc8 := hd.1
  rcases pk_ix v1 (n := 6) (by omega) with h1 | h1 | ⟨s, hs6, rfl⟩
  · exact br_t h1 (br_t h1 ⟨rfl, J⟩)
  · rw [Int32.le_iff_toInt_le, nI_toInt (by omega)] at h1
    have h1' : ¬ v1 < 0 := by
      rw [Int32.lt_iff_toInt_lt, mb_0t]
      omega
    have h2 : ¬ v1 < 6 := by
      rw [Int32.lt_iff_toInt_lt, show (6 : Int32).toInt = 6 from by decide]
      omega
    have h3 : ¬ v1 ≤ 5 := by
      rw [Int32.le_iff_toInt_le, show (5 : Int32).toInt = 5 from by decide]
      omega
    exact br_f h1' (br_f h2 (br_f h1' (br_f h3 ⟨rfl, J⟩)))
  · have h0 : ¬ nI s < 0 := nI_pos (by omega)
    refine br_f h0 (pk_lt s 6 (fun _ => xp_nr hc8 ?_) (fun h => absurd h (by omega)))
    rcases ma_nwb sr (nI s) c with e | ⟨r, hr, e⟩
    · rw [e]
      refine br_f (by decide) (br_f h0 (pk_le s 5 (fun _ => yp_nw hc8 ?_) (fun h => absurd h (by omega))))
      rw [e]
      exact br_f (by decide) ⟨rfl, J⟩
    · have ec : (nI r).toNatClampNeg = r := pk_cl r
      rw [e]
      refine br_t (nI_pos' (by omega)) ⟨pk_in r 8 (by omega), br_f h0 (pk_le s 5 (fun _ => yp_nw hc8 ?_) (fun h => absurd h (by omega)))⟩
      rw [e]
      refine br_t (nI_pos' (by omega)) ⟨pk_in r 9 (by omega), ?_, J⟩
      rw [ec]
      exact (hd.2.2.2.1 r (by omega)).1.symm
/-! pixel, by, count, row -/
theorem yp_th0 {post : Int32 → Prop} {p0 p1 : Int32} (h : p0 < 0 ∨ 16 ≤ p0 ∨ p1 < 0 ∨ 12 ≤ p1) (H : post 0) : wpY_there post (yrc, ysh, yle, yla, yde, ypa, yed, yoc, yun, yfa, ywh, ype, sr, ln, kd, nm, mt, co, wi, cp, pa, pn, ru, pl, sv, be, mx, bx, bo, ex, ey, fx, fy, tx, ty, yo) p0 p1 :=
  br_c (fun _ => H) (fun h1 => br_c (fun _ => H) (fun h2 => br_c (fun _ => H) (fun h3 => br_c (fun _ => H) (fun h4 => h.elim (fun z => absurd z h1) (fun h => h.elim (fun z => absurd z h2) (fun h => h.elim (fun z => absurd z h3) (fun z => absurd z h4)))))))
theorem yp_th1 {post : Int32 → Prop} {i j : Nat} (hi : i < 16) (hj : j < 12) (H : post 1) : wpY_there post (yrc, ysh, yle, yla, yde, ypa, yed, yoc, yun, yfa, ywh, ype, sr, ln, kd, nm, mt, co, wi, cp, pa, pn, ru, pl, sv, be, mx, bx, bo, ex, ey, fx, fy, tx, ty, yo) (nI i) (nI j) :=
  br_f (nI_pos (by omega)) (pk_le 16 i (fun h => absurd h (by omega)) (fun _ => br_f (nI_pos (by omega)) (pk_le 12 j (fun h => absurd h (by omega)) (fun _ => H))))
theorem ma_xij (i j : Nat) : nI j * 16 + nI i = nI (16 * j + i) := by
  rw [show nI j * 16 = nI (16 * j) from mb_ml 16 j, nI_add]
theorem ma_yij (i j : Nat) : 16 * nI j + nI i = nI (16 * j + i) := by
  rw [show 16 * nI j = nI (16 * j) from mb_mr 16 j, nI_add]
theorem yp_pixel0 {post : Int32 → Prop} {p0 p1 : Int32} (h : p0 < 0 ∨ 16 ≤ p0 ∨ p1 < 0 ∨ 12 ≤ p1) (H : post (-1)) : wpY_pixel post (yrc, ysh, yle, yla, yde, ypa, yed, yoc, yun, yfa, ywh, ype, sr, ln, kd, nm, mt, co, wi, cp, pa, pn, ru, pl, sv, be, mx, bx, bo, ex, ey, fx, fy, tx, ty, yo) p0 p1 := by
  unfold wpY_pixel
  exact yp_th0 h (br_t rfl H)
theorem yp_pixel1 {post : Int32 → Prop} {i j : Nat} (hi : i < 16) (hj : j < 12) (H : post (pa (16 * j + i))) : wpY_pixel post (yrc, ysh, yle, yla, yde, ypa, yed, yoc, yun, yfa, ywh, ype, sr, ln, kd, nm, mt, co, wi, cp, pa, pn, ru, pl, sv, be, mx, bx, bo, ex, ey, fx, fy, tx, ty, yo) (nI i) (nI j) := by
  have ey : (16 * nI j + nI i).toNatClampNeg = 16 * j + i := pk_cl (16 * j + i) (ma_yij i j)
  unfold wpY_pixel
  refine yp_th1 hi hj (br_f (by decide) ⟨pk_in (16 * j + i) 1344 (by omega) (ma_yij i j), ?_⟩)
  rw [ey]
  exact H
theorem xp_pixel0 {post : Int32 → Prop} {p0 p1 : Int32} (h : p0 < 0 ∨ 16 ≤ p0 ∨ p1 < 0 ∨ 12 ≤ p1) (H : post (-1)) : wpX_pixel post (xds, xrc, xde, xoc, xun, xfp, xsc, xtl, xec, xpb, xpf, xsx, xsy, xcx, xcy, dk, dv, sr, rs, rk, rv, ct, ru, pl, be, mx, xo, st, cp, pa, pn, fx, fy, tx, ty, fi, cr, cv) p0 p1 :=
  br_c (fun _ => H) (fun h1 => br_c (fun _ => H) (fun h2 => br_c (fun _ => H) (fun h3 => br_c (fun h4 => h.elim (fun z => absurd z h1) (fun h => h.elim (fun z => absurd z h2) (fun h => h.elim (fun z => absurd z h3) (fun z => absurd h4 (Int32.not_lt.mpr z))))) (fun _ => H))))
theorem xp_pixel1 {post : Int32 → Prop} {i j : Nat} (hi : i < 16) (hj : j < 12) (H : post (pa (16 * j + i))) : wpX_pixel post (xds, xrc, xde, xoc, xun, xfp, xsc, xtl, xec, xpb, xpf, xsx, xsy, xcx, xcy, dk, dv, sr, rs, rk, rv, ct, ru, pl, be, mx, xo, st, cp, pa, pn, fx, fy, tx, ty, fi, cr, cv) (nI i) (nI j) := by
  have ex : (nI j * 16 + nI i).toNatClampNeg = 16 * j + i := pk_cl (16 * j + i) (ma_xij i j)
  refine br_f (nI_pos (by omega)) (pk_le 16 i (fun h => absurd h (by omega)) (fun _ => br_f (nI_pos (by omega)) (pk_lt j 12 (fun _ => ⟨pk_in (16 * j + i) 1344 (by omega) (ma_xij i j), ?_⟩) (fun h => absurd h (by omega)))))
  rw [ex]
  exact H
theorem i_vc_pixel {k : Nat} {u : SX} {v : SY} (I : i_Rel k u v) (hk : k + 3 ≤ 1536) (v1 : Int32) (v2 : Int32) : wpX_pixel (fun r => wpY_pixel (fun r' => r' = r ∧ i_Rel (k + 3) u v) v v1 v2) u v1 v2 := by
  obtain ⟨c, d, xde, xoc, xun, xfp, xsc, xtl, xec, xpb, xpf, xsx, xsy, xcx, xcy, ysh, yle, yla, yde, ypa, yed, yoc, yfa, ype, dk, dv, sr, rs, rk, rv, ct, ru, pl, be, mx, xo, st, cp, pa, pn, fx, fy, tx, ty, fi, cr, cv, ln, kd, nm, mt, co, wi, sv, bx, bo, ex, ey, yo, rfl, rfl, hd, hs, hp⟩ := I
  have J : i_Rel (k + 3) (nI d, nI c, xde, xoc, xun, xfp, xsc, xtl, xec, xpb, xpf, xsx, xsy, xcx, xcy, dk, dv, sr, rs, rk, rv, ct, ru, pl, be, mx, xo, st, cp, pa, pn, fx, fy, tx, ty, fi, cr, cv) (nI c, ysh, yle, yla, yde, ypa, yed, yoc, xun, yfa, xfp, ype, sr, ln, kd, nm, mt, co, wi, cp, pa, pn, ru, pl, sv, be, mx, bx, bo, ex, ey, fx, fy, tx, ty, yo) := ⟨_, _, _, _, _, _, _, _, _, _, _, _, _, _, _, _, _, _, _, _, _, _, _, _, _, _, _, _, _, _, _, _, _, _, _, _, _, _, _, _, _, _, _, _, _, _, _, _, _, _, _, _, _, _, _, _, _, _, _, rfl, rfl, hd, hs, hp⟩
  rcases pk_ix v1 (n := 16) (by omega) with h1 | h1 | ⟨i, hi, rfl⟩
  · exact xp_pixel0 (Or.inl h1) (yp_pixel0 (Or.inl h1) ⟨rfl, J⟩)
  · exact xp_pixel0 (Or.inr (Or.inl h1)) (yp_pixel0 (Or.inr (Or.inl h1)) ⟨rfl, J⟩)
  rcases pk_ix v2 (n := 12) (by omega) with h2 | h2 | ⟨j, hj, rfl⟩
  · exact xp_pixel0 (Or.inr (Or.inr (Or.inl h2))) (yp_pixel0 (Or.inr (Or.inr (Or.inl h2))) ⟨rfl, J⟩)
  · exact xp_pixel0 (Or.inr (Or.inr (Or.inr h2))) (yp_pixel0 (Or.inr (Or.inr (Or.inr h2))) ⟨rfl, J⟩)
  · exact xp_pixel1 hi hj (yp_pixel1 hi hj ⟨rfl, J⟩)
theorem yp_by0 {post : Int32 → Prop} {p0 p1 : Int32} (h : p0 < 0 ∨ 16 ≤ p0 ∨ p1 < 0 ∨ 12 ≤ p1) (H : post (-1)) : wpY_by post (yrc, ysh, yle, yla, yde, ypa, yed, yoc, yun, yfa, ywh, ype, sr, ln, kd, nm, mt, co, wi, cp, pa, pn, ru, pl, sv, be, mx, bx, bo, ex, ey, fx, fy, tx, ty, yo) p0 p1 := by
  unfold wpY_by
  exact yp_th0 h (br_t rfl H)
theorem yp_by1 {post : Int32 → Prop} {i j : Nat} (hi : i < 16) (hj : j < 12) (H : post (pn (16 * j + i))) : wpY_by post (yrc, ysh, yle, yla, yde, ypa, yed, yoc, yun, yfa, ywh, ype, sr, ln, kd, nm, mt, co, wi, cp, pa, pn, ru, pl, sv, be, mx, bx, bo, ex, ey, fx, fy, tx, ty, yo) (nI i) (nI j) := by
  have ey : (16 * nI j + nI i).toNatClampNeg = 16 * j + i := pk_cl (16 * j + i) (ma_yij i j)
  unfold wpY_by
  refine yp_th1 hi hj (br_f (by decide) ⟨pk_in (16 * j + i) 1344 (by omega) (ma_yij i j), ?_⟩)
  rw [ey]
  exact H
theorem xp_by0 {post : Int32 → Prop} {p0 p1 : Int32} (h : p0 < 0 ∨ 16 ≤ p0 ∨ p1 < 0 ∨ 12 ≤ p1) (H : post (-1)) : wpX_by post (xds, xrc, xde, xoc, xun, xfp, xsc, xtl, xec, xpb, xpf, xsx, xsy, xcx, xcy, dk, dv, sr, rs, rk, rv, ct, ru, pl, be, mx, xo, st, cp, pa, pn, fx, fy, tx, ty, fi, cr, cv) p0 p1 :=
  br_c (fun _ => H) (fun h1 => br_c (fun _ => H) (fun h2 => br_c (fun _ => H) (fun h3 => br_c (fun h4 => h.elim (fun z => absurd z h1) (fun h => h.elim (fun z => absurd z h2) (fun h => h.elim (fun z => absurd z h3) (fun z => absurd h4 (Int32.not_lt.mpr z))))) (fun _ => H))))
theorem xp_by1 {post : Int32 → Prop} {i j : Nat} (hi : i < 16) (hj : j < 12) (H : post (pn (16 * j + i))) : wpX_by post (xds, xrc, xde, xoc, xun, xfp, xsc, xtl, xec, xpb, xpf, xsx, xsy, xcx, xcy, dk, dv, sr, rs, rk, rv, ct, ru, pl, be, mx, xo, st, cp, pa, pn, fx, fy, tx, ty, fi, cr, cv) (nI i) (nI j) := by
  have ex : (nI j * 16 + nI i).toNatClampNeg = 16 * j + i := pk_cl (16 * j + i) (ma_xij i j)
  refine br_f (nI_pos (by omega)) (pk_le 16 i (fun h => absurd h (by omega)) (fun _ => br_f (nI_pos (by omega)) (pk_lt j 12 (fun _ => ⟨pk_in (16 * j + i) 1344 (by omega) (ma_xij i j), ?_⟩) (fun h => absurd h (by omega)))))
  rw [ex]
  exact H
theorem i_vc_by {k : Nat} {u : SX} {v : SY} (I : i_Rel k u v) (hk : k + 3 ≤ 1536) (v1 : Int32) (v2 : Int32) : wpX_by (fun r => wpY_by (fun r' => r' = r ∧ i_Rel (k + 3) u v) v v1 v2) u v1 v2 := by
  obtain ⟨c, d, xde, xoc, xun, xfp, xsc, xtl, xec, xpb, xpf, xsx, xsy, xcx, xcy, ysh, yle, yla, yde, ypa, yed, yoc, yfa, ype, dk, dv, sr, rs, rk, rv, ct, ru, pl, be, mx, xo, st, cp, pa, pn, fx, fy, tx, ty, fi, cr, cv, ln, kd, nm, mt, co, wi, sv, bx, bo, ex, ey, yo, rfl, rfl, hd, hs, hp⟩ := I
  have J : i_Rel (k + 3) (nI d, nI c, xde, xoc, xun, xfp, xsc, xtl, xec, xpb, xpf, xsx, xsy, xcx, xcy, dk, dv, sr, rs, rk, rv, ct, ru, pl, be, mx, xo, st, cp, pa, pn, fx, fy, tx, ty, fi, cr, cv) (nI c, ysh, yle, yla, yde, ypa, yed, yoc, xun, yfa, xfp, ype, sr, ln, kd, nm, mt, co, wi, cp, pa, pn, ru, pl, sv, be, mx, bx, bo, ex, ey, fx, fy, tx, ty, yo) := ⟨_, _, _, _, _, _, _, _, _, _, _, _, _, _, _, _, _, _, _, _, _, _, _, _, _, _, _, _, _, _, _, _, _, _, _, _, _, _, _, _, _, _, _, _, _, _, _, _, _, _, _, _, _, _, _, _, _, _, _, rfl, rfl, hd, hs, hp⟩
  rcases pk_ix v1 (n := 16) (by omega) with h1 | h1 | ⟨i, hi, rfl⟩
  · exact xp_by0 (Or.inl h1) (yp_by0 (Or.inl h1) ⟨rfl, J⟩)
  · exact xp_by0 (Or.inr (Or.inl h1)) (yp_by0 (Or.inr (Or.inl h1)) ⟨rfl, J⟩)
  rcases pk_ix v2 (n := 12) (by omega) with h2 | h2 | ⟨j, hj, rfl⟩
  · exact xp_by0 (Or.inr (Or.inr (Or.inl h2))) (yp_by0 (Or.inr (Or.inr (Or.inl h2))) ⟨rfl, J⟩)
  · exact xp_by0 (Or.inr (Or.inr (Or.inr h2))) (yp_by0 (Or.inr (Or.inr (Or.inr h2))) ⟨rfl, J⟩)
  · exact xp_by1 hi hj (yp_by1 hi hj ⟨rfl, J⟩)
theorem xw_cn {post : Int32 → Prop} {c : Int32} (hp : post (nI (ma_cn pa c 192))) : ∀ d i, i + d = 192 → wX_count_4 post c xds xrc xde xoc xun xfp xsc xtl xec xpb xpf xsx xsy xcx xcy dk dv sr rs rk rv ct ru pl be mx xo st cp pa pn fx fy tx ty fi cr cv (d + 1) (nI (ma_cn pa c i)) (nI i) := by
  intro d
  induction d with
  | zero =>
    intro i hi
    have e : i = 192 := by omega
    rw [e]
    exact pk_le 192 192 (fun _ => hp) (fun h => absurd h (by omega))
  | succ d ih =>
    intro i hi
    have ec : (nI i).toNatClampNeg = i := pk_cl i
    have h := ih (i + 1) (by omega)
    have e : ma_cn pa c (i + 1) = ma_cn pa c i + if pa i = c then 1 else 0 := rfl
    by_cases z : pa i = c
    · rw [e, if_pos z] at h
      exact pk_le 192 i (fun h => absurd h (by omega)) (fun _ => ⟨pk_in i 1344 (by omega), br_t (by rw [ec]; exact z) (nm_r (nI_1 _) (nm_r (nI_1 i) h))⟩)
    · rw [e, if_neg z] at h
      exact pk_le 192 i (fun h => absurd h (by omega)) (fun _ => ⟨pk_in i 1344 (by omega), br_f (by rw [ec]; exact z) (nm_r (nI_1 i) h)⟩)
theorem xw_ro {post : Int32 → Prop} {j : Nat} (hj : j < 12) (hp : post (ma_ro pa (16 * j) 16)) : ∀ d i, i + d = 16 → wX_row_16 post (nI j) xds xrc xde xoc xun xfp xsc xtl xec xpb xpf xsx xsy xcx xcy dk dv sr rs rk rv ct ru pl be mx xo st cp pa pn fx fy tx ty fi cr cv (d + 1) (ma_ro pa (16 * j) i) (nI i) := by
  intro d
  induction d with
  | zero =>
    intro i hi
    have e : i = 16 := by omega
    rw [e]
    exact pk_le 16 16 (fun _ => hp) (fun h => absurd h (by omega))
  | succ d ih =>
    intro i hi
    have ec := pk_cl (16 * j + i) (ma_xij i j)
    have h := ih (i + 1) (by omega)
    have e : ma_ro pa (16 * j) (i + 1) = if pa (16 * j + i) = 0 then ma_ro pa (16 * j) i else ma_ro pa (16 * j) i ||| ((1 : Int32) <<< (nI i &&& 31)) := rfl
    by_cases z : pa (16 * j + i) = 0
    · rw [e, if_pos z] at h
      exact pk_le 16 i (fun h => absurd h (by omega)) (fun _ => ⟨pk_in (16 * j + i) 1344 (by omega) (ma_xij i j), br_t (by rw [ec]; exact z) (nm_r (nI_1 i) h)⟩)
    · rw [e, if_neg z] at h
      exact pk_le 16 i (fun h => absurd h (by omega)) (fun _ => ⟨pk_in (16 * j + i) 1344 (by omega) (ma_xij i j), br_f (by rw [ec]; exact z) (nm_e (nm_r (nI_1 i) h))⟩)
theorem yw_cn {post : Int32 → Prop} {c : Int32} (hp : post (nI (ma_cn pa c 192))) : ∀ d i, i + d = 192 → wY_count_4 post c yrc ysh yle yla yde ypa yed yoc yun yfa ywh ype sr ln kd nm mt co wi cp pa pn ru pl sv be mx bx bo ex ey fx fy tx ty yo (d + 1) (nI (ma_cn pa c i)) (nI i) := by
  intro d
  induction d with
  | zero =>
    intro i hi
    have e : i = 192 := by omega
    rw [e]
    exact pk_le 192 192 (fun _ => hp) (fun h => absurd h (by omega))
  | succ d ih =>
    intro i hi
    have ec : (nI i).toNatClampNeg = i := pk_cl i
    have h := ih (i + 1) (by omega)
    have e : ma_cn pa c (i + 1) = ma_cn pa c i + if pa i = c then 1 else 0 := rfl
    by_cases z : pa i = c
    · rw [e, if_pos z] at h
      exact pk_le 192 i (fun h => absurd h (by omega)) (fun _ => ⟨pk_in i 1344 (by omega), br_t (by rw [ec]; exact z) (nm_r (nI_1 _) (nm_r (nI_1 i) h))⟩)
    · rw [e, if_neg z] at h
      exact pk_le 192 i (fun h => absurd h (by omega)) (fun _ => ⟨pk_in i 1344 (by omega), br_f (by rw [ec]; exact z) (nm_r (nI_1 i) h)⟩)
theorem yw_ro {post : Int32 → Prop} {j : Nat} (hj : j < 12) (hp : post (ma_ro pa (16 * j) 16)) : ∀ d i, i + d = 16 → wY_row_16 post (nI j) yrc ysh yle yla yde ypa yed yoc yun yfa ywh ype sr ln kd nm mt co wi cp pa pn ru pl sv be mx bx bo ex ey fx fy tx ty yo (d + 1) (ma_ro pa (16 * j) i) (nI i) := by
  intro d
  induction d with
  | zero =>
    intro i hi
    have e : i = 16 := by omega
    rw [e]
    exact pk_le 16 16 (fun _ => hp) (fun h => absurd h (by omega))
  | succ d ih =>
    intro i hi
    have ec := pk_cl (16 * j + i) (ma_yij i j)
    have h := ih (i + 1) (by omega)
    have e : ma_ro pa (16 * j) (i + 1) = if pa (16 * j + i) = 0 then ma_ro pa (16 * j) i else ma_ro pa (16 * j) i ||| ((1 : Int32) <<< (nI i &&& 31)) := rfl
    by_cases z : pa (16 * j + i) = 0
    · rw [e, if_pos z] at h
      exact pk_le 16 i (fun h => absurd h (by omega)) (fun _ => ⟨pk_in (16 * j + i) 1344 (by omega) (ma_yij i j), br_t (by rw [ec]; exact z) (nm_r (nI_1 i) h)⟩)
    · rw [e, if_neg z] at h
      exact pk_le 16 i (fun h => absurd h (by omega)) (fun _ => ⟨pk_in (16 * j + i) 1344 (by omega) (ma_yij i j), br_f (by rw [ec]; exact z) (nm_e (nm_r (nI_1 i) h))⟩)
theorem i_vc_count {k : Nat} {u : SX} {v : SY} (I : i_Rel k u v) (hk : k + 3 ≤ 1536) (v1 : Int32) : wpX_count (fun r => wpY_count (fun r' => r' = r ∧ i_Rel (k + 3) u v) v v1) u v1 := by
  obtain ⟨c, d, xde, xoc, xun, xfp, xsc, xtl, xec, xpb, xpf, xsx, xsy, xcx, xcy, ysh, yle, yla, yde, ypa, yed, yoc, yfa, ype, dk, dv, sr, rs, rk, rv, ct, ru, pl, be, mx, xo, st, cp, pa, pn, fx, fy, tx, ty, fi, cr, cv, ln, kd, nm, mt, co, wi, sv, bx, bo, ex, ey, yo, rfl, rfl, hd, hs, hp⟩ := I
  exact ⟨193, xw_cn ⟨193, yw_cn ⟨rfl, ⟨_, _, _, _, _, _, _, _, _, _, _, _, _, _, _, _, _, _, _, _, _, _, _, _, _, _, _, _, _, _, _, _, _, _, _, _, _, _, _, _, _, _, _, _, _, _, _, _, _, _, _, _, _, _, _, _, _, _, _, rfl, rfl, hd, hs, hp⟩⟩ 192 0 rfl⟩ 192 0 rfl⟩
theorem i_vc_row {k : Nat} {u : SX} {v : SY} (I : i_Rel k u v) (hk : k + 3 ≤ 1536) (v1 : Int32) : wpX_row (fun r => wpY_row (fun r' => r' = r ∧ i_Rel (k + 3) u v) v v1) u v1 := by
  obtain ⟨c, d, xde, xoc, xun, xfp, xsc, xtl, xec, xpb, xpf, xsx, xsy, xcx, xcy, ysh, yle, yla, yde, ypa, yed, yoc, yfa, ype, dk, dv, sr, rs, rk, rv, ct, ru, pl, be, mx, xo, st, cp, pa, pn, fx, fy, tx, ty, fi, cr, cv, ln, kd, nm, mt, co, wi, sv, bx, bo, ex, ey, yo, rfl, rfl, hd, hs, hp⟩ := I
  have J : i_Rel (k + 3) (nI d, nI c, xde, xoc, xun, xfp, xsc, xtl, xec, xpb, xpf, xsx, xsy, xcx, xcy, dk, dv, sr, rs, rk, rv, ct, ru, pl, be, mx, xo, st, cp, pa, pn, fx, fy, tx, ty, fi, cr, cv) (nI c, ysh, yle, yla, yde, ypa, yed, yoc, xun, yfa, xfp, ype, sr, ln, kd, nm, mt, co, wi, cp, pa, pn, ru, pl, sv, be, mx, bx, bo, ex, ey, fx, fy, tx, ty, yo) := ⟨_, _, _, _, _, _, _, _, _, _, _, _, _, _, _, _, _, _, _, _, _, _, _, _, _, _, _, _, _, _, _, _, _, _, _, _, _, _, _, _, _, _, _, _, _, _, _, _, _, _, _, _, _, _, _, _, _, _, _, rfl, rfl, hd, hs, hp⟩
  rcases pk_ix v1 (n := 12) (by omega) with h1 | h1 | ⟨j, hj, rfl⟩
  · exact br_t h1 (br_t h1 ⟨rfl, J⟩)
  · rw [Int32.le_iff_toInt_le, nI_toInt (by omega)] at h1
    have h1' : ¬ v1 < 0 := by
      rw [Int32.lt_iff_toInt_lt, mb_0t]
      omega
    have h2 : ¬ v1 < 12 := by
      rw [Int32.lt_iff_toInt_lt, show (12 : Int32).toInt = 12 from by decide]
      omega
    have h3 : ¬ v1 ≤ 11 := by
      rw [Int32.le_iff_toInt_le, show (11 : Int32).toInt = 11 from by decide]
      omega
    exact br_f h1' (br_f h2 (br_f h1' (br_f h3 ⟨rfl, J⟩)))
  · have h0 : ¬ nI j < 0 := nI_pos (by omega)
    exact br_f h0 (pk_lt j 12 (fun _ => ⟨17, xw_ro hj (br_f h0 (pk_le j 11 (fun _ => ⟨17, yw_ro hj ⟨rfl, J⟩ 16 0 rfl⟩) (fun h => absurd h (by omega)))) 16 0 rfl⟩) (fun h => absurd h (by omega)))
end
section
variable {xds xrc xde xoc xun xfp xsc xtl xec xpb xpf xsx xsy xcx xcy yrc ysh yle yla yde ypa yed yoc yun yfa ywh ype : Int32} {dk dv sr rs rk rv ct ru pl be mx xo st cp pa pn fx fy tx ty fi cr cv ln kd nm mt co wi sv bx bo ex ey yo : Nat → Int32}
theorem br3_t {a b c A B : Prop} (ha : ¬ a) (hb : ¬ b) (hc : ¬ c) (h : B) : (a → A) ∧ (¬ a → (b → A) ∧ (¬ b → (c → A) ∧ (¬ c → B))) := br_f ha (br_f hb (br_f hc h))
theorem br3_f {a b c A B : Prop} (h : a ∨ b ∨ c) (H : A) : (a → A) ∧ (¬ a → (b → A) ∧ (¬ b → (c → A) ∧ (¬ c → B))) :=
  br_c (fun _ => H) (fun ha => br_c (fun _ => H) (fun hb => br_c (fun _ => H) (fun hc => h.elim (fun z => absurd z ha) (fun h => h.elim (fun z => absurd z hb) (fun z => absurd z hc)))))
theorem ma_or3 {a b c : Prop} (h : ¬ (a ∧ b ∧ c)) : ¬ a ∨ ¬ b ∨ ¬ c := by
  by_cases ha : a
  · by_cases hb : b
    · exact Or.inr (Or.inr (fun hc => h ⟨ha, hb, hc⟩))
    · exact Or.inr (Or.inl hb)
  · exact Or.inl ha
theorem ma_nlt {x y : Int32} (h : ¬ x < y) : y ≤ x := Int32.not_lt.mp h
theorem ma_lt {x y : Int32} (h : x < y) : ¬ y ≤ x := Int32.not_le.mpr h
theorem ma_or3' {a b c d e f : Int32} (h : ¬ (a < b ∧ c < d ∧ e < f)) : b ≤ a ∨ d ≤ c ∨ f ≤ e := (ma_or3 h).elim (fun z => Or.inl (ma_nlt z)) (fun h => h.elim (fun z => Or.inr (Or.inl (ma_nlt z))) (fun z => Or.inr (Or.inr (ma_nlt z))))
/-! the crossings of one edge -/
def rr_gc (cr : Nat → Int32) (x1 y1 x2 y2 : Int32) (t : Nat) : Int32 := cr t + Int32.ofInt (ma_cp x1 y1 x2 y2 t)
theorem ma_o1 : Int32.ofInt 1 = 1 := by decide
theorem ma_o0 : Int32.ofInt 0 = 0 := by decide
theorem ma_om : Int32.ofInt (-1) = -1 := by decide
theorem xw_ac {post : SX → Prop} {x1 y1 x2 y2 : Int32} (h1 : ma_bd 4000 x1) (h2 : ma_bd 4000 y1) (h3 : ma_bd 4000 x2) (h4 : ma_bd 4000 y2) (hp : post (xds, xrc, xde, xoc, xun, xfp, xsc, xtl, xec, xpb, xpf, xsx, xsy, xcx, xcy, dk, dv, sr, rs, rk, rv, ct, ru, pl, be, mx, xo, st, cp, pa, pn, fx, fy, tx, ty, fi, ma_w cr (rr_gc cr x1 y1 x2 y2) 0 192, cv)) :
    ∀ d i, i + d = 192 → wX_addCrossings_3 post x1 y1 x2 y2 xds xrc xde xoc xun xfp xsc xtl xec xpb xpf xsx xsy xcx xcy (d + 1) (nI i) dk dv sr rs rk rv ct ru pl be mx xo st cp pa pn fx fy tx ty fi (ma_w cr (rr_gc cr x1 y1 x2 y2) 0 i) cv := by
  intro d
  induction d with
  | zero =>
    intro i hi
    have e : i = 192 := by omega
    rw [e]
    exact pk_le 192 192 (fun _ => hp) (fun h => absurd h (by omega))
  | succ d ih =>
    intro i hi
    have h := ih (i + 1) (by omega)
    have hin : vp_in (nI i) 192 := pk_in i 192 (by omega)
    have ec : (nI i).toNatClampNeg = i := pk_cl i
    have er : ma_w cr (rr_gc cr x1 y1 x2 y2) 0 i i = cr i := ma_wr (by omega)
    refine pk_le 192 i (fun h => absurd h (by omega)) (fun _ => ⟨by decide, nm_r (ma_xpx (by omega)) ⟨by decide, nm_r (ma_xpy (by omega)) (nm_e ?_)⟩⟩)
    rcases ma_xcase h1 h2 h3 h4 (show i < 192 by omega) _ rfl with ⟨⟨a, b, c⟩, n, e⟩ | ⟨n, ⟨a, b, c⟩, e⟩ | ⟨n, n', e⟩
    · exact br3_t (ma_lt a) (ma_lt b) (ma_lt c) ⟨hin, hin, nm_r (by rw [ec, er, show cr i + 1 = rr_gc cr x1 y1 x2 y2 i by unfold rr_gc; rw [e, ma_o1]]; exact ma_ws0 cr _ i) (br3_f (ma_or3' n) (nm_r (nI_1 i) h))⟩
    · refine br3_f (ma_or3' n) (br3_t (ma_lt a) (ma_lt b) (ma_lt c) ⟨hin, hin, nm_r ?_ (nm_r (nI_1 i) h)⟩)
      rw [ec, er, show cr i - 1 = rr_gc cr x1 y1 x2 y2 i by unfold rr_gc; rw [e, ma_om, Int32.sub_eq_add_neg]]
      exact ma_ws0 cr _ i
    · have ek : ma_w cr (rr_gc cr x1 y1 x2 y2) 0 i = ma_w cr (rr_gc cr x1 y1 x2 y2) 0 (i + 1) := ma_wk (by rw [Nat.zero_add]; unfold rr_gc; rw [e, ma_o0, Int32.add_zero])
      rw [← ek] at h
      exact br3_f (ma_or3' n) (br3_f (ma_or3' n') (nm_r (nI_1 i) h))
theorem xp_ac {post : SX → Prop} {x1 y1 x2 y2 : Int32} (h1 : ma_bd 4000 x1) (h2 : ma_bd 4000 y1) (h3 : ma_bd 4000 x2) (h4 : ma_bd 4000 y2) (hp : post (xds, xrc, xde, xoc, xun, xfp, xsc, xtl, xec, xpb, xpf, xsx, xsy, xcx, xcy, dk, dv, sr, rs, rk, rv, ct, ru, pl, be, mx, xo, st, cp, pa, pn, fx, fy, tx, ty, fi, ma_w cr (rr_gc cr x1 y1 x2 y2) 0 192, cv)) : wpX_addCrossings post (xds, xrc, xde, xoc, xun, xfp, xsc, xtl, xec, xpb, xpf, xsx, xsy, xcx, xcy, dk, dv, sr, rs, rk, rv, ct, ru, pl, be, mx, xo, st, cp, pa, pn, fx, fy, tx, ty, fi, cr, cv) x1 y1 x2 y2 := by
  have h := xw_ac h1 h2 h3 h4 hp 192 0 rfl
  rw [ma_w0] at h
  exact ⟨193, h⟩
theorem ma_ww {f g : Nat → Int32} {x1 y1 x2 y2 : Int32} : ma_w (ma_w f g 0 192) (rr_gc (ma_w f g 0 192) x1 y1 x2 y2) 0 192 = ma_w f (fun t => g t + Int32.ofInt (ma_cp x1 y1 x2 y2 t)) 0 192 := by
  funext j
  by_cases h : j < 192
  · rw [ma_wg0 h, ma_wg0 h]
    unfold rr_gc
    rw [ma_wg0 h]
  · rw [ma_wr (by omega), ma_wr (by omega), ma_wr (by omega)]
/-- what the component has counted after k edges -/
def rr_ck (E : Nat) (fx fy tx ty fi : Nat → Int32) (k t : Nat) : Int32 := Int32.ofInt (ma_sum (ma_T E fx fy tx ty fi t) k)
theorem rr_cks (E : Nat) (fx fy tx ty fi : Nat → Int32) (k t : Nat) : rr_ck E fx fy tx ty fi (k + 1) t = rr_ck E fx fy tx ty fi k t + Int32.ofInt (ma_cp (fx k) (fy k) (tx k) (ty k) t) + Int32.ofInt (ma_cl (fun a b c d => ma_cp a b c d t) fx fy tx ty fi E k) := by
  unfold rr_ck
  show Int32.ofInt (ma_sum (ma_T E fx fy tx ty fi t) k + (ma_cp (fx k) (fy k) (tx k) (ty k) t + ma_cl (fun a b c d => ma_cp a b c d t) fx fy tx ty fi E k)) = _
  rw [Int32.ofInt_add, Int32.ofInt_add, Int32.add_assoc]
theorem xw_ci3 {post : SX → Prop} {o : Int32} {E : Nat} (hS : ∀ t, t < 192 → -100 ≤ ma_sum (ma_T E fx fy tx ty fi t) E ∧ ma_sum (ma_T E fx fy tx ty fi t) E ≤ 100) (hc : ∀ t, t < 192 → cr t = rr_ck E fx fy tx ty fi E t) (hp : post (xds, xrc, xde, xoc, xun, xfp, xsc, xtl, xec, xpb, xpf, xsx, xsy, xcx, xcy, dk, dv, sr, rs, rk, rv, ct, ru, pl, be, mx, xo, st, cp, pa, pn, fx, fy, tx, ty, fi, cr, ma_w cv (fun t => ma_ins o (ma_sum (ma_T E fx fy tx ty fi t) E)) 0 192)) :
    ∀ d i, i + d = 192 → wX_coverInside_125 post o xds xrc xde xoc xun xfp xsc xtl xec xpb xpf xsx xsy xcx xcy (d + 1) (nI i) dk dv sr rs rk rv ct ru pl be mx xo st cp pa pn fx fy tx ty fi cr (ma_w cv (fun t => ma_ins o (ma_sum (ma_T E fx fy tx ty fi t) E)) 0 i) := by
  intro d
  induction d with
  | zero =>
    intro i hi
    have e : i = 192 := by omega
    rw [e]
    exact pk_le 192 192 (fun _ => hp) (fun h => absurd h (by omega))
  | succ d ih =>
    intro i hi
    have h := ih (i + 1) (by omega)
    have hin : vp_in (nI i) 192 := pk_in i 192 (by omega)
    have ec : (nI i).toNatClampNeg = i := pk_cl i
    have hb := hS i (by omega)
    have hci : cr (nI i).toNatClampNeg = Int32.ofInt (ma_sum (ma_T E fx fy tx ty fi i) E) := by
      rw [ec]
      exact hc i (by omega)
    have hw := ma_ws0 cv (fun t => ma_ins o (ma_sum (ma_T E fx fy tx ty fi t) E)) i
    refine pk_le 192 i (fun h => absurd h (by omega)) (fun _ => ?_)
    by_cases ho : o = 0
    · by_cases hz : ma_sum (ma_T E fx fy tx ty fi i) E = 0
      · exact br_t ho ⟨hin, br_t (by rw [hci]; exact (ma_of0 hb.1 hb.2).mpr hz) ⟨hin, nm_r (by rw [ec, ← hw, mb_vb0]; unfold ma_ins; rw [if_pos ho, if_pos hz]) (nm_r (nI_1 i) h)⟩⟩
      · exact br_t ho ⟨hin, br_f (by rw [hci]; exact fun z => hz ((ma_of0 hb.1 hb.2).mp z)) ⟨hin, nm_r (by rw [ec, ← hw, mb_vb1]; unfold ma_ins; rw [if_pos ho, if_neg hz]) (nm_r (nI_1 i) h)⟩⟩
    · by_cases hz : ma_sum (ma_T E fx fy tx ty fi i) E % 2 = 0
      · exact br_f ho ⟨hin, br_t (by rw [hci]; exact (ma_of1 _).mpr hz) ⟨hin, nm_r (by rw [ec, ← hw, mb_vb0]; unfold ma_ins; rw [if_neg ho, if_pos hz]) (nm_r (nI_1 i) h)⟩⟩
      · exact br_f ho ⟨hin, br_f (by rw [hci]; exact fun z => hz ((ma_of1 _).mp z)) ⟨hin, nm_r (by rw [ec, ← hw, mb_vb1]; unfold ma_ins; rw [if_neg ho, if_neg hz]) (nm_r (nI_1 i) h)⟩⟩
theorem xw_ci2 {post : SX → Prop} {o : Int32} {E : Nat} (hE : E ≤ 24) (hq : ma_q4 E fx fy tx ty) (hf : ma_fb E fi) (hS : ∀ t, t < 192 → -100 ≤ ma_sum (ma_T E fx fy tx ty fi t) E ∧ ma_sum (ma_T E fx fy tx ty fi t) E ≤ 100) (hp : post (xds, xrc, xde, xoc, xun, xfp, xsc, xtl, nI E, xpb, xpf, xsx, xsy, xcx, xcy, dk, dv, sr, rs, rk, rv, ct, ru, pl, be, mx, xo, st, cp, pa, pn, fx, fy, tx, ty, fi, ma_w cr (rr_ck E fx fy tx ty fi E) 0 192, ma_w cv (fun t => ma_ins o (ma_sum (ma_T E fx fy tx ty fi t) E)) 0 192)) :
    ∀ d k, k + d = E → wX_coverInside_24 post o (d + 1) (nI k) xds xrc xde xoc xun xfp xsc xtl (nI E) xpb xpf xsx xsy xcx xcy dk dv sr rs rk rv ct ru pl be mx xo st cp pa pn fx fy tx ty fi (ma_w cr (rr_ck E fx fy tx ty fi k) 0 192) cv := by
  intro d
  induction d with
  | zero =>
    intro k hk
    have e : k = E := by omega
    rw [e]
    have h := xw_ci3 (cr := ma_w cr (rr_ck E fx fy tx ty fi E) 0 192) (cv := cv) hS (fun t ht => ma_wg0 ht) hp 192 0 rfl
    rw [ma_w0] at h
    exact pk_le E E (fun _ => ⟨193, h⟩) (fun h => absurd h (by omega))
  | succ d ih =>
    intro k hk
    have h := ih (k + 1) (by omega)
    have hin : vp_in (nI k) 24 := pk_in k 24 (by omega)
    have ec : (nI k).toNatClampNeg = k := pk_cl k
    have ec1 : (nI k + 1).toNatClampNeg = k + 1 := pk_cl (k + 1) (nI_1 k)
    obtain ⟨q1, q2, q3, q4⟩ := hq k (by omega)
    obtain ⟨m, hm, em⟩ := hf k (by omega)
    obtain ⟨p1, p2, p3, p4⟩ := hq m (by omega)
    have ecm : (fi k).toNatClampNeg = m := pk_cl m em
    have him : vp_in (fi k) 24 := pk_in m 24 (by omega) em
    have hclose : (k + 1 = E ∨ fi (k + 1) ≠ fi k) → wX_coverInside_89 post (wX_coverInside_24 post o (d + 1)) o (nI k) (fi k) xds xrc xde xoc xun xfp xsc xtl (nI E) xpb xpf xsx xsy xcx xcy dk dv sr rs rk rv ct ru pl be mx xo st cp pa pn fx fy tx ty fi (ma_w cr (fun t => rr_ck E fx fy tx ty fi k t + Int32.ofInt (ma_cp (fx k) (fy k) (tx k) (ty k) t)) 0 192) cv := by
      intro hl
      refine ⟨hin, hin, him, him, ?_⟩
      rw [ec, ecm]
      refine xp_ac q3 q4 p1 p2 ?_
      rw [ma_ww]
      refine nm_r (nI_1 k) ?_
      have e : ma_w cr (rr_ck E fx fy tx ty fi (k + 1)) 0 192 = ma_w cr (fun t => rr_ck E fx fy tx ty fi k t + Int32.ofInt (ma_cp (fx k) (fy k) (tx k) (ty k) t) + Int32.ofInt (ma_cp (tx k) (ty k) (fx m) (fy m) t)) 0 192 := ma_wc (fun t _ => by
        rw [rr_cks]
        unfold ma_cl
        rw [if_pos hl, ecm])
      rw [e] at h
      exact h
    refine pk_le E k (fun h => absurd h (by omega)) (fun _ => ⟨hin, hin, hin, hin, ?_⟩)
    rw [ec]
    refine xp_ac q1 q2 q3 q4 ?_
    rw [ma_ww]
    refine ⟨hin, nm_e ?_⟩
    refine pk_eq (k + 1) E (fun z => hclose (Or.inl z)) (fun z => ⟨pk_in (k + 1) 24 (by omega) (nI_1 k), ?_⟩) (nI_1 k)
    rw [ec1]
    by_cases hl : fi (k + 1) = fi k
    · refine br_t hl (nm_r (nI_1 k) ?_)
      have e : ma_w cr (rr_ck E fx fy tx ty fi (k + 1)) 0 192 = ma_w cr (fun t => rr_ck E fx fy tx ty fi k t + Int32.ofInt (ma_cp (fx k) (fy k) (tx k) (ty k) t)) 0 192 := ma_wc (fun t _ => by
        rw [rr_cks]
        unfold ma_cl
        rw [if_neg (fun y => y.elim z (fun y => y hl)), ma_o0, Int32.add_zero])
      rw [e] at h
      exact h
    · exact br_f hl (hclose (Or.inr hl))
theorem xw_ci1 {post : SX → Prop} {o : Int32} (hp : ∃ n, wX_coverInside_24 post o n 0 xds xrc xde xoc xun xfp xsc xtl xec xpb xpf xsx xsy xcx xcy dk dv sr rs rk rv ct ru pl be mx xo st cp pa pn fx fy tx ty fi (ma_w cr (fun _ => 0) 0 192) cv) :
    ∀ d i, i + d = 192 → wX_coverInside_2 post o xds xrc xde xoc xun xfp xsc xtl xec xpb xpf xsx xsy xcx xcy (d + 1) (nI i) dk dv sr rs rk rv ct ru pl be mx xo st cp pa pn fx fy tx ty fi (ma_w cr (fun _ => 0) 0 i) cv := by
  intro d
  induction d with
  | zero =>
    intro i hi
    have e : i = 192 := by omega
    rw [e]
    exact pk_le 192 192 (fun _ => hp) (fun h => absurd h (by omega))
  | succ d ih =>
    intro i hi
    have hin : vp_in (nI i) 192 := pk_in i 192 (by omega)
    have ec : (nI i).toNatClampNeg = i := pk_cl i
    exact pk_le 192 i (fun h => absurd h (by omega)) (fun _ => ⟨hin, nm_r (by rw [ec]; exact ma_ws0 cr (fun _ => 0) i) (nm_r (nI_1 i) (ih (i + 1) (by omega)))⟩)
theorem xp_ci {post : SX → Prop} {o : Int32} {E : Nat} (hE : E ≤ 24) (hq : ma_q4 E fx fy tx ty) (hf : ma_fb E fi) (hS : ∀ t, t < 192 → -100 ≤ ma_sum (ma_T E fx fy tx ty fi t) E ∧ ma_sum (ma_T E fx fy tx ty fi t) E ≤ 100) (hp : post (xds, xrc, xde, xoc, xun, xfp, xsc, xtl, nI E, xpb, xpf, xsx, xsy, xcx, xcy, dk, dv, sr, rs, rk, rv, ct, ru, pl, be, mx, xo, st, cp, pa, pn, fx, fy, tx, ty, fi, ma_w cr (rr_ck E fx fy tx ty fi E) 0 192, ma_w cv (fun t => ma_ins o (ma_sum (ma_T E fx fy tx ty fi t) E)) 0 192)) :
    wpX_coverInside post (xds, xrc, xde, xoc, xun, xfp, xsc, xtl, nI E, xpb, xpf, xsx, xsy, xcx, xcy, dk, dv, sr, rs, rk, rv, ct, ru, pl, be, mx, xo, st, cp, pa, pn, fx, fy, tx, ty, fi, cr, cv) o := by
  have h := xw_ci2 (cr := cr) (cv := cv) hE hq hf hS hp E 0 (by omega)
  have e : ma_w cr (rr_ck E fx fy tx ty fi 0) 0 192 = ma_w cr (fun _ => 0) 0 192 := ma_wc (fun t _ => ma_o0)
  rw [e] at h
  have h' := xw_ci1 ⟨_, h⟩ 192 0 rfl
  rw [ma_w0] at h'
  exact ⟨193, h'⟩
end
section
variable {xds xrc xde xoc xun xfp xsc xtl xec xpb xpf xsx xsy xcx xcy yrc ysh yle yla yde ypa yed yoc yun yfa ywh ype : Int32} {dk dv sr rs rk rv ct ru pl be mx xo st cp pa pn fx fy tx ty fi cr cv ln kd nm mt co wi sv bx bo ex ey yo : Nat → Int32}
/-! the lines -/
def rr_gn (cv : Nat → Int32) (x1 y1 x2 y2 w : Int32) (t : Nat) : Int32 := if ma_np x1 y1 x2 y2 w t = 0 then cv t else 1
theorem xw_ne {post : SX → Prop} {k : Nat} {w : Int32} (hk : k < 24) (h1 : ma_bd 4000 (fx k)) (h2 : ma_bd 4000 (fy k)) (hp : post (xds, xrc, xde, xoc, xun, xfp, xsc, xtl, xec, xpb, xpf, xsx, xsy, xcx, xcy, dk, dv, sr, rs, rk, rv, ct, ru, pl, be, mx, xo, st, cp, pa, pn, fx, fy, tx, ty, fi, cr, ma_w cv (rr_gn cv (fx k) (fy k) (tx k) (ty k) w) 0 192)) (dx dy : Int64) (hdx : dx = (2 * tx k).toInt64 - (2 * fx k).toInt64) (hdy : dy = (2 * ty k).toInt64 - (2 * fy k).toInt64) :
    ∀ d i, i + d = 192 → wX_coverNearEdge_78 post (nI k) (w.toInt64 * w.toInt64) dx dy (dx * dx + dy * dy) xds xrc xde xoc xun xfp xsc xtl xec xpb xpf xsx xsy xcx xcy (d + 1) (nI i) dk dv sr rs rk rv ct ru pl be mx xo st cp pa pn fx fy tx ty fi cr (ma_w cv (rr_gn cv (fx k) (fy k) (tx k) (ty k) w) 0 i) := by
  intro d
  induction d with
  | zero =>
    intro i hi
    have e : i = 192 := by omega
    rw [e]
    exact pk_le 192 192 (fun _ => hp) (fun h => absurd h (by omega))
  | succ d ih =>
    intro i hi
    have h := ih (i + 1) (by omega)
    have hin : vp_in (nI i) 192 := pk_in i 192 (by omega)
    have hink : vp_in (nI k) 24 := pk_in k 24 hk
    have ec : (nI i).toNatClampNeg = i := pk_cl i
    have eck : (nI k).toNatClampNeg = k := pk_cl k
    have ex : ((8 : Int32) * (nI i - nI i / 16 * 16) + 5 - 2 * fx (nI k).toNatClampNeg).toInt64 = (nI (ma_px i)).toInt64 - (2 * fx k).toInt64 := by
      rw [ma_xpx (by omega), eck]
      exact ma_xr (ma_pxb i) h1
    have ey : ((8 : Int32) * (nI i / 16) + 5 - 2 * fy (nI k).toNatClampNeg).toInt64 = (nI (ma_py i)).toInt64 - (2 * fy k).toInt64 := by
      rw [ma_xpy (by omega), eck]
      exact ma_xr (by have := ma_pyb (p := i) (by omega); omega) h2
    have e : ma_nr ((nI (ma_px i)).toInt64 - (2 * fx k).toInt64) ((nI (ma_py i)).toInt64 - (2 * fy k).toInt64) dx dy w.toInt64 = ma_np (fx k) (fy k) (tx k) (ty k) w i := by
      rw [hdx, hdy]
      rfl
    refine pk_le 192 i (fun h => absurd h (by omega)) (fun _ => ⟨by decide, hink, nm_r ex ⟨by decide, hink, nm_r ey (nm_e (ma_nrz (fun z => wX_coverNearEdge_258 post (wX_coverNearEdge_78 post (nI k) (w.toInt64 * w.toInt64) dx dy (dx * dx + dy * dy) xds xrc xde xoc xun xfp xsc xtl xec xpb xpf xsx xsy xcx xcy (d + 1)) (nI k) (w.toInt64 * w.toInt64) dx dy (dx * dx + dy * dy) (nI i) z xds xrc xde xoc xun xfp xsc xtl xec xpb xpf xsx xsy xcx xcy dk dv sr rs rk rv ct ru pl be mx xo st cp pa pn fx fy tx ty fi cr (ma_w cv (rr_gn cv (fx k) (fy k) (tx k) (ty k) w) 0 i)) (ma_acr _ _ _ _) ?_))⟩⟩)
    rw [e]
    by_cases hz : ma_np (fx k) (fy k) (tx k) (ty k) w i = 0
    · have ek : ma_w cv (rr_gn cv (fx k) (fy k) (tx k) (ty k) w) 0 i = ma_w cv (rr_gn cv (fx k) (fy k) (tx k) (ty k) w) 0 (i + 1) := ma_wk (by rw [Nat.zero_add]; unfold rr_gn; rw [if_pos hz])
      rw [← ek] at h
      exact br_t hz (nm_r (nI_1 i) h)
    · exact br_f hz ⟨hin, nm_r (by rw [ec, ← ma_ws0 cv (rr_gn cv (fx k) (fy k) (tx k) (ty k) w) i, mb_vb1]; unfold rr_gn; rw [if_neg hz]) (nm_r (nI_1 i) h)⟩
theorem xp_ne {post : SX → Prop} {k V : Nat} (hk : k < 24) (hV : V ≤ 6) (h1 : ma_bd 4000 (fx k)) (h2 : ma_bd 4000 (fy k)) (h3 : ma_bd 4000 (tx k)) (h4 : ma_bd 4000 (ty k)) (hp : post (xds, xrc, xde, xoc, xun, xfp, nI V, xtl, xec, xpb, xpf, xsx, xsy, xcx, xcy, dk, dv, sr, rs, rk, rv, ct, ru, pl, be, mx, xo, st, cp, pa, pn, fx, fy, tx, ty, fi, cr, ma_w cv (rr_gn cv (fx k) (fy k) (tx k) (ty k) (st (8 * V + 7))) 0 192)) : wpX_coverNearEdge post (xds, xrc, xde, xoc, xun, xfp, nI V, xtl, xec, xpb, xpf, xsx, xsy, xcx, xcy, dk, dv, sr, rs, rk, rv, ct, ru, pl, be, mx, xo, st, cp, pa, pn, fx, fy, tx, ty, fi, cr, cv) (nI k) := by
  have ein : nI V * 8 + 7 = nI (8 * V + 7) := by
    rw [show nI V * 8 = nI (8 * V) from mb_ml 8 V]
    exact nI_add (8 * V) 7
  have ec : (nI V * 8 + 7).toNatClampNeg = 8 * V + 7 := pk_cl (8 * V + 7) ein
  have hink : vp_in (nI k) 24 := pk_in k 24 hk
  have eck : (nI k).toNatClampNeg = k := pk_cl k
  have h := xw_ne hk h1 h2 hp _ _ rfl rfl 192 0 rfl
  rw [ma_w0] at h
  exact ⟨pk_in (8 * V + 7) 56 (by omega) ein, nm_r (by rw [ec]) (nm_e ⟨hink, hink, nm_r (by rw [eck]; exact ma_xe h3 h1) ⟨hink, hink, nm_r (by rw [eck]; exact ma_xe h4 h2) (nm_e ⟨193, h⟩)⟩⟩)⟩
/-- covered after k edges -/
def rr_cn (fx fy tx ty : Nat → Int32) (w : Int32) (k t : Nat) : Int32 := ma_any (fun e => ma_np (fx e) (fy e) (tx e) (ty e) w t) k
theorem rr_cns {cv fx fy tx ty : Nat → Int32} {w : Int32} {k : Nat} : ma_w (ma_w cv (rr_cn fx fy tx ty w k) 0 192) (rr_gn (ma_w cv (rr_cn fx fy tx ty w k) 0 192) (fx k) (fy k) (tx k) (ty k) w) 0 192 = ma_w cv (rr_cn fx fy tx ty w (k + 1)) 0 192 := by
  funext j
  by_cases h : j < 192
  · rw [ma_wg0 h, ma_wg0 h]
    unfold rr_gn
    rw [ma_wg0 h]
    show _ = if ma_np (fx k) (fy k) (tx k) (ty k) w j = 1 then 1 else rr_cn fx fy tx ty w k j
    rcases ma_np01 (fx k) (fy k) (tx k) (ty k) w j with e | e
    · rw [e]
      rfl
    · rw [e]
      rfl
  · rw [ma_wr (by omega), ma_wr (by omega), ma_wr (by omega)]
theorem xw_li {post : SX → Prop} {E V : Nat} (hE : E ≤ 24) (hV : V ≤ 6) (hq : ma_q4 E fx fy tx ty) (hp : post (xds, xrc, xde, xoc, xun, xfp, nI V, xtl, nI E, xpb, xpf, xsx, xsy, xcx, xcy, dk, dv, sr, rs, rk, rv, ct, ru, pl, be, mx, xo, st, cp, pa, pn, fx, fy, tx, ty, fi, cr, ma_w cv (rr_cn fx fy tx ty (st (8 * V + 7)) E) 0 192)) :
    ∀ d k, k + d = E → wX_coverLines_24 post (d + 1) (nI k) xds xrc xde xoc xun xfp (nI V) xtl (nI E) xpb xpf xsx xsy xcx xcy dk dv sr rs rk rv ct ru pl be mx xo st cp pa pn fx fy tx ty fi cr (ma_w cv (rr_cn fx fy tx ty (st (8 * V + 7)) k) 0 192) := by
  intro d
  induction d with
  | zero =>
    intro k hk
    have e : k = E := by omega
    rw [e]
    exact pk_le E E (fun _ => hp) (fun h => absurd h (by omega))
  | succ d ih =>
    intro k hk
    have h := ih (k + 1) (by omega)
    obtain ⟨q1, q2, q3, q4⟩ := hq k (by omega)
    refine pk_le E k (fun h => absurd h (by omega)) (fun _ => xp_ne (by omega) hV q1 q2 q3 q4 ?_)
    rw [rr_cns]
    exact nm_r (nI_1 k) h
theorem xw_li0 {post : SX → Prop} (hp : ∃ n, wX_coverLines_24 post n 0 xds xrc xde xoc xun xfp xsc xtl xec xpb xpf xsx xsy xcx xcy dk dv sr rs rk rv ct ru pl be mx xo st cp pa pn fx fy tx ty fi cr (ma_w cv (fun _ => 0) 0 192)) :
    ∀ d i, i + d = 192 → wX_coverLines_2 post xds xrc xde xoc xun xfp xsc xtl xec xpb xpf xsx xsy xcx xcy (d + 1) (nI i) dk dv sr rs rk rv ct ru pl be mx xo st cp pa pn fx fy tx ty fi cr (ma_w cv (fun _ => 0) 0 i) := by
  intro d
  induction d with
  | zero =>
    intro i hi
    have e : i = 192 := by omega
    rw [e]
    exact pk_le 192 192 (fun _ => hp) (fun h => absurd h (by omega))
  | succ d ih =>
    intro i hi
    have hin : vp_in (nI i) 192 := pk_in i 192 (by omega)
    have ec : (nI i).toNatClampNeg = i := pk_cl i
    exact pk_le 192 i (fun h => absurd h (by omega)) (fun _ => ⟨hin, nm_r (by rw [ec, mb_vb0]; exact ma_ws0 cv (fun _ => 0) i) (nm_r (nI_1 i) (ih (i + 1) (by omega)))⟩)
theorem xp_li {post : SX → Prop} {E V : Nat} (hE : E ≤ 24) (hV : V ≤ 6) (hq : ma_q4 E fx fy tx ty) (hp : post (xds, xrc, xde, xoc, xun, xfp, nI V, xtl, nI E, xpb, xpf, xsx, xsy, xcx, xcy, dk, dv, sr, rs, rk, rv, ct, ru, pl, be, mx, xo, st, cp, pa, pn, fx, fy, tx, ty, fi, cr, ma_w cv (rr_cn fx fy tx ty (st (8 * V + 7)) E) 0 192)) : wpX_coverLines post (xds, xrc, xde, xoc, xun, xfp, nI V, xtl, nI E, xpb, xpf, xsx, xsy, xcx, xcy, dk, dv, sr, rs, rk, rv, ct, ru, pl, be, mx, xo, st, cp, pa, pn, fx, fy, tx, ty, fi, cr, cv) := by
  have h := xw_li (cv := cv) hE hV hq hp E 0 (by omega)
  have h' := xw_li0 ⟨_, h⟩ 192 0 rfl
  rw [ma_w0] at h'
  exact ⟨193, h'⟩
/-! paint, clip -/
def rr_gf (pa cv cp : Nat → Int32) (x : Int32) (bV bL t : Nat) : Int32 := if cv t = 0 then pa (bL + t) else if cp (bV + t) = 0 then pa (bL + t) else x
theorem xw_pc {post : SX → Prop} {m c : Int32} {bV bL : Nat} (hV : bV + 192 ≤ 1344) (hL : bL + 192 ≤ 1344) (hp : post (xds, xrc, xde, xoc, xun, xfp, xsc, xtl, xec, xpb, xpf, xsx, xsy, xcx, xcy, dk, dv, sr, rs, rk, rv, ct, ru, pl, be, mx, xo, st, cp, ma_w pa (rr_gf pa cv cp c bV bL) bL 192, ma_w pn (rr_gf pn cv cp m bV bL) bL 192, fx, fy, tx, ty, fi, cr, cv)) :
    ∀ d i, i + d = 192 → wX_paintCovered_38 post m (nI bV) (nI bL) c xds xrc xde xoc xun xfp xsc xtl xec xpb xpf xsx xsy xcx xcy (d + 1) (nI i) dk dv sr rs rk rv ct ru pl be mx xo st cp (ma_w pa (rr_gf pa cv cp c bV bL) bL i) (ma_w pn (rr_gf pn cv cp m bV bL) bL i) fx fy tx ty fi cr cv := by
  intro d
  induction d with
  | zero =>
    intro i hi
    have e : i = 192 := by omega
    rw [e]
    exact pk_le 192 192 (fun _ => hp) (fun h => absurd h (by omega))
  | succ d ih =>
    intro i hi
    have h := ih (i + 1) (by omega)
    have hin : vp_in (nI i) 192 := pk_in i 192 (by omega)
    have ec : (nI i).toNatClampNeg = i := pk_cl i
    have hinV : vp_in (nI bV + nI i) 1344 := pk_in (bV + i) 1344 (by omega) (nI_add bV i)
    have ecV : (nI bV + nI i).toNatClampNeg = bV + i := pk_cl (bV + i) (nI_add bV i)
    have hinL : vp_in (nI bL + nI i) 1344 := pk_in (bL + i) 1344 (by omega) (nI_add bL i)
    have ecL : (nI bL + nI i).toNatClampNeg = bL + i := pk_cl (bL + i) (nI_add bL i)
    refine pk_le 192 i (fun h => absurd h (by omega)) (fun _ => ⟨hin, ?_⟩)
    by_cases z : cv i = 0
    · have e1 : ma_w pa (rr_gf pa cv cp c bV bL) bL i = ma_w pa (rr_gf pa cv cp c bV bL) bL (i + 1) := ma_wk (if_pos z)
      have e2 : ma_w pn (rr_gf pn cv cp m bV bL) bL i = ma_w pn (rr_gf pn cv cp m bV bL) bL (i + 1) := ma_wk (if_pos z)
      rw [← e1, ← e2] at h
      exact br_t (by rw [ec]; exact z) (nm_r (nI_1 i) h)
    · refine br_f (by rw [ec]; exact z) ⟨hinV, ?_⟩
      by_cases y : cp (bV + i) = 0
      · have e1 : ma_w pa (rr_gf pa cv cp c bV bL) bL i = ma_w pa (rr_gf pa cv cp c bV bL) bL (i + 1) := ma_wk (by unfold rr_gf; rw [if_neg z, if_pos y])
        have e2 : ma_w pn (rr_gf pn cv cp m bV bL) bL i = ma_w pn (rr_gf pn cv cp m bV bL) bL (i + 1) := ma_wk (by unfold rr_gf; rw [if_neg z, if_pos y])
        rw [← e1, ← e2] at h
        exact br_t (by rw [ecV]; exact y) (nm_r (nI_1 i) h)
      · have e1 : rr_gf pa cv cp c bV bL i = c := by
          unfold rr_gf
          rw [if_neg z, if_neg y]
        have e2 : rr_gf pn cv cp m bV bL i = m := by
          unfold rr_gf
          rw [if_neg z, if_neg y]
        exact br_f (by rw [ecV]; exact y) ⟨hinL, nm_r (by rw [ecL, ← ma_ws, e1]) ⟨hinL, nm_r (by rw [ecL, ← ma_ws, e2]) (nm_r (nI_1 i) h)⟩⟩
theorem xp_pc {post : SX → Prop} {m : Int32} {V L : Nat} (hV : V ≤ 6) (hL : L ≤ 6) (hp : post (xds, xrc, xde, xoc, xun, xfp, nI V, nI L, xec, xpb, xpf, xsx, xsy, xcx, xcy, dk, dv, sr, rs, rk, rv, ct, ru, pl, be, mx, xo, st, cp, ma_w pa (rr_gf pa cv cp (st (8 * V + 6)) (192 * V) (192 * L)) (192 * L) 192, ma_w pn (rr_gf pn cv cp m (192 * V) (192 * L)) (192 * L) 192, fx, fy, tx, ty, fi, cr, cv)) : wpX_paintCovered post (xds, xrc, xde, xoc, xun, xfp, nI V, nI L, xec, xpb, xpf, xsx, xsy, xcx, xcy, dk, dv, sr, rs, rk, rv, ct, ru, pl, be, mx, xo, st, cp, pa, pn, fx, fy, tx, ty, fi, cr, cv) m := by
  have ein : nI V * 8 + 6 = nI (8 * V + 6) := by
    rw [show nI V * 8 = nI (8 * V) from mb_ml 8 V]
    exact nI_add (8 * V) 6
  have ec : (nI V * 8 + 6).toNatClampNeg = 8 * V + 6 := pk_cl (8 * V + 6) ein
  have h := xw_pc (bV := 192 * V) (bL := 192 * L) (by omega) (by omega) hp 192 0 rfl
  rw [ma_w0, ma_w0] at h
  exact nm_r (mb_ml 192 V) (nm_r (mb_ml 192 L) ⟨pk_in (8 * V + 6) 56 (by omega) ein, nm_r (by rw [ec]) ⟨193, h⟩⟩)
def rr_gk (cp cv : Nat → Int32) (bV t : Nat) : Int32 := if cp (bV + t) = 0 then 0 else if cv t = 0 then 0 else 1
theorem xw_cc {post : SX → Prop} {bV : Nat} (hV : bV + 192 ≤ 1344) (hp : post (xds, xrc, xde, xoc, xun, xfp, xsc, xtl, xec, xpb, xpf, xsx, xsy, xcx, xcy, dk, dv, sr, rs, rk, rv, ct, ru, pl, be, mx, xo, st, ma_w cp (rr_gk cp cv bV) bV 192, pa, pn, fx, fy, tx, ty, fi, cr, cv)) :
    ∀ d i, i + d = 192 → wX_clipToCovered_11 post (nI bV) xds xrc xde xoc xun xfp xsc xtl xec xpb xpf xsx xsy xcx xcy (d + 1) (nI i) dk dv sr rs rk rv ct ru pl be mx xo st (ma_w cp (rr_gk cp cv bV) bV i) pa pn fx fy tx ty fi cr cv := by
  intro d
  induction d with
  | zero =>
    intro i hi
    have e : i = 192 := by omega
    rw [e]
    exact pk_le 192 192 (fun _ => hp) (fun h => absurd h (by omega))
  | succ d ih =>
    intro i hi
    have h := ih (i + 1) (by omega)
    have hin : vp_in (nI i) 192 := pk_in i 192 (by omega)
    have ec : (nI i).toNatClampNeg = i := pk_cl i
    have hinV : vp_in (nI bV + nI i) 1344 := pk_in (bV + i) 1344 (by omega) (nI_add bV i)
    have ecV : (nI bV + nI i).toNatClampNeg = bV + i := pk_cl (bV + i) (nI_add bV i)
    have er : ma_w cp (rr_gk cp cv bV) bV i (nI bV + nI i).toNatClampNeg = cp (bV + i) := by
      rw [ecV]
      exact ma_wr (by omega)
    refine pk_le 192 i (fun h => absurd h (by omega)) (fun _ => ⟨hinV, ?_⟩)
    by_cases z : cp (bV + i) = 0
    · have e1 : rr_gk cp cv bV i = 0 := if_pos z
      exact br_t (by rw [er]; exact z) ⟨hinV, nm_r (by rw [ecV, ← ma_ws, e1, mb_vb0]) (nm_r (nI_1 i) h)⟩
    · refine br_f (by rw [er]; exact z) ⟨hin, ?_⟩
      by_cases y : cv i = 0
      · have e1 : rr_gk cp cv bV i = 0 := by
          unfold rr_gk
          rw [if_neg z, if_pos y]
        exact br_t (by rw [ec]; exact y) ⟨hinV, nm_r (by rw [ecV, ← ma_ws, e1, mb_vb0]) (nm_r (nI_1 i) h)⟩
      · have e1 : rr_gk cp cv bV i = 1 := by
          unfold rr_gk
          rw [if_neg z, if_neg y]
        exact br_f (by rw [ec]; exact y) ⟨hinV, nm_r (by rw [ecV, ← ma_ws, e1, mb_vb1]) (nm_r (nI_1 i) h)⟩
theorem xp_cc {post : SX → Prop} {V : Nat} (hV : V ≤ 6) (hp : post (xds, xrc, xde, xoc, xun, xfp, nI V, xtl, xec, xpb, xpf, xsx, xsy, xcx, xcy, dk, dv, sr, rs, rk, rv, ct, ru, pl, be, mx, xo, st, ma_w cp (rr_gk cp cv (192 * V)) (192 * V) 192, pa, pn, fx, fy, tx, ty, fi, cr, cv)) : wpX_clipToCovered post (xds, xrc, xde, xoc, xun, xfp, nI V, xtl, xec, xpb, xpf, xsx, xsy, xcx, xcy, dk, dv, sr, rs, rk, rv, ct, ru, pl, be, mx, xo, st, cp, pa, pn, fx, fy, tx, ty, fi, cr, cv) := by
  have h := xw_cc (bV := 192 * V) (by omega) hp 192 0 rfl
  rw [ma_w0] at h
  exact nm_r (mb_ml 192 V) ⟨193, h⟩
end
section
variable {xds xrc xde xoc xun xfp xsc xtl xec xpb xpf xsx xsy xcx xcy yrc ysh yle yla yde ypa yed yoc yun yfa ywh ype : Int32} {dk dv sr rs rk rv ct ru pl be mx xo st cp pa pn fx fy tx ty fi cr cv ln kd nm mt co wi sv bx bo ex ey yo : Nat → Int32}
/-! save, restore -/
def rr_gs (cp : Nat → Int32) (b t : Nat) : Int32 := vp_nar .boolean (cp (b + t))
theorem xw_sv2 {post : Int32 → SX → Prop} {V : Nat} (hV : V < 6) (hp : post 0 (xds, xrc, xde, xoc, xun, xfp, nI (V + 1), xtl, xec, xpb, xpf, xsx, xsy, xcx, xcy, dk, dv, sr, rs, rk, rv, ct, ru, pl, be, mx, xo, st, ma_w cp (rr_gs cp (192 * V)) (192 * V + 192) 192, pa, pn, fx, fy, tx, ty, fi, cr, cv)) :
    ∀ d i, i + d = 192 → wX_saveState_64 post (nI (192 * V)) xds xrc xde xoc xun xfp (nI V) xtl xec xpb xpf xsx xsy xcx xcy (d + 1) (nI i) dk dv sr rs rk rv ct ru pl be mx xo st (ma_w cp (rr_gs cp (192 * V)) (192 * V + 192) i) pa pn fx fy tx ty fi cr cv := by
  intro d
  induction d with
  | zero =>
    intro i hi
    have e : i = 192 := by omega
    rw [e]
    exact pk_le 192 192 (fun _ => nm_r (nI_1 V) hp) (fun h => absurd h (by omega))
  | succ d ih =>
    intro i hi
    have h := ih (i + 1) (by omega)
    have e1 : nI (192 * V) + nI i = nI (192 * V + i) := nI_add _ i
    have h1 : vp_in (nI (192 * V) + nI i) 1344 := pk_in (192 * V + i) 1344 (by omega) e1
    have c1 : (nI (192 * V) + nI i).toNatClampNeg = 192 * V + i := pk_cl (192 * V + i) e1
    have e2 : nI (192 * V) + 192 + nI i = nI (192 * V + 192 + i) := by
      rw [show nI (192 * V) + 192 = nI (192 * V + 192) from nI_add (192 * V) 192, nI_add]
    have h2 : vp_in (nI (192 * V) + 192 + nI i) 1344 := pk_in (192 * V + 192 + i) 1344 (by omega) e2
    have c2 : (nI (192 * V) + 192 + nI i).toNatClampNeg = 192 * V + 192 + i := pk_cl (192 * V + 192 + i) e2
    exact pk_le 192 i (fun h => absurd h (by omega)) (fun _ => ⟨h1, h2, nm_r (by rw [c2, c1, ma_wr (by omega)]; exact ma_ws cp (rr_gs cp (192 * V)) (192 * V + 192) i) (nm_r (nI_1 i) h)⟩)
theorem xw_sv1 {post : Int32 → SX → Prop} {V : Nat} (hV : V < 6) (hp : ∃ n, wX_saveState_64 post (nI (192 * V)) xds xrc xde xoc xun xfp (nI V) xtl xec xpb xpf xsx xsy xcx xcy n 0 dk dv sr rs rk rv ct ru pl be mx xo (ma_w st (fun n => st (8 * V + n)) (8 * V + 8) 8) cp pa pn fx fy tx ty fi cr cv) :
    ∀ d i, i + d = 8 → wX_saveState_22 post (nI (8 * V)) xds xrc xde xoc xun xfp (nI V) xtl xec xpb xpf xsx xsy xcx xcy (d + 1) (nI i) dk dv sr rs rk rv ct ru pl be mx xo (ma_w st (fun n => st (8 * V + n)) (8 * V + 8) i) cp pa pn fx fy tx ty fi cr cv := by
  intro d
  induction d with
  | zero =>
    intro i hi
    have e : i = 8 := by omega
    rw [e]
    exact pk_le 8 8 (fun _ => nm_r (mb_ml 192 V) hp) (fun h => absurd h (by omega))
  | succ d ih =>
    intro i hi
    have h := ih (i + 1) (by omega)
    have e1 : nI (8 * V) + nI i = nI (8 * V + i) := nI_add _ i
    have h1 : vp_in (nI (8 * V) + nI i) 56 := pk_in (8 * V + i) 56 (by omega) e1
    have c1 : (nI (8 * V) + nI i).toNatClampNeg = 8 * V + i := pk_cl (8 * V + i) e1
    have e2 : nI (8 * V) + 8 + nI i = nI (8 * V + 8 + i) := by
      rw [show nI (8 * V) + 8 = nI (8 * V + 8) from nI_add (8 * V) 8, nI_add]
    have h2 : vp_in (nI (8 * V) + 8 + nI i) 56 := pk_in (8 * V + 8 + i) 56 (by omega) e2
    have c2 : (nI (8 * V) + 8 + nI i).toNatClampNeg = 8 * V + 8 + i := pk_cl (8 * V + 8 + i) e2
    exact pk_le 8 i (fun h => absurd h (by omega)) (fun _ => ⟨h1, h2, nm_r (by rw [c2, c1, ma_wr (by omega)]; exact ma_ws st (fun n => st (8 * V + n)) (8 * V + 8) i) (nm_r (nI_1 i) h)⟩)
theorem xp_sv {post : Int32 → SX → Prop} {V : Nat} (hV : V < 6) (hp : post 0 (xds, xrc, xde, xoc, xun, xfp, nI (V + 1), xtl, xec, xpb, xpf, xsx, xsy, xcx, xcy, dk, dv, sr, rs, rk, rv, ct, ru, pl, be, mx, xo, ma_w st (fun n => st (8 * V + n)) (8 * V + 8) 8, ma_w cp (rr_gs cp (192 * V)) (192 * V + 192) 192, pa, pn, fx, fy, tx, ty, fi, cr, cv)) : wpX_saveState post (xds, xrc, xde, xoc, xun, xfp, nI V, xtl, xec, xpb, xpf, xsx, xsy, xcx, xcy, dk, dv, sr, rs, rk, rv, ct, ru, pl, be, mx, xo, st, cp, pa, pn, fx, fy, tx, ty, fi, cr, cv) := by
  have h := xw_sv2 hV hp 192 0 rfl
  rw [ma_w0] at h
  have h' := xw_sv1 hV ⟨_, h⟩ 8 0 rfl
  rw [ma_w0] at h'
  exact pk_lt V 6 (fun _ => nm_r (mb_ml 8 V) ⟨9, h'⟩) (fun h => absurd h (by omega))
theorem xp_sv6 {post : Int32 → SX → Prop} {V : Nat} (hV : V = 6) (hp : post 6 (xds, xrc, xde, xoc, xun, xfp, nI V, xtl, xec, xpb, xpf, xsx, xsy, xcx, xcy, dk, dv, sr, rs, rk, rv, ct, ru, pl, be, mx, xo, st, cp, pa, pn, fx, fy, tx, ty, fi, cr, cv)) : wpX_saveState post (xds, xrc, xde, xoc, xun, xfp, nI V, xtl, xec, xpb, xpf, xsx, xsy, xcx, xcy, dk, dv, sr, rs, rk, rv, ct, ru, pl, be, mx, xo, st, cp, pa, pn, fx, fy, tx, ty, fi, cr, cv) := pk_lt V 6 (fun h => absurd h (by omega)) (fun _ => hp)
/-! the layers' mixture -/
def rr_gp (pa : Nat → Int32) (a : Int32) (bU bL t : Nat) : Int32 := if pa (bU + t) = -1 then pa (bL + t) else if pa (bL + t) = -1 then pa (bU + t) else (a * pa (bU + t) + (16 - a) * pa (bL + t)) / 16
def rr_gq (pa pn : Nat → Int32) (bU bL t : Nat) : Int32 := if pa (bU + t) = -1 then pn (bL + t) else pn (bU + t)
theorem xw_mi {post : SX → Prop} {a : Int32} {l bU bL : Nat} (hU : bU + 192 ≤ 1344) (hL : bL + 192 ≤ bU) (hp : post (xds, xrc, xde, xoc, xun, xfp, xsc, nI l, xec, xpb, xpf, xsx, xsy, xcx, xcy, dk, dv, sr, rs, rk, rv, ct, ru, pl, be, mx, xo, st, cp, ma_w pa (rr_gp pa a bU bL) bL 192, ma_w pn (rr_gq pa pn bU bL) bL 192, fx, fy, tx, ty, fi, cr, cv)) :
    ∀ d i, i + d = 192 → wX_mixTopLayer_18 post a (nI bU) (nI bL) xds xrc xde xoc xun xfp xsc (nI (l + 1)) xec xpb xpf xsx xsy xcx xcy (d + 1) (nI i) dk dv sr rs rk rv ct ru pl be mx xo st cp (ma_w pa (rr_gp pa a bU bL) bL i) (ma_w pn (rr_gq pa pn bU bL) bL i) fx fy tx ty fi cr cv := by
  intro d
  induction d with
  | zero =>
    intro i hi
    have e : i = 192 := by omega
    rw [e]
    exact pk_le 192 192 (fun _ => nm_r (nI_pred l) hp) (fun h => absurd h (by omega))
  | succ d ih =>
    intro i hi
    have h := ih (i + 1) (by omega)
    have hinU : vp_in (nI bU + nI i) 1344 := pk_in (bU + i) 1344 (by omega) (nI_add bU i)
    have ecU : (nI bU + nI i).toNatClampNeg = bU + i := pk_cl (bU + i) (nI_add bU i)
    have hinL : vp_in (nI bL + nI i) 1344 := pk_in (bL + i) 1344 (by omega) (nI_add bL i)
    have ecL : (nI bL + nI i).toNatClampNeg = bL + i := pk_cl (bL + i) (nI_add bL i)
    have rU : ma_w pa (rr_gp pa a bU bL) bL i (nI bU + nI i).toNatClampNeg = pa (bU + i) := by
      rw [ecU]
      exact ma_wr (by omega)
    have rL : ma_w pa (rr_gp pa a bU bL) bL i (nI bL + nI i).toNatClampNeg = pa (bL + i) := by
      rw [ecL]
      exact ma_wr (by omega)
    have qU : ma_w pn (rr_gq pa pn bU bL) bL i (nI bU + nI i).toNatClampNeg = pn (bU + i) := by
      rw [ecU]
      exact ma_wr (by omega)
    refine pk_le 192 i (fun h => absurd h (by omega)) (fun _ => ⟨hinU, nm_r rU ⟨hinL, nm_r rL ?_⟩⟩)
    by_cases z : pa (bU + i) = -1
    · have e1 : ma_w pa (rr_gp pa a bU bL) bL i = ma_w pa (rr_gp pa a bU bL) bL (i + 1) := ma_wk (if_pos z)
      have e2 : ma_w pn (rr_gq pa pn bU bL) bL i = ma_w pn (rr_gq pa pn bU bL) bL (i + 1) := ma_wk (if_pos z)
      rw [← e1, ← e2] at h
      exact br_t z (nm_r (nI_1 i) h)
    · have e2 : rr_gq pa pn bU bL i = pn (bU + i) := if_neg z
      by_cases y : pa (bL + i) = -1
      · have e1 : rr_gp pa a bU bL i = pa (bU + i) := by
          unfold rr_gp
          rw [if_neg z, if_pos y]
        exact br_f z (br_t y (br_f (by decide) ⟨hinL, nm_r (by rw [ecL, ← ma_ws, e1]) ⟨hinU, hinL, nm_r (by rw [qU, ecL, ← ma_ws, e2]) (nm_r (nI_1 i) h)⟩⟩))
      · have e1 : rr_gp pa a bU bL i = (a * pa (bU + i) + (16 - a) * pa (bL + i)) / 16 := by
          unfold rr_gp
          rw [if_neg z, if_neg y]
        exact br_f z (br_f y (br_t rfl ⟨by decide, hinL, nm_r (by rw [ecL, ← ma_ws, e1]) ⟨hinU, hinL, nm_r (by rw [qU, ecL, ← ma_ws, e2]) (nm_r (nI_1 i) h)⟩⟩))
theorem xp_mi {post : SX → Prop} {a : Int32} {l : Nat} (hl : l + 1 ≤ 6) (hp : post (xds, xrc, xde, xoc, xun, xfp, xsc, nI l, xec, xpb, xpf, xsx, xsy, xcx, xcy, dk, dv, sr, rs, rk, rv, ct, ru, pl, be, mx, xo, st, cp, ma_w pa (rr_gp pa a (192 * (l + 1)) (192 * l)) (192 * l) 192, ma_w pn (rr_gq pa pn (192 * (l + 1)) (192 * l)) (192 * l) 192, fx, fy, tx, ty, fi, cr, cv)) : wpX_mixTopLayer post (xds, xrc, xde, xoc, xun, xfp, xsc, nI (l + 1), xec, xpb, xpf, xsx, xsy, xcx, xcy, dk, dv, sr, rs, rk, rv, ct, ru, pl, be, mx, xo, st, cp, pa, pn, fx, fy, tx, ty, fi, cr, cv) a := by
  have h := xw_mi (bU := 192 * (l + 1)) (bL := 192 * l) (by omega) (by omega) hp 192 0 rfl
  rw [ma_w0, ma_w0] at h
  have e : nI (192 * (l + 1)) - 192 = nI (192 * l) := by
    have := pk_sub (a := 192 * (l + 1)) (b := 192) (by omega)
    rw [show 192 * (l + 1) - 192 = 192 * l by omega] at this
    exact this
  exact nm_r (mb_ml 192 (l + 1)) (nm_r e ⟨193, h⟩)
/-! the matrix -/
theorem xw_cm3 {post : Int32 → SX → Prop} {V : Nat} (hV : V ≤ 6) (hp : post 0 (xds, xrc, xde, xoc, xun, xfp, xsc, xtl, xec, xpb, xpf, xsx, xsy, xcx, xcy, dk, dv, sr, rs, rk, rv, ct, ru, pl, be, mx, xo, ma_w st xo (8 * V) 6, cp, pa, pn, fx, fy, tx, ty, fi, cr, cv)) :
    ∀ d i, i + d = 6 → wX_changeMatrix_182 post (nI (8 * V)) xds xrc xde xoc xun xfp xsc xtl xec xpb xpf xsx xsy xcx xcy (d + 1) (nI i) dk dv sr rs rk rv ct ru pl be mx xo (ma_w st xo (8 * V) i) cp pa pn fx fy tx ty fi cr cv := by
  intro d
  induction d with
  | zero =>
    intro i hi
    have e : i = 6 := by omega
    rw [e]
    exact pk_le 6 6 (fun _ => hp) (fun h => absurd h (by omega))
  | succ d ih =>
    intro i hi
    have h := ih (i + 1) (by omega)
    have e1 : nI (8 * V) + nI i = nI (8 * V + i) := nI_add _ i
    have c1 : (nI (8 * V) + nI i).toNatClampNeg = 8 * V + i := pk_cl (8 * V + i) e1
    have c2 : (nI i).toNatClampNeg = i := pk_cl i
    exact pk_le 6 i (fun h => absurd h (by omega)) (fun _ => ⟨pk_in i 6 (by omega), pk_in (8 * V + i) 56 (by omega) e1, nm_r (by rw [c1, c2]; exact ma_ws st xo (8 * V) i) (nm_r (nI_1 i) h)⟩)
def rr_lim (i : Nat) : Int32 := if 4 ≤ i then 4000 else 50
def rr_ok (xo : Nat → Int32) (i : Nat) : Prop := ¬ xo i < -rr_lim i ∧ xo i ≤ rr_lim i
theorem xw_cm2 {post : Int32 → SX → Prop} {V : Nat} (hV : V ≤ 6) (hp : (∀ j, j < 6 → rr_ok xo j) → post 0 (xds, xrc, xde, xoc, xun, xfp, xsc, xtl, xec, xpb, xpf, xsx, xsy, xcx, xcy, dk, dv, sr, rs, rk, rv, ct, ru, pl, be, mx, xo, ma_w st xo (8 * V) 6, cp, pa, pn, fx, fy, tx, ty, fi, cr, cv)) (hf : (∃ j, j < 6 ∧ ¬ rr_ok xo j) → post 3 (xds, xrc, xde, xoc, xun, xfp, xsc, xtl, xec, xpb, xpf, xsx, xsy, xcx, xcy, dk, dv, sr, rs, rk, rv, ct, ru, pl, be, mx, xo, st, cp, pa, pn, fx, fy, tx, ty, fi, cr, cv)) :
    ∀ d i, i + d = 6 → (∀ j, j < i → rr_ok xo j) → wX_changeMatrix_131 post (nI (8 * V)) xds xrc xde xoc xun xfp xsc xtl xec xpb xpf xsx xsy xcx xcy dk dv sr rs rk rv ct ru pl be mx xo st cp pa pn fx fy tx ty fi cr cv (d + 1) (nI i) := by
  intro d
  induction d with
  | zero =>
    intro i hi hj
    have e : i = 6 := by omega
    rw [e] at hj
    have h := xw_cm3 hV (hp hj) 6 0 rfl
    rw [ma_w0] at h
    rw [e]
    exact pk_le 6 6 (fun _ => ⟨7, h⟩) (fun h => absurd h (by omega))
  | succ d ih =>
    intro i hi hj
    have c : (nI i).toNatClampNeg = i := pk_cl i
    have hin : vp_in (nI i) 6 := pk_in i 6 (by omega)
    have key : wX_changeMatrix_150 post (wX_changeMatrix_131 post (nI (8 * V)) xds xrc xde xoc xun xfp xsc xtl xec xpb xpf xsx xsy xcx xcy dk dv sr rs rk rv ct ru pl be mx xo st cp pa pn fx fy tx ty fi cr cv (d + 1)) (nI (8 * V)) (nI i) (rr_lim i) xds xrc xde xoc xun xfp xsc xtl xec xpb xpf xsx xsy xcx xcy dk dv sr rs rk rv ct ru pl be mx xo st cp pa pn fx fy tx ty fi cr cv := by
      refine ⟨hin, ?_⟩
      rw [c]
      by_cases a : xo i < -rr_lim i
      · exact br_t a (hf ⟨i, by omega, fun z => z.1 a⟩)
      · refine br_f a ⟨hin, ?_⟩
        by_cases b : xo i ≤ rr_lim i
        · refine br_t b (nm_r (nI_1 i) (ih (i + 1) (by omega) (fun j hj' => ?_)))
          by_cases e : j = i
          · rw [e]
            exact ⟨a, b⟩
          · exact hj j (by omega)
        · exact br_f b (hf ⟨i, by omega, fun z => b z.2⟩)
    refine pk_le 6 i (fun h => absurd h (by omega)) (fun _ => pk_le 4 i (fun h => ?_) (fun h => ?_))
    · rw [show rr_lim i = 4000 from if_pos h] at key
      exact key
    · rw [show rr_lim i = 50 from if_neg (by omega)] at key
      exact key
end
section
variable {xds xrc xde xoc xun xfp xsc xtl xec xpb xpf xsx xsy xcx xcy yrc ysh yle yla yde ypa yed yoc yun yfa ywh ype : Int32} {dk dv sr rs rk rv ct ru pl be mx xo st cp pa pn fx fy tx ty fi cr cv ln kd nm mt co wi sv bx bo ex ey yo : Nat → Int32}
def rr_it (xo st : Nat → Int32) (b i : Nat) : Nat → Int32 := upd (upd xo i (xo i * st b + xo (i + 1) * st (b + 2))) (i + 1) (xo i * st (b + 1) + xo (i + 1) * st (b + 3))
theorem xw_cm1 {post : Int32 → SX → Prop} {V i n : Nat} (hV : V ≤ 6) (hi : i + 2 ≤ 6) (h : wX_changeMatrix_10 post (nI (8 * V)) xds xrc xde xoc xun xfp xsc xtl xec xpb xpf xsx xsy xcx xcy n (nI (i + 2)) dk dv sr rs rk rv ct ru pl be mx (rr_it xo st (8 * V) i) st cp pa pn fx fy tx ty fi cr cv) : wX_changeMatrix_10 post (nI (8 * V)) xds xrc xde xoc xun xfp xsc xtl xec xpb xpf xsx xsy xcx xcy (n + 1) (nI i) dk dv sr rs rk rv ct ru pl be mx xo st cp pa pn fx fy tx ty fi cr cv := by
  have c : (nI i).toNatClampNeg = i := pk_cl i
  have c1 : (nI i + 1).toNatClampNeg = i + 1 := pk_cl (i + 1) (nI_1 i)
  have b0 : (nI (8 * V)).toNatClampNeg = 8 * V := pk_cl (8 * V)
  have b1 : (nI (8 * V) + 1).toNatClampNeg = 8 * V + 1 := pk_cl (8 * V + 1) (nI_add (8 * V) 1)
  have b2 : (nI (8 * V) + 2).toNatClampNeg = 8 * V + 2 := pk_cl (8 * V + 2) (nI_add (8 * V) 2)
  have b3 : (nI (8 * V) + 3).toNatClampNeg = 8 * V + 3 := pk_cl (8 * V + 3) (nI_add (8 * V) 3)
  have i0 : vp_in (nI (8 * V)) 56 := pk_in (8 * V) 56 (by omega)
  have i1 : vp_in (nI (8 * V) + 1) 56 := pk_in (8 * V + 1) 56 (by omega) (nI_add (8 * V) 1)
  have i2 : vp_in (nI (8 * V) + 2) 56 := pk_in (8 * V + 2) 56 (by omega) (nI_add (8 * V) 2)
  have i3 : vp_in (nI (8 * V) + 3) 56 := pk_in (8 * V + 3) 56 (by omega) (nI_add (8 * V) 3)
  have ii : vp_in (nI i) 6 := pk_in i 6 (by omega)
  have ii1 : vp_in (nI i + 1) 6 := pk_in (i + 1) 6 (by omega) (nI_1 i)
  exact pk_le 6 i (fun h => absurd h (by omega)) (fun _ => ⟨ii, nm_r (by rw [c]) ⟨ii1, nm_r (by rw [c1]) ⟨i0, i2, ii, nm_r (by rw [c, b0, b2]) ⟨i1, i3, ii1, nm_r (by rw [c1, b1, b3]; rfl) (nm_r (nI_add i 2) h)⟩⟩⟩⟩)
def rr_x3 (xo st : Nat → Int32) (b : Nat) : Nat → Int32 := rr_it (rr_it (rr_it xo st b 0) st b 2) st b 4
def rr_xn (xo st : Nat → Int32) (b : Nat) : Nat → Int32 := upd (upd (rr_x3 xo st b) 4 (rr_x3 xo st b 4 + st (b + 4))) 5 (upd (rr_x3 xo st b) 4 (rr_x3 xo st b 4 + st (b + 4)) 5 + st (b + 5))
theorem rr_xnv (xo st : Nat → Int32) (b : Nat) : rr_xn xo st b 0 = xo 0 * st b + xo 1 * st (b + 2) ∧ rr_xn xo st b 1 = xo 0 * st (b + 1) + xo 1 * st (b + 3) ∧ rr_xn xo st b 2 = xo 2 * st b + xo 3 * st (b + 2) ∧ rr_xn xo st b 3 = xo 2 * st (b + 1) + xo 3 * st (b + 3) ∧
    rr_xn xo st b 4 = xo 4 * st b + xo 5 * st (b + 2) + st (b + 4) ∧ rr_xn xo st b 5 = xo 4 * st (b + 1) + xo 5 * st (b + 3) + st (b + 5) := ⟨rfl, rfl, rfl, rfl, rfl, rfl⟩
theorem xp_cm {post : Int32 → SX → Prop} {V : Nat} (hV : V ≤ 6) (h1 : (∀ j, j < 6 → rr_ok (rr_xn xo st (8 * V)) j) → post 0 (xds, xrc, xde, xoc, xun, xfp, nI V, xtl, xec, xpb, xpf, xsx, xsy, xcx, xcy, dk, dv, sr, rs, rk, rv, ct, ru, pl, be, mx, rr_xn xo st (8 * V), ma_w st (rr_xn xo st (8 * V)) (8 * V) 6, cp, pa, pn, fx, fy, tx, ty, fi, cr, cv))
    (h2 : (∃ j, j < 6 ∧ ¬ rr_ok (rr_xn xo st (8 * V)) j) → post 3 (xds, xrc, xde, xoc, xun, xfp, nI V, xtl, xec, xpb, xpf, xsx, xsy, xcx, xcy, dk, dv, sr, rs, rk, rv, ct, ru, pl, be, mx, rr_xn xo st (8 * V), st, cp, pa, pn, fx, fy, tx, ty, fi, cr, cv)) : wpX_changeMatrix post (xds, xrc, xde, xoc, xun, xfp, nI V, xtl, xec, xpb, xpf, xsx, xsy, xcx, xcy, dk, dv, sr, rs, rk, rv, ct, ru, pl, be, mx, xo, st, cp, pa, pn, fx, fy, tx, ty, fi, cr, cv) := by
  refine nm_r (mb_ml 8 V) ⟨4, xw_cm1 (i := 0) hV (by omega) (xw_cm1 (i := 2) hV (by omega) (xw_cm1 (i := 4) hV (by omega) ?_))⟩
  have b4 : (nI (8 * V) + 4).toNatClampNeg = 8 * V + 4 := pk_cl (8 * V + 4) (nI_add (8 * V) 4)
  have b5 : (nI (8 * V) + 5).toNatClampNeg = 8 * V + 5 := pk_cl (8 * V + 5) (nI_add (8 * V) 5)
  have i4 : vp_in (nI (8 * V) + 4) 56 := pk_in (8 * V + 4) 56 (by omega) (nI_add (8 * V) 4)
  have i5 : vp_in (nI (8 * V) + 5) 56 := pk_in (8 * V + 5) 56 (by omega) (nI_add (8 * V) 5)
  have h := xw_cm2 (xo := rr_xn xo st (8 * V)) hV h1 h2 6 0 rfl (fun j hj => absurd hj (Nat.not_lt_zero j))
  exact pk_le 6 6 (fun _ => ⟨i4, nm_r (e' := upd (rr_x3 xo st (8 * V)) 4 (rr_x3 xo st (8 * V) 4 + st (8 * V + 4))) (by rw [b4]; rfl) ⟨i5, nm_r (e' := rr_xn xo st (8 * V)) (by rw [b5]; rfl) ⟨7, h⟩⟩⟩) (fun h => absurd h (by omega))
/-! how many operands an operator needs -/
theorem xp_nd {post : Int32 → Prop} {k : Int32} (hp : post (nI (rr_need k))) : wpX_operandsNeeded post (xds, xrc, xde, xoc, xun, xfp, xsc, xtl, xec, xpb, xpf, xsx, xsy, xcx, xcy, dk, dv, sr, rs, rk, rv, ct, ru, pl, be, mx, xo, st, cp, pa, pn, fx, fy, tx, ty, fi, cr, cv) k := by
  by_cases h1 : k = 1
  · rw [h1, show rr_need 1 = 2 from by decide] at hp
    rw [h1]
    exact br_f (by decide) (br_f (by decide) (br_t rfl hp))
  by_cases h2 : k = 2
  · rw [h2, show rr_need 2 = 2 from by decide] at hp
    rw [h2]
    exact br_f (by decide) (br_f (by decide) (br_f (by decide) (br_t rfl hp)))
  by_cases h3 : k = 3
  · rw [h3, show rr_need 3 = 0 from by decide] at hp
    rw [h3]
    exact br_f (by decide) (br_f (by decide) (br_f (by decide) (br_f (by decide) (br_t rfl hp))))
  by_cases h4 : k = 4
  · rw [h4, show rr_need 4 = 4 from by decide] at hp
    rw [h4]
    exact br_f (by decide) (br_f (by decide) (br_f (by decide) (br_f (by decide) (br_f (by decide) (br_t rfl hp)))))
  by_cases h5 : k = 5
  · rw [h5, show rr_need 5 = 0 from by decide] at hp
    rw [h5]
    exact br_f (by decide) (br_f (by decide) (br_f (by decide) (br_f (by decide) (br_f (by decide) (br_f (by decide) (br_t rfl hp))))))
  by_cases h6 : k = 6
  · rw [h6, show rr_need 6 = 0 from by decide] at hp
    rw [h6]
    exact br_f (by decide) (br_f (by decide) (br_f (by decide) (br_f (by decide) (br_f (by decide) (br_f (by decide) (br_f (by decide) (br_t rfl hp)))))))
  by_cases h7 : k = 7
  · rw [h7, show rr_need 7 = 0 from by decide] at hp
    rw [h7]
    exact br_f (by decide) (br_f (by decide) (br_f (by decide) (br_f (by decide) (br_f (by decide) (br_f (by decide) (br_f (by decide) (br_f (by decide) (br_t rfl hp))))))))
  by_cases h8 : k = 8
  · rw [h8, show rr_need 8 = 0 from by decide] at hp
    rw [h8]
    exact br_f (by decide) (br_f (by decide) (br_f (by decide) (br_f (by decide) (br_f (by decide) (br_f (by decide) (br_f (by decide) (br_f (by decide) (br_f (by decide) (br_t rfl hp)))))))))
  by_cases h9 : k = 9
  · rw [h9, show rr_need 9 = 0 from by decide] at hp
    rw [h9]
    exact br_f (by decide) (br_f (by decide) (br_f (by decide) (br_f (by decide) (br_f (by decide) (br_f (by decide) (br_f (by decide) (br_f (by decide) (br_f (by decide) (br_f (by decide) (br_t rfl hp))))))))))
  by_cases h10 : k = 10
  · rw [h10, show rr_need 10 = 0 from by decide] at hp
    rw [h10]
    exact br_f (by decide) (br_f (by decide) (br_f (by decide) (br_f (by decide) (br_f (by decide) (br_f (by decide) (br_f (by decide) (br_f (by decide) (br_f (by decide) (br_f (by decide) (br_f (by decide) (br_t rfl hp)))))))))))
  by_cases h11 : k = 11
  · rw [h11, show rr_need 11 = 0 from by decide] at hp
    rw [h11]
    exact br_f (by decide) (br_f (by decide) (br_f (by decide) (br_f (by decide) (br_f (by decide) (br_f (by decide) (br_f (by decide) (br_f (by decide) (br_f (by decide) (br_f (by decide) (br_f (by decide) (br_f (by decide) (br_t rfl hp))))))))))))
  by_cases h12 : k = 12
  · rw [h12, show rr_need 12 = 6 from by decide] at hp
    rw [h12]
    exact br_f (by decide) (br_f (by decide) (br_f (by decide) (br_f (by decide) (br_f (by decide) (br_f (by decide) (br_f (by decide) (br_f (by decide) (br_f (by decide) (br_f (by decide) (br_f (by decide) (br_f (by decide) (br_f (by decide) (br_t rfl hp)))))))))))))
  by_cases h13 : k = 13
  · rw [h13, show rr_need 13 = 1 from by decide] at hp
    rw [h13]
    exact br_f (by decide) (br_f (by decide) (br_f (by decide) (br_f (by decide) (br_f (by decide) (br_f (by decide) (br_f (by decide) (br_f (by decide) (br_f (by decide) (br_f (by decide) (br_f (by decide) (br_f (by decide) (br_f (by decide) (br_f (by decide) (br_t rfl hp))))))))))))))
  by_cases h14 : k = 14
  · rw [h14, show rr_need 14 = 1 from by decide] at hp
    rw [h14]
    exact br_f (by decide) (br_f (by decide) (br_f (by decide) (br_f (by decide) (br_f (by decide) (br_f (by decide) (br_f (by decide) (br_f (by decide) (br_f (by decide) (br_f (by decide) (br_f (by decide) (br_f (by decide) (br_f (by decide) (br_f (by decide) (br_f (by decide) (br_t rfl hp)))))))))))))))
  by_cases h15 : k = 15
  · rw [h15, show rr_need 15 = 0 from by decide] at hp
    rw [h15]
    exact br_f (by decide) (br_f (by decide) (br_f (by decide) (br_f (by decide) (br_f (by decide) (br_f (by decide) (br_f (by decide) (br_f (by decide) (br_f (by decide) (br_f (by decide) (br_f (by decide) (br_f (by decide) (br_f (by decide) (br_f (by decide) (br_f (by decide) (br_f (by decide) (br_t rfl hp))))))))))))))))
  by_cases h16 : k = 16
  · rw [h16, show rr_need 16 = 1 from by decide] at hp
    rw [h16]
    exact br_f (by decide) (br_f (by decide) (br_f (by decide) (br_f (by decide) (br_f (by decide) (br_f (by decide) (br_f (by decide) (br_f (by decide) (br_f (by decide) (br_f (by decide) (br_f (by decide) (br_f (by decide) (br_f (by decide) (br_f (by decide) (br_f (by decide) (br_f (by decide) (br_f (by decide) (br_t rfl hp)))))))))))))))))
  by_cases h17 : k = 17
  · rw [h17, show rr_need 17 = 2 from by decide] at hp
    rw [h17]
    exact br_f (by decide) (br_f (by decide) (br_f (by decide) (br_f (by decide) (br_f (by decide) (br_f (by decide) (br_f (by decide) (br_f (by decide) (br_f (by decide) (br_f (by decide) (br_f (by decide) (br_f (by decide) (br_f (by decide) (br_f (by decide) (br_f (by decide) (br_f (by decide) (br_f (by decide) (br_f (by decide) (br_t rfl hp))))))))))))))))))
  have e : rr_need k = 0 := by
    unfold rr_need
    rw [if_neg (fun z => z.elim h1 (fun z => z.elim h2 h17)), if_neg h4, if_neg h12, if_neg (fun z => z.elim h13 (fun z => z.elim h14 h16))]
  rw [e] at hp
  exact br_c (fun _ => hp) (fun _ => br_c (fun _ => hp) (fun _ => br_f h1 (br_f h2 (br_f h3 (br_f h4 (br_f h5 (br_f h6 (br_f h7 (br_f h8 (br_f h9 (br_f h10 (br_f h11 (br_f h12 (br_f h13 (br_f h14 (br_f h15 (br_f h16 (br_f h17 (trivial)))))))))))))))))))
theorem yp_wt {post : Int32 → Prop} {k : Int32} (hp : post (nI (rr_need k))) : wpY_wanted post k := by
  by_cases h1 : k = 1
  · rw [h1, show rr_need 1 = 2 from by decide] at hp
    rw [h1]
    exact br_t rfl hp
  by_cases h2 : k = 2
  · rw [h2, show rr_need 2 = 2 from by decide] at hp
    rw [h2]
    exact br_f (by decide) (br_t rfl hp)
  by_cases h17 : k = 17
  · rw [h17, show rr_need 17 = 2 from by decide] at hp
    rw [h17]
    exact br_f (by decide) (br_f (by decide) (br_t rfl hp))
  by_cases h4 : k = 4
  · rw [h4, show rr_need 4 = 4 from by decide] at hp
    rw [h4]
    exact br_f (by decide) (br_f (by decide) (br_f (by decide) (br_t rfl hp)))
  by_cases h12 : k = 12
  · rw [h12, show rr_need 12 = 6 from by decide] at hp
    rw [h12]
    exact br_f (by decide) (br_f (by decide) (br_f (by decide) (br_f (by decide) (br_t rfl hp))))
  by_cases h13 : k = 13
  · rw [h13, show rr_need 13 = 1 from by decide] at hp
    rw [h13]
    exact br_f (by decide) (br_f (by decide) (br_f (by decide) (br_f (by decide) (br_f (by decide) (br_t rfl hp)))))
  by_cases h14 : k = 14
  · rw [h14, show rr_need 14 = 1 from by decide] at hp
    rw [h14]
    exact br_f (by decide) (br_f (by decide) (br_f (by decide) (br_f (by decide) (br_f (by decide) (br_f (by decide) (br_t rfl hp))))))
  by_cases h16 : k = 16
  · rw [h16, show rr_need 16 = 1 from by decide] at hp
    rw [h16]
    exact br_f (by decide) (br_f (by decide) (br_f (by decide) (br_f (by decide) (br_f (by decide) (br_f (by decide) (br_f (by decide) (br_t rfl hp)))))))
  have e : rr_need k = 0 := by
    unfold rr_need
    rw [if_neg (fun z => z.elim h1 (fun z => z.elim h2 h17)), if_neg h4, if_neg h12, if_neg (fun z => z.elim h13 (fun z => z.elim h14 h16))]
  rw [e] at hp
  exact br_f h1 (br_f h2 (br_f h17 (br_f h4 (br_f h12 (br_f h13 (br_f h14 (br_f h16 (hp))))))))
end
section
variable {xds xrc xde xoc xun xfp xsc xtl xec xpb xpf xsx xsy xcx xcy yrc ysh yle yla yde ypa yed yoc yun yfa ywh ype : Int32} {dk dv sr rs rk rv ct ru pl be mx xo st cp pa pn fx fy tx ty fi cr cv ln kd nm mt co wi sv bx bo ex ey yo : Nat → Int32}
theorem ma_nltL {x y : Int64} (h : ¬ x < y) : y ≤ x := Int64.not_lt.mp h
theorem ma_ltL {x y : Int64} (h : x < y) : ¬ y ≤ x := Int64.not_le.mpr h
/-! counts, inside -/
theorem yp_ct {post : Int32 → Prop} {x1 y1 x2 y2 : Int32} {p : Nat} (h1 : ma_bd 4000 x1) (h2 : ma_bd 4000 y1) (h3 : ma_bd 4000 x2) (h4 : ma_bd 4000 y2) (hp : p < 192) (H : post (Int32.ofInt (ma_cp x1 y1 x2 y2 p))) :
    wpY_counts post (yrc, ysh, yle, yla, yde, ypa, yed, yoc, yun, yfa, ywh, ype, sr, ln, kd, nm, mt, co, wi, cp, pa, pn, ru, pl, sv, be, mx, bx, bo, ex, ey, fx, fy, tx, ty, yo) x1.toInt64 y1.toInt64 x2.toInt64 y2.toInt64 (nI (ma_px p)).toInt64 (nI (ma_py p)).toInt64 := by
  rcases ma_ycase h1 h2 h3 h4 hp _ _ rfl rfl with ⟨⟨a, b⟩, ⟨c, e⟩ | ⟨c, e⟩⟩ | ⟨n, ⟨a, b⟩, ⟨c, e⟩ | ⟨c, e⟩⟩ | ⟨n, n', e⟩
  · rw [e, ma_o1] at H
    have dn : wY_counts_72 post x1.toInt64 y1.toInt64 x2.toInt64 y2.toInt64 (nI (ma_px p)).toInt64 (nI (ma_py p)).toInt64 1 yrc ysh yle yla yde ypa yed yoc yun yfa ywh ype sr ln kd nm mt co wi cp pa pn ru pl sv be mx bx bo ex ey fx fy tx ty yo := nm_e (nm_e (br_f (by decide) (br_f (ma_ltL c) H)))
    exact br_f (ma_ltL a) (br_f (ma_ltL b) (br_c (fun _ => br_f (by decide) dn) (fun _ => br_c (fun _ => br_f (by decide) dn) (fun _ => br_f (by decide) dn))))
  · rw [e, ma_o0] at H
    have dn : wY_counts_72 post x1.toInt64 y1.toInt64 x2.toInt64 y2.toInt64 (nI (ma_px p)).toInt64 (nI (ma_py p)).toInt64 1 yrc ysh yle yla yde ypa yed yoc yun yfa ywh ype sr ln kd nm mt co wi cp pa pn ru pl sv be mx bx bo ex ey fx fy tx ty yo := nm_e (nm_e (br_f (by decide) (br_t (ma_nltL c) H)))
    exact br_f (ma_ltL a) (br_f (ma_ltL b) (br_c (fun _ => br_f (by decide) dn) (fun _ => br_c (fun _ => br_f (by decide) dn) (fun _ => br_f (by decide) dn))))
  · rw [e, ma_om] at H
    have dn : wY_counts_28 post x1.toInt64 y1.toInt64 x2.toInt64 y2.toInt64 (nI (ma_px p)).toInt64 (nI (ma_py p)).toInt64 0 yrc ysh yle yla yde ypa yed yoc yun yfa ywh ype sr ln kd nm mt co wi cp pa pn ru pl sv be mx bx bo ex ey fx fy tx ty yo := br_f (ma_ltL a) (br_f (ma_ltL b) (br_t rfl (br_f (by decide) (nm_e (nm_e (br_t rfl (br_f (ma_ltL c) H)))))))
    exact br_c (fun _ => dn) (fun u => br_c (fun _ => dn) (fun w => absurd ⟨Int64.not_le.mp u, Int64.not_le.mp w⟩ n))
  · rw [e, ma_o0] at H
    have dn : wY_counts_28 post x1.toInt64 y1.toInt64 x2.toInt64 y2.toInt64 (nI (ma_px p)).toInt64 (nI (ma_py p)).toInt64 0 yrc ysh yle yla yde ypa yed yoc yun yfa ywh ype sr ln kd nm mt co wi cp pa pn ru pl sv be mx bx bo ex ey fx fy tx ty yo := br_f (ma_ltL a) (br_f (ma_ltL b) (br_t rfl (br_f (by decide) (nm_e (nm_e (br_t rfl (br_t (ma_nltL c) H)))))))
    exact br_c (fun _ => dn) (fun u => br_c (fun _ => dn) (fun w => absurd ⟨Int64.not_le.mp u, Int64.not_le.mp w⟩ n))
  · rw [e, ma_o0] at H
    have d0 : wY_counts_57 post x1.toInt64 y1.toInt64 x2.toInt64 y2.toInt64 (nI (ma_px p)).toInt64 (nI (ma_py p)).toInt64 0 yrc ysh yle yla yde ypa yed yoc yun yfa ywh ype sr ln kd nm mt co wi cp pa pn ru pl sv be mx bx bo ex ey fx fy tx ty yo := br_t rfl (br_t rfl H)
    have dn : wY_counts_28 post x1.toInt64 y1.toInt64 x2.toInt64 y2.toInt64 (nI (ma_px p)).toInt64 (nI (ma_py p)).toInt64 0 yrc ysh yle yla yde ypa yed yoc yun yfa ywh ype sr ln kd nm mt co wi cp pa pn ru pl sv be mx bx bo ex ey fx fy tx ty yo := br_c (fun _ => d0) (fun u => br_c (fun _ => d0) (fun w => absurd ⟨Int64.not_le.mp u, Int64.not_le.mp w⟩ n'))
    exact br_c (fun _ => dn) (fun u => br_c (fun _ => dn) (fun w => absurd ⟨Int64.not_le.mp u, Int64.not_le.mp w⟩ n))
/-- the sums of the reference after e edges, after e edges and j parts -/
def rr_s1 (fx fy tx ty : Nat → Int32) (p e : Nat) : Int := ma_sum (fun k => ma_cp (fx k) (fy k) (tx k) (ty k) p) e
def rr_m1 (fx fy tx ty : Nat → Int32) (p e : Nat) : Int := ma_sum (fun k => ma_cp (fx k) (fy k) (tx k) (ty k) p * ma_cp (fx k) (fy k) (tx k) (ty k) p) e
theorem rr_s1s (fx fy tx ty : Nat → Int32) (p e : Nat) : Int32.ofInt (rr_s1 fx fy tx ty p e) + Int32.ofInt (ma_cp (fx e) (fy e) (tx e) (ty e) p) = Int32.ofInt (rr_s1 fx fy tx ty p (e + 1)) := (Int32.ofInt_add _ _).symm
theorem rr_m1s (fx fy tx ty : Nat → Int32) (p e : Nat) : Int32.ofInt (rr_m1 fx fy tx ty p e) + Int32.ofInt (ma_cp (fx e) (fy e) (tx e) (ty e) p) * Int32.ofInt (ma_cp (fx e) (fy e) (tx e) (ty e) p) = Int32.ofInt (rr_m1 fx fy tx ty p (e + 1)) := by
  rw [← Int32.ofInt_mul, ← Int32.ofInt_add]
  rfl
theorem yw_in2 {post : Int32 → Prop} {o : Int32} {P p : Nat} {s m : Int} (hP : P ≤ 25) (hp : p < 192) (hq : ma_q4 P bx bo ex ey)
    (hs : -100 ≤ s + rr_s1 ex ey bx bo p P ∧ s + rr_s1 ex ey bx bo p P ≤ 100) (hm : 0 ≤ m + rr_m1 ex ey bx bo p P ∧ m + rr_m1 ex ey bx bo p P ≤ 100) (he : (s + rr_s1 ex ey bx bo p P) % 2 = (m + rr_m1 ex ey bx bo p P) % 2)
    (H : post (ma_ins o (s + rr_s1 ex ey bx bo p P))) :
    ∀ d j, j + d = P → wY_inside_108 post o (nI (ma_px p)).toInt64 (nI (ma_py p)).toInt64 yrc ysh yle yla yde (nI P) yed yoc yun yfa ywh ype sr ln kd nm mt co wi cp pa pn ru pl sv be mx bx bo ex ey fx fy tx ty yo (d + 1) (Int32.ofInt (s + rr_s1 ex ey bx bo p j)) (Int32.ofInt (m + rr_m1 ex ey bx bo p j)) (nI j) := by
  intro d
  induction d with
  | zero =>
    intro j hj
    have e : j = P := by omega
    rw [e]
    refine pk_le P P (fun _ => ?_) (fun h => absurd h (by omega))
    by_cases ho : o = 0
    · refine br_t ho ?_
      by_cases hz : s + rr_s1 ex ey bx bo p P = 0
      · unfold ma_ins at H
        rw [if_pos ho, if_pos hz] at H
        exact br_t ((ma_of0 hs.1 hs.2).mpr hz) H
      · unfold ma_ins at H
        rw [if_pos ho, if_neg hz] at H
        exact br_f (fun z => hz ((ma_of0 hs.1 hs.2).mp z)) H
    · refine br_f ho ⟨by decide, ?_⟩
      generalize hM : m + rr_m1 ex ey bx bo p P = M at hm he
      obtain ⟨w, rfl⟩ : ∃ w : Nat, M = (w : Int) := ⟨M.toNat, by omega⟩
      have e1 : Int32.ofInt (w : Int) = nI w := rfl
      have e2 : nI w - nI w / 2 * 2 = nI (w % 2) := pk_rem (a := w) (d := 2) (by omega) (by decide) (by decide)
      rw [e1, e2]
      by_cases hz : (s + rr_s1 ex ey bx bo p P) % 2 = 0
      · unfold ma_ins at H
        rw [if_neg ho, if_pos hz] at H
        exact pk_eq (w % 2) 1 (fun z => absurd z (by omega)) (fun _ => H)
      · unfold ma_ins at H
        rw [if_neg ho, if_neg hz] at H
        exact pk_eq (w % 2) 1 (fun _ => H) (fun z => absurd z (by omega))
  | succ d ih =>
    intro j hj
    have h := ih (j + 1) (by omega)
    have hin : vp_in (nI j) 30 := pk_in j 30 (by omega)
    have ec : (nI j).toNatClampNeg = j := pk_cl j
    obtain ⟨q1, q2, q3, q4⟩ := hq j (by omega)
    refine pk_le P j (fun h => absurd h (by omega)) (fun _ => ⟨hin, hin, hin, hin, ?_⟩)
    rw [ec]
    refine yp_ct q3 q4 q1 q2 hp (nm_r ?_ (nm_r ?_ (nm_r (nI_1 j) h)))
    · rw [Int32.ofInt_add, Int32.ofInt_add, Int32.add_assoc, rr_s1s]
    · rw [Int32.ofInt_add, Int32.ofInt_add, Int32.add_assoc, rr_m1s]
theorem yw_in1 {post : Int32 → Prop} {o : Int32} {E p : Nat} (hE : E ≤ 24) (hp : p < 192) (hq : ma_q4 E fx fy tx ty)
    (H : ∃ n, wY_inside_108 post o (nI (ma_px p)).toInt64 (nI (ma_py p)).toInt64 yrc ysh yle yla yde ypa (nI E) yoc yun yfa ywh ype sr ln kd nm mt co wi cp pa pn ru pl sv be mx bx bo ex ey fx fy tx ty yo n (Int32.ofInt (rr_s1 fx fy tx ty p E)) (Int32.ofInt (rr_m1 fx fy tx ty p E)) 0) :
    ∀ d j, j + d = E → wY_inside_32 post o (nI (ma_px p)).toInt64 (nI (ma_py p)).toInt64 yrc ysh yle yla yde ypa (nI E) yoc yun yfa ywh ype sr ln kd nm mt co wi cp pa pn ru pl sv be mx bx bo ex ey fx fy tx ty yo (d + 1) (Int32.ofInt (rr_s1 fx fy tx ty p j)) (Int32.ofInt (rr_m1 fx fy tx ty p j)) (nI j) := by
  intro d
  induction d with
  | zero =>
    intro j hj
    have e : j = E := by omega
    rw [e]
    exact pk_le E E (fun _ => H) (fun h => absurd h (by omega))
  | succ d ih =>
    intro j hj
    have h := ih (j + 1) (by omega)
    have hin : vp_in (nI j) 24 := pk_in j 24 (by omega)
    have ec : (nI j).toNatClampNeg = j := pk_cl j
    obtain ⟨q1, q2, q3, q4⟩ := hq j (by omega)
    refine pk_le E j (fun h => absurd h (by omega)) (fun _ => ⟨hin, hin, hin, hin, ?_⟩)
    rw [ec]
    exact yp_ct q1 q2 q3 q4 hp (nm_r (rr_s1s _ _ _ _ _ _) (nm_r (rr_m1s _ _ _ _ _ _) (nm_r (nI_1 j) h)))
theorem yp_in {post : Int32 → Prop} {o : Int32} {E P p : Nat} (hE : E ≤ 24) (hP : P ≤ 25) (hp : p < 192) (hq : ma_q4 E fx fy tx ty) (hq' : ma_q4 P bx bo ex ey) (H : post (ma_ins o (ma_S E P fx fy tx ty bx bo ex ey p))) : wpY_inside post (yrc, ysh, yle, yla, yde, nI P, nI E, yoc, yun, yfa, ywh, ype, sr, ln, kd, nm, mt, co, wi, cp, pa, pn, ru, pl, sv, be, mx, bx, bo, ex, ey, fx, fy, tx, ty, yo) (nI p) o := by
  have hs := ma_SM E P fx fy tx ty bx bo ex ey p
  have e0 : ma_S E P fx fy tx ty bx bo ex ey p = rr_s1 fx fy tx ty p E + rr_s1 ex ey bx bo p P := rfl
  have e1 : ma_M E P fx fy tx ty bx bo ex ey p = rr_m1 fx fy tx ty p E + rr_m1 ex ey bx bo p P := rfl
  rw [e0] at H
  rw [e0, e1] at hs
  have h : wY_inside_108 post o (nI (ma_px p)).toInt64 (nI (ma_py p)).toInt64 yrc ysh yle yla yde (nI P) (nI E) yoc yun yfa ywh ype sr ln kd nm mt co wi cp pa pn ru pl sv be mx bx bo ex ey fx fy tx ty yo (P + 1) (Int32.ofInt (rr_s1 fx fy tx ty p E + rr_s1 ex ey bx bo p 0)) (Int32.ofInt (rr_m1 fx fy tx ty p E + rr_m1 ex ey bx bo p 0)) (nI 0) := yw_in2 hP hp hq' ⟨by omega, by omega⟩ ⟨by omega, by omega⟩ (by omega) H P 0 (by omega)
  have z1 : rr_s1 fx fy tx ty p E + rr_s1 ex ey bx bo p 0 = rr_s1 fx fy tx ty p E := Int.add_zero _
  have z2 : rr_m1 fx fy tx ty p E + rr_m1 ex ey bx bo p 0 = rr_m1 fx fy tx ty p E := Int.add_zero _
  rw [z1, z2] at h
  have h' := yw_in1 hE hp hq ⟨_, h⟩ E 0 (by omega)
  exact ⟨by decide, nm_r (by rw [ma_xpx hp]) ⟨by decide, nm_r (by rw [ma_xpy hp]) ⟨_, h'⟩⟩⟩
/-! touches, drawn -/
theorem yp_to {post : Int32 → Prop} {e p : Nat} {w : Int32} (he : e < 24) (H : post (ma_np (fx e) (fy e) (tx e) (ty e) w p)) : wpY_touches post (yrc, ysh, yle, yla, yde, ypa, yed, yoc, yun, yfa, ywh, ype, sr, ln, kd, nm, mt, co, wi, cp, pa, pn, ru, pl, sv, be, mx, bx, bo, ex, ey, fx, fy, tx, ty, yo) (nI e) (nI (ma_px p)).toInt64 (nI (ma_py p)).toInt64 w.toInt64 := by
  have hin : vp_in (nI e) 24 := pk_in e 24 he
  have ec : (nI e).toNatClampNeg = e := pk_cl e
  exact ⟨hin, nm_r (by rw [ec]) ⟨hin, nm_r (by rw [ec]) ⟨hin, nm_r (by rw [ec]) ⟨hin, nm_r (by rw [ec]) (nm_e (nm_e (nm_e (nm_e (ma_nrz post rfl H)))))⟩⟩⟩⟩
theorem yw_dr {post : Int32 → Prop} {E V p : Nat} (hE : E ≤ 24) (hV : V ≤ 6) (hp : p < 192) (H : post (rr_cn fx fy tx ty (wi V) E p)) :
    ∀ d k, k + d = E → wY_drawn_4 post (nI p) yrc ysh (nI V) yla yde ypa (nI E) yoc yun yfa ywh ype sr ln kd nm mt co wi cp pa pn ru pl sv be mx bx bo ex ey fx fy tx ty yo (d + 1) (rr_cn fx fy tx ty (wi V) k p) (nI k) := by
  intro d
  induction d with
  | zero =>
    intro k hk
    have e : k = E := by omega
    rw [e]
    refine pk_le E E (fun _ => ⟨?_, H⟩) (fun h => absurd h (by omega))
    rcases ma_any01 (fun e => ma_np (fx e) (fy e) (tx e) (ty e) (wi V) p) E with e | e
    · rw [show rr_cn fx fy tx ty (wi V) E p = 0 from e]
      rfl
    · rw [show rr_cn fx fy tx ty (wi V) E p = 1 from e]
      rfl
  | succ d ih =>
    intro k hk
    have h := ih (k + 1) (by omega)
    have ecV : (nI V).toNatClampNeg = V := pk_cl V
    have es : rr_cn fx fy tx ty (wi V) (k + 1) p = if ma_np (fx k) (fy k) (tx k) (ty k) (wi V) p = 1 then 1 else rr_cn fx fy tx ty (wi V) k p := rfl
    refine pk_le E k (fun h => absurd h (by omega)) (fun _ => ⟨by decide, by decide, pk_in V 7 (by omega), ?_⟩)
    rw [ma_xpx hp, ma_xpy hp, ecV]
    refine yp_to (by omega) ?_
    rcases ma_any01 (fun e => ma_np (fx e) (fy e) (tx e) (ty e) (wi V) p) k with a | a
    · have a' : rr_cn fx fy tx ty (wi V) k p = 0 := a
      rcases ma_np01 (fx k) (fy k) (tx k) (ty k) (wi V) p with b | b
      · rw [es, b, if_neg (by decide), a'] at h
        exact br_t a' (br_t b (nm_r (nI_1 k) h))
      · rw [es, b, if_pos rfl] at h
        exact br_t a' (br_f (by rw [b]; decide) (nm_r (nI_1 k) h))
    · have a' : rr_cn fx fy tx ty (wi V) k p = 1 := a
      have e1 : rr_cn fx fy tx ty (wi V) (k + 1) p = 1 := by
        rw [es, a']
        split <;> rfl
      rw [e1] at h
      exact br_f (by rw [a']; decide) (nm_r (nI_1 k) h)
theorem yp_dr {post : Int32 → Prop} {E V p : Nat} (hE : E ≤ 24) (hV : V ≤ 6) (hp : p < 192) (H : post (rr_cn fx fy tx ty (wi V) E p)) : wpY_drawn post (yrc, ysh, nI V, yla, yde, ypa, nI E, yoc, yun, yfa, ywh, ype, sr, ln, kd, nm, mt, co, wi, cp, pa, pn, ru, pl, sv, be, mx, bx, bo, ex, ey, fx, fy, tx, ty, yo) (nI p) := ⟨_, yw_dr hE hV hp H E 0 (by omega)⟩
end
section
variable {xds xrc xde xoc xun xfp xsc xtl xec xpb xpf xsx xsy xcx xcy yrc ysh yle yla yde ypa yed yoc yun yfa ywh ype : Int32} {dk dv sr rs rk rv ct ru pl be mx xo st cp pa pn fx fy tx ty fi cr cv ln kd nm mt co wi sv bx bo ex ey yo : Nat → Int32}
/-! fill, cut -/
theorem yw_f39 {post : SY → Prop} {J : Int32 → (Nat → Int32) → (Nat → Int32) → (Nat → Int32) → (Nat → Int32) → (Nat → Int32) → (Nat → Int32) → (Nat → Int32) → (Nat → Int32) → (Nat → Int32) → (Nat → Int32) → (Nat → Int32) → (Nat → Int32) → (Nat → Int32) → (Nat → Int32) → (Nat → Int32) → (Nat → Int32) → (Nat → Int32) → (Nat → Int32) → (Nat → Int32) → (Nat → Int32) → (Nat → Int32) → (Nat → Int32) → (Nat → Int32) → (Nat → Int32) → Prop} {k m z : Int32} {V L i : Nat} (hV : V ≤ 6) (hL : L ≤ 6) (hi : i < 192) (cz : Nat → Int32) (hz : cz i = z) (pb pc : Nat → Int32)
    (h : J (nI (i + 1)) sr ln kd nm mt co wi cp (ma_w pb (rr_gf pb cz cp (co V) (192 * V) (192 * L)) (192 * L) (i + 1)) (ma_w pc (rr_gf pc cz cp m (192 * V) (192 * L)) (192 * L) (i + 1)) ru pl sv be mx bx bo ex ey fx fy tx ty yo) :
    wY_fill_39 post J k m (nI i) z yrc ysh (nI V) (nI L) yde ypa yed yoc yun yfa ywh ype sr ln kd nm mt co wi cp (ma_w pb (rr_gf pb cz cp (co V) (192 * V) (192 * L)) (192 * L) i) (ma_w pc (rr_gf pc cz cp m (192 * V) (192 * L)) (192 * L) i) ru pl sv be mx bx bo ex ey fx fy tx ty yo := by
  have eV : (192 : Int32) * nI V + nI i = nI (192 * V + i) := by
    rw [show (192 : Int32) * nI V = nI (192 * V) from mb_mr 192 V, nI_add]
  have eL : (192 : Int32) * nI L + nI i = nI (192 * L + i) := by
    rw [show (192 : Int32) * nI L = nI (192 * L) from mb_mr 192 L, nI_add]
  have hinV : vp_in ((192 : Int32) * nI V + nI i) 1344 := pk_in (192 * V + i) 1344 (by omega) eV
  have ecV : ((192 : Int32) * nI V + nI i).toNatClampNeg = 192 * V + i := pk_cl (192 * V + i) eV
  have hinL : vp_in ((192 : Int32) * nI L + nI i) 1344 := pk_in (192 * L + i) 1344 (by omega) eL
  have ecL : ((192 : Int32) * nI L + nI i).toNatClampNeg = 192 * L + i := pk_cl (192 * L + i) eL
  have ecv : (nI V).toNatClampNeg = V := pk_cl V
  by_cases a : z = 0
  · have a' : cz i = 0 := hz.trans a
    have e1 : ma_w pb (rr_gf pb cz cp (co V) (192 * V) (192 * L)) (192 * L) i = ma_w pb (rr_gf pb cz cp (co V) (192 * V) (192 * L)) (192 * L) (i + 1) := ma_wk (if_pos a')
    have e2 : ma_w pc (rr_gf pc cz cp m (192 * V) (192 * L)) (192 * L) i = ma_w pc (rr_gf pc cz cp m (192 * V) (192 * L)) (192 * L) (i + 1) := ma_wk (if_pos a')
    rw [← e1, ← e2] at h
    exact br_t a (nm_r (nI_1 i) h)
  · have a' : ¬ cz i = 0 := fun q => a (hz.symm.trans q)
    refine br_f a ⟨hinV, ?_⟩
    by_cases y : cp (192 * V + i) = 0
    · have e1 : ma_w pb (rr_gf pb cz cp (co V) (192 * V) (192 * L)) (192 * L) i = ma_w pb (rr_gf pb cz cp (co V) (192 * V) (192 * L)) (192 * L) (i + 1) := ma_wk (by unfold rr_gf; rw [if_neg a', if_pos y])
      have e2 : ma_w pc (rr_gf pc cz cp m (192 * V) (192 * L)) (192 * L) i = ma_w pc (rr_gf pc cz cp m (192 * V) (192 * L)) (192 * L) (i + 1) := ma_wk (by unfold rr_gf; rw [if_neg a', if_pos y])
      rw [← e1, ← e2] at h
      exact br_t (by rw [ecV]; exact y) (nm_r (nI_1 i) h)
    · have e1 : rr_gf pb cz cp (co V) (192 * V) (192 * L) i = co V := by
        unfold rr_gf
        rw [if_neg a', if_neg y]
      have e2 : rr_gf pc cz cp m (192 * V) (192 * L) i = m := by
        unfold rr_gf
        rw [if_neg a', if_neg y]
      exact br_f (by rw [ecV]; exact y) ⟨pk_in V 7 (by omega), hinL, nm_r (by rw [ecL, ecv, ← ma_ws, e1]) ⟨hinL, nm_r (by rw [ecL, ← ma_ws, e2]) (nm_r (nI_1 i) h)⟩⟩
/-- what the reference finds at a pixel, by the operator -/
def rr_hit (k : Int32) (E P : Nat) (fx fy tx ty bx bo ex ey : Nat → Int32) (w : Int32) (t : Nat) : Int32 := if k = 15 then rr_cn fx fy tx ty w E t else ma_ins (if k = 6 then 1 else 0) (ma_S E P fx fy tx ty bx bo ex ey t)
theorem yw_fi {post : SY → Prop} {k m : Int32} {V L E P : Nat} (hV : V ≤ 6) (hL : L ≤ 6) (hE : E ≤ 24) (hP : P ≤ 25) (hq : ma_q4 E fx fy tx ty) (hq' : ma_q4 P bx bo ex ey) (cz : Nat → Int32) (hz : cz = rr_hit k E P fx fy tx ty bx bo ex ey (wi V))
    (H : post (yrc, ysh, nI V, nI L, yde, nI P, nI E, yoc, yun, yfa, ywh, ype, sr, ln, kd, nm, mt, co, wi, cp, ma_w pa (rr_gf pa cz cp (co V) (192 * V) (192 * L)) (192 * L) 192, ma_w pn (rr_gf pn cz cp m (192 * V) (192 * L)) (192 * L) 192, ru, pl, sv, be, mx, bx, bo, ex, ey, fx, fy, tx, ty, yo)) :
    ∀ d i, i + d = 192 → wY_fill_2 post k m yrc ysh (nI V) (nI L) yde (nI P) (nI E) yoc yun yfa ywh ype (d + 1) (nI i) sr ln kd nm mt co wi cp (ma_w pa (rr_gf pa cz cp (co V) (192 * V) (192 * L)) (192 * L) i) (ma_w pn (rr_gf pn cz cp m (192 * V) (192 * L)) (192 * L) i) ru pl sv be mx bx bo ex ey fx fy tx ty yo := by
  intro d
  induction d with
  | zero =>
    intro i hi
    have e : i = 192 := by omega
    rw [e]
    exact pk_le 192 192 (fun _ => H) (fun h => absurd h (by omega))
  | succ d ih =>
    intro i hi
    have h := ih (i + 1) (by omega)
    have hi' : i < 192 := by omega
    refine pk_le 192 i (fun h => absurd h (by omega)) (fun _ => ?_)
    by_cases k15 : k = 15
    · refine br_t k15 (yp_dr hE hV hi' (yw_f39 hV hL hi' cz ?_ pa pn h))
      rw [hz]
      exact if_pos k15
    · by_cases k6 : k = 6
      · refine br_f k15 (br_t k6 ?_)
        unfold wY_fill_36
        refine yp_in hE hP hi' hq hq' (yw_f39 hV hL hi' cz ?_ pa pn h)
        rw [hz]
        unfold rr_hit
        rw [if_neg k15, if_pos k6]
      · refine br_f k15 (br_f k6 ?_)
        unfold wY_fill_36
        refine yp_in hE hP hi' hq hq' (yw_f39 hV hL hi' cz ?_ pa pn h)
        rw [hz]
        unfold rr_hit
        rw [if_neg k15, if_neg k6]
theorem yp_fi {post : SY → Prop} {k m : Int32} {V L E P : Nat} (hV : V ≤ 6) (hL : L ≤ 6) (hE : E ≤ 24) (hP : P ≤ 25) (hq : ma_q4 E fx fy tx ty) (hq' : ma_q4 P bx bo ex ey)
    (H : post (yrc, ysh, nI V, nI L, yde, nI P, nI E, yoc, yun, yfa, ywh, ype, sr, ln, kd, nm, mt, co, wi, cp, ma_w pa (rr_gf pa (rr_hit k E P fx fy tx ty bx bo ex ey (wi V)) cp (co V) (192 * V) (192 * L)) (192 * L) 192, ma_w pn (rr_gf pn (rr_hit k E P fx fy tx ty bx bo ex ey (wi V)) cp m (192 * V) (192 * L)) (192 * L) 192, ru, pl, sv, be, mx, bx, bo, ex, ey, fx, fy, tx, ty, yo)) :
    wpY_fill post (yrc, ysh, nI V, nI L, yde, nI P, nI E, yoc, yun, yfa, ywh, ype, sr, ln, kd, nm, mt, co, wi, cp, pa, pn, ru, pl, sv, be, mx, bx, bo, ex, ey, fx, fy, tx, ty, yo) k m := by
  have h := yw_fi hV hL hE hP hq hq' _ rfl H 192 0 rfl
  rw [ma_w0, ma_w0] at h
  exact ⟨_, h⟩
theorem yw_cu {post : SY → Prop} {k o : Int32} {V E P : Nat} (hV : V ≤ 6) (hE : E ≤ 24) (hP : P ≤ 25) (hq : ma_q4 E fx fy tx ty) (hq' : ma_q4 P bx bo ex ey) (ho : o = if k = 8 then 1 else 0)
    (H : post (yrc, ysh, nI V, yla, yde, nI P, nI E, yoc, yun, yfa, ywh, ype, sr, ln, kd, nm, mt, co, wi, ma_w cp (rr_gk cp (fun t => ma_ins o (ma_S E P fx fy tx ty bx bo ex ey t)) (192 * V)) (192 * V) 192, pa, pn, ru, pl, sv, be, mx, bx, bo, ex, ey, fx, fy, tx, ty, yo)) :
    ∀ d i, i + d = 192 → wY_cut_2 post k yrc ysh (nI V) yla yde (nI P) (nI E) yoc yun yfa ywh ype (d + 1) (nI i) sr ln kd nm mt co wi (ma_w cp (rr_gk cp (fun t => ma_ins o (ma_S E P fx fy tx ty bx bo ex ey t)) (192 * V)) (192 * V) i) pa pn ru pl sv be mx bx bo ex ey fx fy tx ty yo := by
  intro d
  induction d with
  | zero =>
    intro i hi
    have e : i = 192 := by omega
    rw [e]
    exact pk_le 192 192 (fun _ => H) (fun h => absurd h (by omega))
  | succ d ih =>
    intro i hi
    have h := ih (i + 1) (by omega)
    have hi' : i < 192 := by omega
    have eV : (192 : Int32) * nI V + nI i = nI (192 * V + i) := by
      rw [show (192 : Int32) * nI V = nI (192 * V) from mb_mr 192 V, nI_add]
    have hinV : vp_in ((192 : Int32) * nI V + nI i) 1344 := pk_in (192 * V + i) 1344 (by omega) eV
    have ecV : ((192 : Int32) * nI V + nI i).toNatClampNeg = 192 * V + i := pk_cl (192 * V + i) eV
    have er : ma_w cp (rr_gk cp (fun t => ma_ins o (ma_S E P fx fy tx ty bx bo ex ey t)) (192 * V)) (192 * V) i ((192 : Int32) * nI V + nI i).toNatClampNeg = cp (192 * V + i) := by
      rw [ecV]
      exact ma_wr (by omega)
    have key : wY_cut_22 post (wY_cut_2 post k yrc ysh (nI V) yla yde (nI P) (nI E) yoc yun yfa ywh ype (d + 1)) k (nI i) o (nI i) yrc ysh (nI V) yla yde (nI P) (nI E) yoc yun yfa ywh ype sr ln kd nm mt co wi (ma_w cp (rr_gk cp (fun t => ma_ins o (ma_S E P fx fy tx ty bx bo ex ey t)) (192 * V)) (192 * V) i) pa pn ru pl sv be mx bx bo ex ey fx fy tx ty yo := by
      unfold wY_cut_22
      refine yp_in hE hP hi' hq hq' ⟨hinV, ?_⟩
      by_cases z : cp (192 * V + i) = 0
      · have e1 : rr_gk cp (fun t => ma_ins o (ma_S E P fx fy tx ty bx bo ex ey t)) (192 * V) i = 0 := if_pos z
        exact br_t (by rw [er]; exact z) ⟨hinV, nm_r (by rw [ecV, ← ma_ws, e1, mb_vb0]) (nm_r (nI_1 i) h)⟩
      · refine br_f (by rw [er]; exact z) ?_
        by_cases y : ma_ins o (ma_S E P fx fy tx ty bx bo ex ey i) = 0
        · have e1 : rr_gk cp (fun t => ma_ins o (ma_S E P fx fy tx ty bx bo ex ey t)) (192 * V) i = 0 := by
            unfold rr_gk
            rw [if_neg z, if_pos y]
          exact br_t y ⟨hinV, nm_r (by rw [ecV, ← ma_ws, e1, mb_vb0]) (nm_r (nI_1 i) h)⟩
        · have e1 : rr_gk cp (fun t => ma_ins o (ma_S E P fx fy tx ty bx bo ex ey t)) (192 * V) i = 1 := by
            unfold rr_gk
            rw [if_neg z, if_neg y]
          exact br_f y ⟨hinV, nm_r (by rw [ecV, ← ma_ws, e1, mb_vb1]) (nm_r (nI_1 i) h)⟩
    refine pk_le 192 i (fun h => absurd h (by omega)) (fun _ => ?_)
    by_cases k8 : k = 8
    · rw [if_pos k8] at ho
      subst ho
      exact br_t k8 key
    · rw [if_neg k8] at ho
      subst ho
      exact br_f k8 key
theorem yp_cu {post : SY → Prop} {k : Int32} {V E P : Nat} (hV : V ≤ 6) (hE : E ≤ 24) (hP : P ≤ 25) (hq : ma_q4 E fx fy tx ty) (hq' : ma_q4 P bx bo ex ey)
    (H : post (yrc, ysh, nI V, yla, yde, nI P, nI E, yoc, yun, yfa, ywh, ype, sr, ln, kd, nm, mt, co, wi, ma_w cp (rr_gk cp (fun t => ma_ins (if k = 8 then 1 else 0) (ma_S E P fx fy tx ty bx bo ex ey t)) (192 * V)) (192 * V) 192, pa, pn, ru, pl, sv, be, mx, bx, bo, ex, ey, fx, fy, tx, ty, yo)) : wpY_cut post (yrc, ysh, nI V, yla, yde, nI P, nI E, yoc, yun, yfa, ywh, ype, sr, ln, kd, nm, mt, co, wi, cp, pa, pn, ru, pl, sv, be, mx, bx, bo, ex, ey, fx, fy, tx, ty, yo) k := by
  have h := yw_cu hV hE hP hq hq' rfl H 192 0 rfl
  rw [ma_w0] at h
  exact ⟨_, h⟩
/-! keep, mix, close -/
theorem yw_ke2 {post : SY → Prop} {V : Nat} (hV : V < 6) (hp : post (yrc, ysh, nI (V + 1), yla, yde, ypa, yed, yoc, yun, yfa, ywh, ype, sr, ln, kd, nm, mt, co, wi, ma_w cp (rr_gs cp (192 * V)) (192 * V + 192) 192, pa, pn, ru, pl, sv, be, mx, bx, bo, ex, ey, fx, fy, tx, ty, yo)) :
    ∀ d i, i + d = 192 → wY_keep_87 post yrc ysh (nI V) yla yde ypa yed yoc yun yfa ywh ype (d + 1) (nI i) sr ln kd nm mt co wi (ma_w cp (rr_gs cp (192 * V)) (192 * V + 192) i) pa pn ru pl sv be mx bx bo ex ey fx fy tx ty yo := by
  intro d
  induction d with
  | zero =>
    intro i hi
    have e : i = 192 := by omega
    rw [e]
    exact pk_le 192 192 (fun _ => nm_r (nI_1 V) hp) (fun h => absurd h (by omega))
  | succ d ih =>
    intro i hi
    have h := ih (i + 1) (by omega)
    have e0 : (192 : Int32) * nI V = nI (192 * V) := mb_mr 192 V
    have e1 : (192 : Int32) * nI V + nI i = nI (192 * V + i) := by
      rw [e0, nI_add]
    have h1 : vp_in ((192 : Int32) * nI V + nI i) 1344 := pk_in (192 * V + i) 1344 (by omega) e1
    have c1 : ((192 : Int32) * nI V + nI i).toNatClampNeg = 192 * V + i := pk_cl (192 * V + i) e1
    have e2 : (192 : Int32) * nI V + 192 + nI i = nI (192 * V + 192 + i) := by
      rw [e0, show nI (192 * V) + 192 = nI (192 * V + 192) from nI_add (192 * V) 192, nI_add]
    have h2 : vp_in ((192 : Int32) * nI V + 192 + nI i) 1344 := pk_in (192 * V + 192 + i) 1344 (by omega) e2
    have c2 : ((192 : Int32) * nI V + 192 + nI i).toNatClampNeg = 192 * V + 192 + i := pk_cl (192 * V + 192 + i) e2
    exact pk_le 192 i (fun h => absurd h (by omega)) (fun _ => ⟨h1, h2, nm_r (by rw [c2, c1, ma_wr (by omega)]; exact ma_ws cp (rr_gs cp (192 * V)) (192 * V + 192) i) (nm_r (nI_1 i) h)⟩)
theorem yw_ke1 {post : SY → Prop} {V : Nat} (hV : V < 6) (hp : ∃ n, wY_keep_87 post yrc ysh (nI V) yla yde ypa yed yoc yun yfa ywh ype n 0 sr ln kd nm (ma_w mt (fun n => mt (6 * V + n)) (6 * V + 6) 6) (upd co (V + 1) (co V)) (upd wi (V + 1) (wi V)) cp pa pn ru pl sv be mx bx bo ex ey fx fy tx ty yo) :
    ∀ d i, i + d = 6 → wY_keep_2 post yrc ysh (nI V) yla yde ypa yed yoc yun yfa ywh ype (d + 1) (nI i) sr ln kd nm (ma_w mt (fun n => mt (6 * V + n)) (6 * V + 6) i) co wi cp pa pn ru pl sv be mx bx bo ex ey fx fy tx ty yo := by
  intro d
  induction d with
  | zero =>
    intro i hi
    have e : i = 6 := by omega
    rw [e]
    have a1 : vp_in (nI V) 7 := pk_in V 7 (by omega)
    have a2 : vp_in (nI V + 1) 7 := pk_in (V + 1) 7 (by omega) (nI_1 V)
    have c1 : (nI V).toNatClampNeg = V := pk_cl V
    have c2 : (nI V + 1).toNatClampNeg = V + 1 := pk_cl (V + 1) (nI_1 V)
    exact pk_le 6 6 (fun _ => ⟨a1, a2, nm_r (by rw [c1, c2]) ⟨a1, a2, nm_r (by rw [c1, c2]) hp⟩⟩) (fun h => absurd h (by omega))
  | succ d ih =>
    intro i hi
    have h := ih (i + 1) (by omega)
    have e0 : (6 : Int32) * nI V = nI (6 * V) := mb_mr 6 V
    have e1 : (6 : Int32) * nI V + nI i = nI (6 * V + i) := by
      rw [e0, nI_add]
    have h1 : vp_in ((6 : Int32) * nI V + nI i) 42 := pk_in (6 * V + i) 42 (by omega) e1
    have c1 : ((6 : Int32) * nI V + nI i).toNatClampNeg = 6 * V + i := pk_cl (6 * V + i) e1
    have e2 : (6 : Int32) * nI V + 6 + nI i = nI (6 * V + 6 + i) := by
      rw [e0, show nI (6 * V) + 6 = nI (6 * V + 6) from nI_add (6 * V) 6, nI_add]
    have h2 : vp_in ((6 : Int32) * nI V + 6 + nI i) 42 := pk_in (6 * V + 6 + i) 42 (by omega) e2
    have c2 : ((6 : Int32) * nI V + 6 + nI i).toNatClampNeg = 6 * V + 6 + i := pk_cl (6 * V + 6 + i) e2
    exact pk_le 6 i (fun h => absurd h (by omega)) (fun _ => ⟨h1, h2, nm_r (by rw [c2, c1, ma_wr (by omega)]; exact ma_ws mt (fun n => mt (6 * V + n)) (6 * V + 6) i) (nm_r (nI_1 i) h)⟩)
theorem yp_ke {post : SY → Prop} {V : Nat} (hV : V < 6) (hp : post (yrc, ysh, nI (V + 1), yla, yde, ypa, yed, yoc, yun, yfa, ywh, ype, sr, ln, kd, nm, ma_w mt (fun n => mt (6 * V + n)) (6 * V + 6) 6, upd co (V + 1) (co V), upd wi (V + 1) (wi V), ma_w cp (rr_gs cp (192 * V)) (192 * V + 192) 192, pa, pn, ru, pl, sv, be, mx, bx, bo, ex, ey, fx, fy, tx, ty, yo)) : wpY_keep post (yrc, ysh, nI V, yla, yde, ypa, yed, yoc, yun, yfa, ywh, ype, sr, ln, kd, nm, mt, co, wi, cp, pa, pn, ru, pl, sv, be, mx, bx, bo, ex, ey, fx, fy, tx, ty, yo) := by
  have h := yw_ke2 hV hp 192 0 rfl
  rw [ma_w0] at h
  have h' := yw_ke1 hV ⟨_, h⟩ 6 0 rfl
  rw [ma_w0] at h'
  exact ⟨_, h'⟩
end
section
variable {xds xrc xde xoc xun xfp xsc xtl xec xpb xpf xsx xsy xcx xcy yrc ysh yle yla yde ypa yed yoc yun yfa ywh ype : Int32} {dk dv sr rs rk rv ct ru pl be mx xo st cp pa pn fx fy tx ty fi cr cv ln kd nm mt co wi sv bx bo ex ey yo : Nat → Int32}
/-! the path's methods, each side against the other -/
def rr_PS (r : Int32) (E P F : Nat) (xpb xpf xsx xsy xcx xcy ype : Int32) (fx fy tx ty fi bx bo ex ey : Nat → Int32) : Prop := r = 0 → ma_path E P F xpb xsx xsy xcx xcy fx fy tx ty fi bx bo ex ey ∧ (xpb = 1 → xpf = nI F ∧ ype = nI (E - F))
theorem sp_edge {E P F : Nat} {x y : Int32} (h : ma_path E P F xpb xsx xsy xcx xcy fx fy tx ty fi bx bo ex ey) (hb : xpb = 1 → xpf = nI F ∧ ype = nI (E - F)) (hx : ma_bd 4000 x) (hy : ma_bd 4000 y) :
    ∃ (r : Int32) (E' : Nat) (xcx' xcy' ype' : Int32) (fx' fy' tx' ty' fi' ex' ey' : Nat → Int32), rr_PS r E' P F xpb xpf xsx xsy xcx' xcy' ype' fx' fy' tx' ty' fi' bx bo ex' ey' ∧
      (∀ post : Int32 → SX → Prop, post r (xds, xrc, xde, xoc, xun, xfp, xsc, xtl, nI E', xpb, xpf, xsx, xsy, xcx', xcy', dk, dv, sr, rs, rk, rv, ct, ru, pl, be, mx, xo, st, cp, pa, pn, fx', fy', tx', ty', fi', cr, cv) → wpX_addEdge post (xds, xrc, xde, xoc, xun, xfp, xsc, xtl, nI E, xpb, xpf, xsx, xsy, xcx, xcy, dk, dv, sr, rs, rk, rv, ct, ru, pl, be, mx, xo, st, cp, pa, pn, fx, fy, tx, ty, fi, cr, cv) x y) ∧
      (∀ post : SY → Prop, post (yrc, ysh, yle, yla, yde, nI P, nI E', yoc, yun, r, ywh, ype', sr, ln, kd, nm, mt, co, wi, cp, pa, pn, ru, pl, sv, be, mx, bx, bo, ex', ey', fx', fy', tx', ty', yo) → wpY_edge post (yrc, ysh, yle, yla, yde, nI P, nI E, yoc, yun, 0, ywh, ype, sr, ln, kd, nm, mt, co, wi, cp, pa, pn, ru, pl, sv, be, mx, bx, bo, ex, ey, fx, fy, tx, ty, yo) x y) := by
  have hE := h.1
  rcases h.2.2.2.2.2 with ⟨b0, P0, E0⟩ | ⟨b1, p, hp, hpE, hFE, _, _, cc1, cc2, _⟩
  · exact ⟨4, E, xcx, xcy, ype, fx, fy, tx, ty, fi, ex, ey, fun z => absurd z (by decide), fun post H => br_t b0 H, fun post H => pk_eq P 0 (fun _ => H) (fun z => absurd P0 z)⟩
  · by_cases hE4 : E < 24
    · obtain ⟨f1, f2⟩ := hb b1
      have h' := ma_pedge h b1 hE4 hx hy p hp
      have c0 : (nI E).toNatClampNeg = E := pk_cl E
      have i0 : vp_in (nI E) 24 := pk_in E 24 hE4
      have e1 : nI P - 1 = nI p := by
        rw [hp]
        exact nI_pred p
      have c1 : (nI p).toNatClampNeg = p := pk_cl p
      have i1 : vp_in (nI p) 30 := pk_in p 30 (by omega)
      have e2 : ype + 1 = nI (E + 1 - F) := by
        rw [f2, nI_1]
        exact congrArg nI (by omega)
      refine ⟨0, E + 1, x, y, nI (E + 1 - F), upd fx E xcx, upd fy E xcy, upd tx E x, upd ty E y, upd fi E (nI F), upd ex p x, upd ey p y, fun _ => ⟨h', fun _ => ⟨f1, rfl⟩⟩, fun post H => ?_, fun post H => ?_⟩
      · exact br_f (by rw [b1]; decide) (pk_lt E 24 (fun _ => ⟨i0, nm_r (by rw [c0]) ⟨i0, nm_r (by rw [c0]) ⟨i0, nm_r (by rw [c0]) ⟨i0, nm_r (by rw [c0]) ⟨i0, nm_r (by rw [c0, f1]) (nm_r (nI_1 E) H)⟩⟩⟩⟩⟩) (fun z => absurd z (by omega)))
      · exact pk_eq P 0 (fun z => absurd z (by omega)) (fun _ => pk_eq E 24 (fun z => absurd z (by omega)) (fun _ => nm_r e1 ⟨i1, i0, nm_r (by rw [c0, c1, cc1]) ⟨i1, i0, nm_r (by rw [c0, c1, cc2]) ⟨i0, nm_r (by rw [c0]) ⟨i0, nm_r (by rw [c0]) (nm_r (nI_1 E) (nm_r e2 ⟨i1, nm_r (by rw [c1]) ⟨i1, nm_r (by rw [c1]) H⟩⟩))⟩⟩⟩⟩))
    · have e24 : E = 24 := by omega
      exact ⟨5, E, xcx, xcy, ype, fx, fy, tx, ty, fi, ex, ey, fun z => absurd z (by decide), fun post H => br_f (by rw [b1]; decide) (pk_lt E 24 (fun z => absurd z hE4) (fun _ => H)), fun post H => pk_eq P 0 (fun z => absurd z (by omega)) (fun _ => pk_eq E 24 (fun _ => H) (fun z => absurd e24 z))⟩
theorem sp_close {E P F : Nat} (h : ma_path E P F xpb xsx xsy xcx xcy fx fy tx ty fi bx bo ex ey) (hb : xpb = 1 → xpf = nI F ∧ ype = nI (E - F)) :
    ∃ (r : Int32) (E' : Nat) (xcx' xcy' ype' : Int32) (fx' fy' tx' ty' fi' ex' ey' : Nat → Int32), rr_PS r E' P F xpb xpf xsx xsy xcx' xcy' ype' fx' fy' tx' ty' fi' bx bo ex' ey' ∧
      (∀ post : Int32 → SX → Prop, post r (xds, xrc, xde, xoc, xun, xfp, xsc, xtl, nI E', xpb, xpf, xsx, xsy, xcx', xcy', dk, dv, sr, rs, rk, rv, ct, ru, pl, be, mx, xo, st, cp, pa, pn, fx', fy', tx', ty', fi', cr, cv) → wpX_addEdge post (xds, xrc, xde, xoc, xun, xfp, xsc, xtl, nI E, xpb, xpf, xsx, xsy, xcx, xcy, dk, dv, sr, rs, rk, rv, ct, ru, pl, be, mx, xo, st, cp, pa, pn, fx, fy, tx, ty, fi, cr, cv) xsx xsy) ∧
      (∀ post : SY → Prop, post (yrc, ysh, yle, yla, yde, nI P, nI E', yoc, yun, r, ywh, ype', sr, ln, kd, nm, mt, co, wi, cp, pa, pn, ru, pl, sv, be, mx, bx, bo, ex', ey', fx', fy', tx', ty', yo) → wpY_closePart post (yrc, ysh, yle, yla, yde, nI P, nI E, yoc, yun, 0, ywh, ype, sr, ln, kd, nm, mt, co, wi, cp, pa, pn, ru, pl, sv, be, mx, bx, bo, ex, ey, fx, fy, tx, ty, yo)) := by
  rcases h.2.2.2.2.2 with ⟨b0, P0, E0⟩ | ⟨b1, p, hp, hpE, hFE, s1, s2, _⟩
  · exact ⟨4, E, xcx, xcy, ype, fx, fy, tx, ty, fi, ex, ey, fun z => absurd z (by decide), fun post H => br_t b0 H, fun post H => pk_eq P 0 (fun _ => H) (fun z => absurd P0 z)⟩
  · have hq := h.2.2.2.1 p (by omega)
    have hE := h.1
    have e1 : nI P - 1 = nI p := by
      rw [hp]
      exact nI_pred p
    have c1 : (nI P - 1).toNatClampNeg = p := pk_cl p e1
    have i1 : vp_in (nI P - 1) 30 := pk_in p 30 (by omega) e1
    have kx : ma_bd 4000 xsx := by
      rw [s1]
      exact hq.1
    have ky : ma_bd 4000 xsy := by
      rw [s2]
      exact hq.2.1
    obtain ⟨r, E', xcx', xcy', ype', fx', fy', tx', ty', fi', ex', ey', hps, hX, hY⟩ := sp_edge h hb kx ky
    refine ⟨r, E', xcx', xcy', ype', fx', fy', tx', ty', fi', ex', ey', hps, hX, fun post H => pk_eq P 0 (fun z => absurd z (by omega)) (fun _ => ⟨i1, i1, ?_⟩)⟩
    rw [c1, ← s1, ← s2]
    exact hY _ H
def rr_mX (mt : Nat → Int32) (V : Nat) (x y : Int32) : Int32 := mt (6 * V) * x + mt (6 * V + 2) * y + mt (6 * V + 4)
def rr_mY (mt : Nat → Int32) (V : Nat) (x y : Int32) : Int32 := mt (6 * V + 1) * x + mt (6 * V + 3) * y + mt (6 * V + 5)
theorem yp_mx {post : Int32 → Prop} {V : Nat} {x y : Int32} (hV : V ≤ 6) (H : post (rr_mX mt V x y)) : wpY_mapX post (yrc, ysh, nI V, yla, yde, ypa, yed, yoc, yun, yfa, ywh, ype, sr, ln, kd, nm, mt, co, wi, cp, pa, pn, ru, pl, sv, be, mx, bx, bo, ex, ey, fx, fy, tx, ty, yo) x y := by
  have c0 : (nI (6 * V)).toNatClampNeg = 6 * V := pk_cl (6 * V)
  have c2 : (nI (6 * V) + 2).toNatClampNeg = 6 * V + 2 := pk_cl (6 * V + 2) (nI_add (6 * V) 2)
  have c4 : (nI (6 * V) + 4).toNatClampNeg = 6 * V + 4 := pk_cl (6 * V + 4) (nI_add (6 * V) 4)
  refine nm_r (mb_mr 6 V) ⟨pk_in (6 * V) 42 (by omega), pk_in (6 * V + 2) 42 (by omega) (nI_add (6 * V) 2), pk_in (6 * V + 4) 42 (by omega) (nI_add (6 * V) 4), ?_⟩
  rw [c0, c2, c4]
  exact H
theorem yp_my {post : Int32 → Prop} {V : Nat} {x y : Int32} (hV : V ≤ 6) (H : post (rr_mY mt V x y)) : wpY_mapY post (yrc, ysh, nI V, yla, yde, ypa, yed, yoc, yun, yfa, ywh, ype, sr, ln, kd, nm, mt, co, wi, cp, pa, pn, ru, pl, sv, be, mx, bx, bo, ex, ey, fx, fy, tx, ty, yo) x y := by
  have c1 : (nI (6 * V) + 1).toNatClampNeg = 6 * V + 1 := pk_cl (6 * V + 1) (nI_add (6 * V) 1)
  have c3 : (nI (6 * V) + 3).toNatClampNeg = 6 * V + 3 := pk_cl (6 * V + 3) (nI_add (6 * V) 3)
  have c5 : (nI (6 * V) + 5).toNatClampNeg = 6 * V + 5 := pk_cl (6 * V + 5) (nI_add (6 * V) 5)
  refine nm_r (mb_mr 6 V) ⟨pk_in (6 * V + 1) 42 (by omega) (nI_add (6 * V) 1), pk_in (6 * V + 3) 42 (by omega) (nI_add (6 * V) 3), pk_in (6 * V + 5) 42 (by omega) (nI_add (6 * V) 5), ?_⟩
  rw [c1, c3, c5]
  exact H
theorem yp_nr1 {post : Int32 → Prop} {x : Int32} (h : ma_bd 4000 x) (H : post 1) : wpY_near post (yrc, ysh, yle, yla, yde, ypa, yed, yoc, yun, yfa, ywh, ype, sr, ln, kd, nm, mt, co, wi, cp, pa, pn, ru, pl, sv, be, mx, bx, bo, ex, ey, fx, fy, tx, ty, yo) x := br_f ((mb_k x).mp h).1 (br_f ((mb_k x).mp h).2 H)
theorem yp_nr0 {post : Int32 → Prop} {x : Int32} (h : ¬ ma_bd 4000 x) (H : post 0) : wpY_near post (yrc, ysh, yle, yla, yde, ypa, yed, yoc, yun, yfa, ywh, ype, sr, ln, kd, nm, mt, co, wi, cp, pa, pn, ru, pl, sv, be, mx, bx, bo, ex, ey, fx, fy, tx, ty, yo) x := br_c (fun _ => H) (fun a => br_c (fun _ => H) (fun b => absurd ((mb_k x).mpr ⟨a, b⟩) h))
theorem rr_xmap {st mt co wi : Nat → Int32} (h : rr_st st mt co wi) {V : Nat} (hV : V ≤ 6) (x y : Int32) : st (nI (8 * V)).toNatClampNeg * x + st (nI (8 * V) + 2).toNatClampNeg * y + st (nI (8 * V) + 4).toNatClampNeg = rr_mX mt V x y ∧ st (nI (8 * V) + 1).toNatClampNeg * x + st (nI (8 * V) + 3).toNatClampNeg * y + st (nI (8 * V) + 5).toNatClampNeg = rr_mY mt V x y := by
  obtain ⟨h1, _⟩ := h V (by omega)
  have c0 : (nI (8 * V)).toNatClampNeg = 8 * V + 0 := pk_cl (8 * V)
  have c1 : (nI (8 * V) + 1).toNatClampNeg = 8 * V + 1 := pk_cl (8 * V + 1) (nI_add (8 * V) 1)
  have c2 : (nI (8 * V) + 2).toNatClampNeg = 8 * V + 2 := pk_cl (8 * V + 2) (nI_add (8 * V) 2)
  have c3 : (nI (8 * V) + 3).toNatClampNeg = 8 * V + 3 := pk_cl (8 * V + 3) (nI_add (8 * V) 3)
  have c4 : (nI (8 * V) + 4).toNatClampNeg = 8 * V + 4 := pk_cl (8 * V + 4) (nI_add (8 * V) 4)
  have c5 : (nI (8 * V) + 5).toNatClampNeg = 8 * V + 5 := pk_cl (8 * V + 5) (nI_add (8 * V) 5)
  rw [c0, c1, c2, c3, c4, c5, h1 0 (by omega), h1 1 (by omega), h1 2 (by omega), h1 3 (by omega), h1 4 (by omega), h1 5 (by omega)]
  exact ⟨rfl, rfl⟩
theorem rr_i8 {V : Nat} (hV : V ≤ 6) : vp_in (nI (8 * V)) 56 ∧ vp_in (nI (8 * V) + 1) 56 ∧ vp_in (nI (8 * V) + 2) 56 ∧ vp_in (nI (8 * V) + 3) 56 ∧ vp_in (nI (8 * V) + 4) 56 ∧ vp_in (nI (8 * V) + 5) 56 :=
  ⟨pk_in (8 * V) 56 (by omega), pk_in (8 * V + 1) 56 (by omega) (nI_add (8 * V) 1), pk_in (8 * V + 2) 56 (by omega) (nI_add (8 * V) 2), pk_in (8 * V + 3) 56 (by omega) (nI_add (8 * V) 3), pk_in (8 * V + 4) 56 (by omega) (nI_add (8 * V) 4), pk_in (8 * V + 5) 56 (by omega) (nI_add (8 * V) 5)⟩
theorem rr_le4 {x : Int32} (h : ma_bd 4000 x) : ¬ x < -4000 ∧ x ≤ 4000 := ⟨((mb_k x).mp h).1, Int32.not_lt.mp ((mb_k x).mp h).2⟩
theorem rr_le4' {x : Int32} (a : ¬ x < -4000) (b : x ≤ 4000) : ma_bd 4000 x := (mb_k x).mpr ⟨a, Int32.not_lt.mpr b⟩
/-- a point out of range -/
theorem xp_pt3 {post : Int32 → SX → Prop} {V : Nat} {x y b : Int32} (hV : V ≤ 6) (hs : rr_st st mt co wi) (hn : ¬ (ma_bd 4000 (rr_mX mt V x y) ∧ ma_bd 4000 (rr_mY mt V x y))) (H : post 3 (xds, xrc, xde, xoc, xun, xfp, nI V, xtl, xec, xpb, xpf, xsx, xsy, xcx, xcy, dk, dv, sr, rs, rk, rv, ct, ru, pl, be, mx, xo, st, cp, pa, pn, fx, fy, tx, ty, fi, cr, cv)) : wpX_addPoint post (xds, xrc, xde, xoc, xun, xfp, nI V, xtl, xec, xpb, xpf, xsx, xsy, xcx, xcy, dk, dv, sr, rs, rk, rv, ct, ru, pl, be, mx, xo, st, cp, pa, pn, fx, fy, tx, ty, fi, cr, cv) x y b := by
  obtain ⟨e1, e2⟩ := rr_xmap hs hV x y
  obtain ⟨i0, i1, i2, i3, i4, i5⟩ := rr_i8 hV
  exact nm_r (mb_ml 8 V) ⟨i0, i2, i4, nm_r e1 ⟨i1, i3, i5, nm_r e2 (br_c (fun _ => H) (fun k1 => br_c (fun k2 => br_c (fun _ => H) (fun k3 => br_c (fun k4 => absurd ⟨rr_le4' k1 k2, rr_le4' k3 k4⟩ hn) (fun _ => H))) (fun _ => H)))⟩⟩
theorem yp_ln3 {post : SY → Prop} {V : Nat} {x y : Int32} (hV : V ≤ 6) (hn : ¬ (ma_bd 4000 (rr_mX mt V x y) ∧ ma_bd 4000 (rr_mY mt V x y))) (H : post (yrc, ysh, nI V, yla, yde, ypa, yed, yoc, yun, 3, ywh, ype, sr, ln, kd, nm, mt, co, wi, cp, pa, pn, ru, pl, sv, be, mx, bx, bo, ex, ey, fx, fy, tx, ty, yo)) : wpY_lineTo post (yrc, ysh, nI V, yla, yde, ypa, yed, yoc, yun, yfa, ywh, ype, sr, ln, kd, nm, mt, co, wi, cp, pa, pn, ru, pl, sv, be, mx, bx, bo, ex, ey, fx, fy, tx, ty, yo) x y := by
  unfold wpY_lineTo
  refine yp_mx hV (yp_my hV ?_)
  by_cases kx : ma_bd 4000 (rr_mX mt V x y)
  · exact yp_nr1 kx (br_f (by decide) (yp_nr0 (fun ky => hn ⟨kx, ky⟩) (br_t rfl H)))
  · exact yp_nr0 kx (br_t rfl H)
theorem yp_mv3 {post : SY → Prop} {V : Nat} {x y : Int32} (hV : V ≤ 6) (hn : ¬ (ma_bd 4000 (rr_mX mt V x y) ∧ ma_bd 4000 (rr_mY mt V x y))) (H : post (yrc, ysh, nI V, yla, yde, ypa, yed, yoc, yun, 3, ywh, ype, sr, ln, kd, nm, mt, co, wi, cp, pa, pn, ru, pl, sv, be, mx, bx, bo, ex, ey, fx, fy, tx, ty, yo)) : wpY_moveTo post (yrc, ysh, nI V, yla, yde, ypa, yed, yoc, yun, yfa, ywh, ype, sr, ln, kd, nm, mt, co, wi, cp, pa, pn, ru, pl, sv, be, mx, bx, bo, ex, ey, fx, fy, tx, ty, yo) x y := by
  unfold wpY_moveTo
  refine yp_mx hV (yp_my hV ?_)
  by_cases kx : ma_bd 4000 (rr_mX mt V x y)
  · exact yp_nr1 kx (br_f (by decide) (yp_nr0 (fun ky => hn ⟨kx, ky⟩) (br_t rfl H)))
  · exact yp_nr0 kx (br_t rfl H)
theorem sp_line {E P F V : Nat} (hV : V ≤ 6) (hs : rr_st st mt co wi) (h : ma_path E P F xpb xsx xsy xcx xcy fx fy tx ty fi bx bo ex ey) (hb : xpb = 1 → xpf = nI F ∧ ype = nI (E - F)) (x y : Int32) :
    ∃ (r : Int32) (E' : Nat) (xcx' xcy' ype' : Int32) (fx' fy' tx' ty' fi' ex' ey' : Nat → Int32), rr_PS r E' P F xpb xpf xsx xsy xcx' xcy' ype' fx' fy' tx' ty' fi' bx bo ex' ey' ∧
      (∀ post : Int32 → SX → Prop, post r (xds, xrc, xde, xoc, xun, xfp, nI V, xtl, nI E', xpb, xpf, xsx, xsy, xcx', xcy', dk, dv, sr, rs, rk, rv, ct, ru, pl, be, mx, xo, st, cp, pa, pn, fx', fy', tx', ty', fi', cr, cv) → wpX_addPoint post (xds, xrc, xde, xoc, xun, xfp, nI V, xtl, nI E, xpb, xpf, xsx, xsy, xcx, xcy, dk, dv, sr, rs, rk, rv, ct, ru, pl, be, mx, xo, st, cp, pa, pn, fx, fy, tx, ty, fi, cr, cv) x y 0) ∧
      (∀ post : SY → Prop, post (yrc, ysh, nI V, yla, yde, nI P, nI E', yoc, yun, r, ywh, ype', sr, ln, kd, nm, mt, co, wi, cp, pa, pn, ru, pl, sv, be, mx, bx, bo, ex', ey', fx', fy', tx', ty', yo) → wpY_lineTo post (yrc, ysh, nI V, yla, yde, nI P, nI E, yoc, yun, 0, ywh, ype, sr, ln, kd, nm, mt, co, wi, cp, pa, pn, ru, pl, sv, be, mx, bx, bo, ex, ey, fx, fy, tx, ty, yo) x y) := by
  by_cases hk : ma_bd 4000 (rr_mX mt V x y) ∧ ma_bd 4000 (rr_mY mt V x y)
  · obtain ⟨kx, ky⟩ := hk
    obtain ⟨r, E', xcx', xcy', ype', fx', fy', tx', ty', fi', ex', ey', hps, hX, hY⟩ := sp_edge h hb kx ky
    obtain ⟨e1, e2⟩ := rr_xmap hs hV x y
    obtain ⟨i0, i1, i2, i3, i4, i5⟩ := rr_i8 hV
    exact ⟨r, E', xcx', xcy', ype', fx', fy', tx', ty', fi', ex', ey', hps, fun post H => nm_r (mb_ml 8 V) ⟨i0, i2, i4, nm_r e1 ⟨i1, i3, i5, nm_r e2 (br_f (rr_le4 kx).1 (br_t (rr_le4 kx).2 (br_f (rr_le4 ky).1 (br_t (rr_le4 ky).2 (br_t rfl (hX _ H))))))⟩⟩, fun post H => by
      unfold wpY_lineTo
      exact yp_mx hV (yp_my hV (yp_nr1 kx (br_f (by decide) (yp_nr1 ky (br_f (by decide) (hY _ H))))))⟩
  · exact ⟨3, E, xcx, xcy, ype, fx, fy, tx, ty, fi, ex, ey, fun z => absurd z (by decide), fun post H => xp_pt3 hV hs hk H, fun post H => yp_ln3 hV hk H⟩
theorem sp_back {E P F V : Nat} (hV : V ≤ 6) (hs : rr_st st mt co wi) (h : ma_path E P F xpb xsx xsy xcx xcy fx fy tx ty fi bx bo ex ey) (hb : xpb = 1 → xpf = nI F ∧ ype = nI (E - F)) (x y : Int32) (hx : xsx = rr_mX mt V x y) (hy : xsy = rr_mY mt V x y) (kx : ma_bd 4000 xsx) (ky : ma_bd 4000 xsy) :
    ∃ (r : Int32) (E' : Nat) (xcx' xcy' ype' : Int32) (fx' fy' tx' ty' fi' ex' ey' : Nat → Int32), rr_PS r E' P F xpb xpf xsx xsy xcx' xcy' ype' fx' fy' tx' ty' fi' bx bo ex' ey' ∧
      (∀ post : Int32 → SX → Prop, post r (xds, xrc, xde, xoc, xun, xfp, nI V, xtl, nI E', xpb, xpf, xsx, xsy, xcx', xcy', dk, dv, sr, rs, rk, rv, ct, ru, pl, be, mx, xo, st, cp, pa, pn, fx', fy', tx', ty', fi', cr, cv) → wpX_addPoint post (xds, xrc, xde, xoc, xun, xfp, nI V, xtl, nI E, xpb, xpf, xsx, xsy, xcx, xcy, dk, dv, sr, rs, rk, rv, ct, ru, pl, be, mx, xo, st, cp, pa, pn, fx, fy, tx, ty, fi, cr, cv) x y 0) ∧
      (∀ post : SY → Prop, post (yrc, ysh, nI V, yla, yde, nI P, nI E', yoc, yun, r, ywh, ype', sr, ln, kd, nm, mt, co, wi, cp, pa, pn, ru, pl, sv, be, mx, bx, bo, ex', ey', fx', fy', tx', ty', yo) → wpY_closePart post (yrc, ysh, nI V, yla, yde, nI P, nI E, yoc, yun, 0, ywh, ype, sr, ln, kd, nm, mt, co, wi, cp, pa, pn, ru, pl, sv, be, mx, bx, bo, ex, ey, fx, fy, tx, ty, yo)) := by
  obtain ⟨r, E', xcx', xcy', ype', fx', fy', tx', ty', fi', ex', ey', hps, hX, hY⟩ := sp_close h hb
  obtain ⟨e1, e2⟩ := rr_xmap hs hV x y
  rw [← hx] at e1
  rw [← hy] at e2
  obtain ⟨i0, i1, i2, i3, i4, i5⟩ := rr_i8 hV
  exact ⟨r, E', xcx', xcy', ype', fx', fy', tx', ty', fi', ex', ey', hps, fun post H => nm_r (mb_ml 8 V) ⟨i0, i2, i4, nm_r e1 ⟨i1, i3, i5, nm_r e2 (br_f (rr_le4 kx).1 (br_t (rr_le4 kx).2 (br_f (rr_le4 ky).1 (br_t (rr_le4 ky).2 (br_t rfl (hX _ H))))))⟩⟩, hY⟩
theorem yp_81 {post : SY → Prop} {q : Nat} {x y : Int32} (hq : q < 30) (H : post (yrc, ysh, yle, yla, yde, nI (q + 1), yed, yoc, yun, yfa, ywh, 0, sr, ln, kd, nm, mt, co, wi, cp, pa, pn, ru, pl, sv, be, mx, upd bx q x, upd bo q y, upd ex q x, upd ey q y, fx, fy, tx, ty, yo)) : wY_moveTo_81 post x y yrc ysh yle yla yde (nI (q + 1)) yed yoc yun yfa ywh ype sr ln kd nm mt co wi cp pa pn ru pl sv be mx bx bo ex ey fx fy tx ty yo := by
  have e : nI (q + 1) - 1 = nI q := nI_pred q
  have i : vp_in (nI (q + 1) - 1) 30 := pk_in q 30 hq e
  have c : (nI (q + 1) - 1).toNatClampNeg = q := pk_cl q e
  exact ⟨i, nm_r (by rw [c]) ⟨i, nm_r (by rw [c]) ⟨i, nm_r (by rw [c]) ⟨i, nm_r (by rw [c]) H⟩⟩⟩⟩
theorem sp_move {E P F V : Nat} (hV : V ≤ 6) (hs : rr_st st mt co wi) (h : ma_path E P F xpb xsx xsy xcx xcy fx fy tx ty fi bx bo ex ey) (hb : xpb = 1 → xpf = nI F ∧ ype = nI (E - F)) (x y : Int32) :
    ∃ (r : Int32) (P' F' : Nat) (xpb' xpf' xsx' xsy' xcx' xcy' ype' : Int32) (bx' bo' ex' ey' : Nat → Int32), rr_PS r E P' F' xpb' xpf' xsx' xsy' xcx' xcy' ype' fx fy tx ty fi bx' bo' ex' ey' ∧ (r = 0 → xsx' = rr_mX mt V x y ∧ xsy' = rr_mY mt V x y ∧ ma_bd 4000 xsx' ∧ ma_bd 4000 xsy') ∧
      (∀ post : Int32 → SX → Prop, post r (xds, xrc, xde, xoc, xun, xfp, nI V, xtl, nI E, xpb', xpf', xsx', xsy', xcx', xcy', dk, dv, sr, rs, rk, rv, ct, ru, pl, be, mx, xo, st, cp, pa, pn, fx, fy, tx, ty, fi, cr, cv) → wpX_addPoint post (xds, xrc, xde, xoc, xun, xfp, nI V, xtl, nI E, xpb, xpf, xsx, xsy, xcx, xcy, dk, dv, sr, rs, rk, rv, ct, ru, pl, be, mx, xo, st, cp, pa, pn, fx, fy, tx, ty, fi, cr, cv) x y 1) ∧
      (∀ post : SY → Prop, post (yrc, ysh, nI V, yla, yde, nI P', nI E, yoc, yun, r, ywh, ype', sr, ln, kd, nm, mt, co, wi, cp, pa, pn, ru, pl, sv, be, mx, bx', bo', ex', ey', fx, fy, tx, ty, yo) → wpY_moveTo post (yrc, ysh, nI V, yla, yde, nI P, nI E, yoc, yun, 0, ywh, ype, sr, ln, kd, nm, mt, co, wi, cp, pa, pn, ru, pl, sv, be, mx, bx, bo, ex, ey, fx, fy, tx, ty, yo) x y) := by
  by_cases hk : ma_bd 4000 (rr_mX mt V x y) ∧ ma_bd 4000 (rr_mY mt V x y)
  · obtain ⟨kx, ky⟩ := hk
    obtain ⟨e1, e2⟩ := rr_xmap hs hV x y
    obtain ⟨i0, i1, i2, i3, i4, i5⟩ := rr_i8 hV
    have hE := h.1
    have fin : ∀ q : Nat, ((P = q ∧ (xpb = 0 ∨ F < E)) ∨ (P = q + 1 ∧ F = E ∧ xpb = 1)) → (∀ post : SY → Prop, post (yrc, ysh, nI V, yla, yde, nI (q + 1), nI E, yoc, yun, 0, ywh, 0, sr, ln, kd, nm, mt, co, wi, cp, pa, pn, ru, pl, sv, be, mx, upd bx q (rr_mX mt V x y), upd bo q (rr_mY mt V x y), upd ex q (rr_mX mt V x y), upd ey q (rr_mY mt V x y), fx, fy, tx, ty, yo) → ((nI P ≤ 0 → wY_moveTo_63 post (rr_mX mt V x y) (rr_mY mt V x y) yrc ysh (nI V) yla yde (nI P) (nI E) yoc yun 0 ywh ype sr ln kd nm mt co wi cp pa pn ru pl sv be mx bx bo ex ey fx fy tx ty yo) ∧ (¬ nI P ≤ 0 → ((nI E = 0 → wY_moveTo_59 post (rr_mX mt V x y) (rr_mY mt V x y) yrc ysh (nI V) yla yde (nI P) (nI E) yoc yun 0 ywh ype sr ln kd nm mt co wi cp pa pn ru pl sv be mx bx bo ex ey fx fy tx ty yo) ∧ (¬ nI E = 0 → ((ype = 0 → wY_moveTo_59 post (rr_mX mt V x y) (rr_mY mt V x y) yrc ysh (nI V) yla yde (nI P) (nI E) yoc yun 0 ywh ype sr ln kd nm mt co wi cp pa pn ru pl sv be mx bx bo ex ey fx fy tx ty yo) ∧ (¬ ype = 0 → wY_moveTo_63 post (rr_mX mt V x y) (rr_mY mt V x y) yrc ysh (nI V) yla yde (nI P) (nI E) yoc yun 0 ywh ype sr ln kd nm mt co wi cp pa pn ru pl sv be mx bx bo ex ey fx fy tx ty yo))))))) →
        ∃ (r : Int32) (P' F' : Nat) (xpb' xpf' xsx' xsy' xcx' xcy' ype' : Int32) (bx' bo' ex' ey' : Nat → Int32), rr_PS r E P' F' xpb' xpf' xsx' xsy' xcx' xcy' ype' fx fy tx ty fi bx' bo' ex' ey' ∧ (r = 0 → xsx' = rr_mX mt V x y ∧ xsy' = rr_mY mt V x y ∧ ma_bd 4000 xsx' ∧ ma_bd 4000 xsy') ∧
      (∀ post : Int32 → SX → Prop, post r (xds, xrc, xde, xoc, xun, xfp, nI V, xtl, nI E, xpb', xpf', xsx', xsy', xcx', xcy', dk, dv, sr, rs, rk, rv, ct, ru, pl, be, mx, xo, st, cp, pa, pn, fx, fy, tx, ty, fi, cr, cv) → wpX_addPoint post (xds, xrc, xde, xoc, xun, xfp, nI V, xtl, nI E, xpb, xpf, xsx, xsy, xcx, xcy, dk, dv, sr, rs, rk, rv, ct, ru, pl, be, mx, xo, st, cp, pa, pn, fx, fy, tx, ty, fi, cr, cv) x y 1) ∧
      (∀ post : SY → Prop, post (yrc, ysh, nI V, yla, yde, nI P', nI E, yoc, yun, r, ywh, ype', sr, ln, kd, nm, mt, co, wi, cp, pa, pn, ru, pl, sv, be, mx, bx', bo', ex', ey', fx, fy, tx, ty, yo) → wpY_moveTo post (yrc, ysh, nI V, yla, yde, nI P, nI E, yoc, yun, 0, ywh, ype, sr, ln, kd, nm, mt, co, wi, cp, pa, pn, ru, pl, sv, be, mx, bx, bo, ex, ey, fx, fy, tx, ty, yo) x y) := by
      intro q hq hY
      have h' := ma_pmove h kx ky q hq
      exact ⟨0, q + 1, E, 1, nI E, rr_mX mt V x y, rr_mY mt V x y, rr_mX mt V x y, rr_mY mt V x y, 0, _, _, _, _, fun _ => ⟨h', fun _ => ⟨rfl, by rw [Nat.sub_self]; rfl⟩⟩, fun _ => ⟨rfl, rfl, kx, ky⟩,
        fun post H => nm_r (mb_ml 8 V) ⟨i0, i2, i4, nm_r e1 ⟨i1, i3, i5, nm_r e2 (br_f (rr_le4 kx).1 (br_t (rr_le4 kx).2 (br_f (rr_le4 ky).1 (br_t (rr_le4 ky).2 (br_f (by decide) H)))))⟩⟩,
        fun post H => by
          unfold wpY_moveTo
          exact yp_mx hV (yp_my hV (yp_nr1 kx (br_f (by decide) (yp_nr1 ky (br_f (by decide) (hY _ H))))))⟩
    rcases h.2.2.2.2.2 with ⟨b0, P0, E0⟩ | ⟨b1, p, hp, hpE, hFE, _, _, _, _, _, hlt⟩
    · refine fin P (Or.inl ⟨rfl, Or.inl b0⟩) (fun post H => pk_le P 0 (fun _ => br_t rfl (nm_r (nI_1 P) (yp_81 (by omega) H))) (fun z => absurd P0 (by omega)))
    · obtain ⟨f1, f2⟩ := hb b1
      by_cases hF : F = E
      · refine fin p (Or.inr ⟨hp, hF, b1⟩) (fun post H => ?_)
        have y59 : wY_moveTo_59 post (rr_mX mt V x y) (rr_mY mt V x y) yrc ysh (nI V) yla yde (nI P) (nI E) yoc yun 0 ywh ype sr ln kd nm mt co wi cp pa pn ru pl sv be mx bx bo ex ey fx fy tx ty yo := by
          rw [hp]
          exact br_f (by decide) (yp_81 (by omega) H)
        have z0 : ype = 0 := by
          rw [f2, hF, Nat.sub_self]
          rfl
        exact pk_le P 0 (fun z => absurd z (by omega)) (fun _ => br_c (fun _ => y59) (fun _ => br_t z0 y59))
      · have hl := (hlt (by omega)).1
        refine fin P (Or.inl ⟨rfl, Or.inr (by omega)⟩) (fun post H => ?_)
        have z0 : ¬ ype = 0 := by
          rw [f2]
          exact nI_ne0 (by omega) (by omega)
        exact pk_le P 0 (fun z => absurd z (by omega)) (fun _ => pk_eq E 0 (fun z => absurd z (by omega)) (fun _ => br_f z0 (br_t rfl (nm_r (nI_1 P) (yp_81 (by omega) H)))))
  · exact ⟨3, P, F, xpb, xpf, xsx, xsy, xcx, xcy, ype, bx, bo, ex, ey, fun z => absurd z (by decide), fun z => absurd z (by decide), fun post H => xp_pt3 hV hs hk H, fun post H => yp_mv3 hV hk H⟩
end
section
variable {xds xrc xde xoc xun xfp xsc xtl xec xpb xpf xsx xsy xcx xcy yrc ysh yle yla yde ypa yed yoc yun yfa ywh ype : Int32} {dk dv sr rs rk rv ct ru pl be mx xo st cp pa pn fx fy tx ty fi cr cv ln kd nm mt co wi sv bx bo ex ey yo : Nat → Int32}
/-! the rectangle -/
theorem xr_0 {post : Int32 → SX → Prop} {n : Nat} {r xec' xpb' xpf' xsx' xsy' xcx' xcy' : Int32} {fx' fy' tx' ty' fi' : Nat → Int32} (HX : ∀ q : Int32 → SX → Prop, q r (xds, xrc, xde, xoc, xun, xfp, xsc, xtl, xec', xpb', xpf', xsx', xsy', xcx', xcy', dk, dv, sr, rs, rk, rv, ct, ru, pl, be, mx, xo, st, cp, pa, pn, fx', fy', tx', ty', fi', cr, cv) → wpX_addPoint q (xds, xrc, xde, xoc, xun, xfp, xsc, xtl, xec, xpb, xpf, xsx, xsy, xcx, xcy, dk, dv, sr, rs, rk, rv, ct, ru, pl, be, mx, xo, st, cp, pa, pn, fx, fy, tx, ty, fi, cr, cv) (xo 0) (xo 1) 1) (H : wX_addRectangle_4 post n r 1 xds xrc xde xoc xun xfp xsc xtl xec' xpb' xpf' xsx' xsy' xcx' xcy' dk dv sr rs rk rv ct ru pl be mx xo st cp pa pn fx' fy' tx' ty' fi' cr cv) : wX_addRectangle_4 post (n + 1) 0 0 xds xrc xde xoc xun xfp xsc xtl xec xpb xpf xsx xsy xcx xcy dk dv sr rs rk rv ct ru pl be mx xo st cp pa pn fx fy tx ty fi cr cv :=
  br_f (by decide) (br_t rfl (br_f (by decide) (br_f (by decide) (nm_r (Int32.add_zero _) (br_f (by decide) (br_f (by decide) (nm_r (Int32.add_zero _) (br_t rfl (by unfold wX_addRectangle_83; exact HX _ (nm_r (by decide) H))))))))))
theorem xr_1 {post : Int32 → SX → Prop} {n : Nat} {r xec' xpb' xpf' xsx' xsy' xcx' xcy' : Int32} {fx' fy' tx' ty' fi' : Nat → Int32} (HX : ∀ q : Int32 → SX → Prop, q r (xds, xrc, xde, xoc, xun, xfp, xsc, xtl, xec', xpb', xpf', xsx', xsy', xcx', xcy', dk, dv, sr, rs, rk, rv, ct, ru, pl, be, mx, xo, st, cp, pa, pn, fx', fy', tx', ty', fi', cr, cv) → wpX_addPoint q (xds, xrc, xde, xoc, xun, xfp, xsc, xtl, xec, xpb, xpf, xsx, xsy, xcx, xcy, dk, dv, sr, rs, rk, rv, ct, ru, pl, be, mx, xo, st, cp, pa, pn, fx, fy, tx, ty, fi, cr, cv) (xo 0 + xo 2) (xo 1) 0) (H : wX_addRectangle_4 post n r 2 xds xrc xde xoc xun xfp xsc xtl xec' xpb' xpf' xsx' xsy' xcx' xcy' dk dv sr rs rk rv ct ru pl be mx xo st cp pa pn fx' fy' tx' ty' fi' cr cv) : wX_addRectangle_4 post (n + 1) 0 1 xds xrc xde xoc xun xfp xsc xtl xec xpb xpf xsx xsy xcx xcy dk dv sr rs rk rv ct ru pl be mx xo st cp pa pn fx fy tx ty fi cr cv :=
  br_f (by decide) (br_t rfl (br_t rfl (nm_e (br_f (by decide) (br_f (by decide) (nm_r (Int32.add_zero _) (br_f (by decide) (by unfold wX_addRectangle_83; exact HX _ (nm_r (by decide) H)))))))))
theorem xr_2 {post : Int32 → SX → Prop} {n : Nat} {r xec' xpb' xpf' xsx' xsy' xcx' xcy' : Int32} {fx' fy' tx' ty' fi' : Nat → Int32} (HX : ∀ q : Int32 → SX → Prop, q r (xds, xrc, xde, xoc, xun, xfp, xsc, xtl, xec', xpb', xpf', xsx', xsy', xcx', xcy', dk, dv, sr, rs, rk, rv, ct, ru, pl, be, mx, xo, st, cp, pa, pn, fx', fy', tx', ty', fi', cr, cv) → wpX_addPoint q (xds, xrc, xde, xoc, xun, xfp, xsc, xtl, xec, xpb, xpf, xsx, xsy, xcx, xcy, dk, dv, sr, rs, rk, rv, ct, ru, pl, be, mx, xo, st, cp, pa, pn, fx, fy, tx, ty, fi, cr, cv) (xo 0 + xo 2) (xo 1 + xo 3) 0) (H : wX_addRectangle_4 post n r 3 xds xrc xde xoc xun xfp xsc xtl xec' xpb' xpf' xsx' xsy' xcx' xcy' dk dv sr rs rk rv ct ru pl be mx xo st cp pa pn fx' fy' tx' ty' fi' cr cv) : wX_addRectangle_4 post (n + 1) 0 2 xds xrc xde xoc xun xfp xsc xtl xec xpb xpf xsx xsy xcx xcy dk dv sr rs rk rv ct ru pl be mx xo st cp pa pn fx fy tx ty fi cr cv :=
  br_f (by decide) (br_t rfl (br_f (by decide) (br_t rfl (nm_e (br_t rfl (nm_e (br_f (by decide) (by unfold wX_addRectangle_83; exact HX _ (nm_r (by decide) H)))))))))
theorem xr_3 {post : Int32 → SX → Prop} {n : Nat} {r xec' xpb' xpf' xsx' xsy' xcx' xcy' : Int32} {fx' fy' tx' ty' fi' : Nat → Int32} (HX : ∀ q : Int32 → SX → Prop, q r (xds, xrc, xde, xoc, xun, xfp, xsc, xtl, xec', xpb', xpf', xsx', xsy', xcx', xcy', dk, dv, sr, rs, rk, rv, ct, ru, pl, be, mx, xo, st, cp, pa, pn, fx', fy', tx', ty', fi', cr, cv) → wpX_addPoint q (xds, xrc, xde, xoc, xun, xfp, xsc, xtl, xec, xpb, xpf, xsx, xsy, xcx, xcy, dk, dv, sr, rs, rk, rv, ct, ru, pl, be, mx, xo, st, cp, pa, pn, fx, fy, tx, ty, fi, cr, cv) (xo 0) (xo 1 + xo 3) 0) (H : wX_addRectangle_4 post n r 4 xds xrc xde xoc xun xfp xsc xtl xec' xpb' xpf' xsx' xsy' xcx' xcy' dk dv sr rs rk rv ct ru pl be mx xo st cp pa pn fx' fy' tx' ty' fi' cr cv) : wX_addRectangle_4 post (n + 1) 0 3 xds xrc xde xoc xun xfp xsc xtl xec xpb xpf xsx xsy xcx xcy dk dv sr rs rk rv ct ru pl be mx xo st cp pa pn fx fy tx ty fi cr cv :=
  br_f (by decide) (br_t rfl (br_f (by decide) (br_f (by decide) (nm_r (Int32.add_zero _) (br_f (by decide) (br_t rfl (nm_e (br_f (by decide) (by unfold wX_addRectangle_83; exact HX _ (nm_r (by decide) H))))))))))
theorem xr_4 {post : Int32 → SX → Prop} {n : Nat} {r xec' xpb' xpf' xsx' xsy' xcx' xcy' : Int32} {fx' fy' tx' ty' fi' : Nat → Int32} (HX : ∀ q : Int32 → SX → Prop, q r (xds, xrc, xde, xoc, xun, xfp, xsc, xtl, xec', xpb', xpf', xsx', xsy', xcx', xcy', dk, dv, sr, rs, rk, rv, ct, ru, pl, be, mx, xo, st, cp, pa, pn, fx', fy', tx', ty', fi', cr, cv) → wpX_addPoint q (xds, xrc, xde, xoc, xun, xfp, xsc, xtl, xec, xpb, xpf, xsx, xsy, xcx, xcy, dk, dv, sr, rs, rk, rv, ct, ru, pl, be, mx, xo, st, cp, pa, pn, fx, fy, tx, ty, fi, cr, cv) (xo 0) (xo 1) 0) (H : wX_addRectangle_4 post n r 5 xds xrc xde xoc xun xfp xsc xtl xec' xpb' xpf' xsx' xsy' xcx' xcy' dk dv sr rs rk rv ct ru pl be mx xo st cp pa pn fx' fy' tx' ty' fi' cr cv) : wX_addRectangle_4 post (n + 1) 0 4 xds xrc xde xoc xun xfp xsc xtl xec xpb xpf xsx xsy xcx xcy dk dv sr rs rk rv ct ru pl be mx xo st cp pa pn fx fy tx ty fi cr cv :=
  br_f (by decide) (br_t rfl (br_f (by decide) (br_f (by decide) (nm_r (Int32.add_zero _) (br_f (by decide) (br_f (by decide) (nm_r (Int32.add_zero _) (br_f (by decide) (by unfold wX_addRectangle_83; exact HX _ (nm_r (by decide) H))))))))))
theorem sp_rect {E P F V : Nat} (hV : V ≤ 6) (hs : rr_st st mt co wi) (h : ma_path E P F xpb xsx xsy xcx xcy fx fy tx ty fi bx bo ex ey) (hb : xpb = 1 → xpf = nI F ∧ ype = nI (E - F)) :
    ∃ (r : Int32) (E' P' F' : Nat) (xpb' xpf' xsx' xsy' xcx' xcy' ype' : Int32) (fx' fy' tx' ty' fi' bx' bo' ex' ey' : Nat → Int32), rr_PS r E' P' F' xpb' xpf' xsx' xsy' xcx' xcy' ype' fx' fy' tx' ty' fi' bx' bo' ex' ey' ∧
      (∀ post : Int32 → SX → Prop, post r (xds, xrc, xde, xoc, xun, xfp, nI V, xtl, nI E', xpb', xpf', xsx', xsy', xcx', xcy', dk, dv, sr, rs, rk, rv, ct, ru, pl, be, mx, xo, st, cp, pa, pn, fx', fy', tx', ty', fi', cr, cv) → wpX_addRectangle post (xds, xrc, xde, xoc, xun, xfp, nI V, xtl, nI E, xpb, xpf, xsx, xsy, xcx, xcy, dk, dv, sr, rs, rk, rv, ct, ru, pl, be, mx, xo, st, cp, pa, pn, fx, fy, tx, ty, fi, cr, cv)) ∧
      (∀ post : SY → Prop, post (yrc, ysh, nI V, yla, yde, nI P', nI E', yoc, yun, r, ywh, ype', sr, ln, kd, nm, mt, co, wi, cp, pa, pn, ru, pl, sv, be, mx, bx', bo', ex', ey', fx', fy', tx', ty', yo) → wpY_rectangle post (yrc, ysh, nI V, yla, yde, nI P, nI E, yoc, yun, 0, ywh, ype, sr, ln, kd, nm, mt, co, wi, cp, pa, pn, ru, pl, sv, be, mx, bx, bo, ex, ey, fx, fy, tx, ty, yo) (xo 0) (xo 1) (xo 2) (xo 3)) := by
  obtain ⟨r1, P1, F1, b1, f1, s1, t1, c1, d1, y1, bx1, bo1, ex1, ey1, hps1, hst, hX1, hY1⟩ := sp_move hV hs h hb (xo 0) (xo 1)
  by_cases z1 : r1 = 0
  · subst z1
    obtain ⟨hp1, hb1⟩ := hps1 rfl
    obtain ⟨es, et, ks, kt⟩ := hst rfl
    obtain ⟨r2, E2, c2, d2, y2, fx2, fy2, tx2, ty2, fi2, ex2, ey2, hps2, hX2, hY2⟩ := sp_line hV hs hp1 hb1 (xo 0 + xo 2) (xo 1)
    by_cases z2 : r2 = 0
    · subst z2
      obtain ⟨hp2, hb2⟩ := hps2 rfl
      obtain ⟨r3, E3, c3, d3, y3, fx3, fy3, tx3, ty3, fi3, ex3, ey3, hps3, hX3, hY3⟩ := sp_line hV hs hp2 hb2 (xo 0 + xo 2) (xo 1 + xo 3)
      by_cases z3 : r3 = 0
      · subst z3
        obtain ⟨hp3, hb3⟩ := hps3 rfl
        obtain ⟨r4, E4, c4, d4, y4, fx4, fy4, tx4, ty4, fi4, ex4, ey4, hps4, hX4, hY4⟩ := sp_line hV hs hp3 hb3 (xo 0) (xo 1 + xo 3)
        by_cases z4 : r4 = 0
        · subst z4
          obtain ⟨hp4, hb4⟩ := hps4 rfl
          obtain ⟨r5, E5, c5, d5, y5, fx5, fy5, tx5, ty5, fi5, ex5, ey5, hps5, hX5, hY5⟩ := sp_back hV hs hp4 hb4 (xo 0) (xo 1) es et ks kt
          exact ⟨r5, E5, P1, F1, b1, f1, s1, t1, c5, d5, y5, fx5, fy5, tx5, ty5, fi5, bx1, bo1, ex5, ey5, hps5, fun post H => ⟨6, xr_0 hX1 (xr_1 hX2 (xr_2 hX3 (xr_3 hX4 (xr_4 hX5 (br_t (by decide) H)))))⟩, fun post H => by
            unfold wpY_rectangle
            exact hY1 _ (br_t rfl (hY2 _ (br_t rfl (hY3 _ (br_t rfl (hY4 _ (br_t rfl (hY5 _ H))))))))⟩
        · exact ⟨r4, E4, P1, F1, b1, f1, s1, t1, c4, d4, y4, fx4, fy4, tx4, ty4, fi4, bx1, bo1, ex4, ey4, fun z => absurd z z4, fun post H => ⟨6, xr_0 hX1 (xr_1 hX2 (xr_2 hX3 (xr_3 hX4 (br_f (by decide) (br_f z4 H)))))⟩, fun post H => by
            unfold wpY_rectangle
            exact hY1 _ (br_t rfl (hY2 _ (br_t rfl (hY3 _ (br_t rfl (hY4 _ (br_f z4 (H))))))))⟩
      · exact ⟨r3, E3, P1, F1, b1, f1, s1, t1, c3, d3, y3, fx3, fy3, tx3, ty3, fi3, bx1, bo1, ex3, ey3, fun z => absurd z z3, fun post H => ⟨6, xr_0 hX1 (xr_1 hX2 (xr_2 hX3 (br_f (by decide) (br_f z3 H))))⟩, fun post H => by
          unfold wpY_rectangle
          exact hY1 _ (br_t rfl (hY2 _ (br_t rfl (hY3 _ (br_f z3 (br_f z3 (H)))))))⟩
    · exact ⟨r2, E2, P1, F1, b1, f1, s1, t1, c2, d2, y2, fx2, fy2, tx2, ty2, fi2, bx1, bo1, ex2, ey2, fun z => absurd z z2, fun post H => ⟨6, xr_0 hX1 (xr_1 hX2 (br_f (by decide) (br_f z2 H)))⟩, fun post H => by
        unfold wpY_rectangle
        exact hY1 _ (br_t rfl (hY2 _ (br_f z2 (br_f z2 (br_f z2 (H))))))⟩
  · exact ⟨r1, E, P1, F1, b1, f1, s1, t1, c1, d1, y1, fx, fy, tx, ty, fi, bx1, bo1, ex1, ey1, fun z => absurd z z1, fun post H => ⟨6, xr_0 hX1 (br_f (by decide) (br_f z1 H))⟩, fun post H => by
      unfold wpY_rectangle
      exact hY1 _ (br_f z1 (br_f z1 (br_f z1 (br_f z1 (H)))))⟩
end
section
variable {xds xrc xde xoc xun xfp xsc xtl xec xpb xpf xsx xsy xcx xcy yrc ysh yle yla yde ypa yed yoc yun yfa ywh ype : Int32} {dk dv sr rs rk rv ct ru pl be mx xo st cp pa pn fx fy tx ty fi cr cv ln kd nm mt co wi sv bx bo ex ey yo : Nat → Int32}
/-! a rendering under way -/
def rr_H (K n : Nat) (c d T L V U E P F : Nat) (A B G : Nat → Nat) (xpb xpf xsx xsy xcx xcy ype : Int32) (dk dv sr rs rk rv ct ru pl be mx xo st cp pa pn fx fy tx ty fi cr cv ln kd nm mt co wi sv bx bo ex ey yo : Nat → Int32) : Prop :=
  rr_doc c d rs rk rv dk dv ln kd nm ∧ rr_st st mt co wi ∧ rr_pa pa ∧ rr_op n xo yo ∧ rr_ct K ct sr ∧ K ≤ 8 ∧ rr_fr T L V U ru pl be sv mx A B G ∧ rr_pl K T ru sr ln A ∧ ma_path E P F xpb xsx xsy xcx xcy fx fy tx ty fi bx bo ex ey ∧ (xpb = 1 → xpf = nI F ∧ ype = nI (E - F))
def rr_R (K N q n : Nat) (u : SX) (v : SY) : Prop := ∃ (c d T L V U E P F : Nat) (A B G : Nat → Nat) (xpb xpf xsx xsy xcx xcy ype : Int32) (dk dv sr rs rk rv ct ru pl be mx xo st cp pa pn fx fy tx ty fi cr cv ln kd nm mt co wi sv bx bo ex ey yo : Nat → Int32),
  u = (nI d, nI c, nI (T + 1), nI q, nI U, -1, nI V, nI L, nI E, xpb, xpf, xsx, xsy, xcx, xcy, dk, dv, sr, rs, rk, rv, ct, ru, pl, be, mx, xo, st, cp, pa, pn, fx, fy, tx, ty, fi, cr, cv) ∧ v = (nI c, nI K, nI V, nI L, nI (T + 1), nI P, nI E, nI q, nI U, 0, -1, ype, sr, ln, kd, nm, mt, co, wi, cp, pa, pn, ru, pl, sv, be, mx, bx, bo, ex, ey, fx, fy, tx, ty, yo) ∧ N = rr_ph U T A ∧ rr_H K n c d T L V U E P F A B G xpb xpf xsx xsy xcx xcy ype dk dv sr rs rk rv ct ru pl be mx xo st cp pa pn fx fy tx ty fi cr cv ln kd nm mt co wi sv bx bo ex ey yo
def rr_F (r : Int32) (u : SX) (v : SY) : Prop := ∃ (c d : Nat) (xde xoc xun xsc xtl xec xpb xpf xsx xsy xcx xcy ysh yle yla yde ypa yed yoc ype : Int32) (dk dv sr rs rk rv ct ru pl be mx xo st cp pa pn fx fy tx ty fi cr cv ln kd nm mt co wi sv bx bo ex ey yo : Nat → Int32),
  u = (nI d, nI c, xde, xoc, xun, -1, xsc, xtl, xec, xpb, xpf, xsx, xsy, xcx, xcy, dk, dv, sr, rs, rk, rv, ct, ru, pl, be, mx, xo, st, cp, pa, pn, fx, fy, tx, ty, fi, cr, cv) ∧ v = (nI c, ysh, yle, yla, yde, ypa, yed, yoc, xun, r, -1, ype, sr, ln, kd, nm, mt, co, wi, cp, pa, pn, ru, pl, sv, be, mx, bx, bo, ex, ey, fx, fy, tx, ty, yo) ∧ rr_doc c d rs rk rv dk dv ln kd nm ∧ rr_st st mt co wi ∧ rr_pa pa
def rr_Z (K N : Nat) (r : Int32) (u : SX) (v : SY) : Prop := (r = 0 ∧ ∃ N', N' ≤ N + 41 ∧ rr_R K N' 0 0 u v) ∨ (r ≠ 0 ∧ rr_F r u v)
theorem rr_op0 {xo yo : Nat → Int32} : rr_op 0 xo yo := ⟨by omega, fun i h => absurd h (Nat.not_lt_zero i)⟩
theorem op_1 {K c d T L V U E P F : Nat} {A B G : Nat → Nat} (hU : U < 200) (m : Int32) (h : rr_H K (rr_need 1) c d T L V (U + 1) E P F A B G xpb xpf xsx xsy xcx xcy ype dk dv sr rs rk rv ct ru pl be mx xo st cp pa pn fx fy tx ty fi cr cv ln kd nm mt co wi sv bx bo ex ey yo) :
    ∃ (r : Int32) (u' : SX) (v' : SY), rr_Z K (rr_ph (U + 1) T A) r u' v' ∧ (∀ post : Int32 → SX → Prop, post r u' → wpX_operate post (nI d, nI c, nI (T + 1), 0, nI (U + 1), -1, nI V, nI L, nI E, xpb, xpf, xsx, xsy, xcx, xcy, dk, dv, sr, rs, rk, rv, ct, ru, pl, be, mx, xo, st, cp, pa, pn, fx, fy, tx, ty, fi, cr, cv) 1 m) ∧ (∀ post : SY → Prop, post v' → wpY_operator post (nI c, nI K, nI V, nI L, nI (T + 1), nI P, nI E, nI (rr_need 1), nI U, 0, -1, ype, sr, ln, kd, nm, mt, co, wi, cp, pa, pn, ru, pl, sv, be, mx, bx, bo, ex, ey, fx, fy, tx, ty, yo) 1 m) := by
  obtain ⟨hd, hs, hp, ho, hc, hK, hf, hl, hm, hb⟩ := h
  obtain ⟨hTV, hV, hLT⟩ := rr_frb hf
  obtain ⟨r, P', F', xpb', xpf', xsx', xsy', xcx', xcy', ype', bx', bo', ex', ey', hps, _, hX, hY⟩ := sp_move hV hs hm hb (xo 0) (xo 1)
  refine ⟨r, (nI d, nI c, nI (T + 1), 0, nI (U + 1), -1, nI V, nI L, nI E, xpb', xpf', xsx', xsy', xcx', xcy', dk, dv, sr, rs, rk, rv, ct, ru, pl, be, mx, xo, st, cp, pa, pn, fx, fy, tx, ty, fi, cr, cv), (nI c, nI K, nI V, nI L, nI (T + 1), nI P', nI E, 0, nI (U + 1), r, -1, ype', sr, ln, kd, nm, mt, co, wi, cp, pa, pn, ru, pl, sv, be, mx, bx', bo', ex', ey', fx, fy, tx, ty, yo), ?_, ?_, ?_⟩
  · by_cases z : r = 0
    · subst z
      exact Or.inl ⟨rfl, _, Nat.le_add_right _ _, ⟨_, _, _, _, _, _, _, _, _, _, _, _, _, _, _, _, _, _, _, _, _, _, _, _, _, _, _, _, _, _, _, _, _, _, _, _, _, _, _, _, _, _, _, _, _, _, _, _, _, _, _, _, _, _, rfl, rfl, rfl, hd, hs, hp, rr_op0, hc, hK, hf, hl, (hps rfl).1, (hps rfl).2⟩⟩
    · exact Or.inr ⟨z, ⟨_, _, _, _, _, _, _, _, _, _, _, _, _, _, _, _, _, _, _, _, _, _, _, _, _, _, _, _, _, _, _, _, _, _, _, _, _, _, _, _, _, _, _, _, _, _, _, _, _, _, _, _, _, _, _, _, _, rfl, rfl, hd, hs, hp⟩⟩
  · intro post H
    refine br_f (by decide) (br_f (by decide) (br_t rfl ?_))
    unfold wX_operate_84
    refine br_t rfl ?_
    unfold wX_operate_107
    exact hX _ H
  · intro post H
    unfold wpY_operator
    refine yp_wt (br_t rfl (pk_eq U 200 (fun z => absurd z (by omega)) (fun _ => nm_r (nI_1 U) (nm_r (ho.2 0 (by decide)).symm (nm_r (ho.2 1 (by decide)).symm (br_t rfl (?_)))))))
    exact hY _ (br_t (by decide) (br_f (by decide) (H)))
theorem op_2 {K c d T L V U E P F : Nat} {A B G : Nat → Nat} (hU : U < 200) (m : Int32) (h : rr_H K (rr_need 2) c d T L V (U + 1) E P F A B G xpb xpf xsx xsy xcx xcy ype dk dv sr rs rk rv ct ru pl be mx xo st cp pa pn fx fy tx ty fi cr cv ln kd nm mt co wi sv bx bo ex ey yo) :
    ∃ (r : Int32) (u' : SX) (v' : SY), rr_Z K (rr_ph (U + 1) T A) r u' v' ∧ (∀ post : Int32 → SX → Prop, post r u' → wpX_operate post (nI d, nI c, nI (T + 1), 0, nI (U + 1), -1, nI V, nI L, nI E, xpb, xpf, xsx, xsy, xcx, xcy, dk, dv, sr, rs, rk, rv, ct, ru, pl, be, mx, xo, st, cp, pa, pn, fx, fy, tx, ty, fi, cr, cv) 2 m) ∧ (∀ post : SY → Prop, post v' → wpY_operator post (nI c, nI K, nI V, nI L, nI (T + 1), nI P, nI E, nI (rr_need 2), nI U, 0, -1, ype, sr, ln, kd, nm, mt, co, wi, cp, pa, pn, ru, pl, sv, be, mx, bx, bo, ex, ey, fx, fy, tx, ty, yo) 2 m) := by
  obtain ⟨hd, hs, hp, ho, hc, hK, hf, hl, hm, hb⟩ := h
  obtain ⟨hTV, hV, hLT⟩ := rr_frb hf
  obtain ⟨r, E', xcx', xcy', ype', fx', fy', tx', ty', fi', ex', ey', hps, hX, hY⟩ := sp_line hV hs hm hb (xo 0) (xo 1)
  refine ⟨r, (nI d, nI c, nI (T + 1), 0, nI (U + 1), -1, nI V, nI L, nI E', xpb, xpf, xsx, xsy, xcx', xcy', dk, dv, sr, rs, rk, rv, ct, ru, pl, be, mx, xo, st, cp, pa, pn, fx', fy', tx', ty', fi', cr, cv), (nI c, nI K, nI V, nI L, nI (T + 1), nI P, nI E', 0, nI (U + 1), r, -1, ype', sr, ln, kd, nm, mt, co, wi, cp, pa, pn, ru, pl, sv, be, mx, bx, bo, ex', ey', fx', fy', tx', ty', yo), ?_, ?_, ?_⟩
  · by_cases z : r = 0
    · subst z
      exact Or.inl ⟨rfl, _, Nat.le_add_right _ _, ⟨_, _, _, _, _, _, _, _, _, _, _, _, _, _, _, _, _, _, _, _, _, _, _, _, _, _, _, _, _, _, _, _, _, _, _, _, _, _, _, _, _, _, _, _, _, _, _, _, _, _, _, _, _, _, rfl, rfl, rfl, hd, hs, hp, rr_op0, hc, hK, hf, hl, (hps rfl).1, (hps rfl).2⟩⟩
    · exact Or.inr ⟨z, ⟨_, _, _, _, _, _, _, _, _, _, _, _, _, _, _, _, _, _, _, _, _, _, _, _, _, _, _, _, _, _, _, _, _, _, _, _, _, _, _, _, _, _, _, _, _, _, _, _, _, _, _, _, _, _, _, _, _, rfl, rfl, hd, hs, hp⟩⟩
  · intro post H
    refine br_f (by decide) (br_f (by decide) (br_f (by decide) (br_t rfl ?_)))
    unfold wX_operate_84
    refine br_f (by decide) ?_
    unfold wX_operate_107
    exact hX _ H
  · intro post H
    unfold wpY_operator
    refine yp_wt (br_t rfl (pk_eq U 200 (fun z => absurd z (by omega)) (fun _ => nm_r (nI_1 U) (nm_r (ho.2 0 (by decide)).symm (nm_r (ho.2 1 (by decide)).symm (br_f (by decide) (br_t rfl (?_))))))))
    exact hY _ (br_t (by decide) (br_f (by decide) (H)))
theorem op_3 {K c d T L V U E P F : Nat} {A B G : Nat → Nat} (hU : U < 200) (m : Int32) (h : rr_H K (rr_need 3) c d T L V (U + 1) E P F A B G xpb xpf xsx xsy xcx xcy ype dk dv sr rs rk rv ct ru pl be mx xo st cp pa pn fx fy tx ty fi cr cv ln kd nm mt co wi sv bx bo ex ey yo) :
    ∃ (r : Int32) (u' : SX) (v' : SY), rr_Z K (rr_ph (U + 1) T A) r u' v' ∧ (∀ post : Int32 → SX → Prop, post r u' → wpX_operate post (nI d, nI c, nI (T + 1), 0, nI (U + 1), -1, nI V, nI L, nI E, xpb, xpf, xsx, xsy, xcx, xcy, dk, dv, sr, rs, rk, rv, ct, ru, pl, be, mx, xo, st, cp, pa, pn, fx, fy, tx, ty, fi, cr, cv) 3 m) ∧ (∀ post : SY → Prop, post v' → wpY_operator post (nI c, nI K, nI V, nI L, nI (T + 1), nI P, nI E, nI (rr_need 3), nI U, 0, -1, ype, sr, ln, kd, nm, mt, co, wi, cp, pa, pn, ru, pl, sv, be, mx, bx, bo, ex, ey, fx, fy, tx, ty, yo) 3 m) := by
  obtain ⟨hd, hs, hp, ho, hc, hK, hf, hl, hm, hb⟩ := h
  obtain ⟨hTV, hV, hLT⟩ := rr_frb hf
  obtain ⟨r, E', xcx', xcy', ype', fx', fy', tx', ty', fi', ex', ey', hps, hX, hY⟩ := sp_close hm hb
  refine ⟨r, (nI d, nI c, nI (T + 1), 0, nI (U + 1), -1, nI V, nI L, nI E', xpb, xpf, xsx, xsy, xcx', xcy', dk, dv, sr, rs, rk, rv, ct, ru, pl, be, mx, xo, st, cp, pa, pn, fx', fy', tx', ty', fi', cr, cv), (nI c, nI K, nI V, nI L, nI (T + 1), nI P, nI E', 0, nI (U + 1), r, -1, ype', sr, ln, kd, nm, mt, co, wi, cp, pa, pn, ru, pl, sv, be, mx, bx, bo, ex', ey', fx', fy', tx', ty', yo), ?_, ?_, ?_⟩
  · by_cases z : r = 0
    · subst z
      exact Or.inl ⟨rfl, _, Nat.le_add_right _ _, ⟨_, _, _, _, _, _, _, _, _, _, _, _, _, _, _, _, _, _, _, _, _, _, _, _, _, _, _, _, _, _, _, _, _, _, _, _, _, _, _, _, _, _, _, _, _, _, _, _, _, _, _, _, _, _, rfl, rfl, rfl, hd, hs, hp, rr_op0, hc, hK, hf, hl, (hps rfl).1, (hps rfl).2⟩⟩
    · exact Or.inr ⟨z, ⟨_, _, _, _, _, _, _, _, _, _, _, _, _, _, _, _, _, _, _, _, _, _, _, _, _, _, _, _, _, _, _, _, _, _, _, _, _, _, _, _, _, _, _, _, _, _, _, _, _, _, _, _, _, _, _, _, _, rfl, rfl, hd, hs, hp⟩⟩
  · intro post H
    refine br_f (by decide) (br_f (by decide) (br_f (by decide) (br_f (by decide) (br_t rfl ?_))))
    exact hX _ H
  · intro post H
    unfold wpY_operator
    refine yp_wt (br_t rfl (pk_eq U 200 (fun z => absurd z (by omega)) (fun _ => nm_r (nI_1 U) (nm_e (nm_e (br_f (by decide) (br_f (by decide) (br_t rfl (?_)))))))))
    exact hY _ (br_t (by decide) (br_f (by decide) (H)))
theorem op_4 {K c d T L V U E P F : Nat} {A B G : Nat → Nat} (hU : U < 200) (m : Int32) (h : rr_H K (rr_need 4) c d T L V (U + 1) E P F A B G xpb xpf xsx xsy xcx xcy ype dk dv sr rs rk rv ct ru pl be mx xo st cp pa pn fx fy tx ty fi cr cv ln kd nm mt co wi sv bx bo ex ey yo) :
    ∃ (r : Int32) (u' : SX) (v' : SY), rr_Z K (rr_ph (U + 1) T A) r u' v' ∧ (∀ post : Int32 → SX → Prop, post r u' → wpX_operate post (nI d, nI c, nI (T + 1), 0, nI (U + 1), -1, nI V, nI L, nI E, xpb, xpf, xsx, xsy, xcx, xcy, dk, dv, sr, rs, rk, rv, ct, ru, pl, be, mx, xo, st, cp, pa, pn, fx, fy, tx, ty, fi, cr, cv) 4 m) ∧ (∀ post : SY → Prop, post v' → wpY_operator post (nI c, nI K, nI V, nI L, nI (T + 1), nI P, nI E, nI (rr_need 4), nI U, 0, -1, ype, sr, ln, kd, nm, mt, co, wi, cp, pa, pn, ru, pl, sv, be, mx, bx, bo, ex, ey, fx, fy, tx, ty, yo) 4 m) := by
  obtain ⟨hd, hs, hp, ho, hc, hK, hf, hl, hm, hb⟩ := h
  obtain ⟨hTV, hV, hLT⟩ := rr_frb hf
  obtain ⟨r, E', P', F', xpb', xpf', xsx', xsy', xcx', xcy', ype', fx', fy', tx', ty', fi', bx', bo', ex', ey', hps, hX, hY⟩ := sp_rect (xo := xo) hV hs hm hb
  refine ⟨r, (nI d, nI c, nI (T + 1), 0, nI (U + 1), -1, nI V, nI L, nI E', xpb', xpf', xsx', xsy', xcx', xcy', dk, dv, sr, rs, rk, rv, ct, ru, pl, be, mx, xo, st, cp, pa, pn, fx', fy', tx', ty', fi', cr, cv), (nI c, nI K, nI V, nI L, nI (T + 1), nI P', nI E', 0, nI (U + 1), r, -1, ype', sr, ln, kd, nm, mt, co, wi, cp, pa, pn, ru, pl, sv, be, mx, bx', bo', ex', ey', fx', fy', tx', ty', yo), ?_, ?_, ?_⟩
  · by_cases z : r = 0
    · subst z
      exact Or.inl ⟨rfl, _, Nat.le_add_right _ _, ⟨_, _, _, _, _, _, _, _, _, _, _, _, _, _, _, _, _, _, _, _, _, _, _, _, _, _, _, _, _, _, _, _, _, _, _, _, _, _, _, _, _, _, _, _, _, _, _, _, _, _, _, _, _, _, rfl, rfl, rfl, hd, hs, hp, rr_op0, hc, hK, hf, hl, (hps rfl).1, (hps rfl).2⟩⟩
    · exact Or.inr ⟨z, ⟨_, _, _, _, _, _, _, _, _, _, _, _, _, _, _, _, _, _, _, _, _, _, _, _, _, _, _, _, _, _, _, _, _, _, _, _, _, _, _, _, _, _, _, _, _, _, _, _, _, _, _, _, _, _, _, _, _, rfl, rfl, hd, hs, hp⟩⟩
  · intro post H
    refine br_f (by decide) (br_f (by decide) (br_f (by decide) (br_f (by decide) (br_f (by decide) (br_t rfl ?_)))))
    exact hX _ H
  · intro post H
    unfold wpY_operator
    refine yp_wt (br_t rfl (pk_eq U 200 (fun z => absurd z (by omega)) (fun _ => nm_r (nI_1 U) (nm_r (ho.2 0 (by decide)).symm (nm_r (ho.2 1 (by decide)).symm (br_f (by decide) (br_f (by decide) (br_f (by decide) (br_t rfl (?_))))))))))
    rw [← ho.2 2 (by decide), ← ho.2 3 (by decide)]
    exact hY _ (br_t (by decide) (br_f (by decide) (H)))
theorem ma_pathP {E P F : Nat} {xpb xsx xsy xcx xcy : Int32} {fx fy tx ty fi bx bo ex ey : Nat → Int32} (h : ma_path E P F xpb xsx xsy xcx xcy fx fy tx ty fi bx bo ex ey) : P ≤ 25 := by
  have hE := h.1
  rcases h.2.2.2.2.2 with ⟨_, hP, _⟩ | ⟨_, p, hp, hpE, _⟩
  · omega
  · omega
theorem ma_pathS {E P F : Nat} {xpb xsx xsy xcx xcy : Int32} {fx fy tx ty fi bx bo ex ey : Nat → Int32} (h : ma_path E P F xpb xsx xsy xcx xcy fx fy tx ty fi bx bo ex ey) : ∀ t, t < 192 → -100 ≤ ma_sum (ma_T E fx fy tx ty fi t) E ∧ ma_sum (ma_T E fx fy tx ty fi t) E ≤ 100 := by
  intro t _
  have hE := h.1
  have hP := ma_pathP h
  rw [ma_ST h.2.2.2.2.1 t]
  have hs := ma_SM E P fx fy tx ty bx bo ex ey t
  omega
theorem rr_gfc {pa cv cz cp : Nat → Int32} {x x' : Int32} {bV bL t : Nat} (h : cv t = cz t) (hx : x = x') : rr_gf pa cv cp x bV bL t = rr_gf pa cz cp x' bV bL t := by
  unfold rr_gf
  rw [h, hx]
theorem rr_gkc {cp cv cz : Nat → Int32} {bV t : Nat} (h : cv t = cz t) : rr_gk cp cv bV t = rr_gk cp cz bV t := by
  unfold rr_gk
  rw [h]
theorem rr_paf {pa cz cp : Nat → Int32} {x : Int32} {bV bL : Nat} (h : rr_pa pa) (hx : rr_c1 x) : rr_pa (ma_w pa (rr_gf pa cz cp x bV bL) bL 192) := by
  refine ma_wall (P := fun x => x = -1 ∨ rr_c1 x) h (fun t _ => ?_)
  unfold rr_gf
  split
  · exact h _
  · split
    · exact h _
    · exact Or.inr hx
theorem op_5 {K c d T L V U E P F : Nat} {A B G : Nat → Nat} (hU : U < 200) (m : Int32) (h : rr_H K (rr_need 5) c d T L V (U + 1) E P F A B G xpb xpf xsx xsy xcx xcy ype dk dv sr rs rk rv ct ru pl be mx xo st cp pa pn fx fy tx ty fi cr cv ln kd nm mt co wi sv bx bo ex ey yo) :
    ∃ (r : Int32) (u' : SX) (v' : SY), rr_Z K (rr_ph (U + 1) T A) r u' v' ∧ (∀ post : Int32 → SX → Prop, post r u' → wpX_operate post (nI d, nI c, nI (T + 1), 0, nI (U + 1), -1, nI V, nI L, nI E, xpb, xpf, xsx, xsy, xcx, xcy, dk, dv, sr, rs, rk, rv, ct, ru, pl, be, mx, xo, st, cp, pa, pn, fx, fy, tx, ty, fi, cr, cv) 5 m) ∧ (∀ post : SY → Prop, post v' → wpY_operator post (nI c, nI K, nI V, nI L, nI (T + 1), nI P, nI E, nI (rr_need 5), nI U, 0, -1, ype, sr, ln, kd, nm, mt, co, wi, cp, pa, pn, ru, pl, sv, be, mx, bx, bo, ex, ey, fx, fy, tx, ty, yo) 5 m) := by
  obtain ⟨hd, hs, hp, ho, hc, hK, hf, hl, hm, hb⟩ := h
  obtain ⟨hTV, hV, hLT⟩ := rr_frb hf
  have hst6 : st (8 * V + 6) = co V := (hs V (by omega)).2.1
  have hst7 : st (8 * V + 7) = wi V := (hs V (by omega)).2.2.1
  have hcv : ∀ t, t < 192 → (ma_w cv (fun t => ma_ins 0 (ma_sum (ma_T E fx fy tx ty fi t) E)) 0 192) t = (rr_hit 5 E P fx fy tx ty bx bo ex ey (wi V)) t := by
    intro t ht
    rw [ma_wg0 ht, ma_ST hm.2.2.2.2.1 t]
    rfl
  have ep : ma_w pa (rr_gf pa (ma_w cv (fun t => ma_ins 0 (ma_sum (ma_T E fx fy tx ty fi t) E)) 0 192) cp (st (8 * V + 6)) (192 * V) (192 * L)) (192 * L) 192 = ma_w pa (rr_gf pa (rr_hit 5 E P fx fy tx ty bx bo ex ey (wi V)) cp (co V) (192 * V) (192 * L)) (192 * L) 192 := ma_wc (fun t ht => rr_gfc (hcv t ht) hst6)
  have en : ma_w pn (rr_gf pn (ma_w cv (fun t => ma_ins 0 (ma_sum (ma_T E fx fy tx ty fi t) E)) 0 192) cp m (192 * V) (192 * L)) (192 * L) 192 = ma_w pn (rr_gf pn (rr_hit 5 E P fx fy tx ty bx bo ex ey (wi V)) cp m (192 * V) (192 * L)) (192 * L) 192 := ma_wc (fun t ht => rr_gfc (hcv t ht) rfl)
  refine ⟨0, (nI d, nI c, nI (T + 1), 0, nI (U + 1), -1, nI V, nI L, 0, 0, xpf, xsx, xsy, xcx, xcy, dk, dv, sr, rs, rk, rv, ct, ru, pl, be, mx, xo, st, cp, ma_w pa (rr_gf pa (rr_hit 5 E P fx fy tx ty bx bo ex ey (wi V)) cp (co V) (192 * V) (192 * L)) (192 * L) 192, ma_w pn (rr_gf pn (rr_hit 5 E P fx fy tx ty bx bo ex ey (wi V)) cp m (192 * V) (192 * L)) (192 * L) 192, fx, fy, tx, ty, fi, ma_w cr (rr_ck E fx fy tx ty fi E) 0 192, ma_w cv (fun t => ma_ins 0 (ma_sum (ma_T E fx fy tx ty fi t) E)) 0 192), (nI c, nI K, nI V, nI L, nI (T + 1), 0, 0, 0, nI (U + 1), 0, -1, ype, sr, ln, kd, nm, mt, co, wi, cp, ma_w pa (rr_gf pa (rr_hit 5 E P fx fy tx ty bx bo ex ey (wi V)) cp (co V) (192 * V) (192 * L)) (192 * L) 192, ma_w pn (rr_gf pn (rr_hit 5 E P fx fy tx ty bx bo ex ey (wi V)) cp m (192 * V) (192 * L)) (192 * L) 192, ru, pl, sv, be, mx, bx, bo, ex, ey, fx, fy, tx, ty, yo), Or.inl ⟨rfl, _, Nat.le_add_right _ _, ⟨_, _, _, _, _, _, _, _, _, _, _, _, _, _, _, _, _, _, _, _, _, _, _, _, _, _, _, _, _, _, _, _, _, _, _, _, _, _, _, _, _, _, _, _, _, _, _, _, _, _, _, _, _, _, rfl, rfl, rfl, hd, hs, rr_paf hp (hs V (by omega)).2.2.2, rr_op0, hc, hK, hf, hl, ma_p0 F xsx xsy xcx xcy fx fy tx ty fi bx bo ex ey, fun z => absurd z (by decide)⟩⟩, ?_, ?_⟩
  · intro post H
    refine br_f (by decide) (br_f (by decide) (br_f (by decide) (br_f (by decide) (br_f (by decide) (br_f (by decide) (br_t rfl ?_))))))
    unfold wX_operate_129
    refine br_f (by decide) ?_
    unfold wX_operate_141
    refine xp_ci hm.1 hm.2.1 hm.2.2.1 (ma_pathS hm) (xp_pc hV (by omega) ?_)
    rw [ep, en]
    exact H
  · intro post H
    unfold wpY_operator
    refine yp_wt (br_t rfl (pk_eq U 200 (fun z => absurd z (by omega)) (fun _ => nm_r (nI_1 U) (nm_e (nm_e (br_f (by decide) (br_f (by decide) (br_f (by decide) (br_f (by decide) (br_t rfl (?_)))))))))))
    unfold wY_operator_149
    exact yp_fi hV (by omega) hm.1 (ma_pathP hm) hm.2.1 hm.2.2.2.1 (br_f (by decide) (br_t (by decide) (H)))
theorem op_6 {K c d T L V U E P F : Nat} {A B G : Nat → Nat} (hU : U < 200) (m : Int32) (h : rr_H K (rr_need 6) c d T L V (U + 1) E P F A B G xpb xpf xsx xsy xcx xcy ype dk dv sr rs rk rv ct ru pl be mx xo st cp pa pn fx fy tx ty fi cr cv ln kd nm mt co wi sv bx bo ex ey yo) :
    ∃ (r : Int32) (u' : SX) (v' : SY), rr_Z K (rr_ph (U + 1) T A) r u' v' ∧ (∀ post : Int32 → SX → Prop, post r u' → wpX_operate post (nI d, nI c, nI (T + 1), 0, nI (U + 1), -1, nI V, nI L, nI E, xpb, xpf, xsx, xsy, xcx, xcy, dk, dv, sr, rs, rk, rv, ct, ru, pl, be, mx, xo, st, cp, pa, pn, fx, fy, tx, ty, fi, cr, cv) 6 m) ∧ (∀ post : SY → Prop, post v' → wpY_operator post (nI c, nI K, nI V, nI L, nI (T + 1), nI P, nI E, nI (rr_need 6), nI U, 0, -1, ype, sr, ln, kd, nm, mt, co, wi, cp, pa, pn, ru, pl, sv, be, mx, bx, bo, ex, ey, fx, fy, tx, ty, yo) 6 m) := by
  obtain ⟨hd, hs, hp, ho, hc, hK, hf, hl, hm, hb⟩ := h
  obtain ⟨hTV, hV, hLT⟩ := rr_frb hf
  have hst6 : st (8 * V + 6) = co V := (hs V (by omega)).2.1
  have hst7 : st (8 * V + 7) = wi V := (hs V (by omega)).2.2.1
  have hcv : ∀ t, t < 192 → (ma_w cv (fun t => ma_ins 1 (ma_sum (ma_T E fx fy tx ty fi t) E)) 0 192) t = (rr_hit 6 E P fx fy tx ty bx bo ex ey (wi V)) t := by
    intro t ht
    rw [ma_wg0 ht, ma_ST hm.2.2.2.2.1 t]
    rfl
  have ep : ma_w pa (rr_gf pa (ma_w cv (fun t => ma_ins 1 (ma_sum (ma_T E fx fy tx ty fi t) E)) 0 192) cp (st (8 * V + 6)) (192 * V) (192 * L)) (192 * L) 192 = ma_w pa (rr_gf pa (rr_hit 6 E P fx fy tx ty bx bo ex ey (wi V)) cp (co V) (192 * V) (192 * L)) (192 * L) 192 := ma_wc (fun t ht => rr_gfc (hcv t ht) hst6)
  have en : ma_w pn (rr_gf pn (ma_w cv (fun t => ma_ins 1 (ma_sum (ma_T E fx fy tx ty fi t) E)) 0 192) cp m (192 * V) (192 * L)) (192 * L) 192 = ma_w pn (rr_gf pn (rr_hit 6 E P fx fy tx ty bx bo ex ey (wi V)) cp m (192 * V) (192 * L)) (192 * L) 192 := ma_wc (fun t ht => rr_gfc (hcv t ht) rfl)
  refine ⟨0, (nI d, nI c, nI (T + 1), 0, nI (U + 1), -1, nI V, nI L, 0, 0, xpf, xsx, xsy, xcx, xcy, dk, dv, sr, rs, rk, rv, ct, ru, pl, be, mx, xo, st, cp, ma_w pa (rr_gf pa (rr_hit 6 E P fx fy tx ty bx bo ex ey (wi V)) cp (co V) (192 * V) (192 * L)) (192 * L) 192, ma_w pn (rr_gf pn (rr_hit 6 E P fx fy tx ty bx bo ex ey (wi V)) cp m (192 * V) (192 * L)) (192 * L) 192, fx, fy, tx, ty, fi, ma_w cr (rr_ck E fx fy tx ty fi E) 0 192, ma_w cv (fun t => ma_ins 1 (ma_sum (ma_T E fx fy tx ty fi t) E)) 0 192), (nI c, nI K, nI V, nI L, nI (T + 1), 0, 0, 0, nI (U + 1), 0, -1, ype, sr, ln, kd, nm, mt, co, wi, cp, ma_w pa (rr_gf pa (rr_hit 6 E P fx fy tx ty bx bo ex ey (wi V)) cp (co V) (192 * V) (192 * L)) (192 * L) 192, ma_w pn (rr_gf pn (rr_hit 6 E P fx fy tx ty bx bo ex ey (wi V)) cp m (192 * V) (192 * L)) (192 * L) 192, ru, pl, sv, be, mx, bx, bo, ex, ey, fx, fy, tx, ty, yo), Or.inl ⟨rfl, _, Nat.le_add_right _ _, ⟨_, _, _, _, _, _, _, _, _, _, _, _, _, _, _, _, _, _, _, _, _, _, _, _, _, _, _, _, _, _, _, _, _, _, _, _, _, _, _, _, _, _, _, _, _, _, _, _, _, _, _, _, _, _, rfl, rfl, rfl, hd, hs, rr_paf hp (hs V (by omega)).2.2.2, rr_op0, hc, hK, hf, hl, ma_p0 F xsx xsy xcx xcy fx fy tx ty fi bx bo ex ey, fun z => absurd z (by decide)⟩⟩, ?_, ?_⟩
  · intro post H
    refine br_f (by decide) (br_f (by decide) (br_f (by decide) (br_f (by decide) (br_f (by decide) (br_f (by decide) (br_f (by decide) (br_t rfl ?_)))))))
    unfold wX_operate_129
    refine br_t rfl ?_
    unfold wX_operate_141
    refine xp_ci hm.1 hm.2.1 hm.2.2.1 (ma_pathS hm) (xp_pc hV (by omega) ?_)
    rw [ep, en]
    exact H
  · intro post H
    unfold wpY_operator
    refine yp_wt (br_t rfl (pk_eq U 200 (fun z => absurd z (by omega)) (fun _ => nm_r (nI_1 U) (nm_e (nm_e (br_f (by decide) (br_f (by decide) (br_f (by decide) (br_f (by decide) (br_f (by decide) (br_t rfl (?_))))))))))))
    unfold wY_operator_149
    exact yp_fi hV (by omega) hm.1 (ma_pathP hm) hm.2.1 hm.2.2.2.1 (br_f (by decide) (br_t (by decide) (H)))
theorem op_15 {K c d T L V U E P F : Nat} {A B G : Nat → Nat} (hU : U < 200) (m : Int32) (h : rr_H K (rr_need 15) c d T L V (U + 1) E P F A B G xpb xpf xsx xsy xcx xcy ype dk dv sr rs rk rv ct ru pl be mx xo st cp pa pn fx fy tx ty fi cr cv ln kd nm mt co wi sv bx bo ex ey yo) :
    ∃ (r : Int32) (u' : SX) (v' : SY), rr_Z K (rr_ph (U + 1) T A) r u' v' ∧ (∀ post : Int32 → SX → Prop, post r u' → wpX_operate post (nI d, nI c, nI (T + 1), 0, nI (U + 1), -1, nI V, nI L, nI E, xpb, xpf, xsx, xsy, xcx, xcy, dk, dv, sr, rs, rk, rv, ct, ru, pl, be, mx, xo, st, cp, pa, pn, fx, fy, tx, ty, fi, cr, cv) 15 m) ∧ (∀ post : SY → Prop, post v' → wpY_operator post (nI c, nI K, nI V, nI L, nI (T + 1), nI P, nI E, nI (rr_need 15), nI U, 0, -1, ype, sr, ln, kd, nm, mt, co, wi, cp, pa, pn, ru, pl, sv, be, mx, bx, bo, ex, ey, fx, fy, tx, ty, yo) 15 m) := by
  obtain ⟨hd, hs, hp, ho, hc, hK, hf, hl, hm, hb⟩ := h
  obtain ⟨hTV, hV, hLT⟩ := rr_frb hf
  have hst6 : st (8 * V + 6) = co V := (hs V (by omega)).2.1
  have hst7 : st (8 * V + 7) = wi V := (hs V (by omega)).2.2.1
  have hcv : ∀ t, t < 192 → (ma_w cv (rr_cn fx fy tx ty (st (8 * V + 7)) E) 0 192) t = (rr_hit 15 E P fx fy tx ty bx bo ex ey (wi V)) t := by
    intro t ht
    rw [ma_wg0 ht, hst7]
    rfl
  have ep : ma_w pa (rr_gf pa (ma_w cv (rr_cn fx fy tx ty (st (8 * V + 7)) E) 0 192) cp (st (8 * V + 6)) (192 * V) (192 * L)) (192 * L) 192 = ma_w pa (rr_gf pa (rr_hit 15 E P fx fy tx ty bx bo ex ey (wi V)) cp (co V) (192 * V) (192 * L)) (192 * L) 192 := ma_wc (fun t ht => rr_gfc (hcv t ht) hst6)
  have en : ma_w pn (rr_gf pn (ma_w cv (rr_cn fx fy tx ty (st (8 * V + 7)) E) 0 192) cp m (192 * V) (192 * L)) (192 * L) 192 = ma_w pn (rr_gf pn (rr_hit 15 E P fx fy tx ty bx bo ex ey (wi V)) cp m (192 * V) (192 * L)) (192 * L) 192 := ma_wc (fun t ht => rr_gfc (hcv t ht) rfl)
  refine ⟨0, (nI d, nI c, nI (T + 1), 0, nI (U + 1), -1, nI V, nI L, 0, 0, xpf, xsx, xsy, xcx, xcy, dk, dv, sr, rs, rk, rv, ct, ru, pl, be, mx, xo, st, cp, ma_w pa (rr_gf pa (rr_hit 15 E P fx fy tx ty bx bo ex ey (wi V)) cp (co V) (192 * V) (192 * L)) (192 * L) 192, ma_w pn (rr_gf pn (rr_hit 15 E P fx fy tx ty bx bo ex ey (wi V)) cp m (192 * V) (192 * L)) (192 * L) 192, fx, fy, tx, ty, fi, cr, ma_w cv (rr_cn fx fy tx ty (st (8 * V + 7)) E) 0 192), (nI c, nI K, nI V, nI L, nI (T + 1), 0, 0, 0, nI (U + 1), 0, -1, ype, sr, ln, kd, nm, mt, co, wi, cp, ma_w pa (rr_gf pa (rr_hit 15 E P fx fy tx ty bx bo ex ey (wi V)) cp (co V) (192 * V) (192 * L)) (192 * L) 192, ma_w pn (rr_gf pn (rr_hit 15 E P fx fy tx ty bx bo ex ey (wi V)) cp m (192 * V) (192 * L)) (192 * L) 192, ru, pl, sv, be, mx, bx, bo, ex, ey, fx, fy, tx, ty, yo), Or.inl ⟨rfl, _, Nat.le_add_right _ _, ⟨_, _, _, _, _, _, _, _, _, _, _, _, _, _, _, _, _, _, _, _, _, _, _, _, _, _, _, _, _, _, _, _, _, _, _, _, _, _, _, _, _, _, _, _, _, _, _, _, _, _, _, _, _, _, rfl, rfl, rfl, hd, hs, rr_paf hp (hs V (by omega)).2.2.2, rr_op0, hc, hK, hf, hl, ma_p0 F xsx xsy xcx xcy fx fy tx ty fi bx bo ex ey, fun z => absurd z (by decide)⟩⟩, ?_, ?_⟩
  · intro post H
    refine br_f (by decide) (br_f (by decide) (br_f (by decide) (br_f (by decide) (br_f (by decide) (br_f (by decide) (br_f (by decide) (br_f (by decide) (br_f (by decide) (br_f (by decide) (br_f (by decide) (br_f (by decide) (br_f (by decide) (br_f (by decide) (br_f (by decide) (br_f (by decide) (br_t rfl ?_))))))))))))))))
    refine xp_li hm.1 hV hm.2.1 (xp_pc hV (by omega) ?_)
    rw [ep, en]
    exact H
  · intro post H
    unfold wpY_operator
    refine yp_wt (br_t rfl (pk_eq U 200 (fun z => absurd z (by omega)) (fun _ => nm_r (nI_1 U) (nm_e (nm_e (br_f (by decide) (br_f (by decide) (br_f (by decide) (br_f (by decide) (br_f (by decide) (br_f (by decide) (br_t rfl (?_)))))))))))))
    unfold wY_operator_149
    exact yp_fi hV (by omega) hm.1 (ma_pathP hm) hm.2.1 hm.2.2.2.1 (br_f (by decide) (br_f (by decide) (br_t rfl (H))))
theorem op_7 {K c d T L V U E P F : Nat} {A B G : Nat → Nat} (hU : U < 200) (m : Int32) (h : rr_H K (rr_need 7) c d T L V (U + 1) E P F A B G xpb xpf xsx xsy xcx xcy ype dk dv sr rs rk rv ct ru pl be mx xo st cp pa pn fx fy tx ty fi cr cv ln kd nm mt co wi sv bx bo ex ey yo) :
    ∃ (r : Int32) (u' : SX) (v' : SY), rr_Z K (rr_ph (U + 1) T A) r u' v' ∧ (∀ post : Int32 → SX → Prop, post r u' → wpX_operate post (nI d, nI c, nI (T + 1), 0, nI (U + 1), -1, nI V, nI L, nI E, xpb, xpf, xsx, xsy, xcx, xcy, dk, dv, sr, rs, rk, rv, ct, ru, pl, be, mx, xo, st, cp, pa, pn, fx, fy, tx, ty, fi, cr, cv) 7 m) ∧ (∀ post : SY → Prop, post v' → wpY_operator post (nI c, nI K, nI V, nI L, nI (T + 1), nI P, nI E, nI (rr_need 7), nI U, 0, -1, ype, sr, ln, kd, nm, mt, co, wi, cp, pa, pn, ru, pl, sv, be, mx, bx, bo, ex, ey, fx, fy, tx, ty, yo) 7 m) := by
  obtain ⟨hd, hs, hp, ho, hc, hK, hf, hl, hm, hb⟩ := h
  obtain ⟨hTV, hV, hLT⟩ := rr_frb hf
  have ep : ma_w cp (rr_gk cp (ma_w cv (fun t => ma_ins 0 (ma_sum (ma_T E fx fy tx ty fi t) E)) 0 192) (192 * V)) (192 * V) 192 = ma_w cp (rr_gk cp (fun t => ma_ins (if (7 : Int32) = 8 then 1 else 0) (ma_S E P fx fy tx ty bx bo ex ey t)) (192 * V)) (192 * V) 192 := ma_wc (fun t ht => rr_gkc (by
    rw [ma_wg0 ht, ma_ST hm.2.2.2.2.1 t]
    rfl))
  refine ⟨0, (nI d, nI c, nI (T + 1), 0, nI (U + 1), -1, nI V, nI L, 0, 0, xpf, xsx, xsy, xcx, xcy, dk, dv, sr, rs, rk, rv, ct, ru, pl, be, mx, xo, st, ma_w cp (rr_gk cp (fun t => ma_ins (if (7 : Int32) = 8 then 1 else 0) (ma_S E P fx fy tx ty bx bo ex ey t)) (192 * V)) (192 * V) 192, pa, pn, fx, fy, tx, ty, fi, ma_w cr (rr_ck E fx fy tx ty fi E) 0 192, ma_w cv (fun t => ma_ins 0 (ma_sum (ma_T E fx fy tx ty fi t) E)) 0 192), (nI c, nI K, nI V, nI L, nI (T + 1), 0, 0, 0, nI (U + 1), 0, -1, ype, sr, ln, kd, nm, mt, co, wi, ma_w cp (rr_gk cp (fun t => ma_ins (if (7 : Int32) = 8 then 1 else 0) (ma_S E P fx fy tx ty bx bo ex ey t)) (192 * V)) (192 * V) 192, pa, pn, ru, pl, sv, be, mx, bx, bo, ex, ey, fx, fy, tx, ty, yo), Or.inl ⟨rfl, _, Nat.le_add_right _ _, ⟨_, _, _, _, _, _, _, _, _, _, _, _, _, _, _, _, _, _, _, _, _, _, _, _, _, _, _, _, _, _, _, _, _, _, _, _, _, _, _, _, _, _, _, _, _, _, _, _, _, _, _, _, _, _, rfl, rfl, rfl, hd, hs, hp, rr_op0, hc, hK, hf, hl, ma_p0 F xsx xsy xcx xcy fx fy tx ty fi bx bo ex ey, fun z => absurd z (by decide)⟩⟩, ?_, ?_⟩
  · intro post H
    refine br_f (by decide) (br_f (by decide) (br_f (by decide) (br_f (by decide) (br_f (by decide) (br_f (by decide) (br_f (by decide) (br_f (by decide) (br_t rfl ?_))))))))
    unfold wX_operate_170
    refine br_f (by decide) ?_
    unfold wX_operate_182
    refine xp_ci hm.1 hm.2.1 hm.2.2.1 (ma_pathS hm) (xp_cc hV ?_)
    rw [ep]
    exact H
  · intro post H
    unfold wpY_operator
    refine yp_wt (br_t rfl (pk_eq U 200 (fun z => absurd z (by omega)) (fun _ => nm_r (nI_1 U) (nm_e (nm_e (br_f (by decide) (br_f (by decide) (br_f (by decide) (br_f (by decide) (br_f (by decide) (br_f (by decide) (br_f (by decide) (br_t rfl (?_))))))))))))))
    unfold wY_operator_170
    exact yp_cu hV hm.1 (ma_pathP hm) hm.2.1 hm.2.2.2.1 (br_f (by decide) (br_t (by decide) (H)))
theorem op_8 {K c d T L V U E P F : Nat} {A B G : Nat → Nat} (hU : U < 200) (m : Int32) (h : rr_H K (rr_need 8) c d T L V (U + 1) E P F A B G xpb xpf xsx xsy xcx xcy ype dk dv sr rs rk rv ct ru pl be mx xo st cp pa pn fx fy tx ty fi cr cv ln kd nm mt co wi sv bx bo ex ey yo) :
    ∃ (r : Int32) (u' : SX) (v' : SY), rr_Z K (rr_ph (U + 1) T A) r u' v' ∧ (∀ post : Int32 → SX → Prop, post r u' → wpX_operate post (nI d, nI c, nI (T + 1), 0, nI (U + 1), -1, nI V, nI L, nI E, xpb, xpf, xsx, xsy, xcx, xcy, dk, dv, sr, rs, rk, rv, ct, ru, pl, be, mx, xo, st, cp, pa, pn, fx, fy, tx, ty, fi, cr, cv) 8 m) ∧ (∀ post : SY → Prop, post v' → wpY_operator post (nI c, nI K, nI V, nI L, nI (T + 1), nI P, nI E, nI (rr_need 8), nI U, 0, -1, ype, sr, ln, kd, nm, mt, co, wi, cp, pa, pn, ru, pl, sv, be, mx, bx, bo, ex, ey, fx, fy, tx, ty, yo) 8 m) := by
  obtain ⟨hd, hs, hp, ho, hc, hK, hf, hl, hm, hb⟩ := h
  obtain ⟨hTV, hV, hLT⟩ := rr_frb hf
  have ep : ma_w cp (rr_gk cp (ma_w cv (fun t => ma_ins 1 (ma_sum (ma_T E fx fy tx ty fi t) E)) 0 192) (192 * V)) (192 * V) 192 = ma_w cp (rr_gk cp (fun t => ma_ins (if (8 : Int32) = 8 then 1 else 0) (ma_S E P fx fy tx ty bx bo ex ey t)) (192 * V)) (192 * V) 192 := ma_wc (fun t ht => rr_gkc (by
    rw [ma_wg0 ht, ma_ST hm.2.2.2.2.1 t]
    rfl))
  refine ⟨0, (nI d, nI c, nI (T + 1), 0, nI (U + 1), -1, nI V, nI L, 0, 0, xpf, xsx, xsy, xcx, xcy, dk, dv, sr, rs, rk, rv, ct, ru, pl, be, mx, xo, st, ma_w cp (rr_gk cp (fun t => ma_ins (if (8 : Int32) = 8 then 1 else 0) (ma_S E P fx fy tx ty bx bo ex ey t)) (192 * V)) (192 * V) 192, pa, pn, fx, fy, tx, ty, fi, ma_w cr (rr_ck E fx fy tx ty fi E) 0 192, ma_w cv (fun t => ma_ins 1 (ma_sum (ma_T E fx fy tx ty fi t) E)) 0 192), (nI c, nI K, nI V, nI L, nI (T + 1), 0, 0, 0, nI (U + 1), 0, -1, ype, sr, ln, kd, nm, mt, co, wi, ma_w cp (rr_gk cp (fun t => ma_ins (if (8 : Int32) = 8 then 1 else 0) (ma_S E P fx fy tx ty bx bo ex ey t)) (192 * V)) (192 * V) 192, pa, pn, ru, pl, sv, be, mx, bx, bo, ex, ey, fx, fy, tx, ty, yo), Or.inl ⟨rfl, _, Nat.le_add_right _ _, ⟨_, _, _, _, _, _, _, _, _, _, _, _, _, _, _, _, _, _, _, _, _, _, _, _, _, _, _, _, _, _, _, _, _, _, _, _, _, _, _, _, _, _, _, _, _, _, _, _, _, _, _, _, _, _, rfl, rfl, rfl, hd, hs, hp, rr_op0, hc, hK, hf, hl, ma_p0 F xsx xsy xcx xcy fx fy tx ty fi bx bo ex ey, fun z => absurd z (by decide)⟩⟩, ?_, ?_⟩
  · intro post H
    refine br_f (by decide) (br_f (by decide) (br_f (by decide) (br_f (by decide) (br_f (by decide) (br_f (by decide) (br_f (by decide) (br_f (by decide) (br_f (by decide) (br_t rfl ?_)))))))))
    unfold wX_operate_170
    refine br_t rfl ?_
    unfold wX_operate_182
    refine xp_ci hm.1 hm.2.1 hm.2.2.1 (ma_pathS hm) (xp_cc hV ?_)
    rw [ep]
    exact H
  · intro post H
    unfold wpY_operator
    refine yp_wt (br_t rfl (pk_eq U 200 (fun z => absurd z (by omega)) (fun _ => nm_r (nI_1 U) (nm_e (nm_e (br_f (by decide) (br_f (by decide) (br_f (by decide) (br_f (by decide) (br_f (by decide) (br_f (by decide) (br_f (by decide) (br_f (by decide) (br_t rfl (?_)))))))))))))))
    unfold wY_operator_170
    exact yp_cu hV hm.1 (ma_pathP hm) hm.2.1 hm.2.2.2.1 (br_f (by decide) (br_t (by decide) (H)))
theorem op_9 {K c d T L V U E P F : Nat} {A B G : Nat → Nat} (hU : U < 200) (m : Int32) (h : rr_H K (rr_need 9) c d T L V (U + 1) E P F A B G xpb xpf xsx xsy xcx xcy ype dk dv sr rs rk rv ct ru pl be mx xo st cp pa pn fx fy tx ty fi cr cv ln kd nm mt co wi sv bx bo ex ey yo) :
    ∃ (r : Int32) (u' : SX) (v' : SY), rr_Z K (rr_ph (U + 1) T A) r u' v' ∧ (∀ post : Int32 → SX → Prop, post r u' → wpX_operate post (nI d, nI c, nI (T + 1), 0, nI (U + 1), -1, nI V, nI L, nI E, xpb, xpf, xsx, xsy, xcx, xcy, dk, dv, sr, rs, rk, rv, ct, ru, pl, be, mx, xo, st, cp, pa, pn, fx, fy, tx, ty, fi, cr, cv) 9 m) ∧ (∀ post : SY → Prop, post v' → wpY_operator post (nI c, nI K, nI V, nI L, nI (T + 1), nI P, nI E, nI (rr_need 9), nI U, 0, -1, ype, sr, ln, kd, nm, mt, co, wi, cp, pa, pn, ru, pl, sv, be, mx, bx, bo, ex, ey, fx, fy, tx, ty, yo) 9 m) := by
  obtain ⟨hd, hs, hp, ho, hc, hK, hf, hl, hm, hb⟩ := h
  obtain ⟨hTV, hV, hLT⟩ := rr_frb hf
  refine ⟨0, (nI d, nI c, nI (T + 1), 0, nI (U + 1), -1, nI V, nI L, 0, 0, xpf, xsx, xsy, xcx, xcy, dk, dv, sr, rs, rk, rv, ct, ru, pl, be, mx, xo, st, cp, pa, pn, fx, fy, tx, ty, fi, cr, cv), (nI c, nI K, nI V, nI L, nI (T + 1), 0, 0, 0, nI (U + 1), 0, -1, ype, sr, ln, kd, nm, mt, co, wi, cp, pa, pn, ru, pl, sv, be, mx, bx, bo, ex, ey, fx, fy, tx, ty, yo), Or.inl ⟨rfl, _, Nat.le_add_right _ _, ⟨_, _, _, _, _, _, _, _, _, _, _, _, _, _, _, _, _, _, _, _, _, _, _, _, _, _, _, _, _, _, _, _, _, _, _, _, _, _, _, _, _, _, _, _, _, _, _, _, _, _, _, _, _, _, rfl, rfl, rfl, hd, hs, hp, rr_op0, hc, hK, hf, hl, ma_p0 F xsx xsy xcx xcy fx fy tx ty fi bx bo ex ey, fun z => absurd z (by decide)⟩⟩, ?_, ?_⟩
  · intro post H
    refine br_f (by decide) (br_f (by decide) (br_f (by decide) (br_f (by decide) (br_f (by decide) (br_f (by decide) (br_f (by decide) (br_f (by decide) (br_f (by decide) (br_f (by decide) (br_t rfl ?_))))))))))
    exact H
  · intro post H
    unfold wpY_operator
    refine yp_wt (br_t rfl (pk_eq U 200 (fun z => absurd z (by omega)) (fun _ => nm_r (nI_1 U) (nm_e (nm_e (br_f (by decide) (br_f (by decide) (br_f (by decide) (br_f (by decide) (br_f (by decide) (br_f (by decide) (br_f (by decide) (br_f (by decide) (br_f (by decide) (br_f (by decide) (br_f (by decide) (br_f (by decide) (br_f (by decide) (br_f (by decide) (br_f (by decide) (br_f (by decide) (?_))))))))))))))))))))))
    exact br_f (by decide) (br_t (by decide) (H))
end
section
variable {xds xrc xde xoc xun xfp xsc xtl xec xpb xpf xsx xsy xcx xcy yrc ysh yle yla yde ypa yed yoc yun yfa ywh ype : Int32} {dk dv sr rs rk rv ct ru pl be mx xo st cp pa pn fx fy tx ty fi cr cv ln kd nm mt co wi sv bx bo ex ey yo : Nat → Int32}
/-! drawing a stream, each side -/
theorem xd_busy {post : Int32 → SX → Prop} {T : Nat} {s a : Int32} (hT : T + 1 ≤ 7) (H : post 6 (xds, xrc, nI (T + 1), xoc, xun, xfp, xsc, xtl, xec, xpb, xpf, xsx, xsy, xcx, xcy, dk, dv, sr, rs, rk, rv, ct, ru, pl, be, mx, xo, st, cp, pa, pn, fx, fy, tx, ty, fi, cr, cv)) : ∀ d i, i + d = T + 1 → (∃ f, i ≤ f ∧ f < T + 1 ∧ ru f = s) → wX_drawStream_14 post s a xds xrc (nI (T + 1)) xoc xun xfp xsc xtl xec xpb xpf xsx xsy xcx xcy dk dv sr rs rk rv ct ru pl be mx xo st cp pa pn fx fy tx ty fi cr cv (d + 1) (nI i) := by
  intro d
  induction d with
  | zero =>
    intro i hi hf
    obtain ⟨f, h1, h2, _⟩ := hf
    omega
  | succ d ih =>
    intro i hi hf
    have c : (nI i).toNatClampNeg = i := pk_cl i
    refine pk_le (T + 1) i (fun h => absurd h (by omega)) (fun _ => ⟨pk_in i 7 (by omega), ?_⟩)
    rw [c]
    by_cases z : ru i = s
    · exact br_t z H
    · refine br_f z (nm_r (nI_1 i) (ih (i + 1) (by omega) ?_))
      obtain ⟨f, h1, h2, h3⟩ := hf
      refine ⟨f, ?_, h2, h3⟩
      have : f ≠ i := fun e => z (by rw [← e]; exact h3)
      omega
theorem xd_free {post : Int32 → SX → Prop} {T : Nat} {s a : Int32} (hT : T + 1 ≤ 7) (hn : ∀ f, f < T + 1 → ru f ≠ s) (H : wX_drawStream_14 post s a xds xrc (nI (T + 1)) xoc xun xfp xsc xtl xec xpb xpf xsx xsy xcx xcy dk dv sr rs rk rv ct ru pl be mx xo st cp pa pn fx fy tx ty fi cr cv 1 (nI (T + 1))) : ∀ d i, i + d = T + 1 → wX_drawStream_14 post s a xds xrc (nI (T + 1)) xoc xun xfp xsc xtl xec xpb xpf xsx xsy xcx xcy dk dv sr rs rk rv ct ru pl be mx xo st cp pa pn fx fy tx ty fi cr cv (d + 1) (nI i) := by
  intro d
  induction d with
  | zero =>
    intro i hi
    have e : i = T + 1 := by omega
    rw [e]
    exact H
  | succ d ih =>
    intro i hi
    have c : (nI i).toNatClampNeg = i := pk_cl i
    refine pk_le (T + 1) i (fun h => absurd h (by omega)) (fun _ => ⟨pk_in i 7 (by omega), ?_⟩)
    rw [c]
    exact br_f (hn i (by omega)) (nm_r (nI_1 i) (ih (i + 1) (by omega)))
theorem xp_dr3 {post : Int32 → SX → Prop} {s a : Int32} (h : s < 0 ∨ 6 ≤ s) (H : post 3 (xds, xrc, xde, xoc, xun, xfp, xsc, xtl, xec, xpb, xpf, xsx, xsy, xcx, xcy, dk, dv, sr, rs, rk, rv, ct, ru, pl, be, mx, xo, st, cp, pa, pn, fx, fy, tx, ty, fi, cr, cv)) : wpX_drawStream post (xds, xrc, xde, xoc, xun, xfp, xsc, xtl, xec, xpb, xpf, xsx, xsy, xcx, xcy, dk, dv, sr, rs, rk, rv, ct, ru, pl, be, mx, xo, st, cp, pa, pn, fx, fy, tx, ty, fi, cr, cv) s a := br_c (fun _ => H) (fun h1 => br_c (fun h2 => h.elim (fun z => absurd z h1) (fun z => absurd h2 (Int32.not_lt.mpr z))) (fun _ => H))
theorem xp_dr6 {post : Int32 → SX → Prop} {T V j : Nat} {a : Int32} (hj : j < 6) (hT : T + 1 ≤ 7) (hb : (∃ f, f < T + 1 ∧ ru f = nI j) ∨ V = 6) (H : post 6 (xds, xrc, nI (T + 1), xoc, xun, xfp, nI V, xtl, xec, xpb, xpf, xsx, xsy, xcx, xcy, dk, dv, sr, rs, rk, rv, ct, ru, pl, be, mx, xo, st, cp, pa, pn, fx, fy, tx, ty, fi, cr, cv)) : wpX_drawStream post (xds, xrc, nI (T + 1), xoc, xun, xfp, nI V, xtl, xec, xpb, xpf, xsx, xsy, xcx, xcy, dk, dv, sr, rs, rk, rv, ct, ru, pl, be, mx, xo, st, cp, pa, pn, fx, fy, tx, ty, fi, cr, cv) (nI j) a := by
  refine br_f (nI_pos (by omega)) (pk_lt j 6 (fun _ => ?_) (fun h => absurd h (by omega)))
  by_cases hr : ∃ f, f < T + 1 ∧ ru f = nI j
  · obtain ⟨f, h1, h2⟩ := hr
    exact ⟨_, xd_busy hT H (T + 1) 0 (by omega) ⟨f, by omega, h1, h2⟩⟩
  · have hV : V = 6 := hb.elim (fun z => absurd z hr) id
    exact ⟨_, xd_free hT (fun f h1 h2 => hr ⟨f, h1, h2⟩) (pk_le (T + 1) (T + 1) (fun _ => xp_sv6 hV (br_f (by decide) H)) (fun h => absurd h (by omega))) (T + 1) 0 (by omega)⟩
theorem xp_dr0 {post : Int32 → SX → Prop} {T V j : Nat} {a : Int32} (hj : j < 6) (hT : T + 1 < 7) (hV : V < 6) (hn : ∀ f, f < T + 1 → ru f ≠ nI j)
    (H : post 0 (xds, xrc, nI (T + 1 + 1), 0, xun, xfp, nI (V + 1), xtl, 0, 0, xpf, xsx, xsy, xcx, xcy, dk, dv, sr, rs, rk, rv, ct, upd ru (T + 1) (nI j), upd pl (T + 1) 0, upd be (T + 1) (nI (V + 1)), upd mx (T + 1) a, xo, ma_w st (fun n => st (8 * V + n)) (8 * V + 8) 8, ma_w cp (rr_gs cp (192 * V)) (192 * V + 192) 192, pa, pn, fx, fy, tx, ty, fi, cr, cv)) :
    wpX_drawStream post (xds, xrc, nI (T + 1), xoc, xun, xfp, nI V, xtl, xec, xpb, xpf, xsx, xsy, xcx, xcy, dk, dv, sr, rs, rk, rv, ct, ru, pl, be, mx, xo, st, cp, pa, pn, fx, fy, tx, ty, fi, cr, cv) (nI j) a := by
  refine br_f (nI_pos (by omega)) (pk_lt j 6 (fun _ => ?_) (fun h => absurd h (by omega)))
  have c : (nI (T + 1)).toNatClampNeg = T + 1 := pk_cl (T + 1)
  have hin : vp_in (nI (T + 1)) 7 := pk_in (T + 1) 7 (by omega)
  exact ⟨_, xd_free (by omega) hn (pk_le (T + 1) (T + 1) (fun _ => xp_sv hV (br_t rfl ⟨hin, nm_r (by rw [c]) ⟨hin, nm_r (by rw [c]) ⟨hin, nm_r (by rw [c]) ⟨hin, nm_r (by rw [c]) (nm_r (nI_1 (T + 1)) H)⟩⟩⟩⟩)) (fun h => absurd h (by omega))) (T + 1) 0 (by omega)⟩
/-! the reference -/
theorem yd_b1 {post : SY → Prop} {T : Nat} {s a : Int32} (hT : T + 1 ≤ 7) (H : post (yrc, ysh, yle, yla, nI (T + 1), ypa, yed, yoc, yun, 6, ywh, ype, sr, ln, kd, nm, mt, co, wi, cp, pa, pn, ru, pl, sv, be, mx, bx, bo, ex, ey, fx, fy, tx, ty, yo)) : ∀ d i, i + d = T + 1 → wY_draw_33 post s a yrc ysh yle yla (nI (T + 1)) ypa yed yoc yun yfa ywh ype sr ln kd nm mt co wi cp pa pn ru pl sv be mx bx bo ex ey fx fy tx ty yo (d + 1) 1 (nI i) := by
  intro d
  induction d with
  | zero =>
    intro i hi
    have e : i = T + 1 := by omega
    rw [e]
    exact pk_le (T + 1) (T + 1) (fun _ => br_f (by decide) H) (fun h => absurd h (by omega))
  | succ d ih =>
    intro i hi
    have h := ih (i + 1) (by omega)
    exact pk_le (T + 1) i (fun h => absurd h (by omega)) (fun _ => ⟨pk_in i 8 (by omega), br_c (fun _ => nm_r (nI_1 i) h) (fun _ => nm_r (nI_1 i) h)⟩)
theorem yd_busy {post : SY → Prop} {T : Nat} {s a : Int32} (hT : T + 1 ≤ 7) (H : post (yrc, ysh, yle, yla, nI (T + 1), ypa, yed, yoc, yun, 6, ywh, ype, sr, ln, kd, nm, mt, co, wi, cp, pa, pn, ru, pl, sv, be, mx, bx, bo, ex, ey, fx, fy, tx, ty, yo)) : ∀ d i, i + d = T + 1 → (∃ f, i ≤ f ∧ f < T + 1 ∧ ru f = s) → wY_draw_33 post s a yrc ysh yle yla (nI (T + 1)) ypa yed yoc yun yfa ywh ype sr ln kd nm mt co wi cp pa pn ru pl sv be mx bx bo ex ey fx fy tx ty yo (d + 1) 0 (nI i) := by
  intro d
  induction d with
  | zero =>
    intro i hi hf
    obtain ⟨f, h1, h2, _⟩ := hf
    omega
  | succ d ih =>
    intro i hi hf
    have c : (nI i).toNatClampNeg = i := pk_cl i
    refine pk_le (T + 1) i (fun h => absurd h (by omega)) (fun _ => ⟨pk_in i 8 (by omega), ?_⟩)
    rw [c]
    by_cases z : ru i = s
    · exact br_t z (nm_r (nI_1 i) (yd_b1 hT H d (i + 1) (by omega)))
    · refine br_f z (nm_r (nI_1 i) (ih (i + 1) (by omega) ?_))
      obtain ⟨f, h1, h2, h3⟩ := hf
      refine ⟨f, ?_, h2, h3⟩
      have : f ≠ i := fun e => z (by rw [← e]; exact h3)
      omega
theorem yd_free {post : SY → Prop} {T : Nat} {s a : Int32} (hT : T + 1 ≤ 7) (hn : ∀ f, f < T + 1 → ru f ≠ s) (H : wY_draw_33 post s a yrc ysh yle yla (nI (T + 1)) ypa yed yoc yun yfa ywh ype sr ln kd nm mt co wi cp pa pn ru pl sv be mx bx bo ex ey fx fy tx ty yo 1 0 (nI (T + 1))) : ∀ d i, i + d = T + 1 → wY_draw_33 post s a yrc ysh yle yla (nI (T + 1)) ypa yed yoc yun yfa ywh ype sr ln kd nm mt co wi cp pa pn ru pl sv be mx bx bo ex ey fx fy tx ty yo (d + 1) 0 (nI i) := by
  intro d
  induction d with
  | zero =>
    intro i hi
    have e : i = T + 1 := by omega
    rw [e]
    exact H
  | succ d ih =>
    intro i hi
    have c : (nI i).toNatClampNeg = i := pk_cl i
    refine pk_le (T + 1) i (fun h => absurd h (by omega)) (fun _ => ⟨pk_in i 8 (by omega), ?_⟩)
    rw [c]
    exact br_f (hn i (by omega)) (nm_r (nI_1 i) (ih (i + 1) (by omega)))
theorem yp_dr3 {post : SY → Prop} {s a : Int32} (h : s < 0 ∨ 6 ≤ s) (H : post (yrc, ysh, yle, yla, yde, ypa, yed, yoc, yun, 3, ywh, ype, sr, ln, kd, nm, mt, co, wi, cp, pa, pn, ru, pl, sv, be, mx, bx, bo, ex, ey, fx, fy, tx, ty, yo)) : wpY_draw post (yrc, ysh, yle, yla, yde, ypa, yed, yoc, yun, yfa, ywh, ype, sr, ln, kd, nm, mt, co, wi, cp, pa, pn, ru, pl, sv, be, mx, bx, bo, ex, ey, fx, fy, tx, ty, yo) s a := by
  refine br_c (fun _ => H) (fun h1 => br_c (fun h2 => ?_) (fun _ => H))
  rcases h with z | z
  · exact absurd z h1
  · rw [Int32.le_iff_toInt_le, show (5 : Int32).toInt = 5 from by decide] at h2
    rw [Int32.le_iff_toInt_le, show (6 : Int32).toInt = 6 from by decide] at z
    omega
theorem yp_dr6 {post : SY → Prop} {T V j : Nat} {a : Int32} (hj : j < 6) (hT : T + 1 ≤ 7) (hV6 : V ≤ 6) (hb : (∃ f, f < T + 1 ∧ ru f = nI j) ∨ V = 6) (H : post (yrc, ysh, nI V, yla, nI (T + 1), ypa, yed, yoc, yun, 6, ywh, ype, sr, ln, kd, nm, mt, co, wi, cp, pa, pn, ru, pl, sv, be, mx, bx, bo, ex, ey, fx, fy, tx, ty, yo)) : wpY_draw post (yrc, ysh, nI V, yla, nI (T + 1), ypa, yed, yoc, yun, yfa, ywh, ype, sr, ln, kd, nm, mt, co, wi, cp, pa, pn, ru, pl, sv, be, mx, bx, bo, ex, ey, fx, fy, tx, ty, yo) (nI j) a := by
  refine br_f (nI_pos (by omega)) (pk_le j 5 (fun _ => pk_eq V 6 (fun hV => ⟨_, yd_b1 hT H (T + 1) 0 (by omega)⟩) (fun hV => ?_)) (fun h => absurd h (by omega)))
  obtain ⟨f, h1, h2⟩ := hb.elim id (fun z => absurd z hV)
  exact ⟨_, yd_busy hT H (T + 1) 0 (by omega) ⟨f, by omega, h1, h2⟩⟩
theorem yp_op {post : SY → Prop} {T : Nat} {s a : Int32} (hT : T < 8) (H : post (yrc, ysh, yle, yla, nI (T + 1), ypa, yed, 0, yun, yfa, ywh, ype, sr, ln, kd, nm, mt, co, wi, cp, pa, pn, upd ru T s, upd pl T 0, upd sv T 0, upd be T yle, upd mx T a, bx, bo, ex, ey, fx, fy, tx, ty, yo)) : wpY_open post (yrc, ysh, yle, yla, nI T, ypa, yed, yoc, yun, yfa, ywh, ype, sr, ln, kd, nm, mt, co, wi, cp, pa, pn, ru, pl, sv, be, mx, bx, bo, ex, ey, fx, fy, tx, ty, yo) s a := by
  have c : (nI T).toNatClampNeg = T := pk_cl T
  have hin : vp_in (nI T) 8 := pk_in T 8 hT
  exact ⟨hin, nm_r (by rw [c]) ⟨hin, nm_r (by rw [c]) ⟨hin, nm_r (by rw [c]) ⟨hin, nm_r (by rw [c]) ⟨hin, nm_r (by rw [c]) (nm_r (nI_1 T) H)⟩⟩⟩⟩⟩
theorem yw_103 {post : SY → Prop} {s a : Int32} {L : Nat} (hL : L ≤ 6) (hp : wY_draw_151 post s a yrc ysh yle (nI L) yde ypa yed yoc yun yfa ywh ype sr ln kd nm mt co wi cp (ma_w pa (fun _ => -1) (192 * L) 192) (ma_w pn (fun _ => -1) (192 * L) 192) ru pl sv be mx bx bo ex ey fx fy tx ty yo) :
    ∀ d i, i + d = 192 → wY_draw_103 post s a yrc ysh yle (nI L) yde ypa yed yoc yun yfa ywh ype (d + 1) (nI i) sr ln kd nm mt co wi cp (ma_w pa (fun _ => -1) (192 * L) i) (ma_w pn (fun _ => -1) (192 * L) i) ru pl sv be mx bx bo ex ey fx fy tx ty yo := by
  intro d
  induction d with
  | zero =>
    intro i hi
    have e : i = 192 := by omega
    rw [e]
    exact pk_le 192 192 (fun _ => hp) (fun h => absurd h (by omega))
  | succ d ih =>
    intro i hi
    have eL : (192 : Int32) * nI L + nI i = nI (192 * L + i) := by
      rw [show (192 : Int32) * nI L = nI (192 * L) from mb_mr 192 L, nI_add]
    have hinL : vp_in ((192 : Int32) * nI L + nI i) 1344 := pk_in (192 * L + i) 1344 (by omega) eL
    have ecL : ((192 : Int32) * nI L + nI i).toNatClampNeg = 192 * L + i := pk_cl (192 * L + i) eL
    exact pk_le 192 i (fun h => absurd h (by omega)) (fun _ => ⟨hinL, nm_r (by rw [ecL]; exact ma_ws pa (fun _ => -1) (192 * L) i) ⟨hinL, nm_r (by rw [ecL]; exact ma_ws pn (fun _ => -1) (192 * L) i) (nm_r (nI_1 i) (ih (i + 1) (by omega)))⟩⟩)
theorem yp_dr0 {post : SY → Prop} {T V j : Nat} {a : Int32} (hj : j < 6) (hT : T + 1 < 7) (hV : V < 6) (hn : ∀ f, f < T + 1 → ru f ≠ nI j) (ha : a < 0)
    (H : post (yrc, ysh, nI (V + 1), yla, nI (T + 1 + 1), 0, 0, 0, yun, yfa, ywh, ype, sr, ln, kd, nm, ma_w mt (fun n => mt (6 * V + n)) (6 * V + 6) 6, upd co (V + 1) (co V), upd wi (V + 1) (wi V), ma_w cp (rr_gs cp (192 * V)) (192 * V + 192) 192, pa, pn, upd ru (T + 1) (nI j), upd pl (T + 1) 0, upd sv (T + 1) 0, upd be (T + 1) (nI (V + 1)), upd mx (T + 1) a, bx, bo, ex, ey, fx, fy, tx, ty, yo)) :
    wpY_draw post (yrc, ysh, nI V, yla, nI (T + 1), ypa, yed, yoc, yun, yfa, ywh, ype, sr, ln, kd, nm, mt, co, wi, cp, pa, pn, ru, pl, sv, be, mx, bx, bo, ex, ey, fx, fy, tx, ty, yo) (nI j) a := by
  refine br_f (nI_pos (by omega)) (pk_le j 5 (fun _ => pk_eq V 6 (fun h => absurd h (by omega)) (fun _ => ⟨_, yd_free (by omega) hn (pk_le (T + 1) (T + 1) (fun _ => br_t rfl (yp_ke hV (br_t ha ?_))) (fun h => absurd h (by omega))) (T + 1) 0 (by omega)⟩)) (fun h => absurd h (by omega)))
  unfold wY_draw_151
  exact yp_op (by omega) H
theorem yp_dr0g {post : SY → Prop} {T V L j : Nat} {a : Int32} (hj : j < 6) (hT : T + 1 < 7) (hV : V < 6) (hL : L < 6) (hn : ∀ f, f < T + 1 → ru f ≠ nI j) (ha : ¬ a < 0)
    (H : post (yrc, ysh, nI (V + 1), nI (L + 1), nI (T + 1 + 1), 0, 0, 0, yun, yfa, ywh, ype, sr, ln, kd, nm, ma_w mt (fun n => mt (6 * V + n)) (6 * V + 6) 6, upd co (V + 1) (co V), upd wi (V + 1) (wi V), ma_w cp (rr_gs cp (192 * V)) (192 * V + 192) 192, ma_w pa (fun _ => -1) (192 * (L + 1)) 192, ma_w pn (fun _ => -1) (192 * (L + 1)) 192, upd ru (T + 1) (nI j), upd pl (T + 1) 0, upd sv (T + 1) 0, upd be (T + 1) (nI (V + 1)), upd mx (T + 1) a, bx, bo, ex, ey, fx, fy, tx, ty, yo)) :
    wpY_draw post (yrc, ysh, nI V, nI L, nI (T + 1), ypa, yed, yoc, yun, yfa, ywh, ype, sr, ln, kd, nm, mt, co, wi, cp, pa, pn, ru, pl, sv, be, mx, bx, bo, ex, ey, fx, fy, tx, ty, yo) (nI j) a := by
  refine br_f (nI_pos (by omega)) (pk_le j 5 (fun _ => pk_eq V 6 (fun h => absurd h (by omega)) (fun _ => ⟨_, yd_free (by omega) hn (pk_le (T + 1) (T + 1) (fun _ => br_t rfl (yp_ke hV (br_f ha (nm_r (nI_1 L) ⟨193, ?_⟩)))) (fun h => absurd h (by omega))) (T + 1) 0 (by omega)⟩)) (fun h => absurd h (by omega)))
  have key := yw_103 (post := post) (s := nI j) (a := a) (L := L + 1) (pa := pa) (pn := pn) (sr := sr) (ln := ln) (kd := kd) (nm := nm) (mt := ma_w mt (fun n => mt (6 * V + n)) (6 * V + 6) 6) (co := upd co (V + 1) (co V)) (wi := upd wi (V + 1) (wi V)) (cp := ma_w cp (rr_gs cp (192 * V)) (192 * V + 192) 192) (ru := ru) (pl := pl) (sv := sv) (be := be) (mx := mx) (bx := bx) (bo := bo) (ex := ex) (ey := ey) (fx := fx) (fy := fy) (tx := tx) (ty := ty) (yo := yo) (yrc := yrc) (ysh := ysh) (yle := nI (V + 1)) (yde := nI (T + 1)) (ypa := 0) (yed := 0) (yoc := yoc) (yun := yun) (yfa := yfa) (ywh := ywh) (ype := ype) (by omega) (by
    unfold wY_draw_151
    exact yp_op (by omega) H) 192 0 rfl
  rw [ma_w0, ma_w0] at key
  exact key
/-! the matrix of the reference, its numbers -/
def rr_sm (x : Int32) : Prop := ¬ x < -50 ∧ ¬ 50 < x
theorem yp_sm1 {post : Int32 → Prop} {x : Int32} (h : rr_sm x) (H : post 1) : wpY_small post (yrc, ysh, yle, yla, yde, ypa, yed, yoc, yun, yfa, ywh, ype, sr, ln, kd, nm, mt, co, wi, cp, pa, pn, ru, pl, sv, be, mx, bx, bo, ex, ey, fx, fy, tx, ty, yo) x := br_f h.1 (br_f h.2 H)
theorem yp_sm0 {post : Int32 → Prop} {x : Int32} (h : ¬ rr_sm x) (H : post 0) : wpY_small post (yrc, ysh, yle, yla, yde, ypa, yed, yoc, yun, yfa, ywh, ype, sr, ln, kd, nm, mt, co, wi, cp, pa, pn, ru, pl, sv, be, mx, bx, bo, ex, ey, fx, fy, tx, ty, yo) x := br_c (fun _ => H) (fun a => br_c (fun _ => H) (fun b => absurd ⟨a, b⟩ h))
def rr_all (n0 n1 n2 n3 n4 n5 : Int32) : Prop := rr_sm n0 ∧ rr_sm n1 ∧ rr_sm n2 ∧ rr_sm n3 ∧ ma_bd 4000 n4 ∧ ma_bd 4000 n5
theorem yp_tr {post : SY → Prop} {V : Nat} (hV : V ≤ 6) {n0 n1 n2 n3 n4 n5 : Int32} (e0 : yo 0 * mt (6 * V) + yo 1 * mt (6 * V + 2) = n0) (e1 : yo 0 * mt (6 * V + 1) + yo 1 * mt (6 * V + 3) = n1) (e2 : yo 2 * mt (6 * V) + yo 3 * mt (6 * V + 2) = n2) (e3 : yo 2 * mt (6 * V + 1) + yo 3 * mt (6 * V + 3) = n3) (e4 : yo 4 * mt (6 * V) + yo 5 * mt (6 * V + 2) + mt (6 * V + 4) = n4) (e5 : yo 4 * mt (6 * V + 1) + yo 5 * mt (6 * V + 3) + mt (6 * V + 5) = n5)
    (H1 : rr_all n0 n1 n2 n3 n4 n5 → post (yrc, ysh, nI V, yla, yde, ypa, yed, yoc, yun, yfa, ywh, ype, sr, ln, kd, nm, rr_m6 mt (6 * V) n0 n1 n2 n3 n4 n5, co, wi, cp, pa, pn, ru, pl, sv, be, mx, bx, bo, ex, ey, fx, fy, tx, ty, yo)) (H0 : ¬ rr_all n0 n1 n2 n3 n4 n5 → post (yrc, ysh, nI V, yla, yde, ypa, yed, yoc, yun, 3, ywh, ype, sr, ln, kd, nm, mt, co, wi, cp, pa, pn, ru, pl, sv, be, mx, bx, bo, ex, ey, fx, fy, tx, ty, yo)) : wpY_transform post (yrc, ysh, nI V, yla, yde, ypa, yed, yoc, yun, yfa, ywh, ype, sr, ln, kd, nm, mt, co, wi, cp, pa, pn, ru, pl, sv, be, mx, bx, bo, ex, ey, fx, fy, tx, ty, yo) := by
  have c0 : (nI (6 * V)).toNatClampNeg = 6 * V := pk_cl (6 * V)
  have c1 : (nI (6 * V) + 1).toNatClampNeg = 6 * V + 1 := pk_cl (6 * V + 1) (nI_add (6 * V) 1)
  have c2 : (nI (6 * V) + 2).toNatClampNeg = 6 * V + 2 := pk_cl (6 * V + 2) (nI_add (6 * V) 2)
  have c3 : (nI (6 * V) + 3).toNatClampNeg = 6 * V + 3 := pk_cl (6 * V + 3) (nI_add (6 * V) 3)
  have c4 : (nI (6 * V) + 4).toNatClampNeg = 6 * V + 4 := pk_cl (6 * V + 4) (nI_add (6 * V) 4)
  have c5 : (nI (6 * V) + 5).toNatClampNeg = 6 * V + 5 := pk_cl (6 * V + 5) (nI_add (6 * V) 5)
  have i0 : vp_in (nI (6 * V)) 42 := pk_in (6 * V) 42 (by omega)
  have i1 : vp_in (nI (6 * V) + 1) 42 := pk_in (6 * V + 1) 42 (by omega) (nI_add (6 * V) 1)
  have i2 : vp_in (nI (6 * V) + 2) 42 := pk_in (6 * V + 2) 42 (by omega) (nI_add (6 * V) 2)
  have i3 : vp_in (nI (6 * V) + 3) 42 := pk_in (6 * V + 3) 42 (by omega) (nI_add (6 * V) 3)
  have i4 : vp_in (nI (6 * V) + 4) 42 := pk_in (6 * V + 4) 42 (by omega) (nI_add (6 * V) 4)
  have i5 : vp_in (nI (6 * V) + 5) 42 := pk_in (6 * V + 5) 42 (by omega) (nI_add (6 * V) 5)
  refine nm_r (mb_mr 6 V) ⟨i0, nm_r (by rw [c0]) ⟨i1, nm_r (by rw [c1]) ⟨i2, nm_r (by rw [c2]) ⟨i3, nm_r (by rw [c3]) (nm_e (nm_e (nm_e (nm_e (nm_e (nm_e (nm_r e0 (nm_r e1 (nm_r e2 (nm_r e3 ⟨i4, nm_r (e' := n4) (by rw [c4]; exact e4) ⟨i5, nm_r (e' := n5) (by rw [c5]; exact e5) ?_⟩⟩))))))))))⟩⟩⟩⟩
  by_cases s0 : rr_sm n0
  · by_cases s1 : rr_sm n1
    · by_cases s2 : rr_sm n2
      · by_cases s3 : rr_sm n3
        · by_cases s4 : ma_bd 4000 n4
          · by_cases s5 : ma_bd 4000 n5
            · exact yp_sm1 s0 (br_f (by decide) (yp_sm1 s1 (br_f (by decide) (yp_sm1 s2 (br_f (by decide) (yp_sm1 s3 (br_f (by decide) (yp_nr1 s4 (br_f (by decide) (yp_nr1 s5 (br_f (by decide) ⟨i0, nm_r (by rw [c0]) ⟨i1, nm_r (by rw [c1]) ⟨i2, nm_r (by rw [c2]) ⟨i3, nm_r (by rw [c3]) ⟨i4, nm_r (by rw [c4]) ⟨i5, nm_r (by rw [c5]; rfl) (H1 ⟨s0, s1, s2, s3, s4, s5⟩)⟩⟩⟩⟩⟩⟩)))))))))))
            · exact yp_sm1 s0 (br_f (by decide) (yp_sm1 s1 (br_f (by decide) (yp_sm1 s2 (br_f (by decide) (yp_sm1 s3 (br_f (by decide) (yp_nr1 s4 (br_f (by decide) (yp_nr0 s5 (br_t rfl (H0 (fun z => s5 z.2.2.2.2.2)))))))))))))
          · exact yp_sm1 s0 (br_f (by decide) (yp_sm1 s1 (br_f (by decide) (yp_sm1 s2 (br_f (by decide) (yp_sm1 s3 (br_f (by decide) (yp_nr0 s4 (br_t rfl (H0 (fun z => s4 z.2.2.2.2.1)))))))))))
        · exact yp_sm1 s0 (br_f (by decide) (yp_sm1 s1 (br_f (by decide) (yp_sm1 s2 (br_f (by decide) (yp_sm0 s3 (br_t rfl (H0 (fun z => s3 z.2.2.2.1)))))))))
      · exact yp_sm1 s0 (br_f (by decide) (yp_sm1 s1 (br_f (by decide) (yp_sm0 s2 (br_t rfl (H0 (fun z => s2 z.2.2.1)))))))
    · exact yp_sm1 s0 (br_f (by decide) (yp_sm0 s1 (br_t rfl (H0 (fun z => s1 z.2.1)))))
  · exact yp_sm0 s0 (br_t rfl (H0 (fun z => s0 z.1)))
theorem rr_oksm {xn : Nat → Int32} {i : Nat} (hi : i < 4) : rr_ok xn i ↔ rr_sm (xn i) := by
  unfold rr_ok rr_sm
  rw [show rr_lim i = 50 from if_neg (by omega), Int32.not_lt (a := 50)]
theorem rr_oknr {xn : Nat → Int32} {i : Nat} (hi : 4 ≤ i) : rr_ok xn i ↔ ma_bd 4000 (xn i) := by
  unfold rr_ok
  rw [mb_k, show rr_lim i = 4000 from if_pos hi, Int32.not_lt (a := 4000)]
theorem rr_okall {xn : Nat → Int32} : (∀ j, j < 6 → rr_ok xn j) ↔ rr_all (xn 0) (xn 1) (xn 2) (xn 3) (xn 4) (xn 5) := by
  constructor
  · intro h
    exact ⟨(rr_oksm (by omega)).mp (h 0 (by omega)), (rr_oksm (by omega)).mp (h 1 (by omega)), (rr_oksm (by omega)).mp (h 2 (by omega)), (rr_oksm (by omega)).mp (h 3 (by omega)), (rr_oknr (by omega)).mp (h 4 (by omega)), (rr_oknr (by omega)).mp (h 5 (by omega))⟩
  · intro h j hj
    obtain ⟨h0, h1, h2, h3, h4, h5⟩ := h
    have hn' : j = 0 ∨ j = 1 ∨ j = 2 ∨ j = 3 ∨ j = 4 ∨ j = 5 := by omega
    rcases hn' with rfl | rfl | rfl | rfl | rfl | rfl
    · exact (rr_oksm (by omega)).mpr h0
    · exact (rr_oksm (by omega)).mpr h1
    · exact (rr_oksm (by omega)).mpr h2
    · exact (rr_oksm (by omega)).mpr h3
    · exact (rr_oknr (by omega)).mpr h4
    · exact (rr_oknr (by omega)).mpr h5
end
section
variable {xds xrc xde xoc xun xfp xsc xtl xec xpb xpf xsx xsy xcx xcy yrc ysh yle yla yde ypa yed yoc yun yfa ywh ype : Int32} {dk dv sr rs rk rv ct ru pl be mx xo st cp pa pn fx fy tx ty fi cr cv ln kd nm mt co wi sv bx bo ex ey yo : Nat → Int32}
/-! the operators on the state -/
theorem op_10 {K c d T L V U E P F : Nat} {A B G : Nat → Nat} (hU : U < 200) (m : Int32) (h : rr_H K (rr_need 10) c d T L V (U + 1) E P F A B G xpb xpf xsx xsy xcx xcy ype dk dv sr rs rk rv ct ru pl be mx xo st cp pa pn fx fy tx ty fi cr cv ln kd nm mt co wi sv bx bo ex ey yo) :
    ∃ (r : Int32) (u' : SX) (v' : SY), rr_Z K (rr_ph (U + 1) T A) r u' v' ∧ (∀ post : Int32 → SX → Prop, post r u' → wpX_operate post (nI d, nI c, nI (T + 1), 0, nI (U + 1), -1, nI V, nI L, nI E, xpb, xpf, xsx, xsy, xcx, xcy, dk, dv, sr, rs, rk, rv, ct, ru, pl, be, mx, xo, st, cp, pa, pn, fx, fy, tx, ty, fi, cr, cv) 10 m) ∧ (∀ post : SY → Prop, post v' → wpY_operator post (nI c, nI K, nI V, nI L, nI (T + 1), nI P, nI E, nI (rr_need 10), nI U, 0, -1, ype, sr, ln, kd, nm, mt, co, wi, cp, pa, pn, ru, pl, sv, be, mx, bx, bo, ex, ey, fx, fy, tx, ty, yo) 10 m) := by
  obtain ⟨hd, hs, hp, ho, hc, hK, hf, hl, hm, hb⟩ := h
  obtain ⟨hTV, hV, hLT⟩ := rr_frb hf
  obtain ⟨_, _, _, beT, svT, _, _⟩ := hf.1 T (by omega)
  have hVB := hf.2.2.2.1
  have eT : nI (T + 1) - 1 = nI T := nI_pred T
  have cT : (nI (T + 1) - 1).toNatClampNeg = T := pk_cl T eT
  have i8 : vp_in (nI (T + 1) - 1) 8 := pk_in T 8 (by omega) eT
  have i7 : vp_in (nI (T + 1) - 1) 7 := pk_in T 7 (by omega) eT
  by_cases hV6 : V < 6
  · refine ⟨0, (nI d, nI c, nI (T + 1), 0, nI (U + 1), -1, nI (V + 1), nI L, nI E, xpb, xpf, xsx, xsy, xcx, xcy, dk, dv, sr, rs, rk, rv, ct, ru, pl, be, mx, xo, ma_w st (fun n => st (8 * V + n)) (8 * V + 8) 8, ma_w cp (rr_gs cp (192 * V)) (192 * V + 192) 192, pa, pn, fx, fy, tx, ty, fi, cr, cv), (nI c, nI K, nI (V + 1), nI L, nI (T + 1), nI P, nI E, 0, nI (U + 1), 0, -1, ype, sr, ln, kd, nm, ma_w mt (fun n => mt (6 * V + n)) (6 * V + 6) 6, upd co (V + 1) (co V), upd wi (V + 1) (wi V), ma_w cp (rr_gs cp (192 * V)) (192 * V + 192) 192, pa, pn, ru, pl, upd sv T (nI (G T + 1)), be, mx, bx, bo, ex, ey, fx, fy, tx, ty, yo), Or.inl ⟨rfl, _, Nat.le_add_right _ _, ⟨_, _, _, _, _, _, _, _, _, _, _, _, _, _, _, _, _, _, _, _, _, _, _, _, _, _, _, _, _, _, _, _, _, _, _, _, _, _, _, _, _, _, _, _, _, _, _, _, _, _, _, _, _, _, rfl, rfl, rfl, hd, rr_sts hs (by omega), hp, rr_op0, hc, hK, rr_frq hf hV6, hl, hm, hb⟩⟩, ?_, ?_⟩
    · intro post H
      refine br_f (by decide) (br_f (by decide) (br_f (by decide) (br_f (by decide) (br_f (by decide) (br_f (by decide) (br_f (by decide) (br_f (by decide) (br_f (by decide) (br_f (by decide) (br_f (by decide) (br_t rfl ?_)))))))))))
      exact xp_sv hV6 H
    · intro post H
      unfold wpY_operator
      refine yp_wt (br_t rfl (pk_eq U 200 (fun z => absurd z (by omega)) (fun _ => nm_r (nI_1 U) (nm_e (nm_e (br_f (by decide) (br_f (by decide) (br_f (by decide) (br_f (by decide) (br_f (by decide) (br_f (by decide) (br_f (by decide) (br_f (by decide) (br_f (by decide) (br_t rfl (?_))))))))))))))))
      exact pk_eq V 6 (fun z => absurd z (by omega)) (fun _ => yp_ke hV6 ⟨i8, i8, nm_r (by rw [cT, svT, nI_1]) (br_f (by decide) (br_f (by decide) (br_f (by decide) (H))))⟩)
  · have e6 : V = 6 := by omega
    refine ⟨6, (nI d, nI c, nI (T + 1), 0, nI (U + 1), -1, nI V, nI L, nI E, xpb, xpf, xsx, xsy, xcx, xcy, dk, dv, sr, rs, rk, rv, ct, ru, pl, be, mx, xo, st, cp, pa, pn, fx, fy, tx, ty, fi, cr, cv), (nI c, nI K, nI V, nI L, nI (T + 1), nI P, nI E, 0, nI (U + 1), 6, -1, ype, sr, ln, kd, nm, mt, co, wi, cp, pa, pn, ru, pl, sv, be, mx, bx, bo, ex, ey, fx, fy, tx, ty, yo), Or.inr ⟨by decide, ⟨_, _, _, _, _, _, _, _, _, _, _, _, _, _, _, _, _, _, _, _, _, _, _, _, _, _, _, _, _, _, _, _, _, _, _, _, _, _, _, _, _, _, _, _, _, _, _, _, _, _, _, _, _, _, _, _, _, rfl, rfl, hd, hs, hp⟩⟩, ?_, ?_⟩
    · intro post H
      refine br_f (by decide) (br_f (by decide) (br_f (by decide) (br_f (by decide) (br_f (by decide) (br_f (by decide) (br_f (by decide) (br_f (by decide) (br_f (by decide) (br_f (by decide) (br_f (by decide) (br_t rfl ?_)))))))))))
      exact xp_sv6 e6 H
    · intro post H
      unfold wpY_operator
      refine yp_wt (br_t rfl (pk_eq U 200 (fun z => absurd z (by omega)) (fun _ => nm_r (nI_1 U) (nm_e (nm_e (br_f (by decide) (br_f (by decide) (br_f (by decide) (br_f (by decide) (br_f (by decide) (br_f (by decide) (br_f (by decide) (br_f (by decide) (br_f (by decide) (br_t rfl (?_))))))))))))))))
      exact pk_eq V 6 (fun _ => br_f (by decide) (br_f (by decide) (br_f (by decide) (H)))) (fun z => absurd e6 z)
theorem op_11 {K c d T L V U E P F : Nat} {A B G : Nat → Nat} (hU : U < 200) (m : Int32) (h : rr_H K (rr_need 11) c d T L V (U + 1) E P F A B G xpb xpf xsx xsy xcx xcy ype dk dv sr rs rk rv ct ru pl be mx xo st cp pa pn fx fy tx ty fi cr cv ln kd nm mt co wi sv bx bo ex ey yo) :
    ∃ (r : Int32) (u' : SX) (v' : SY), rr_Z K (rr_ph (U + 1) T A) r u' v' ∧ (∀ post : Int32 → SX → Prop, post r u' → wpX_operate post (nI d, nI c, nI (T + 1), 0, nI (U + 1), -1, nI V, nI L, nI E, xpb, xpf, xsx, xsy, xcx, xcy, dk, dv, sr, rs, rk, rv, ct, ru, pl, be, mx, xo, st, cp, pa, pn, fx, fy, tx, ty, fi, cr, cv) 11 m) ∧ (∀ post : SY → Prop, post v' → wpY_operator post (nI c, nI K, nI V, nI L, nI (T + 1), nI P, nI E, nI (rr_need 11), nI U, 0, -1, ype, sr, ln, kd, nm, mt, co, wi, cp, pa, pn, ru, pl, sv, be, mx, bx, bo, ex, ey, fx, fy, tx, ty, yo) 11 m) := by
  obtain ⟨hd, hs, hp, ho, hc, hK, hf, hl, hm, hb⟩ := h
  obtain ⟨hTV, hV, hLT⟩ := rr_frb hf
  obtain ⟨_, _, _, beT, svT, _, _⟩ := hf.1 T (by omega)
  have hVB := hf.2.2.2.1
  have eT : nI (T + 1) - 1 = nI T := nI_pred T
  have cT : (nI (T + 1) - 1).toNatClampNeg = T := pk_cl T eT
  have i8 : vp_in (nI (T + 1) - 1) 8 := pk_in T 8 (by omega) eT
  have i7 : vp_in (nI (T + 1) - 1) 7 := pk_in T 7 (by omega) eT
  by_cases hG : G T = 0
  · refine ⟨6, (nI d, nI c, nI (T + 1), 0, nI (U + 1), -1, nI V, nI L, nI E, xpb, xpf, xsx, xsy, xcx, xcy, dk, dv, sr, rs, rk, rv, ct, ru, pl, be, mx, xo, st, cp, pa, pn, fx, fy, tx, ty, fi, cr, cv), (nI c, nI K, nI V, nI L, nI (T + 1), nI P, nI E, 0, nI (U + 1), 6, -1, ype, sr, ln, kd, nm, mt, co, wi, cp, pa, pn, ru, pl, sv, be, mx, bx, bo, ex, ey, fx, fy, tx, ty, yo), Or.inr ⟨by decide, ⟨_, _, _, _, _, _, _, _, _, _, _, _, _, _, _, _, _, _, _, _, _, _, _, _, _, _, _, _, _, _, _, _, _, _, _, _, _, _, _, _, _, _, _, _, _, _, _, _, _, _, _, _, _, _, _, _, _, rfl, rfl, hd, hs, hp⟩⟩, ?_, ?_⟩
    · intro post H
      refine br_f (by decide) (br_f (by decide) (br_f (by decide) (br_f (by decide) (br_f (by decide) (br_f (by decide) (br_f (by decide) (br_f (by decide) (br_f (by decide) (br_f (by decide) (br_f (by decide) (br_f (by decide) (br_t rfl ?_))))))))))))
      refine ⟨i7, ?_⟩
      rw [cT, beT]
      exact pk_lt (B T) V (fun z => absurd z (by omega)) (fun _ => H)
    · intro post H
      unfold wpY_operator
      refine yp_wt (br_t rfl (pk_eq U 200 (fun z => absurd z (by omega)) (fun _ => nm_r (nI_1 U) (nm_e (nm_e (br_f (by decide) (br_f (by decide) (br_f (by decide) (br_f (by decide) (br_f (by decide) (br_f (by decide) (br_f (by decide) (br_f (by decide) (br_f (by decide) (br_f (by decide) (br_t rfl (?_)))))))))))))))))
      refine ⟨i8, ?_⟩
      rw [cT, svT]
      exact pk_eq (G T) 0 (fun _ => br_f (by decide) (br_f (by decide) (br_f (by decide) (H)))) (fun z => absurd hG z)
  · have eV : nI V - 1 = nI (V - 1) := pk_sub (a := V) (b := 1) (by omega)
    have eG : nI (G T) - 1 = nI (G T - 1) := pk_sub (a := G T) (b := 1) (by omega)
    refine ⟨0, (nI d, nI c, nI (T + 1), 0, nI (U + 1), -1, nI (V - 1), nI L, nI E, xpb, xpf, xsx, xsy, xcx, xcy, dk, dv, sr, rs, rk, rv, ct, ru, pl, be, mx, xo, st, cp, pa, pn, fx, fy, tx, ty, fi, cr, cv), (nI c, nI K, nI (V - 1), nI L, nI (T + 1), nI P, nI E, 0, nI (U + 1), 0, -1, ype, sr, ln, kd, nm, mt, co, wi, cp, pa, pn, ru, pl, upd sv T (nI (G T - 1)), be, mx, bx, bo, ex, ey, fx, fy, tx, ty, yo), Or.inl ⟨rfl, _, Nat.le_add_right _ _, ⟨_, _, _, _, _, _, _, _, _, _, _, _, _, _, _, _, _, _, _, _, _, _, _, _, _, _, _, _, _, _, _, _, _, _, _, _, _, _, _, _, _, _, _, _, _, _, _, _, _, _, _, _, _, _, rfl, rfl, rfl, hd, hs, hp, rr_op0, hc, hK, rr_frQ hf (by omega), hl, hm, hb⟩⟩, ?_, ?_⟩
    · intro post H
      refine br_f (by decide) (br_f (by decide) (br_f (by decide) (br_f (by decide) (br_f (by decide) (br_f (by decide) (br_f (by decide) (br_f (by decide) (br_f (by decide) (br_f (by decide) (br_f (by decide) (br_f (by decide) (br_t rfl ?_))))))))))))
      refine ⟨i7, ?_⟩
      rw [cT, beT]
      exact pk_lt (B T) V (fun _ => nm_r eV H) (fun z => absurd z (by omega))
    · intro post H
      unfold wpY_operator
      refine yp_wt (br_t rfl (pk_eq U 200 (fun z => absurd z (by omega)) (fun _ => nm_r (nI_1 U) (nm_e (nm_e (br_f (by decide) (br_f (by decide) (br_f (by decide) (br_f (by decide) (br_f (by decide) (br_f (by decide) (br_f (by decide) (br_f (by decide) (br_f (by decide) (br_f (by decide) (br_t rfl (?_)))))))))))))))))
      refine ⟨i8, ?_⟩
      rw [cT, svT]
      exact pk_eq (G T) 0 (fun z => absurd z hG) (fun _ => ⟨i8, i8, nm_r (by rw [eG]) (nm_r eV (br_f (by decide) (br_f (by decide) (br_f (by decide) (H)))))⟩)
theorem op_12 {K c d T L V U E P F : Nat} {A B G : Nat → Nat} (hU : U < 200) (m : Int32) (h : rr_H K (rr_need 12) c d T L V (U + 1) E P F A B G xpb xpf xsx xsy xcx xcy ype dk dv sr rs rk rv ct ru pl be mx xo st cp pa pn fx fy tx ty fi cr cv ln kd nm mt co wi sv bx bo ex ey yo) :
    ∃ (r : Int32) (u' : SX) (v' : SY), rr_Z K (rr_ph (U + 1) T A) r u' v' ∧ (∀ post : Int32 → SX → Prop, post r u' → wpX_operate post (nI d, nI c, nI (T + 1), 0, nI (U + 1), -1, nI V, nI L, nI E, xpb, xpf, xsx, xsy, xcx, xcy, dk, dv, sr, rs, rk, rv, ct, ru, pl, be, mx, xo, st, cp, pa, pn, fx, fy, tx, ty, fi, cr, cv) 12 m) ∧ (∀ post : SY → Prop, post v' → wpY_operator post (nI c, nI K, nI V, nI L, nI (T + 1), nI P, nI E, nI (rr_need 12), nI U, 0, -1, ype, sr, ln, kd, nm, mt, co, wi, cp, pa, pn, ru, pl, sv, be, mx, bx, bo, ex, ey, fx, fy, tx, ty, yo) 12 m) := by
  obtain ⟨hd, hs, hp, ho, hc, hK, hf, hl, hm, hb⟩ := h
  obtain ⟨hTV, hV, hLT⟩ := rr_frb hf
  obtain ⟨x0, x1, x2, x3, x4, x5⟩ := rr_xnv xo st (8 * V)
  have hst := (hs V (by omega)).1
  have s0 : st (8 * V) = mt (6 * V) := hst 0 (by omega)
  have s1 := hst 1 (by omega)
  have s2 := hst 2 (by omega)
  have s3 := hst 3 (by omega)
  have s4 := hst 4 (by omega)
  have s5 := hst 5 (by omega)
  have o0 := ho.2 0 (by decide)
  have o1 := ho.2 1 (by decide)
  have o2 := ho.2 2 (by decide)
  have o3 := ho.2 3 (by decide)
  have o4 := ho.2 4 (by decide)
  have o5 := ho.2 5 (by decide)
  rw [s0, s2, o0, o1] at x0
  rw [s1, s3, o0, o1] at x1
  rw [s0, s2, o2, o3] at x2
  rw [s1, s3, o2, o3] at x3
  rw [s0, s2, s4, o4, o5] at x4
  rw [s1, s3, s5, o4, o5] at x5
  by_cases hok : ∀ j, j < 6 → rr_ok (rr_xn xo st (8 * V)) j
  · refine ⟨0, (nI d, nI c, nI (T + 1), 0, nI (U + 1), -1, nI V, nI L, nI E, xpb, xpf, xsx, xsy, xcx, xcy, dk, dv, sr, rs, rk, rv, ct, ru, pl, be, mx, rr_xn xo st (8 * V), ma_w st (rr_xn xo st (8 * V)) (8 * V) 6, cp, pa, pn, fx, fy, tx, ty, fi, cr, cv), (nI c, nI K, nI V, nI L, nI (T + 1), nI P, nI E, 0, nI (U + 1), 0, -1, ype, sr, ln, kd, nm, rr_m6 mt (6 * V) (rr_xn xo st (8 * V) 0) (rr_xn xo st (8 * V) 1) (rr_xn xo st (8 * V) 2) (rr_xn xo st (8 * V) 3) (rr_xn xo st (8 * V) 4) (rr_xn xo st (8 * V) 5), co, wi, cp, pa, pn, ru, pl, sv, be, mx, bx, bo, ex, ey, fx, fy, tx, ty, yo), Or.inl ⟨rfl, _, Nat.le_add_right _ _, ⟨_, _, _, _, _, _, _, _, _, _, _, _, _, _, _, _, _, _, _, _, _, _, _, _, _, _, _, _, _, _, _, _, _, _, _, _, _, _, _, _, _, _, _, _, _, _, _, _, _, _, _, _, _, _, rfl, rfl, rfl, hd, rr_stm hs (by omega), hp, rr_op0, hc, hK, hf, hl, hm, hb⟩⟩, ?_, ?_⟩
    · intro post H
      refine br_f (by decide) (br_f (by decide) (br_f (by decide) (br_f (by decide) (br_f (by decide) (br_f (by decide) (br_f (by decide) (br_f (by decide) (br_f (by decide) (br_f (by decide) (br_f (by decide) (br_f (by decide) (br_f (by decide) (br_t rfl ?_)))))))))))))
      exact xp_cm hV (fun _ => H) (fun z => z.elim (fun j z => absurd (hok j z.1) z.2))
    · intro post H
      unfold wpY_operator
      refine yp_wt (br_t rfl (pk_eq U 200 (fun z => absurd z (by omega)) (fun _ => nm_r (nI_1 U) (nm_r (ho.2 0 (by decide)).symm (nm_r (ho.2 1 (by decide)).symm (br_f (by decide) (br_f (by decide) (br_f (by decide) (br_f (by decide) (br_f (by decide) (br_f (by decide) (br_f (by decide) (br_f (by decide) (br_f (by decide) (br_f (by decide) (br_f (by decide) (br_t rfl (?_))))))))))))))))))
      exact yp_tr hV x0.symm x1.symm x2.symm x3.symm x4.symm x5.symm (fun _ => br_f (by decide) (br_f (by decide) (br_f (by decide) (H)))) (fun z => absurd (rr_okall.mp hok) z)
  · refine ⟨3, (nI d, nI c, nI (T + 1), 0, nI (U + 1), -1, nI V, nI L, nI E, xpb, xpf, xsx, xsy, xcx, xcy, dk, dv, sr, rs, rk, rv, ct, ru, pl, be, mx, rr_xn xo st (8 * V), st, cp, pa, pn, fx, fy, tx, ty, fi, cr, cv), (nI c, nI K, nI V, nI L, nI (T + 1), nI P, nI E, 0, nI (U + 1), 3, -1, ype, sr, ln, kd, nm, mt, co, wi, cp, pa, pn, ru, pl, sv, be, mx, bx, bo, ex, ey, fx, fy, tx, ty, yo), Or.inr ⟨by decide, ⟨_, _, _, _, _, _, _, _, _, _, _, _, _, _, _, _, _, _, _, _, _, _, _, _, _, _, _, _, _, _, _, _, _, _, _, _, _, _, _, _, _, _, _, _, _, _, _, _, _, _, _, _, _, _, _, _, _, rfl, rfl, hd, hs, hp⟩⟩, ?_, ?_⟩
    · intro post H
      refine br_f (by decide) (br_f (by decide) (br_f (by decide) (br_f (by decide) (br_f (by decide) (br_f (by decide) (br_f (by decide) (br_f (by decide) (br_f (by decide) (br_f (by decide) (br_f (by decide) (br_f (by decide) (br_f (by decide) (br_t rfl ?_)))))))))))))
      refine xp_cm hV (fun z => absurd z hok) (fun _ => H)
    · intro post H
      unfold wpY_operator
      refine yp_wt (br_t rfl (pk_eq U 200 (fun z => absurd z (by omega)) (fun _ => nm_r (nI_1 U) (nm_r (ho.2 0 (by decide)).symm (nm_r (ho.2 1 (by decide)).symm (br_f (by decide) (br_f (by decide) (br_f (by decide) (br_f (by decide) (br_f (by decide) (br_f (by decide) (br_f (by decide) (br_f (by decide) (br_f (by decide) (br_f (by decide) (br_f (by decide) (br_t rfl (?_))))))))))))))))))
      exact yp_tr hV x0.symm x1.symm x2.symm x3.symm x4.symm x5.symm (fun z => absurd (rr_okall.mpr z) hok) (fun _ => br_f (by decide) (br_f (by decide) (br_f (by decide) (H))))
theorem op_13 {K c d T L V U E P F : Nat} {A B G : Nat → Nat} (hU : U < 200) (m : Int32) (h : rr_H K (rr_need 13) c d T L V (U + 1) E P F A B G xpb xpf xsx xsy xcx xcy ype dk dv sr rs rk rv ct ru pl be mx xo st cp pa pn fx fy tx ty fi cr cv ln kd nm mt co wi sv bx bo ex ey yo) :
    ∃ (r : Int32) (u' : SX) (v' : SY), rr_Z K (rr_ph (U + 1) T A) r u' v' ∧ (∀ post : Int32 → SX → Prop, post r u' → wpX_operate post (nI d, nI c, nI (T + 1), 0, nI (U + 1), -1, nI V, nI L, nI E, xpb, xpf, xsx, xsy, xcx, xcy, dk, dv, sr, rs, rk, rv, ct, ru, pl, be, mx, xo, st, cp, pa, pn, fx, fy, tx, ty, fi, cr, cv) 13 m) ∧ (∀ post : SY → Prop, post v' → wpY_operator post (nI c, nI K, nI V, nI L, nI (T + 1), nI P, nI E, nI (rr_need 13), nI U, 0, -1, ype, sr, ln, kd, nm, mt, co, wi, cp, pa, pn, ru, pl, sv, be, mx, bx, bo, ex, ey, fx, fy, tx, ty, yo) 13 m) := by
  obtain ⟨hd, hs, hp, ho, hc, hK, hf, hl, hm, hb⟩ := h
  obtain ⟨hTV, hV, hLT⟩ := rr_frb hf
  have ein : nI V * 8 + 6 = nI (8 * V + 6) := by
    rw [show nI V * 8 = nI (8 * V) from mb_ml 8 V]
    exact nI_add (8 * V) 6
  have ec : (nI V * 8 + 6).toNatClampNeg = 8 * V + 6 := pk_cl (8 * V + 6) ein
  have iV : vp_in (nI V) 7 := pk_in V 7 (by omega)
  have cV : (nI V).toNatClampNeg = V := pk_cl V
  by_cases a : xo 0 < 0
  · refine ⟨3, (nI d, nI c, nI (T + 1), 0, nI (U + 1), -1, nI V, nI L, nI E, xpb, xpf, xsx, xsy, xcx, xcy, dk, dv, sr, rs, rk, rv, ct, ru, pl, be, mx, xo, st, cp, pa, pn, fx, fy, tx, ty, fi, cr, cv), (nI c, nI K, nI V, nI L, nI (T + 1), nI P, nI E, 0, nI (U + 1), 3, -1, ype, sr, ln, kd, nm, mt, co, wi, cp, pa, pn, ru, pl, sv, be, mx, bx, bo, ex, ey, fx, fy, tx, ty, yo), Or.inr ⟨by decide, ⟨_, _, _, _, _, _, _, _, _, _, _, _, _, _, _, _, _, _, _, _, _, _, _, _, _, _, _, _, _, _, _, _, _, _, _, _, _, _, _, _, _, _, _, _, _, _, _, _, _, _, _, _, _, _, _, _, _, rfl, rfl, hd, hs, hp⟩⟩, ?_, ?_⟩
    · intro post H
      refine br_f (by decide) (br_f (by decide) (br_f (by decide) (br_f (by decide) (br_f (by decide) (br_f (by decide) (br_f (by decide) (br_f (by decide) (br_f (by decide) (br_f (by decide) (br_f (by decide) (br_f (by decide) (br_f (by decide) (br_f (by decide) (br_t rfl ?_))))))))))))))
      exact br_t a H
    · intro post H
      unfold wpY_operator
      refine yp_wt (br_t rfl (pk_eq U 200 (fun z => absurd z (by omega)) (fun _ => nm_r (nI_1 U) (nm_r (ho.2 0 (by decide)).symm (nm_e (br_f (by decide) (br_f (by decide) (br_f (by decide) (br_f (by decide) (br_f (by decide) (br_f (by decide) (br_f (by decide) (br_f (by decide) (br_f (by decide) (br_f (by decide) (br_f (by decide) (br_f (by decide) (br_t rfl (?_)))))))))))))))))))
      unfold wY_operator_229
      exact br_t a (br_f (by decide) (br_f (by decide) (br_f (by decide) (H))))
  · by_cases b : xo 0 ≤ 255
    · refine ⟨0, (nI d, nI c, nI (T + 1), 0, nI (U + 1), -1, nI V, nI L, nI E, xpb, xpf, xsx, xsy, xcx, xcy, dk, dv, sr, rs, rk, rv, ct, ru, pl, be, mx, xo, upd st (8 * V + 6) (xo 0), cp, pa, pn, fx, fy, tx, ty, fi, cr, cv), (nI c, nI K, nI V, nI L, nI (T + 1), nI P, nI E, 0, nI (U + 1), 0, -1, ype, sr, ln, kd, nm, mt, upd co V (xo 0), wi, cp, pa, pn, ru, pl, sv, be, mx, bx, bo, ex, ey, fx, fy, tx, ty, yo), Or.inl ⟨rfl, _, Nat.le_add_right _ _, ⟨_, _, _, _, _, _, _, _, _, _, _, _, _, _, _, _, _, _, _, _, _, _, _, _, _, _, _, _, _, _, _, _, _, _, _, _, _, _, _, _, _, _, _, _, _, _, _, _, _, _, _, _, _, _, rfl, rfl, rfl, hd, rr_stc hs (by omega) ((mb_c1 _).mpr ⟨a, Int32.not_lt.mpr b⟩), hp, rr_op0, hc, hK, hf, hl, hm, hb⟩⟩, ?_, ?_⟩
      · intro post H
        refine br_f (by decide) (br_f (by decide) (br_f (by decide) (br_f (by decide) (br_f (by decide) (br_f (by decide) (br_f (by decide) (br_f (by decide) (br_f (by decide) (br_f (by decide) (br_f (by decide) (br_f (by decide) (br_f (by decide) (br_f (by decide) (br_t rfl ?_))))))))))))))
        exact br_f a (br_t b ⟨pk_in (8 * V + 6) 56 (by omega) ein, nm_r (by rw [ec]) H⟩)
      · intro post H
        unfold wpY_operator
        refine yp_wt (br_t rfl (pk_eq U 200 (fun z => absurd z (by omega)) (fun _ => nm_r (nI_1 U) (nm_r (ho.2 0 (by decide)).symm (nm_e (br_f (by decide) (br_f (by decide) (br_f (by decide) (br_f (by decide) (br_f (by decide) (br_f (by decide) (br_f (by decide) (br_f (by decide) (br_f (by decide) (br_f (by decide) (br_f (by decide) (br_f (by decide) (br_t rfl (?_)))))))))))))))))))
        unfold wY_operator_229
        exact br_f a (br_t rfl (br_t b (br_t rfl ⟨iV, nm_r (by rw [cV]) (br_f (by decide) (br_f (by decide) (br_f (by decide) (H))))⟩)))
    · refine ⟨3, (nI d, nI c, nI (T + 1), 0, nI (U + 1), -1, nI V, nI L, nI E, xpb, xpf, xsx, xsy, xcx, xcy, dk, dv, sr, rs, rk, rv, ct, ru, pl, be, mx, xo, st, cp, pa, pn, fx, fy, tx, ty, fi, cr, cv), (nI c, nI K, nI V, nI L, nI (T + 1), nI P, nI E, 0, nI (U + 1), 3, -1, ype, sr, ln, kd, nm, mt, co, wi, cp, pa, pn, ru, pl, sv, be, mx, bx, bo, ex, ey, fx, fy, tx, ty, yo), Or.inr ⟨by decide, ⟨_, _, _, _, _, _, _, _, _, _, _, _, _, _, _, _, _, _, _, _, _, _, _, _, _, _, _, _, _, _, _, _, _, _, _, _, _, _, _, _, _, _, _, _, _, _, _, _, _, _, _, _, _, _, _, _, _, rfl, rfl, hd, hs, hp⟩⟩, ?_, ?_⟩
      · intro post H
        refine br_f (by decide) (br_f (by decide) (br_f (by decide) (br_f (by decide) (br_f (by decide) (br_f (by decide) (br_f (by decide) (br_f (by decide) (br_f (by decide) (br_f (by decide) (br_f (by decide) (br_f (by decide) (br_f (by decide) (br_f (by decide) (br_t rfl ?_))))))))))))))
        exact br_f a (br_f b H)
      · intro post H
        unfold wpY_operator
        refine yp_wt (br_t rfl (pk_eq U 200 (fun z => absurd z (by omega)) (fun _ => nm_r (nI_1 U) (nm_r (ho.2 0 (by decide)).symm (nm_e (br_f (by decide) (br_f (by decide) (br_f (by decide) (br_f (by decide) (br_f (by decide) (br_f (by decide) (br_f (by decide) (br_f (by decide) (br_f (by decide) (br_f (by decide) (br_f (by decide) (br_f (by decide) (br_t rfl (?_)))))))))))))))))))
        unfold wY_operator_229
        exact br_f a (br_t rfl (br_f b (br_f (by decide) (br_f (by decide) (br_f (by decide) (H))))))
theorem op_16 {K c d T L V U E P F : Nat} {A B G : Nat → Nat} (hU : U < 200) (m : Int32) (h : rr_H K (rr_need 16) c d T L V (U + 1) E P F A B G xpb xpf xsx xsy xcx xcy ype dk dv sr rs rk rv ct ru pl be mx xo st cp pa pn fx fy tx ty fi cr cv ln kd nm mt co wi sv bx bo ex ey yo) :
    ∃ (r : Int32) (u' : SX) (v' : SY), rr_Z K (rr_ph (U + 1) T A) r u' v' ∧ (∀ post : Int32 → SX → Prop, post r u' → wpX_operate post (nI d, nI c, nI (T + 1), 0, nI (U + 1), -1, nI V, nI L, nI E, xpb, xpf, xsx, xsy, xcx, xcy, dk, dv, sr, rs, rk, rv, ct, ru, pl, be, mx, xo, st, cp, pa, pn, fx, fy, tx, ty, fi, cr, cv) 16 m) ∧ (∀ post : SY → Prop, post v' → wpY_operator post (nI c, nI K, nI V, nI L, nI (T + 1), nI P, nI E, nI (rr_need 16), nI U, 0, -1, ype, sr, ln, kd, nm, mt, co, wi, cp, pa, pn, ru, pl, sv, be, mx, bx, bo, ex, ey, fx, fy, tx, ty, yo) 16 m) := by
  obtain ⟨hd, hs, hp, ho, hc, hK, hf, hl, hm, hb⟩ := h
  obtain ⟨hTV, hV, hLT⟩ := rr_frb hf
  have ein : nI V * 8 + 7 = nI (8 * V + 7) := by
    rw [show nI V * 8 = nI (8 * V) from mb_ml 8 V]
    exact nI_add (8 * V) 7
  have ec : (nI V * 8 + 7).toNatClampNeg = 8 * V + 7 := pk_cl (8 * V + 7) ein
  have iV : vp_in (nI V) 7 := pk_in V 7 (by omega)
  have cV : (nI V).toNatClampNeg = V := pk_cl V
  by_cases a : xo 0 < 0
  · refine ⟨3, (nI d, nI c, nI (T + 1), 0, nI (U + 1), -1, nI V, nI L, nI E, xpb, xpf, xsx, xsy, xcx, xcy, dk, dv, sr, rs, rk, rv, ct, ru, pl, be, mx, xo, st, cp, pa, pn, fx, fy, tx, ty, fi, cr, cv), (nI c, nI K, nI V, nI L, nI (T + 1), nI P, nI E, 0, nI (U + 1), 3, -1, ype, sr, ln, kd, nm, mt, co, wi, cp, pa, pn, ru, pl, sv, be, mx, bx, bo, ex, ey, fx, fy, tx, ty, yo), Or.inr ⟨by decide, ⟨_, _, _, _, _, _, _, _, _, _, _, _, _, _, _, _, _, _, _, _, _, _, _, _, _, _, _, _, _, _, _, _, _, _, _, _, _, _, _, _, _, _, _, _, _, _, _, _, _, _, _, _, _, _, _, _, _, rfl, rfl, hd, hs, hp⟩⟩, ?_, ?_⟩
    · intro post H
      refine br_f (by decide) (br_f (by decide) (br_f (by decide) (br_f (by decide) (br_f (by decide) (br_f (by decide) (br_f (by decide) (br_f (by decide) (br_f (by decide) (br_f (by decide) (br_f (by decide) (br_f (by decide) (br_f (by decide) (br_f (by decide) (br_f (by decide) (br_f (by decide) (br_f (by decide) (br_t rfl ?_)))))))))))))))))
      exact br_t a H
    · intro post H
      unfold wpY_operator
      refine yp_wt (br_t rfl (pk_eq U 200 (fun z => absurd z (by omega)) (fun _ => nm_r (nI_1 U) (nm_r (ho.2 0 (by decide)).symm (nm_e (br_f (by decide) (br_f (by decide) (br_f (by decide) (br_f (by decide) (br_f (by decide) (br_f (by decide) (br_f (by decide) (br_f (by decide) (br_f (by decide) (br_f (by decide) (br_f (by decide) (br_f (by decide) (br_f (by decide) (br_t rfl (?_))))))))))))))))))))
      unfold wY_operator_229
      exact br_t a (br_f (by decide) (br_f (by decide) (br_f (by decide) (H))))
  · by_cases b : xo 0 ≤ 60
    · refine ⟨0, (nI d, nI c, nI (T + 1), 0, nI (U + 1), -1, nI V, nI L, nI E, xpb, xpf, xsx, xsy, xcx, xcy, dk, dv, sr, rs, rk, rv, ct, ru, pl, be, mx, xo, upd st (8 * V + 7) (xo 0), cp, pa, pn, fx, fy, tx, ty, fi, cr, cv), (nI c, nI K, nI V, nI L, nI (T + 1), nI P, nI E, 0, nI (U + 1), 0, -1, ype, sr, ln, kd, nm, mt, co, upd wi V (xo 0), cp, pa, pn, ru, pl, sv, be, mx, bx, bo, ex, ey, fx, fy, tx, ty, yo), Or.inl ⟨rfl, _, Nat.le_add_right _ _, ⟨_, _, _, _, _, _, _, _, _, _, _, _, _, _, _, _, _, _, _, _, _, _, _, _, _, _, _, _, _, _, _, _, _, _, _, _, _, _, _, _, _, _, _, _, _, _, _, _, _, _, _, _, _, _, rfl, rfl, rfl, hd, rr_stw hs (by omega) _, hp, rr_op0, hc, hK, hf, hl, hm, hb⟩⟩, ?_, ?_⟩
      · intro post H
        refine br_f (by decide) (br_f (by decide) (br_f (by decide) (br_f (by decide) (br_f (by decide) (br_f (by decide) (br_f (by decide) (br_f (by decide) (br_f (by decide) (br_f (by decide) (br_f (by decide) (br_f (by decide) (br_f (by decide) (br_f (by decide) (br_f (by decide) (br_f (by decide) (br_f (by decide) (br_t rfl ?_)))))))))))))))))
        exact br_f a (br_t b ⟨pk_in (8 * V + 7) 56 (by omega) ein, nm_r (by rw [ec]) H⟩)
      · intro post H
        unfold wpY_operator
        refine yp_wt (br_t rfl (pk_eq U 200 (fun z => absurd z (by omega)) (fun _ => nm_r (nI_1 U) (nm_r (ho.2 0 (by decide)).symm (nm_e (br_f (by decide) (br_f (by decide) (br_f (by decide) (br_f (by decide) (br_f (by decide) (br_f (by decide) (br_f (by decide) (br_f (by decide) (br_f (by decide) (br_f (by decide) (br_f (by decide) (br_f (by decide) (br_f (by decide) (br_t rfl (?_))))))))))))))))))))
        unfold wY_operator_229
        exact br_f a (br_f (by decide) (br_t b (br_f (by decide) ⟨iV, nm_r (by rw [cV]) (br_f (by decide) (br_f (by decide) (br_f (by decide) (H))))⟩)))
    · refine ⟨3, (nI d, nI c, nI (T + 1), 0, nI (U + 1), -1, nI V, nI L, nI E, xpb, xpf, xsx, xsy, xcx, xcy, dk, dv, sr, rs, rk, rv, ct, ru, pl, be, mx, xo, st, cp, pa, pn, fx, fy, tx, ty, fi, cr, cv), (nI c, nI K, nI V, nI L, nI (T + 1), nI P, nI E, 0, nI (U + 1), 3, -1, ype, sr, ln, kd, nm, mt, co, wi, cp, pa, pn, ru, pl, sv, be, mx, bx, bo, ex, ey, fx, fy, tx, ty, yo), Or.inr ⟨by decide, ⟨_, _, _, _, _, _, _, _, _, _, _, _, _, _, _, _, _, _, _, _, _, _, _, _, _, _, _, _, _, _, _, _, _, _, _, _, _, _, _, _, _, _, _, _, _, _, _, _, _, _, _, _, _, _, _, _, _, rfl, rfl, hd, hs, hp⟩⟩, ?_, ?_⟩
      · intro post H
        refine br_f (by decide) (br_f (by decide) (br_f (by decide) (br_f (by decide) (br_f (by decide) (br_f (by decide) (br_f (by decide) (br_f (by decide) (br_f (by decide) (br_f (by decide) (br_f (by decide) (br_f (by decide) (br_f (by decide) (br_f (by decide) (br_f (by decide) (br_f (by decide) (br_f (by decide) (br_t rfl ?_)))))))))))))))))
        exact br_f a (br_f b H)
      · intro post H
        unfold wpY_operator
        refine yp_wt (br_t rfl (pk_eq U 200 (fun z => absurd z (by omega)) (fun _ => nm_r (nI_1 U) (nm_r (ho.2 0 (by decide)).symm (nm_e (br_f (by decide) (br_f (by decide) (br_f (by decide) (br_f (by decide) (br_f (by decide) (br_f (by decide) (br_f (by decide) (br_f (by decide) (br_f (by decide) (br_f (by decide) (br_f (by decide) (br_f (by decide) (br_f (by decide) (br_t rfl (?_))))))))))))))))))))
        unfold wY_operator_229
        exact br_f a (br_f (by decide) (br_f b (br_f (by decide) (br_f (by decide) (br_f (by decide) (H))))))
theorem op_14 {K c d T L V U E P F : Nat} {A B G : Nat → Nat} (hU : U < 200) (m : Int32) (h : rr_H K (rr_need 14) c d T L V (U + 1) E P F A B G xpb xpf xsx xsy xcx xcy ype dk dv sr rs rk rv ct ru pl be mx xo st cp pa pn fx fy tx ty fi cr cv ln kd nm mt co wi sv bx bo ex ey yo) :
    ∃ (r : Int32) (u' : SX) (v' : SY), rr_Z K (rr_ph (U + 1) T A) r u' v' ∧ (∀ post : Int32 → SX → Prop, post r u' → wpX_operate post (nI d, nI c, nI (T + 1), 0, nI (U + 1), -1, nI V, nI L, nI E, xpb, xpf, xsx, xsy, xcx, xcy, dk, dv, sr, rs, rk, rv, ct, ru, pl, be, mx, xo, st, cp, pa, pn, fx, fy, tx, ty, fi, cr, cv) 14 m) ∧ (∀ post : SY → Prop, post v' → wpY_operator post (nI c, nI K, nI V, nI L, nI (T + 1), nI P, nI E, nI (rr_need 14), nI U, 0, -1, ype, sr, ln, kd, nm, mt, co, wi, cp, pa, pn, ru, pl, sv, be, mx, bx, bo, ex, ey, fx, fy, tx, ty, yo) 14 m) := by
  obtain ⟨hd, hs, hp, ho, hc, hK, hf, hl, hm, hb⟩ := h
  obtain ⟨hTV, hV, hLT⟩ := rr_frb hf
  rcases pk_ix (xo 0) (n := 6) (by omega) with h1 | h1 | ⟨j, hj, ej⟩
  · refine ⟨3, (nI d, nI c, nI (T + 1), 0, nI (U + 1), -1, nI V, nI L, nI E, xpb, xpf, xsx, xsy, xcx, xcy, dk, dv, sr, rs, rk, rv, ct, ru, pl, be, mx, xo, st, cp, pa, pn, fx, fy, tx, ty, fi, cr, cv), (nI c, nI K, nI V, nI L, nI (T + 1), nI P, nI E, 0, nI (U + 1), 3, -1, ype, sr, ln, kd, nm, mt, co, wi, cp, pa, pn, ru, pl, sv, be, mx, bx, bo, ex, ey, fx, fy, tx, ty, yo), Or.inr ⟨by decide, ⟨_, _, _, _, _, _, _, _, _, _, _, _, _, _, _, _, _, _, _, _, _, _, _, _, _, _, _, _, _, _, _, _, _, _, _, _, _, _, _, _, _, _, _, _, _, _, _, _, _, _, _, _, _, _, _, _, _, rfl, rfl, hd, hs, hp⟩⟩, ?_, ?_⟩
    · intro post H
      refine br_f (by decide) (br_f (by decide) (br_f (by decide) (br_f (by decide) (br_f (by decide) (br_f (by decide) (br_f (by decide) (br_f (by decide) (br_f (by decide) (br_f (by decide) (br_f (by decide) (br_f (by decide) (br_f (by decide) (br_f (by decide) (br_f (by decide) (br_t rfl ?_)))))))))))))))
      refine xp_dr3 (Or.inl h1) ?_
      exact H
    · intro post H
      unfold wpY_operator
      refine yp_wt (br_t rfl (pk_eq U 200 (fun z => absurd z (by omega)) (fun _ => nm_r (nI_1 U) (nm_r (ho.2 0 (by decide)).symm (nm_e (br_f (by decide) (br_f (by decide) (br_f (by decide) (br_f (by decide) (br_f (by decide) (br_f (by decide) (br_f (by decide) (br_f (by decide) (br_f (by decide) (br_f (by decide) (br_f (by decide) (br_f (by decide) (br_f (by decide) (br_f (by decide) (br_t rfl (?_)))))))))))))))))))))
      refine yp_dr3 (Or.inl h1) ?_
      exact br_f (by decide) (br_f (by decide) (br_f (by decide) (H)))
  · refine ⟨3, (nI d, nI c, nI (T + 1), 0, nI (U + 1), -1, nI V, nI L, nI E, xpb, xpf, xsx, xsy, xcx, xcy, dk, dv, sr, rs, rk, rv, ct, ru, pl, be, mx, xo, st, cp, pa, pn, fx, fy, tx, ty, fi, cr, cv), (nI c, nI K, nI V, nI L, nI (T + 1), nI P, nI E, 0, nI (U + 1), 3, -1, ype, sr, ln, kd, nm, mt, co, wi, cp, pa, pn, ru, pl, sv, be, mx, bx, bo, ex, ey, fx, fy, tx, ty, yo), Or.inr ⟨by decide, ⟨_, _, _, _, _, _, _, _, _, _, _, _, _, _, _, _, _, _, _, _, _, _, _, _, _, _, _, _, _, _, _, _, _, _, _, _, _, _, _, _, _, _, _, _, _, _, _, _, _, _, _, _, _, _, _, _, _, rfl, rfl, hd, hs, hp⟩⟩, ?_, ?_⟩
    · intro post H
      refine br_f (by decide) (br_f (by decide) (br_f (by decide) (br_f (by decide) (br_f (by decide) (br_f (by decide) (br_f (by decide) (br_f (by decide) (br_f (by decide) (br_f (by decide) (br_f (by decide) (br_f (by decide) (br_f (by decide) (br_f (by decide) (br_f (by decide) (br_t rfl ?_)))))))))))))))
      refine xp_dr3 (Or.inr h1) ?_
      exact H
    · intro post H
      unfold wpY_operator
      refine yp_wt (br_t rfl (pk_eq U 200 (fun z => absurd z (by omega)) (fun _ => nm_r (nI_1 U) (nm_r (ho.2 0 (by decide)).symm (nm_e (br_f (by decide) (br_f (by decide) (br_f (by decide) (br_f (by decide) (br_f (by decide) (br_f (by decide) (br_f (by decide) (br_f (by decide) (br_f (by decide) (br_f (by decide) (br_f (by decide) (br_f (by decide) (br_f (by decide) (br_f (by decide) (br_t rfl (?_)))))))))))))))))))))
      refine yp_dr3 (Or.inr h1) ?_
      exact br_f (by decide) (br_f (by decide) (br_f (by decide) (H)))
  by_cases hb6 : (∃ f, f < T + 1 ∧ ru f = nI j) ∨ V = 6
  · refine ⟨6, (nI d, nI c, nI (T + 1), 0, nI (U + 1), -1, nI V, nI L, nI E, xpb, xpf, xsx, xsy, xcx, xcy, dk, dv, sr, rs, rk, rv, ct, ru, pl, be, mx, xo, st, cp, pa, pn, fx, fy, tx, ty, fi, cr, cv), (nI c, nI K, nI V, nI L, nI (T + 1), nI P, nI E, 0, nI (U + 1), 6, -1, ype, sr, ln, kd, nm, mt, co, wi, cp, pa, pn, ru, pl, sv, be, mx, bx, bo, ex, ey, fx, fy, tx, ty, yo), Or.inr ⟨by decide, ⟨_, _, _, _, _, _, _, _, _, _, _, _, _, _, _, _, _, _, _, _, _, _, _, _, _, _, _, _, _, _, _, _, _, _, _, _, _, _, _, _, _, _, _, _, _, _, _, _, _, _, _, _, _, _, _, _, _, rfl, rfl, hd, hs, hp⟩⟩, ?_, ?_⟩
    · intro post H
      refine br_f (by decide) (br_f (by decide) (br_f (by decide) (br_f (by decide) (br_f (by decide) (br_f (by decide) (br_f (by decide) (br_f (by decide) (br_f (by decide) (br_f (by decide) (br_f (by decide) (br_f (by decide) (br_f (by decide) (br_f (by decide) (br_f (by decide) (br_t rfl ?_)))))))))))))))
      rw [ej]
      refine xp_dr6 hj (by omega) hb6 ?_
      exact H
    · intro post H
      unfold wpY_operator
      refine yp_wt (br_t rfl (pk_eq U 200 (fun z => absurd z (by omega)) (fun _ => nm_r (nI_1 U) (nm_r (ho.2 0 (by decide)).symm (nm_e (br_f (by decide) (br_f (by decide) (br_f (by decide) (br_f (by decide) (br_f (by decide) (br_f (by decide) (br_f (by decide) (br_f (by decide) (br_f (by decide) (br_f (by decide) (br_f (by decide) (br_f (by decide) (br_f (by decide) (br_f (by decide) (br_t rfl (?_)))))))))))))))))))))
      rw [ej]
      refine yp_dr6 hj (by omega) hV hb6 ?_
      exact br_f (by decide) (br_f (by decide) (br_f (by decide) (H)))
  have hV6 : V < 6 := by
    have : ¬ V = 6 := fun z => hb6 (Or.inr z)
    omega
  have hn : ∀ f, f < T + 1 → ru f ≠ nI j := fun f h1 h2 => hb6 (Or.inl ⟨f, h1, h2⟩)
  have fe := rr_fre hf hV6 hj (a := (-1)) (Or.inl rfl)
  rw [if_pos rfl, Nat.add_zero] at fe
  refine ⟨0, (nI d, nI c, nI (T + 1 + 1), 0, nI (U + 1), -1, nI (V + 1), nI (L), 0, 0, xpf, xsx, xsy, xcx, xcy, dk, dv, sr, rs, rk, rv, ct, upd ru (T + 1) (nI j), upd pl (T + 1) 0, upd be (T + 1) (nI (V + 1)), upd mx (T + 1) (-1), xo, ma_w st (fun n => st (8 * V + n)) (8 * V + 8) 8, ma_w cp (rr_gs cp (192 * V)) (192 * V + 192) 192, pa, pn, fx, fy, tx, ty, fi, cr, cv), (nI c, nI K, nI (V + 1), nI (L), nI (T + 1 + 1), 0, 0, 0, nI (U + 1), 0, -1, ype, sr, ln, kd, nm, ma_w mt (fun n => mt (6 * V + n)) (6 * V + 6) 6, upd co (V + 1) (co V), upd wi (V + 1) (wi V), ma_w cp (rr_gs cp (192 * V)) (192 * V + 192) 192, pa, pn, upd ru (T + 1) (nI j), upd pl (T + 1) 0, upd sv (T + 1) 0, upd be (T + 1) (nI (V + 1)), upd mx (T + 1) (-1), bx, bo, ex, ey, fx, fy, tx, ty, yo), Or.inl ⟨rfl, _, Nat.le_of_eq fe.2, ⟨_, _, _, _, _, _, _, _, _, _, _, _, _, _, _, _, _, _, _, _, _, _, _, _, _, _, _, _, _, _, _, _, _, _, _, _, _, _, _, _, _, _, _, _, _, _, _, _, _, _, _, _, _, _, rfl, rfl, rfl, hd, rr_sts hs (by omega), hp, rr_op0, hc, hK, fe.1, rr_ple hl (nI j), ma_p0 F xsx xsy xcx xcy fx fy tx ty fi bx bo ex ey, fun z => absurd z (by decide)⟩⟩, ?_, ?_⟩
  · intro post H
    refine br_f (by decide) (br_f (by decide) (br_f (by decide) (br_f (by decide) (br_f (by decide) (br_f (by decide) (br_f (by decide) (br_f (by decide) (br_f (by decide) (br_f (by decide) (br_f (by decide) (br_f (by decide) (br_f (by decide) (br_f (by decide) (br_f (by decide) (br_t rfl ?_)))))))))))))))
    rw [ej]
    refine xp_dr0 hj (by omega) hV6 hn ?_
    exact H
  · intro post H
    unfold wpY_operator
    refine yp_wt (br_t rfl (pk_eq U 200 (fun z => absurd z (by omega)) (fun _ => nm_r (nI_1 U) (nm_r (ho.2 0 (by decide)).symm (nm_e (br_f (by decide) (br_f (by decide) (br_f (by decide) (br_f (by decide) (br_f (by decide) (br_f (by decide) (br_f (by decide) (br_f (by decide) (br_f (by decide) (br_f (by decide) (br_f (by decide) (br_f (by decide) (br_f (by decide) (br_f (by decide) (br_t rfl (?_)))))))))))))))))))))
    rw [ej]
    refine yp_dr0 hj (by omega) hV6 hn (by decide) ?_
    exact br_f (by decide) (br_f (by decide) (br_f (by decide) (H)))
theorem op_17 {K c d T L V U E P F : Nat} {A B G : Nat → Nat} (hU : U < 200) (m : Int32) (h : rr_H K (rr_need 17) c d T L V (U + 1) E P F A B G xpb xpf xsx xsy xcx xcy ype dk dv sr rs rk rv ct ru pl be mx xo st cp pa pn fx fy tx ty fi cr cv ln kd nm mt co wi sv bx bo ex ey yo) :
    ∃ (r : Int32) (u' : SX) (v' : SY), rr_Z K (rr_ph (U + 1) T A) r u' v' ∧ (∀ post : Int32 → SX → Prop, post r u' → wpX_operate post (nI d, nI c, nI (T + 1), 0, nI (U + 1), -1, nI V, nI L, nI E, xpb, xpf, xsx, xsy, xcx, xcy, dk, dv, sr, rs, rk, rv, ct, ru, pl, be, mx, xo, st, cp, pa, pn, fx, fy, tx, ty, fi, cr, cv) 17 m) ∧ (∀ post : SY → Prop, post v' → wpY_operator post (nI c, nI K, nI V, nI L, nI (T + 1), nI P, nI E, nI (rr_need 17), nI U, 0, -1, ype, sr, ln, kd, nm, mt, co, wi, cp, pa, pn, ru, pl, sv, be, mx, bx, bo, ex, ey, fx, fy, tx, ty, yo) 17 m) := by
  obtain ⟨hd, hs, hp, ho, hc, hK, hf, hl, hm, hb⟩ := h
  obtain ⟨hTV, hV, hLT⟩ := rr_frb hf
  by_cases a0 : xo 1 < 0
  · refine ⟨3, (nI d, nI c, nI (T + 1), 0, nI (U + 1), -1, nI V, nI L, nI E, xpb, xpf, xsx, xsy, xcx, xcy, dk, dv, sr, rs, rk, rv, ct, ru, pl, be, mx, xo, st, cp, pa, pn, fx, fy, tx, ty, fi, cr, cv), (nI c, nI K, nI V, nI L, nI (T + 1), nI P, nI E, 0, nI (U + 1), 3, -1, ype, sr, ln, kd, nm, mt, co, wi, cp, pa, pn, ru, pl, sv, be, mx, bx, bo, ex, ey, fx, fy, tx, ty, yo), Or.inr ⟨by decide, ⟨_, _, _, _, _, _, _, _, _, _, _, _, _, _, _, _, _, _, _, _, _, _, _, _, _, _, _, _, _, _, _, _, _, _, _, _, _, _, _, _, _, _, _, _, _, _, _, _, _, _, _, _, _, _, _, _, _, rfl, rfl, hd, hs, hp⟩⟩, ?_, ?_⟩
    · intro post H
      refine br_f (by decide) (br_f (by decide) (br_f (by decide) (br_f (by decide) (br_f (by decide) (br_f (by decide) (br_f (by decide) (br_f (by decide) (br_f (by decide) (br_f (by decide) (br_f (by decide) (br_f (by decide) (br_f (by decide) (br_f (by decide) (br_f (by decide) (br_f (by decide) (br_f (by decide) (br_f (by decide) (br_t rfl ?_))))))))))))))))))
      exact br_t a0 H
    · intro post H
      unfold wpY_operator
      refine yp_wt (br_t rfl (pk_eq U 200 (fun z => absurd z (by omega)) (fun _ => nm_r (nI_1 U) (nm_r (ho.2 0 (by decide)).symm (nm_r (ho.2 1 (by decide)).symm (br_f (by decide) (br_f (by decide) (br_f (by decide) (br_f (by decide) (br_f (by decide) (br_f (by decide) (br_f (by decide) (br_f (by decide) (br_f (by decide) (br_f (by decide) (br_f (by decide) (br_f (by decide) (br_f (by decide) (br_f (by decide) (br_f (by decide) (br_t rfl (?_))))))))))))))))))))))
      exact br_t a0 (br_f (by decide) (br_f (by decide) (br_f (by decide) (H))))
  by_cases a1 : xo 1 ≤ 16
  case neg =>
    refine ⟨3, (nI d, nI c, nI (T + 1), 0, nI (U + 1), -1, nI V, nI L, nI E, xpb, xpf, xsx, xsy, xcx, xcy, dk, dv, sr, rs, rk, rv, ct, ru, pl, be, mx, xo, st, cp, pa, pn, fx, fy, tx, ty, fi, cr, cv), (nI c, nI K, nI V, nI L, nI (T + 1), nI P, nI E, 0, nI (U + 1), 3, -1, ype, sr, ln, kd, nm, mt, co, wi, cp, pa, pn, ru, pl, sv, be, mx, bx, bo, ex, ey, fx, fy, tx, ty, yo), Or.inr ⟨by decide, ⟨_, _, _, _, _, _, _, _, _, _, _, _, _, _, _, _, _, _, _, _, _, _, _, _, _, _, _, _, _, _, _, _, _, _, _, _, _, _, _, _, _, _, _, _, _, _, _, _, _, _, _, _, _, _, _, _, _, rfl, rfl, hd, hs, hp⟩⟩, ?_, ?_⟩
    · intro post H
      refine br_f (by decide) (br_f (by decide) (br_f (by decide) (br_f (by decide) (br_f (by decide) (br_f (by decide) (br_f (by decide) (br_f (by decide) (br_f (by decide) (br_f (by decide) (br_f (by decide) (br_f (by decide) (br_f (by decide) (br_f (by decide) (br_f (by decide) (br_f (by decide) (br_f (by decide) (br_f (by decide) (br_t rfl ?_))))))))))))))))))
      exact br_f a0 (br_f a1 H)
    · intro post H
      unfold wpY_operator
      refine yp_wt (br_t rfl (pk_eq U 200 (fun z => absurd z (by omega)) (fun _ => nm_r (nI_1 U) (nm_r (ho.2 0 (by decide)).symm (nm_r (ho.2 1 (by decide)).symm (br_f (by decide) (br_f (by decide) (br_f (by decide) (br_f (by decide) (br_f (by decide) (br_f (by decide) (br_f (by decide) (br_f (by decide) (br_f (by decide) (br_f (by decide) (br_f (by decide) (br_f (by decide) (br_f (by decide) (br_f (by decide) (br_f (by decide) (br_t rfl (?_))))))))))))))))))))))
      exact br_f a0 (br_f a1 (br_f (by decide) (br_f (by decide) (br_f (by decide) (H)))))
  have a16 := (mb_16 (xo 1)).mpr ⟨a0, Int32.not_lt.mpr a1⟩
  have an1 := (mb_n1 a16.1).1
  rcases pk_ix (xo 0) (n := 6) (by omega) with h1 | h1 | ⟨j, hj, ej⟩
  · refine ⟨3, (nI d, nI c, nI (T + 1), 0, nI (U + 1), -1, nI V, nI L, nI E, xpb, xpf, xsx, xsy, xcx, xcy, dk, dv, sr, rs, rk, rv, ct, ru, pl, be, mx, xo, st, cp, pa, pn, fx, fy, tx, ty, fi, cr, cv), (nI c, nI K, nI V, nI L, nI (T + 1), nI P, nI E, 0, nI (U + 1), 3, -1, ype, sr, ln, kd, nm, mt, co, wi, cp, pa, pn, ru, pl, sv, be, mx, bx, bo, ex, ey, fx, fy, tx, ty, yo), Or.inr ⟨by decide, ⟨_, _, _, _, _, _, _, _, _, _, _, _, _, _, _, _, _, _, _, _, _, _, _, _, _, _, _, _, _, _, _, _, _, _, _, _, _, _, _, _, _, _, _, _, _, _, _, _, _, _, _, _, _, _, _, _, _, rfl, rfl, hd, hs, hp⟩⟩, ?_, ?_⟩
    · intro post H
      refine br_f (by decide) (br_f (by decide) (br_f (by decide) (br_f (by decide) (br_f (by decide) (br_f (by decide) (br_f (by decide) (br_f (by decide) (br_f (by decide) (br_f (by decide) (br_f (by decide) (br_f (by decide) (br_f (by decide) (br_f (by decide) (br_f (by decide) (br_f (by decide) (br_f (by decide) (br_f (by decide) (br_t rfl ?_))))))))))))))))))
      refine br_f a0 (br_t a1 (xp_dr3 (Or.inl h1) ?_))
      exact br_f (by decide) H
    · intro post H
      unfold wpY_operator
      refine yp_wt (br_t rfl (pk_eq U 200 (fun z => absurd z (by omega)) (fun _ => nm_r (nI_1 U) (nm_r (ho.2 0 (by decide)).symm (nm_r (ho.2 1 (by decide)).symm (br_f (by decide) (br_f (by decide) (br_f (by decide) (br_f (by decide) (br_f (by decide) (br_f (by decide) (br_f (by decide) (br_f (by decide) (br_f (by decide) (br_f (by decide) (br_f (by decide) (br_f (by decide) (br_f (by decide) (br_f (by decide) (br_f (by decide) (br_t rfl (?_))))))))))))))))))))))
      refine br_f a0 (br_t a1 (yp_dr3 (Or.inl h1) ?_))
      exact br_f (by decide) (br_f (by decide) (br_f (by decide) (H)))
  · refine ⟨3, (nI d, nI c, nI (T + 1), 0, nI (U + 1), -1, nI V, nI L, nI E, xpb, xpf, xsx, xsy, xcx, xcy, dk, dv, sr, rs, rk, rv, ct, ru, pl, be, mx, xo, st, cp, pa, pn, fx, fy, tx, ty, fi, cr, cv), (nI c, nI K, nI V, nI L, nI (T + 1), nI P, nI E, 0, nI (U + 1), 3, -1, ype, sr, ln, kd, nm, mt, co, wi, cp, pa, pn, ru, pl, sv, be, mx, bx, bo, ex, ey, fx, fy, tx, ty, yo), Or.inr ⟨by decide, ⟨_, _, _, _, _, _, _, _, _, _, _, _, _, _, _, _, _, _, _, _, _, _, _, _, _, _, _, _, _, _, _, _, _, _, _, _, _, _, _, _, _, _, _, _, _, _, _, _, _, _, _, _, _, _, _, _, _, rfl, rfl, hd, hs, hp⟩⟩, ?_, ?_⟩
    · intro post H
      refine br_f (by decide) (br_f (by decide) (br_f (by decide) (br_f (by decide) (br_f (by decide) (br_f (by decide) (br_f (by decide) (br_f (by decide) (br_f (by decide) (br_f (by decide) (br_f (by decide) (br_f (by decide) (br_f (by decide) (br_f (by decide) (br_f (by decide) (br_f (by decide) (br_f (by decide) (br_f (by decide) (br_t rfl ?_))))))))))))))))))
      refine br_f a0 (br_t a1 (xp_dr3 (Or.inr h1) ?_))
      exact br_f (by decide) H
    · intro post H
      unfold wpY_operator
      refine yp_wt (br_t rfl (pk_eq U 200 (fun z => absurd z (by omega)) (fun _ => nm_r (nI_1 U) (nm_r (ho.2 0 (by decide)).symm (nm_r (ho.2 1 (by decide)).symm (br_f (by decide) (br_f (by decide) (br_f (by decide) (br_f (by decide) (br_f (by decide) (br_f (by decide) (br_f (by decide) (br_f (by decide) (br_f (by decide) (br_f (by decide) (br_f (by decide) (br_f (by decide) (br_f (by decide) (br_f (by decide) (br_f (by decide) (br_t rfl (?_))))))))))))))))))))))
      refine br_f a0 (br_t a1 (yp_dr3 (Or.inr h1) ?_))
      exact br_f (by decide) (br_f (by decide) (br_f (by decide) (H)))
  by_cases hb6 : (∃ f, f < T + 1 ∧ ru f = nI j) ∨ V = 6
  · refine ⟨6, (nI d, nI c, nI (T + 1), 0, nI (U + 1), -1, nI V, nI L, nI E, xpb, xpf, xsx, xsy, xcx, xcy, dk, dv, sr, rs, rk, rv, ct, ru, pl, be, mx, xo, st, cp, pa, pn, fx, fy, tx, ty, fi, cr, cv), (nI c, nI K, nI V, nI L, nI (T + 1), nI P, nI E, 0, nI (U + 1), 6, -1, ype, sr, ln, kd, nm, mt, co, wi, cp, pa, pn, ru, pl, sv, be, mx, bx, bo, ex, ey, fx, fy, tx, ty, yo), Or.inr ⟨by decide, ⟨_, _, _, _, _, _, _, _, _, _, _, _, _, _, _, _, _, _, _, _, _, _, _, _, _, _, _, _, _, _, _, _, _, _, _, _, _, _, _, _, _, _, _, _, _, _, _, _, _, _, _, _, _, _, _, _, _, rfl, rfl, hd, hs, hp⟩⟩, ?_, ?_⟩
    · intro post H
      refine br_f (by decide) (br_f (by decide) (br_f (by decide) (br_f (by decide) (br_f (by decide) (br_f (by decide) (br_f (by decide) (br_f (by decide) (br_f (by decide) (br_f (by decide) (br_f (by decide) (br_f (by decide) (br_f (by decide) (br_f (by decide) (br_f (by decide) (br_f (by decide) (br_f (by decide) (br_f (by decide) (br_t rfl ?_))))))))))))))))))
      rw [ej]
      refine br_f a0 (br_t a1 (xp_dr6 hj (by omega) hb6 ?_))
      exact br_f (by decide) H
    · intro post H
      unfold wpY_operator
      refine yp_wt (br_t rfl (pk_eq U 200 (fun z => absurd z (by omega)) (fun _ => nm_r (nI_1 U) (nm_r (ho.2 0 (by decide)).symm (nm_r (ho.2 1 (by decide)).symm (br_f (by decide) (br_f (by decide) (br_f (by decide) (br_f (by decide) (br_f (by decide) (br_f (by decide) (br_f (by decide) (br_f (by decide) (br_f (by decide) (br_f (by decide) (br_f (by decide) (br_f (by decide) (br_f (by decide) (br_f (by decide) (br_f (by decide) (br_t rfl (?_))))))))))))))))))))))
      rw [ej]
      refine br_f a0 (br_t a1 (yp_dr6 hj (by omega) hV hb6 ?_))
      exact br_f (by decide) (br_f (by decide) (br_f (by decide) (H)))
  have hV6 : V < 6 := by
    have : ¬ V = 6 := fun z => hb6 (Or.inr z)
    omega
  have hn : ∀ f, f < T + 1 → ru f ≠ nI j := fun f h1 h2 => hb6 (Or.inl ⟨f, h1, h2⟩)
  have fe := rr_fre hf hV6 hj (a := (xo 1)) (Or.inr a16)
  rw [if_neg an1] at fe
  refine ⟨0, (nI d, nI c, nI (T + 1 + 1), 0, nI (U + 1), -1, nI (V + 1), nI (L + 1), 0, 0, xpf, xsx, xsy, xcx, xcy, dk, dv, sr, rs, rk, rv, ct, upd ru (T + 1) (nI j), upd pl (T + 1) 0, upd be (T + 1) (nI (V + 1)), upd mx (T + 1) (xo 1), xo, ma_w st (fun n => st (8 * V + n)) (8 * V + 8) 8, ma_w cp (rr_gs cp (192 * V)) (192 * V + 192) 192, ma_w pa (fun _ => -1) (192 * (L + 1)) 192, ma_w pn (fun _ => -1) (192 * (L + 1)) 192, fx, fy, tx, ty, fi, cr, cv), (nI c, nI K, nI (V + 1), nI (L + 1), nI (T + 1 + 1), 0, 0, 0, nI (U + 1), 0, -1, ype, sr, ln, kd, nm, ma_w mt (fun n => mt (6 * V + n)) (6 * V + 6) 6, upd co (V + 1) (co V), upd wi (V + 1) (wi V), ma_w cp (rr_gs cp (192 * V)) (192 * V + 192) 192, ma_w pa (fun _ => -1) (192 * (L + 1)) 192, ma_w pn (fun _ => -1) (192 * (L + 1)) 192, upd ru (T + 1) (nI j), upd pl (T + 1) 0, upd sv (T + 1) 0, upd be (T + 1) (nI (V + 1)), upd mx (T + 1) (xo 1), bx, bo, ex, ey, fx, fy, tx, ty, yo), Or.inl ⟨rfl, _, Nat.le_of_eq fe.2, ⟨_, _, _, _, _, _, _, _, _, _, _, _, _, _, _, _, _, _, _, _, _, _, _, _, _, _, _, _, _, _, _, _, _, _, _, _, _, _, _, _, _, _, _, _, _, _, _, _, _, _, _, _, _, _, rfl, rfl, rfl, hd, rr_sts hs (by omega), fun i => ma_wall (P := fun x => x = -1 ∨ rr_c1 x) hp (fun _ _ => Or.inl rfl) i, rr_op0, hc, hK, fe.1, rr_ple hl (nI j), ma_p0 F xsx xsy xcx xcy fx fy tx ty fi bx bo ex ey, fun z => absurd z (by decide)⟩⟩, ?_, ?_⟩
  · intro post H
    refine br_f (by decide) (br_f (by decide) (br_f (by decide) (br_f (by decide) (br_f (by decide) (br_f (by decide) (br_f (by decide) (br_f (by decide) (br_f (by decide) (br_f (by decide) (br_f (by decide) (br_f (by decide) (br_f (by decide) (br_f (by decide) (br_f (by decide) (br_f (by decide) (br_f (by decide) (br_f (by decide) (br_t rfl ?_))))))))))))))))))
    rw [ej]
    refine br_f a0 (br_t a1 (xp_dr0 hj (by omega) hV6 hn (br_t rfl (nm_r (nI_1 L) (xp_cl (by omega) ?_)))))
    exact H
  · intro post H
    unfold wpY_operator
    refine yp_wt (br_t rfl (pk_eq U 200 (fun z => absurd z (by omega)) (fun _ => nm_r (nI_1 U) (nm_r (ho.2 0 (by decide)).symm (nm_r (ho.2 1 (by decide)).symm (br_f (by decide) (br_f (by decide) (br_f (by decide) (br_f (by decide) (br_f (by decide) (br_f (by decide) (br_f (by decide) (br_f (by decide) (br_f (by decide) (br_f (by decide) (br_f (by decide) (br_f (by decide) (br_f (by decide) (br_f (by decide) (br_f (by decide) (br_t rfl (?_))))))))))))))))))))))
    rw [ej]
    refine br_f a0 (br_t a1 (yp_dr0g hj (by omega) hV6 (by omega) hn a0 ?_))
    exact br_f (by decide) (br_f (by decide) (br_f (by decide) (H)))
end
section
variable {xds xrc xde xoc xun xfp xsc xtl xec xpb xpf xsx xsy xcx xcy yrc ysh yle yla yde ypa yed yoc yun yfa ywh ype : Int32} {dk dv sr rs rk rv ct ru pl be mx xo st cp pa pn fx fy tx ty fi cr cv ln kd nm mt co wi sv bx bo ex ey yo : Nat → Int32}
/-! the end of a stream -/
theorem yw_mi {post : SY → Prop} {x1 a : Int32} {l : Nat} (hl : l + 1 ≤ 6) (hpa : rr_pa pa) (hp : wY_close_83 post x1 yrc ysh yle (nI l) yde ypa yed yoc yun yfa ywh ype sr ln kd nm mt co wi cp (ma_w pa (rr_gp pa a (192 * (l + 1)) (192 * l)) (192 * l) 192) (ma_w pn (rr_gq pa pn (192 * (l + 1)) (192 * l)) (192 * l) 192) ru pl sv be mx bx bo ex ey fx fy tx ty yo) :
    ∀ d i, i + d = 192 → wY_close_33 post x1 a (d + 1) (nI i) yrc ysh yle (nI (l + 1)) yde ypa yed yoc yun yfa ywh ype sr ln kd nm mt co wi cp (ma_w pa (rr_gp pa a (192 * (l + 1)) (192 * l)) (192 * l) i) (ma_w pn (rr_gq pa pn (192 * (l + 1)) (192 * l)) (192 * l) i) ru pl sv be mx bx bo ex ey fx fy tx ty yo := by
  intro d
  induction d with
  | zero =>
    intro i hi
    have e : i = 192 := by omega
    rw [e]
    exact pk_le 192 192 (fun _ => nm_r (nI_pred l) hp) (fun h => absurd h (by omega))
  | succ d ih =>
    intro i hi
    have h := ih (i + 1) (by omega)
    have eU : (192 : Int32) * nI (l + 1) + nI i = nI (192 * (l + 1) + i) := by
      rw [show (192 : Int32) * nI (l + 1) = nI (192 * (l + 1)) from mb_mr 192 (l + 1), nI_add]
    have eL : (192 : Int32) * (nI (l + 1) - 1) + nI i = nI (192 * l + i) := by
      rw [nI_pred, show (192 : Int32) * nI l = nI (192 * l) from mb_mr 192 l, nI_add]
    have hinU : vp_in (nI (192 * (l + 1) + i)) 1344 := pk_in (192 * (l + 1) + i) 1344 (by omega)
    have hinL : vp_in (nI (192 * l + i)) 1344 := pk_in (192 * l + i) 1344 (by omega)
    have cU : (nI (192 * (l + 1) + i)).toNatClampNeg = 192 * (l + 1) + i := pk_cl (192 * (l + 1) + i)
    have cL : (nI (192 * l + i)).toNatClampNeg = 192 * l + i := pk_cl (192 * l + i)
    have rU : (ma_w pa (rr_gp pa a (192 * (l + 1)) (192 * l)) (192 * l) i) (nI (192 * (l + 1) + i)).toNatClampNeg = pa (192 * (l + 1) + i) := by
      rw [cU]
      exact ma_wr (by omega)
    have rL : (ma_w pa (rr_gp pa a (192 * (l + 1)) (192 * l)) (192 * l) i) (nI (192 * l + i)).toNatClampNeg = pa (192 * l + i) := by
      rw [cL]
      exact ma_wr (by omega)
    have qU : (ma_w pn (rr_gq pa pn (192 * (l + 1)) (192 * l)) (192 * l) i) (nI (192 * (l + 1) + i)).toNatClampNeg = pn (192 * (l + 1) + i) := by
      rw [cU]
      exact ma_wr (by omega)
    refine pk_le 192 i (fun h => absurd h (by omega)) (fun _ => ?_)
    rw [eU, eL]
    refine ⟨hinU, ?_⟩
    rw [rU, rL]
    by_cases z : pa (192 * (l + 1) + i) = -1
    · have e1 : ma_w pa (rr_gp pa a (192 * (l + 1)) (192 * l)) (192 * l) i = ma_w pa (rr_gp pa a (192 * (l + 1)) (192 * l)) (192 * l) (i + 1) := ma_wk (if_pos z)
      have e2 : ma_w pn (rr_gq pa pn (192 * (l + 1)) (192 * l)) (192 * l) i = ma_w pn (rr_gq pa pn (192 * (l + 1)) (192 * l)) (192 * l) (i + 1) := ma_wk (if_pos z)
      rw [← e1, ← e2] at h
      exact br_f (by rw [z]; decide) (nm_r (nI_1 i) h)
    · have e2 : rr_gq pa pn (192 * (l + 1)) (192 * l) i = pn (192 * (l + 1) + i) := if_neg z
      have p1 : 0 ≤ pa (192 * (l + 1) + i) := (hpa (192 * (l + 1) + i)).elim (fun y => absurd y z) (fun y => (mb_n1 y.1).2.2)
      by_cases y : pa (192 * l + i) = -1
      · have e1 : rr_gp pa a (192 * (l + 1)) (192 * l) i = pa (192 * (l + 1) + i) := by
          unfold rr_gp
          rw [if_neg z, if_pos y]
        exact br_t p1 ⟨hinL, br_f (by rw [y]; decide) ⟨hinU, hinL, nm_r (by rw [cL, ← ma_ws, e1]) ⟨hinU, hinL, nm_r (by rw [qU, cL, ← ma_ws, e2]) (nm_r (nI_1 i) h)⟩⟩⟩
      · have e1 : rr_gp pa a (192 * (l + 1)) (192 * l) i = (a * pa (192 * (l + 1) + i) + (16 - a) * pa (192 * l + i)) / 16 := by
          unfold rr_gp
          rw [if_neg z, if_neg y]
        have p2 : 0 ≤ pa (192 * l + i) := (hpa (192 * l + i)).elim (fun q => absurd q y) (fun q => (mb_n1 q.1).2.2)
        exact br_t p1 ⟨hinL, br_t p2 ⟨hinU, hinL, by decide, hinL, nm_r (by rw [cL, ← ma_ws, e1]) ⟨hinU, hinL, nm_r (by rw [qU, cL, ← ma_ws, e2]) (nm_r (nI_1 i) h)⟩⟩⟩
theorem rr_pam {pa : Nat → Int32} {a : Int32} {bU bL : Nat} (h : rr_pa pa) (ha : 0 ≤ a.toInt ∧ a.toInt ≤ 16) : rr_pa (ma_w pa (rr_gp pa a bU bL) bL 192) := by
  refine ma_wall (P := fun x => x = -1 ∨ rr_c1 x) h (fun t _ => ?_)
  unfold rr_gp
  by_cases z : pa (bU + t) = -1
  · rw [if_pos z]
    exact h _
  · by_cases y : pa (bL + t) = -1
    · rw [if_neg z, if_pos y]
      exact h _
    · rw [if_neg z, if_neg y]
      have h1 : rr_c1 (pa (bU + t)) := (h (bU + t)).elim (fun q => absurd q z) id
      have h2 : rr_c1 (pa (bL + t)) := (h (bL + t)).elim (fun q => absurd q y) id
      exact Or.inr (ma_mix ha h1 h2)
theorem st_end {K n c d t L V U E P F : Nat} {A B G : Nat → Nat} (h : rr_H K n c d (t + 1) L V U E P F A B G xpb xpf xsx xsy xcx xcy ype dk dv sr rs rk rv ct ru pl be mx xo st cp pa pn fx fy tx ty fi cr cv ln kd nm mt co wi sv bx bo ex ey yo) :
    ∃ (N' : Nat) (u' : SX) (v' : SY), N' + 1 ≤ rr_ph U (t + 1) A ∧ rr_R K N' 0 0 u' v' ∧ (∀ post : SX → Prop, post u' → wpX_leaveStream post (nI d, nI c, nI (t + 1 + 1), xoc, nI U, -1, nI V, nI L, nI E, xpb, xpf, xsx, xsy, xcx, xcy, dk, dv, sr, rs, rk, rv, ct, ru, pl, be, mx, xo, st, cp, pa, pn, fx, fy, tx, ty, fi, cr, cv)) ∧ (∀ post : SY → Prop, post v' → wpY_close post (nI c, nI K, nI V, nI L, nI (t + 1 + 1), nI P, nI E, yoc, nI U, 0, -1, ype, sr, ln, kd, nm, mt, co, wi, cp, pa, pn, ru, pl, sv, be, mx, bx, bo, ex, ey, fx, fy, tx, ty, yo) (nI (t + 1))) := by
  obtain ⟨hd, hs, hp, ho, hc, hK, hf, hl, hm, hb⟩ := h
  obtain ⟨hTV, hV, hLT⟩ := rr_frb hf
  obtain ⟨_, _, _, beT, _, _, mxT⟩ := hf.1 (t + 1) (by omega)
  obtain ⟨fx1, fx2, fx3, fx4⟩ := rr_frx hf
  have eT : nI (t + 1 + 1) - 1 = nI (t + 1) := nI_pred (t + 1)
  have c7 : (nI (t + 1)).toNatClampNeg = t + 1 := pk_cl (t + 1)
  have i7 : vp_in (nI (t + 1)) 7 := pk_in (t + 1) 7 (by omega)
  have i8 : vp_in (nI (t + 1)) 8 := pk_in (t + 1) 8 (by omega)
  have eB : be (nI (t + 1)).toNatClampNeg - 1 = nI (B (t + 1) - 1) := by
    rw [c7, beT]
    exact pk_sub (a := B (t + 1)) (b := 1) fx3
  by_cases z : mx (t + 1) = -1
  · rw [if_pos z, Nat.sub_zero] at fx1
    refine ⟨_, (nI d, nI c, nI (t + 1), 0, nI U, -1, nI (B (t + 1) - 1), nI L, 0, 0, xpf, xsx, xsy, xcx, xcy, dk, dv, sr, rs, rk, rv, ct, ru, pl, be, mx, xo, st, cp, pa, pn, fx, fy, tx, ty, fi, cr, cv), (nI c, nI K, nI (B (t + 1) - 1), nI L, nI (t + 1), 0, 0, 0, nI U, 0, -1, ype, sr, ln, kd, nm, mt, co, wi, cp, pa, pn, ru, pl, sv, be, mx, bx, bo, ex, ey, fx, fy, tx, ty, yo), fx2, ⟨_, _, _, _, _, _, _, _, _, _, _, _, _, _, _, _, _, _, _, _, _, _, _, _, _, _, _, _, _, _, _, _, _, _, _, _, _, _, _, _, _, _, _, _, _, _, _, _, _, _, _, _, _, _, rfl, rfl, rfl, hd, hs, hp, rr_op0, hc, hK, fx1, rr_plx hl, ma_p0 F xsx xsy xcx xcy fx fy tx ty fi bx bo ex ey, fun z => absurd z (by decide)⟩, ?_, ?_⟩
    · intro post H
      refine nm_r eT ⟨i7, br_t (by rw [c7]; exact z) ?_⟩
      exact pk_le (t + 1) 0 (fun q => absurd q (by omega)) (fun _ => ⟨i7, nm_r eB H⟩)
    · intro post H
      exact pk_eq (t + 1) 0 (fun q => absurd q (by omega)) (fun _ => ⟨i8, br_t (by rw [c7, z]; decide) ⟨i8, nm_r eB H⟩⟩)
  · rw [if_neg z] at fx1
    have hL1 := fx4 z
    obtain ⟨l, rfl⟩ : ∃ l, L = l + 1 := ⟨L - 1, by omega⟩
    rw [Nat.add_sub_cancel] at fx1
    have a16 : 0 ≤ (mx (t + 1)).toInt ∧ (mx (t + 1)).toInt ≤ 16 := mxT.elim (fun q => absurd q z) id
    refine ⟨_, (nI d, nI c, nI (t + 1), 0, nI U, -1, nI (B (t + 1) - 1), nI l, 0, 0, xpf, xsx, xsy, xcx, xcy, dk, dv, sr, rs, rk, rv, ct, ru, pl, be, mx, xo, st, cp, ma_w pa (rr_gp pa (mx (t + 1)) (192 * (l + 1)) (192 * l)) (192 * l) 192, ma_w pn (rr_gq pa pn (192 * (l + 1)) (192 * l)) (192 * l) 192, fx, fy, tx, ty, fi, cr, cv), (nI c, nI K, nI (B (t + 1) - 1), nI l, nI (t + 1), 0, 0, 0, nI U, 0, -1, ype, sr, ln, kd, nm, mt, co, wi, cp, ma_w pa (rr_gp pa (mx (t + 1)) (192 * (l + 1)) (192 * l)) (192 * l) 192, ma_w pn (rr_gq pa pn (192 * (l + 1)) (192 * l)) (192 * l) 192, ru, pl, sv, be, mx, bx, bo, ex, ey, fx, fy, tx, ty, yo), fx2, ⟨_, _, _, _, _, _, _, _, _, _, _, _, _, _, _, _, _, _, _, _, _, _, _, _, _, _, _, _, _, _, _, _, _, _, _, _, _, _, _, _, _, _, _, _, _, _, _, _, _, _, _, _, _, _, rfl, rfl, rfl, hd, hs, rr_pam hp a16, rr_op0, hc, hK, fx1, rr_plx hl, ma_p0 F xsx xsy xcx xcy fx fy tx ty fi bx bo ex ey, fun z => absurd z (by decide)⟩, ?_, ?_⟩
    · intro post H
      refine nm_r eT ⟨i7, br_f (by rw [c7]; exact z) ⟨i7, ?_⟩⟩
      rw [c7]
      exact xp_mi (by omega) (pk_le (t + 1) 0 (fun q => absurd q (by omega)) (fun _ => ⟨i7, nm_r eB H⟩))
    · intro post H
      have key : wY_close_33 post (nI (t + 1)) (mx (t + 1)) 193 (nI 0) (nI c) (nI K) (nI V) (nI (l + 1)) (nI (t + 1)) (nI P) (nI E) 0 (nI U) 0 (-1) ype sr ln kd nm mt co wi cp (ma_w pa (rr_gp pa (mx (t + 1)) (192 * (l + 1)) (192 * l)) (192 * l) 0) (ma_w pn (rr_gq pa pn (192 * (l + 1)) (192 * l)) (192 * l) 0) ru pl sv be mx bx bo ex ey fx fy tx ty yo := yw_mi (by omega) hp ⟨i8, nm_r eB H⟩ 192 0 rfl
      rw [ma_w0, ma_w0] at key
      exact pk_eq (t + 1) 0 (fun q => absurd q (by omega)) (fun _ => ⟨i8, br_f (by rw [c7]; exact (mb_n1 a16.1).2.1) ⟨i8, nm_r (by rw [c7]) ⟨193, key⟩⟩⟩)
theorem st_end0 {K n c d L V U E P F : Nat} {A B G : Nat → Nat} (h : rr_H K n c d 0 L V U E P F A B G xpb xpf xsx xsy xcx xcy ype dk dv sr rs rk rv ct ru pl be mx xo st cp pa pn fx fy tx ty fi cr cv ln kd nm mt co wi sv bx bo ex ey yo) :
    (∀ post : SX → Prop, post (nI d, nI c, 0, 0, nI U, -1, nI V, nI L, 0, 0, xpf, xsx, xsy, xcx, xcy, dk, dv, sr, rs, rk, rv, ct, ru, pl, be, mx, xo, st, cp, pa, pn, fx, fy, tx, ty, fi, cr, cv) → wpX_leaveStream post (nI d, nI c, nI (0 + 1), xoc, nI U, -1, nI V, nI L, nI E, xpb, xpf, xsx, xsy, xcx, xcy, dk, dv, sr, rs, rk, rv, ct, ru, pl, be, mx, xo, st, cp, pa, pn, fx, fy, tx, ty, fi, cr, cv)) ∧ (∀ post : SY → Prop, post (nI c, nI K, nI V, nI L, nI 0, nI P, nI E, 0, nI U, 0, -1, ype, sr, ln, kd, nm, mt, co, wi, cp, pa, pn, ru, pl, sv, be, mx, bx, bo, ex, ey, fx, fy, tx, ty, yo) → wpY_close post (nI c, nI K, nI V, nI L, nI (0 + 1), nI P, nI E, yoc, nI U, 0, -1, ype, sr, ln, kd, nm, mt, co, wi, cp, pa, pn, ru, pl, sv, be, mx, bx, bo, ex, ey, fx, fy, tx, ty, yo) (nI 0)) := by
  obtain ⟨hd, hs, hp, ho, hc, hK, hf, hl, hm, hb⟩ := h
  have z : mx 0 = -1 := hf.2.1
  have eT : nI (0 + 1) - 1 = nI 0 := nI_pred 0
  have c7 : (nI 0).toNatClampNeg = 0 := pk_cl 0
  constructor
  · intro post H
    exact nm_r eT ⟨pk_in 0 7 (by omega), br_t (by rw [c7]; exact z) (pk_le 0 0 (fun _ => H) (fun q => absurd q (by omega)))⟩
  · intro post H
    exact br_t rfl H
/-! an operator that is none -/
theorem mb_59 {k : Int32} (h : ¬ k < 5) (h' : k ≤ 9) : k = 5 ∨ k = 6 ∨ k = 7 ∨ k = 8 ∨ k = 9 := by
  rw [Int32.lt_iff_toInt_lt, show (5 : Int32).toInt = 5 from by decide] at h
  rw [Int32.le_iff_toInt_le, show (9 : Int32).toInt = 9 from by decide] at h'
  have q : k.toInt = 5 ∨ k.toInt = 6 ∨ k.toInt = 7 ∨ k.toInt = 8 ∨ k.toInt = 9 := by omega
  rcases q with q | q | q | q | q
  · exact Or.inl (Int32.toInt_inj.mp (by rw [q]; decide))
  · exact Or.inr (Or.inl (Int32.toInt_inj.mp (by rw [q]; decide)))
  · exact Or.inr (Or.inr (Or.inl (Int32.toInt_inj.mp (by rw [q]; decide))))
  · exact Or.inr (Or.inr (Or.inr (Or.inl (Int32.toInt_inj.mp (by rw [q]; decide)))))
  · exact Or.inr (Or.inr (Or.inr (Or.inr (Int32.toInt_inj.mp (by rw [q]; decide)))))
theorem op_all {K c d T L V U E P F : Nat} {A B G : Nat → Nat} (hU : U < 200) (m : Int32) (k : Int32) (h : rr_H K (rr_need k) c d T L V (U + 1) E P F A B G xpb xpf xsx xsy xcx xcy ype dk dv sr rs rk rv ct ru pl be mx xo st cp pa pn fx fy tx ty fi cr cv ln kd nm mt co wi sv bx bo ex ey yo) :
    ∃ (r : Int32) (u' : SX) (v' : SY), rr_Z K (rr_ph (U + 1) T A) r u' v' ∧ (∀ post : Int32 → SX → Prop, post r u' → wpX_operate post (nI d, nI c, nI (T + 1), 0, nI (U + 1), -1, nI V, nI L, nI E, xpb, xpf, xsx, xsy, xcx, xcy, dk, dv, sr, rs, rk, rv, ct, ru, pl, be, mx, xo, st, cp, pa, pn, fx, fy, tx, ty, fi, cr, cv) k m) ∧ (∀ post : SY → Prop, post v' → wpY_operator post (nI c, nI K, nI V, nI L, nI (T + 1), nI P, nI E, nI (rr_need k), nI U, 0, -1, ype, sr, ln, kd, nm, mt, co, wi, cp, pa, pn, ru, pl, sv, be, mx, bx, bo, ex, ey, fx, fy, tx, ty, yo) k m) := by
  by_cases n1 : k = 1
  · subst n1
    exact op_1 hU m h
  by_cases n2 : k = 2
  · subst n2
    exact op_2 hU m h
  by_cases n3 : k = 3
  · subst n3
    exact op_3 hU m h
  by_cases n4 : k = 4
  · subst n4
    exact op_4 hU m h
  by_cases n5 : k = 5
  · subst n5
    exact op_5 hU m h
  by_cases n6 : k = 6
  · subst n6
    exact op_6 hU m h
  by_cases n7 : k = 7
  · subst n7
    exact op_7 hU m h
  by_cases n8 : k = 8
  · subst n8
    exact op_8 hU m h
  by_cases n9 : k = 9
  · subst n9
    exact op_9 hU m h
  by_cases n10 : k = 10
  · subst n10
    exact op_10 hU m h
  by_cases n11 : k = 11
  · subst n11
    exact op_11 hU m h
  by_cases n12 : k = 12
  · subst n12
    exact op_12 hU m h
  by_cases n13 : k = 13
  · subst n13
    exact op_13 hU m h
  by_cases n14 : k = 14
  · subst n14
    exact op_14 hU m h
  by_cases n15 : k = 15
  · subst n15
    exact op_15 hU m h
  by_cases n16 : k = 16
  · subst n16
    exact op_16 hU m h
  by_cases n17 : k = 17
  · subst n17
    exact op_17 hU m h
  obtain ⟨hd, hs, hp, ho, hc, hK, hf, hl, hm, hb⟩ := h
  refine ⟨0, (nI d, nI c, nI (T + 1), 0, nI (U + 1), -1, nI V, nI L, nI E, xpb, xpf, xsx, xsy, xcx, xcy, dk, dv, sr, rs, rk, rv, ct, ru, pl, be, mx, xo, st, cp, pa, pn, fx, fy, tx, ty, fi, cr, cv), (nI c, nI K, nI V, nI L, nI (T + 1), nI P, nI E, 0, nI (U + 1), 0, -1, ype, sr, ln, kd, nm, mt, co, wi, cp, pa, pn, ru, pl, sv, be, mx, bx, bo, ex, ey, fx, fy, tx, ty, yo), Or.inl ⟨rfl, _, Nat.le_add_right _ _, ⟨_, _, _, _, _, _, _, _, _, _, _, _, _, _, _, _, _, _, _, _, _, _, _, _, _, _, _, _, _, _, _, _, _, _, _, _, _, _, _, _, _, _, _, _, _, _, _, _, _, _, _, _, _, _, rfl, rfl, rfl, hd, hs, hp, rr_op0, hc, hK, hf, hl, hm, hb⟩⟩, ?_, ?_⟩
  · intro post H
    exact br_c (fun _ => H) (fun _ => br_c (fun _ => H) (fun _ => br_f n1 (br_f n2 (br_f n3 (br_f n4 (br_f n5 (br_f n6 (br_f n7 (br_f n8 (br_f n9 (br_f n10 (br_f n11 (br_f n12 (br_f n13 (br_f n14 (br_f n15 (br_f n16 (br_f n17 (trivial)))))))))))))))))))
  · intro post H
    unfold wpY_operator
    refine yp_wt (br_t rfl (pk_eq U 200 (fun z => absurd z (by omega)) (fun _ => nm_r (nI_1 U) (nm_e (nm_e (br_f n1 (br_f n2 (br_f n3 (br_f n4 (br_f n5 (br_f n6 (br_f n15 (br_f n7 (br_f n8 (br_f n10 (br_f n11 (br_f n12 (br_f n13 (br_f n16 (br_f n14 (br_f n17 (?_))))))))))))))))))))))
    refine br_c (fun _ => br_f n15 H) (fun a => br_c (fun b => ?_) (fun _ => br_f n15 H))
    rcases mb_59 a b with q | q | q | q | q
    · exact absurd q n5
    · exact absurd q n6
    · exact absurd q n7
    · exact absurd q n8
    · exact absurd q n9
end
section
variable {xds xrc xde xoc xun xfp xsc xtl xec xpb xpf xsx xsy xcx xcy yrc ysh yle yla yde ypa yed yoc yun yfa ywh ype : Int32} {dk dv sr rs rk rv ct ru pl be mx xo st cp pa pn fx fy tx ty fi cr cv ln kd nm mt co wi sv bx bo ex ey yo : Nat → Int32}
/-! a token -/
theorem rr_opS {q : Nat} {xo yo : Nat → Int32} (h : rr_op q xo yo) (hq : q < 6) (w : Int32) : rr_op (q + 1) (upd xo q w) (upd yo q w) := by
  refine ⟨by omega, fun i hi => ?_⟩
  by_cases e : i = q
  · rw [e, pk_us, pk_us]
  · rw [pk_un e, pk_un e]
    exact h.2 i (by omega)
theorem tk {K q c d T L V U E P F : Nat} {A B G : Nat → Nat} (k w m : Int32) (h : rr_H K q c d T L V U E P F A B G xpb xpf xsx xsy xcx xcy ype dk dv sr rs rk rv ct ru pl be mx xo st cp pa pn fx fy tx ty fi cr cv ln kd nm mt co wi sv bx bo ex ey yo) :
    ∃ (r r1 xoc1 xun1 : Int32) (xo1 : Nat → Int32) (u' : SX) (v' : SY), ((r = 0 ∧ ∃ N' q', N' ≤ rr_ph U T A ∧ rr_R K N' q' q' u' v') ∨ (r ≠ 0 ∧ rr_F r u' v')) ∧
      (∀ post : Int32 → SX → Prop, post r1 (nI d, nI c, nI (T + 1), xoc1, xun1, -1, nI V, nI L, nI E, xpb, xpf, xsx, xsy, xcx, xcy, dk, dv, sr, rs, rk, rv, ct, ru, pl, be, mx, xo1, st, cp, pa, pn, fx, fy, tx, ty, fi, cr, cv) → wpX_takeToken post (nI d, nI c, nI (T + 1), nI q, nI U, -1, nI V, nI L, nI E, xpb, xpf, xsx, xsy, xcx, xcy, dk, dv, sr, rs, rk, rv, ct, ru, pl, be, mx, xo, st, cp, pa, pn, fx, fy, tx, ty, fi, cr, cv) k w) ∧
      ((r1 = 0 ∧ ∀ post : Int32 → SX → Prop, post r u' → wpX_operate post (nI d, nI c, nI (T + 1), xoc1, xun1, -1, nI V, nI L, nI E, xpb, xpf, xsx, xsy, xcx, xcy, dk, dv, sr, rs, rk, rv, ct, ru, pl, be, mx, xo1, st, cp, pa, pn, fx, fy, tx, ty, fi, cr, cv) k m) ∨ (r1 ≠ 0 ∧ r = r1 ∧ u' = (nI d, nI c, nI (T + 1), xoc1, xun1, -1, nI V, nI L, nI E, xpb, xpf, xsx, xsy, xcx, xcy, dk, dv, sr, rs, rk, rv, ct, ru, pl, be, mx, xo1, st, cp, pa, pn, fx, fy, tx, ty, fi, cr, cv))) ∧
      (k = 0 → ∀ post : SY → Prop, post v' → wpY_number post (nI c, nI K, nI V, nI L, nI (T + 1), nI P, nI E, nI q, nI U, 0, -1, ype, sr, ln, kd, nm, mt, co, wi, cp, pa, pn, ru, pl, sv, be, mx, bx, bo, ex, ey, fx, fy, tx, ty, yo) w) ∧
      (¬ k = 0 → ∀ post : SY → Prop, post v' → wpY_operator post (nI c, nI K, nI V, nI L, nI (T + 1), nI P, nI E, nI q, nI U, 0, -1, ype, sr, ln, kd, nm, mt, co, wi, cp, pa, pn, ru, pl, sv, be, mx, bx, bo, ex, ey, fx, fy, tx, ty, yo) k m) := by
  obtain ⟨hd, hs, hp, ho, hc, hK, hf, hl, hm, hb⟩ := h
  have hq6 := ho.1
  have hU200 := hf.2.2.2.2.2.2
  by_cases k0 : k = 0
  · subst k0
    by_cases h6 : q < 6
    · have cq : (nI q).toNatClampNeg = q := pk_cl q
      have iq : vp_in (nI q) 6 := pk_in q 6 h6
      refine ⟨0, 0, nI (q + 1), nI U, upd xo q w, (nI d, nI c, nI (T + 1), nI (q + 1), nI U, -1, nI V, nI L, nI E, xpb, xpf, xsx, xsy, xcx, xcy, dk, dv, sr, rs, rk, rv, ct, ru, pl, be, mx, upd xo q w, st, cp, pa, pn, fx, fy, tx, ty, fi, cr, cv), (nI c, nI K, nI V, nI L, nI (T + 1), nI P, nI E, nI (q + 1), nI U, 0, -1, ype, sr, ln, kd, nm, mt, co, wi, cp, pa, pn, ru, pl, sv, be, mx, bx, bo, ex, ey, fx, fy, tx, ty, upd yo q w), Or.inl ⟨rfl, _, q + 1, Nat.le_refl _, ⟨_, _, _, _, _, _, _, _, _, _, _, _, _, _, _, _, _, _, _, _, _, _, _, _, _, _, _, _, _, _, _, _, _, _, _, _, _, _, _, _, _, _, _, _, _, _, _, _, _, _, _, _, _, _, rfl, rfl, rfl, hd, hs, hp, rr_opS ho h6 w, hc, hK, hf, hl, hm, hb⟩⟩, ?_, Or.inl ⟨rfl, fun post H => br_t (by decide) H⟩, fun _ post H => pk_eq q 6 (fun z => absurd z (by omega)) (fun _ => ⟨iq, nm_r (by rw [cq]) (nm_r (nI_1 q) H)⟩), fun z => absurd rfl z⟩
      intro post H
      exact br_t rfl (pk_lt q 6 (fun _ => ⟨iq, nm_r (by rw [cq]) (nm_r (nI_1 q) H)⟩) (fun z => absurd z (by omega)))
    · have e6 : q = 6 := by omega
      refine ⟨1, 1, nI q, nI U, xo, (nI d, nI c, nI (T + 1), nI q, nI U, -1, nI V, nI L, nI E, xpb, xpf, xsx, xsy, xcx, xcy, dk, dv, sr, rs, rk, rv, ct, ru, pl, be, mx, xo, st, cp, pa, pn, fx, fy, tx, ty, fi, cr, cv), (nI c, nI K, nI V, nI L, nI (T + 1), nI P, nI E, nI q, nI U, 1, -1, ype, sr, ln, kd, nm, mt, co, wi, cp, pa, pn, ru, pl, sv, be, mx, bx, bo, ex, ey, fx, fy, tx, ty, yo), Or.inr ⟨by decide, ⟨_, _, _, _, _, _, _, _, _, _, _, _, _, _, _, _, _, _, _, _, _, _, _, _, _, _, _, _, _, _, _, _, _, _, _, _, _, _, _, _, _, _, _, _, _, _, _, _, _, _, _, _, _, _, _, _, _, rfl, rfl, hd, hs, hp⟩⟩, ?_, Or.inr ⟨by decide, rfl, rfl⟩, fun _ post H => pk_eq q 6 (fun _ => H) (fun z => absurd e6 z), fun z => absurd rfl z⟩
      intro post H
      exact br_t rfl (pk_lt q 6 (fun z => absurd z h6) (fun _ => H))
  · by_cases hn : q = rr_need k
    · subst hn
      by_cases hU : U < 200
      · obtain ⟨fu1, fu2⟩ := rr_fru hf hU
        obtain ⟨r, u', v', hZ, hX, hY⟩ := op_all hU m k ⟨hd, hs, hp, ho, hc, hK, fu1, hl, hm, hb⟩
        refine ⟨r, 0, 0, nI (U + 1), xo, u', v', ?_, ?_, Or.inl ⟨rfl, hX⟩, fun z => absurd z k0, fun _ => hY⟩
        · rcases hZ with ⟨h0, N', hN', hR⟩ | hF
          · exact Or.inl ⟨h0, N', 0, by omega, hR⟩
          · exact Or.inr hF
        · intro post H
          exact br_f k0 (xp_nd (br_t rfl (pk_lt U 200 (fun _ => nm_r (nI_1 U) H) (fun z => absurd z (by omega)))))
      · have eU : U = 200 := by omega
        refine ⟨2, 2, 0, nI U, xo, (nI d, nI c, nI (T + 1), 0, nI U, -1, nI V, nI L, nI E, xpb, xpf, xsx, xsy, xcx, xcy, dk, dv, sr, rs, rk, rv, ct, ru, pl, be, mx, xo, st, cp, pa, pn, fx, fy, tx, ty, fi, cr, cv), (nI c, nI K, nI V, nI L, nI (T + 1), nI P, nI E, 0, nI U, 2, -1, ype, sr, ln, kd, nm, mt, co, wi, cp, pa, pn, ru, pl, sv, be, mx, bx, bo, ex, ey, fx, fy, tx, ty, yo), Or.inr ⟨by decide, ⟨_, _, _, _, _, _, _, _, _, _, _, _, _, _, _, _, _, _, _, _, _, _, _, _, _, _, _, _, _, _, _, _, _, _, _, _, _, _, _, _, _, _, _, _, _, _, _, _, _, _, _, _, _, _, _, _, _, rfl, rfl, hd, hs, hp⟩⟩, ?_, Or.inr ⟨by decide, rfl, rfl⟩, fun z => absurd z k0, ?_⟩
        · intro post H
          exact br_f k0 (xp_nd (br_t rfl (pk_lt U 200 (fun z => absurd z hU) (fun _ => H))))
        · intro _ post H
          unfold wpY_operator
          exact yp_wt (br_t rfl (pk_eq U 200 (fun _ => H) (fun z => absurd eU z)))
    · have hb6 := rr_needb k
      refine ⟨1, 1, nI q, nI U, xo, (nI d, nI c, nI (T + 1), nI q, nI U, -1, nI V, nI L, nI E, xpb, xpf, xsx, xsy, xcx, xcy, dk, dv, sr, rs, rk, rv, ct, ru, pl, be, mx, xo, st, cp, pa, pn, fx, fy, tx, ty, fi, cr, cv), (nI c, nI K, nI V, nI L, nI (T + 1), nI P, nI E, nI q, nI U, 1, -1, ype, sr, ln, kd, nm, mt, co, wi, cp, pa, pn, ru, pl, sv, be, mx, bx, bo, ex, ey, fx, fy, tx, ty, yo), Or.inr ⟨by decide, ⟨_, _, _, _, _, _, _, _, _, _, _, _, _, _, _, _, _, _, _, _, _, _, _, _, _, _, _, _, _, _, _, _, _, _, _, _, _, _, _, _, _, _, _, _, _, _, _, _, _, _, _, _, _, _, _, _, _, rfl, rfl, hd, hs, hp⟩⟩, ?_, Or.inr ⟨by decide, rfl, rfl⟩, fun z => absurd z k0, ?_⟩
      · intro post H
        exact br_f k0 (xp_nd (pk_eq q (rr_need k) (fun z => absurd z hn) (fun _ => H)))
      · intro _ post H
        unfold wpY_operator
        exact yp_wt (pk_eq q (rr_need k) (fun z => absurd z hn) (fun _ => H))
/-! the two loops' bodies -/
def rr_WX (post : Int32 → SX → Prop) (n : Nat) (f s : Int32) (u : SX) : Prop := match u with
  | (xds, xrc, xde, xoc, xun, xfp, xsc, xtl, xec, xpb, xpf, xsx, xsy, xcx, xcy, dk, dv, sr, rs, rk, rv, ct, ru, pl, be, mx, xo, st, cp, pa, pn, fx, fy, tx, ty, fi, cr, cv) => wX_renderFirst_9 post n f s xds xrc xde xoc xun xfp xsc xtl xec xpb xpf xsx xsy xcx xcy dk dv sr rs rk rv ct ru pl be mx xo st cp pa pn fx fy tx ty fi cr cv
def rr_WY (post : Int32 → SY → Prop) (n : Nat) (s : Int32) (v : SY) : Prop := match v with
  | (yrc, ysh, yle, yla, yde, ypa, yed, yoc, yun, yfa, ywh, ype, sr, ln, kd, nm, mt, co, wi, cp, pa, pn, ru, pl, sv, be, mx, bx, bo, ex, ey, fx, fy, tx, ty, yo) => wY_renderAt_141 post n s yrc ysh yle yla yde ypa yed yoc yun yfa ywh ype sr ln kd nm mt co wi cp pa pn ru pl sv be mx bx bo ex ey fx fy tx ty yo
def rr_154 (post : Int32 → SX → Prop) (n : Nat) (r s m : Int32) (u : SX) : Prop := match u with
  | (xds, xrc, xde, xoc, xun, xfp, xsc, xtl, xec, xpb, xpf, xsx, xsy, xcx, xcy, dk, dv, sr, rs, rk, rv, ct, ru, pl, be, mx, xo, st, cp, pa, pn, fx, fy, tx, ty, fi, cr, cv) => wX_renderFirst_154 post (wX_renderFirst_9 post n) r s m xds xrc xde xoc xun xfp xsc xtl xec xpb xpf xsx xsy xcx xcy dk dv sr rs rk rv ct ru pl be mx xo st cp pa pn fx fy tx ty fi cr cv
def rr_122 (post : SY → Prop) (m : Int32) (v : SY) : Prop := match v with
  | (yrc, ysh, yle, yla, yde, ypa, yed, yoc, yun, yfa, ywh, ype, sr, ln, kd, nm, mt, co, wi, cp, pa, pn, ru, pl, sv, be, mx, bx, bo, ex, ey, fx, fy, tx, ty, yo) => wY_advance_122 post m yrc ysh yle yla yde ypa yed yoc yun yfa ywh ype sr ln kd nm mt co wi cp pa pn ru pl sv be mx bx bo ex ey fx fy tx ty yo
theorem xs_leave {post : Int32 → SX → Prop} {n s T s0 a : Nat} (u' : SX) (hs : s < 8241) (hT : T + 1 ≤ 7) (h0 : s0 < 6) (ruT : ru T = nI s0) (plT : pl T = nI a) (ha : a ≤ 40) (hl : ct s0 = -1 ∨ ∃ r, r < 8 ∧ ct s0 = nI r ∧ rs r = nI a)
    (hc : ∀ p : SX → Prop, p u' → wpX_leaveStream p (xds, xrc, nI (T + 1), xoc, xun, xfp, xsc, xtl, xec, xpb, xpf, xsx, xsy, xcx, xcy, dk, dv, sr, rs, rk, rv, ct, ru, pl, be, mx, xo, st, cp, pa, pn, fx, fy, tx, ty, fi, cr, cv)) (H : rr_WX post n 0 (nI (s + 1)) u') : rr_WX post (n + 1) 0 (nI s) (xds, xrc, nI (T + 1), xoc, xun, xfp, xsc, xtl, xec, xpb, xpf, xsx, xsy, xcx, xcy, dk, dv, sr, rs, rk, rv, ct, ru, pl, be, mx, xo, st, cp, pa, pn, fx, fy, tx, ty, fi, cr, cv) := by
  obtain ⟨xds', xrc', xde', xoc', xun', xfp', xsc', xtl', xec', xpb', xpf', xsx', xsy', xcx', xcy', dk', dv', sr', rs', rk', rv', ct', ru', pl', be', mx', xo', st', cp', pa', pn', fx', fy', tx', ty', fi', cr', cv'⟩ := u'
  have eT : nI (T + 1) - 1 = nI T := nI_pred T
  have cT : (nI T).toNatClampNeg = T := pk_cl T
  have c0 : (nI s0).toNatClampNeg = s0 := pk_cl s0
  have i7 : vp_in (nI T) 7 := pk_in T 7 (by omega)
  have x79 : wX_renderFirst_79 post (wX_renderFirst_9 post n) 0 (nI s) xds xrc (nI (T + 1)) xoc xun xfp xsc xtl xec xpb xpf xsx xsy xcx xcy dk dv sr rs rk rv ct ru pl be mx xo st cp pa pn fx fy tx ty fi cr cv := by
    unfold wX_renderFirst_79
    exact hc _ (nm_r (nI_1 s) H)
  refine pk_le 8241 s (fun z => absurd z (by omega)) (fun _ => pk_le (T + 1) 0 (fun z => absurd z (by omega)) (fun _ => br_t rfl (nm_r eT ⟨i7, nm_r (e' := nI s0) (by rw [cT]; exact ruT) ⟨i7, nm_r (e' := nI a) (by rw [cT]; exact plT) ⟨pk_in s0 6 h0, nm_r (e' := ct s0) (by rw [c0]) ?_⟩⟩⟩)))
  rcases hl with e | ⟨r, hr, e, e'⟩
  · rw [e]
    exact br_t (by decide) x79
  · have cr : (nI r).toNatClampNeg = r := pk_cl r
    rw [e]
    refine br_f (nI_pos (by omega)) ⟨pk_in r 8 hr, ?_⟩
    rw [cr, e']
    exact pk_lt a a (fun z => absurd z (by omega)) (fun _ => x79)
theorem xs_tok {post : Int32 → SX → Prop} {n s T s0 a r l : Nat} {r1 r2 m xoc1 xun1 : Int32} {xo1 : Nat → Int32} (u' : SX) (hs : s < 8241) (hT : T + 1 ≤ 7) (h0 : s0 < 6) (ruT : ru T = nI s0) (plT : pl T = nI a) (hr : r < 8) (hl : l ≤ 40) (ha : a < l) (e : ct s0 = nI r) (e' : rs r = nI l) (em : m = 64 * nI s0 + nI a)
    (hTk : ∀ p : Int32 → SX → Prop, p r1 (xds, xrc, nI (T + 1), xoc1, xun1, xfp, xsc, xtl, xec, xpb, xpf, xsx, xsy, xcx, xcy, dk, dv, sr, rs, rk, rv, ct, ru, upd pl T (nI (a + 1)), be, mx, xo1, st, cp, pa, pn, fx, fy, tx, ty, fi, cr, cv) → wpX_takeToken p (xds, xrc, nI (T + 1), xoc, xun, xfp, xsc, xtl, xec, xpb, xpf, xsx, xsy, xcx, xcy, dk, dv, sr, rs, rk, rv, ct, ru, upd pl T (nI (a + 1)), be, mx, xo, st, cp, pa, pn, fx, fy, tx, ty, fi, cr, cv) (rk (40 * r + a)) (rv (40 * r + a)))
    (hOp : (r1 = 0 ∧ ∀ p : Int32 → SX → Prop, p r2 u' → wpX_operate p (xds, xrc, nI (T + 1), xoc1, xun1, xfp, xsc, xtl, xec, xpb, xpf, xsx, xsy, xcx, xcy, dk, dv, sr, rs, rk, rv, ct, ru, upd pl T (nI (a + 1)), be, mx, xo1, st, cp, pa, pn, fx, fy, tx, ty, fi, cr, cv) (rk (40 * r + a)) m) ∨ (r1 ≠ 0 ∧ r2 = r1 ∧ u' = (xds, xrc, nI (T + 1), xoc1, xun1, xfp, xsc, xtl, xec, xpb, xpf, xsx, xsy, xcx, xcy, dk, dv, sr, rs, rk, rv, ct, ru, upd pl T (nI (a + 1)), be, mx, xo1, st, cp, pa, pn, fx, fy, tx, ty, fi, cr, cv)))
    (H : rr_154 post n r2 (nI s) m u') : rr_WX post (n + 1) 0 (nI s) (xds, xrc, nI (T + 1), xoc, xun, xfp, xsc, xtl, xec, xpb, xpf, xsx, xsy, xcx, xcy, dk, dv, sr, rs, rk, rv, ct, ru, pl, be, mx, xo, st, cp, pa, pn, fx, fy, tx, ty, fi, cr, cv) := by
  have eT : nI (T + 1) - 1 = nI T := nI_pred T
  have cT : (nI T).toNatClampNeg = T := pk_cl T
  have c0 : (nI s0).toNatClampNeg = s0 := pk_cl s0
  have i7 : vp_in (nI T) 7 := pk_in T 7 (by omega)
  have cr : (nI r).toNatClampNeg = r := pk_cl r
  have e8 : nI r * 40 + nI a = nI (40 * r + a) := by
    rw [show nI r * 40 = nI (40 * r) from mb_ml 40 r, nI_add]
  have i8 : vp_in (nI (40 * r + a)) 320 := pk_in (40 * r + a) 320 (by omega)
  have c8 : (nI (40 * r + a)).toNatClampNeg = 40 * r + a := pk_cl (40 * r + a)
  refine pk_le 8241 s (fun z => absurd z (by omega)) (fun _ => pk_le (T + 1) 0 (fun z => absurd z (by omega)) (fun _ => br_t rfl (nm_r eT ⟨i7, nm_r (e' := nI s0) (by rw [cT]; exact ruT) ⟨i7, nm_r (e' := nI a) (by rw [cT]; exact plT) ⟨pk_in s0 6 h0, nm_r (e' := ct s0) (by rw [c0]) ?_⟩⟩⟩)))
  rw [e]
  refine br_f (nI_pos (by omega)) ⟨pk_in r 8 hr, ?_⟩
  rw [cr, e']
  refine pk_lt a l (fun _ => ⟨i7, nm_r (by rw [cT, nI_1]) (nm_r e8 (nm_r em.symm ⟨i8, i8, ?_⟩))⟩) (fun z => absurd z (by omega))
  rw [c8]
  refine hTk _ ?_
  rcases hOp with ⟨z, hO⟩ | ⟨z, z2, z3⟩
  · refine br_t z ⟨i8, hO _ ?_⟩
    obtain ⟨xds', xrc', xde', xoc', xun', xfp', xsc', xtl', xec', xpb', xpf', xsx', xsy', xcx', xcy', dk', dv', sr', rs', rk', rv', ct', ru', pl', be', mx', xo', st', cp', pa', pn', fx', fy', tx', ty', fi', cr', cv'⟩ := u'
    exact H
  · subst z3
    rw [z2] at H
    exact br_f z H
theorem ys_leave {post : SY → Prop} {T s0 a K : Nat} (v' : SY) (hK : K ≤ 8) (hT : T + 1 ≤ 7) (h0 : s0 < 6) (ruT : ru T = nI s0) (plT : pl T = nI a) (ha : a ≤ 40) (hl : ma_nw sr (nI s0) K = -1 ∨ ∃ r, r < 8 ∧ ma_nw sr (nI s0) K = nI r ∧ ln r = nI a)
    (hc : ∀ p : SY → Prop, p v' → wpY_close p (yrc, nI K, yle, yla, nI (T + 1), ypa, yed, yoc, yun, yfa, ywh, ype, sr, ln, kd, nm, mt, co, wi, cp, pa, pn, ru, pl, sv, be, mx, bx, bo, ex, ey, fx, fy, tx, ty, yo) (nI T)) (H : post v') : wpY_advance post (yrc, nI K, yle, yla, nI (T + 1), ypa, yed, yoc, yun, yfa, ywh, ype, sr, ln, kd, nm, mt, co, wi, cp, pa, pn, ru, pl, sv, be, mx, bx, bo, ex, ey, fx, fy, tx, ty, yo) := by
  obtain ⟨yrc', ysh', yle', yla', yde', ypa', yed', yoc', yun', yfa', ywh', ype', sr', ln', kd', nm', mt', co', wi', cp', pa', pn', ru', pl', sv', be', mx', bx', bo', ex', ey', fx', fy', tx', ty', yo'⟩ := v'
  have eT : nI (T + 1) - 1 = nI T := nI_pred T
  have cT : (nI T).toNatClampNeg = T := pk_cl T
  have i8 : vp_in (nI T) 8 := pk_in T 8 (by omega)
  have y43 : wY_advance_43 post (nI T) yrc (nI K) yle yla (nI (T + 1)) ypa yed yoc yun yfa ywh ype sr ln kd nm mt co wi cp pa pn ru pl sv be mx bx bo ex ey fx fy tx ty yo := by
    unfold wY_advance_43
    exact hc _ H
  unfold wpY_advance
  refine nm_r eT ⟨i8, nm_r (e' := nI s0) (by rw [cT]; exact ruT) (yp_nw hK ?_)⟩
  rcases hl with e | ⟨r, hr, e, e'⟩
  · rw [e]
    exact br_t (by decide) y43
  · have cr : (nI r).toNatClampNeg = r := pk_cl r
    rw [e]
    refine br_f (nI_pos (by omega)) ⟨i8, pk_in r 9 (by omega), ?_⟩
    rw [cT, cr, plT, e']
    exact br_t rfl y43
theorem ys_tok {post : SY → Prop} {T s0 a r l K : Nat} {m : Int32} (v' : SY) (hK : K ≤ 8) (hT : T + 1 ≤ 7) (h0 : s0 < 6) (ruT : ru T = nI s0) (plT : pl T = nI a) (hr : r < 8) (hl : l ≤ 40) (ha : a < l) (e : ma_nw sr (nI s0) K = nI r) (e' : ln r = nI l) (em : m = 64 * nI s0 + nI a)
    (hY0 : kd (40 * r + a) = 0 → ∀ p : SY → Prop, p v' → wpY_number p (yrc, nI K, yle, yla, nI (T + 1), ypa, yed, yoc, yun, yfa, ywh, ype, sr, ln, kd, nm, mt, co, wi, cp, pa, pn, ru, upd pl T (nI (a + 1)), sv, be, mx, bx, bo, ex, ey, fx, fy, tx, ty, yo) (nm (40 * r + a)))
    (hY1 : ¬ kd (40 * r + a) = 0 → ∀ p : SY → Prop, p v' → wpY_operator p (yrc, nI K, yle, yla, nI (T + 1), ypa, yed, yoc, yun, yfa, ywh, ype, sr, ln, kd, nm, mt, co, wi, cp, pa, pn, ru, upd pl T (nI (a + 1)), sv, be, mx, bx, bo, ex, ey, fx, fy, tx, ty, yo) (kd (40 * r + a)) m)
    (H : rr_122 post m v') : wpY_advance post (yrc, nI K, yle, yla, nI (T + 1), ypa, yed, yoc, yun, yfa, ywh, ype, sr, ln, kd, nm, mt, co, wi, cp, pa, pn, ru, pl, sv, be, mx, bx, bo, ex, ey, fx, fy, tx, ty, yo) := by
  obtain ⟨yrc', ysh', yle', yla', yde', ypa', yed', yoc', yun', yfa', ywh', ype', sr', ln', kd', nm', mt', co', wi', cp', pa', pn', ru', pl', sv', be', mx', bx', bo', ex', ey', fx', fy', tx', ty', yo'⟩ := v'
  have eT : nI (T + 1) - 1 = nI T := nI_pred T
  have cT : (nI T).toNatClampNeg = T := pk_cl T
  have i8 : vp_in (nI T) 8 := pk_in T 8 (by omega)
  have cr : (nI r).toNatClampNeg = r := pk_cl r
  have e4 : 40 * nI r + nI a = nI (40 * r + a) := by
    rw [show 40 * nI r = nI (40 * r) from mb_mr 40 r, nI_add]
  have i4 : vp_in (nI (40 * r + a)) 360 := pk_in (40 * r + a) 360 (by omega)
  have c4 : (nI (40 * r + a)).toNatClampNeg = 40 * r + a := pk_cl (40 * r + a)
  unfold wpY_advance
  refine nm_r eT ⟨i8, nm_r (e' := nI s0) (by rw [cT]; exact ruT) (yp_nw hK ?_)⟩
  rw [e]
  refine br_f (nI_pos (by omega)) ⟨i8, pk_in r 9 (by omega), ?_⟩
  rw [cT, cr, plT, e']
  refine pk_eq a l (fun z => absurd z (by omega)) (fun _ => ⟨i8, nm_r e4 ⟨i8, nm_r em.symm ⟨i8, i8, nm_r (by rw [nI_1]) ⟨i4, ?_⟩⟩⟩⟩)
  rw [c4]
  by_cases k0 : kd (40 * r + a) = 0
  · exact br_t k0 ⟨i4, hY0 k0 _ H⟩
  · exact br_f k0 ⟨i4, hY1 k0 _ H⟩
end
section
variable {xds xrc xde xoc xun xfp xsc xtl xec xpb xpf xsx xsy xcx xcy yrc ysh yle yla yde ypa yed yoc yun yfa ywh ype : Int32} {dk dv sr rs rk rv ct ru pl be mx xo st cp pa pn fx fy tx ty fi cr cv ln kd nm mt co wi sv bx bo ex ey yo : Nat → Int32}
/-! a step of both loops -/
theorem st_step {K q N : Nat} {u : SX} {v : SY} (h : rr_R K N q q u v) :
    (∃ (N' q' : Nat) (u' : SX) (v' : SY), N' < N ∧ rr_R K N' q' q' u' v' ∧ (∀ (post : Int32 → SX → Prop) (n s : Nat), s < 8241 → rr_WX post n 0 (nI (s + 1)) u' → rr_WX post (n + 1) 0 (nI s) u) ∧ (∀ (post : Int32 → SY → Prop) (n s : Nat), s < 8241 → rr_WY post n (nI (s + 1)) v' → rr_WY post (n + 1) (nI s) v)) ∨
    (∃ (r : Int32) (u' : SX) (v' : SY), rr_I u' v' ∧ (∀ (post : Int32 → SX → Prop) (n s : Nat), s < 8241 → post r u' → rr_WX post (n + 2) 0 (nI s) u) ∧ (∀ (post : Int32 → SY → Prop) (n s : Nat), s < 8241 → post r v' → rr_WY post (n + 2) (nI s) v)) := by
  obtain ⟨c, d, T, L, V, U, E, P, F, A, B, G, xpb, xpf, xsx, xsy, xcx, xcy, ype, dk, dv, sr, rs, rk, rv, ct, ru, pl, be, mx, xo, st, cp, pa, pn, fx, fy, tx, ty, fi, cr, cv, ln, kd, nm, mt, co, wi, sv, bx, bo, ex, ey, yo, rfl, rfl, rfl, h⟩ := h
  have hH := h
  obtain ⟨hd, hs, hp, ho, hc, hK, hf, hl, hm, hb⟩ := h
  obtain ⟨hTV, hV, hLT⟩ := rr_frb hf
  obtain ⟨⟨s0, h0, ruT⟩, plT, hA, _⟩ := hf.1 T (by omega)
  have ect : ct s0 = ma_nw sr (nI s0) K := hc s0 h0
  by_cases hlv : ma_nw sr (nI s0) K = -1 ∨ ∃ r, r < 8 ∧ ma_nw sr (nI s0) K = nI r ∧ ln r = nI (A T)
  · have hlx : ct s0 = -1 ∨ ∃ r, r < 8 ∧ ct s0 = nI r ∧ rs r = nI (A T) := by
      rw [ect]
      rcases hlv with e | ⟨r, hr, e, e'⟩
      · exact Or.inl e
      · exact Or.inr ⟨r, hr, e, by rw [(hd.2.2.2.1 r hr).1]; exact e'⟩
    cases T with
    | zero =>
      obtain ⟨hX, hY⟩ := st_end0 hH
      refine Or.inr ⟨0, _, _, ?_, fun post n s hs' H => xs_leave (n := n + 1) _ hs' (by omega) h0 ruT plT hA hlx hX (br_c (fun _ => H) (fun _ => br_t (by decide) H)), fun post n s hs' H => pk_le 20000 s (fun z => absurd z (by omega)) (fun _ => pk_le (0 + 1) 0 (fun z => absurd z (by omega)) (fun _ => br_t rfl (ys_leave _ hK (by omega) h0 ruT plT hA hlv hY (nm_r (nI_1 s) (br_c (fun _ => H) (fun _ => br_t (by decide) H))))))⟩
      exact ⟨_, _, _, _, _, _, _, _, _, _, _, _, _, _, _, _, _, _, _, _, _, _, _, _, _, _, _, _, _, _, _, _, _, _, _, _, _, _, _, _, _, _, _, _, _, _, _, _, _, _, _, _, _, _, _, _, _, _, _, rfl, rfl, hd, hs, hp⟩
    | succ t =>
      obtain ⟨N', u', v', hN, hR, hX, hY⟩ := st_end hH
      obtain ⟨yrc', ysh', yle', yla', yde', ypa', yed', yoc', yun', yfa', ywh', ype', sr', ln', kd', nm', mt', co', wi', cp', pa', pn', ru', pl', sv', be', mx', bx', bo', ex', ey', fx', fy', tx', ty', yo'⟩ := v'
      exact Or.inl ⟨N', 0, u', _, by omega, hR, fun post n s hs' H => xs_leave u' hs' (by omega) h0 ruT plT hA hlx hX H, fun post n s hs' H => pk_le 20000 s (fun z => absurd z (by omega)) (fun _ => pk_le (t + 1 + 1) 0 (fun z => absurd z (by omega)) (fun _ => br_t rfl (ys_leave _ hK (by omega) h0 ruT plT hA hlv hY (nm_r (nI_1 s) H))))⟩
  · rcases ma_nwb sr (nI s0) K with e | ⟨r, hr, e⟩
    · exact absurd (Or.inl e) hlv
    · obtain ⟨er, l, hl40, el⟩ := hd.2.2.2.1 r (by omega)
      have hAl := hl T (by omega) r l (by omega) hl40 (by rw [ruT]; exact e) el
      have hAT : A T < l := by
        have : A T ≠ l := fun z => hlv (Or.inr ⟨r, by omega, e, by rw [z]; exact el⟩)
        omega
      obtain ⟨ft1, ft2⟩ := rr_frt hf (by omega)
      have hpl := rr_plt hl (r := r) (l := l) (by omega) hl40 (by rw [ruT]; exact e) el hAT
      obtain ⟨ek, ev⟩ := hd.2.2.2.2.1 (40 * r + A T) (by omega)
      obtain ⟨r', r1, xoc1, xun1, xo1, u', v', hO, hTk, hOp, hY0, hY1⟩ := tk (kd (40 * r + A T)) (nm (40 * r + A T)) (64 * nI s0 + nI (A T)) ⟨hd, hs, hp, ho, hc, hK, ft1, hpl, hm, hb⟩
      rw [← ek, ← ev] at hTk
      rw [← ek] at hOp
      rcases hO with ⟨z, N', q', hN', hR⟩ | ⟨z, hF⟩
      · subst z
        have hR' := hR
        obtain ⟨c', d', T', L', V', U', E', P', F', A', B', G', xpb', xpf', xsx', xsy', xcx', xcy', ype', dk', dv', sr', rs', rk', rv', ct', ru', pl', be', mx', xo', st', cp', pa', pn', fx', fy', tx', ty', fi', cr', cv', ln', kd', nm', mt', co', wi', sv', bx', bo', ex', ey', yo', rfl, rfl, _, _⟩ := hR
        exact Or.inl ⟨N', q', _, _, by omega, hR', fun post n s hs' H => xs_tok _ hs' (by omega) h0 ruT plT (by omega) hl40 hAT (ect.trans e) (er.trans el) rfl hTk hOp (br_t rfl (nm_r (nI_1 s) H)), fun post n s hs' H => pk_le 20000 s (fun z => absurd z (by omega)) (fun _ => pk_le (T + 1) 0 (fun z => absurd z (by omega)) (fun _ => br_t rfl (ys_tok _ hK (by omega) h0 ruT plT (by omega) hl40 hAT e el rfl hY0 hY1 (br_t rfl (nm_r (nI_1 s) H)))))⟩
      · obtain ⟨c', d', xde', xoc', xun', xsc', xtl', xec', xpb', xpf', xsx', xsy', xcx', xcy', ysh', yle', yla', yde', ypa', yed', yoc', ype', dk', dv', sr', rs', rk', rv', ct', ru', pl', be', mx', xo', st', cp', pa', pn', fx', fy', tx', ty', fi', cr', cv', ln', kd', nm', mt', co', wi', sv', bx', bo', ex', ey', yo', rfl, rfl, hd', hs'', hp'⟩ := hF
        refine Or.inr ⟨r', (nI d', nI c', xde', xoc', xun', 64 * nI s0 + nI (A T), xsc', xtl', xec', xpb', xpf', xsx', xsy', xcx', xcy', dk', dv', sr', rs', rk', rv', ct', ru', pl', be', mx', xo', st', cp', pa', pn', fx', fy', tx', ty', fi', cr', cv'), (nI c', ysh', yle', yla', yde', ypa', yed', yoc', xun', r', 64 * nI s0 + nI (A T), ype', sr', ln', kd', nm', mt', co', wi', cp', pa', pn', ru', pl', sv', be', mx', bx', bo', ex', ey', fx', fy', tx', ty', yo'), ?_, fun post n s hs' H => xs_tok (n := n + 1) _ hs' (by omega) h0 ruT plT (by omega) hl40 hAT (ect.trans e) (er.trans el) rfl hTk hOp (br_f z (nm_r (nI_1 s) (br_c (fun _ => H) (fun _ => br_c (fun _ => H) (fun _ => br_f z H))))), fun post n s hs' H => pk_le 20000 s (fun z => absurd z (by omega)) (fun _ => pk_le (T + 1) 0 (fun z => absurd z (by omega)) (fun _ => br_t rfl (ys_tok _ hK (by omega) h0 ruT plT (by omega) hl40 hAT e el rfl hY0 hY1 (br_f z (nm_r (nI_1 s) (br_c (fun _ => H) (fun _ => br_c (fun _ => H) (fun _ => br_f z H))))))))⟩
        exact ⟨_, _, _, _, _, _, _, _, _, _, _, _, _, _, _, _, _, _, _, _, _, _, _, _, _, _, _, _, _, _, _, _, _, _, _, _, _, _, _, _, _, _, _, _, _, _, _, _, _, _, _, _, _, _, _, _, _, _, _, rfl, rfl, hd', hs'', hp'⟩
theorem rr_RN {K N q n : Nat} {u : SX} {v : SY} (h : rr_R K N q n u v) : 1 ≤ N := by
  obtain ⟨c, d, T, L, V, U, E, P, F, A, B, G, xpb, xpf, xsx, xsy, xcx, xcy, ype, dk, dv, sr, rs, rk, rv, ct, ru, pl, be, mx, xo, st, cp, pa, pn, fx, fy, tx, ty, fi, cr, cv, ln, kd, nm, mt, co, wi, sv, bx, bo, ex, ey, yo, _, _, rfl, h⟩ := h
  exact rr_ph1 h.2.2.2.2.2.2.1
theorem lo_main (K : Nat) : ∀ (N q : Nat) (u : SX) (v : SY), rr_R K N q q u v → ∃ (r : Int32) (u' : SX) (v' : SY), rr_I u' v' ∧ (∀ (post : Int32 → SX → Prop) (n s : Nat), N < n → s + N ≤ 8241 → post r u' → rr_WX post n 0 (nI s) u) ∧ (∀ (post : Int32 → SY → Prop) (n s : Nat), N < n → s + N ≤ 8241 → post r v' → rr_WY post n (nI s) v) := by
  intro N
  induction N using Nat.strongRecOn with
  | ind N ih =>
    intro q u v h
    have h1 := rr_RN h
    rcases st_step h with ⟨N', q', u1, v1, hN, hR, hX, hY⟩ | ⟨r, u1, v1, hI, hX, hY⟩
    · obtain ⟨r, u', v', hI, hX', hY'⟩ := ih N' hN q' u1 v1 hR
      refine ⟨r, u', v', hI, fun post n s hn hs H => ?_, fun post n s hn hs H => ?_⟩
      · obtain ⟨n', rfl⟩ : ∃ n', n = n' + 1 := ⟨n - 1, by omega⟩
        exact hX post n' s (by omega) (hX' post n' (s + 1) (by omega) (by omega) H)
      · obtain ⟨n', rfl⟩ : ∃ n', n = n' + 1 := ⟨n - 1, by omega⟩
        exact hY post n' s (by omega) (hY' post n' (s + 1) (by omega) (by omega) H)
    · refine ⟨r, u1, v1, hI, fun post n s hn hs H => ?_, fun post n s hn hs H => ?_⟩
      · obtain ⟨n', rfl⟩ : ∃ n', n = n' + 2 := ⟨n - 2, by omega⟩
        exact hX post n' s (by omega) H
      · obtain ⟨n', rfl⟩ : ∃ n', n = n' + 2 := ⟨n - 2, by omega⟩
        exact hY post n' s (by omega) H
end
section
variable {xds xrc xde xoc xun xfp xsc xtl xec xpb xpf xsx xsy xcx xcy yrc ysh yle yla yde ypa yed yoc yun yfa ywh ype : Int32} {dk dv sr rs rk rv ct ru pl be mx xo st cp pa pn fx fy tx ty fi cr cv ln kd nm mt co wi sv bx bo ex ey yo : Nat → Int32}
/-! how a rendering begins -/
theorem cl00 : (0 : Int32).toNatClampNeg = 0 := by decide
theorem xw_s79 {post : SX → Prop} (hp : post (xds, xrc, nI (0 + 1), 0, 0, -1, 0, 0, 0, 0, xpf, xsx, xsy, xcx, xcy, dk, dv, sr, rs, rk, rv, ct, upd ru 0 0, upd pl 0 0, upd be 0 0, upd mx 0 (-1), xo, st, ma_w cp (fun _ => 1) 0 192, ma_w pa (fun _ => 0) 0 192, ma_w pn (fun _ => -1) 0 192, fx, fy, tx, ty, fi, cr, cv)) :
    ∀ d i, i + d = 192 → wX_startRendering_79 post xds xrc xde xoc xun xfp xsc xtl xec xpb xpf xsx xsy xcx xcy (d + 1) (nI i) dk dv sr rs rk rv ct ru pl be mx xo st (ma_w cp (fun _ => 1) 0 i) pa pn fx fy tx ty fi cr cv := by
  intro d
  induction d with
  | zero =>
    intro i hi
    have e : i = 192 := by omega
    rw [e]
    exact pk_le 192 192 (fun _ => xp_cl (l := 0) (by omega) ⟨pk_in 0 7 (by omega), nm_r (by rw [cl00]) ⟨pk_in 0 7 (by omega), nm_r (by rw [cl00]) ⟨pk_in 0 7 (by omega), nm_r (by rw [cl00]) ⟨pk_in 0 7 (by omega), nm_r (by rw [cl00]) (nm_r (nI_1 0) hp)⟩⟩⟩⟩) (fun h => absurd h (by omega))
  | succ d ih =>
    intro i hi
    have c : (nI i).toNatClampNeg = i := pk_cl i
    have h := ih (i + 1) (by omega)
    exact pk_le 192 i (fun h => absurd h (by omega)) (fun _ => ⟨pk_in i 1344 (by omega), nm_r (by rw [c, mb_vb1]; exact ma_ws0 cp (fun _ => 1) i) (nm_r (nI_1 i) h)⟩)
theorem xw_s28 {post : SX → Prop} (hp : ∃ n, wX_startRendering_79 post xds xrc xde xoc xun xfp xsc xtl xec xpb xpf xsx xsy xcx xcy n 0 dk dv sr rs rk rv ct ru pl be mx xo (upd (upd (upd (upd (ma_w st (fun _ => 0) 0 8) 0 1) 3 1) 6 1) 7 4) cp pa pn fx fy tx ty fi cr cv) :
    ∀ d i, i + d = 8 → wX_startRendering_28 post xds xrc xde xoc xun xfp xsc xtl xec xpb xpf xsx xsy xcx xcy (d + 1) (nI i) dk dv sr rs rk rv ct ru pl be mx xo (ma_w st (fun _ => 0) 0 i) cp pa pn fx fy tx ty fi cr cv := by
  intro d
  induction d with
  | zero =>
    intro i hi
    have e : i = 8 := by omega
    rw [e]
    exact pk_le 8 8 (fun _ => nm_e (nm_e (nm_e (nm_e hp)))) (fun h => absurd h (by omega))
  | succ d ih =>
    intro i hi
    have c : (nI i).toNatClampNeg = i := pk_cl i
    have h := ih (i + 1) (by omega)
    exact pk_le 8 i (fun h => absurd h (by omega)) (fun _ => ⟨pk_in i 56 (by omega), nm_r (by rw [c]; exact ma_ws0 st (fun _ => 0) i) (nm_r (nI_1 i) h)⟩)
theorem xw_s2 {post : SX → Prop} {k : Nat} (hk : k ≤ 8) (hp : ∃ n, wX_startRendering_28 post xds xrc xde xoc xun xfp xsc xtl xec xpb xpf xsx xsy xcx xcy n 0 dk dv sr rs rk rv (ma_w ct (fun s => ma_nw sr (nI s) k) 0 6) ru pl be mx xo st cp pa pn fx fy tx ty fi cr cv) :
    ∀ d i, i + d = 6 → wX_startRendering_2 post (nI k) xds xrc xde xoc xun xfp xsc xtl xec xpb xpf xsx xsy xcx xcy (d + 1) (nI i) dk dv sr rs rk rv (ma_w ct (fun s => ma_nw sr (nI s) k) 0 i) ru pl be mx xo st cp pa pn fx fy tx ty fi cr cv := by
  intro d
  induction d with
  | zero =>
    intro i hi
    have e : i = 6 := by omega
    rw [e]
    exact pk_le 6 6 (fun _ => hp) (fun h => absurd h (by omega))
  | succ d ih =>
    intro i hi
    have c : (nI i).toNatClampNeg = i := pk_cl i
    have h := ih (i + 1) (by omega)
    exact pk_le 6 i (fun h => absurd h (by omega)) (fun _ => xp_nr hk ⟨pk_in i 6 (by omega), nm_r (by rw [c]; exact ma_ws0 ct (fun s => ma_nw sr (nI s) k) i) (nm_r (nI_1 i) h)⟩)
theorem xp_start {post : SX → Prop} {k : Nat} (hk : k ≤ 8) (hp : post (xds, xrc, nI (0 + 1), 0, 0, -1, 0, 0, 0, 0, xpf, xsx, xsy, xcx, xcy, dk, dv, sr, rs, rk, rv, ma_w ct (fun s => ma_nw sr (nI s) k) 0 6, upd ru 0 0, upd pl 0 0, upd be 0 0, upd mx 0 (-1), xo, upd (upd (upd (upd (ma_w st (fun _ => 0) 0 8) 0 1) 3 1) 6 1) 7 4, ma_w cp (fun _ => 1) 0 192, ma_w pa (fun _ => 0) 0 192, ma_w pn (fun _ => -1) 0 192, fx, fy, tx, ty, fi, cr, cv)) : wpX_startRendering post (xds, xrc, xde, xoc, xun, xfp, xsc, xtl, xec, xpb, xpf, xsx, xsy, xcx, xcy, dk, dv, sr, rs, rk, rv, ct, ru, pl, be, mx, xo, st, cp, pa, pn, fx, fy, tx, ty, fi, cr, cv) (nI k) := by
  have h := xw_s79 (xde := xde) (xoc := xoc) (xun := xun) (xfp := xfp) (xsc := xsc) (xtl := xtl) (xec := xec) (xpb := xpb) (cp := cp) hp 192 0 rfl
  rw [ma_w0] at h
  have h' := xw_s28 ⟨_, h⟩ 8 0 rfl
  rw [ma_w0] at h'
  have h'' := xw_s2 hk ⟨_, h'⟩ 6 0 rfl
  rw [ma_w0] at h''
  exact ⟨_, h''⟩
theorem yw_r113 {post : Int32 → SY → Prop} (hp : ∃ n, wY_renderAt_141 post n 0 yrc ysh yle yla (nI (0 + 1)) ypa yed 0 yun yfa ywh ype sr ln kd nm mt co wi (ma_w cp (fun _ => 1) 0 192) pa pn (upd ru 0 0) (upd pl 0 0) (upd sv 0 0) (upd be 0 yle) (upd mx 0 (-1)) bx bo ex ey fx fy tx ty yo) :
    ∀ d i, i + d = 192 → wY_renderAt_113 post yrc ysh yle yla (nI 0) ypa yed yoc yun yfa ywh ype (d + 1) (nI i) sr ln kd nm mt co wi (ma_w cp (fun _ => 1) 0 i) pa pn ru pl sv be mx bx bo ex ey fx fy tx ty yo := by
  intro d
  induction d with
  | zero =>
    intro i hi
    have e : i = 192 := by omega
    rw [e]
    exact pk_le 192 192 (fun _ => yp_op (by omega) hp) (fun h => absurd h (by omega))
  | succ d ih =>
    intro i hi
    have c : (nI i).toNatClampNeg = i := pk_cl i
    have h := ih (i + 1) (by omega)
    exact pk_le 192 i (fun h => absurd h (by omega)) (fun _ => ⟨pk_in i 1344 (by omega), nm_r (by rw [c, mb_vb1]; exact ma_ws0 cp (fun _ => 1) i) (nm_r (nI_1 i) h)⟩)
theorem yw_r79 {post : Int32 → SY → Prop} (hp : ∃ n, wY_renderAt_113 post yrc ysh yle yla yde ypa yed yoc yun yfa ywh ype n 0 sr ln kd nm (ma_w mt (fun m => if m = 0 ∨ m = 3 then 1 else 0) 0 6) co wi cp pa pn ru pl sv be mx bx bo ex ey fx fy tx ty yo) :
    ∀ d i, i + d = 6 → wY_renderAt_79 post yrc ysh yle yla yde ypa yed yoc yun yfa ywh ype (d + 1) (nI i) sr ln kd nm (ma_w mt (fun m => if m = 0 ∨ m = 3 then 1 else 0) 0 i) co wi cp pa pn ru pl sv be mx bx bo ex ey fx fy tx ty yo := by
  intro d
  induction d with
  | zero =>
    intro i hi
    have e : i = 6 := by omega
    rw [e]
    exact pk_le 6 6 (fun _ => hp) (fun h => absurd h (by omega))
  | succ d ih =>
    intro i hi
    have c : (nI i).toNatClampNeg = i := pk_cl i
    have i4 : vp_in (nI i) 42 := pk_in i 42 (by omega)
    have h := ih (i + 1) (by omega)
    have hw := ma_ws0 mt (fun m => if m = 0 ∨ m = 3 then 1 else 0) i
    refine pk_le 6 i (fun h => absurd h (by omega)) (fun _ => pk_eq i 0 (fun z => ⟨i4, nm_r ?_ (nm_r (nI_1 i) h)⟩) (fun z => pk_eq i 3 (fun y => ⟨i4, nm_r ?_ (nm_r (nI_1 i) h)⟩) (fun y => ⟨i4, nm_r ?_ (nm_r (nI_1 i) h)⟩)))
    · rw [c, ← hw, if_pos (Or.inl z)]
    · rw [c, ← hw, if_pos (Or.inr y)]
    · rw [c, ← hw, if_neg (fun q => q.elim z y)]
theorem yp_ren {post : Int32 → SY → Prop} {k c : Nat} (hk : k ≤ c) (hc : c ≤ 8) (hp : ∃ n, wY_renderAt_141 post n 0 (nI c) (nI k) 0 0 (nI (0 + 1)) 0 0 0 0 0 (-1) ype sr ln kd nm (ma_w mt (fun m => if m = 0 ∨ m = 3 then 1 else 0) 0 6) (upd co 0 1) (upd wi 0 4) (ma_w cp (fun _ => 1) 0 192) (ma_w pa (fun _ => 0) 0 192) (ma_w pn (fun _ => -1) 0 192) (upd ru 0 0) (upd pl 0 0) (upd sv 0 0) (upd be 0 0) (upd mx 0 (-1)) bx bo ex ey fx fy tx ty yo) : wpY_renderAt post (nI c, ysh, yle, yla, yde, ypa, yed, yoc, yun, yfa, ywh, ype, sr, ln, kd, nm, mt, co, wi, cp, pa, pn, ru, pl, sv, be, mx, bx, bo, ex, ey, fx, fy, tx, ty, yo) (nI k) := by
  have h := yw_r113 (yoc := yoc) (cp := cp) hp 192 0 rfl
  rw [ma_w0] at h
  have h' := yw_r79 ⟨_, h⟩ 6 0 rfl
  rw [ma_w0] at h'
  exact br_f (nI_pos (by omega)) (pk_le k c (fun _ => yp_cl (nm_e (nm_e ⟨_, h'⟩))) (fun z => absurd z (by omega)))
theorem re_main {c d k : Nat} (hk : k ≤ c) (hd : rr_doc c d rs rk rv dk dv ln kd nm) (hs : rr_st st mt co wi) (hp : rr_pa pa) :
    ∃ (r : Int32) (u' : SX) (v' : SY), rr_I u' v' ∧ (∀ post : Int32 → SX → Prop, post r u' → wpX_renderFirst post (nI d, nI c, xde, xoc, xun, xfp, xsc, xtl, xec, xpb, xpf, xsx, xsy, xcx, xcy, dk, dv, sr, rs, rk, rv, ct, ru, pl, be, mx, xo, st, cp, pa, pn, fx, fy, tx, ty, fi, cr, cv) (nI k)) ∧ (∀ post : Int32 → SY → Prop, post r v' → wpY_renderAt post (nI c, ysh, yle, yla, yde, ypa, yed, yoc, yun, yfa, ywh, ype, sr, ln, kd, nm, mt, co, wi, cp, pa, pn, ru, pl, sv, be, mx, bx, bo, ex, ey, fx, fy, tx, ty, yo) (nI k)) := by
  have hc8 := hd.1
  have hR : rr_R k (rr_ph 0 0 (fun _ => 0)) 0 0 (nI d, nI c, nI (0 + 1), 0, 0, -1, 0, 0, 0, 0, xpf, xsx, xsy, xcx, xcy, dk, dv, sr, rs, rk, rv, ma_w ct (fun s => ma_nw sr (nI s) k) 0 6, upd ru 0 0, upd pl 0 0, upd be 0 0, upd mx 0 (-1), xo, upd (upd (upd (upd (ma_w st (fun _ => 0) 0 8) 0 1) 3 1) 6 1) 7 4, ma_w cp (fun _ => 1) 0 192, ma_w pa (fun _ => 0) 0 192, ma_w pn (fun _ => -1) 0 192, fx, fy, tx, ty, fi, cr, cv)
      (nI c, nI k, 0, 0, nI (0 + 1), 0, 0, 0, 0, 0, -1, ype, sr, ln, kd, nm, ma_w mt (fun m => if m = 0 ∨ m = 3 then 1 else 0) 0 6, upd co 0 1, upd wi 0 4, ma_w cp (fun _ => 1) 0 192, ma_w pa (fun _ => 0) 0 192, ma_w pn (fun _ => -1) 0 192, upd ru 0 0, upd pl 0 0, upd sv 0 0, upd be 0 0, upd mx 0 (-1), bx, bo, ex, ey, fx, fy, tx, ty, yo) :=
    ⟨c, d, 0, 0, 0, 0, 0, 0, 0, fun _ => 0, fun _ => 0, fun _ => 0, 0, _, _, _, _, _, _, _, _, _, _, _, _, _, _, _, _, _, _, _, _, _, _, _, _, _, _, _, _, _, _, _, _, _, _, _, _, _, _, _, _, _, rfl, rfl, rfl, hd, rr_st0 hs, rr_pa0 hp, rr_op0, fun s hs6 => ma_wg0 hs6, by omega, rr_fr0, rr_pl0 _ _ _ _, ma_p0 0 xsx xsy xcx xcy fx fy tx ty fi bx bo ex ey, fun z => absurd z (by decide)⟩
  obtain ⟨r, u', v', hI, hX, hY⟩ := lo_main k _ 0 _ _ hR
  have e : rr_ph 0 0 (fun _ => 0) = 8241 := rr_ph0
  rw [e] at hX hY
  refine ⟨r, u', v', hI, fun post H => ?_, fun post H => ?_⟩
  · unfold wpX_renderFirst
    exact xp_start (by omega) ⟨8242, hX post 8242 0 (by omega) (by omega) H⟩
  · exact yp_ren hk hc8 ⟨8242, hY post 8242 0 (by omega) (by omega) H⟩
end
section
variable {xds xrc xde xoc xun xfp xsc xtl xec xpb xpf xsx xsy xcx xcy yrc ysh yle yla yde ypa yed yoc yun yfa ywh ype : Int32} {dk dv sr rs rk rv ct ru pl be mx xo st cp pa pn fx fy tx ty fi cr cv ln kd nm mt co wi sv bx bo ex ey yo : Nat → Int32}
theorem i_vc_render {k : Nat} {u : SX} {v : SY} (I : i_Rel k u v) (hk : k + 3 ≤ 1536) : wpX_render (fun r u' => wpY_render (fun r' v' => r' = r ∧ i_Rel (k + 3) u' v') v) u := by
  obtain ⟨c, d, xde, xoc, xun, xfp, xsc, xtl, xec, xpb, xpf, xsx, xsy, xcx, xcy, ysh, yle, yla, yde, ypa, yed, yoc, yfa, ype, dk, dv, sr, rs, rk, rv, ct, ru, pl, be, mx, xo, st, cp, pa, pn, fx, fy, tx, ty, fi, cr, cv, ln, kd, nm, mt, co, wi, sv, bx, bo, ex, ey, yo, rfl, rfl, hd, hs, hp⟩ := I
  obtain ⟨r, ⟨xds', xrc', xde', xoc', xun', xfp', xsc', xtl', xec', xpb', xpf', xsx', xsy', xcx', xcy', dk', dv', sr', rs', rk', rv', ct', ru', pl', be', mx', xo', st', cp', pa', pn', fx', fy', tx', ty', fi', cr', cv'⟩, ⟨yrc', ysh', yle', yla', yde', ypa', yed', yoc', yun', yfa', ywh', ype', sr', ln', kd', nm', mt', co', wi', cp', pa', pn', ru', pl', sv', be', mx', bx', bo', ex', ey', fx', fy', tx', ty', yo'⟩, hI, hX, hY⟩ := re_main (ysh := ysh) (yle := yle) (yla := yla) (yde := yde) (ypa := ypa) (yed := yed) (yoc := yoc) (yun := xun) (yfa := yfa) (ywh := xfp) (ype := ype) (xde := xde) (xoc := xoc) (xun := xun) (xfp := xfp) (xsc := xsc) (xtl := xtl) (xec := xec) (xpb := xpb) (xpf := xpf) (xsx := xsx) (xsy := xsy) (xcx := xcx) (xcy := xcy) (sr := sr) (ct := ct) (ru := ru) (pl := pl) (be := be) (mx := mx) (xo := xo) (cp := cp) (pn := pn) (fx := fx) (fy := fy) (tx := tx) (ty := ty) (fi := fi) (cr := cr) (cv := cv) (sv := sv) (bx := bx) (bo := bo) (ex := ex) (ey := ey) (yo := yo) (Nat.le_refl c) hd hs hp
  unfold wpX_render
  refine hX _ ?_
  show wpY_render _ _
  unfold wpY_render
  exact hY _ ⟨rfl, hI⟩
theorem i_vc_renderAt {k : Nat} {u : SX} {v : SY} (I : i_Rel k u v) (hk : k + 3 ≤ 1536) (v1 : Int32) : wpX_renderAt (fun r u' => wpY_renderAt (fun r' v' => r' = r ∧ i_Rel (k + 3) u' v') v v1) u v1 := by
  obtain ⟨c, d, xde, xoc, xun, xfp, xsc, xtl, xec, xpb, xpf, xsx, xsy, xcx, xcy, ysh, yle, yla, yde, ypa, yed, yoc, yfa, ype, dk, dv, sr, rs, rk, rv, ct, ru, pl, be, mx, xo, st, cp, pa, pn, fx, fy, tx, ty, fi, cr, cv, ln, kd, nm, mt, co, wi, sv, bx, bo, ex, ey, yo, rfl, rfl, hd, hs, hp⟩ := I
  have hc8 := hd.1
  by_cases h0 : v1 < 0
  · exact br_t h0 (br_t h0 ⟨rfl, ⟨_, _, _, _, _, _, _, _, _, _, _, _, _, _, _, _, _, _, _, _, _, _, _, _, _, _, _, _, _, _, _, _, _, _, _, _, _, _, _, _, _, _, _, _, _, _, _, _, _, _, _, _, _, _, _, _, _, _, _, rfl, rfl, hd, hs, hp⟩⟩)
  · obtain ⟨j, hj, rfl⟩ := nI_of h0
    by_cases hjc : j ≤ c
    · obtain ⟨r, ⟨xds', xrc', xde', xoc', xun', xfp', xsc', xtl', xec', xpb', xpf', xsx', xsy', xcx', xcy', dk', dv', sr', rs', rk', rv', ct', ru', pl', be', mx', xo', st', cp', pa', pn', fx', fy', tx', ty', fi', cr', cv'⟩, ⟨yrc', ysh', yle', yla', yde', ypa', yed', yoc', yun', yfa', ywh', ype', sr', ln', kd', nm', mt', co', wi', cp', pa', pn', ru', pl', sv', be', mx', bx', bo', ex', ey', fx', fy', tx', ty', yo'⟩, hI, hX, hY⟩ := re_main (ysh := ysh) (yle := yle) (yla := yla) (yde := yde) (ypa := ypa) (yed := yed) (yoc := yoc) (yun := xun) (yfa := yfa) (ywh := xfp) (ype := ype) (xde := xde) (xoc := xoc) (xun := xun) (xfp := xfp) (xsc := xsc) (xtl := xtl) (xec := xec) (xpb := xpb) (xpf := xpf) (xsx := xsx) (xsy := xsy) (xcx := xcx) (xcy := xcy) (sr := sr) (ct := ct) (ru := ru) (pl := pl) (be := be) (mx := mx) (xo := xo) (cp := cp) (pn := pn) (fx := fx) (fy := fy) (tx := tx) (ty := ty) (fi := fi) (cr := cr) (cv := cv) (sv := sv) (bx := bx) (bo := bo) (ex := ex) (ey := ey) (yo := yo) hjc hd hs hp
      exact br_f h0 (pk_le j c (fun _ => hX _ (hY _ ⟨rfl, hI⟩)) (fun z => absurd z (by omega)))
    · exact br_f h0 (pk_le j c (fun z => absurd z hjc) (fun _ => br_f h0 (pk_le j c (fun z => absurd z hjc) (fun _ => ⟨rfl, ⟨_, _, _, _, _, _, _, _, _, _, _, _, _, _, _, _, _, _, _, _, _, _, _, _, _, _, _, _, _, _, _, _, _, _, _, _, _, _, _, _, _, _, _, _, _, _, _, _, _, _, _, _, _, _, _, _, _, _, _, rfl, rfl, hd, hs, hp⟩⟩))))
end
