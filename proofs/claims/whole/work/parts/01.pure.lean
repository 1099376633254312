theorem pk_us {f : Nat → Int32} {k : Nat} {x : Int32} : upd f k x k = x := if_pos rfl
theorem pk_un {f : Nat → Int32} {k j : Nat} {x : Int32} (h : j ≠ k) : upd f k x j = f j := if_neg h
theorem pk_sub {a b : Nat} (h : b ≤ a) : nI a - nI b = nI (a - b) := by
  obtain ⟨c, rfl⟩ : ∃ c, a = c + b := ⟨a - b, by omega⟩
  rw [← nI_add, Int32.add_sub_cancel, Nat.add_sub_cancel]
theorem pk_m1 (n : Nat) : nI (n + 1) + (-1) = nI n := by
  rw [← nI_1, Int32.add_assoc, show (1 : Int32) + (-1) = 0 from rfl, Int32.add_zero]
theorem pk_mul (a b : Nat) : nI a * nI b = nI (a * b) := (Int32.ofNat_mul a b).symm
theorem pk_div {a d : Nat} (ha : a < 2 ^ 31) (h0 : 0 < d) (hd : d < 2 ^ 31) : nI a / nI d = nI (a / d) := by
  apply Int32.toInt_inj.mp
  rw [lg_idiv_nonneg (by rw [nI_toInt ha]; omega) (by rw [nI_toInt hd]; omega), nI_toInt ha, nI_toInt hd, nI_toInt (Nat.lt_of_le_of_lt (Nat.div_le_self a d) ha)]
  first | rfl | exact (Int.natCast_ediv _ _).symm
theorem pk_rem {a d : Nat} (ha : a < 2 ^ 31) (h0 : 0 < d) (hd : d < 2 ^ 31) : nI a - nI a / nI d * nI d = nI (a % d) := by
  rw [pk_div ha h0 hd, pk_mul, pk_sub (Nat.div_mul_le_self a d)]
  exact congrArg nI (by have := Nat.div_add_mod' a d; omega)
theorem pk_sub_toInt {a b : Nat} (ha : a < 2 ^ 30) (hb : b < 2 ^ 30) : (nI a - nI b).toInt = (a : Int) - b := by
  rw [Int32.toInt_sub, nI_toInt (by omega), nI_toInt (by omega)]
  exact Int.bmod_eq_of_le (by omega) (by omega)
theorem pk_sneg {a b : Nat} (hb : b < 2 ^ 30) (h : a < b) : nI a - nI b < 0 := by
  rw [Int32.lt_iff_toInt_lt, pk_sub_toInt (by omega) hb, show (0 : Int32).toInt = 0 from by decide]
  omega
theorem pk_ix (x : Int32) {n : Nat} (hn : n < 2 ^ 31) : x < 0 ∨ nI n ≤ x ∨ ∃ j : Nat, j < n ∧ x = nI j := by
  by_cases h : x < 0
  · exact Or.inl h
  · obtain ⟨j, hj, rfl⟩ := nI_of h
    by_cases h2 : j < n
    · exact Or.inr (Or.inr ⟨j, h2, rfl⟩)
    · exact Or.inr (Or.inl (nI_le (by omega) hj))
theorem pk_le {x y : Int32} {A B : Prop} (a b : Nat) (f : a ≤ b → A) (g : b < a → B) (hx : x = nI a := by rfl) (hy : y = nI b := by rfl) (ha : a < 2 ^ 31 := by omega) (hb : b < 2 ^ 31 := by omega) : (x ≤ y → A) ∧ (¬ x ≤ y → B) := by
  subst hx hy
  rw [nI_leI ha hb]
  exact ⟨f, fun z => g (by omega)⟩
theorem pk_lt {x y : Int32} {A B : Prop} (a b : Nat) (f : a < b → A) (g : b ≤ a → B) (hx : x = nI a := by rfl) (hy : y = nI b := by rfl) (ha : a < 2 ^ 31 := by omega) (hb : b < 2 ^ 31 := by omega) : (x < y → A) ∧ (¬ x < y → B) := by
  subst hx hy
  rw [nI_ltI ha hb]
  exact ⟨f, fun z => g (by omega)⟩
theorem pk_eq {x y : Int32} {A B : Prop} (a b : Nat) (f : a = b → A) (g : a ≠ b → B) (hx : x = nI a := by rfl) (hy : y = nI b := by rfl) (ha : a < 2 ^ 31 := by omega) (hb : b < 2 ^ 31 := by omega) : (x = y → A) ∧ (¬ x = y → B) := by
  subst hx hy
  rw [nI_eq ha hb]
  exact ⟨f, g⟩
theorem pk_in {x : Int32} (n N : Nat) (h : n < N) (hx : x = nI n := by rfl) (hN : N < 2 ^ 31 := by omega) : vp_in x N := by
  subst hx
  exact vp_in_nI h hN
theorem pk_cl {x : Int32} (n : Nat) (hx : x = nI n := by rfl) (h : n < 2 ^ 31 := by omega) : x.toNatClampNeg = n := by
  subst hx
  exact nI_clamp h
theorem pk_tn {n : Nat} (h : n < 2 ^ 32) : (nI n).toBitVec.toNat = n := Nat.mod_eq_of_lt h
theorem pk_and (x : Int32) {m : Int32} (k : Nat) (hm : m.toBitVec.toNat = 2 ^ k - 1) : x &&& m = nI (x.toBitVec.toNat % 2 ^ k) := by
  apply Int32.toBitVec_inj.mp
  apply BitVec.eq_of_toNat_eq
  rw [Int32.toBitVec_and, BitVec.toNat_and, hm, Nat.and_two_pow_sub_one_eq_mod]
  show _ = (BitVec.ofNat 32 _).toNat
  rw [BitVec.toNat_ofNat]
  exact (Nat.mod_eq_of_lt (Nat.lt_of_le_of_lt (Nat.mod_le _ _) x.toBitVec.isLt)).symm
/-! own rows: writes of a stretch, sums, the arithmetic of both sides -/
def ma_w (f g : Nat → Int32) (b i : Nat) : Nat → Int32 := fun j => if b ≤ j ∧ j < b + i then g (j - b) else f j
theorem ma_w0 (f g : Nat → Int32) (b : Nat) : ma_w f g b 0 = f := by
  funext j
  unfold ma_w
  exact if_neg (by omega)
theorem ma_ws (f g : Nat → Int32) (b i : Nat) : upd (ma_w f g b i) (b + i) (g i) = ma_w f g b (i + 1) := by
  funext j
  unfold upd ma_w
  by_cases h : j = b + i
  · subst h
    rw [if_pos rfl, if_pos (by omega), Nat.add_sub_cancel_left]
  · rw [if_neg h]
    by_cases h2 : b ≤ j ∧ j < b + i
    · rw [if_pos h2, if_pos (by omega)]
    · rw [if_neg h2, if_neg (by omega)]
theorem ma_wk {f g : Nat → Int32} {b i : Nat} (h : g i = f (b + i)) : ma_w f g b i = ma_w f g b (i + 1) := by
  funext j
  unfold ma_w
  by_cases e : j = b + i
  · subst e
    rw [if_neg (by omega), if_pos (by omega), Nat.add_sub_cancel_left, h]
  · by_cases h2 : b ≤ j ∧ j < b + i
    · rw [if_pos h2, if_pos (by omega)]
    · rw [if_neg h2, if_neg (by omega)]
theorem ma_wr {f g : Nat → Int32} {b i j : Nat} (h : j < b ∨ b + i ≤ j) : ma_w f g b i j = f j := by
  unfold ma_w
  exact if_neg (by omega)
theorem ma_wg {f g : Nat → Int32} {b i t : Nat} (h : t < i) : ma_w f g b i (b + t) = g t := by
  unfold ma_w
  rw [if_pos (by omega), Nat.add_sub_cancel_left]
theorem ma_wg0 {f g : Nat → Int32} {i t : Nat} (h : t < i) : ma_w f g 0 i t = g t := by
  have := ma_wg (f := f) (g := g) (b := 0) h
  rw [Nat.zero_add] at this
  exact this
theorem ma_wc {f g g' : Nat → Int32} {b i : Nat} (h : ∀ t, t < i → g t = g' t) : ma_w f g b i = ma_w f g' b i := by
  funext j
  unfold ma_w
  by_cases h2 : b ≤ j ∧ j < b + i
  · rw [if_pos h2, if_pos h2, h _ (by omega)]
  · rw [if_neg h2, if_neg h2]
theorem ma_wall {P : Int32 → Prop} {f g : Nat → Int32} {b i : Nat} (hf : ∀ j, P (f j)) (hg : ∀ t, t < i → P (g t)) : ∀ j, P (ma_w f g b i j) := by
  intro j
  unfold ma_w
  by_cases h2 : b ≤ j ∧ j < b + i
  · rw [if_pos h2]
    exact hg _ (by omega)
  · rw [if_neg h2]
    exact hf j

def ma_sum (f : Nat → Int) : Nat → Int
  | 0 => 0
  | n + 1 => ma_sum f n + f n
theorem ma_sumc {f g : Nat → Int} : ∀ n : Nat, (∀ k, k < n → f k = g k) → ma_sum f n = ma_sum g n
  | 0, _ => rfl
  | n + 1, h => by
    show ma_sum f n + f n = ma_sum g n + g n
    rw [ma_sumc n (fun k hk => h k (by omega)), h n (by omega)]
theorem ma_suma (f g : Nat → Int) : ∀ n : Nat, ma_sum (fun k => f k + g k) n = ma_sum f n + ma_sum g n
  | 0 => rfl
  | n + 1 => by
    show ma_sum (fun k => f k + g k) n + (f n + g n) = (ma_sum f n + f n) + (ma_sum g n + g n)
    rw [ma_suma f g n]
    omega
theorem ma_sumb {f : Nat → Int} : ∀ n : Nat, (∀ k, k < n → -1 ≤ f k ∧ f k ≤ 1) → -(n : Int) ≤ ma_sum f n ∧ ma_sum f n ≤ n
  | 0, _ => by simp [ma_sum]
  | n + 1, h => by
    have ih := ma_sumb n (fun k hk => h k (by omega))
    have h2 := h n (by omega)
    show -((n + 1 : Nat) : Int) ≤ ma_sum f n + f n ∧ ma_sum f n + f n ≤ ((n + 1 : Nat) : Int)
    omega
theorem ma_sq {c : Int} (h : -1 ≤ c ∧ c ≤ 1) : (c * c = 0 ∧ c = 0) ∨ (c * c = 1 ∧ (c = 1 ∨ c = -1)) := by
  have h3 : c = -1 ∨ c = 0 ∨ c = 1 := by omega
  rcases h3 with rfl | rfl | rfl <;> decide
theorem ma_sump {f : Nat → Int} : ∀ n : Nat, (∀ k, k < n → -1 ≤ f k ∧ f k ≤ 1) → ma_sum f n % 2 = ma_sum (fun k => f k * f k) n % 2 ∧ 0 ≤ ma_sum (fun k => f k * f k) n ∧ ma_sum (fun k => f k * f k) n ≤ n
  | 0, _ => by simp [ma_sum]
  | n + 1, h => by
    have ih := ma_sump n (fun k hk => h k (by omega))
    show (ma_sum f n + f n) % 2 = (ma_sum (fun k => f k * f k) n + f n * f n) % 2 ∧ 0 ≤ ma_sum (fun k => f k * f k) n + f n * f n ∧ ma_sum (fun k => f k * f k) n + f n * f n ≤ ((n + 1 : Nat) : Int)
    rcases ma_sq (h n (by omega)) with ⟨e, e'⟩ | ⟨e, e' | e'⟩ <;> rw [e, e'] <;> omega

theorem ma_pb {a b A B : Int} (ha : -A ≤ a) (ha' : a ≤ A) (hb : -B ≤ b) (hb' : b ≤ B) : -(A * B) ≤ a * b ∧ a * b ≤ A * B := by
  have h1 := Int.mul_nonneg (show 0 ≤ A - a by omega) (show 0 ≤ B + b by omega)
  have h2 := Int.mul_nonneg (show 0 ≤ A + a by omega) (show 0 ≤ B - b by omega)
  have h3 := Int.mul_nonneg (show 0 ≤ A - a by omega) (show 0 ≤ B - b by omega)
  have h4 := Int.mul_nonneg (show 0 ≤ A + a by omega) (show 0 ≤ B + b by omega)
  rw [Int.sub_mul, Int.mul_add, Int.mul_add] at h1
  rw [Int.add_mul, Int.mul_sub, Int.mul_sub] at h2
  rw [Int.sub_mul, Int.mul_sub, Int.mul_sub] at h3
  rw [Int.add_mul, Int.mul_add, Int.mul_add] at h4
  omega
def ma_bd (A : Int) (x : Int32) : Prop := -A ≤ x.toInt ∧ x.toInt ≤ A
def ma_bl (A : Int) (x : Int64) : Prop := -A ≤ x.toInt ∧ x.toInt ≤ A
theorem ma_ad {x y : Int32} {A B : Int} (hx : ma_bd A x) (hy : ma_bd B y) (h : A + B < 2 ^ 31) : (x + y).toInt = x.toInt + y.toInt ∧ ma_bd (A + B) (x + y) := by
  obtain ⟨h1, h2⟩ := hx
  obtain ⟨h3, h4⟩ := hy
  have e : (x + y).toInt = x.toInt + y.toInt := by
    rw [Int32.toInt_add]
    exact Int.bmod_eq_of_le (by omega) (by omega)
  refine ⟨e, ?_⟩
  unfold ma_bd
  omega
theorem ma_sb {x y : Int32} {A B : Int} (hx : ma_bd A x) (hy : ma_bd B y) (h : A + B < 2 ^ 31) : (x - y).toInt = x.toInt - y.toInt ∧ ma_bd (A + B) (x - y) := by
  obtain ⟨h1, h2⟩ := hx
  obtain ⟨h3, h4⟩ := hy
  have e : (x - y).toInt = x.toInt - y.toInt := by
    rw [Int32.toInt_sub]
    exact Int.bmod_eq_of_le (by omega) (by omega)
  refine ⟨e, ?_⟩
  unfold ma_bd
  omega
theorem ma_mu {x y : Int32} {A B : Int} (hx : ma_bd A x) (hy : ma_bd B y) (h : A * B < 2 ^ 31) : (x * y).toInt = x.toInt * y.toInt ∧ ma_bd (A * B) (x * y) := by
  obtain ⟨h1, h2⟩ := hx
  obtain ⟨h3, h4⟩ := hy
  have hp := ma_pb h1 h2 h3 h4
  have e : (x * y).toInt = x.toInt * y.toInt := by
    rw [Int32.toInt_mul]
    exact Int.bmod_eq_of_le (by omega) (by omega)
  refine ⟨e, ?_⟩
  unfold ma_bd
  omega
theorem ma_lsb {x y : Int64} {A B : Int} (hx : ma_bl A x) (hy : ma_bl B y) (h : A + B < 2 ^ 63) : (x - y).toInt = x.toInt - y.toInt ∧ ma_bl (A + B) (x - y) := by
  obtain ⟨h1, h2⟩ := hx
  obtain ⟨h3, h4⟩ := hy
  have e : (x - y).toInt = x.toInt - y.toInt := by
    rw [Int64.toInt_sub]
    exact Int.bmod_eq_of_le (by omega) (by omega)
  refine ⟨e, ?_⟩
  unfold ma_bl
  omega
theorem ma_lmu {x y : Int64} {A B : Int} (hx : ma_bl A x) (hy : ma_bl B y) (h : A * B < 2 ^ 63) : (x * y).toInt = x.toInt * y.toInt ∧ ma_bl (A * B) (x * y) := by
  obtain ⟨h1, h2⟩ := hx
  obtain ⟨h3, h4⟩ := hy
  have hp := ma_pb h1 h2 h3 h4
  have e : (x * y).toInt = x.toInt * y.toInt := by
    rw [Int64.toInt_mul]
    exact Int.bmod_eq_of_le (by omega) (by omega)
  refine ⟨e, ?_⟩
  unfold ma_bl
  omega
theorem ma_li {x : Int32} {A : Int} (h : ma_bd A x) : ma_bl A x.toInt64 := by
  unfold ma_bl
  rw [Int32.toInt_toInt64]
  exact h
theorem ma_2d : ma_bd 2 2 := by
  unfold ma_bd
  decide
theorem ma_2l : ma_bl 2 2 := by
  unfold ma_bl
  decide
theorem ma_2t : (2 : Int32).toInt = 2 := by decide
theorem ma_2tl : (2 : Int64).toInt = 2 := by decide
theorem ma_nbd {n : Nat} {A : Int} (h : (n : Int) ≤ A) (hA : A < 2 ^ 31) : ma_bd A (nI n) := by
  unfold ma_bd
  rw [nI_toInt (by omega)]
  omega
theorem ma_mix {a c b : Int32} (ha : 0 ≤ a.toInt ∧ a.toInt ≤ 16) (hc : 0 ≤ c.toInt ∧ c.toInt ≤ 255) (hb : 0 ≤ b.toInt ∧ b.toInt ≤ 255) : 0 ≤ ((a * c + (16 - a) * b) / 16).toInt ∧ ((a * c + (16 - a) * b) / 16).toInt ≤ 255 := by
  have b16 : ma_bd 16 16 := by
    unfold ma_bd
    decide
  have hA : ma_bd 16 a := ⟨by omega, ha.2⟩
  have hC : ma_bd 255 c := ⟨by omega, hc.2⟩
  have hB : ma_bd 255 b := ⟨by omega, hb.2⟩
  have e1 := ma_mu hA hC (by omega)
  have e2 := ma_sb b16 hA (by omega)
  have e3 := ma_mu e2.2 hB (by omega)
  have e4 := ma_ad e1.2 e3.2 (by omega)
  have t16 : (16 : Int32).toInt = 16 := by decide
  have p1 := Int.mul_nonneg ha.1 hc.1
  have p2 := Int.mul_nonneg (show 0 ≤ 16 - a.toInt by omega) hb.1
  have p3 := Int.mul_nonneg ha.1 (show 0 ≤ 255 - c.toInt by omega)
  have p4 := Int.mul_nonneg (show 0 ≤ 16 - a.toInt by omega) (show 0 ≤ 255 - b.toInt by omega)
  rw [Int.mul_sub] at p3 p4
  have e : (a * c + (16 - a) * b).toInt = a.toInt * c.toInt + (16 - a.toInt) * b.toInt := by
    rw [e4.1, e1.1, e3.1, e2.1, t16]
  have h0 : 0 ≤ (a * c + (16 - a) * b).toInt := by
    rw [e]
    omega
  have h1 : (a * c + (16 - a) * b).toInt ≤ 4080 := by
    rw [e]
    omega
  rw [lg_idiv_nonneg h0 (by rw [t16]; decide), t16]
  omega
