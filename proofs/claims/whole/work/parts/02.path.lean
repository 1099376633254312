/-! the crossings of an edge with a pixel's ray, over Int; both sides reckon it -/
def ma_c (x1 y1 x2 y2 px py : Int) : Int :=
  if 2 * y1 < py ∧ py < 2 * y2 then (if (x2 - x1) * (py - 2 * y1) < (px - 2 * x1) * (y2 - y1) then 1 else 0)
  else if 2 * y2 < py ∧ py < 2 * y1 then (if (px - 2 * x1) * (y2 - y1) < (x2 - x1) * (py - 2 * y1) then -1 else 0)
  else 0
theorem ma_cb (x1 y1 x2 y2 px py : Int) : -1 ≤ ma_c x1 y1 x2 y2 px py ∧ ma_c x1 y1 x2 y2 px py ≤ 1 := by
  unfold ma_c
  split
  · split <;> decide
  · split
    · split <;> decide
    · decide
theorem ma_c0 (x y px py : Int) : ma_c x y x y px py = 0 := by
  unfold ma_c
  rw [if_neg (by omega), if_neg (by omega)]
def ma_px (p : Nat) : Nat := 8 * (p % 16) + 5
def ma_py (p : Nat) : Nat := 8 * (p / 16) + 5
theorem ma_pxb (p : Nat) : ma_px p ≤ 125 := by
  unfold ma_px
  omega
theorem ma_pyb {p : Nat} (h : p < 192) : ma_py p ≤ 93 := by
  unfold ma_py
  omega
theorem ma_xpx {p : Nat} (h : p < 192) : (8 : Int32) * (nI p - nI p / 16 * 16) + 5 = nI (ma_px p) := by
  have e : nI p - nI p / 16 * 16 = nI (p % 16) := pk_rem (a := p) (d := 16) (by omega) (by decide) (by decide)
  rw [e]
  show nI 8 * nI (p % 16) + nI 5 = _
  rw [pk_mul, nI_add]
  rfl
theorem ma_xpy {p : Nat} (h : p < 192) : (8 : Int32) * (nI p / 16) + 5 = nI (ma_py p) := by
  have e : nI p / 16 = nI (p / 16) := pk_div (a := p) (d := 16) (by omega) (by decide) (by decide)
  rw [e]
  show nI 8 * nI (p / 16) + nI 5 = _
  rw [pk_mul, nI_add]
  rfl
def ma_cp (x1 y1 x2 y2 : Int32) (p : Nat) : Int := ma_c x1.toInt y1.toInt x2.toInt y2.toInt (ma_px p) (ma_py p)
theorem ma_cpb (x1 y1 x2 y2 : Int32) (p : Nat) : -1 ≤ ma_cp x1 y1 x2 y2 p ∧ ma_cp x1 y1 x2 y2 p ≤ 1 := ma_cb _ _ _ _ _ _
theorem ma_cp0 (p : Nat) (x y : Int32) : ma_cp x y x y p = 0 := ma_c0 _ _ _ _
/-- the doubled height against the pixel's -/
theorem ma_hx {y : Int32} {p : Nat} (h : ma_bd 4000 y) (hp : p < 192) : (2 * y < nI (ma_py p) ↔ 2 * y.toInt < (ma_py p : Int)) ∧ (nI (ma_py p) < 2 * y ↔ (ma_py p : Int) < 2 * y.toInt) := by
  have e := ma_mu ma_2d h (by omega)
  have hb := ma_pyb hp
  rw [Int32.lt_iff_toInt_lt, Int32.lt_iff_toInt_lt, e.1, ma_2t, nI_toInt (by omega)]
  exact ⟨Iff.rfl, Iff.rfl⟩
theorem ma_side {x1 y1 x2 y2 : Int32} {p : Nat} (h1 : ma_bd 4000 x1) (h2 : ma_bd 4000 y1) (h3 : ma_bd 4000 x2) (h4 : ma_bd 4000 y2) (hp : p < 192) :
    ((nI (ma_px p) - 2 * x1) * (y2 - y1) - (nI (ma_py p) - 2 * y1) * (x2 - x1)).toInt = ((ma_px p : Int) - 2 * x1.toInt) * (y2.toInt - y1.toInt) - (x2.toInt - x1.toInt) * ((ma_py p : Int) - 2 * y1.toInt) := by
  have a1 := ma_mu ma_2d h1 (by omega)
  have a2 := ma_mu ma_2d h2 (by omega)
  have hx := ma_pxb p
  have hy := ma_pyb hp
  have b1 := ma_sb (ma_nbd (n := ma_px p) (A := 125) (by omega) (by omega)) a1.2 (by omega)
  have b2 := ma_sb (ma_nbd (n := ma_py p) (A := 125) (by omega) (by omega)) a2.2 (by omega)
  have c1 := ma_sb h4 h2 (by omega)
  have c2 := ma_sb h3 h1 (by omega)
  have d1 := ma_mu b1.2 c1.2 (by omega)
  have d2 := ma_mu b2.2 c2.2 (by omega)
  have e := ma_sb d1.2 d2.2 (by omega)
  rw [e.1, d1.1, d2.1, b1.1, b2.1, c1.1, c2.1, a1.1, a2.1, ma_2t, nI_toInt (by omega), nI_toInt (by omega), Int.mul_comm ((ma_py p : Int) - 2 * y1.toInt)]
theorem ma_xcase {x1 y1 x2 y2 : Int32} {p : Nat} (h1 : ma_bd 4000 x1) (h2 : ma_bd 4000 y1) (h3 : ma_bd 4000 x2) (h4 : ma_bd 4000 y2) (hp : p < 192) (s : Int32) (hs : s = (nI (ma_px p) - 2 * x1) * (y2 - y1) - (nI (ma_py p) - 2 * y1) * (x2 - x1)) :
    ((2 * y1 < nI (ma_py p) ∧ nI (ma_py p) < 2 * y2 ∧ 0 < s) ∧ ¬ (2 * y2 < nI (ma_py p) ∧ nI (ma_py p) < 2 * y1 ∧ s < 0) ∧ ma_cp x1 y1 x2 y2 p = 1) ∨
    (¬ (2 * y1 < nI (ma_py p) ∧ nI (ma_py p) < 2 * y2 ∧ 0 < s) ∧ (2 * y2 < nI (ma_py p) ∧ nI (ma_py p) < 2 * y1 ∧ s < 0) ∧ ma_cp x1 y1 x2 y2 p = -1) ∨
    (¬ (2 * y1 < nI (ma_py p) ∧ nI (ma_py p) < 2 * y2 ∧ 0 < s) ∧ ¬ (2 * y2 < nI (ma_py p) ∧ nI (ma_py p) < 2 * y1 ∧ s < 0) ∧ ma_cp x1 y1 x2 y2 p = 0) := by
  have e : s.toInt = ((ma_px p : Int) - 2 * x1.toInt) * (y2.toInt - y1.toInt) - (x2.toInt - x1.toInt) * ((ma_py p : Int) - 2 * y1.toInt) := by
    rw [hs]
    exact ma_side h1 h2 h3 h4 hp
  rw [(ma_hx h2 hp).1, (ma_hx h2 hp).2, (ma_hx h4 hp).1, (ma_hx h4 hp).2, Int32.lt_iff_toInt_lt, Int32.lt_iff_toInt_lt, e, show (0 : Int32).toInt = 0 from by decide]
  unfold ma_cp ma_c
  generalize ((ma_px p : Int) - 2 * x1.toInt) * (y2.toInt - y1.toInt) = R
  generalize (x2.toInt - x1.toInt) * ((ma_py p : Int) - 2 * y1.toInt) = L
  generalize x1.toInt = X1
  generalize y1.toInt = Y1
  generalize y2.toInt = Y2
  generalize (ma_py p : Int) = Q
  split
  · split <;> omega
  · split
    · split <;> omega
    · omega
theorem ma_hy {y : Int32} {p : Nat} (h : ma_bd 4000 y) (hp : p < 192) : (2 * y.toInt64 < (nI (ma_py p)).toInt64 ↔ 2 * y.toInt < (ma_py p : Int)) ∧ ((nI (ma_py p)).toInt64 < 2 * y.toInt64 ↔ (ma_py p : Int) < 2 * y.toInt) := by
  have e := ma_lmu ma_2l (ma_li h) (by omega)
  have hb := ma_pyb hp
  rw [Int64.lt_iff_toInt_lt, Int64.lt_iff_toInt_lt, e.1, ma_2tl, Int32.toInt_toInt64, Int32.toInt_toInt64, nI_toInt (by omega)]
  exact ⟨Iff.rfl, Iff.rfl⟩
theorem ma_yl {x1 y1 x2 y2 : Int32} {p : Nat} (h1 : ma_bd 4000 x1) (h2 : ma_bd 4000 y1) (h3 : ma_bd 4000 x2) (h4 : ma_bd 4000 y2) (hp : p < 192) :
    ((x2.toInt64 - x1.toInt64) * ((nI (ma_py p)).toInt64 - 2 * y1.toInt64)).toInt = (x2.toInt - x1.toInt) * ((ma_py p : Int) - 2 * y1.toInt) := by
  have a2 := ma_lmu ma_2l (ma_li h2) (by omega)
  have hy := ma_pyb hp
  have b2 := ma_lsb (ma_li (ma_nbd (n := ma_py p) (A := 125) (by omega) (by omega))) a2.2 (by omega)
  have c2 := ma_lsb (ma_li h3) (ma_li h1) (by omega)
  have d2 := ma_lmu c2.2 b2.2 (by omega)
  rw [d2.1, b2.1, c2.1, a2.1, ma_2tl, Int32.toInt_toInt64, Int32.toInt_toInt64, Int32.toInt_toInt64, Int32.toInt_toInt64, nI_toInt (by omega)]
theorem ma_yr {x1 y1 x2 y2 : Int32} {p : Nat} (h1 : ma_bd 4000 x1) (h2 : ma_bd 4000 y1) (h3 : ma_bd 4000 x2) (h4 : ma_bd 4000 y2) (hp : p < 192) :
    (((nI (ma_px p)).toInt64 - 2 * x1.toInt64) * (y2.toInt64 - y1.toInt64)).toInt = ((ma_px p : Int) - 2 * x1.toInt) * (y2.toInt - y1.toInt) := by
  have a2 := ma_lmu ma_2l (ma_li h1) (by omega)
  have hy := ma_pxb p
  have b2 := ma_lsb (ma_li (ma_nbd (n := ma_px p) (A := 125) (by omega) (by omega))) a2.2 (by omega)
  have c2 := ma_lsb (ma_li h4) (ma_li h2) (by omega)
  have d2 := ma_lmu b2.2 c2.2 (by omega)
  rw [d2.1, b2.1, c2.1, a2.1, ma_2tl, Int32.toInt_toInt64, Int32.toInt_toInt64, Int32.toInt_toInt64, Int32.toInt_toInt64, nI_toInt (by omega)]
/-- the reference's answer as the branches of its text find it -/
theorem ma_ycase {x1 y1 x2 y2 : Int32} {p : Nat} (h1 : ma_bd 4000 x1) (h2 : ma_bd 4000 y1) (h3 : ma_bd 4000 x2) (h4 : ma_bd 4000 y2) (hp : p < 192) (l r : Int64) (hl : l = (x2.toInt64 - x1.toInt64) * ((nI (ma_py p)).toInt64 - 2 * y1.toInt64)) (hr : r = ((nI (ma_px p)).toInt64 - 2 * x1.toInt64) * (y2.toInt64 - y1.toInt64)) :
    ((2 * y1.toInt64 < (nI (ma_py p)).toInt64 ∧ (nI (ma_py p)).toInt64 < 2 * y2.toInt64) ∧ (l < r ∧ ma_cp x1 y1 x2 y2 p = 1 ∨ ¬ l < r ∧ ma_cp x1 y1 x2 y2 p = 0)) ∨
    (¬ (2 * y1.toInt64 < (nI (ma_py p)).toInt64 ∧ (nI (ma_py p)).toInt64 < 2 * y2.toInt64) ∧ (2 * y2.toInt64 < (nI (ma_py p)).toInt64 ∧ (nI (ma_py p)).toInt64 < 2 * y1.toInt64) ∧ (r < l ∧ ma_cp x1 y1 x2 y2 p = -1 ∨ ¬ r < l ∧ ma_cp x1 y1 x2 y2 p = 0)) ∨
    (¬ (2 * y1.toInt64 < (nI (ma_py p)).toInt64 ∧ (nI (ma_py p)).toInt64 < 2 * y2.toInt64) ∧ ¬ (2 * y2.toInt64 < (nI (ma_py p)).toInt64 ∧ (nI (ma_py p)).toInt64 < 2 * y1.toInt64) ∧ ma_cp x1 y1 x2 y2 p = 0) := by
  have el : l.toInt = (x2.toInt - x1.toInt) * ((ma_py p : Int) - 2 * y1.toInt) := by
    rw [hl]
    exact ma_yl h1 h2 h3 h4 hp
  have er : r.toInt = ((ma_px p : Int) - 2 * x1.toInt) * (y2.toInt - y1.toInt) := by
    rw [hr]
    exact ma_yr h1 h2 h3 h4 hp
  rw [(ma_hy h2 hp).1, (ma_hy h2 hp).2, (ma_hy h4 hp).1, (ma_hy h4 hp).2, Int64.lt_iff_toInt_lt (x := l), Int64.lt_iff_toInt_lt (x := r), el, er]
  unfold ma_cp ma_c
  generalize ((ma_px p : Int) - 2 * x1.toInt) * (y2.toInt - y1.toInt) = R
  generalize (x2.toInt - x1.toInt) * ((ma_py p : Int) - 2 * y1.toInt) = L
  generalize x1.toInt = X1
  generalize y1.toInt = Y1
  generalize y2.toInt = Y2
  generalize (ma_py p : Int) = Q
  split
  · split <;> omega
  · split
    · split <;> omega
    · omega

/-! nearness to an edge, over Int64 -/
def ma_nr (rx ry dx dy w : Int64) : Int32 :=
  if 0 < rx * dx + ry * dy then
    (if rx * dx + ry * dy < dx * dx + dy * dy then (if w * w * (dx * dx + dy * dy) < (dx * ry - dy * rx) * (dx * ry - dy * rx) then 0 else 1)
     else (if w * w < (rx - dx) * (rx - dx) + (ry - dy) * (ry - dy) then 0 else 1))
  else (if w * w < rx * rx + ry * ry then 0 else 1)
theorem ma_nr01 (rx ry dx dy w : Int64) : ma_nr rx ry dx dy w = 0 ∨ ma_nr rx ry dx dy w = 1 := by
  unfold ma_nr
  split
  · split
    · split
      · exact Or.inl rfl
      · exact Or.inr rfl
    · split
      · exact Or.inl rfl
      · exact Or.inr rfl
  · split
    · exact Or.inl rfl
    · exact Or.inr rfl
theorem ma_acr (rx ry dx dy : Int64) : (rx * dy - ry * dx) * (rx * dy - ry * dx) = (dx * ry - dy * rx) * (dx * ry - dy * rx) := by grind
theorem ma_nrz (A : Int32 → Prop) {rx ry dx dy w q : Int64} (hq : q * q = (dx * ry - dy * rx) * (dx * ry - dy * rx)) (h : A (ma_nr rx ry dx dy w)) :
    (0 < rx * dx + ry * dy → ((rx * dx + ry * dy < dx * dx + dy * dy → (∀ z, z = q → ((w * w * (dx * dx + dy * dy) < z * z → A 0) ∧ (¬ w * w * (dx * dx + dy * dy) < z * z → A 1)))) ∧
      (¬ rx * dx + ry * dy < dx * dx + dy * dy → ((w * w < (rx - dx) * (rx - dx) + (ry - dy) * (ry - dy) → A 0) ∧ (¬ w * w < (rx - dx) * (rx - dx) + (ry - dy) * (ry - dy) → A 1))))) ∧
    (¬ 0 < rx * dx + ry * dy → ((w * w < rx * rx + ry * ry → A 0) ∧ (¬ w * w < rx * rx + ry * ry → A 1))) := by
  unfold ma_nr at h
  refine br_c (fun a => br_c (fun b => ?_) (fun b => br_c (fun c => ?_) (fun c => ?_))) (fun a => br_c (fun c => ?_) (fun c => ?_))
  · intro z hz
    rw [hz, hq]
    rw [if_pos a, if_pos b] at h
    refine br_c (fun c => ?_) (fun c => ?_)
    · rw [if_pos c] at h
      exact h
    · rw [if_neg c] at h
      exact h
  · rw [if_pos a, if_neg b, if_pos c] at h
    exact h
  · rw [if_pos a, if_neg b, if_neg c] at h
    exact h
  · rw [if_neg a, if_pos c] at h
    exact h
  · rw [if_neg a, if_neg c] at h
    exact h
def ma_np (fx fy tx ty w : Int32) (p : Nat) : Int32 := ma_nr ((nI (ma_px p)).toInt64 - (2 * fx).toInt64) ((nI (ma_py p)).toInt64 - (2 * fy).toInt64) ((2 * tx).toInt64 - (2 * fx).toInt64) ((2 * ty).toInt64 - (2 * fy).toInt64) w.toInt64
theorem ma_np01 (fx fy tx ty w : Int32) (p : Nat) : ma_np fx fy tx ty w p = 0 ∨ ma_np fx fy tx ty w p = 1 := ma_nr01 _ _ _ _ _
theorem ma_xr {n : Nat} {x : Int32} (hn : n ≤ 125) (h : ma_bd 4000 x) : (nI n - 2 * x).toInt64 = (nI n).toInt64 - (2 * x).toInt64 := by
  have a := ma_mu ma_2d h (by omega)
  have hn' := ma_nbd (n := n) (A := 125) (by omega) (by omega)
  have b := ma_sb hn' a.2 (by omega)
  have c := ma_lsb (ma_li hn') (ma_li a.2) (by omega)
  apply Int64.toInt_inj.mp
  rw [c.1, Int32.toInt_toInt64, Int32.toInt_toInt64, Int32.toInt_toInt64, b.1]
theorem ma_xe {x y : Int32} (hx : ma_bd 4000 x) (hy : ma_bd 4000 y) : 2 * (x - y).toInt64 = (2 * x).toInt64 - (2 * y).toInt64 := by
  have a := ma_mu ma_2d hx (by omega)
  have a' := ma_mu ma_2d hy (by omega)
  have b := ma_sb hx hy (by omega)
  have c := ma_lsb (ma_li a.2) (ma_li a'.2) (by omega)
  have d := ma_lmu ma_2l (ma_li b.2) (by omega)
  apply Int64.toInt_inj.mp
  rw [c.1, d.1, Int32.toInt_toInt64, Int32.toInt_toInt64, Int32.toInt_toInt64, b.1, a.1, a'.1, ma_2t, ma_2tl]
  omega
def ma_any (f : Nat → Int32) : Nat → Int32
  | 0 => 0
  | n + 1 => if f n = 1 then 1 else ma_any f n
theorem ma_any01 (f : Nat → Int32) : ∀ n, ma_any f n = 0 ∨ ma_any f n = 1
  | 0 => Or.inl rfl
  | n + 1 => by
    show (if f n = 1 then 1 else ma_any f n) = 0 ∨ (if f n = 1 then 1 else ma_any f n) = 1
    split
    · exact Or.inr rfl
    · exact ma_any01 f n

/-! the newest revision of a stream among the first n -/
def ma_nw (st : Nat → Int32) (s : Int32) : Nat → Int32
  | 0 => -1
  | n + 1 => if st n = s then nI n else ma_nw st s n
theorem ma_nwb (st : Nat → Int32) (s : Int32) : ∀ n, ma_nw st s n = -1 ∨ ∃ r, r < n ∧ ma_nw st s n = nI r
  | 0 => Or.inl rfl
  | n + 1 => by
    show (if st n = s then nI n else ma_nw st s n) = -1 ∨ ∃ r, r < n + 1 ∧ (if st n = s then nI n else ma_nw st s n) = nI r
    split
    · exact Or.inr ⟨n, by omega, rfl⟩
    · rcases ma_nwb st s n with h | ⟨r, hr, h⟩
      · exact Or.inl h
      · exact Or.inr ⟨r, by omega, h⟩
