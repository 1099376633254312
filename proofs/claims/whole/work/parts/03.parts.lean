/-! the path: the component's firsts against the reference's parts -/
def ma_cl (C : Int32 → Int32 → Int32 → Int32 → Int) (fx fy tx ty fi : Nat → Int32) (E k : Nat) : Int :=
  if k + 1 = E ∨ fi (k + 1) ≠ fi k then C (tx k) (ty k) (fx (fi k).toNatClampNeg) (fy (fi k).toNatClampNeg) else 0
def ma_ce (C : Int32 → Int32 → Int32 → Int32 → Int) (bx bo ex ey : Nat → Int32) (j : Nat) : Int := C (ex j) (ey j) (bx j) (bo j)
def ma_pe (E P : Nat) (fx fy tx ty fi bx bo ex ey : Nat → Int32) : Prop := ∀ C : Int32 → Int32 → Int32 → Int32 → Int, (∀ x y, C x y x y = 0) → ma_sum (ma_cl C fx fy tx ty fi E) E = ma_sum (ma_ce C bx bo ex ey) P
def ma_q4 (n : Nat) (a b c d : Nat → Int32) : Prop := ∀ j, j < n → ma_bd 4000 (a j) ∧ ma_bd 4000 (b j) ∧ ma_bd 4000 (c j) ∧ ma_bd 4000 (d j)
def ma_fb (E : Nat) (fi : Nat → Int32) : Prop := ∀ k, k < E → ∃ m, m ≤ k ∧ fi k = nI m
def ma_path (E P F : Nat) (bg sx sy cx cy : Int32) (fx fy tx ty fi bx bo ex ey : Nat → Int32) : Prop :=
  E ≤ 24 ∧ ma_q4 E fx fy tx ty ∧ ma_fb E fi ∧ ma_q4 P bx bo ex ey ∧ ma_pe E P fx fy tx ty fi bx bo ex ey ∧
  ((bg = 0 ∧ P = 0 ∧ E = 0) ∨ (bg = 1 ∧ ∃ p, P = p + 1 ∧ p ≤ E ∧ F ≤ E ∧ sx = bx p ∧ sy = bo p ∧ cx = ex p ∧ cy = ey p ∧ (F = E → cx = sx ∧ cy = sy) ∧
    (F < E → p + 1 ≤ E ∧ fi (E - 1) = nI F ∧ cx = tx (E - 1) ∧ cy = ty (E - 1) ∧ sx = fx F ∧ sy = fy F)))
theorem ma_p0 (F : Nat) (sx sy cx cy : Int32) (fx fy tx ty fi bx bo ex ey : Nat → Int32) : ma_path 0 0 F 0 sx sy cx cy fx fy tx ty fi bx bo ex ey :=
  ⟨by omega, fun k h => absurd h (Nat.not_lt_zero k), fun k h => absurd h (Nat.not_lt_zero k), fun k h => absurd h (Nat.not_lt_zero k), fun _ _ => rfl, Or.inl ⟨rfl, rfl, rfl⟩⟩
section
variable {E P F : Nat} {bg sx sy cx cy x y : Int32} {fx fy tx ty fi bx bo ex ey : Nat → Int32}
theorem ma_pmove (h : ma_path E P F bg sx sy cx cy fx fy tx ty fi bx bo ex ey) (hx : ma_bd 4000 x) (hy : ma_bd 4000 y) (q : Nat) (hq : (P = q ∧ (bg = 0 ∨ F < E)) ∨ (P = q + 1 ∧ F = E ∧ bg = 1)) :
    ma_path E (q + 1) E 1 x y x y fx fy tx ty fi (upd bx q x) (upd bo q y) (upd ex q x) (upd ey q y) := by
  obtain ⟨hE, hk, hf, hj, he, hb⟩ := h
  refine ⟨hE, hk, hf, ?_, ?_, Or.inr ⟨rfl, q, rfl, ?_, Nat.le_refl _, pk_us.symm, pk_us.symm, pk_us.symm, pk_us.symm, fun _ => ⟨rfl, rfl⟩, fun hh => absurd hh (Nat.lt_irrefl _)⟩⟩
  · intro j hj'
    by_cases e : j = q
    · rw [e, pk_us, pk_us, pk_us, pk_us]
      exact ⟨hx, hy, hx, hy⟩
    · rw [pk_un e, pk_un e, pk_un e, pk_un e]
      exact hj j (by omega)
  · intro C hC
    have e0 := he C hC
    have e1 : ma_ce C (upd bx q x) (upd bo q y) (upd ex q x) (upd ey q y) q = 0 := by
      unfold ma_ce
      rw [pk_us, pk_us, pk_us, pk_us]
      exact hC _ _
    have e2 : ma_sum (ma_ce C (upd bx q x) (upd bo q y) (upd ex q x) (upd ey q y)) q = ma_sum (ma_ce C bx bo ex ey) q := ma_sumc q (fun k hk => by
      have hne : k ≠ q := Nat.ne_of_lt hk
      unfold ma_ce
      rw [pk_un hne, pk_un hne, pk_un hne, pk_un hne])
    show _ = ma_sum (ma_ce C (upd bx q x) (upd bo q y) (upd ex q x) (upd ey q y)) q + ma_ce C (upd bx q x) (upd bo q y) (upd ex q x) (upd ey q y) q
    rw [e1, e2, e0]
    rcases hq with ⟨h1, _⟩ | ⟨h1, hF, hbg⟩
    · rw [h1]
      exact (Int.add_zero _).symm
    · rw [h1]
      show ma_sum (ma_ce C bx bo ex ey) q + ma_ce C bx bo ex ey q = _
      have e3 : ma_ce C bx bo ex ey q = 0 := by
        rcases hb with ⟨h0, hP, _⟩ | ⟨_, p, hp, _, _, s1, s2, c1, c2, hFE, _⟩
        · omega
        · have hpq : q = p := by omega
          have h3 := hFE hF
          unfold ma_ce
          rw [hpq, ← c1, ← c2, ← s1, ← s2, h3.1, h3.2]
          exact hC _ _
      rw [e3]
  · rcases hb with ⟨h0, hP, h3⟩ | ⟨h1, p, hp, hpE, _, _, _, _, _, _, hlt⟩
    · omega
    · rcases hq with ⟨h4, h5 | h5⟩ | ⟨h4, _, _⟩
      · rw [h1] at h5
        exact absurd h5 (by decide)
      · have := (hlt h5).1
        omega
      · omega
theorem ma_pedge (h : ma_path E P F bg sx sy cx cy fx fy tx ty fi bx bo ex ey) (hbg : bg = 1) (hE : E < 24) (hx : ma_bd 4000 x) (hy : ma_bd 4000 y) (p : Nat) (hq : P = p + 1) :
    ma_path (E + 1) P F bg sx sy x y (upd fx E cx) (upd fy E cy) (upd tx E x) (upd ty E y) (upd fi E (nI F)) bx bo (upd ex p x) (upd ey p y) := by
  obtain ⟨_, hk, hf, hj, he, hb⟩ := h
  rcases hb with ⟨h0, _⟩ | ⟨_, p', hp, hpE, hFE, s1, s2, c1, c2, hF1, hF2⟩
  · rw [h0] at hbg
    exact absurd hbg (by decide)
  have ep : p' = p := by omega
  rw [ep] at s1 s2 c1 c2 hF2
  have kc := hj p (by omega)
  rw [← c1, ← c2] at kc
  have sF : upd fx E cx F = sx ∧ upd fy E cy F = sy := by
    by_cases e : F = E
    · rw [e, pk_us, pk_us]
      exact hF1 e
    · have h2 := hF2 (by omega)
      rw [pk_un e, pk_un e]
      exact ⟨h2.2.2.2.2.1.symm, h2.2.2.2.2.2.symm⟩
  refine ⟨by omega, ?_, ?_, ?_, ?_, Or.inr ⟨hbg, p, hq, by omega, by omega, s1, s2, pk_us.symm, pk_us.symm, fun e => by omega, fun _ => ⟨by omega, ?_, ?_, ?_, sF.1.symm, sF.2.symm⟩⟩⟩
  · intro k hk'
    by_cases e : k = E
    · rw [e, pk_us, pk_us, pk_us, pk_us]
      exact ⟨kc.2.2.1, kc.2.2.2, hx, hy⟩
    · rw [pk_un e, pk_un e, pk_un e, pk_un e]
      exact hk k (by omega)
  · intro k hk'
    by_cases e : k = E
    · rw [e, pk_us]
      exact ⟨F, hFE, rfl⟩
    · rw [pk_un e]
      exact hf k (by omega)
  · intro j hj'
    have h4 := hj j hj'
    by_cases e : j = p
    · rw [e] at h4
      rw [e, pk_us, pk_us]
      exact ⟨h4.1, h4.2.1, hx, hy⟩
    · rw [pk_un e, pk_un e]
      exact h4
  · intro C hC
    have e0 := he C hC
    have a1 : ma_sum (ma_ce C bx bo (upd ex p x) (upd ey p y)) p = ma_sum (ma_ce C bx bo ex ey) p := ma_sumc p (fun k hk => by
      have hne : k ≠ p := Nat.ne_of_lt hk
      unfold ma_ce
      rw [pk_un hne, pk_un hne])
    have a2 : ma_ce C bx bo (upd ex p x) (upd ey p y) p = C x y sx sy := by
      unfold ma_ce
      rw [pk_us, pk_us, s1, s2]
    have a3 : ma_ce C bx bo ex ey p = C cx cy sx sy := by
      unfold ma_ce
      rw [← c1, ← c2, ← s1, ← s2]
    have b2 : ma_cl C (upd fx E cx) (upd fy E cy) (upd tx E x) (upd ty E y) (upd fi E (nI F)) (E + 1) E = C x y sx sy := by
      unfold ma_cl
      rw [if_pos (Or.inl rfl), pk_us, pk_us, pk_us, nI_clamp (by omega), sF.1, sF.2]
    have lo : ∀ k, k < E → (k + 1 < E ∨ F = E) → ma_cl C (upd fx E cx) (upd fy E cy) (upd tx E x) (upd ty E y) (upd fi E (nI F)) (E + 1) k = ma_cl C fx fy tx ty fi E k := by
      intro k hkE hk1
      obtain ⟨m, hm, em⟩ := hf k hkE
      have n1 : k ≠ E := Nat.ne_of_lt hkE
      have n2 : (fi k).toNatClampNeg ≠ E := by
        rw [em, nI_clamp (by omega)]
        omega
      unfold ma_cl
      by_cases n3 : k + 1 = E
      · have hF : F = E := by omega
        have n4 : upd fi E (nI F) (k + 1) ≠ upd fi E (nI F) k := by
          rw [n3, pk_us, pk_un n1, em]
          intro z
          rw [nI_eq (by omega) (by omega)] at z
          omega
        rw [if_pos (Or.inr n4), if_pos (Or.inl n3), pk_un n1, pk_un n1, pk_un n1, pk_un n2, pk_un n2]
      · rw [pk_un n3, pk_un n1, pk_un n1, pk_un n1, pk_un n2, pk_un n2]
        by_cases c : fi (k + 1) ≠ fi k
        · rw [if_pos (Or.inr c), if_pos (Or.inr c)]
        · rw [if_neg (fun z => z.elim (fun z => by omega) c), if_neg (fun z => z.elim n3 c)]
    show ma_sum (ma_cl C (upd fx E cx) (upd fy E cy) (upd tx E x) (upd ty E y) (upd fi E (nI F)) (E + 1)) E + ma_cl C (upd fx E cx) (upd fy E cy) (upd tx E x) (upd ty E y) (upd fi E (nI F)) (E + 1) E = _
    rw [hq] at e0 ⊢
    show _ = ma_sum (ma_ce C bx bo (upd ex p x) (upd ey p y)) p + ma_ce C bx bo (upd ex p x) (upd ey p y) p
    rw [a1, a2, b2]
    have e0' : ma_sum (ma_cl C fx fy tx ty fi E) E = ma_sum (ma_ce C bx bo ex ey) p + C cx cy sx sy := by
      rw [← a3]
      exact e0
    by_cases hF : F = E
    · have h3 := hF1 hF
      rw [ma_sumc E (fun k hk => lo k hk (Or.inr hF)), e0', h3.1, h3.2, hC, Int.add_zero]
    · have h2 := hF2 (by omega)
      obtain ⟨e, he⟩ : ∃ e, E = e + 1 := ⟨E - 1, by omega⟩
      have h21 : fi e = nI F := by
        have := h2.2.1
        rw [he, Nat.add_sub_cancel] at this
        exact this
      have h22 : cx = tx e := by
        have := h2.2.2.1
        rw [he, Nat.add_sub_cancel] at this
        exact this
      have h23 : cy = ty e := by
        have := h2.2.2.2.1
        rw [he, Nat.add_sub_cancel] at this
        exact this
      have d1 : ma_cl C fx fy tx ty fi E e = C cx cy sx sy := by
        unfold ma_cl
        rw [if_pos (Or.inl he.symm), h21, nI_clamp (by omega), ← h22, ← h23, ← h2.2.2.2.2.1, ← h2.2.2.2.2.2]
      have d2 : ma_cl C (upd fx E cx) (upd fy E cy) (upd tx E x) (upd ty E y) (upd fi E (nI F)) (E + 1) e = 0 := by
        unfold ma_cl
        have ne : e ≠ E := by omega
        rw [if_neg]
        intro z
        rcases z with z | z
        · omega
        · apply z
          rw [← he, pk_us, pk_un ne, h21]
      have d3 : ∀ n, ma_sum (ma_cl C (upd fx E cx) (upd fy E cy) (upd tx E x) (upd ty E y) (upd fi E (nI F)) (E + 1)) (n + 1) = ma_sum (ma_cl C (upd fx E cx) (upd fy E cy) (upd tx E x) (upd ty E y) (upd fi E (nI F)) (E + 1)) n + ma_cl C (upd fx E cx) (upd fy E cy) (upd tx E x) (upd ty E y) (upd fi E (nI F)) (E + 1) n := fun _ => rfl
      have d4 : ∀ n, ma_sum (ma_cl C fx fy tx ty fi E) (n + 1) = ma_sum (ma_cl C fx fy tx ty fi E) n + ma_cl C fx fy tx ty fi E n := fun _ => rfl
      have d5 := ma_sumc e (fun k hk => lo k (by omega) (Or.inl (by omega)))
      have d6 : ma_sum (ma_cl C (upd fx E cx) (upd fy E cy) (upd tx E x) (upd ty E y) (upd fi E (nI F)) (E + 1)) E = ma_sum (ma_cl C fx fy tx ty fi E) e := by
        have := d3 e
        rw [← he, d2, d5, Int.add_zero] at this
        exact this
      have d7 : ma_sum (ma_cl C fx fy tx ty fi E) E = ma_sum (ma_cl C fx fy tx ty fi E) e + C cx cy sx sy := by
        have := d4 e
        rw [← he, d1] at this
        exact this
      rw [d6]
      omega
  · rw [Nat.add_sub_cancel, pk_us]
  · rw [Nat.add_sub_cancel, pk_us]
  · rw [Nat.add_sub_cancel, pk_us]
end
/-! what both sides find at a pixel -/
def ma_S (E P : Nat) (fx fy tx ty bx bo ex ey : Nat → Int32) (p : Nat) : Int := ma_sum (fun k => ma_cp (fx k) (fy k) (tx k) (ty k) p) E + ma_sum (fun j => ma_cp (ex j) (ey j) (bx j) (bo j) p) P
def ma_M (E P : Nat) (fx fy tx ty bx bo ex ey : Nat → Int32) (p : Nat) : Int := ma_sum (fun k => ma_cp (fx k) (fy k) (tx k) (ty k) p * ma_cp (fx k) (fy k) (tx k) (ty k) p) E + ma_sum (fun j => ma_cp (ex j) (ey j) (bx j) (bo j) p * ma_cp (ex j) (ey j) (bx j) (bo j) p) P
def ma_T (E : Nat) (fx fy tx ty fi : Nat → Int32) (p k : Nat) : Int := ma_cp (fx k) (fy k) (tx k) (ty k) p + ma_cl (fun a b c d => ma_cp a b c d p) fx fy tx ty fi E k
theorem ma_ST {E P : Nat} {fx fy tx ty fi bx bo ex ey : Nat → Int32} (h : ma_pe E P fx fy tx ty fi bx bo ex ey) (p : Nat) : ma_sum (ma_T E fx fy tx ty fi p) E = ma_S E P fx fy tx ty bx bo ex ey p := by
  have h1 := ma_suma (fun k => ma_cp (fx k) (fy k) (tx k) (ty k) p) (ma_cl (fun a b c d => ma_cp a b c d p) fx fy tx ty fi E) E
  have h2 := h (fun a b c d => ma_cp a b c d p) (ma_cp0 p)
  have e : ma_sum (ma_T E fx fy tx ty fi p) E = ma_sum (fun k => ma_cp (fx k) (fy k) (tx k) (ty k) p + ma_cl (fun a b c d => ma_cp a b c d p) fx fy tx ty fi E k) E := rfl
  rw [e, h1, h2]
  rfl
theorem ma_SM (E P : Nat) (fx fy tx ty bx bo ex ey : Nat → Int32) (p : Nat) : ma_S E P fx fy tx ty bx bo ex ey p % 2 = ma_M E P fx fy tx ty bx bo ex ey p % 2 ∧ 0 ≤ ma_M E P fx fy tx ty bx bo ex ey p ∧ ma_M E P fx fy tx ty bx bo ex ey p ≤ E + P ∧ -(E + P : Int) ≤ ma_S E P fx fy tx ty bx bo ex ey p ∧ ma_S E P fx fy tx ty bx bo ex ey p ≤ E + P := by
  have h1 := ma_sump (f := fun k => ma_cp (fx k) (fy k) (tx k) (ty k) p) E (fun k _ => ma_cpb _ _ _ _ _)
  have h2 := ma_sump (f := fun j => ma_cp (ex j) (ey j) (bx j) (bo j) p) P (fun k _ => ma_cpb _ _ _ _ _)
  have h3 := ma_sumb (f := fun k => ma_cp (fx k) (fy k) (tx k) (ty k) p) E (fun k _ => ma_cpb _ _ _ _ _)
  have h4 := ma_sumb (f := fun j => ma_cp (ex j) (ey j) (bx j) (bo j) p) P (fun k _ => ma_cpb _ _ _ _ _)
  unfold ma_S ma_M
  generalize ma_sum (fun k => ma_cp (fx k) (fy k) (tx k) (ty k) p) E = a at *
  generalize ma_sum (fun j => ma_cp (ex j) (ey j) (bx j) (bo j) p) P = b at *
  generalize ma_sum (fun k => ma_cp (fx k) (fy k) (tx k) (ty k) p * ma_cp (fx k) (fy k) (tx k) (ty k) p) E = c at *
  generalize ma_sum (fun j => ma_cp (ex j) (ey j) (bx j) (bo j) p * ma_cp (ex j) (ey j) (bx j) (bo j) p) P = d at *
  omega
/-- inside, by the one rule (o = 0) or the other -/
def ma_ins (o : Int32) (S : Int) : Int32 := if o = 0 then (if S = 0 then 0 else 1) else (if S % 2 = 0 then 0 else 1)
theorem ma_ins01 (o : Int32) (S : Int) : ma_ins o S = 0 ∨ ma_ins o S = 1 := by
  unfold ma_ins
  split
  · split
    · exact Or.inl rfl
    · exact Or.inr rfl
  · split
    · exact Or.inl rfl
    · exact Or.inr rfl
theorem ma_of0 {S : Int} (h : -100 ≤ S) (h' : S ≤ 100) : Int32.ofInt S = 0 ↔ S = 0 := by
  rw [← Int32.toInt_inj, Int32.toInt_ofInt_of_le (by omega) (by omega), show (0 : Int32).toInt = 0 from by decide]
theorem ma_of1 (S : Int) : (Int32.ofInt S) &&& 1 = 0 ↔ S % 2 = 0 := by
  rw [pk_and (Int32.ofInt S) (m := 1) 1 (by decide)]
  have e : (Int32.ofInt S).toBitVec.toNat = (S % 4294967296).toNat := by
    rw [Int32.toBitVec_ofInt, BitVec.toNat_ofInt]
    rfl
  rw [e, show (0 : Int32) = nI 0 from rfl, nI_eq (by omega) (by omega)]
  omega
