variable {xds xrc xde xoc xun xfp xsc xtl xec xpb xpf xsx xsy xcx xcy yrc ysh yle yla yde ypa yed yoc yun yfa ywh ype : Int32} {dk dv sr rs rk rv ct ru pl be mx xo st cp pa pn fx fy tx ty fi cr cv ln kd nm mt co wi sv bx bo ex ey yo : Nat → Int32}
theorem ma_nltL {x y : Int64} (h : ¬ x < y) : y ≤ x := Int64.not_lt.mp h
theorem ma_ltL {x y : Int64} (h : x < y) : ¬ y ≤ x := Int64.not_le.mpr h
/-! counts, inside -/
theorem yp_ct {post : Int32 → Prop} {x1 y1 x2 y2 : Int32} {p : Nat} (h1 : ma_bd 4000 x1) (h2 : ma_bd 4000 y1) (h3 : ma_bd 4000 x2) (h4 : ma_bd 4000 y2) (hp : p < 192) (H : post (Int32.ofInt (ma_cp x1 y1 x2 y2 p))) :
    wpY_counts post (yrc, ysh, yle, yla, yde, ypa, yed, yoc, yun, yfa, ywh, ype, sr, ln, kd, nm, mt, co, wi, cp, pa, pn, ru, pl, sv, be, mx, bx, bo, ex, ey, fx, fy, tx, ty, yo) x1.toInt64 y1.toInt64 x2.toInt64 y2.toInt64 (nI (ma_px p)).toInt64 (nI (ma_py p)).toInt64 := by
  rcases ma_ycase h1 h2 h3 h4 hp _ _ rfl rfl with ⟨⟨a, b⟩, ⟨c, e⟩ | ⟨c, e⟩⟩ | ⟨n, ⟨a, b⟩, ⟨c, e⟩ | ⟨c, e⟩⟩ | ⟨n, n', e⟩
  · rw [e, ma_o1] at H
    have dn : wY_counts_72 post x1.toInt64 y1.toInt64 x2.toInt64 y2.toInt64 (nI (ma_px p)).toInt64 (nI (ma_py p)).toInt64 1 yrc ysh yle yla yde ypa yed yoc yun yfa ywh ype sr ln kd nm mt co wi cp pa pn ru pl sv be mx bx bo ex ey fx fy tx ty yo := nm_e (nm_e (br_f (by decide) (br_f (ma_ltL c) H)))
    exact br_f (ma_ltL a) (br_f (ma_ltL b) (br_c (fun _ => br_f (by decide) dn) (fun _ => br_c (fun _ => br_f (by decide) dn) (fun _ => br_f (by decide) dn))))
  · rw [e, ma_o0] at H
    have dn : wY_counts_72 post x1.toInt64 y1.toInt64 x2.toInt64 y2.toInt64 (nI (ma_px p)).toInt64 (nI (ma_py p)).toInt64 1 yrc ysh yle yla yde ypa yed yoc yun yfa ywh ype sr ln kd nm mt co wi cp pa pn ru pl sv be mx bx bo ex ey fx fy tx ty yo := nm_e (nm_e (br_f (by decide) (br_t (ma_nltL c) H)))
    exact br_f (ma_ltL a) (br_f (ma_ltL b) (br_c (fun _ => br_f (by decide) dn) (fun _ => br_c (fun _ => br_f (by decide) dn) (fun _ => br_f (by decide) dn))))
  · rw [e, ma_om] at H
    have dn : wY_counts_28 post x1.toInt64 y1.toInt64 x2.toInt64 y2.toInt64 (nI (ma_px p)).toInt64 (nI (ma_py p)).toInt64 0 yrc ysh yle yla yde ypa yed yoc yun yfa ywh ype sr ln kd nm mt co wi cp pa pn ru pl sv be mx bx bo ex ey fx fy tx ty yo := br_f (ma_ltL a) (br_f (ma_ltL b) (br_t rfl (br_f (by decide) (nm_e (nm_e (br_t rfl (br_f (ma_ltL c) H)))))))
    exact br_c (fun _ => dn) (fun u => br_c (fun _ => dn) (fun w => absurd ⟨Int64.not_le.mp u, Int64.not_le.mp w⟩ n))
  · rw [e, ma_o0] at H
    have dn : wY_counts_28 post x1.toInt64 y1.toInt64 x2.toInt64 y2.toInt64 (nI (ma_px p)).toInt64 (nI (ma_py p)).toInt64 0 yrc ysh yle yla yde ypa yed yoc yun yfa ywh ype sr ln kd nm mt co wi cp pa pn ru pl sv be mx bx bo ex ey fx fy tx ty yo := br_f (ma_ltL a) (br_f (ma_ltL b) (br_t rfl (br_f (by decide) (nm_e (nm_e (br_t rfl (br_t (ma_nltL c) H)))))))
    exact br_c (fun _ => dn) (fun u => br_c (fun _ => dn) (fun w => absurd ⟨Int64.not_le.mp u, Int64.not_le.mp w⟩ n))
  · rw [e, ma_o0] at H
    have d0 : wY_counts_57 post x1.toInt64 y1.toInt64 x2.toInt64 y2.toInt64 (nI (ma_px p)).toInt64 (nI (ma_py p)).toInt64 0 yrc ysh yle yla yde ypa yed yoc yun yfa ywh ype sr ln kd nm mt co wi cp pa pn ru pl sv be mx bx bo ex ey fx fy tx ty yo := br_t rfl (br_t rfl H)
    have dn : wY_counts_28 post x1.toInt64 y1.toInt64 x2.toInt64 y2.toInt64 (nI (ma_px p)).toInt64 (nI (ma_py p)).toInt64 0 yrc ysh yle yla yde ypa yed yoc yun yfa ywh ype sr ln kd nm mt co wi cp pa pn ru pl sv be mx bx bo ex ey fx fy tx ty yo := br_c (fun _ => d0) (fun u => br_c (fun _ => d0) (fun w => absurd ⟨Int64.not_le.mp u, Int64.not_le.mp w⟩ n'))
    exact br_c (fun _ => dn) (fun u => br_c (fun _ => dn) (fun w => absurd ⟨Int64.not_le.mp u, Int64.not_le.mp w⟩ n))
/-- the sums of the reference after e edges, after e edges and j parts -/
def rr_s1 (fx fy tx ty : Nat → Int32) (p e : Nat) : Int := ma_sum (fun k => ma_cp (fx k) (fy k) (tx k) (ty k) p) e
def rr_m1 (fx fy tx ty : Nat → Int32) (p e : Nat) : Int := ma_sum (fun k => ma_cp (fx k) (fy k) (tx k) (ty k) p * ma_cp (fx k) (fy k) (tx k) (ty k) p) e
theorem rr_s1s (fx fy tx ty : Nat → Int32) (p e : Nat) : Int32.ofInt (rr_s1 fx fy tx ty p e) + Int32.ofInt (ma_cp (fx e) (fy e) (tx e) (ty e) p) = Int32.ofInt (rr_s1 fx fy tx ty p (e + 1)) := (Int32.ofInt_add _ _).symm
theorem rr_m1s (fx fy tx ty : Nat → Int32) (p e : Nat) : Int32.ofInt (rr_m1 fx fy tx ty p e) + Int32.ofInt (ma_cp (fx e) (fy e) (tx e) (ty e) p) * Int32.ofInt (ma_cp (fx e) (fy e) (tx e) (ty e) p) = Int32.ofInt (rr_m1 fx fy tx ty p (e + 1)) := by
  rw [← Int32.ofInt_mul, ← Int32.ofInt_add]
  rfl
theorem yw_in2 {post : Int32 → Prop} {o : Int32} {P p : Nat} {s m : Int} (hP : P ≤ 25) (hp : p < 192) (hq : ma_q4 P bx bo ex ey)
    (hs : -100 ≤ s + rr_s1 ex ey bx bo p P ∧ s + rr_s1 ex ey bx bo p P ≤ 100) (hm : 0 ≤ m + rr_m1 ex ey bx bo p P ∧ m + rr_m1 ex ey bx bo p P ≤ 100) (he : (s + rr_s1 ex ey bx bo p P) % 2 = (m + rr_m1 ex ey bx bo p P) % 2)
    (H : post (ma_ins o (s + rr_s1 ex ey bx bo p P))) :
    ∀ d j, j + d = P → wY_inside_108 post o (nI (ma_px p)).toInt64 (nI (ma_py p)).toInt64 yrc ysh yle yla yde (nI P) yed yoc yun yfa ywh ype sr ln kd nm mt co wi cp pa pn ru pl sv be mx bx bo ex ey fx fy tx ty yo (d + 1) (Int32.ofInt (s + rr_s1 ex ey bx bo p j)) (Int32.ofInt (m + rr_m1 ex ey bx bo p j)) (nI j) := by
  intro d
  induction d with
  | zero =>
    intro j hj
    have e : j = P := by omega
    rw [e]
    refine pk_le P P (fun _ => ?_) (fun h => absurd h (by omega))
    by_cases ho : o = 0
    · refine br_t ho ?_
      by_cases hz : s + rr_s1 ex ey bx bo p P = 0
      · unfold ma_ins at H
        rw [if_pos ho, if_pos hz] at H
        exact br_t ((ma_of0 hs.1 hs.2).mpr hz) H
      · unfold ma_ins at H
        rw [if_pos ho, if_neg hz] at H
        exact br_f (fun z => hz ((ma_of0 hs.1 hs.2).mp z)) H
    · refine br_f ho ⟨by decide, ?_⟩
      generalize hM : m + rr_m1 ex ey bx bo p P = M at hm he
      obtain ⟨w, rfl⟩ : ∃ w : Nat, M = (w : Int) := ⟨M.toNat, by omega⟩
      have e1 : Int32.ofInt (w : Int) = nI w := rfl
      have e2 : nI w - nI w / 2 * 2 = nI (w % 2) := pk_rem (a := w) (d := 2) (by omega) (by decide) (by decide)
      rw [e1, e2]
      by_cases hz : (s + rr_s1 ex ey bx bo p P) % 2 = 0
      · unfold ma_ins at H
        rw [if_neg ho, if_pos hz] at H
        exact pk_eq (w % 2) 1 (fun z => absurd z (by omega)) (fun _ => H)
      · unfold ma_ins at H
        rw [if_neg ho, if_neg hz] at H
        exact pk_eq (w % 2) 1 (fun _ => H) (fun z => absurd z (by omega))
  | succ d ih =>
    intro j hj
    have h := ih (j + 1) (by omega)
    have hin : vp_in (nI j) 30 := pk_in j 30 (by omega)
    have ec : (nI j).toNatClampNeg = j := pk_cl j
    obtain ⟨q1, q2, q3, q4⟩ := hq j (by omega)
    refine pk_le P j (fun h => absurd h (by omega)) (fun _ => ⟨hin, hin, hin, hin, ?_⟩)
    rw [ec]
    refine yp_ct q3 q4 q1 q2 hp (nm_r ?_ (nm_r ?_ (nm_r (nI_1 j) h)))
    · rw [Int32.ofInt_add, Int32.ofInt_add, Int32.add_assoc, rr_s1s]
    · rw [Int32.ofInt_add, Int32.ofInt_add, Int32.add_assoc, rr_m1s]
theorem yw_in1 {post : Int32 → Prop} {o : Int32} {E p : Nat} (hE : E ≤ 24) (hp : p < 192) (hq : ma_q4 E fx fy tx ty)
    (H : ∃ n, wY_inside_108 post o (nI (ma_px p)).toInt64 (nI (ma_py p)).toInt64 yrc ysh yle yla yde ypa (nI E) yoc yun yfa ywh ype sr ln kd nm mt co wi cp pa pn ru pl sv be mx bx bo ex ey fx fy tx ty yo n (Int32.ofInt (rr_s1 fx fy tx ty p E)) (Int32.ofInt (rr_m1 fx fy tx ty p E)) 0) :
    ∀ d j, j + d = E → wY_inside_32 post o (nI (ma_px p)).toInt64 (nI (ma_py p)).toInt64 yrc ysh yle yla yde ypa (nI E) yoc yun yfa ywh ype sr ln kd nm mt co wi cp pa pn ru pl sv be mx bx bo ex ey fx fy tx ty yo (d + 1) (Int32.ofInt (rr_s1 fx fy tx ty p j)) (Int32.ofInt (rr_m1 fx fy tx ty p j)) (nI j) := by
  intro d
  induction d with
  | zero =>
    intro j hj
    have e : j = E := by omega
    rw [e]
    exact pk_le E E (fun _ => H) (fun h => absurd h (by omega))
  | succ d ih =>
    intro j hj
    have h := ih (j + 1) (by omega)
    have hin : vp_in (nI j) 24 := pk_in j 24 (by omega)
    have ec : (nI j).toNatClampNeg = j := pk_cl j
    obtain ⟨q1, q2, q3, q4⟩ := hq j (by omega)
    refine pk_le E j (fun h => absurd h (by omega)) (fun _ => ⟨hin, hin, hin, hin, ?_⟩)
    rw [ec]
    exact yp_ct q1 q2 q3 q4 hp (nm_r (rr_s1s _ _ _ _ _ _) (nm_r (rr_m1s _ _ _ _ _ _) (nm_r (nI_1 j) h)))
theorem yp_in {post : Int32 → Prop} {o : Int32} {E P p : Nat} (hE : E ≤ 24) (hP : P ≤ 25) (hp : p < 192) (hq : ma_q4 E fx fy tx ty) (hq' : ma_q4 P bx bo ex ey) (H : post (ma_ins o (ma_S E P fx fy tx ty bx bo ex ey p))) : wpY_inside post (yrc, ysh, yle, yla, yde, nI P, nI E, yoc, yun, yfa, ywh, ype, sr, ln, kd, nm, mt, co, wi, cp, pa, pn, ru, pl, sv, be, mx, bx, bo, ex, ey, fx, fy, tx, ty, yo) (nI p) o := by
  have hs := ma_SM E P fx fy tx ty bx bo ex ey p
  have e0 : ma_S E P fx fy tx ty bx bo ex ey p = rr_s1 fx fy tx ty p E + rr_s1 ex ey bx bo p P := rfl
  have e1 : ma_M E P fx fy tx ty bx bo ex ey p = rr_m1 fx fy tx ty p E + rr_m1 ex ey bx bo p P := rfl
  rw [e0] at H
  rw [e0, e1] at hs
  have h : wY_inside_108 post o (nI (ma_px p)).toInt64 (nI (ma_py p)).toInt64 yrc ysh yle yla yde (nI P) (nI E) yoc yun yfa ywh ype sr ln kd nm mt co wi cp pa pn ru pl sv be mx bx bo ex ey fx fy tx ty yo (P + 1) (Int32.ofInt (rr_s1 fx fy tx ty p E + rr_s1 ex ey bx bo p 0)) (Int32.ofInt (rr_m1 fx fy tx ty p E + rr_m1 ex ey bx bo p 0)) (nI 0) := yw_in2 hP hp hq' ⟨by omega, by omega⟩ ⟨by omega, by omega⟩ (by omega) H P 0 (by omega)
  have z1 : rr_s1 fx fy tx ty p E + rr_s1 ex ey bx bo p 0 = rr_s1 fx fy tx ty p E := Int.add_zero _
  have z2 : rr_m1 fx fy tx ty p E + rr_m1 ex ey bx bo p 0 = rr_m1 fx fy tx ty p E := Int.add_zero _
  rw [z1, z2] at h
  have h' := yw_in1 hE hp hq ⟨_, h⟩ E 0 (by omega)
  exact ⟨by decide, nm_r (by rw [ma_xpx hp]) ⟨by decide, nm_r (by rw [ma_xpy hp]) ⟨_, h'⟩⟩⟩
/-! touches, drawn -/
theorem yp_to {post : Int32 → Prop} {e p : Nat} {w : Int32} (he : e < 24) (H : post (ma_np (fx e) (fy e) (tx e) (ty e) w p)) : wpY_touches post (yrc, ysh, yle, yla, yde, ypa, yed, yoc, yun, yfa, ywh, ype, sr, ln, kd, nm, mt, co, wi, cp, pa, pn, ru, pl, sv, be, mx, bx, bo, ex, ey, fx, fy, tx, ty, yo) (nI e) (nI (ma_px p)).toInt64 (nI (ma_py p)).toInt64 w.toInt64 := by
  have hin : vp_in (nI e) 24 := pk_in e 24 he
  have ec : (nI e).toNatClampNeg = e := pk_cl e
  exact ⟨hin, nm_r (by rw [ec]) ⟨hin, nm_r (by rw [ec]) ⟨hin, nm_r (by rw [ec]) ⟨hin, nm_r (by rw [ec]) (nm_e (nm_e (nm_e (nm_e (ma_nrz post rfl H)))))⟩⟩⟩⟩
theorem yw_dr {post : Int32 → Prop} {E V p : Nat} (hE : E ≤ 24) (hV : V ≤ 6) (hp : p < 192) (H : post (rr_cn fx fy tx ty (wi V) E p)) :
    ∀ d k, k + d = E → wY_drawn_4 post (nI p) yrc ysh (nI V) yla yde ypa (nI E) yoc yun yfa ywh ype sr ln kd nm mt co wi cp pa pn ru pl sv be mx bx bo ex ey fx fy tx ty yo (d + 1) (rr_cn fx fy tx ty (wi V) k p) (nI k) := by
  intro d
  induction d with
  | zero =>
    intro k hk
    have e : k = E := by omega
    rw [e]
    refine pk_le E E (fun _ => ⟨?_, H⟩) (fun h => absurd h (by omega))
    rcases ma_any01 (fun e => ma_np (fx e) (fy e) (tx e) (ty e) (wi V) p) E with e | e
    · rw [show rr_cn fx fy tx ty (wi V) E p = 0 from e]
      rfl
    · rw [show rr_cn fx fy tx ty (wi V) E p = 1 from e]
      rfl
  | succ d ih =>
    intro k hk
    have h := ih (k + 1) (by omega)
    have ecV : (nI V).toNatClampNeg = V := pk_cl V
    have es : rr_cn fx fy tx ty (wi V) (k + 1) p = if ma_np (fx k) (fy k) (tx k) (ty k) (wi V) p = 1 then 1 else rr_cn fx fy tx ty (wi V) k p := rfl
    refine pk_le E k (fun h => absurd h (by omega)) (fun _ => ⟨by decide, by decide, pk_in V 7 (by omega), ?_⟩)
    rw [ma_xpx hp, ma_xpy hp, ecV]
    refine yp_to (by omega) ?_
    rcases ma_any01 (fun e => ma_np (fx e) (fy e) (tx e) (ty e) (wi V) p) k with a | a
    · have a' : rr_cn fx fy tx ty (wi V) k p = 0 := a
      rcases ma_np01 (fx k) (fy k) (tx k) (ty k) (wi V) p with b | b
      · rw [es, b, if_neg (by decide), a'] at h
        exact br_t a' (br_t b (nm_r (nI_1 k) h))
      · rw [es, b, if_pos rfl] at h
        exact br_t a' (br_f (by rw [b]; decide) (nm_r (nI_1 k) h))
    · have a' : rr_cn fx fy tx ty (wi V) k p = 1 := a
      have e1 : rr_cn fx fy tx ty (wi V) (k + 1) p = 1 := by
        rw [es, a']
        split <;> rfl
      rw [e1] at h
      exact br_f (by rw [a']; decide) (nm_r (nI_1 k) h)
theorem yp_dr {post : Int32 → Prop} {E V p : Nat} (hE : E ≤ 24) (hV : V ≤ 6) (hp : p < 192) (H : post (rr_cn fx fy tx ty (wi V) E p)) : wpY_drawn post (yrc, ysh, nI V, yla, yde, ypa, nI E, yoc, yun, yfa, ywh, ype, sr, ln, kd, nm, mt, co, wi, cp, pa, pn, ru, pl, sv, be, mx, bx, bo, ex, ey, fx, fy, tx, ty, yo) (nI p) := ⟨_, yw_dr hE hV hp H E 0 (by omega)⟩
