variable {xds xrc xde xoc xun xfp xsc xtl xec xpb xpf xsx xsy xcx xcy yrc ysh yle yla yde ypa yed yoc yun yfa ywh ype : Int32} {dk dv sr rs rk rv ct ru pl be mx xo st cp pa pn fx fy tx ty fi cr cv ln kd nm mt co wi sv bx bo ex ey yo : Nat → Int32}
/-! a rendering under way -/
def rr_H (K n : Nat) (c d T L V U E P F : Nat) (A B G : Nat → Nat) (xpb xpf xsx xsy xcx xcy ype : Int32) (dk dv sr rs rk rv ct ru pl be mx xo st cp pa pn fx fy tx ty fi cr cv ln kd nm mt co wi sv bx bo ex ey yo : Nat → Int32) : Prop :=
  rr_doc c d rs rk rv dk dv ln kd nm ∧ rr_st st mt co wi ∧ rr_pa pa ∧ rr_op n xo yo ∧ rr_ct K ct sr ∧ K ≤ 8 ∧ rr_fr T L V U ru pl be sv mx A B G ∧ rr_pl K T ru sr ln A ∧ ma_path E P F xpb xsx xsy xcx xcy fx fy tx ty fi bx bo ex ey ∧ (xpb = 1 → xpf = nI F ∧ ype = nI (E - F))
def rr_R (K N q n : Nat) (u : SX) (v : SY) : Prop := ∃ (c d T L V U E P F : Nat) (A B G : Nat → Nat) (xpb xpf xsx xsy xcx xcy ype : Int32) (dk dv sr rs rk rv ct ru pl be mx xo st cp pa pn fx fy tx ty fi cr cv ln kd nm mt co wi sv bx bo ex ey yo : Nat → Int32),
  u = (nI d, nI c, nI (T + 1), nI q, nI U, -1, nI V, nI L, nI E, xpb, xpf, xsx, xsy, xcx, xcy, dk, dv, sr, rs, rk, rv, ct, ru, pl, be, mx, xo, st, cp, pa, pn, fx, fy, tx, ty, fi, cr, cv) ∧ v = (nI c, nI K, nI V, nI L, nI (T + 1), nI P, nI E, nI q, nI U, 0, -1, ype, sr, ln, kd, nm, mt, co, wi, cp, pa, pn, ru, pl, sv, be, mx, bx, bo, ex, ey, fx, fy, tx, ty, yo) ∧ N = rr_ph U T A ∧ rr_H K n c d T L V U E P F A B G xpb xpf xsx xsy xcx xcy ype dk dv sr rs rk rv ct ru pl be mx xo st cp pa pn fx fy tx ty fi cr cv ln kd nm mt co wi sv bx bo ex ey yo
def rr_F (r : Int32) (u : SX) (v : SY) : Prop := ∃ (c d : Nat) (xde xoc xun xsc xtl xec xpb xpf xsx xsy xcx xcy ysh yle yla yde ypa yed yoc ype : Int32) (dk dv sr rs rk rv ct ru pl be mx xo st cp pa pn fx fy tx ty fi cr cv ln kd nm mt co wi sv bx bo ex ey yo : Nat → Int32),
  u = (nI d, nI c, xde, xoc, xun, -1, xsc, xtl, xec, xpb, xpf, xsx, xsy, xcx, xcy, dk, dv, sr, rs, rk, rv, ct, ru, pl, be, mx, xo, st, cp, pa, pn, fx, fy, tx, ty, fi, cr, cv) ∧ v = (nI c, ysh, yle, yla, yde, ypa, yed, yoc, xun, r, -1, ype, sr, ln, kd, nm, mt, co, wi, cp, pa, pn, ru, pl, sv, be, mx, bx, bo, ex, ey, fx, fy, tx, ty, yo) ∧ rr_doc c d rs rk rv dk dv ln kd nm ∧ rr_st st mt co wi ∧ rr_pa pa
def rr_Z (K N : Nat) (r : Int32) (u : SX) (v : SY) : Prop := (r = 0 ∧ ∃ N', N' ≤ N + 41 ∧ rr_R K N' 0 0 u v) ∨ (r ≠ 0 ∧ rr_F r u v)
theorem rr_op0 {xo yo : Nat → Int32} : rr_op 0 xo yo := ⟨by omega, fun i h => absurd h (Nat.not_lt_zero i)⟩
theorem op_1 {K c d T L V U E P F : Nat} {A B G : Nat → Nat} (hU : U < 200) (m : Int32) (h : rr_H K (rr_need 1) c d T L V (U + 1) E P F A B G xpb xpf xsx xsy xcx xcy ype dk dv sr rs rk rv ct ru pl be mx xo st cp pa pn fx fy tx ty fi cr cv ln kd nm mt co wi sv bx bo ex ey yo) :
    ∃ (r : Int32) (u' : SX) (v' : SY), rr_Z K (rr_ph (U + 1) T A) r u' v' ∧ (∀ post : Int32 → SX → Prop, post r u' → wpX_operate post (nI d, nI c, nI (T + 1), 0, nI (U + 1), -1, nI V, nI L, nI E, xpb, xpf, xsx, xsy, xcx, xcy, dk, dv, sr, rs, rk, rv, ct, ru, pl, be, mx, xo, st, cp, pa, pn, fx, fy, tx, ty, fi, cr, cv) 1 m) ∧ (∀ post : SY → Prop, post v' → wpY_operator post (nI c, nI K, nI V, nI L, nI (T + 1), nI P, nI E, nI (rr_need 1), nI U, 0, -1, ype, sr, ln, kd, nm, mt, co, wi, cp, pa, pn, ru, pl, sv, be, mx, bx, bo, ex, ey, fx, fy, tx, ty, yo) 1 m) := by
  obtain ⟨hd, hs, hp, ho, hc, hK, hf, hl, hm, hb⟩ := h
  obtain ⟨hTV, hV, hLT⟩ := rr_frb hf
  obtain ⟨r, P', F', xpb', xpf', xsx', xsy', xcx', xcy', ype', bx', bo', ex', ey', hps, _, hX, hY⟩ := sp_move hV hs hm hb (xo 0) (xo 1)
  refine ⟨r, (nI d, nI c, nI (T + 1), 0, nI (U + 1), -1, nI V, nI L, nI E, xpb', xpf', xsx', xsy', xcx', xcy', dk, dv, sr, rs, rk, rv, ct, ru, pl, be, mx, xo, st, cp, pa, pn, fx, fy, tx, ty, fi, cr, cv), (nI c, nI K, nI V, nI L, nI (T + 1), nI P', nI E, 0, nI (U + 1), r, -1, ype', sr, ln, kd, nm, mt, co, wi, cp, pa, pn, ru, pl, sv, be, mx, bx', bo', ex', ey', fx, fy, tx, ty, yo), ?_, ?_, ?_⟩
  · by_cases z : r = 0
    · subst z
      exact Or.inl ⟨rfl, _, Nat.le_add_right _ _, ⟨_, _, _, _, _, _, _, _, _, _, _, _, _, _, _, _, _, _, _, _, _, _, _, _, _, _, _, _, _, _, _, _, _, _, _, _, _, _, _, _, _, _, _, _, _, _, _, _, _, _, _, _, _, _, rfl, rfl, rfl, hd, hs, hp, rr_op0, hc, hK, hf, hl, (hps rfl).1, (hps rfl).2⟩⟩
    · exact Or.inr ⟨z, ⟨_, _, _, _, _, _, _, _, _, _, _, _, _, _, _, _, _, _, _, _, _, _, _, _, _, _, _, _, _, _, _, _, _, _, _, _, _, _, _, _, _, _, _, _, _, _, _, _, _, _, _, _, _, _, _, _, _, rfl, rfl, hd, hs, hp⟩⟩
  · intro post H
    refine br_f (by decide) (br_f (by decide) (br_t rfl ?_))
    unfold wX_operate_84
    refine br_t rfl ?_
    unfold wX_operate_107
    exact hX _ H
  · intro post H
    unfold wpY_operator
    refine yp_wt (br_t rfl (pk_eq U 200 (fun z => absurd z (by omega)) (fun _ => nm_r (nI_1 U) (nm_r (ho.2 0 (by decide)).symm (nm_r (ho.2 1 (by decide)).symm (br_t rfl (?_)))))))
    exact hY _ (br_t (by decide) (br_f (by decide) (H)))
theorem op_2 {K c d T L V U E P F : Nat} {A B G : Nat → Nat} (hU : U < 200) (m : Int32) (h : rr_H K (rr_need 2) c d T L V (U + 1) E P F A B G xpb xpf xsx xsy xcx xcy ype dk dv sr rs rk rv ct ru pl be mx xo st cp pa pn fx fy tx ty fi cr cv ln kd nm mt co wi sv bx bo ex ey yo) :
    ∃ (r : Int32) (u' : SX) (v' : SY), rr_Z K (rr_ph (U + 1) T A) r u' v' ∧ (∀ post : Int32 → SX → Prop, post r u' → wpX_operate post (nI d, nI c, nI (T + 1), 0, nI (U + 1), -1, nI V, nI L, nI E, xpb, xpf, xsx, xsy, xcx, xcy, dk, dv, sr, rs, rk, rv, ct, ru, pl, be, mx, xo, st, cp, pa, pn, fx, fy, tx, ty, fi, cr, cv) 2 m) ∧ (∀ post : SY → Prop, post v' → wpY_operator post (nI c, nI K, nI V, nI L, nI (T + 1), nI P, nI E, nI (rr_need 2), nI U, 0, -1, ype, sr, ln, kd, nm, mt, co, wi, cp, pa, pn, ru, pl, sv, be, mx, bx, bo, ex, ey, fx, fy, tx, ty, yo) 2 m) := by
  obtain ⟨hd, hs, hp, ho, hc, hK, hf, hl, hm, hb⟩ := h
  obtain ⟨hTV, hV, hLT⟩ := rr_frb hf
  obtain ⟨r, E', xcx', xcy', ype', fx', fy', tx', ty', fi', ex', ey', hps, hX, hY⟩ := sp_line hV hs hm hb (xo 0) (xo 1)
  refine ⟨r, (nI d, nI c, nI (T + 1), 0, nI (U + 1), -1, nI V, nI L, nI E', xpb, xpf, xsx, xsy, xcx', xcy', dk, dv, sr, rs, rk, rv, ct, ru, pl, be, mx, xo, st, cp, pa, pn, fx', fy', tx', ty', fi', cr, cv), (nI c, nI K, nI V, nI L, nI (T + 1), nI P, nI E', 0, nI (U + 1), r, -1, ype', sr, ln, kd, nm, mt, co, wi, cp, pa, pn, ru, pl, sv, be, mx, bx, bo, ex', ey', fx', fy', tx', ty', yo), ?_, ?_, ?_⟩
  · by_cases z : r = 0
    · subst z
      exact Or.inl ⟨rfl, _, Nat.le_add_right _ _, ⟨_, _, _, _, _, _, _, _, _, _, _, _, _, _, _, _, _, _, _, _, _, _, _, _, _, _, _, _, _, _, _, _, _, _, _, _, _, _, _, _, _, _, _, _, _, _, _, _, _, _, _, _, _, _, rfl, rfl, rfl, hd, hs, hp, rr_op0, hc, hK, hf, hl, (hps rfl).1, (hps rfl).2⟩⟩
    · exact Or.inr ⟨z, ⟨_, _, _, _, _, _, _, _, _, _, _, _, _, _, _, _, _, _, _, _, _, _, _, _, _, _, _, _, _, _, _, _, _, _, _, _, _, _, _, _, _, _, _, _, _, _, _, _, _, _, _, _, _, _, _, _, _, rfl, rfl, hd, hs, hp⟩⟩
  · intro post H
    refine br_f (by decide) (br_f (by decide) (br_f (by decide) (br_t rfl ?_)))
    unfold wX_operate_84
    refine br_f (by decide) ?_
    unfold wX_operate_107
    exact hX _ H
  · intro post H
    unfold wpY_operator
    refine yp_wt (br_t rfl (pk_eq U 200 (fun z => absurd z (by omega)) (fun _ => nm_r (nI_1 U) (nm_r (ho.2 0 (by decide)).symm (nm_r (ho.2 1 (by decide)).symm (br_f (by decide) (br_t rfl (?_))))))))
    exact hY _ (br_t (by decide) (br_f (by decide) (H)))
theorem op_3 {K c d T L V U E P F : Nat} {A B G : Nat → Nat} (hU : U < 200) (m : Int32) (h : rr_H K (rr_need 3) c d T L V (U + 1) E P F A B G xpb xpf xsx xsy xcx xcy ype dk dv sr rs rk rv ct ru pl be mx xo st cp pa pn fx fy tx ty fi cr cv ln kd nm mt co wi sv bx bo ex ey yo) :
    ∃ (r : Int32) (u' : SX) (v' : SY), rr_Z K (rr_ph (U + 1) T A) r u' v' ∧ (∀ post : Int32 → SX → Prop, post r u' → wpX_operate post (nI d, nI c, nI (T + 1), 0, nI (U + 1), -1, nI V, nI L, nI E, xpb, xpf, xsx, xsy, xcx, xcy, dk, dv, sr, rs, rk, rv, ct, ru, pl, be, mx, xo, st, cp, pa, pn, fx, fy, tx, ty, fi, cr, cv) 3 m) ∧ (∀ post : SY → Prop, post v' → wpY_operator post (nI c, nI K, nI V, nI L, nI (T + 1), nI P, nI E, nI (rr_need 3), nI U, 0, -1, ype, sr, ln, kd, nm, mt, co, wi, cp, pa, pn, ru, pl, sv, be, mx, bx, bo, ex, ey, fx, fy, tx, ty, yo) 3 m) := by
  obtain ⟨hd, hs, hp, ho, hc, hK, hf, hl, hm, hb⟩ := h
  obtain ⟨hTV, hV, hLT⟩ := rr_frb hf
  obtain ⟨r, E', xcx', xcy', ype', fx', fy', tx', ty', fi', ex', ey', hps, hX, hY⟩ := sp_close hm hb
  refine ⟨r, (nI d, nI c, nI (T + 1), 0, nI (U + 1), -1, nI V, nI L, nI E', xpb, xpf, xsx, xsy, xcx', xcy', dk, dv, sr, rs, rk, rv, ct, ru, pl, be, mx, xo, st, cp, pa, pn, fx', fy', tx', ty', fi', cr, cv), (nI c, nI K, nI V, nI L, nI (T + 1), nI P, nI E', 0, nI (U + 1), r, -1, ype', sr, ln, kd, nm, mt, co, wi, cp, pa, pn, ru, pl, sv, be, mx, bx, bo, ex', ey', fx', fy', tx', ty', yo), ?_, ?_, ?_⟩
  · by_cases z : r = 0
    · subst z
      exact Or.inl ⟨rfl, _, Nat.le_add_right _ _, ⟨_, _, _, _, _, _, _, _, _, _, _, _, _, _, _, _, _, _, _, _, _, _, _, _, _, _, _, _, _, _, _, _, _, _, _, _, _, _, _, _, _, _, _, _, _, _, _, _, _, _, _, _, _, _, rfl, rfl, rfl, hd, hs, hp, rr_op0, hc, hK, hf, hl, (hps rfl).1, (hps rfl).2⟩⟩
    · exact Or.inr ⟨z, ⟨_, _, _, _, _, _, _, _, _, _, _, _, _, _, _, _, _, _, _, _, _, _, _, _, _, _, _, _, _, _, _, _, _, _, _, _, _, _, _, _, _, _, _, _, _, _, _, _, _, _, _, _, _, _, _, _, _, rfl, rfl, hd, hs, hp⟩⟩
  · intro post H
    refine br_f (by decide) (br_f (by decide) (br_f (by decide) (br_f (by decide) (br_t rfl ?_))))
    exact hX _ H
  · intro post H
    unfold wpY_operator
    refine yp_wt (br_t rfl (pk_eq U 200 (fun z => absurd z (by omega)) (fun _ => nm_r (nI_1 U) (nm_e (nm_e (br_f (by decide) (br_f (by decide) (br_t rfl (?_)))))))))
    exact hY _ (br_t (by decide) (br_f (by decide) (H)))
theorem op_4 {K c d T L V U E P F : Nat} {A B G : Nat → Nat} (hU : U < 200) (m : Int32) (h : rr_H K (rr_need 4) c d T L V (U + 1) E P F A B G xpb xpf xsx xsy xcx xcy ype dk dv sr rs rk rv ct ru pl be mx xo st cp pa pn fx fy tx ty fi cr cv ln kd nm mt co wi sv bx bo ex ey yo) :
    ∃ (r : Int32) (u' : SX) (v' : SY), rr_Z K (rr_ph (U + 1) T A) r u' v' ∧ (∀ post : Int32 → SX → Prop, post r u' → wpX_operate post (nI d, nI c, nI (T + 1), 0, nI (U + 1), -1, nI V, nI L, nI E, xpb, xpf, xsx, xsy, xcx, xcy, dk, dv, sr, rs, rk, rv, ct, ru, pl, be, mx, xo, st, cp, pa, pn, fx, fy, tx, ty, fi, cr, cv) 4 m) ∧ (∀ post : SY → Prop, post v' → wpY_operator post (nI c, nI K, nI V, nI L, nI (T + 1), nI P, nI E, nI (rr_need 4), nI U, 0, -1, ype, sr, ln, kd, nm, mt, co, wi, cp, pa, pn, ru, pl, sv, be, mx, bx, bo, ex, ey, fx, fy, tx, ty, yo) 4 m) := by
  obtain ⟨hd, hs, hp, ho, hc, hK, hf, hl, hm, hb⟩ := h
  obtain ⟨hTV, hV, hLT⟩ := rr_frb hf
  obtain ⟨r, E', P', F', xpb', xpf', xsx', xsy', xcx', xcy', ype', fx', fy', tx', ty', fi', bx', bo', ex', ey', hps, hX, hY⟩ := sp_rect (xo := xo) hV hs hm hb
  refine ⟨r, (nI d, nI c, nI (T + 1), 0, nI (U + 1), -1, nI V, nI L, nI E', xpb', xpf', xsx', xsy', xcx', xcy', dk, dv, sr, rs, rk, rv, ct, ru, pl, be, mx, xo, st, cp, pa, pn, fx', fy', tx', ty', fi', cr, cv), (nI c, nI K, nI V, nI L, nI (T + 1), nI P', nI E', 0, nI (U + 1), r, -1, ype', sr, ln, kd, nm, mt, co, wi, cp, pa, pn, ru, pl, sv, be, mx, bx', bo', ex', ey', fx', fy', tx', ty', yo), ?_, ?_, ?_⟩
  · by_cases z : r = 0
    · subst z
      exact Or.inl ⟨rfl, _, Nat.le_add_right _ _, ⟨_, _, _, _, _, _, _, _, _, _, _, _, _, _, _, _, _, _, _, _, _, _, _, _, _, _, _, _, _, _, _, _, _, _, _, _, _, _, _, _, _, _, _, _, _, _, _, _, _, _, _, _, _, _, rfl, rfl, rfl, hd, hs, hp, rr_op0, hc, hK, hf, hl, (hps rfl).1, (hps rfl).2⟩⟩
    · exact Or.inr ⟨z, ⟨_, _, _, _, _, _, _, _, _, _, _, _, _, _, _, _, _, _, _, _, _, _, _, _, _, _, _, _, _, _, _, _, _, _, _, _, _, _, _, _, _, _, _, _, _, _, _, _, _, _, _, _, _, _, _, _, _, rfl, rfl, hd, hs, hp⟩⟩
  · intro post H
    refine br_f (by decide) (br_f (by decide) (br_f (by decide) (br_f (by decide) (br_f (by decide) (br_t rfl ?_)))))
    exact hX _ H
  · intro post H
    unfold wpY_operator
    refine yp_wt (br_t rfl (pk_eq U 200 (fun z => absurd z (by omega)) (fun _ => nm_r (nI_1 U) (nm_r (ho.2 0 (by decide)).symm (nm_r (ho.2 1 (by decide)).symm (br_f (by decide) (br_f (by decide) (br_f (by decide) (br_t rfl (?_))))))))))
    rw [← ho.2 2 (by decide), ← ho.2 3 (by decide)]
    exact hY _ (br_t (by decide) (br_f (by decide) (H)))
theorem ma_pathP {E P F : Nat} {xpb xsx xsy xcx xcy : Int32} {fx fy tx ty fi bx bo ex ey : Nat → Int32} (h : ma_path E P F xpb xsx xsy xcx xcy fx fy tx ty fi bx bo ex ey) : P ≤ 25 := by
  have hE := h.1
  rcases h.2.2.2.2.2 with ⟨_, hP, _⟩ | ⟨_, p, hp, hpE, _⟩
  · omega
  · omega
theorem ma_pathS {E P F : Nat} {xpb xsx xsy xcx xcy : Int32} {fx fy tx ty fi bx bo ex ey : Nat → Int32} (h : ma_path E P F xpb xsx xsy xcx xcy fx fy tx ty fi bx bo ex ey) : ∀ t, t < 192 → -100 ≤ ma_sum (ma_T E fx fy tx ty fi t) E ∧ ma_sum (ma_T E fx fy tx ty fi t) E ≤ 100 := by
  intro t _
  have hE := h.1
  have hP := ma_pathP h
  rw [ma_ST h.2.2.2.2.1 t]
  have hs := ma_SM E P fx fy tx ty bx bo ex ey t
  omega
theorem rr_gfc {pa cv cz cp : Nat → Int32} {x x' : Int32} {bV bL t : Nat} (h : cv t = cz t) (hx : x = x') : rr_gf pa cv cp x bV bL t = rr_gf pa cz cp x' bV bL t := by
  unfold rr_gf
  rw [h, hx]
theorem rr_gkc {cp cv cz : Nat → Int32} {bV t : Nat} (h : cv t = cz t) : rr_gk cp cv bV t = rr_gk cp cz bV t := by
  unfold rr_gk
  rw [h]
theorem rr_paf {pa cz cp : Nat → Int32} {x : Int32} {bV bL : Nat} (h : rr_pa pa) (hx : rr_c1 x) : rr_pa (ma_w pa (rr_gf pa cz cp x bV bL) bL 192) := by
  refine ma_wall (P := fun x => x = -1 ∨ rr_c1 x) h (fun t _ => ?_)
  unfold rr_gf
  split
  · exact h _
  · split
    · exact h _
    · exact Or.inr hx
theorem op_5 {K c d T L V U E P F : Nat} {A B G : Nat → Nat} (hU : U < 200) (m : Int32) (h : rr_H K (rr_need 5) c d T L V (U + 1) E P F A B G xpb xpf xsx xsy xcx xcy ype dk dv sr rs rk rv ct ru pl be mx xo st cp pa pn fx fy tx ty fi cr cv ln kd nm mt co wi sv bx bo ex ey yo) :
    ∃ (r : Int32) (u' : SX) (v' : SY), rr_Z K (rr_ph (U + 1) T A) r u' v' ∧ (∀ post : Int32 → SX → Prop, post r u' → wpX_operate post (nI d, nI c, nI (T + 1), 0, nI (U + 1), -1, nI V, nI L, nI E, xpb, xpf, xsx, xsy, xcx, xcy, dk, dv, sr, rs, rk, rv, ct, ru, pl, be, mx, xo, st, cp, pa, pn, fx, fy, tx, ty, fi, cr, cv) 5 m) ∧ (∀ post : SY → Prop, post v' → wpY_operator post (nI c, nI K, nI V, nI L, nI (T + 1), nI P, nI E, nI (rr_need 5), nI U, 0, -1, ype, sr, ln, kd, nm, mt, co, wi, cp, pa, pn, ru, pl, sv, be, mx, bx, bo, ex, ey, fx, fy, tx, ty, yo) 5 m) := by
  obtain ⟨hd, hs, hp, ho, hc, hK, hf, hl, hm, hb⟩ := h
  obtain ⟨hTV, hV, hLT⟩ := rr_frb hf
  have hst6 : st (8 * V + 6) = co V := (hs V (by omega)).2.1
  have hst7 : st (8 * V + 7) = wi V := (hs V (by omega)).2.2.1
  have hcv : ∀ t, t < 192 → (ma_w cv (fun t => ma_ins 0 (ma_sum (ma_T E fx fy tx ty fi t) E)) 0 192) t = (rr_hit 5 E P fx fy tx ty bx bo ex ey (wi V)) t := by
    intro t ht
    rw [ma_wg0 ht, ma_ST hm.2.2.2.2.1 t]
    rfl
  have ep : ma_w pa (rr_gf pa (ma_w cv (fun t => ma_ins 0 (ma_sum (ma_T E fx fy tx ty fi t) E)) 0 192) cp (st (8 * V + 6)) (192 * V) (192 * L)) (192 * L) 192 = ma_w pa (rr_gf pa (rr_hit 5 E P fx fy tx ty bx bo ex ey (wi V)) cp (co V) (192 * V) (192 * L)) (192 * L) 192 := ma_wc (fun t ht => rr_gfc (hcv t ht) hst6)
  have en : ma_w pn (rr_gf pn (ma_w cv (fun t => ma_ins 0 (ma_sum (ma_T E fx fy tx ty fi t) E)) 0 192) cp m (192 * V) (192 * L)) (192 * L) 192 = ma_w pn (rr_gf pn (rr_hit 5 E P fx fy tx ty bx bo ex ey (wi V)) cp m (192 * V) (192 * L)) (192 * L) 192 := ma_wc (fun t ht => rr_gfc (hcv t ht) rfl)
  refine ⟨0, (nI d, nI c, nI (T + 1), 0, nI (U + 1), -1, nI V, nI L, 0, 0, xpf, xsx, xsy, xcx, xcy, dk, dv, sr, rs, rk, rv, ct, ru, pl, be, mx, xo, st, cp, ma_w pa (rr_gf pa (rr_hit 5 E P fx fy tx ty bx bo ex ey (wi V)) cp (co V) (192 * V) (192 * L)) (192 * L) 192, ma_w pn (rr_gf pn (rr_hit 5 E P fx fy tx ty bx bo ex ey (wi V)) cp m (192 * V) (192 * L)) (192 * L) 192, fx, fy, tx, ty, fi, ma_w cr (rr_ck E fx fy tx ty fi E) 0 192, ma_w cv (fun t => ma_ins 0 (ma_sum (ma_T E fx fy tx ty fi t) E)) 0 192), (nI c, nI K, nI V, nI L, nI (T + 1), 0, 0, 0, nI (U + 1), 0, -1, ype, sr, ln, kd, nm, mt, co, wi, cp, ma_w pa (rr_gf pa (rr_hit 5 E P fx fy tx ty bx bo ex ey (wi V)) cp (co V) (192 * V) (192 * L)) (192 * L) 192, ma_w pn (rr_gf pn (rr_hit 5 E P fx fy tx ty bx bo ex ey (wi V)) cp m (192 * V) (192 * L)) (192 * L) 192, ru, pl, sv, be, mx, bx, bo, ex, ey, fx, fy, tx, ty, yo), Or.inl ⟨rfl, _, Nat.le_add_right _ _, ⟨_, _, _, _, _, _, _, _, _, _, _, _, _, _, _, _, _, _, _, _, _, _, _, _, _, _, _, _, _, _, _, _, _, _, _, _, _, _, _, _, _, _, _, _, _, _, _, _, _, _, _, _, _, _, rfl, rfl, rfl, hd, hs, rr_paf hp (hs V (by omega)).2.2.2, rr_op0, hc, hK, hf, hl, ma_p0 F xsx xsy xcx xcy fx fy tx ty fi bx bo ex ey, fun z => absurd z (by decide)⟩⟩, ?_, ?_⟩
  · intro post H
    refine br_f (by decide) (br_f (by decide) (br_f (by decide) (br_f (by decide) (br_f (by decide) (br_f (by decide) (br_t rfl ?_))))))
    unfold wX_operate_129
    refine br_f (by decide) ?_
    unfold wX_operate_141
    refine xp_ci hm.1 hm.2.1 hm.2.2.1 (ma_pathS hm) (xp_pc hV (by omega) ?_)
    rw [ep, en]
    exact H
  · intro post H
    unfold wpY_operator
    refine yp_wt (br_t rfl (pk_eq U 200 (fun z => absurd z (by omega)) (fun _ => nm_r (nI_1 U) (nm_e (nm_e (br_f (by decide) (br_f (by decide) (br_f (by decide) (br_f (by decide) (br_t rfl (?_)))))))))))
    unfold wY_operator_149
    exact yp_fi hV (by omega) hm.1 (ma_pathP hm) hm.2.1 hm.2.2.2.1 (br_f (by decide) (br_t (by decide) (H)))
theorem op_6 {K c d T L V U E P F : Nat} {A B G : Nat → Nat} (hU : U < 200) (m : Int32) (h : rr_H K (rr_need 6) c d T L V (U + 1) E P F A B G xpb xpf xsx xsy xcx xcy ype dk dv sr rs rk rv ct ru pl be mx xo st cp pa pn fx fy tx ty fi cr cv ln kd nm mt co wi sv bx bo ex ey yo) :
    ∃ (r : Int32) (u' : SX) (v' : SY), rr_Z K (rr_ph (U + 1) T A) r u' v' ∧ (∀ post : Int32 → SX → Prop, post r u' → wpX_operate post (nI d, nI c, nI (T + 1), 0, nI (U + 1), -1, nI V, nI L, nI E, xpb, xpf, xsx, xsy, xcx, xcy, dk, dv, sr, rs, rk, rv, ct, ru, pl, be, mx, xo, st, cp, pa, pn, fx, fy, tx, ty, fi, cr, cv) 6 m) ∧ (∀ post : SY → Prop, post v' → wpY_operator post (nI c, nI K, nI V, nI L, nI (T + 1), nI P, nI E, nI (rr_need 6), nI U, 0, -1, ype, sr, ln, kd, nm, mt, co, wi, cp, pa, pn, ru, pl, sv, be, mx, bx, bo, ex, ey, fx, fy, tx, ty, yo) 6 m) := by
  obtain ⟨hd, hs, hp, ho, hc, hK, hf, hl, hm, hb⟩ := h
  obtain ⟨hTV, hV, hLT⟩ := rr_frb hf
  have hst6 : st (8 * V + 6) = co V := (hs V (by omega)).2.1
  have hst7 : st (8 * V + 7) = wi V := (hs V (by omega)).2.2.1
  have hcv : ∀ t, t < 192 → (ma_w cv (fun t => ma_ins 1 (ma_sum (ma_T E fx fy tx ty fi t) E)) 0 192) t = (rr_hit 6 E P fx fy tx ty bx bo ex ey (wi V)) t := by
    intro t ht
    rw [ma_wg0 ht, ma_ST hm.2.2.2.2.1 t]
    rfl
  have ep : ma_w pa (rr_gf pa (ma_w cv (fun t => ma_ins 1 (ma_sum (ma_T E fx fy tx ty fi t) E)) 0 192) cp (st (8 * V + 6)) (192 * V) (192 * L)) (192 * L) 192 = ma_w pa (rr_gf pa (rr_hit 6 E P fx fy tx ty bx bo ex ey (wi V)) cp (co V) (192 * V) (192 * L)) (192 * L) 192 := ma_wc (fun t ht => rr_gfc (hcv t ht) hst6)
  have en : ma_w pn (rr_gf pn (ma_w cv (fun t => ma_ins 1 (ma_sum (ma_T E fx fy tx ty fi t) E)) 0 192) cp m (192 * V) (192 * L)) (192 * L) 192 = ma_w pn (rr_gf pn (rr_hit 6 E P fx fy tx ty bx bo ex ey (wi V)) cp m (192 * V) (192 * L)) (192 * L) 192 := ma_wc (fun t ht => rr_gfc (hcv t ht) rfl)
  refine ⟨0, (nI d, nI c, nI (T + 1), 0, nI (U + 1), -1, nI V, nI L, 0, 0, xpf, xsx, xsy, xcx, xcy, dk, dv, sr, rs, rk, rv, ct, ru, pl, be, mx, xo, st, cp, ma_w pa (rr_gf pa (rr_hit 6 E P fx fy tx ty bx bo ex ey (wi V)) cp (co V) (192 * V) (192 * L)) (192 * L) 192, ma_w pn (rr_gf pn (rr_hit 6 E P fx fy tx ty bx bo ex ey (wi V)) cp m (192 * V) (192 * L)) (192 * L) 192, fx, fy, tx, ty, fi, ma_w cr (rr_ck E fx fy tx ty fi E) 0 192, ma_w cv (fun t => ma_ins 1 (ma_sum (ma_T E fx fy tx ty fi t) E)) 0 192), (nI c, nI K, nI V, nI L, nI (T + 1), 0, 0, 0, nI (U + 1), 0, -1, ype, sr, ln, kd, nm, mt, co, wi, cp, ma_w pa (rr_gf pa (rr_hit 6 E P fx fy tx ty bx bo ex ey (wi V)) cp (co V) (192 * V) (192 * L)) (192 * L) 192, ma_w pn (rr_gf pn (rr_hit 6 E P fx fy tx ty bx bo ex ey (wi V)) cp m (192 * V) (192 * L)) (192 * L) 192, ru, pl, sv, be, mx, bx, bo, ex, ey, fx, fy, tx, ty, yo), Or.inl ⟨rfl, _, Nat.le_add_right _ _, ⟨_, _, _, _, _, _, _, _, _, _, _, _, _, _, _, _, _, _, _, _, _, _, _, _, _, _, _, _, _, _, _, _, _, _, _, _, _, _, _, _, _, _, _, _, _, _, _, _, _, _, _, _, _, _, rfl, rfl, rfl, hd, hs, rr_paf hp (hs V (by omega)).2.2.2, rr_op0, hc, hK, hf, hl, ma_p0 F xsx xsy xcx xcy fx fy tx ty fi bx bo ex ey, fun z => absurd z (by decide)⟩⟩, ?_, ?_⟩
  · intro post H
    refine br_f (by decide) (br_f (by decide) (br_f (by decide) (br_f (by decide) (br_f (by decide) (br_f (by decide) (br_f (by decide) (br_t rfl ?_)))))))
    unfold wX_operate_129
    refine br_t rfl ?_
    unfold wX_operate_141
    refine xp_ci hm.1 hm.2.1 hm.2.2.1 (ma_pathS hm) (xp_pc hV (by omega) ?_)
    rw [ep, en]
    exact H
  · intro post H
    unfold wpY_operator
    refine yp_wt (br_t rfl (pk_eq U 200 (fun z => absurd z (by omega)) (fun _ => nm_r (nI_1 U) (nm_e (nm_e (br_f (by decide) (br_f (by decide) (br_f (by decide) (br_f (by decide) (br_f (by decide) (br_t rfl (?_))))))))))))
    unfold wY_operator_149
    exact yp_fi hV (by omega) hm.1 (ma_pathP hm) hm.2.1 hm.2.2.2.1 (br_f (by decide) (br_t (by decide) (H)))
theorem op_15 {K c d T L V U E P F : Nat} {A B G : Nat → Nat} (hU : U < 200) (m : Int32) (h : rr_H K (rr_need 15) c d T L V (U + 1) E P F A B G xpb xpf xsx xsy xcx xcy ype dk dv sr rs rk rv ct ru pl be mx xo st cp pa pn fx fy tx ty fi cr cv ln kd nm mt co wi sv bx bo ex ey yo) :
    ∃ (r : Int32) (u' : SX) (v' : SY), rr_Z K (rr_ph (U + 1) T A) r u' v' ∧ (∀ post : Int32 → SX → Prop, post r u' → wpX_operate post (nI d, nI c, nI (T + 1), 0, nI (U + 1), -1, nI V, nI L, nI E, xpb, xpf, xsx, xsy, xcx, xcy, dk, dv, sr, rs, rk, rv, ct, ru, pl, be, mx, xo, st, cp, pa, pn, fx, fy, tx, ty, fi, cr, cv) 15 m) ∧ (∀ post : SY → Prop, post v' → wpY_operator post (nI c, nI K, nI V, nI L, nI (T + 1), nI P, nI E, nI (rr_need 15), nI U, 0, -1, ype, sr, ln, kd, nm, mt, co, wi, cp, pa, pn, ru, pl, sv, be, mx, bx, bo, ex, ey, fx, fy, tx, ty, yo) 15 m) := by
  obtain ⟨hd, hs, hp, ho, hc, hK, hf, hl, hm, hb⟩ := h
  obtain ⟨hTV, hV, hLT⟩ := rr_frb hf
  have hst6 : st (8 * V + 6) = co V := (hs V (by omega)).2.1
  have hst7 : st (8 * V + 7) = wi V := (hs V (by omega)).2.2.1
  have hcv : ∀ t, t < 192 → (ma_w cv (rr_cn fx fy tx ty (st (8 * V + 7)) E) 0 192) t = (rr_hit 15 E P fx fy tx ty bx bo ex ey (wi V)) t := by
    intro t ht
    rw [ma_wg0 ht, hst7]
    rfl
  have ep : ma_w pa (rr_gf pa (ma_w cv (rr_cn fx fy tx ty (st (8 * V + 7)) E) 0 192) cp (st (8 * V + 6)) (192 * V) (192 * L)) (192 * L) 192 = ma_w pa (rr_gf pa (rr_hit 15 E P fx fy tx ty bx bo ex ey (wi V)) cp (co V) (192 * V) (192 * L)) (192 * L) 192 := ma_wc (fun t ht => rr_gfc (hcv t ht) hst6)
  have en : ma_w pn (rr_gf pn (ma_w cv (rr_cn fx fy tx ty (st (8 * V + 7)) E) 0 192) cp m (192 * V) (192 * L)) (192 * L) 192 = ma_w pn (rr_gf pn (rr_hit 15 E P fx fy tx ty bx bo ex ey (wi V)) cp m (192 * V) (192 * L)) (192 * L) 192 := ma_wc (fun t ht => rr_gfc (hcv t ht) rfl)
  refine ⟨0, (nI d, nI c, nI (T + 1), 0, nI (U + 1), -1, nI V, nI L, 0, 0, xpf, xsx, xsy, xcx, xcy, dk, dv, sr, rs, rk, rv, ct, ru, pl, be, mx, xo, st, cp, ma_w pa (rr_gf pa (rr_hit 15 E P fx fy tx ty bx bo ex ey (wi V)) cp (co V) (192 * V) (192 * L)) (192 * L) 192, ma_w pn (rr_gf pn (rr_hit 15 E P fx fy tx ty bx bo ex ey (wi V)) cp m (192 * V) (192 * L)) (192 * L) 192, fx, fy, tx, ty, fi, cr, ma_w cv (rr_cn fx fy tx ty (st (8 * V + 7)) E) 0 192), (nI c, nI K, nI V, nI L, nI (T + 1), 0, 0, 0, nI (U + 1), 0, -1, ype, sr, ln, kd, nm, mt, co, wi, cp, ma_w pa (rr_gf pa (rr_hit 15 E P fx fy tx ty bx bo ex ey (wi V)) cp (co V) (192 * V) (192 * L)) (192 * L) 192, ma_w pn (rr_gf pn (rr_hit 15 E P fx fy tx ty bx bo ex ey (wi V)) cp m (192 * V) (192 * L)) (192 * L) 192, ru, pl, sv, be, mx, bx, bo, ex, ey, fx, fy, tx, ty, yo), Or.inl ⟨rfl, _, Nat.le_add_right _ _, ⟨_, _, _, _, _, _, _, _, _, _, _, _, _, _, _, _, _, _, _, _, _, _, _, _, _, _, _, _, _, _, _, _, _, _, _, _, _, _, _, _, _, _, _, _, _, _, _, _, _, _, _, _, _, _, rfl, rfl, rfl, hd, hs, rr_paf hp (hs V (by omega)).2.2.2, rr_op0, hc, hK, hf, hl, ma_p0 F xsx xsy xcx xcy fx fy tx ty fi bx bo ex ey, fun z => absurd z (by decide)⟩⟩, ?_, ?_⟩
  · intro post H
    refine br_f (by decide) (br_f (by decide) (br_f (by decide) (br_f (by decide) (br_f (by decide) (br_f (by decide) (br_f (by decide) (br_f (by decide) (br_f (by decide) (br_f (by decide) (br_f (by decide) (br_f (by decide) (br_f (by decide) (br_f (by decide) (br_f (by decide) (br_f (by decide) (br_t rfl ?_))))))))))))))))
    refine xp_li hm.1 hV hm.2.1 (xp_pc hV (by omega) ?_)
    rw [ep, en]
    exact H
  · intro post H
    unfold wpY_operator
    refine yp_wt (br_t rfl (pk_eq U 200 (fun z => absurd z (by omega)) (fun _ => nm_r (nI_1 U) (nm_e (nm_e (br_f (by decide) (br_f (by decide) (br_f (by decide) (br_f (by decide) (br_f (by decide) (br_f (by decide) (br_t rfl (?_)))))))))))))
    unfold wY_operator_149
    exact yp_fi hV (by omega) hm.1 (ma_pathP hm) hm.2.1 hm.2.2.2.1 (br_f (by decide) (br_f (by decide) (br_t rfl (H))))
theorem op_7 {K c d T L V U E P F : Nat} {A B G : Nat → Nat} (hU : U < 200) (m : Int32) (h : rr_H K (rr_need 7) c d T L V (U + 1) E P F A B G xpb xpf xsx xsy xcx xcy ype dk dv sr rs rk rv ct ru pl be mx xo st cp pa pn fx fy tx ty fi cr cv ln kd nm mt co wi sv bx bo ex ey yo) :
    ∃ (r : Int32) (u' : SX) (v' : SY), rr_Z K (rr_ph (U + 1) T A) r u' v' ∧ (∀ post : Int32 → SX → Prop, post r u' → wpX_operate post (nI d, nI c, nI (T + 1), 0, nI (U + 1), -1, nI V, nI L, nI E, xpb, xpf, xsx, xsy, xcx, xcy, dk, dv, sr, rs, rk, rv, ct, ru, pl, be, mx, xo, st, cp, pa, pn, fx, fy, tx, ty, fi, cr, cv) 7 m) ∧ (∀ post : SY → Prop, post v' → wpY_operator post (nI c, nI K, nI V, nI L, nI (T + 1), nI P, nI E, nI (rr_need 7), nI U, 0, -1, ype, sr, ln, kd, nm, mt, co, wi, cp, pa, pn, ru, pl, sv, be, mx, bx, bo, ex, ey, fx, fy, tx, ty, yo) 7 m) := by
  obtain ⟨hd, hs, hp, ho, hc, hK, hf, hl, hm, hb⟩ := h
  obtain ⟨hTV, hV, hLT⟩ := rr_frb hf
  have ep : ma_w cp (rr_gk cp (ma_w cv (fun t => ma_ins 0 (ma_sum (ma_T E fx fy tx ty fi t) E)) 0 192) (192 * V)) (192 * V) 192 = ma_w cp (rr_gk cp (fun t => ma_ins (if (7 : Int32) = 8 then 1 else 0) (ma_S E P fx fy tx ty bx bo ex ey t)) (192 * V)) (192 * V) 192 := ma_wc (fun t ht => rr_gkc (by
    rw [ma_wg0 ht, ma_ST hm.2.2.2.2.1 t]
    rfl))
  refine ⟨0, (nI d, nI c, nI (T + 1), 0, nI (U + 1), -1, nI V, nI L, 0, 0, xpf, xsx, xsy, xcx, xcy, dk, dv, sr, rs, rk, rv, ct, ru, pl, be, mx, xo, st, ma_w cp (rr_gk cp (fun t => ma_ins (if (7 : Int32) = 8 then 1 else 0) (ma_S E P fx fy tx ty bx bo ex ey t)) (192 * V)) (192 * V) 192, pa, pn, fx, fy, tx, ty, fi, ma_w cr (rr_ck E fx fy tx ty fi E) 0 192, ma_w cv (fun t => ma_ins 0 (ma_sum (ma_T E fx fy tx ty fi t) E)) 0 192), (nI c, nI K, nI V, nI L, nI (T + 1), 0, 0, 0, nI (U + 1), 0, -1, ype, sr, ln, kd, nm, mt, co, wi, ma_w cp (rr_gk cp (fun t => ma_ins (if (7 : Int32) = 8 then 1 else 0) (ma_S E P fx fy tx ty bx bo ex ey t)) (192 * V)) (192 * V) 192, pa, pn, ru, pl, sv, be, mx, bx, bo, ex, ey, fx, fy, tx, ty, yo), Or.inl ⟨rfl, _, Nat.le_add_right _ _, ⟨_, _, _, _, _, _, _, _, _, _, _, _, _, _, _, _, _, _, _, _, _, _, _, _, _, _, _, _, _, _, _, _, _, _, _, _, _, _, _, _, _, _, _, _, _, _, _, _, _, _, _, _, _, _, rfl, rfl, rfl, hd, hs, hp, rr_op0, hc, hK, hf, hl, ma_p0 F xsx xsy xcx xcy fx fy tx ty fi bx bo ex ey, fun z => absurd z (by decide)⟩⟩, ?_, ?_⟩
  · intro post H
    refine br_f (by decide) (br_f (by decide) (br_f (by decide) (br_f (by decide) (br_f (by decide) (br_f (by decide) (br_f (by decide) (br_f (by decide) (br_t rfl ?_))))))))
    unfold wX_operate_170
    refine br_f (by decide) ?_
    unfold wX_operate_182
    refine xp_ci hm.1 hm.2.1 hm.2.2.1 (ma_pathS hm) (xp_cc hV ?_)
    rw [ep]
    exact H
  · intro post H
    unfold wpY_operator
    refine yp_wt (br_t rfl (pk_eq U 200 (fun z => absurd z (by omega)) (fun _ => nm_r (nI_1 U) (nm_e (nm_e (br_f (by decide) (br_f (by decide) (br_f (by decide) (br_f (by decide) (br_f (by decide) (br_f (by decide) (br_f (by decide) (br_t rfl (?_))))))))))))))
    unfold wY_operator_170
    exact yp_cu hV hm.1 (ma_pathP hm) hm.2.1 hm.2.2.2.1 (br_f (by decide) (br_t (by decide) (H)))
theorem op_8 {K c d T L V U E P F : Nat} {A B G : Nat → Nat} (hU : U < 200) (m : Int32) (h : rr_H K (rr_need 8) c d T L V (U + 1) E P F A B G xpb xpf xsx xsy xcx xcy ype dk dv sr rs rk rv ct ru pl be mx xo st cp pa pn fx fy tx ty fi cr cv ln kd nm mt co wi sv bx bo ex ey yo) :
    ∃ (r : Int32) (u' : SX) (v' : SY), rr_Z K (rr_ph (U + 1) T A) r u' v' ∧ (∀ post : Int32 → SX → Prop, post r u' → wpX_operate post (nI d, nI c, nI (T + 1), 0, nI (U + 1), -1, nI V, nI L, nI E, xpb, xpf, xsx, xsy, xcx, xcy, dk, dv, sr, rs, rk, rv, ct, ru, pl, be, mx, xo, st, cp, pa, pn, fx, fy, tx, ty, fi, cr, cv) 8 m) ∧ (∀ post : SY → Prop, post v' → wpY_operator post (nI c, nI K, nI V, nI L, nI (T + 1), nI P, nI E, nI (rr_need 8), nI U, 0, -1, ype, sr, ln, kd, nm, mt, co, wi, cp, pa, pn, ru, pl, sv, be, mx, bx, bo, ex, ey, fx, fy, tx, ty, yo) 8 m) := by
  obtain ⟨hd, hs, hp, ho, hc, hK, hf, hl, hm, hb⟩ := h
  obtain ⟨hTV, hV, hLT⟩ := rr_frb hf
  have ep : ma_w cp (rr_gk cp (ma_w cv (fun t => ma_ins 1 (ma_sum (ma_T E fx fy tx ty fi t) E)) 0 192) (192 * V)) (192 * V) 192 = ma_w cp (rr_gk cp (fun t => ma_ins (if (8 : Int32) = 8 then 1 else 0) (ma_S E P fx fy tx ty bx bo ex ey t)) (192 * V)) (192 * V) 192 := ma_wc (fun t ht => rr_gkc (by
    rw [ma_wg0 ht, ma_ST hm.2.2.2.2.1 t]
    rfl))
  refine ⟨0, (nI d, nI c, nI (T + 1), 0, nI (U + 1), -1, nI V, nI L, 0, 0, xpf, xsx, xsy, xcx, xcy, dk, dv, sr, rs, rk, rv, ct, ru, pl, be, mx, xo, st, ma_w cp (rr_gk cp (fun t => ma_ins (if (8 : Int32) = 8 then 1 else 0) (ma_S E P fx fy tx ty bx bo ex ey t)) (192 * V)) (192 * V) 192, pa, pn, fx, fy, tx, ty, fi, ma_w cr (rr_ck E fx fy tx ty fi E) 0 192, ma_w cv (fun t => ma_ins 1 (ma_sum (ma_T E fx fy tx ty fi t) E)) 0 192), (nI c, nI K, nI V, nI L, nI (T + 1), 0, 0, 0, nI (U + 1), 0, -1, ype, sr, ln, kd, nm, mt, co, wi, ma_w cp (rr_gk cp (fun t => ma_ins (if (8 : Int32) = 8 then 1 else 0) (ma_S E P fx fy tx ty bx bo ex ey t)) (192 * V)) (192 * V) 192, pa, pn, ru, pl, sv, be, mx, bx, bo, ex, ey, fx, fy, tx, ty, yo), Or.inl ⟨rfl, _, Nat.le_add_right _ _, ⟨_, _, _, _, _, _, _, _, _, _, _, _, _, _, _, _, _, _, _, _, _, _, _, _, _, _, _, _, _, _, _, _, _, _, _, _, _, _, _, _, _, _, _, _, _, _, _, _, _, _, _, _, _, _, rfl, rfl, rfl, hd, hs, hp, rr_op0, hc, hK, hf, hl, ma_p0 F xsx xsy xcx xcy fx fy tx ty fi bx bo ex ey, fun z => absurd z (by decide)⟩⟩, ?_, ?_⟩
  · intro post H
    refine br_f (by decide) (br_f (by decide) (br_f (by decide) (br_f (by decide) (br_f (by decide) (br_f (by decide) (br_f (by decide) (br_f (by decide) (br_f (by decide) (br_t rfl ?_)))))))))
    unfold wX_operate_170
    refine br_t rfl ?_
    unfold wX_operate_182
    refine xp_ci hm.1 hm.2.1 hm.2.2.1 (ma_pathS hm) (xp_cc hV ?_)
    rw [ep]
    exact H
  · intro post H
    unfold wpY_operator
    refine yp_wt (br_t rfl (pk_eq U 200 (fun z => absurd z (by omega)) (fun _ => nm_r (nI_1 U) (nm_e (nm_e (br_f (by decide) (br_f (by decide) (br_f (by decide) (br_f (by decide) (br_f (by decide) (br_f (by decide) (br_f (by decide) (br_f (by decide) (br_t rfl (?_)))))))))))))))
    unfold wY_operator_170
    exact yp_cu hV hm.1 (ma_pathP hm) hm.2.1 hm.2.2.2.1 (br_f (by decide) (br_t (by decide) (H)))
theorem op_9 {K c d T L V U E P F : Nat} {A B G : Nat → Nat} (hU : U < 200) (m : Int32) (h : rr_H K (rr_need 9) c d T L V (U + 1) E P F A B G xpb xpf xsx xsy xcx xcy ype dk dv sr rs rk rv ct ru pl be mx xo st cp pa pn fx fy tx ty fi cr cv ln kd nm mt co wi sv bx bo ex ey yo) :
    ∃ (r : Int32) (u' : SX) (v' : SY), rr_Z K (rr_ph (U + 1) T A) r u' v' ∧ (∀ post : Int32 → SX → Prop, post r u' → wpX_operate post (nI d, nI c, nI (T + 1), 0, nI (U + 1), -1, nI V, nI L, nI E, xpb, xpf, xsx, xsy, xcx, xcy, dk, dv, sr, rs, rk, rv, ct, ru, pl, be, mx, xo, st, cp, pa, pn, fx, fy, tx, ty, fi, cr, cv) 9 m) ∧ (∀ post : SY → Prop, post v' → wpY_operator post (nI c, nI K, nI V, nI L, nI (T + 1), nI P, nI E, nI (rr_need 9), nI U, 0, -1, ype, sr, ln, kd, nm, mt, co, wi, cp, pa, pn, ru, pl, sv, be, mx, bx, bo, ex, ey, fx, fy, tx, ty, yo) 9 m) := by
  obtain ⟨hd, hs, hp, ho, hc, hK, hf, hl, hm, hb⟩ := h
  obtain ⟨hTV, hV, hLT⟩ := rr_frb hf
  refine ⟨0, (nI d, nI c, nI (T + 1), 0, nI (U + 1), -1, nI V, nI L, 0, 0, xpf, xsx, xsy, xcx, xcy, dk, dv, sr, rs, rk, rv, ct, ru, pl, be, mx, xo, st, cp, pa, pn, fx, fy, tx, ty, fi, cr, cv), (nI c, nI K, nI V, nI L, nI (T + 1), 0, 0, 0, nI (U + 1), 0, -1, ype, sr, ln, kd, nm, mt, co, wi, cp, pa, pn, ru, pl, sv, be, mx, bx, bo, ex, ey, fx, fy, tx, ty, yo), Or.inl ⟨rfl, _, Nat.le_add_right _ _, ⟨_, _, _, _, _, _, _, _, _, _, _, _, _, _, _, _, _, _, _, _, _, _, _, _, _, _, _, _, _, _, _, _, _, _, _, _, _, _, _, _, _, _, _, _, _, _, _, _, _, _, _, _, _, _, rfl, rfl, rfl, hd, hs, hp, rr_op0, hc, hK, hf, hl, ma_p0 F xsx xsy xcx xcy fx fy tx ty fi bx bo ex ey, fun z => absurd z (by decide)⟩⟩, ?_, ?_⟩
  · intro post H
    refine br_f (by decide) (br_f (by decide) (br_f (by decide) (br_f (by decide) (br_f (by decide) (br_f (by decide) (br_f (by decide) (br_f (by decide) (br_f (by decide) (br_f (by decide) (br_t rfl ?_))))))))))
    exact H
  · intro post H
    unfold wpY_operator
    refine yp_wt (br_t rfl (pk_eq U 200 (fun z => absurd z (by omega)) (fun _ => nm_r (nI_1 U) (nm_e (nm_e (br_f (by decide) (br_f (by decide) (br_f (by decide) (br_f (by decide) (br_f (by decide) (br_f (by decide) (br_f (by decide) (br_f (by decide) (br_f (by decide) (br_f (by decide) (br_f (by decide) (br_f (by decide) (br_f (by decide) (br_f (by decide) (br_f (by decide) (br_f (by decide) (?_))))))))))))))))))))))
    exact br_f (by decide) (br_t (by decide) (H))
