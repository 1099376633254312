variable {xds xrc xde xoc xun xfp xsc xtl xec xpb xpf xsx xsy xcx xcy yrc ysh yle yla yde ypa yed yoc yun yfa ywh ype : Int32} {dk dv sr rs rk rv ct ru pl be mx xo st cp pa pn fx fy tx ty fi cr cv ln kd nm mt co wi sv bx bo ex ey yo : Nat → Int32}
/-! the operators on the state -/
theorem op_10 {K c d T L V U E P F : Nat} {A B G : Nat → Nat} (hU : U < 200) (m : Int32) (h : rr_H K (rr_need 10) c d T L V (U + 1) E P F A B G xpb xpf xsx xsy xcx xcy ype dk dv sr rs rk rv ct ru pl be mx xo st cp pa pn fx fy tx ty fi cr cv ln kd nm mt co wi sv bx bo ex ey yo) :
    ∃ (r : Int32) (u' : SX) (v' : SY), rr_Z K (rr_ph (U + 1) T A) r u' v' ∧ (∀ post : Int32 → SX → Prop, post r u' → wpX_operate post (nI d, nI c, nI (T + 1), 0, nI (U + 1), -1, nI V, nI L, nI E, xpb, xpf, xsx, xsy, xcx, xcy, dk, dv, sr, rs, rk, rv, ct, ru, pl, be, mx, xo, st, cp, pa, pn, fx, fy, tx, ty, fi, cr, cv) 10 m) ∧ (∀ post : SY → Prop, post v' → wpY_operator post (nI c, nI K, nI V, nI L, nI (T + 1), nI P, nI E, nI (rr_need 10), nI U, 0, -1, ype, sr, ln, kd, nm, mt, co, wi, cp, pa, pn, ru, pl, sv, be, mx, bx, bo, ex, ey, fx, fy, tx, ty, yo) 10 m) := by
  obtain ⟨hd, hs, hp, ho, hc, hK, hf, hl, hm, hb⟩ := h
  obtain ⟨hTV, hV, hLT⟩ := rr_frb hf
  obtain ⟨_, _, _, beT, svT, _, _⟩ := hf.1 T (by omega)
  have hVB := hf.2.2.2.1
  have eT : nI (T + 1) - 1 = nI T := nI_pred T
  have cT : (nI (T + 1) - 1).toNatClampNeg = T := pk_cl T eT
  have i8 : vp_in (nI (T + 1) - 1) 8 := pk_in T 8 (by omega) eT
  have i7 : vp_in (nI (T + 1) - 1) 7 := pk_in T 7 (by omega) eT
  by_cases hV6 : V < 6
  · refine ⟨0, (nI d, nI c, nI (T + 1), 0, nI (U + 1), -1, nI (V + 1), nI L, nI E, xpb, xpf, xsx, xsy, xcx, xcy, dk, dv, sr, rs, rk, rv, ct, ru, pl, be, mx, xo, ma_w st (fun n => st (8 * V + n)) (8 * V + 8) 8, ma_w cp (rr_gs cp (192 * V)) (192 * V + 192) 192, pa, pn, fx, fy, tx, ty, fi, cr, cv), (nI c, nI K, nI (V + 1), nI L, nI (T + 1), nI P, nI E, 0, nI (U + 1), 0, -1, ype, sr, ln, kd, nm, ma_w mt (fun n => mt (6 * V + n)) (6 * V + 6) 6, upd co (V + 1) (co V), upd wi (V + 1) (wi V), ma_w cp (rr_gs cp (192 * V)) (192 * V + 192) 192, pa, pn, ru, pl, upd sv T (nI (G T + 1)), be, mx, bx, bo, ex, ey, fx, fy, tx, ty, yo), Or.inl ⟨rfl, _, Nat.le_add_right _ _, ⟨_, _, _, _, _, _, _, _, _, _, _, _, _, _, _, _, _, _, _, _, _, _, _, _, _, _, _, _, _, _, _, _, _, _, _, _, _, _, _, _, _, _, _, _, _, _, _, _, _, _, _, _, _, _, rfl, rfl, rfl, hd, rr_sts hs (by omega), hp, rr_op0, hc, hK, rr_frq hf hV6, hl, hm, hb⟩⟩, ?_, ?_⟩
    · intro post H
      refine br_f (by decide) (br_f (by decide) (br_f (by decide) (br_f (by decide) (br_f (by decide) (br_f (by decide) (br_f (by decide) (br_f (by decide) (br_f (by decide) (br_f (by decide) (br_f (by decide) (br_t rfl ?_)))))))))))
      exact xp_sv hV6 H
    · intro post H
      unfold wpY_operator
      refine yp_wt (br_t rfl (pk_eq U 200 (fun z => absurd z (by omega)) (fun _ => nm_r (nI_1 U) (nm_e (nm_e (br_f (by decide) (br_f (by decide) (br_f (by decide) (br_f (by decide) (br_f (by decide) (br_f (by decide) (br_f (by decide) (br_f (by decide) (br_f (by decide) (br_t rfl (?_))))))))))))))))
      exact pk_eq V 6 (fun z => absurd z (by omega)) (fun _ => yp_ke hV6 ⟨i8, i8, nm_r (by rw [cT, svT, nI_1]) (br_f (by decide) (br_f (by decide) (br_f (by decide) (H))))⟩)
  · have e6 : V = 6 := by omega
    refine ⟨6, (nI d, nI c, nI (T + 1), 0, nI (U + 1), -1, nI V, nI L, nI E, xpb, xpf, xsx, xsy, xcx, xcy, dk, dv, sr, rs, rk, rv, ct, ru, pl, be, mx, xo, st, cp, pa, pn, fx, fy, tx, ty, fi, cr, cv), (nI c, nI K, nI V, nI L, nI (T + 1), nI P, nI E, 0, nI (U + 1), 6, -1, ype, sr, ln, kd, nm, mt, co, wi, cp, pa, pn, ru, pl, sv, be, mx, bx, bo, ex, ey, fx, fy, tx, ty, yo), Or.inr ⟨by decide, ⟨_, _, _, _, _, _, _, _, _, _, _, _, _, _, _, _, _, _, _, _, _, _, _, _, _, _, _, _, _, _, _, _, _, _, _, _, _, _, _, _, _, _, _, _, _, _, _, _, _, _, _, _, _, _, _, _, _, rfl, rfl, hd, hs, hp⟩⟩, ?_, ?_⟩
    · intro post H
      refine br_f (by decide) (br_f (by decide) (br_f (by decide) (br_f (by decide) (br_f (by decide) (br_f (by decide) (br_f (by decide) (br_f (by decide) (br_f (by decide) (br_f (by decide) (br_f (by decide) (br_t rfl ?_)))))))))))
      exact xp_sv6 e6 H
    · intro post H
      unfold wpY_operator
      refine yp_wt (br_t rfl (pk_eq U 200 (fun z => absurd z (by omega)) (fun _ => nm_r (nI_1 U) (nm_e (nm_e (br_f (by decide) (br_f (by decide) (br_f (by decide) (br_f (by decide) (br_f (by decide) (br_f (by decide) (br_f (by decide) (br_f (by decide) (br_f (by decide) (br_t rfl (?_))))))))))))))))
      exact pk_eq V 6 (fun _ => br_f (by decide) (br_f (by decide) (br_f (by decide) (H)))) (fun z => absurd e6 z)
theorem op_11 {K c d T L V U E P F : Nat} {A B G : Nat → Nat} (hU : U < 200) (m : Int32) (h : rr_H K (rr_need 11) c d T L V (U + 1) E P F A B G xpb xpf xsx xsy xcx xcy ype dk dv sr rs rk rv ct ru pl be mx xo st cp pa pn fx fy tx ty fi cr cv ln kd nm mt co wi sv bx bo ex ey yo) :
    ∃ (r : Int32) (u' : SX) (v' : SY), rr_Z K (rr_ph (U + 1) T A) r u' v' ∧ (∀ post : Int32 → SX → Prop, post r u' → wpX_operate post (nI d, nI c, nI (T + 1), 0, nI (U + 1), -1, nI V, nI L, nI E, xpb, xpf, xsx, xsy, xcx, xcy, dk, dv, sr, rs, rk, rv, ct, ru, pl, be, mx, xo, st, cp, pa, pn, fx, fy, tx, ty, fi, cr, cv) 11 m) ∧ (∀ post : SY → Prop, post v' → wpY_operator post (nI c, nI K, nI V, nI L, nI (T + 1), nI P, nI E, nI (rr_need 11), nI U, 0, -1, ype, sr, ln, kd, nm, mt, co, wi, cp, pa, pn, ru, pl, sv, be, mx, bx, bo, ex, ey, fx, fy, tx, ty, yo) 11 m) := by
  obtain ⟨hd, hs, hp, ho, hc, hK, hf, hl, hm, hb⟩ := h
  obtain ⟨hTV, hV, hLT⟩ := rr_frb hf
  obtain ⟨_, _, _, beT, svT, _, _⟩ := hf.1 T (by omega)
  have hVB := hf.2.2.2.1
  have eT : nI (T + 1) - 1 = nI T := nI_pred T
  have cT : (nI (T + 1) - 1).toNatClampNeg = T := pk_cl T eT
  have i8 : vp_in (nI (T + 1) - 1) 8 := pk_in T 8 (by omega) eT
  have i7 : vp_in (nI (T + 1) - 1) 7 := pk_in T 7 (by omega) eT
  by_cases hG : G T = 0
  · refine ⟨6, (nI d, nI c, nI (T + 1), 0, nI (U + 1), -1, nI V, nI L, nI E, xpb, xpf, xsx, xsy, xcx, xcy, dk, dv, sr, rs, rk, rv, ct, ru, pl, be, mx, xo, st, cp, pa, pn, fx, fy, tx, ty, fi, cr, cv), (nI c, nI K, nI V, nI L, nI (T + 1), nI P, nI E, 0, nI (U + 1), 6, -1, ype, sr, ln, kd, nm, mt, co, wi, cp, pa, pn, ru, pl, sv, be, mx, bx, bo, ex, ey, fx, fy, tx, ty, yo), Or.inr ⟨by decide, ⟨_, _, _, _, _, _, _, _, _, _, _, _, _, _, _, _, _, _, _, _, _, _, _, _, _, _, _, _, _, _, _, _, _, _, _, _, _, _, _, _, _, _, _, _, _, _, _, _, _, _, _, _, _, _, _, _, _, rfl, rfl, hd, hs, hp⟩⟩, ?_, ?_⟩
    · intro post H
      refine br_f (by decide) (br_f (by decide) (br_f (by decide) (br_f (by decide) (br_f (by decide) (br_f (by decide) (br_f (by decide) (br_f (by decide) (br_f (by decide) (br_f (by decide) (br_f (by decide) (br_f (by decide) (br_t rfl ?_))))))))))))
      refine ⟨i7, ?_⟩
      rw [cT, beT]
      exact pk_lt (B T) V (fun z => absurd z (by omega)) (fun _ => H)
    · intro post H
      unfold wpY_operator
      refine yp_wt (br_t rfl (pk_eq U 200 (fun z => absurd z (by omega)) (fun _ => nm_r (nI_1 U) (nm_e (nm_e (br_f (by decide) (br_f (by decide) (br_f (by decide) (br_f (by decide) (br_f (by decide) (br_f (by decide) (br_f (by decide) (br_f (by decide) (br_f (by decide) (br_f (by decide) (br_t rfl (?_)))))))))))))))))
      refine ⟨i8, ?_⟩
      rw [cT, svT]
      exact pk_eq (G T) 0 (fun _ => br_f (by decide) (br_f (by decide) (br_f (by decide) (H)))) (fun z => absurd hG z)
  · have eV : nI V - 1 = nI (V - 1) := pk_sub (a := V) (b := 1) (by omega)
    have eG : nI (G T) - 1 = nI (G T - 1) := pk_sub (a := G T) (b := 1) (by omega)
    refine ⟨0, (nI d, nI c, nI (T + 1), 0, nI (U + 1), -1, nI (V - 1), nI L, nI E, xpb, xpf, xsx, xsy, xcx, xcy, dk, dv, sr, rs, rk, rv, ct, ru, pl, be, mx, xo, st, cp, pa, pn, fx, fy, tx, ty, fi, cr, cv), (nI c, nI K, nI (V - 1), nI L, nI (T + 1), nI P, nI E, 0, nI (U + 1), 0, -1, ype, sr, ln, kd, nm, mt, co, wi, cp, pa, pn, ru, pl, upd sv T (nI (G T - 1)), be, mx, bx, bo, ex, ey, fx, fy, tx, ty, yo), Or.inl ⟨rfl, _, Nat.le_add_right _ _, ⟨_, _, _, _, _, _, _, _, _, _, _, _, _, _, _, _, _, _, _, _, _, _, _, _, _, _, _, _, _, _, _, _, _, _, _, _, _, _, _, _, _, _, _, _, _, _, _, _, _, _, _, _, _, _, rfl, rfl, rfl, hd, hs, hp, rr_op0, hc, hK, rr_frQ hf (by omega), hl, hm, hb⟩⟩, ?_, ?_⟩
    · intro post H
      refine br_f (by decide) (br_f (by decide) (br_f (by decide) (br_f (by decide) (br_f (by decide) (br_f (by decide) (br_f (by decide) (br_f (by decide) (br_f (by decide) (br_f (by decide) (br_f (by decide) (br_f (by decide) (br_t rfl ?_))))))))))))
      refine ⟨i7, ?_⟩
      rw [cT, beT]
      exact pk_lt (B T) V (fun _ => nm_r eV H) (fun z => absurd z (by omega))
    · intro post H
      unfold wpY_operator
      refine yp_wt (br_t rfl (pk_eq U 200 (fun z => absurd z (by omega)) (fun _ => nm_r (nI_1 U) (nm_e (nm_e (br_f (by decide) (br_f (by decide) (br_f (by decide) (br_f (by decide) (br_f (by decide) (br_f (by decide) (br_f (by decide) (br_f (by decide) (br_f (by decide) (br_f (by decide) (br_t rfl (?_)))))))))))))))))
      refine ⟨i8, ?_⟩
      rw [cT, svT]
      exact pk_eq (G T) 0 (fun z => absurd z hG) (fun _ => ⟨i8, i8, nm_r (by rw [eG]) (nm_r eV (br_f (by decide) (br_f (by decide) (br_f (by decide) (H)))))⟩)
theorem op_12 {K c d T L V U E P F : Nat} {A B G : Nat → Nat} (hU : U < 200) (m : Int32) (h : rr_H K (rr_need 12) c d T L V (U + 1) E P F A B G xpb xpf xsx xsy xcx xcy ype dk dv sr rs rk rv ct ru pl be mx xo st cp pa pn fx fy tx ty fi cr cv ln kd nm mt co wi sv bx bo ex ey yo) :
    ∃ (r : Int32) (u' : SX) (v' : SY), rr_Z K (rr_ph (U + 1) T A) r u' v' ∧ (∀ post : Int32 → SX → Prop, post r u' → wpX_operate post (nI d, nI c, nI (T + 1), 0, nI (U + 1), -1, nI V, nI L, nI E, xpb, xpf, xsx, xsy, xcx, xcy, dk, dv, sr, rs, rk, rv, ct, ru, pl, be, mx, xo, st, cp, pa, pn, fx, fy, tx, ty, fi, cr, cv) 12 m) ∧ (∀ post : SY → Prop, post v' → wpY_operator post (nI c, nI K, nI V, nI L, nI (T + 1), nI P, nI E, nI (rr_need 12), nI U, 0, -1, ype, sr, ln, kd, nm, mt, co, wi, cp, pa, pn, ru, pl, sv, be, mx, bx, bo, ex, ey, fx, fy, tx, ty, yo) 12 m) := by
  obtain ⟨hd, hs, hp, ho, hc, hK, hf, hl, hm, hb⟩ := h
  obtain ⟨hTV, hV, hLT⟩ := rr_frb hf
  obtain ⟨x0, x1, x2, x3, x4, x5⟩ := rr_xnv xo st (8 * V)
  have hst := (hs V (by omega)).1
  have s0 : st (8 * V) = mt (6 * V) := hst 0 (by omega)
  have s1 := hst 1 (by omega)
  have s2 := hst 2 (by omega)
  have s3 := hst 3 (by omega)
  have s4 := hst 4 (by omega)
  have s5 := hst 5 (by omega)
  have o0 := ho.2 0 (by decide)
  have o1 := ho.2 1 (by decide)
  have o2 := ho.2 2 (by decide)
  have o3 := ho.2 3 (by decide)
  have o4 := ho.2 4 (by decide)
  have o5 := ho.2 5 (by decide)
  rw [s0, s2, o0, o1] at x0
  rw [s1, s3, o0, o1] at x1
  rw [s0, s2, o2, o3] at x2
  rw [s1, s3, o2, o3] at x3
  rw [s0, s2, s4, o4, o5] at x4
  rw [s1, s3, s5, o4, o5] at x5
  by_cases hok : ∀ j, j < 6 → rr_ok (rr_xn xo st (8 * V)) j
  · refine ⟨0, (nI d, nI c, nI (T + 1), 0, nI (U + 1), -1, nI V, nI L, nI E, xpb, xpf, xsx, xsy, xcx, xcy, dk, dv, sr, rs, rk, rv, ct, ru, pl, be, mx, rr_xn xo st (8 * V), ma_w st (rr_xn xo st (8 * V)) (8 * V) 6, cp, pa, pn, fx, fy, tx, ty, fi, cr, cv), (nI c, nI K, nI V, nI L, nI (T + 1), nI P, nI E, 0, nI (U + 1), 0, -1, ype, sr, ln, kd, nm, rr_m6 mt (6 * V) (rr_xn xo st (8 * V) 0) (rr_xn xo st (8 * V) 1) (rr_xn xo st (8 * V) 2) (rr_xn xo st (8 * V) 3) (rr_xn xo st (8 * V) 4) (rr_xn xo st (8 * V) 5), co, wi, cp, pa, pn, ru, pl, sv, be, mx, bx, bo, ex, ey, fx, fy, tx, ty, yo), Or.inl ⟨rfl, _, Nat.le_add_right _ _, ⟨_, _, _, _, _, _, _, _, _, _, _, _, _, _, _, _, _, _, _, _, _, _, _, _, _, _, _, _, _, _, _, _, _, _, _, _, _, _, _, _, _, _, _, _, _, _, _, _, _, _, _, _, _, _, rfl, rfl, rfl, hd, rr_stm hs (by omega), hp, rr_op0, hc, hK, hf, hl, hm, hb⟩⟩, ?_, ?_⟩
    · intro post H
      refine br_f (by decide) (br_f (by decide) (br_f (by decide) (br_f (by decide) (br_f (by decide) (br_f (by decide) (br_f (by decide) (br_f (by decide) (br_f (by decide) (br_f (by decide) (br_f (by decide) (br_f (by decide) (br_f (by decide) (br_t rfl ?_)))))))))))))
      exact xp_cm hV (fun _ => H) (fun z => z.elim (fun j z => absurd (hok j z.1) z.2))
    · intro post H
      unfold wpY_operator
      refine yp_wt (br_t rfl (pk_eq U 200 (fun z => absurd z (by omega)) (fun _ => nm_r (nI_1 U) (nm_r (ho.2 0 (by decide)).symm (nm_r (ho.2 1 (by decide)).symm (br_f (by decide) (br_f (by decide) (br_f (by decide) (br_f (by decide) (br_f (by decide) (br_f (by decide) (br_f (by decide) (br_f (by decide) (br_f (by decide) (br_f (by decide) (br_f (by decide) (br_t rfl (?_))))))))))))))))))
      exact yp_tr hV x0.symm x1.symm x2.symm x3.symm x4.symm x5.symm (fun _ => br_f (by decide) (br_f (by decide) (br_f (by decide) (H)))) (fun z => absurd (rr_okall.mp hok) z)
  · refine ⟨3, (nI d, nI c, nI (T + 1), 0, nI (U + 1), -1, nI V, nI L, nI E, xpb, xpf, xsx, xsy, xcx, xcy, dk, dv, sr, rs, rk, rv, ct, ru, pl, be, mx, rr_xn xo st (8 * V), st, cp, pa, pn, fx, fy, tx, ty, fi, cr, cv), (nI c, nI K, nI V, nI L, nI (T + 1), nI P, nI E, 0, nI (U + 1), 3, -1, ype, sr, ln, kd, nm, mt, co, wi, cp, pa, pn, ru, pl, sv, be, mx, bx, bo, ex, ey, fx, fy, tx, ty, yo), Or.inr ⟨by decide, ⟨_, _, _, _, _, _, _, _, _, _, _, _, _, _, _, _, _, _, _, _, _, _, _, _, _, _, _, _, _, _, _, _, _, _, _, _, _, _, _, _, _, _, _, _, _, _, _, _, _, _, _, _, _, _, _, _, _, rfl, rfl, hd, hs, hp⟩⟩, ?_, ?_⟩
    · intro post H
      refine br_f (by decide) (br_f (by decide) (br_f (by decide) (br_f (by decide) (br_f (by decide) (br_f (by decide) (br_f (by decide) (br_f (by decide) (br_f (by decide) (br_f (by decide) (br_f (by decide) (br_f (by decide) (br_f (by decide) (br_t rfl ?_)))))))))))))
      refine xp_cm hV (fun z => absurd z hok) (fun _ => H)
    · intro post H
      unfold wpY_operator
      refine yp_wt (br_t rfl (pk_eq U 200 (fun z => absurd z (by omega)) (fun _ => nm_r (nI_1 U) (nm_r (ho.2 0 (by decide)).symm (nm_r (ho.2 1 (by decide)).symm (br_f (by decide) (br_f (by decide) (br_f (by decide) (br_f (by decide) (br_f (by decide) (br_f (by decide) (br_f (by decide) (br_f (by decide) (br_f (by decide) (br_f (by decide) (br_f (by decide) (br_t rfl (?_))))))))))))))))))
      exact yp_tr hV x0.symm x1.symm x2.symm x3.symm x4.symm x5.symm (fun z => absurd (rr_okall.mpr z) hok) (fun _ => br_f (by decide) (br_f (by decide) (br_f (by decide) (H))))
theorem op_13 {K c d T L V U E P F : Nat} {A B G : Nat → Nat} (hU : U < 200) (m : Int32) (h : rr_H K (rr_need 13) c d T L V (U + 1) E P F A B G xpb xpf xsx xsy xcx xcy ype dk dv sr rs rk rv ct ru pl be mx xo st cp pa pn fx fy tx ty fi cr cv ln kd nm mt co wi sv bx bo ex ey yo) :
    ∃ (r : Int32) (u' : SX) (v' : SY), rr_Z K (rr_ph (U + 1) T A) r u' v' ∧ (∀ post : Int32 → SX → Prop, post r u' → wpX_operate post (nI d, nI c, nI (T + 1), 0, nI (U + 1), -1, nI V, nI L, nI E, xpb, xpf, xsx, xsy, xcx, xcy, dk, dv, sr, rs, rk, rv, ct, ru, pl, be, mx, xo, st, cp, pa, pn, fx, fy, tx, ty, fi, cr, cv) 13 m) ∧ (∀ post : SY → Prop, post v' → wpY_operator post (nI c, nI K, nI V, nI L, nI (T + 1), nI P, nI E, nI (rr_need 13), nI U, 0, -1, ype, sr, ln, kd, nm, mt, co, wi, cp, pa, pn, ru, pl, sv, be, mx, bx, bo, ex, ey, fx, fy, tx, ty, yo) 13 m) := by
  obtain ⟨hd, hs, hp, ho, hc, hK, hf, hl, hm, hb⟩ := h
  obtain ⟨hTV, hV, hLT⟩ := rr_frb hf
  have ein : nI V * 8 + 6 = nI (8 * V + 6) := by
    rw [show nI V * 8 = nI (8 * V) from mb_ml 8 V]
    exact nI_add (8 * V) 6
  have ec : (nI V * 8 + 6).toNatClampNeg = 8 * V + 6 := pk_cl (8 * V + 6) ein
  have iV : vp_in (nI V) 7 := pk_in V 7 (by omega)
  have cV : (nI V).toNatClampNeg = V := pk_cl V
  by_cases a : xo 0 < 0
  · refine ⟨3, (nI d, nI c, nI (T + 1), 0, nI (U + 1), -1, nI V, nI L, nI E, xpb, xpf, xsx, xsy, xcx, xcy, dk, dv, sr, rs, rk, rv, ct, ru, pl, be, mx, xo, st, cp, pa, pn, fx, fy, tx, ty, fi, cr, cv), (nI c, nI K, nI V, nI L, nI (T + 1), nI P, nI E, 0, nI (U + 1), 3, -1, ype, sr, ln, kd, nm, mt, co, wi, cp, pa, pn, ru, pl, sv, be, mx, bx, bo, ex, ey, fx, fy, tx, ty, yo), Or.inr ⟨by decide, ⟨_, _, _, _, _, _, _, _, _, _, _, _, _, _, _, _, _, _, _, _, _, _, _, _, _, _, _, _, _, _, _, _, _, _, _, _, _, _, _, _, _, _, _, _, _, _, _, _, _, _, _, _, _, _, _, _, _, rfl, rfl, hd, hs, hp⟩⟩, ?_, ?_⟩
    · intro post H
      refine br_f (by decide) (br_f (by decide) (br_f (by decide) (br_f (by decide) (br_f (by decide) (br_f (by decide) (br_f (by decide) (br_f (by decide) (br_f (by decide) (br_f (by decide) (br_f (by decide) (br_f (by decide) (br_f (by decide) (br_f (by decide) (br_t rfl ?_))))))))))))))
      exact br_t a H
    · intro post H
      unfold wpY_operator
      refine yp_wt (br_t rfl (pk_eq U 200 (fun z => absurd z (by omega)) (fun _ => nm_r (nI_1 U) (nm_r (ho.2 0 (by decide)).symm (nm_e (br_f (by decide) (br_f (by decide) (br_f (by decide) (br_f (by decide) (br_f (by decide) (br_f (by decide) (br_f (by decide) (br_f (by decide) (br_f (by decide) (br_f (by decide) (br_f (by decide) (br_f (by decide) (br_t rfl (?_)))))))))))))))))))
      unfold wY_operator_229
      exact br_t a (br_f (by decide) (br_f (by decide) (br_f (by decide) (H))))
  · by_cases b : xo 0 ≤ 255
    · refine ⟨0, (nI d, nI c, nI (T + 1), 0, nI (U + 1), -1, nI V, nI L, nI E, xpb, xpf, xsx, xsy, xcx, xcy, dk, dv, sr, rs, rk, rv, ct, ru, pl, be, mx, xo, upd st (8 * V + 6) (xo 0), cp, pa, pn, fx, fy, tx, ty, fi, cr, cv), (nI c, nI K, nI V, nI L, nI (T + 1), nI P, nI E, 0, nI (U + 1), 0, -1, ype, sr, ln, kd, nm, mt, upd co V (xo 0), wi, cp, pa, pn, ru, pl, sv, be, mx, bx, bo, ex, ey, fx, fy, tx, ty, yo), Or.inl ⟨rfl, _, Nat.le_add_right _ _, ⟨_, _, _, _, _, _, _, _, _, _, _, _, _, _, _, _, _, _, _, _, _, _, _, _, _, _, _, _, _, _, _, _, _, _, _, _, _, _, _, _, _, _, _, _, _, _, _, _, _, _, _, _, _, _, rfl, rfl, rfl, hd, rr_stc hs (by omega) ((mb_c1 _).mpr ⟨a, Int32.not_lt.mpr b⟩), hp, rr_op0, hc, hK, hf, hl, hm, hb⟩⟩, ?_, ?_⟩
      · intro post H
        refine br_f (by decide) (br_f (by decide) (br_f (by decide) (br_f (by decide) (br_f (by decide) (br_f (by decide) (br_f (by decide) (br_f (by decide) (br_f (by decide) (br_f (by decide) (br_f (by decide) (br_f (by decide) (br_f (by decide) (br_f (by decide) (br_t rfl ?_))))))))))))))
        exact br_f a (br_t b ⟨pk_in (8 * V + 6) 56 (by omega) ein, nm_r (by rw [ec]) H⟩)
      · intro post H
        unfold wpY_operator
        refine yp_wt (br_t rfl (pk_eq U 200 (fun z => absurd z (by omega)) (fun _ => nm_r (nI_1 U) (nm_r (ho.2 0 (by decide)).symm (nm_e (br_f (by decide) (br_f (by decide) (br_f (by decide) (br_f (by decide) (br_f (by decide) (br_f (by decide) (br_f (by decide) (br_f (by decide) (br_f (by decide) (br_f (by decide) (br_f (by decide) (br_f (by decide) (br_t rfl (?_)))))))))))))))))))
        unfold wY_operator_229
        exact br_f a (br_t rfl (br_t b (br_t rfl ⟨iV, nm_r (by rw [cV]) (br_f (by decide) (br_f (by decide) (br_f (by decide) (H))))⟩)))
    · refine ⟨3, (nI d, nI c, nI (T + 1), 0, nI (U + 1), -1, nI V, nI L, nI E, xpb, xpf, xsx, xsy, xcx, xcy, dk, dv, sr, rs, rk, rv, ct, ru, pl, be, mx, xo, st, cp, pa, pn, fx, fy, tx, ty, fi, cr, cv), (nI c, nI K, nI V, nI L, nI (T + 1), nI P, nI E, 0, nI (U + 1), 3, -1, ype, sr, ln, kd, nm, mt, co, wi, cp, pa, pn, ru, pl, sv, be, mx, bx, bo, ex, ey, fx, fy, tx, ty, yo), Or.inr ⟨by decide, ⟨_, _, _, _, _, _, _, _, _, _, _, _, _, _, _, _, _, _, _, _, _, _, _, _, _, _, _, _, _, _, _, _, _, _, _, _, _, _, _, _, _, _, _, _, _, _, _, _, _, _, _, _, _, _, _, _, _, rfl, rfl, hd, hs, hp⟩⟩, ?_, ?_⟩
      · intro post H
        refine br_f (by decide) (br_f (by decide) (br_f (by decide) (br_f (by decide) (br_f (by decide) (br_f (by decide) (br_f (by decide) (br_f (by decide) (br_f (by decide) (br_f (by decide) (br_f (by decide) (br_f (by decide) (br_f (by decide) (br_f (by decide) (br_t rfl ?_))))))))))))))
        exact br_f a (br_f b H)
      · intro post H
        unfold wpY_operator
        refine yp_wt (br_t rfl (pk_eq U 200 (fun z => absurd z (by omega)) (fun _ => nm_r (nI_1 U) (nm_r (ho.2 0 (by decide)).symm (nm_e (br_f (by decide) (br_f (by decide) (br_f (by decide) (br_f (by decide) (br_f (by decide) (br_f (by decide) (br_f (by decide) (br_f (by decide) (br_f (by decide) (br_f (by decide) (br_f (by decide) (br_f (by decide) (br_t rfl (?_)))))))))))))))))))
        unfold wY_operator_229
        exact br_f a (br_t rfl (br_f b (br_f (by decide) (br_f (by decide) (br_f (by decide) (H))))))
theorem op_16 {K c d T L V U E P F : Nat} {A B G : Nat → Nat} (hU : U < 200) (m : Int32) (h : rr_H K (rr_need 16) c d T L V (U + 1) E P F A B G xpb xpf xsx xsy xcx xcy ype dk dv sr rs rk rv ct ru pl be mx xo st cp pa pn fx fy tx ty fi cr cv ln kd nm mt co wi sv bx bo ex ey yo) :
    ∃ (r : Int32) (u' : SX) (v' : SY), rr_Z K (rr_ph (U + 1) T A) r u' v' ∧ (∀ post : Int32 → SX → Prop, post r u' → wpX_operate post (nI d, nI c, nI (T + 1), 0, nI (U + 1), -1, nI V, nI L, nI E, xpb, xpf, xsx, xsy, xcx, xcy, dk, dv, sr, rs, rk, rv, ct, ru, pl, be, mx, xo, st, cp, pa, pn, fx, fy, tx, ty, fi, cr, cv) 16 m) ∧ (∀ post : SY → Prop, post v' → wpY_operator post (nI c, nI K, nI V, nI L, nI (T + 1), nI P, nI E, nI (rr_need 16), nI U, 0, -1, ype, sr, ln, kd, nm, mt, co, wi, cp, pa, pn, ru, pl, sv, be, mx, bx, bo, ex, ey, fx, fy, tx, ty, yo) 16 m) := by
  obtain ⟨hd, hs, hp, ho, hc, hK, hf, hl, hm, hb⟩ := h
  obtain ⟨hTV, hV, hLT⟩ := rr_frb hf
  have ein : nI V * 8 + 7 = nI (8 * V + 7) := by
    rw [show nI V * 8 = nI (8 * V) from mb_ml 8 V]
    exact nI_add (8 * V) 7
  have ec : (nI V * 8 + 7).toNatClampNeg = 8 * V + 7 := pk_cl (8 * V + 7) ein
  have iV : vp_in (nI V) 7 := pk_in V 7 (by omega)
  have cV : (nI V).toNatClampNeg = V := pk_cl V
  by_cases a : xo 0 < 0
  · refine ⟨3, (nI d, nI c, nI (T + 1), 0, nI (U + 1), -1, nI V, nI L, nI E, xpb, xpf, xsx, xsy, xcx, xcy, dk, dv, sr, rs, rk, rv, ct, ru, pl, be, mx, xo, st, cp, pa, pn, fx, fy, tx, ty, fi, cr, cv), (nI c, nI K, nI V, nI L, nI (T + 1), nI P, nI E, 0, nI (U + 1), 3, -1, ype, sr, ln, kd, nm, mt, co, wi, cp, pa, pn, ru, pl, sv, be, mx, bx, bo, ex, ey, fx, fy, tx, ty, yo), Or.inr ⟨by decide, ⟨_, _, _, _, _, _, _, _, _, _, _, _, _, _, _, _, _, _, _, _, _, _, _, _, _, _, _, _, _, _, _, _, _, _, _, _, _, _, _, _, _, _, _, _, _, _, _, _, _, _, _, _, _, _, _, _, _, rfl, rfl, hd, hs, hp⟩⟩, ?_, ?_⟩
    · intro post H
      refine br_f (by decide) (br_f (by decide) (br_f (by decide) (br_f (by decide) (br_f (by decide) (br_f (by decide) (br_f (by decide) (br_f (by decide) (br_f (by decide) (br_f (by decide) (br_f (by decide) (br_f (by decide) (br_f (by decide) (br_f (by decide) (br_f (by decide) (br_f (by decide) (br_f (by decide) (br_t rfl ?_)))))))))))))))))
      exact br_t a H
    · intro post H
      unfold wpY_operator
      refine yp_wt (br_t rfl (pk_eq U 200 (fun z => absurd z (by omega)) (fun _ => nm_r (nI_1 U) (nm_r (ho.2 0 (by decide)).symm (nm_e (br_f (by decide) (br_f (by decide) (br_f (by decide) (br_f (by decide) (br_f (by decide) (br_f (by decide) (br_f (by decide) (br_f (by decide) (br_f (by decide) (br_f (by decide) (br_f (by decide) (br_f (by decide) (br_f (by decide) (br_t rfl (?_))))))))))))))))))))
      unfold wY_operator_229
      exact br_t a (br_f (by decide) (br_f (by decide) (br_f (by decide) (H))))
  · by_cases b : xo 0 ≤ 60
    · refine ⟨0, (nI d, nI c, nI (T + 1), 0, nI (U + 1), -1, nI V, nI L, nI E, xpb, xpf, xsx, xsy, xcx, xcy, dk, dv, sr, rs, rk, rv, ct, ru, pl, be, mx, xo, upd st (8 * V + 7) (xo 0), cp, pa, pn, fx, fy, tx, ty, fi, cr, cv), (nI c, nI K, nI V, nI L, nI (T + 1), nI P, nI E, 0, nI (U + 1), 0, -1, ype, sr, ln, kd, nm, mt, co, upd wi V (xo 0), cp, pa, pn, ru, pl, sv, be, mx, bx, bo, ex, ey, fx, fy, tx, ty, yo), Or.inl ⟨rfl, _, Nat.le_add_right _ _, ⟨_, _, _, _, _, _, _, _, _, _, _, _, _, _, _, _, _, _, _, _, _, _, _, _, _, _, _, _, _, _, _, _, _, _, _, _, _, _, _, _, _, _, _, _, _, _, _, _, _, _, _, _, _, _, rfl, rfl, rfl, hd, rr_stw hs (by omega) _, hp, rr_op0, hc, hK, hf, hl, hm, hb⟩⟩, ?_, ?_⟩
      · intro post H
        refine br_f (by decide) (br_f (by decide) (br_f (by decide) (br_f (by decide) (br_f (by decide) (br_f (by decide) (br_f (by decide) (br_f (by decide) (br_f (by decide) (br_f (by decide) (br_f (by decide) (br_f (by decide) (br_f (by decide) (br_f (by decide) (br_f (by decide) (br_f (by decide) (br_f (by decide) (br_t rfl ?_)))))))))))))))))
        exact br_f a (br_t b ⟨pk_in (8 * V + 7) 56 (by omega) ein, nm_r (by rw [ec]) H⟩)
      · intro post H
        unfold wpY_operator
        refine yp_wt (br_t rfl (pk_eq U 200 (fun z => absurd z (by omega)) (fun _ => nm_r (nI_1 U) (nm_r (ho.2 0 (by decide)).symm (nm_e (br_f (by decide) (br_f (by decide) (br_f (by decide) (br_f (by decide) (br_f (by decide) (br_f (by decide) (br_f (by decide) (br_f (by decide) (br_f (by decide) (br_f (by decide) (br_f (by decide) (br_f (by decide) (br_f (by decide) (br_t rfl (?_))))))))))))))))))))
        unfold wY_operator_229
        exact br_f a (br_f (by decide) (br_t b (br_f (by decide) ⟨iV, nm_r (by rw [cV]) (br_f (by decide) (br_f (by decide) (br_f (by decide) (H))))⟩)))
    · refine ⟨3, (nI d, nI c, nI (T + 1), 0, nI (U + 1), -1, nI V, nI L, nI E, xpb, xpf, xsx, xsy, xcx, xcy, dk, dv, sr, rs, rk, rv, ct, ru, pl, be, mx, xo, st, cp, pa, pn, fx, fy, tx, ty, fi, cr, cv), (nI c, nI K, nI V, nI L, nI (T + 1), nI P, nI E, 0, nI (U + 1), 3, -1, ype, sr, ln, kd, nm, mt, co, wi, cp, pa, pn, ru, pl, sv, be, mx, bx, bo, ex, ey, fx, fy, tx, ty, yo), Or.inr ⟨by decide, ⟨_, _, _, _, _, _, _, _, _, _, _, _, _, _, _, _, _, _, _, _, _, _, _, _, _, _, _, _, _, _, _, _, _, _, _, _, _, _, _, _, _, _, _, _, _, _, _, _, _, _, _, _, _, _, _, _, _, rfl, rfl, hd, hs, hp⟩⟩, ?_, ?_⟩
      · intro post H
        refine br_f (by decide) (br_f (by decide) (br_f (by decide) (br_f (by decide) (br_f (by decide) (br_f (by decide) (br_f (by decide) (br_f (by decide) (br_f (by decide) (br_f (by decide) (br_f (by decide) (br_f (by decide) (br_f (by decide) (br_f (by decide) (br_f (by decide) (br_f (by decide) (br_f (by decide) (br_t rfl ?_)))))))))))))))))
        exact br_f a (br_f b H)
      · intro post H
        unfold wpY_operator
        refine yp_wt (br_t rfl (pk_eq U 200 (fun z => absurd z (by omega)) (fun _ => nm_r (nI_1 U) (nm_r (ho.2 0 (by decide)).symm (nm_e (br_f (by decide) (br_f (by decide) (br_f (by decide) (br_f (by decide) (br_f (by decide) (br_f (by decide) (br_f (by decide) (br_f (by decide) (br_f (by decide) (br_f (by decide) (br_f (by decide) (br_f (by decide) (br_f (by decide) (br_t rfl (?_))))))))))))))))))))
        unfold wY_operator_229
        exact br_f a (br_f (by decide) (br_f b (br_f (by decide) (br_f (by decide) (br_f (by decide) (H))))))
theorem op_14 {K c d T L V U E P F : Nat} {A B G : Nat → Nat} (hU : U < 200) (m : Int32) (h : rr_H K (rr_need 14) c d T L V (U + 1) E P F A B G xpb xpf xsx xsy xcx xcy ype dk dv sr rs rk rv ct ru pl be mx xo st cp pa pn fx fy tx ty fi cr cv ln kd nm mt co wi sv bx bo ex ey yo) :
    ∃ (r : Int32) (u' : SX) (v' : SY), rr_Z K (rr_ph (U + 1) T A) r u' v' ∧ (∀ post : Int32 → SX → Prop, post r u' → wpX_operate post (nI d, nI c, nI (T + 1), 0, nI (U + 1), -1, nI V, nI L, nI E, xpb, xpf, xsx, xsy, xcx, xcy, dk, dv, sr, rs, rk, rv, ct, ru, pl, be, mx, xo, st, cp, pa, pn, fx, fy, tx, ty, fi, cr, cv) 14 m) ∧ (∀ post : SY → Prop, post v' → wpY_operator post (nI c, nI K, nI V, nI L, nI (T + 1), nI P, nI E, nI (rr_need 14), nI U, 0, -1, ype, sr, ln, kd, nm, mt, co, wi, cp, pa, pn, ru, pl, sv, be, mx, bx, bo, ex, ey, fx, fy, tx, ty, yo) 14 m) := by
  obtain ⟨hd, hs, hp, ho, hc, hK, hf, hl, hm, hb⟩ := h
  obtain ⟨hTV, hV, hLT⟩ := rr_frb hf
  rcases pk_ix (xo 0) (n := 6) (by omega) with h1 | h1 | ⟨j, hj, ej⟩
  · refine ⟨3, (nI d, nI c, nI (T + 1), 0, nI (U + 1), -1, nI V, nI L, nI E, xpb, xpf, xsx, xsy, xcx, xcy, dk, dv, sr, rs, rk, rv, ct, ru, pl, be, mx, xo, st, cp, pa, pn, fx, fy, tx, ty, fi, cr, cv), (nI c, nI K, nI V, nI L, nI (T + 1), nI P, nI E, 0, nI (U + 1), 3, -1, ype, sr, ln, kd, nm, mt, co, wi, cp, pa, pn, ru, pl, sv, be, mx, bx, bo, ex, ey, fx, fy, tx, ty, yo), Or.inr ⟨by decide, ⟨_, _, _, _, _, _, _, _, _, _, _, _, _, _, _, _, _, _, _, _, _, _, _, _, _, _, _, _, _, _, _, _, _, _, _, _, _, _, _, _, _, _, _, _, _, _, _, _, _, _, _, _, _, _, _, _, _, rfl, rfl, hd, hs, hp⟩⟩, ?_, ?_⟩
    · intro post H
      refine br_f (by decide) (br_f (by decide) (br_f (by decide) (br_f (by decide) (br_f (by decide) (br_f (by decide) (br_f (by decide) (br_f (by decide) (br_f (by decide) (br_f (by decide) (br_f (by decide) (br_f (by decide) (br_f (by decide) (br_f (by decide) (br_f (by decide) (br_t rfl ?_)))))))))))))))
      refine xp_dr3 (Or.inl h1) ?_
      exact H
    · intro post H
      unfold wpY_operator
      refine yp_wt (br_t rfl (pk_eq U 200 (fun z => absurd z (by omega)) (fun _ => nm_r (nI_1 U) (nm_r (ho.2 0 (by decide)).symm (nm_e (br_f (by decide) (br_f (by decide) (br_f (by decide) (br_f (by decide) (br_f (by decide) (br_f (by decide) (br_f (by decide) (br_f (by decide) (br_f (by decide) (br_f (by decide) (br_f (by decide) (br_f (by decide) (br_f (by decide) (br_f (by decide) (br_t rfl (?_)))))))))))))))))))))
      refine yp_dr3 (Or.inl h1) ?_
      exact br_f (by decide) (br_f (by decide) (br_f (by decide) (H)))
  · refine ⟨3, (nI d, nI c, nI (T + 1), 0, nI (U + 1), -1, nI V, nI L, nI E, xpb, xpf, xsx, xsy, xcx, xcy, dk, dv, sr, rs, rk, rv, ct, ru, pl, be, mx, xo, st, cp, pa, pn, fx, fy, tx, ty, fi, cr, cv), (nI c, nI K, nI V, nI L, nI (T + 1), nI P, nI E, 0, nI (U + 1), 3, -1, ype, sr, ln, kd, nm, mt, co, wi, cp, pa, pn, ru, pl, sv, be, mx, bx, bo, ex, ey, fx, fy, tx, ty, yo), Or.inr ⟨by decide, ⟨_, _, _, _, _, _, _, _, _, _, _, _, _, _, _, _, _, _, _, _, _, _, _, _, _, _, _, _, _, _, _, _, _, _, _, _, _, _, _, _, _, _, _, _, _, _, _, _, _, _, _, _, _, _, _, _, _, rfl, rfl, hd, hs, hp⟩⟩, ?_, ?_⟩
    · intro post H
      refine br_f (by decide) (br_f (by decide) (br_f (by decide) (br_f (by decide) (br_f (by decide) (br_f (by decide) (br_f (by decide) (br_f (by decide) (br_f (by decide) (br_f (by decide) (br_f (by decide) (br_f (by decide) (br_f (by decide) (br_f (by decide) (br_f (by decide) (br_t rfl ?_)))))))))))))))
      refine xp_dr3 (Or.inr h1) ?_
      exact H
    · intro post H
      unfold wpY_operator
      refine yp_wt (br_t rfl (pk_eq U 200 (fun z => absurd z (by omega)) (fun _ => nm_r (nI_1 U) (nm_r (ho.2 0 (by decide)).symm (nm_e (br_f (by decide) (br_f (by decide) (br_f (by decide) (br_f (by decide) (br_f (by decide) (br_f (by decide) (br_f (by decide) (br_f (by decide) (br_f (by decide) (br_f (by decide) (br_f (by decide) (br_f (by decide) (br_f (by decide) (br_f (by decide) (br_t rfl (?_)))))))))))))))))))))
      refine yp_dr3 (Or.inr h1) ?_
      exact br_f (by decide) (br_f (by decide) (br_f (by decide) (H)))
  by_cases hb6 : (∃ f, f < T + 1 ∧ ru f = nI j) ∨ V = 6
  · refine ⟨6, (nI d, nI c, nI (T + 1), 0, nI (U + 1), -1, nI V, nI L, nI E, xpb, xpf, xsx, xsy, xcx, xcy, dk, dv, sr, rs, rk, rv, ct, ru, pl, be, mx, xo, st, cp, pa, pn, fx, fy, tx, ty, fi, cr, cv), (nI c, nI K, nI V, nI L, nI (T + 1), nI P, nI E, 0, nI (U + 1), 6, -1, ype, sr, ln, kd, nm, mt, co, wi, cp, pa, pn, ru, pl, sv, be, mx, bx, bo, ex, ey, fx, fy, tx, ty, yo), Or.inr ⟨by decide, ⟨_, _, _, _, _, _, _, _, _, _, _, _, _, _, _, _, _, _, _, _, _, _, _, _, _, _, _, _, _, _, _, _, _, _, _, _, _, _, _, _, _, _, _, _, _, _, _, _, _, _, _, _, _, _, _, _, _, rfl, rfl, hd, hs, hp⟩⟩, ?_, ?_⟩
    · intro post H
      refine br_f (by decide) (br_f (by decide) (br_f (by decide) (br_f (by decide) (br_f (by decide) (br_f (by decide) (br_f (by decide) (br_f (by decide) (br_f (by decide) (br_f (by decide) (br_f (by decide) (br_f (by decide) (br_f (by decide) (br_f (by decide) (br_f (by decide) (br_t rfl ?_)))))))))))))))
      rw [ej]
      refine xp_dr6 hj (by omega) hb6 ?_
      exact H
    · intro post H
      unfold wpY_operator
      refine yp_wt (br_t rfl (pk_eq U 200 (fun z => absurd z (by omega)) (fun _ => nm_r (nI_1 U) (nm_r (ho.2 0 (by decide)).symm (nm_e (br_f (by decide) (br_f (by decide) (br_f (by decide) (br_f (by decide) (br_f (by decide) (br_f (by decide) (br_f (by decide) (br_f (by decide) (br_f (by decide) (br_f (by decide) (br_f (by decide) (br_f (by decide) (br_f (by decide) (br_f (by decide) (br_t rfl (?_)))))))))))))))))))))
      rw [ej]
      refine yp_dr6 hj (by omega) hV hb6 ?_
      exact br_f (by decide) (br_f (by decide) (br_f (by decide) (H)))
  have hV6 : V < 6 := by
    have : ¬ V = 6 := fun z => hb6 (Or.inr z)
    omega
  have hn : ∀ f, f < T + 1 → ru f ≠ nI j := fun f h1 h2 => hb6 (Or.inl ⟨f, h1, h2⟩)
  have fe := rr_fre hf hV6 hj (a := (-1)) (Or.inl rfl)
  rw [if_pos rfl, Nat.add_zero] at fe
  refine ⟨0, (nI d, nI c, nI (T + 1 + 1), 0, nI (U + 1), -1, nI (V + 1), nI (L), 0, 0, xpf, xsx, xsy, xcx, xcy, dk, dv, sr, rs, rk, rv, ct, upd ru (T + 1) (nI j), upd pl (T + 1) 0, upd be (T + 1) (nI (V + 1)), upd mx (T + 1) (-1), xo, ma_w st (fun n => st (8 * V + n)) (8 * V + 8) 8, ma_w cp (rr_gs cp (192 * V)) (192 * V + 192) 192, pa, pn, fx, fy, tx, ty, fi, cr, cv), (nI c, nI K, nI (V + 1), nI (L), nI (T + 1 + 1), 0, 0, 0, nI (U + 1), 0, -1, ype, sr, ln, kd, nm, ma_w mt (fun n => mt (6 * V + n)) (6 * V + 6) 6, upd co (V + 1) (co V), upd wi (V + 1) (wi V), ma_w cp (rr_gs cp (192 * V)) (192 * V + 192) 192, pa, pn, upd ru (T + 1) (nI j), upd pl (T + 1) 0, upd sv (T + 1) 0, upd be (T + 1) (nI (V + 1)), upd mx (T + 1) (-1), bx, bo, ex, ey, fx, fy, tx, ty, yo), Or.inl ⟨rfl, _, Nat.le_of_eq fe.2, ⟨_, _, _, _, _, _, _, _, _, _, _, _, _, _, _, _, _, _, _, _, _, _, _, _, _, _, _, _, _, _, _, _, _, _, _, _, _, _, _, _, _, _, _, _, _, _, _, _, _, _, _, _, _, _, rfl, rfl, rfl, hd, rr_sts hs (by omega), hp, rr_op0, hc, hK, fe.1, rr_ple hl (nI j), ma_p0 F xsx xsy xcx xcy fx fy tx ty fi bx bo ex ey, fun z => absurd z (by decide)⟩⟩, ?_, ?_⟩
  · intro post H
    refine br_f (by decide) (br_f (by decide) (br_f (by decide) (br_f (by decide) (br_f (by decide) (br_f (by decide) (br_f (by decide) (br_f (by decide) (br_f (by decide) (br_f (by decide) (br_f (by decide) (br_f (by decide) (br_f (by decide) (br_f (by decide) (br_f (by decide) (br_t rfl ?_)))))))))))))))
    rw [ej]
    refine xp_dr0 hj (by omega) hV6 hn ?_
    exact H
  · intro post H
    unfold wpY_operator
    refine yp_wt (br_t rfl (pk_eq U 200 (fun z => absurd z (by omega)) (fun _ => nm_r (nI_1 U) (nm_r (ho.2 0 (by decide)).symm (nm_e (br_f (by decide) (br_f (by decide) (br_f (by decide) (br_f (by decide) (br_f (by decide) (br_f (by decide) (br_f (by decide) (br_f (by decide) (br_f (by decide) (br_f (by decide) (br_f (by decide) (br_f (by decide) (br_f (by decide) (br_f (by decide) (br_t rfl (?_)))))))))))))))))))))
    rw [ej]
    refine yp_dr0 hj (by omega) hV6 hn (by decide) ?_
    exact br_f (by decide) (br_f (by decide) (br_f (by decide) (H)))
theorem op_17 {K c d T L V U E P F : Nat} {A B G : Nat → Nat} (hU : U < 200) (m : Int32) (h : rr_H K (rr_need 17) c d T L V (U + 1) E P F A B G xpb xpf xsx xsy xcx xcy ype dk dv sr rs rk rv ct ru pl be mx xo st cp pa pn fx fy tx ty fi cr cv ln kd nm mt co wi sv bx bo ex ey yo) :
    ∃ (r : Int32) (u' : SX) (v' : SY), rr_Z K (rr_ph (U + 1) T A) r u' v' ∧ (∀ post : Int32 → SX → Prop, post r u' → wpX_operate post (nI d, nI c, nI (T + 1), 0, nI (U + 1), -1, nI V, nI L, nI E, xpb, xpf, xsx, xsy, xcx, xcy, dk, dv, sr, rs, rk, rv, ct, ru, pl, be, mx, xo, st, cp, pa, pn, fx, fy, tx, ty, fi, cr, cv) 17 m) ∧ (∀ post : SY → Prop, post v' → wpY_operator post (nI c, nI K, nI V, nI L, nI (T + 1), nI P, nI E, nI (rr_need 17), nI U, 0, -1, ype, sr, ln, kd, nm, mt, co, wi, cp, pa, pn, ru, pl, sv, be, mx, bx, bo, ex, ey, fx, fy, tx, ty, yo) 17 m) := by
  obtain ⟨hd, hs, hp, ho, hc, hK, hf, hl, hm, hb⟩ := h
  obtain ⟨hTV, hV, hLT⟩ := rr_frb hf
  by_cases a0 : xo 1 < 0
  · refine ⟨3, (nI d, nI c, nI (T + 1), 0, nI (U + 1), -1, nI V, nI L, nI E, xpb, xpf, xsx, xsy, xcx, xcy, dk, dv, sr, rs, rk, rv, ct, ru, pl, be, mx, xo, st, cp, pa, pn, fx, fy, tx, ty, fi, cr, cv), (nI c, nI K, nI V, nI L, nI (T + 1), nI P, nI E, 0, nI (U + 1), 3, -1, ype, sr, ln, kd, nm, mt, co, wi, cp, pa, pn, ru, pl, sv, be, mx, bx, bo, ex, ey, fx, fy, tx, ty, yo), Or.inr ⟨by decide, ⟨_, _, _, _, _, _, _, _, _, _, _, _, _, _, _, _, _, _, _, _, _, _, _, _, _, _, _, _, _, _, _, _, _, _, _, _, _, _, _, _, _, _, _, _, _, _, _, _, _, _, _, _, _, _, _, _, _, rfl, rfl, hd, hs, hp⟩⟩, ?_, ?_⟩
    · intro post H
      refine br_f (by decide) (br_f (by decide) (br_f (by decide) (br_f (by decide) (br_f (by decide) (br_f (by decide) (br_f (by decide) (br_f (by decide) (br_f (by decide) (br_f (by decide) (br_f (by decide) (br_f (by decide) (br_f (by decide) (br_f (by decide) (br_f (by decide) (br_f (by decide) (br_f (by decide) (br_f (by decide) (br_t rfl ?_))))))))))))))))))
      exact br_t a0 H
    · intro post H
      unfold wpY_operator
      refine yp_wt (br_t rfl (pk_eq U 200 (fun z => absurd z (by omega)) (fun _ => nm_r (nI_1 U) (nm_r (ho.2 0 (by decide)).symm (nm_r (ho.2 1 (by decide)).symm (br_f (by decide) (br_f (by decide) (br_f (by decide) (br_f (by decide) (br_f (by decide) (br_f (by decide) (br_f (by decide) (br_f (by decide) (br_f (by decide) (br_f (by decide) (br_f (by decide) (br_f (by decide) (br_f (by decide) (br_f (by decide) (br_f (by decide) (br_t rfl (?_))))))))))))))))))))))
      exact br_t a0 (br_f (by decide) (br_f (by decide) (br_f (by decide) (H))))
  by_cases a1 : xo 1 ≤ 16
  case neg =>
    refine ⟨3, (nI d, nI c, nI (T + 1), 0, nI (U + 1), -1, nI V, nI L, nI E, xpb, xpf, xsx, xsy, xcx, xcy, dk, dv, sr, rs, rk, rv, ct, ru, pl, be, mx, xo, st, cp, pa, pn, fx, fy, tx, ty, fi, cr, cv), (nI c, nI K, nI V, nI L, nI (T + 1), nI P, nI E, 0, nI (U + 1), 3, -1, ype, sr, ln, kd, nm, mt, co, wi, cp, pa, pn, ru, pl, sv, be, mx, bx, bo, ex, ey, fx, fy, tx, ty, yo), Or.inr ⟨by decide, ⟨_, _, _, _, _, _, _, _, _, _, _, _, _, _, _, _, _, _, _, _, _, _, _, _, _, _, _, _, _, _, _, _, _, _, _, _, _, _, _, _, _, _, _, _, _, _, _, _, _, _, _, _, _, _, _, _, _, rfl, rfl, hd, hs, hp⟩⟩, ?_, ?_⟩
    · intro post H
      refine br_f (by decide) (br_f (by decide) (br_f (by decide) (br_f (by decide) (br_f (by decide) (br_f (by decide) (br_f (by decide) (br_f (by decide) (br_f (by decide) (br_f (by decide) (br_f (by decide) (br_f (by decide) (br_f (by decide) (br_f (by decide) (br_f (by decide) (br_f (by decide) (br_f (by decide) (br_f (by decide) (br_t rfl ?_))))))))))))))))))
      exact br_f a0 (br_f a1 H)
    · intro post H
      unfold wpY_operator
      refine yp_wt (br_t rfl (pk_eq U 200 (fun z => absurd z (by omega)) (fun _ => nm_r (nI_1 U) (nm_r (ho.2 0 (by decide)).symm (nm_r (ho.2 1 (by decide)).symm (br_f (by decide) (br_f (by decide) (br_f (by decide) (br_f (by decide) (br_f (by decide) (br_f (by decide) (br_f (by decide) (br_f (by decide) (br_f (by decide) (br_f (by decide) (br_f (by decide) (br_f (by decide) (br_f (by decide) (br_f (by decide) (br_f (by decide) (br_t rfl (?_))))))))))))))))))))))
      exact br_f a0 (br_f a1 (br_f (by decide) (br_f (by decide) (br_f (by decide) (H)))))
  have a16 := (mb_16 (xo 1)).mpr ⟨a0, Int32.not_lt.mpr a1⟩
  have an1 := (mb_n1 a16.1).1
  rcases pk_ix (xo 0) (n := 6) (by omega) with h1 | h1 | ⟨j, hj, ej⟩
  · refine ⟨3, (nI d, nI c, nI (T + 1), 0, nI (U + 1), -1, nI V, nI L, nI E, xpb, xpf, xsx, xsy, xcx, xcy, dk, dv, sr, rs, rk, rv, ct, ru, pl, be, mx, xo, st, cp, pa, pn, fx, fy, tx, ty, fi, cr, cv), (nI c, nI K, nI V, nI L, nI (T + 1), nI P, nI E, 0, nI (U + 1), 3, -1, ype, sr, ln, kd, nm, mt, co, wi, cp, pa, pn, ru, pl, sv, be, mx, bx, bo, ex, ey, fx, fy, tx, ty, yo), Or.inr ⟨by decide, ⟨_, _, _, _, _, _, _, _, _, _, _, _, _, _, _, _, _, _, _, _, _, _, _, _, _, _, _, _, _, _, _, _, _, _, _, _, _, _, _, _, _, _, _, _, _, _, _, _, _, _, _, _, _, _, _, _, _, rfl, rfl, hd, hs, hp⟩⟩, ?_, ?_⟩
    · intro post H
      refine br_f (by decide) (br_f (by decide) (br_f (by decide) (br_f (by decide) (br_f (by decide) (br_f (by decide) (br_f (by decide) (br_f (by decide) (br_f (by decide) (br_f (by decide) (br_f (by decide) (br_f (by decide) (br_f (by decide) (br_f (by decide) (br_f (by decide) (br_f (by decide) (br_f (by decide) (br_f (by decide) (br_t rfl ?_))))))))))))))))))
      refine br_f a0 (br_t a1 (xp_dr3 (Or.inl h1) ?_))
      exact br_f (by decide) H
    · intro post H
      unfold wpY_operator
      refine yp_wt (br_t rfl (pk_eq U 200 (fun z => absurd z (by omega)) (fun _ => nm_r (nI_1 U) (nm_r (ho.2 0 (by decide)).symm (nm_r (ho.2 1 (by decide)).symm (br_f (by decide) (br_f (by decide) (br_f (by decide) (br_f (by decide) (br_f (by decide) (br_f (by decide) (br_f (by decide) (br_f (by decide) (br_f (by decide) (br_f (by decide) (br_f (by decide) (br_f (by decide) (br_f (by decide) (br_f (by decide) (br_f (by decide) (br_t rfl (?_))))))))))))))))))))))
      refine br_f a0 (br_t a1 (yp_dr3 (Or.inl h1) ?_))
      exact br_f (by decide) (br_f (by decide) (br_f (by decide) (H)))
  · refine ⟨3, (nI d, nI c, nI (T + 1), 0, nI (U + 1), -1, nI V, nI L, nI E, xpb, xpf, xsx, xsy, xcx, xcy, dk, dv, sr, rs, rk, rv, ct, ru, pl, be, mx, xo, st, cp, pa, pn, fx, fy, tx, ty, fi, cr, cv), (nI c, nI K, nI V, nI L, nI (T + 1), nI P, nI E, 0, nI (U + 1), 3, -1, ype, sr, ln, kd, nm, mt, co, wi, cp, pa, pn, ru, pl, sv, be, mx, bx, bo, ex, ey, fx, fy, tx, ty, yo), Or.inr ⟨by decide, ⟨_, _, _, _, _, _, _, _, _, _, _, _, _, _, _, _, _, _, _, _, _, _, _, _, _, _, _, _, _, _, _, _, _, _, _, _, _, _, _, _, _, _, _, _, _, _, _, _, _, _, _, _, _, _, _, _, _, rfl, rfl, hd, hs, hp⟩⟩, ?_, ?_⟩
    · intro post H
      refine br_f (by decide) (br_f (by decide) (br_f (by decide) (br_f (by decide) (br_f (by decide) (br_f (by decide) (br_f (by decide) (br_f (by decide) (br_f (by decide) (br_f (by decide) (br_f (by decide) (br_f (by decide) (br_f (by decide) (br_f (by decide) (br_f (by decide) (br_f (by decide) (br_f (by decide) (br_f (by decide) (br_t rfl ?_))))))))))))))))))
      refine br_f a0 (br_t a1 (xp_dr3 (Or.inr h1) ?_))
      exact br_f (by decide) H
    · intro post H
      unfold wpY_operator
      refine yp_wt (br_t rfl (pk_eq U 200 (fun z => absurd z (by omega)) (fun _ => nm_r (nI_1 U) (nm_r (ho.2 0 (by decide)).symm (nm_r (ho.2 1 (by decide)).symm (br_f (by decide) (br_f (by decide) (br_f (by decide) (br_f (by decide) (br_f (by decide) (br_f (by decide) (br_f (by decide) (br_f (by decide) (br_f (by decide) (br_f (by decide) (br_f (by decide) (br_f (by decide) (br_f (by decide) (br_f (by decide) (br_f (by decide) (br_t rfl (?_))))))))))))))))))))))
      refine br_f a0 (br_t a1 (yp_dr3 (Or.inr h1) ?_))
      exact br_f (by decide) (br_f (by decide) (br_f (by decide) (H)))
  by_cases hb6 : (∃ f, f < T + 1 ∧ ru f = nI j) ∨ V = 6
  · refine ⟨6, (nI d, nI c, nI (T + 1), 0, nI (U + 1), -1, nI V, nI L, nI E, xpb, xpf, xsx, xsy, xcx, xcy, dk, dv, sr, rs, rk, rv, ct, ru, pl, be, mx, xo, st, cp, pa, pn, fx, fy, tx, ty, fi, cr, cv), (nI c, nI K, nI V, nI L, nI (T + 1), nI P, nI E, 0, nI (U + 1), 6, -1, ype, sr, ln, kd, nm, mt, co, wi, cp, pa, pn, ru, pl, sv, be, mx, bx, bo, ex, ey, fx, fy, tx, ty, yo), Or.inr ⟨by decide, ⟨_, _, _, _, _, _, _, _, _, _, _, _, _, _, _, _, _, _, _, _, _, _, _, _, _, _, _, _, _, _, _, _, _, _, _, _, _, _, _, _, _, _, _, _, _, _, _, _, _, _, _, _, _, _, _, _, _, rfl, rfl, hd, hs, hp⟩⟩, ?_, ?_⟩
    · intro post H
      refine br_f (by decide) (br_f (by decide) (br_f (by decide) (br_f (by decide) (br_f (by decide) (br_f (by decide) (br_f (by decide) (br_f (by decide) (br_f (by decide) (br_f (by decide) (br_f (by decide) (br_f (by decide) (br_f (by decide) (br_f (by decide) (br_f (by decide) (br_f (by decide) (br_f (by decide) (br_f (by decide) (br_t rfl ?_))))))))))))))))))
      rw [ej]
      refine br_f a0 (br_t a1 (xp_dr6 hj (by omega) hb6 ?_))
      exact br_f (by decide) H
    · intro post H
      unfold wpY_operator
      refine yp_wt (br_t rfl (pk_eq U 200 (fun z => absurd z (by omega)) (fun _ => nm_r (nI_1 U) (nm_r (ho.2 0 (by decide)).symm (nm_r (ho.2 1 (by decide)).symm (br_f (by decide) (br_f (by decide) (br_f (by decide) (br_f (by decide) (br_f (by decide) (br_f (by decide) (br_f (by decide) (br_f (by decide) (br_f (by decide) (br_f (by decide) (br_f (by decide) (br_f (by decide) (br_f (by decide) (br_f (by decide) (br_f (by decide) (br_t rfl (?_))))))))))))))))))))))
      rw [ej]
      refine br_f a0 (br_t a1 (yp_dr6 hj (by omega) hV hb6 ?_))
      exact br_f (by decide) (br_f (by decide) (br_f (by decide) (H)))
  have hV6 : V < 6 := by
    have : ¬ V = 6 := fun z => hb6 (Or.inr z)
    omega
  have hn : ∀ f, f < T + 1 → ru f ≠ nI j := fun f h1 h2 => hb6 (Or.inl ⟨f, h1, h2⟩)
  have fe := rr_fre hf hV6 hj (a := (xo 1)) (Or.inr a16)
  rw [if_neg an1] at fe
  refine ⟨0, (nI d, nI c, nI (T + 1 + 1), 0, nI (U + 1), -1, nI (V + 1), nI (L + 1), 0, 0, xpf, xsx, xsy, xcx, xcy, dk, dv, sr, rs, rk, rv, ct, upd ru (T + 1) (nI j), upd pl (T + 1) 0, upd be (T + 1) (nI (V + 1)), upd mx (T + 1) (xo 1), xo, ma_w st (fun n => st (8 * V + n)) (8 * V + 8) 8, ma_w cp (rr_gs cp (192 * V)) (192 * V + 192) 192, ma_w pa (fun _ => -1) (192 * (L + 1)) 192, ma_w pn (fun _ => -1) (192 * (L + 1)) 192, fx, fy, tx, ty, fi, cr, cv), (nI c, nI K, nI (V + 1), nI (L + 1), nI (T + 1 + 1), 0, 0, 0, nI (U + 1), 0, -1, ype, sr, ln, kd, nm, ma_w mt (fun n => mt (6 * V + n)) (6 * V + 6) 6, upd co (V + 1) (co V), upd wi (V + 1) (wi V), ma_w cp (rr_gs cp (192 * V)) (192 * V + 192) 192, ma_w pa (fun _ => -1) (192 * (L + 1)) 192, ma_w pn (fun _ => -1) (192 * (L + 1)) 192, upd ru (T + 1) (nI j), upd pl (T + 1) 0, upd sv (T + 1) 0, upd be (T + 1) (nI (V + 1)), upd mx (T + 1) (xo 1), bx, bo, ex, ey, fx, fy, tx, ty, yo), Or.inl ⟨rfl, _, Nat.le_of_eq fe.2, ⟨_, _, _, _, _, _, _, _, _, _, _, _, _, _, _, _, _, _, _, _, _, _, _, _, _, _, _, _, _, _, _, _, _, _, _, _, _, _, _, _, _, _, _, _, _, _, _, _, _, _, _, _, _, _, rfl, rfl, rfl, hd, rr_sts hs (by omega), fun i => ma_wall (P := fun x => x = -1 ∨ rr_c1 x) hp (fun _ _ => Or.inl rfl) i, rr_op0, hc, hK, fe.1, rr_ple hl (nI j), ma_p0 F xsx xsy xcx xcy fx fy tx ty fi bx bo ex ey, fun z => absurd z (by decide)⟩⟩, ?_, ?_⟩
  · intro post H
    refine br_f (by decide) (br_f (by decide) (br_f (by decide) (br_f (by decide) (br_f (by decide) (br_f (by decide) (br_f (by decide) (br_f (by decide) (br_f (by decide) (br_f (by decide) (br_f (by decide) (br_f (by decide) (br_f (by decide) (br_f (by decide) (br_f (by decide) (br_f (by decide) (br_f (by decide) (br_f (by decide) (br_t rfl ?_))))))))))))))))))
    rw [ej]
    refine br_f a0 (br_t a1 (xp_dr0 hj (by omega) hV6 hn (br_t rfl (nm_r (nI_1 L) (xp_cl (by omega) ?_)))))
    exact H
  · intro post H
    unfold wpY_operator
    refine yp_wt (br_t rfl (pk_eq U 200 (fun z => absurd z (by omega)) (fun _ => nm_r (nI_1 U) (nm_r (ho.2 0 (by decide)).symm (nm_r (ho.2 1 (by decide)).symm (br_f (by decide) (br_f (by decide) (br_f (by decide) (br_f (by decide) (br_f (by decide) (br_f (by decide) (br_f (by decide) (br_f (by decide) (br_f (by decide) (br_f (by decide) (br_f (by decide) (br_f (by decide) (br_f (by decide) (br_f (by decide) (br_f (by decide) (br_t rfl (?_))))))))))))))))))))))
    rw [ej]
    refine br_f a0 (br_t a1 (yp_dr0g hj (by omega) hV6 (by omega) hn a0 ?_))
    exact br_f (by decide) (br_f (by decide) (br_f (by decide) (H)))
