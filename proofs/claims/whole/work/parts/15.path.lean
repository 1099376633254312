variable {xds xrc xde xoc xun xfp xsc xtl xec xpb xpf xsx xsy xcx xcy yrc ysh yle yla yde ypa yed yoc yun yfa ywh ype : Int32} {dk dv sr rs rk rv ct ru pl be mx xo st cp pa pn fx fy tx ty fi cr cv ln kd nm mt co wi sv bx bo ex ey yo : Nat → Int32}
/-! the path's methods, each side against the other -/
def rr_PS (r : Int32) (E P F : Nat) (xpb xpf xsx xsy xcx xcy ype : Int32) (fx fy tx ty fi bx bo ex ey : Nat → Int32) : Prop := r = 0 → ma_path E P F xpb xsx xsy xcx xcy fx fy tx ty fi bx bo ex ey ∧ (xpb = 1 → xpf = nI F ∧ ype = nI (E - F))
theorem sp_edge {E P F : Nat} {x y : Int32} (h : ma_path E P F xpb xsx xsy xcx xcy fx fy tx ty fi bx bo ex ey) (hb : xpb = 1 → xpf = nI F ∧ ype = nI (E - F)) (hx : ma_bd 4000 x) (hy : ma_bd 4000 y) :
    ∃ (r : Int32) (E' : Nat) (xcx' xcy' ype' : Int32) (fx' fy' tx' ty' fi' ex' ey' : Nat → Int32), rr_PS r E' P F xpb xpf xsx xsy xcx' xcy' ype' fx' fy' tx' ty' fi' bx bo ex' ey' ∧
      (∀ post : Int32 → SX → Prop, post r (xds, xrc, xde, xoc, xun, xfp, xsc, xtl, nI E', xpb, xpf, xsx, xsy, xcx', xcy', dk, dv, sr, rs, rk, rv, ct, ru, pl, be, mx, xo, st, cp, pa, pn, fx', fy', tx', ty', fi', cr, cv) → wpX_addEdge post (xds, xrc, xde, xoc, xun, xfp, xsc, xtl, nI E, xpb, xpf, xsx, xsy, xcx, xcy, dk, dv, sr, rs, rk, rv, ct, ru, pl, be, mx, xo, st, cp, pa, pn, fx, fy, tx, ty, fi, cr, cv) x y) ∧
      (∀ post : SY → Prop, post (yrc, ysh, yle, yla, yde, nI P, nI E', yoc, yun, r, ywh, ype', sr, ln, kd, nm, mt, co, wi, cp, pa, pn, ru, pl, sv, be, mx, bx, bo, ex', ey', fx', fy', tx', ty', yo) → wpY_edge post (yrc, ysh, yle, yla, yde, nI P, nI E, yoc, yun, 0, ywh, ype, sr, ln, kd, nm, mt, co, wi, cp, pa, pn, ru, pl, sv, be, mx, bx, bo, ex, ey, fx, fy, tx, ty, yo) x y) := by
  have hE := h.1
  rcases h.2.2.2.2.2 with ⟨b0, P0, E0⟩ | ⟨b1, p, hp, hpE, hFE, _, _, cc1, cc2, _⟩
  · exact ⟨4, E, xcx, xcy, ype, fx, fy, tx, ty, fi, ex, ey, fun z => absurd z (by decide), fun post H => br_t b0 H, fun post H => pk_eq P 0 (fun _ => H) (fun z => absurd P0 z)⟩
  · by_cases hE4 : E < 24
    · obtain ⟨f1, f2⟩ := hb b1
      have h' := ma_pedge h b1 hE4 hx hy p hp
      have c0 : (nI E).toNatClampNeg = E := pk_cl E
      have i0 : vp_in (nI E) 24 := pk_in E 24 hE4
      have e1 : nI P - 1 = nI p := by
        rw [hp]
        exact nI_pred p
      have c1 : (nI p).toNatClampNeg = p := pk_cl p
      have i1 : vp_in (nI p) 30 := pk_in p 30 (by omega)
      have e2 : ype + 1 = nI (E + 1 - F) := by
        rw [f2, nI_1]
        exact congrArg nI (by omega)
      refine ⟨0, E + 1, x, y, nI (E + 1 - F), upd fx E xcx, upd fy E xcy, upd tx E x, upd ty E y, upd fi E (nI F), upd ex p x, upd ey p y, fun _ => ⟨h', fun _ => ⟨f1, rfl⟩⟩, fun post H => ?_, fun post H => ?_⟩
      · exact br_f (by rw [b1]; decide) (pk_lt E 24 (fun _ => ⟨i0, nm_r (by rw [c0]) ⟨i0, nm_r (by rw [c0]) ⟨i0, nm_r (by rw [c0]) ⟨i0, nm_r (by rw [c0]) ⟨i0, nm_r (by rw [c0, f1]) (nm_r (nI_1 E) H)⟩⟩⟩⟩⟩) (fun z => absurd z (by omega)))
      · exact pk_eq P 0 (fun z => absurd z (by omega)) (fun _ => pk_eq E 24 (fun z => absurd z (by omega)) (fun _ => nm_r e1 ⟨i1, i0, nm_r (by rw [c0, c1, cc1]) ⟨i1, i0, nm_r (by rw [c0, c1, cc2]) ⟨i0, nm_r (by rw [c0]) ⟨i0, nm_r (by rw [c0]) (nm_r (nI_1 E) (nm_r e2 ⟨i1, nm_r (by rw [c1]) ⟨i1, nm_r (by rw [c1]) H⟩⟩))⟩⟩⟩⟩))
    · have e24 : E = 24 := by omega
      exact ⟨5, E, xcx, xcy, ype, fx, fy, tx, ty, fi, ex, ey, fun z => absurd z (by decide), fun post H => br_f (by rw [b1]; decide) (pk_lt E 24 (fun z => absurd z hE4) (fun _ => H)), fun post H => pk_eq P 0 (fun z => absurd z (by omega)) (fun _ => pk_eq E 24 (fun _ => H) (fun z => absurd e24 z))⟩
theorem sp_close {E P F : Nat} (h : ma_path E P F xpb xsx xsy xcx xcy fx fy tx ty fi bx bo ex ey) (hb : xpb = 1 → xpf = nI F ∧ ype = nI (E - F)) :
    ∃ (r : Int32) (E' : Nat) (xcx' xcy' ype' : Int32) (fx' fy' tx' ty' fi' ex' ey' : Nat → Int32), rr_PS r E' P F xpb xpf xsx xsy xcx' xcy' ype' fx' fy' tx' ty' fi' bx bo ex' ey' ∧
      (∀ post : Int32 → SX → Prop, post r (xds, xrc, xde, xoc, xun, xfp, xsc, xtl, nI E', xpb, xpf, xsx, xsy, xcx', xcy', dk, dv, sr, rs, rk, rv, ct, ru, pl, be, mx, xo, st, cp, pa, pn, fx', fy', tx', ty', fi', cr, cv) → wpX_addEdge post (xds, xrc, xde, xoc, xun, xfp, xsc, xtl, nI E, xpb, xpf, xsx, xsy, xcx, xcy, dk, dv, sr, rs, rk, rv, ct, ru, pl, be, mx, xo, st, cp, pa, pn, fx, fy, tx, ty, fi, cr, cv) xsx xsy) ∧
      (∀ post : SY → Prop, post (yrc, ysh, yle, yla, yde, nI P, nI E', yoc, yun, r, ywh, ype', sr, ln, kd, nm, mt, co, wi, cp, pa, pn, ru, pl, sv, be, mx, bx, bo, ex', ey', fx', fy', tx', ty', yo) → wpY_closePart post (yrc, ysh, yle, yla, yde, nI P, nI E, yoc, yun, 0, ywh, ype, sr, ln, kd, nm, mt, co, wi, cp, pa, pn, ru, pl, sv, be, mx, bx, bo, ex, ey, fx, fy, tx, ty, yo)) := by
  rcases h.2.2.2.2.2 with ⟨b0, P0, E0⟩ | ⟨b1, p, hp, hpE, hFE, s1, s2, _⟩
  · exact ⟨4, E, xcx, xcy, ype, fx, fy, tx, ty, fi, ex, ey, fun z => absurd z (by decide), fun post H => br_t b0 H, fun post H => pk_eq P 0 (fun _ => H) (fun z => absurd P0 z)⟩
  · have hq := h.2.2.2.1 p (by omega)
    have hE := h.1
    have e1 : nI P - 1 = nI p := by
      rw [hp]
      exact nI_pred p
    have c1 : (nI P - 1).toNatClampNeg = p := pk_cl p e1
    have i1 : vp_in (nI P - 1) 30 := pk_in p 30 (by omega) e1
    have kx : ma_bd 4000 xsx := by
      rw [s1]
      exact hq.1
    have ky : ma_bd 4000 xsy := by
      rw [s2]
      exact hq.2.1
    obtain ⟨r, E', xcx', xcy', ype', fx', fy', tx', ty', fi', ex', ey', hps, hX, hY⟩ := sp_edge h hb kx ky
    refine ⟨r, E', xcx', xcy', ype', fx', fy', tx', ty', fi', ex', ey', hps, hX, fun post H => pk_eq P 0 (fun z => absurd z (by omega)) (fun _ => ⟨i1, i1, ?_⟩)⟩
    rw [c1, ← s1, ← s2]
    exact hY _ H
def rr_mX (mt : Nat → Int32) (V : Nat) (x y : Int32) : Int32 := mt (6 * V) * x + mt (6 * V + 2) * y + mt (6 * V + 4)
def rr_mY (mt : Nat → Int32) (V : Nat) (x y : Int32) : Int32 := mt (6 * V + 1) * x + mt (6 * V + 3) * y + mt (6 * V + 5)
theorem yp_mx {post : Int32 → Prop} {V : Nat} {x y : Int32} (hV : V ≤ 6) (H : post (rr_mX mt V x y)) : wpY_mapX post (yrc, ysh, nI V, yla, yde, ypa, yed, yoc, yun, yfa, ywh, ype, sr, ln, kd, nm, mt, co, wi, cp, pa, pn, ru, pl, sv, be, mx, bx, bo, ex, ey, fx, fy, tx, ty, yo) x y := by
  have c0 : (nI (6 * V)).toNatClampNeg = 6 * V := pk_cl (6 * V)
  have c2 : (nI (6 * V) + 2).toNatClampNeg = 6 * V + 2 := pk_cl (6 * V + 2) (nI_add (6 * V) 2)
  have c4 : (nI (6 * V) + 4).toNatClampNeg = 6 * V + 4 := pk_cl (6 * V + 4) (nI_add (6 * V) 4)
  refine nm_r (mb_mr 6 V) ⟨pk_in (6 * V) 42 (by omega), pk_in (6 * V + 2) 42 (by omega) (nI_add (6 * V) 2), pk_in (6 * V + 4) 42 (by omega) (nI_add (6 * V) 4), ?_⟩
  rw [c0, c2, c4]
  exact H
theorem yp_my {post : Int32 → Prop} {V : Nat} {x y : Int32} (hV : V ≤ 6) (H : post (rr_mY mt V x y)) : wpY_mapY post (yrc, ysh, nI V, yla, yde, ypa, yed, yoc, yun, yfa, ywh, ype, sr, ln, kd, nm, mt, co, wi, cp, pa, pn, ru, pl, sv, be, mx, bx, bo, ex, ey, fx, fy, tx, ty, yo) x y := by
  have c1 : (nI (6 * V) + 1).toNatClampNeg = 6 * V + 1 := pk_cl (6 * V + 1) (nI_add (6 * V) 1)
  have c3 : (nI (6 * V) + 3).toNatClampNeg = 6 * V + 3 := pk_cl (6 * V + 3) (nI_add (6 * V) 3)
  have c5 : (nI (6 * V) + 5).toNatClampNeg = 6 * V + 5 := pk_cl (6 * V + 5) (nI_add (6 * V) 5)
  refine nm_r (mb_mr 6 V) ⟨pk_in (6 * V + 1) 42 (by omega) (nI_add (6 * V) 1), pk_in (6 * V + 3) 42 (by omega) (nI_add (6 * V) 3), pk_in (6 * V + 5) 42 (by omega) (nI_add (6 * V) 5), ?_⟩
  rw [c1, c3, c5]
  exact H
theorem yp_nr1 {post : Int32 → Prop} {x : Int32} (h : ma_bd 4000 x) (H : post 1) : wpY_near post (yrc, ysh, yle, yla, yde, ypa, yed, yoc, yun, yfa, ywh, ype, sr, ln, kd, nm, mt, co, wi, cp, pa, pn, ru, pl, sv, be, mx, bx, bo, ex, ey, fx, fy, tx, ty, yo) x := br_f ((mb_k x).mp h).1 (br_f ((mb_k x).mp h).2 H)
theorem yp_nr0 {post : Int32 → Prop} {x : Int32} (h : ¬ ma_bd 4000 x) (H : post 0) : wpY_near post (yrc, ysh, yle, yla, yde, ypa, yed, yoc, yun, yfa, ywh, ype, sr, ln, kd, nm, mt, co, wi, cp, pa, pn, ru, pl, sv, be, mx, bx, bo, ex, ey, fx, fy, tx, ty, yo) x := br_c (fun _ => H) (fun a => br_c (fun _ => H) (fun b => absurd ((mb_k x).mpr ⟨a, b⟩) h))
theorem rr_xmap {st mt co wi : Nat → Int32} (h : rr_st st mt co wi) {V : Nat} (hV : V ≤ 6) (x y : Int32) : st (nI (8 * V)).toNatClampNeg * x + st (nI (8 * V) + 2).toNatClampNeg * y + st (nI (8 * V) + 4).toNatClampNeg = rr_mX mt V x y ∧ st (nI (8 * V) + 1).toNatClampNeg * x + st (nI (8 * V) + 3).toNatClampNeg * y + st (nI (8 * V) + 5).toNatClampNeg = rr_mY mt V x y := by
  obtain ⟨h1, _⟩ := h V (by omega)
  have c0 : (nI (8 * V)).toNatClampNeg = 8 * V + 0 := pk_cl (8 * V)
  have c1 : (nI (8 * V) + 1).toNatClampNeg = 8 * V + 1 := pk_cl (8 * V + 1) (nI_add (8 * V) 1)
  have c2 : (nI (8 * V) + 2).toNatClampNeg = 8 * V + 2 := pk_cl (8 * V + 2) (nI_add (8 * V) 2)
  have c3 : (nI (8 * V) + 3).toNatClampNeg = 8 * V + 3 := pk_cl (8 * V + 3) (nI_add (8 * V) 3)
  have c4 : (nI (8 * V) + 4).toNatClampNeg = 8 * V + 4 := pk_cl (8 * V + 4) (nI_add (8 * V) 4)
  have c5 : (nI (8 * V) + 5).toNatClampNeg = 8 * V + 5 := pk_cl (8 * V + 5) (nI_add (8 * V) 5)
  rw [c0, c1, c2, c3, c4, c5, h1 0 (by omega), h1 1 (by omega), h1 2 (by omega), h1 3 (by omega), h1 4 (by omega), h1 5 (by omega)]
  exact ⟨rfl, rfl⟩
theorem rr_i8 {V : Nat} (hV : V ≤ 6) : vp_in (nI (8 * V)) 56 ∧ vp_in (nI (8 * V) + 1) 56 ∧ vp_in (nI (8 * V) + 2) 56 ∧ vp_in (nI (8 * V) + 3) 56 ∧ vp_in (nI (8 * V) + 4) 56 ∧ vp_in (nI (8 * V) + 5) 56 :=
  ⟨pk_in (8 * V) 56 (by omega), pk_in (8 * V + 1) 56 (by omega) (nI_add (8 * V) 1), pk_in (8 * V + 2) 56 (by omega) (nI_add (8 * V) 2), pk_in (8 * V + 3) 56 (by omega) (nI_add (8 * V) 3), pk_in (8 * V + 4) 56 (by omega) (nI_add (8 * V) 4), pk_in (8 * V + 5) 56 (by omega) (nI_add (8 * V) 5)⟩
theorem rr_le4 {x : Int32} (h : ma_bd 4000 x) : ¬ x < -4000 ∧ x ≤ 4000 := ⟨((mb_k x).mp h).1, Int32.not_lt.mp ((mb_k x).mp h).2⟩
theorem rr_le4' {x : Int32} (a : ¬ x < -4000) (b : x ≤ 4000) : ma_bd 4000 x := (mb_k x).mpr ⟨a, Int32.not_lt.mpr b⟩
/-- a point out of range -/
theorem xp_pt3 {post : Int32 → SX → Prop} {V : Nat} {x y b : Int32} (hV : V ≤ 6) (hs : rr_st st mt co wi) (hn : ¬ (ma_bd 4000 (rr_mX mt V x y) ∧ ma_bd 4000 (rr_mY mt V x y))) (H : post 3 (xds, xrc, xde, xoc, xun, xfp, nI V, xtl, xec, xpb, xpf, xsx, xsy, xcx, xcy, dk, dv, sr, rs, rk, rv, ct, ru, pl, be, mx, xo, st, cp, pa, pn, fx, fy, tx, ty, fi, cr, cv)) : wpX_addPoint post (xds, xrc, xde, xoc, xun, xfp, nI V, xtl, xec, xpb, xpf, xsx, xsy, xcx, xcy, dk, dv, sr, rs, rk, rv, ct, ru, pl, be, mx, xo, st, cp, pa, pn, fx, fy, tx, ty, fi, cr, cv) x y b := by
  obtain ⟨e1, e2⟩ := rr_xmap hs hV x y
  obtain ⟨i0, i1, i2, i3, i4, i5⟩ := rr_i8 hV
  exact nm_r (mb_ml 8 V) ⟨i0, i2, i4, nm_r e1 ⟨i1, i3, i5, nm_r e2 (br_c (fun _ => H) (fun k1 => br_c (fun k2 => br_c (fun _ => H) (fun k3 => br_c (fun k4 => absurd ⟨rr_le4' k1 k2, rr_le4' k3 k4⟩ hn) (fun _ => H))) (fun _ => H)))⟩⟩
theorem yp_ln3 {post : SY → Prop} {V : Nat} {x y : Int32} (hV : V ≤ 6) (hn : ¬ (ma_bd 4000 (rr_mX mt V x y) ∧ ma_bd 4000 (rr_mY mt V x y))) (H : post (yrc, ysh, nI V, yla, yde, ypa, yed, yoc, yun, 3, ywh, ype, sr, ln, kd, nm, mt, co, wi, cp, pa, pn, ru, pl, sv, be, mx, bx, bo, ex, ey, fx, fy, tx, ty, yo)) : wpY_lineTo post (yrc, ysh, nI V, yla, yde, ypa, yed, yoc, yun, yfa, ywh, ype, sr, ln, kd, nm, mt, co, wi, cp, pa, pn, ru, pl, sv, be, mx, bx, bo, ex, ey, fx, fy, tx, ty, yo) x y := by
  unfold wpY_lineTo
  refine yp_mx hV (yp_my hV ?_)
  by_cases kx : ma_bd 4000 (rr_mX mt V x y)
  · exact yp_nr1 kx (br_f (by decide) (yp_nr0 (fun ky => hn ⟨kx, ky⟩) (br_t rfl H)))
  · exact yp_nr0 kx (br_t rfl H)
theorem yp_mv3 {post : SY → Prop} {V : Nat} {x y : Int32} (hV : V ≤ 6) (hn : ¬ (ma_bd 4000 (rr_mX mt V x y) ∧ ma_bd 4000 (rr_mY mt V x y))) (H : post (yrc, ysh, nI V, yla, yde, ypa, yed, yoc, yun, 3, ywh, ype, sr, ln, kd, nm, mt, co, wi, cp, pa, pn, ru, pl, sv, be, mx, bx, bo, ex, ey, fx, fy, tx, ty, yo)) : wpY_moveTo post (yrc, ysh, nI V, yla, yde, ypa, yed, yoc, yun, yfa, ywh, ype, sr, ln, kd, nm, mt, co, wi, cp, pa, pn, ru, pl, sv, be, mx, bx, bo, ex, ey, fx, fy, tx, ty, yo) x y := by
  unfold wpY_moveTo
  refine yp_mx hV (yp_my hV ?_)
  by_cases kx : ma_bd 4000 (rr_mX mt V x y)
  · exact yp_nr1 kx (br_f (by decide) (yp_nr0 (fun ky => hn ⟨kx, ky⟩) (br_t rfl H)))
  · exact yp_nr0 kx (br_t rfl H)
theorem sp_line {E P F V : Nat} (hV : V ≤ 6) (hs : rr_st st mt co wi) (h : ma_path E P F xpb xsx xsy xcx xcy fx fy tx ty fi bx bo ex ey) (hb : xpb = 1 → xpf = nI F ∧ ype = nI (E - F)) (x y : Int32) :
    ∃ (r : Int32) (E' : Nat) (xcx' xcy' ype' : Int32) (fx' fy' tx' ty' fi' ex' ey' : Nat → Int32), rr_PS r E' P F xpb xpf xsx xsy xcx' xcy' ype' fx' fy' tx' ty' fi' bx bo ex' ey' ∧
      (∀ post : Int32 → SX → Prop, post r (xds, xrc, xde, xoc, xun, xfp, nI V, xtl, nI E', xpb, xpf, xsx, xsy, xcx', xcy', dk, dv, sr, rs, rk, rv, ct, ru, pl, be, mx, xo, st, cp, pa, pn, fx', fy', tx', ty', fi', cr, cv) → wpX_addPoint post (xds, xrc, xde, xoc, xun, xfp, nI V, xtl, nI E, xpb, xpf, xsx, xsy, xcx, xcy, dk, dv, sr, rs, rk, rv, ct, ru, pl, be, mx, xo, st, cp, pa, pn, fx, fy, tx, ty, fi, cr, cv) x y 0) ∧
      (∀ post : SY → Prop, post (yrc, ysh, nI V, yla, yde, nI P, nI E', yoc, yun, r, ywh, ype', sr, ln, kd, nm, mt, co, wi, cp, pa, pn, ru, pl, sv, be, mx, bx, bo, ex', ey', fx', fy', tx', ty', yo) → wpY_lineTo post (yrc, ysh, nI V, yla, yde, nI P, nI E, yoc, yun, 0, ywh, ype, sr, ln, kd, nm, mt, co, wi, cp, pa, pn, ru, pl, sv, be, mx, bx, bo, ex, ey, fx, fy, tx, ty, yo) x y) := by
  by_cases hk : ma_bd 4000 (rr_mX mt V x y) ∧ ma_bd 4000 (rr_mY mt V x y)
  · obtain ⟨kx, ky⟩ := hk
    obtain ⟨r, E', xcx', xcy', ype', fx', fy', tx', ty', fi', ex', ey', hps, hX, hY⟩ := sp_edge h hb kx ky
    obtain ⟨e1, e2⟩ := rr_xmap hs hV x y
    obtain ⟨i0, i1, i2, i3, i4, i5⟩ := rr_i8 hV
    exact ⟨r, E', xcx', xcy', ype', fx', fy', tx', ty', fi', ex', ey', hps, fun post H => nm_r (mb_ml 8 V) ⟨i0, i2, i4, nm_r e1 ⟨i1, i3, i5, nm_r e2 (br_f (rr_le4 kx).1 (br_t (rr_le4 kx).2 (br_f (rr_le4 ky).1 (br_t (rr_le4 ky).2 (br_t rfl (hX _ H))))))⟩⟩, fun post H => by
      unfold wpY_lineTo
      exact yp_mx hV (yp_my hV (yp_nr1 kx (br_f (by decide) (yp_nr1 ky (br_f (by decide) (hY _ H))))))⟩
  · exact ⟨3, E, xcx, xcy, ype, fx, fy, tx, ty, fi, ex, ey, fun z => absurd z (by decide), fun post H => xp_pt3 hV hs hk H, fun post H => yp_ln3 hV hk H⟩
theorem sp_back {E P F V : Nat} (hV : V ≤ 6) (hs : rr_st st mt co wi) (h : ma_path E P F xpb xsx xsy xcx xcy fx fy tx ty fi bx bo ex ey) (hb : xpb = 1 → xpf = nI F ∧ ype = nI (E - F)) (x y : Int32) (hx : xsx = rr_mX mt V x y) (hy : xsy = rr_mY mt V x y) (kx : ma_bd 4000 xsx) (ky : ma_bd 4000 xsy) :
    ∃ (r : Int32) (E' : Nat) (xcx' xcy' ype' : Int32) (fx' fy' tx' ty' fi' ex' ey' : Nat → Int32), rr_PS r E' P F xpb xpf xsx xsy xcx' xcy' ype' fx' fy' tx' ty' fi' bx bo ex' ey' ∧
      (∀ post : Int32 → SX → Prop, post r (xds, xrc, xde, xoc, xun, xfp, nI V, xtl, nI E', xpb, xpf, xsx, xsy, xcx', xcy', dk, dv, sr, rs, rk, rv, ct, ru, pl, be, mx, xo, st, cp, pa, pn, fx', fy', tx', ty', fi', cr, cv) → wpX_addPoint post (xds, xrc, xde, xoc, xun, xfp, nI V, xtl, nI E, xpb, xpf, xsx, xsy, xcx, xcy, dk, dv, sr, rs, rk, rv, ct, ru, pl, be, mx, xo, st, cp, pa, pn, fx, fy, tx, ty, fi, cr, cv) x y 0) ∧
      (∀ post : SY → Prop, post (yrc, ysh, nI V, yla, yde, nI P, nI E', yoc, yun, r, ywh, ype', sr, ln, kd, nm, mt, co, wi, cp, pa, pn, ru, pl, sv, be, mx, bx, bo, ex', ey', fx', fy', tx', ty', yo) → wpY_closePart post (yrc, ysh, nI V, yla, yde, nI P, nI E, yoc, yun, 0, ywh, ype, sr, ln, kd, nm, mt, co, wi, cp, pa, pn, ru, pl, sv, be, mx, bx, bo, ex, ey, fx, fy, tx, ty, yo)) := by
  obtain ⟨r, E', xcx', xcy', ype', fx', fy', tx', ty', fi', ex', ey', hps, hX, hY⟩ := sp_close h hb
  obtain ⟨e1, e2⟩ := rr_xmap hs hV x y
  rw [← hx] at e1
  rw [← hy] at e2
  obtain ⟨i0, i1, i2, i3, i4, i5⟩ := rr_i8 hV
  exact ⟨r, E', xcx', xcy', ype', fx', fy', tx', ty', fi', ex', ey', hps, fun post H => nm_r (mb_ml 8 V) ⟨i0, i2, i4, nm_r e1 ⟨i1, i3, i5, nm_r e2 (br_f (rr_le4 kx).1 (br_t (rr_le4 kx).2 (br_f (rr_le4 ky).1 (br_t (rr_le4 ky).2 (br_t rfl (hX _ H))))))⟩⟩, hY⟩
theorem yp_81 {post : SY → Prop} {q : Nat} {x y : Int32} (hq : q < 30) (H : post (yrc, ysh, yle, yla, yde, nI (q + 1), yed, yoc, yun, yfa, ywh, 0, sr, ln, kd, nm, mt, co, wi, cp, pa, pn, ru, pl, sv, be, mx, upd bx q x, upd bo q y, upd ex q x, upd ey q y, fx, fy, tx, ty, yo)) : wY_moveTo_81 post x y yrc ysh yle yla yde (nI (q + 1)) yed yoc yun yfa ywh ype sr ln kd nm mt co wi cp pa pn ru pl sv be mx bx bo ex ey fx fy tx ty yo := by
  have e : nI (q + 1) - 1 = nI q := nI_pred q
  have i : vp_in (nI (q + 1) - 1) 30 := pk_in q 30 hq e
  have c : (nI (q + 1) - 1).toNatClampNeg = q := pk_cl q e
  exact ⟨i, nm_r (by rw [c]) ⟨i, nm_r (by rw [c]) ⟨i, nm_r (by rw [c]) ⟨i, nm_r (by rw [c]) H⟩⟩⟩⟩
theorem sp_move {E P F V : Nat} (hV : V ≤ 6) (hs : rr_st st mt co wi) (h : ma_path E P F xpb xsx xsy xcx xcy fx fy tx ty fi bx bo ex ey) (hb : xpb = 1 → xpf = nI F ∧ ype = nI (E - F)) (x y : Int32) :
    ∃ (r : Int32) (P' F' : Nat) (xpb' xpf' xsx' xsy' xcx' xcy' ype' : Int32) (bx' bo' ex' ey' : Nat → Int32), rr_PS r E P' F' xpb' xpf' xsx' xsy' xcx' xcy' ype' fx fy tx ty fi bx' bo' ex' ey' ∧ (r = 0 → xsx' = rr_mX mt V x y ∧ xsy' = rr_mY mt V x y ∧ ma_bd 4000 xsx' ∧ ma_bd 4000 xsy') ∧
      (∀ post : Int32 → SX → Prop, post r (xds, xrc, xde, xoc, xun, xfp, nI V, xtl, nI E, xpb', xpf', xsx', xsy', xcx', xcy', dk, dv, sr, rs, rk, rv, ct, ru, pl, be, mx, xo, st, cp, pa, pn, fx, fy, tx, ty, fi, cr, cv) → wpX_addPoint post (xds, xrc, xde, xoc, xun, xfp, nI V, xtl, nI E, xpb, xpf, xsx, xsy, xcx, xcy, dk, dv, sr, rs, rk, rv, ct, ru, pl, be, mx, xo, st, cp, pa, pn, fx, fy, tx, ty, fi, cr, cv) x y 1) ∧
      (∀ post : SY → Prop, post (yrc, ysh, nI V, yla, yde, nI P', nI E, yoc, yun, r, ywh, ype', sr, ln, kd, nm, mt, co, wi, cp, pa, pn, ru, pl, sv, be, mx, bx', bo', ex', ey', fx, fy, tx, ty, yo) → wpY_moveTo post (yrc, ysh, nI V, yla, yde, nI P, nI E, yoc, yun, 0, ywh, ype, sr, ln, kd, nm, mt, co, wi, cp, pa, pn, ru, pl, sv, be, mx, bx, bo, ex, ey, fx, fy, tx, ty, yo) x y) := by
  by_cases hk : ma_bd 4000 (rr_mX mt V x y) ∧ ma_bd 4000 (rr_mY mt V x y)
  · obtain ⟨kx, ky⟩ := hk
    obtain ⟨e1, e2⟩ := rr_xmap hs hV x y
    obtain ⟨i0, i1, i2, i3, i4, i5⟩ := rr_i8 hV
    have hE := h.1
    have fin : ∀ q : Nat, ((P = q ∧ (xpb = 0 ∨ F < E)) ∨ (P = q + 1 ∧ F = E ∧ xpb = 1)) → (∀ post : SY → Prop, post (yrc, ysh, nI V, yla, yde, nI (q + 1), nI E, yoc, yun, 0, ywh, 0, sr, ln, kd, nm, mt, co, wi, cp, pa, pn, ru, pl, sv, be, mx, upd bx q (rr_mX mt V x y), upd bo q (rr_mY mt V x y), upd ex q (rr_mX mt V x y), upd ey q (rr_mY mt V x y), fx, fy, tx, ty, yo) → ((nI P ≤ 0 → wY_moveTo_63 post (rr_mX mt V x y) (rr_mY mt V x y) yrc ysh (nI V) yla yde (nI P) (nI E) yoc yun 0 ywh ype sr ln kd nm mt co wi cp pa pn ru pl sv be mx bx bo ex ey fx fy tx ty yo) ∧ (¬ nI P ≤ 0 → ((nI E = 0 → wY_moveTo_59 post (rr_mX mt V x y) (rr_mY mt V x y) yrc ysh (nI V) yla yde (nI P) (nI E) yoc yun 0 ywh ype sr ln kd nm mt co wi cp pa pn ru pl sv be mx bx bo ex ey fx fy tx ty yo) ∧ (¬ nI E = 0 → ((ype = 0 → wY_moveTo_59 post (rr_mX mt V x y) (rr_mY mt V x y) yrc ysh (nI V) yla yde (nI P) (nI E) yoc yun 0 ywh ype sr ln kd nm mt co wi cp pa pn ru pl sv be mx bx bo ex ey fx fy tx ty yo) ∧ (¬ ype = 0 → wY_moveTo_63 post (rr_mX mt V x y) (rr_mY mt V x y) yrc ysh (nI V) yla yde (nI P) (nI E) yoc yun 0 ywh ype sr ln kd nm mt co wi cp pa pn ru pl sv be mx bx bo ex ey fx fy tx ty yo))))))) →
        ∃ (r : Int32) (P' F' : Nat) (xpb' xpf' xsx' xsy' xcx' xcy' ype' : Int32) (bx' bo' ex' ey' : Nat → Int32), rr_PS r E P' F' xpb' xpf' xsx' xsy' xcx' xcy' ype' fx fy tx ty fi bx' bo' ex' ey' ∧ (r = 0 → xsx' = rr_mX mt V x y ∧ xsy' = rr_mY mt V x y ∧ ma_bd 4000 xsx' ∧ ma_bd 4000 xsy') ∧
      (∀ post : Int32 → SX → Prop, post r (xds, xrc, xde, xoc, xun, xfp, nI V, xtl, nI E, xpb', xpf', xsx', xsy', xcx', xcy', dk, dv, sr, rs, rk, rv, ct, ru, pl, be, mx, xo, st, cp, pa, pn, fx, fy, tx, ty, fi, cr, cv) → wpX_addPoint post (xds, xrc, xde, xoc, xun, xfp, nI V, xtl, nI E, xpb, xpf, xsx, xsy, xcx, xcy, dk, dv, sr, rs, rk, rv, ct, ru, pl, be, mx, xo, st, cp, pa, pn, fx, fy, tx, ty, fi, cr, cv) x y 1) ∧
      (∀ post : SY → Prop, post (yrc, ysh, nI V, yla, yde, nI P', nI E, yoc, yun, r, ywh, ype', sr, ln, kd, nm, mt, co, wi, cp, pa, pn, ru, pl, sv, be, mx, bx', bo', ex', ey', fx, fy, tx, ty, yo) → wpY_moveTo post (yrc, ysh, nI V, yla, yde, nI P, nI E, yoc, yun, 0, ywh, ype, sr, ln, kd, nm, mt, co, wi, cp, pa, pn, ru, pl, sv, be, mx, bx, bo, ex, ey, fx, fy, tx, ty, yo) x y) := by
      intro q hq hY
      have h' := ma_pmove h kx ky q hq
      exact ⟨0, q + 1, E, 1, nI E, rr_mX mt V x y, rr_mY mt V x y, rr_mX mt V x y, rr_mY mt V x y, 0, _, _, _, _, fun _ => ⟨h', fun _ => ⟨rfl, by rw [Nat.sub_self]; rfl⟩⟩, fun _ => ⟨rfl, rfl, kx, ky⟩,
        fun post H => nm_r (mb_ml 8 V) ⟨i0, i2, i4, nm_r e1 ⟨i1, i3, i5, nm_r e2 (br_f (rr_le4 kx).1 (br_t (rr_le4 kx).2 (br_f (rr_le4 ky).1 (br_t (rr_le4 ky).2 (br_f (by decide) H)))))⟩⟩,
        fun post H => by
          unfold wpY_moveTo
          exact yp_mx hV (yp_my hV (yp_nr1 kx (br_f (by decide) (yp_nr1 ky (br_f (by decide) (hY _ H))))))⟩
    rcases h.2.2.2.2.2 with ⟨b0, P0, E0⟩ | ⟨b1, p, hp, hpE, hFE, _, _, _, _, _, hlt⟩
    · refine fin P (Or.inl ⟨rfl, Or.inl b0⟩) (fun post H => pk_le P 0 (fun _ => br_t rfl (nm_r (nI_1 P) (yp_81 (by omega) H))) (fun z => absurd P0 (by omega)))
    · obtain ⟨f1, f2⟩ := hb b1
      by_cases hF : F = E
      · refine fin p (Or.inr ⟨hp, hF, b1⟩) (fun post H => ?_)
        have y59 : wY_moveTo_59 post (rr_mX mt V x y) (rr_mY mt V x y) yrc ysh (nI V) yla yde (nI P) (nI E) yoc yun 0 ywh ype sr ln kd nm mt co wi cp pa pn ru pl sv be mx bx bo ex ey fx fy tx ty yo := by
          rw [hp]
          exact br_f (by decide) (yp_81 (by omega) H)
        have z0 : ype = 0 := by
          rw [f2, hF, Nat.sub_self]
          rfl
        exact pk_le P 0 (fun z => absurd z (by omega)) (fun _ => br_c (fun _ => y59) (fun _ => br_t z0 y59))
      · have hl := (hlt (by omega)).1
        refine fin P (Or.inl ⟨rfl, Or.inr (by omega)⟩) (fun post H => ?_)
        have z0 : ¬ ype = 0 := by
          rw [f2]
          exact nI_ne0 (by omega) (by omega)
        exact pk_le P 0 (fun z => absurd z (by omega)) (fun _ => pk_eq E 0 (fun z => absurd z (by omega)) (fun _ => br_f z0 (br_t rfl (nm_r (nI_1 P) (yp_81 (by omega) H)))))
  · exact ⟨3, P, F, xpb, xpf, xsx, xsy, xcx, xcy, ype, bx, bo, ex, ey, fun z => absurd z (by decide), fun z => absurd z (by decide), fun post H => xp_pt3 hV hs hk H, fun post H => yp_mv3 hV hk H⟩
