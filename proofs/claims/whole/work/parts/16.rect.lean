variable {xds xrc xde xoc xun xfp xsc xtl xec xpb xpf xsx xsy xcx xcy yrc ysh yle yla yde ypa yed yoc yun yfa ywh ype : Int32} {dk dv sr rs rk rv ct ru pl be mx xo st cp pa pn fx fy tx ty fi cr cv ln kd nm mt co wi sv bx bo ex ey yo : Nat → Int32}
/-! the rectangle -/
theorem xr_0 {post : Int32 → SX → Prop} {n : Nat} {r xec' xpb' xpf' xsx' xsy' xcx' xcy' : Int32} {fx' fy' tx' ty' fi' : Nat → Int32} (HX : ∀ q : Int32 → SX → Prop, q r (xds, xrc, xde, xoc, xun, xfp, xsc, xtl, xec', xpb', xpf', xsx', xsy', xcx', xcy', dk, dv, sr, rs, rk, rv, ct, ru, pl, be, mx, xo, st, cp, pa, pn, fx', fy', tx', ty', fi', cr, cv) → wpX_addPoint q (xds, xrc, xde, xoc, xun, xfp, xsc, xtl, xec, xpb, xpf, xsx, xsy, xcx, xcy, dk, dv, sr, rs, rk, rv, ct, ru, pl, be, mx, xo, st, cp, pa, pn, fx, fy, tx, ty, fi, cr, cv) (xo 0) (xo 1) 1) (H : wX_addRectangle_4 post n r 1 xds xrc xde xoc xun xfp xsc xtl xec' xpb' xpf' xsx' xsy' xcx' xcy' dk dv sr rs rk rv ct ru pl be mx xo st cp pa pn fx' fy' tx' ty' fi' cr cv) : wX_addRectangle_4 post (n + 1) 0 0 xds xrc xde xoc xun xfp xsc xtl xec xpb xpf xsx xsy xcx xcy dk dv sr rs rk rv ct ru pl be mx xo st cp pa pn fx fy tx ty fi cr cv :=
  br_f (by decide) (br_t rfl (br_f (by decide) (br_f (by decide) (nm_r (Int32.add_zero _) (br_f (by decide) (br_f (by decide) (nm_r (Int32.add_zero _) (br_t rfl (by unfold wX_addRectangle_83; exact HX _ (nm_r (by decide) H))))))))))
theorem xr_1 {post : Int32 → SX → Prop} {n : Nat} {r xec' xpb' xpf' xsx' xsy' xcx' xcy' : Int32} {fx' fy' tx' ty' fi' : Nat → Int32} (HX : ∀ q : Int32 → SX → Prop, q r (xds, xrc, xde, xoc, xun, xfp, xsc, xtl, xec', xpb', xpf', xsx', xsy', xcx', xcy', dk, dv, sr, rs, rk, rv, ct, ru, pl, be, mx, xo, st, cp, pa, pn, fx', fy', tx', ty', fi', cr, cv) → wpX_addPoint q (xds, xrc, xde, xoc, xun, xfp, xsc, xtl, xec, xpb, xpf, xsx, xsy, xcx, xcy, dk, dv, sr, rs, rk, rv, ct, ru, pl, be, mx, xo, st, cp, pa, pn, fx, fy, tx, ty, fi, cr, cv) (xo 0 + xo 2) (xo 1) 0) (H : wX_addRectangle_4 post n r 2 xds xrc xde xoc xun xfp xsc xtl xec' xpb' xpf' xsx' xsy' xcx' xcy' dk dv sr rs rk rv ct ru pl be mx xo st cp pa pn fx' fy' tx' ty' fi' cr cv) : wX_addRectangle_4 post (n + 1) 0 1 xds xrc xde xoc xun xfp xsc xtl xec xpb xpf xsx xsy xcx xcy dk dv sr rs rk rv ct ru pl be mx xo st cp pa pn fx fy tx ty fi cr cv :=
  br_f (by decide) (br_t rfl (br_t rfl (nm_e (br_f (by decide) (br_f (by decide) (nm_r (Int32.add_zero _) (br_f (by decide) (by unfold wX_addRectangle_83; exact HX _ (nm_r (by decide) H)))))))))
theorem xr_2 {post : Int32 → SX → Prop} {n : Nat} {r xec' xpb' xpf' xsx' xsy' xcx' xcy' : Int32} {fx' fy' tx' ty' fi' : Nat → Int32} (HX : ∀ q : Int32 → SX → Prop, q r (xds, xrc, xde, xoc, xun, xfp, xsc, xtl, xec', xpb', xpf', xsx', xsy', xcx', xcy', dk, dv, sr, rs, rk, rv, ct, ru, pl, be, mx, xo, st, cp, pa, pn, fx', fy', tx', ty', fi', cr, cv) → wpX_addPoint q (xds, xrc, xde, xoc, xun, xfp, xsc, xtl, xec, xpb, xpf, xsx, xsy, xcx, xcy, dk, dv, sr, rs, rk, rv, ct, ru, pl, be, mx, xo, st, cp, pa, pn, fx, fy, tx, ty, fi, cr, cv) (xo 0 + xo 2) (xo 1 + xo 3) 0) (H : wX_addRectangle_4 post n r 3 xds xrc xde xoc xun xfp xsc xtl xec' xpb' xpf' xsx' xsy' xcx' xcy' dk dv sr rs rk rv ct ru pl be mx xo st cp pa pn fx' fy' tx' ty' fi' cr cv) : wX_addRectangle_4 post (n + 1) 0 2 xds xrc xde xoc xun xfp xsc xtl xec xpb xpf xsx xsy xcx xcy dk dv sr rs rk rv ct ru pl be mx xo st cp pa pn fx fy tx ty fi cr cv :=
  br_f (by decide) (br_t rfl (br_f (by decide) (br_t rfl (nm_e (br_t rfl (nm_e (br_f (by decide) (by unfold wX_addRectangle_83; exact HX _ (nm_r (by decide) H)))))))))
theorem xr_3 {post : Int32 → SX → Prop} {n : Nat} {r xec' xpb' xpf' xsx' xsy' xcx' xcy' : Int32} {fx' fy' tx' ty' fi' : Nat → Int32} (HX : ∀ q : Int32 → SX → Prop, q r (xds, xrc, xde, xoc, xun, xfp, xsc, xtl, xec', xpb', xpf', xsx', xsy', xcx', xcy', dk, dv, sr, rs, rk, rv, ct, ru, pl, be, mx, xo, st, cp, pa, pn, fx', fy', tx', ty', fi', cr, cv) → wpX_addPoint q (xds, xrc, xde, xoc, xun, xfp, xsc, xtl, xec, xpb, xpf, xsx, xsy, xcx, xcy, dk, dv, sr, rs, rk, rv, ct, ru, pl, be, mx, xo, st, cp, pa, pn, fx, fy, tx, ty, fi, cr, cv) (xo 0) (xo 1 + xo 3) 0) (H : wX_addRectangle_4 post n r 4 xds xrc xde xoc xun xfp xsc xtl xec' xpb' xpf' xsx' xsy' xcx' xcy' dk dv sr rs rk rv ct ru pl be mx xo st cp pa pn fx' fy' tx' ty' fi' cr cv) : wX_addRectangle_4 post (n + 1) 0 3 xds xrc xde xoc xun xfp xsc xtl xec xpb xpf xsx xsy xcx xcy dk dv sr rs rk rv ct ru pl be mx xo st cp pa pn fx fy tx ty fi cr cv :=
  br_f (by decide) (br_t rfl (br_f (by decide) (br_f (by decide) (nm_r (Int32.add_zero _) (br_f (by decide) (br_t rfl (nm_e (br_f (by decide) (by unfold wX_addRectangle_83; exact HX _ (nm_r (by decide) H))))))))))
theorem xr_4 {post : Int32 → SX → Prop} {n : Nat} {r xec' xpb' xpf' xsx' xsy' xcx' xcy' : Int32} {fx' fy' tx' ty' fi' : Nat → Int32} (HX : ∀ q : Int32 → SX → Prop, q r (xds, xrc, xde, xoc, xun, xfp, xsc, xtl, xec', xpb', xpf', xsx', xsy', xcx', xcy', dk, dv, sr, rs, rk, rv, ct, ru, pl, be, mx, xo, st, cp, pa, pn, fx', fy', tx', ty', fi', cr, cv) → wpX_addPoint q (xds, xrc, xde, xoc, xun, xfp, xsc, xtl, xec, xpb, xpf, xsx, xsy, xcx, xcy, dk, dv, sr, rs, rk, rv, ct, ru, pl, be, mx, xo, st, cp, pa, pn, fx, fy, tx, ty, fi, cr, cv) (xo 0) (xo 1) 0) (H : wX_addRectangle_4 post n r 5 xds xrc xde xoc xun xfp xsc xtl xec' xpb' xpf' xsx' xsy' xcx' xcy' dk dv sr rs rk rv ct ru pl be mx xo st cp pa pn fx' fy' tx' ty' fi' cr cv) : wX_addRectangle_4 post (n + 1) 0 4 xds xrc xde xoc xun xfp xsc xtl xec xpb xpf xsx xsy xcx xcy dk dv sr rs rk rv ct ru pl be mx xo st cp pa pn fx fy tx ty fi cr cv :=
  br_f (by decide) (br_t rfl (br_f (by decide) (br_f (by decide) (nm_r (Int32.add_zero _) (br_f (by decide) (br_f (by decide) (nm_r (Int32.add_zero _) (br_f (by decide) (by unfold wX_addRectangle_83; exact HX _ (nm_r (by decide) H))))))))))
theorem sp_rect {E P F V : Nat} (hV : V ≤ 6) (hs : rr_st st mt co wi) (h : ma_path E P F xpb xsx xsy xcx xcy fx fy tx ty fi bx bo ex ey) (hb : xpb = 1 → xpf = nI F ∧ ype = nI (E - F)) :
    ∃ (r : Int32) (E' P' F' : Nat) (xpb' xpf' xsx' xsy' xcx' xcy' ype' : Int32) (fx' fy' tx' ty' fi' bx' bo' ex' ey' : Nat → Int32), rr_PS r E' P' F' xpb' xpf' xsx' xsy' xcx' xcy' ype' fx' fy' tx' ty' fi' bx' bo' ex' ey' ∧
      (∀ post : Int32 → SX → Prop, post r (xds, xrc, xde, xoc, xun, xfp, nI V, xtl, nI E', xpb', xpf', xsx', xsy', xcx', xcy', dk, dv, sr, rs, rk, rv, ct, ru, pl, be, mx, xo, st, cp, pa, pn, fx', fy', tx', ty', fi', cr, cv) → wpX_addRectangle post (xds, xrc, xde, xoc, xun, xfp, nI V, xtl, nI E, xpb, xpf, xsx, xsy, xcx, xcy, dk, dv, sr, rs, rk, rv, ct, ru, pl, be, mx, xo, st, cp, pa, pn, fx, fy, tx, ty, fi, cr, cv)) ∧
      (∀ post : SY → Prop, post (yrc, ysh, nI V, yla, yde, nI P', nI E', yoc, yun, r, ywh, ype', sr, ln, kd, nm, mt, co, wi, cp, pa, pn, ru, pl, sv, be, mx, bx', bo', ex', ey', fx', fy', tx', ty', yo) → wpY_rectangle post (yrc, ysh, nI V, yla, yde, nI P, nI E, yoc, yun, 0, ywh, ype, sr, ln, kd, nm, mt, co, wi, cp, pa, pn, ru, pl, sv, be, mx, bx, bo, ex, ey, fx, fy, tx, ty, yo) (xo 0) (xo 1) (xo 2) (xo 3)) := by
  obtain ⟨r1, P1, F1, b1, f1, s1, t1, c1, d1, y1, bx1, bo1, ex1, ey1, hps1, hst, hX1, hY1⟩ := sp_move hV hs h hb (xo 0) (xo 1)
  by_cases z1 : r1 = 0
  · subst z1
    obtain ⟨hp1, hb1⟩ := hps1 rfl
    obtain ⟨es, et, ks, kt⟩ := hst rfl
    obtain ⟨r2, E2, c2, d2, y2, fx2, fy2, tx2, ty2, fi2, ex2, ey2, hps2, hX2, hY2⟩ := sp_line hV hs hp1 hb1 (xo 0 + xo 2) (xo 1)
    by_cases z2 : r2 = 0
    · subst z2
      obtain ⟨hp2, hb2⟩ := hps2 rfl
      obtain ⟨r3, E3, c3, d3, y3, fx3, fy3, tx3, ty3, fi3, ex3, ey3, hps3, hX3, hY3⟩ := sp_line hV hs hp2 hb2 (xo 0 + xo 2) (xo 1 + xo 3)
      by_cases z3 : r3 = 0
      · subst z3
        obtain ⟨hp3, hb3⟩ := hps3 rfl
        obtain ⟨r4, E4, c4, d4, y4, fx4, fy4, tx4, ty4, fi4, ex4, ey4, hps4, hX4, hY4⟩ := sp_line hV hs hp3 hb3 (xo 0) (xo 1 + xo 3)
        by_cases z4 : r4 = 0
        · subst z4
          obtain ⟨hp4, hb4⟩ := hps4 rfl
          obtain ⟨r5, E5, c5, d5, y5, fx5, fy5, tx5, ty5, fi5, ex5, ey5, hps5, hX5, hY5⟩ := sp_back hV hs hp4 hb4 (xo 0) (xo 1) es et ks kt
          exact ⟨r5, E5, P1, F1, b1, f1, s1, t1, c5, d5, y5, fx5, fy5, tx5, ty5, fi5, bx1, bo1, ex5, ey5, hps5, fun post H => ⟨6, xr_0 hX1 (xr_1 hX2 (xr_2 hX3 (xr_3 hX4 (xr_4 hX5 (br_t (by decide) H)))))⟩, fun post H => by
            unfold wpY_rectangle
            exact hY1 _ (br_t rfl (hY2 _ (br_t rfl (hY3 _ (br_t rfl (hY4 _ (br_t rfl (hY5 _ H))))))))⟩
        · exact ⟨r4, E4, P1, F1, b1, f1, s1, t1, c4, d4, y4, fx4, fy4, tx4, ty4, fi4, bx1, bo1, ex4, ey4, fun z => absurd z z4, fun post H => ⟨6, xr_0 hX1 (xr_1 hX2 (xr_2 hX3 (xr_3 hX4 (br_f (by decide) (br_f z4 H)))))⟩, fun post H => by
            unfold wpY_rectangle
            exact hY1 _ (br_t rfl (hY2 _ (br_t rfl (hY3 _ (br_t rfl (hY4 _ (br_f z4 (H))))))))⟩
      · exact ⟨r3, E3, P1, F1, b1, f1, s1, t1, c3, d3, y3, fx3, fy3, tx3, ty3, fi3, bx1, bo1, ex3, ey3, fun z => absurd z z3, fun post H => ⟨6, xr_0 hX1 (xr_1 hX2 (xr_2 hX3 (br_f (by decide) (br_f z3 H))))⟩, fun post H => by
          unfold wpY_rectangle
          exact hY1 _ (br_t rfl (hY2 _ (br_t rfl (hY3 _ (br_f z3 (br_f z3 (H)))))))⟩
    · exact ⟨r2, E2, P1, F1, b1, f1, s1, t1, c2, d2, y2, fx2, fy2, tx2, ty2, fi2, bx1, bo1, ex2, ey2, fun z => absurd z z2, fun post H => ⟨6, xr_0 hX1 (xr_1 hX2 (br_f (by decide) (br_f z2 H)))⟩, fun post H => by
        unfold wpY_rectangle
        exact hY1 _ (br_t rfl (hY2 _ (br_f z2 (br_f z2 (br_f z2 (H))))))⟩
  · exact ⟨r1, E, P1, F1, b1, f1, s1, t1, c1, d1, y1, fx, fy, tx, ty, fi, bx1, bo1, ex1, ey1, fun z => absurd z z1, fun post H => ⟨6, xr_0 hX1 (br_f (by decide) (br_f z1 H))⟩, fun post H => by
      unfold wpY_rectangle
      exact hY1 _ (br_f z1 (br_f z1 (br_f z1 (br_f z1 (H)))))⟩
