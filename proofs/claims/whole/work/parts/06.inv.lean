/-! the relation at the head of a turn, and that of a rendering under way -/
def rr_I (u : SX) (v : SY) : Prop := ∃ (c d : Nat) (xde xoc xun xfp xsc xtl xec xpb xpf xsx xsy xcx xcy ysh yle yla yde ypa yed yoc yfa ype : Int32) (dk dv sr rs rk rv ct ru pl be mx xo st cp pa pn fx fy tx ty fi cr cv ln kd nm mt co wi sv bx bo ex ey yo : Nat → Int32),
  u = (nI d, nI c, xde, xoc, xun, xfp, xsc, xtl, xec, xpb, xpf, xsx, xsy, xcx, xcy, dk, dv, sr, rs, rk, rv, ct, ru, pl, be, mx, xo, st, cp, pa, pn, fx, fy, tx, ty, fi, cr, cv) ∧ v = (nI c, ysh, yle, yla, yde, ypa, yed, yoc, xun, yfa, xfp, ype, sr, ln, kd, nm, mt, co, wi, cp, pa, pn, ru, pl, sv, be, mx, bx, bo, ex, ey, fx, fy, tx, ty, yo) ∧ rr_doc c d rs rk rv dk dv ln kd nm ∧ rr_st st mt co wi ∧ rr_pa pa
def i_Rel (_ : Nat) (u : SX) (v : SY) : Prop := rr_I u v
theorem i_up {k : Nat} {u : SX} {v : SY} (h : i_Rel k u v) : i_Rel (k + 3) u v := h
/-- a rendering under way: the first K revisions, the potential H, q operands, of which n are alike -/
def rr_G (K H q n : Nat) (u : SX) (v : SY) : Prop := ∃ (c d T L V U E P F : Nat) (A B G : Nat → Nat) (xpb xpf xsx xsy xcx xcy ype : Int32) (dk dv sr rs rk rv ct ru pl be mx xo st cp pa pn fx fy tx ty fi cr cv ln kd nm mt co wi sv bx bo ex ey yo : Nat → Int32),
  u = (nI d, nI c, nI (T + 1), nI q, nI U, -1, nI V, nI L, nI E, xpb, xpf, xsx, xsy, xcx, xcy, dk, dv, sr, rs, rk, rv, ct, ru, pl, be, mx, xo, st, cp, pa, pn, fx, fy, tx, ty, fi, cr, cv) ∧
  v = (nI c, nI K, nI V, nI L, nI (T + 1), nI P, nI E, nI q, nI U, 0, -1, ype, sr, ln, kd, nm, mt, co, wi, cp, pa, pn, ru, pl, sv, be, mx, bx, bo, ex, ey, fx, fy, tx, ty, yo) ∧
  rr_doc c d rs rk rv dk dv ln kd nm ∧ rr_st st mt co wi ∧ rr_pa pa ∧ rr_op n xo yo ∧ q ≤ 6 ∧ rr_ct K ct sr ∧ K ≤ 8 ∧ rr_fr T L V U ru pl be sv mx A B G ∧ rr_pl K T ru sr ln A ∧
  ma_path E P F xpb xsx xsy xcx xcy fx fy tx ty fi bx bo ex ey ∧ (xpb = 1 → xpf = nI F ∧ ype = nI (E - F)) ∧ H = rr_ph U T A
/-- a rendering that ended with fault r, where it is not yet written -/
def rr_E (r : Int32) (u : SX) (v : SY) : Prop := ∃ (c d : Nat) (xde xoc xun xsc xtl xec xpb xpf xsx xsy xcx xcy ysh yle yla yde ypa yed yoc ype : Int32) (dk dv sr rs rk rv ct ru pl be mx xo st cp pa pn fx fy tx ty fi cr cv ln kd nm mt co wi sv bx bo ex ey yo : Nat → Int32),
  u = (nI d, nI c, xde, xoc, xun, -1, xsc, xtl, xec, xpb, xpf, xsx, xsy, xcx, xcy, dk, dv, sr, rs, rk, rv, ct, ru, pl, be, mx, xo, st, cp, pa, pn, fx, fy, tx, ty, fi, cr, cv) ∧ v = (nI c, ysh, yle, yla, yde, ypa, yed, yoc, xun, r, -1, ype, sr, ln, kd, nm, mt, co, wi, cp, pa, pn, ru, pl, sv, be, mx, bx, bo, ex, ey, fx, fy, tx, ty, yo) ∧ rr_doc c d rs rk rv dk dv ln kd nm ∧ rr_st st mt co wi ∧ rr_pa pa
/-- how an operator ends -/
def rr_O (K H : Nat) (r : Int32) (u : SX) (v : SY) : Prop := (r = 0 ∧ ∃ H', H' ≤ H + 41 ∧ rr_G K H' 0 0 u v) ∨ (r ≠ 0 ∧ rr_E r u v)
