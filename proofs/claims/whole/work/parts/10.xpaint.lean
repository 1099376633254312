variable {xds xrc xde xoc xun xfp xsc xtl xec xpb xpf xsx xsy xcx xcy yrc ysh yle yla yde ypa yed yoc yun yfa ywh ype : Int32} {dk dv sr rs rk rv ct ru pl be mx xo st cp pa pn fx fy tx ty fi cr cv ln kd nm mt co wi sv bx bo ex ey yo : Nat → Int32}
/-! the lines -/
def rr_gn (cv : Nat → Int32) (x1 y1 x2 y2 w : Int32) (t : Nat) : Int32 := if ma_np x1 y1 x2 y2 w t = 0 then cv t else 1
theorem xw_ne {post : SX → Prop} {k : Nat} {w : Int32} (hk : k < 24) (h1 : ma_bd 4000 (fx k)) (h2 : ma_bd 4000 (fy k)) (hp : post (xds, xrc, xde, xoc, xun, xfp, xsc, xtl, xec, xpb, xpf, xsx, xsy, xcx, xcy, dk, dv, sr, rs, rk, rv, ct, ru, pl, be, mx, xo, st, cp, pa, pn, fx, fy, tx, ty, fi, cr, ma_w cv (rr_gn cv (fx k) (fy k) (tx k) (ty k) w) 0 192)) (dx dy : Int64) (hdx : dx = (2 * tx k).toInt64 - (2 * fx k).toInt64) (hdy : dy = (2 * ty k).toInt64 - (2 * fy k).toInt64) :
    ∀ d i, i + d = 192 → wX_coverNearEdge_78 post (nI k) (w.toInt64 * w.toInt64) dx dy (dx * dx + dy * dy) xds xrc xde xoc xun xfp xsc xtl xec xpb xpf xsx xsy xcx xcy (d + 1) (nI i) dk dv sr rs rk rv ct ru pl be mx xo st cp pa pn fx fy tx ty fi cr (ma_w cv (rr_gn cv (fx k) (fy k) (tx k) (ty k) w) 0 i) := by
  intro d
  induction d with
  | zero =>
    intro i hi
    have e : i = 192 := by omega
    rw [e]
    exact pk_le 192 192 (fun _ => hp) (fun h => absurd h (by omega))
  | succ d ih =>
    intro i hi
    have h := ih (i + 1) (by omega)
    have hin : vp_in (nI i) 192 := pk_in i 192 (by omega)
    have hink : vp_in (nI k) 24 := pk_in k 24 hk
    have ec : (nI i).toNatClampNeg = i := pk_cl i
    have eck : (nI k).toNatClampNeg = k := pk_cl k
    have ex : ((8 : Int32) * (nI i - nI i / 16 * 16) + 5 - 2 * fx (nI k).toNatClampNeg).toInt64 = (nI (ma_px i)).toInt64 - (2 * fx k).toInt64 := by
      rw [ma_xpx (by omega), eck]
      exact ma_xr (ma_pxb i) h1
    have ey : ((8 : Int32) * (nI i / 16) + 5 - 2 * fy (nI k).toNatClampNeg).toInt64 = (nI (ma_py i)).toInt64 - (2 * fy k).toInt64 := by
      rw [ma_xpy (by omega), eck]
      exact ma_xr (by have := ma_pyb (p := i) (by omega); omega) h2
    have e : ma_nr ((nI (ma_px i)).toInt64 - (2 * fx k).toInt64) ((nI (ma_py i)).toInt64 - (2 * fy k).toInt64) dx dy w.toInt64 = ma_np (fx k) (fy k) (tx k) (ty k) w i := by
      rw [hdx, hdy]
      rfl
    refine pk_le 192 i (fun h => absurd h (by omega)) (fun _ => ⟨by decide, hink, nm_r ex ⟨by decide, hink, nm_r ey (nm_e (ma_nrz (fun z => wX_coverNearEdge_258 post (wX_coverNearEdge_78 post (nI k) (w.toInt64 * w.toInt64) dx dy (dx * dx + dy * dy) xds xrc xde xoc xun xfp xsc xtl xec xpb xpf xsx xsy xcx xcy (d + 1)) (nI k) (w.toInt64 * w.toInt64) dx dy (dx * dx + dy * dy) (nI i) z xds xrc xde xoc xun xfp xsc xtl xec xpb xpf xsx xsy xcx xcy dk dv sr rs rk rv ct ru pl be mx xo st cp pa pn fx fy tx ty fi cr (ma_w cv (rr_gn cv (fx k) (fy k) (tx k) (ty k) w) 0 i)) (ma_acr _ _ _ _) ?_))⟩⟩)
    rw [e]
    by_cases hz : ma_np (fx k) (fy k) (tx k) (ty k) w i = 0
    · have ek : ma_w cv (rr_gn cv (fx k) (fy k) (tx k) (ty k) w) 0 i = ma_w cv (rr_gn cv (fx k) (fy k) (tx k) (ty k) w) 0 (i + 1) := ma_wk (by rw [Nat.zero_add]; unfold rr_gn; rw [if_pos hz])
      rw [← ek] at h
      exact br_t hz (nm_r (nI_1 i) h)
    · exact br_f hz ⟨hin, nm_r (by rw [ec, ← ma_ws0 cv (rr_gn cv (fx k) (fy k) (tx k) (ty k) w) i, mb_vb1]; unfold rr_gn; rw [if_neg hz]) (nm_r (nI_1 i) h)⟩
theorem xp_ne {post : SX → Prop} {k V : Nat} (hk : k < 24) (hV : V ≤ 6) (h1 : ma_bd 4000 (fx k)) (h2 : ma_bd 4000 (fy k)) (h3 : ma_bd 4000 (tx k)) (h4 : ma_bd 4000 (ty k)) (hp : post (xds, xrc, xde, xoc, xun, xfp, nI V, xtl, xec, xpb, xpf, xsx, xsy, xcx, xcy, dk, dv, sr, rs, rk, rv, ct, ru, pl, be, mx, xo, st, cp, pa, pn, fx, fy, tx, ty, fi, cr, ma_w cv (rr_gn cv (fx k) (fy k) (tx k) (ty k) (st (8 * V + 7))) 0 192)) : wpX_coverNearEdge post (xds, xrc, xde, xoc, xun, xfp, nI V, xtl, xec, xpb, xpf, xsx, xsy, xcx, xcy, dk, dv, sr, rs, rk, rv, ct, ru, pl, be, mx, xo, st, cp, pa, pn, fx, fy, tx, ty, fi, cr, cv) (nI k) := by
  have ein : nI V * 8 + 7 = nI (8 * V + 7) := by
    rw [show nI V * 8 = nI (8 * V) from mb_ml 8 V]
    exact nI_add (8 * V) 7
  have ec : (nI V * 8 + 7).toNatClampNeg = 8 * V + 7 := pk_cl (8 * V + 7) ein
  have hink : vp_in (nI k) 24 := pk_in k 24 hk
  have eck : (nI k).toNatClampNeg = k := pk_cl k
  have h := xw_ne hk h1 h2 hp _ _ rfl rfl 192 0 rfl
  rw [ma_w0] at h
  exact ⟨pk_in (8 * V + 7) 56 (by omega) ein, nm_r (by rw [ec]) (nm_e ⟨hink, hink, nm_r (by rw [eck]; exact ma_xe h3 h1) ⟨hink, hink, nm_r (by rw [eck]; exact ma_xe h4 h2) (nm_e ⟨193, h⟩)⟩⟩)⟩
/-- covered after k edges -/
def rr_cn (fx fy tx ty : Nat → Int32) (w : Int32) (k t : Nat) : Int32 := ma_any (fun e => ma_np (fx e) (fy e) (tx e) (ty e) w t) k
theorem rr_cns {cv fx fy tx ty : Nat → Int32} {w : Int32} {k : Nat} : ma_w (ma_w cv (rr_cn fx fy tx ty w k) 0 192) (rr_gn (ma_w cv (rr_cn fx fy tx ty w k) 0 192) (fx k) (fy k) (tx k) (ty k) w) 0 192 = ma_w cv (rr_cn fx fy tx ty w (k + 1)) 0 192 := by
  funext j
  by_cases h : j < 192
  · rw [ma_wg0 h, ma_wg0 h]
    unfold rr_gn
    rw [ma_wg0 h]
    show _ = if ma_np (fx k) (fy k) (tx k) (ty k) w j = 1 then 1 else rr_cn fx fy tx ty w k j
    rcases ma_np01 (fx k) (fy k) (tx k) (ty k) w j with e | e
    · rw [e]
      rfl
    · rw [e]
      rfl
  · rw [ma_wr (by omega), ma_wr (by omega), ma_wr (by omega)]
theorem xw_li {post : SX → Prop} {E V : Nat} (hE : E ≤ 24) (hV : V ≤ 6) (hq : ma_q4 E fx fy tx ty) (hp : post (xds, xrc, xde, xoc, xun, xfp, nI V, xtl, nI E, xpb, xpf, xsx, xsy, xcx, xcy, dk, dv, sr, rs, rk, rv, ct, ru, pl, be, mx, xo, st, cp, pa, pn, fx, fy, tx, ty, fi, cr, ma_w cv (rr_cn fx fy tx ty (st (8 * V + 7)) E) 0 192)) :
    ∀ d k, k + d = E → wX_coverLines_24 post (d + 1) (nI k) xds xrc xde xoc xun xfp (nI V) xtl (nI E) xpb xpf xsx xsy xcx xcy dk dv sr rs rk rv ct ru pl be mx xo st cp pa pn fx fy tx ty fi cr (ma_w cv (rr_cn fx fy tx ty (st (8 * V + 7)) k) 0 192) := by
  intro d
  induction d with
  | zero =>
    intro k hk
    have e : k = E := by omega
    rw [e]
    exact pk_le E E (fun _ => hp) (fun h => absurd h (by omega))
  | succ d ih =>
    intro k hk
    have h := ih (k + 1) (by omega)
    obtain ⟨q1, q2, q3, q4⟩ := hq k (by omega)
    refine pk_le E k (fun h => absurd h (by omega)) (fun _ => xp_ne (by omega) hV q1 q2 q3 q4 ?_)
    rw [rr_cns]
    exact nm_r (nI_1 k) h
theorem xw_li0 {post : SX → Prop} (hp : ∃ n, wX_coverLines_24 post n 0 xds xrc xde xoc xun xfp xsc xtl xec xpb xpf xsx xsy xcx xcy dk dv sr rs rk rv ct ru pl be mx xo st cp pa pn fx fy tx ty fi cr (ma_w cv (fun _ => 0) 0 192)) :
    ∀ d i, i + d = 192 → wX_coverLines_2 post xds xrc xde xoc xun xfp xsc xtl xec xpb xpf xsx xsy xcx xcy (d + 1) (nI i) dk dv sr rs rk rv ct ru pl be mx xo st cp pa pn fx fy tx ty fi cr (ma_w cv (fun _ => 0) 0 i) := by
  intro d
  induction d with
  | zero =>
    intro i hi
    have e : i = 192 := by omega
    rw [e]
    exact pk_le 192 192 (fun _ => hp) (fun h => absurd h (by omega))
  | succ d ih =>
    intro i hi
    have hin : vp_in (nI i) 192 := pk_in i 192 (by omega)
    have ec : (nI i).toNatClampNeg = i := pk_cl i
    exact pk_le 192 i (fun h => absurd h (by omega)) (fun _ => ⟨hin, nm_r (by rw [ec, mb_vb0]; exact ma_ws0 cv (fun _ => 0) i) (nm_r (nI_1 i) (ih (i + 1) (by omega)))⟩)
theorem xp_li {post : SX → Prop} {E V : Nat} (hE : E ≤ 24) (hV : V ≤ 6) (hq : ma_q4 E fx fy tx ty) (hp : post (xds, xrc, xde, xoc, xun, xfp, nI V, xtl, nI E, xpb, xpf, xsx, xsy, xcx, xcy, dk, dv, sr, rs, rk, rv, ct, ru, pl, be, mx, xo, st, cp, pa, pn, fx, fy, tx, ty, fi, cr, ma_w cv (rr_cn fx fy tx ty (st (8 * V + 7)) E) 0 192)) : wpX_coverLines post (xds, xrc, xde, xoc, xun, xfp, nI V, xtl, nI E, xpb, xpf, xsx, xsy, xcx, xcy, dk, dv, sr, rs, rk, rv, ct, ru, pl, be, mx, xo, st, cp, pa, pn, fx, fy, tx, ty, fi, cr, cv) := by
  have h := xw_li (cv := cv) hE hV hq hp E 0 (by omega)
  have h' := xw_li0 ⟨_, h⟩ 192 0 rfl
  rw [ma_w0] at h'
  exact ⟨193, h'⟩
/-! paint, clip -/
def rr_gf (pa cv cp : Nat → Int32) (x : Int32) (bV bL t : Nat) : Int32 := if cv t = 0 then pa (bL + t) else if cp (bV + t) = 0 then pa (bL + t) else x
theorem xw_pc {post : SX → Prop} {m c : Int32} {bV bL : Nat} (hV : bV + 192 ≤ 1344) (hL : bL + 192 ≤ 1344) (hp : post (xds, xrc, xde, xoc, xun, xfp, xsc, xtl, xec, xpb, xpf, xsx, xsy, xcx, xcy, dk, dv, sr, rs, rk, rv, ct, ru, pl, be, mx, xo, st, cp, ma_w pa (rr_gf pa cv cp c bV bL) bL 192, ma_w pn (rr_gf pn cv cp m bV bL) bL 192, fx, fy, tx, ty, fi, cr, cv)) :
    ∀ d i, i + d = 192 → wX_paintCovered_38 post m (nI bV) (nI bL) c xds xrc xde xoc xun xfp xsc xtl xec xpb xpf xsx xsy xcx xcy (d + 1) (nI i) dk dv sr rs rk rv ct ru pl be mx xo st cp (ma_w pa (rr_gf pa cv cp c bV bL) bL i) (ma_w pn (rr_gf pn cv cp m bV bL) bL i) fx fy tx ty fi cr cv := by
  intro d
  induction d with
  | zero =>
    intro i hi
    have e : i = 192 := by omega
    rw [e]
    exact pk_le 192 192 (fun _ => hp) (fun h => absurd h (by omega))
  | succ d ih =>
    intro i hi
    have h := ih (i + 1) (by omega)
    have hin : vp_in (nI i) 192 := pk_in i 192 (by omega)
    have ec : (nI i).toNatClampNeg = i := pk_cl i
    have hinV : vp_in (nI bV + nI i) 1344 := pk_in (bV + i) 1344 (by omega) (nI_add bV i)
    have ecV : (nI bV + nI i).toNatClampNeg = bV + i := pk_cl (bV + i) (nI_add bV i)
    have hinL : vp_in (nI bL + nI i) 1344 := pk_in (bL + i) 1344 (by omega) (nI_add bL i)
    have ecL : (nI bL + nI i).toNatClampNeg = bL + i := pk_cl (bL + i) (nI_add bL i)
    refine pk_le 192 i (fun h => absurd h (by omega)) (fun _ => ⟨hin, ?_⟩)
    by_cases z : cv i = 0
    · have e1 : ma_w pa (rr_gf pa cv cp c bV bL) bL i = ma_w pa (rr_gf pa cv cp c bV bL) bL (i + 1) := ma_wk (if_pos z)
      have e2 : ma_w pn (rr_gf pn cv cp m bV bL) bL i = ma_w pn (rr_gf pn cv cp m bV bL) bL (i + 1) := ma_wk (if_pos z)
      rw [← e1, ← e2] at h
      exact br_t (by rw [ec]; exact z) (nm_r (nI_1 i) h)
    · refine br_f (by rw [ec]; exact z) ⟨hinV, ?_⟩
      by_cases y : cp (bV + i) = 0
      · have e1 : ma_w pa (rr_gf pa cv cp c bV bL) bL i = ma_w pa (rr_gf pa cv cp c bV bL) bL (i + 1) := ma_wk (by unfold rr_gf; rw [if_neg z, if_pos y])
        have e2 : ma_w pn (rr_gf pn cv cp m bV bL) bL i = ma_w pn (rr_gf pn cv cp m bV bL) bL (i + 1) := ma_wk (by unfold rr_gf; rw [if_neg z, if_pos y])
        rw [← e1, ← e2] at h
        exact br_t (by rw [ecV]; exact y) (nm_r (nI_1 i) h)
      · have e1 : rr_gf pa cv cp c bV bL i = c := by
          unfold rr_gf
          rw [if_neg z, if_neg y]
        have e2 : rr_gf pn cv cp m bV bL i = m := by
          unfold rr_gf
          rw [if_neg z, if_neg y]
        exact br_f (by rw [ecV]; exact y) ⟨hinL, nm_r (by rw [ecL, ← ma_ws, e1]) ⟨hinL, nm_r (by rw [ecL, ← ma_ws, e2]) (nm_r (nI_1 i) h)⟩⟩
theorem xp_pc {post : SX → Prop} {m : Int32} {V L : Nat} (hV : V ≤ 6) (hL : L ≤ 6) (hp : post (xds, xrc, xde, xoc, xun, xfp, nI V, nI L, xec, xpb, xpf, xsx, xsy, xcx, xcy, dk, dv, sr, rs, rk, rv, ct, ru, pl, be, mx, xo, st, cp, ma_w pa (rr_gf pa cv cp (st (8 * V + 6)) (192 * V) (192 * L)) (192 * L) 192, ma_w pn (rr_gf pn cv cp m (192 * V) (192 * L)) (192 * L) 192, fx, fy, tx, ty, fi, cr, cv)) : wpX_paintCovered post (xds, xrc, xde, xoc, xun, xfp, nI V, nI L, xec, xpb, xpf, xsx, xsy, xcx, xcy, dk, dv, sr, rs, rk, rv, ct, ru, pl, be, mx, xo, st, cp, pa, pn, fx, fy, tx, ty, fi, cr, cv) m := by
  have ein : nI V * 8 + 6 = nI (8 * V + 6) := by
    rw [show nI V * 8 = nI (8 * V) from mb_ml 8 V]
    exact nI_add (8 * V) 6
  have ec : (nI V * 8 + 6).toNatClampNeg = 8 * V + 6 := pk_cl (8 * V + 6) ein
  have h := xw_pc (bV := 192 * V) (bL := 192 * L) (by omega) (by omega) hp 192 0 rfl
  rw [ma_w0, ma_w0] at h
  exact nm_r (mb_ml 192 V) (nm_r (mb_ml 192 L) ⟨pk_in (8 * V + 6) 56 (by omega) ein, nm_r (by rw [ec]) ⟨193, h⟩⟩)
def rr_gk (cp cv : Nat → Int32) (bV t : Nat) : Int32 := if cp (bV + t) = 0 then 0 else if cv t = 0 then 0 else 1
theorem xw_cc {post : SX → Prop} {bV : Nat} (hV : bV + 192 ≤ 1344) (hp : post (xds, xrc, xde, xoc, xun, xfp, xsc, xtl, xec, xpb, xpf, xsx, xsy, xcx, xcy, dk, dv, sr, rs, rk, rv, ct, ru, pl, be, mx, xo, st, ma_w cp (rr_gk cp cv bV) bV 192, pa, pn, fx, fy, tx, ty, fi, cr, cv)) :
    ∀ d i, i + d = 192 → wX_clipToCovered_11 post (nI bV) xds xrc xde xoc xun xfp xsc xtl xec xpb xpf xsx xsy xcx xcy (d + 1) (nI i) dk dv sr rs rk rv ct ru pl be mx xo st (ma_w cp (rr_gk cp cv bV) bV i) pa pn fx fy tx ty fi cr cv := by
  intro d
  induction d with
  | zero =>
    intro i hi
    have e : i = 192 := by omega
    rw [e]
    exact pk_le 192 192 (fun _ => hp) (fun h => absurd h (by omega))
  | succ d ih =>
    intro i hi
    have h := ih (i + 1) (by omega)
    have hin : vp_in (nI i) 192 := pk_in i 192 (by omega)
    have ec : (nI i).toNatClampNeg = i := pk_cl i
    have hinV : vp_in (nI bV + nI i) 1344 := pk_in (bV + i) 1344 (by omega) (nI_add bV i)
    have ecV : (nI bV + nI i).toNatClampNeg = bV + i := pk_cl (bV + i) (nI_add bV i)
    have er : ma_w cp (rr_gk cp cv bV) bV i (nI bV + nI i).toNatClampNeg = cp (bV + i) := by
      rw [ecV]
      exact ma_wr (by omega)
    refine pk_le 192 i (fun h => absurd h (by omega)) (fun _ => ⟨hinV, ?_⟩)
    by_cases z : cp (bV + i) = 0
    · have e1 : rr_gk cp cv bV i = 0 := if_pos z
      exact br_t (by rw [er]; exact z) ⟨hinV, nm_r (by rw [ecV, ← ma_ws, e1, mb_vb0]) (nm_r (nI_1 i) h)⟩
    · refine br_f (by rw [er]; exact z) ⟨hin, ?_⟩
      by_cases y : cv i = 0
      · have e1 : rr_gk cp cv bV i = 0 := by
          unfold rr_gk
          rw [if_neg z, if_pos y]
        exact br_t (by rw [ec]; exact y) ⟨hinV, nm_r (by rw [ecV, ← ma_ws, e1, mb_vb0]) (nm_r (nI_1 i) h)⟩
      · have e1 : rr_gk cp cv bV i = 1 := by
          unfold rr_gk
          rw [if_neg z, if_neg y]
        exact br_f (by rw [ec]; exact y) ⟨hinV, nm_r (by rw [ecV, ← ma_ws, e1, mb_vb1]) (nm_r (nI_1 i) h)⟩
theorem xp_cc {post : SX → Prop} {V : Nat} (hV : V ≤ 6) (hp : post (xds, xrc, xde, xoc, xun, xfp, nI V, xtl, xec, xpb, xpf, xsx, xsy, xcx, xcy, dk, dv, sr, rs, rk, rv, ct, ru, pl, be, mx, xo, st, ma_w cp (rr_gk cp cv (192 * V)) (192 * V) 192, pa, pn, fx, fy, tx, ty, fi, cr, cv)) : wpX_clipToCovered post (xds, xrc, xde, xoc, xun, xfp, nI V, xtl, xec, xpb, xpf, xsx, xsy, xcx, xcy, dk, dv, sr, rs, rk, rv, ct, ru, pl, be, mx, xo, st, cp, pa, pn, fx, fy, tx, ty, fi, cr, cv) := by
  have h := xw_cc (bV := 192 * V) (by omega) hp 192 0 rfl
  rw [ma_w0] at h
  exact nm_r (mb_ml 192 V) ⟨193, h⟩
