variable {xds xrc xde xoc xun xfp xsc xtl xec xpb xpf xsx xsy xcx xcy yrc ysh yle yla yde ypa yed yoc yun yfa ywh ype : Int32} {dk dv sr rs rk rv ct ru pl be mx xo st cp pa pn fx fy tx ty fi cr cv ln kd nm mt co wi sv bx bo ex ey yo : Nat → Int32}
/-! how a rendering begins -/
theorem cl00 : (0 : Int32).toNatClampNeg = 0 := by decide
theorem xw_s79 {post : SX → Prop} (hp : post (xds, xrc, nI (0 + 1), 0, 0, -1, 0, 0, 0, 0, xpf, xsx, xsy, xcx, xcy, dk, dv, sr, rs, rk, rv, ct, upd ru 0 0, upd pl 0 0, upd be 0 0, upd mx 0 (-1), xo, st, ma_w cp (fun _ => 1) 0 192, ma_w pa (fun _ => 0) 0 192, ma_w pn (fun _ => -1) 0 192, fx, fy, tx, ty, fi, cr, cv)) :
    ∀ d i, i + d = 192 → wX_startRendering_79 post xds xrc xde xoc xun xfp xsc xtl xec xpb xpf xsx xsy xcx xcy (d + 1) (nI i) dk dv sr rs rk rv ct ru pl be mx xo st (ma_w cp (fun _ => 1) 0 i) pa pn fx fy tx ty fi cr cv := by
  intro d
  induction d with
  | zero =>
    intro i hi
    have e : i = 192 := by omega
    rw [e]
    exact pk_le 192 192 (fun _ => xp_cl (l := 0) (by omega) ⟨pk_in 0 7 (by omega), nm_r (by rw [cl00]) ⟨pk_in 0 7 (by omega), nm_r (by rw [cl00]) ⟨pk_in 0 7 (by omega), nm_r (by rw [cl00]) ⟨pk_in 0 7 (by omega), nm_r (by rw [cl00]) (nm_r (nI_1 0) hp)⟩⟩⟩⟩) (fun h => absurd h (by omega))
  | succ d ih =>
    intro i hi
    have c : (nI i).toNatClampNeg = i := pk_cl i
    have h := ih (i + 1) (by omega)
    exact pk_le 192 i (fun h => absurd h (by omega)) (fun _ => ⟨pk_in i 1344 (by omega), nm_r (by rw [c, mb_vb1]; exact ma_ws0 cp (fun _ => 1) i) (nm_r (nI_1 i) h)⟩)
theorem xw_s28 {post : SX → Prop} (hp : ∃ n, wX_startRendering_79 post xds xrc xde xoc xun xfp xsc xtl xec xpb xpf xsx xsy xcx xcy n 0 dk dv sr rs rk rv ct ru pl be mx xo (upd (upd (upd (upd (ma_w st (fun _ => 0) 0 8) 0 1) 3 1) 6 1) 7 4) cp pa pn fx fy tx ty fi cr cv) :
    ∀ d i, i + d = 8 → wX_startRendering_28 post xds xrc xde xoc xun xfp xsc xtl xec xpb xpf xsx xsy xcx xcy (d + 1) (nI i) dk dv sr rs rk rv ct ru pl be mx xo (ma_w st (fun _ => 0) 0 i) cp pa pn fx fy tx ty fi cr cv := by
  intro d
  induction d with
  | zero =>
    intro i hi
    have e : i = 8 := by omega
    rw [e]
    exact pk_le 8 8 (fun _ => nm_e (nm_e (nm_e (nm_e hp)))) (fun h => absurd h (by omega))
  | succ d ih =>
    intro i hi
    have c : (nI i).toNatClampNeg = i := pk_cl i
    have h := ih (i + 1) (by omega)
    exact pk_le 8 i (fun h => absurd h (by omega)) (fun _ => ⟨pk_in i 56 (by omega), nm_r (by rw [c]; exact ma_ws0 st (fun _ => 0) i) (nm_r (nI_1 i) h)⟩)
theorem xw_s2 {post : SX → Prop} {k : Nat} (hk : k ≤ 8) (hp : ∃ n, wX_startRendering_28 post xds xrc xde xoc xun xfp xsc xtl xec xpb xpf xsx xsy xcx xcy n 0 dk dv sr rs rk rv (ma_w ct (fun s => ma_nw sr (nI s) k) 0 6) ru pl be mx xo st cp pa pn fx fy tx ty fi cr cv) :
    ∀ d i, i + d = 6 → wX_startRendering_2 post (nI k) xds xrc xde xoc xun xfp xsc xtl xec xpb xpf xsx xsy xcx xcy (d + 1) (nI i) dk dv sr rs rk rv (ma_w ct (fun s => ma_nw sr (nI s) k) 0 i) ru pl be mx xo st cp pa pn fx fy tx ty fi cr cv := by
  intro d
  induction d with
  | zero =>
    intro i hi
    have e : i = 6 := by omega
    rw [e]
    exact pk_le 6 6 (fun _ => hp) (fun h => absurd h (by omega))
  | succ d ih =>
    intro i hi
    have c : (nI i).toNatClampNeg = i := pk_cl i
    have h := ih (i + 1) (by omega)
    exact pk_le 6 i (fun h => absurd h (by omega)) (fun _ => xp_nr hk ⟨pk_in i 6 (by omega), nm_r (by rw [c]; exact ma_ws0 ct (fun s => ma_nw sr (nI s) k) i) (nm_r (nI_1 i) h)⟩)
theorem xp_start {post : SX → Prop} {k : Nat} (hk : k ≤ 8) (hp : post (xds, xrc, nI (0 + 1), 0, 0, -1, 0, 0, 0, 0, xpf, xsx, xsy, xcx, xcy, dk, dv, sr, rs, rk, rv, ma_w ct (fun s => ma_nw sr (nI s) k) 0 6, upd ru 0 0, upd pl 0 0, upd be 0 0, upd mx 0 (-1), xo, upd (upd (upd (upd (ma_w st (fun _ => 0) 0 8) 0 1) 3 1) 6 1) 7 4, ma_w cp (fun _ => 1) 0 192, ma_w pa (fun _ => 0) 0 192, ma_w pn (fun _ => -1) 0 192, fx, fy, tx, ty, fi, cr, cv)) : wpX_startRendering post (xds, xrc, xde, xoc, xun, xfp, xsc, xtl, xec, xpb, xpf, xsx, xsy, xcx, xcy, dk, dv, sr, rs, rk, rv, ct, ru, pl, be, mx, xo, st, cp, pa, pn, fx, fy, tx, ty, fi, cr, cv) (nI k) := by
  have h := xw_s79 (xde := xde) (xoc := xoc) (xun := xun) (xfp := xfp) (xsc := xsc) (xtl := xtl) (xec := xec) (xpb := xpb) (cp := cp) hp 192 0 rfl
  rw [ma_w0] at h
  have h' := xw_s28 ⟨_, h⟩ 8 0 rfl
  rw [ma_w0] at h'
  have h'' := xw_s2 hk ⟨_, h'⟩ 6 0 rfl
  rw [ma_w0] at h''
  exact ⟨_, h''⟩
theorem yw_r113 {post : Int32 → SY → Prop} (hp : ∃ n, wY_renderAt_141 post n 0 yrc ysh yle yla (nI (0 + 1)) ypa yed 0 yun yfa ywh ype sr ln kd nm mt co wi (ma_w cp (fun _ => 1) 0 192) pa pn (upd ru 0 0) (upd pl 0 0) (upd sv 0 0) (upd be 0 yle) (upd mx 0 (-1)) bx bo ex ey fx fy tx ty yo) :
    ∀ d i, i + d = 192 → wY_renderAt_113 post yrc ysh yle yla (nI 0) ypa yed yoc yun yfa ywh ype (d + 1) (nI i) sr ln kd nm mt co wi (ma_w cp (fun _ => 1) 0 i) pa pn ru pl sv be mx bx bo ex ey fx fy tx ty yo := by
  intro d
  induction d with
  | zero =>
    intro i hi
    have e : i = 192 := by omega
    rw [e]
    exact pk_le 192 192 (fun _ => yp_op (by omega) hp) (fun h => absurd h (by omega))
  | succ d ih =>
    intro i hi
    have c : (nI i).toNatClampNeg = i := pk_cl i
    have h := ih (i + 1) (by omega)
    exact pk_le 192 i (fun h => absurd h (by omega)) (fun _ => ⟨pk_in i 1344 (by omega), nm_r (by rw [c, mb_vb1]; exact ma_ws0 cp (fun _ => 1) i) (nm_r (nI_1 i) h)⟩)
theorem yw_r79 {post : Int32 → SY → Prop} (hp : ∃ n, wY_renderAt_113 post yrc ysh yle yla yde ypa yed yoc yun yfa ywh ype n 0 sr ln kd nm (ma_w mt (fun m => if m = 0 ∨ m = 3 then 1 else 0) 0 6) co wi cp pa pn ru pl sv be mx bx bo ex ey fx fy tx ty yo) :
    ∀ d i, i + d = 6 → wY_renderAt_79 post yrc ysh yle yla yde ypa yed yoc yun yfa ywh ype (d + 1) (nI i) sr ln kd nm (ma_w mt (fun m => if m = 0 ∨ m = 3 then 1 else 0) 0 i) co wi cp pa pn ru pl sv be mx bx bo ex ey fx fy tx ty yo := by
  intro d
  induction d with
  | zero =>
    intro i hi
    have e : i = 6 := by omega
    rw [e]
    exact pk_le 6 6 (fun _ => hp) (fun h => absurd h (by omega))
  | succ d ih =>
    intro i hi
    have c : (nI i).toNatClampNeg = i := pk_cl i
    have i4 : vp_in (nI i) 42 := pk_in i 42 (by omega)
    have h := ih (i + 1) (by omega)
    have hw := ma_ws0 mt (fun m => if m = 0 ∨ m = 3 then 1 else 0) i
    refine pk_le 6 i (fun h => absurd h (by omega)) (fun _ => pk_eq i 0 (fun z => ⟨i4, nm_r ?_ (nm_r (nI_1 i) h)⟩) (fun z => pk_eq i 3 (fun y => ⟨i4, nm_r ?_ (nm_r (nI_1 i) h)⟩) (fun y => ⟨i4, nm_r ?_ (nm_r (nI_1 i) h)⟩)))
    · rw [c, ← hw, if_pos (Or.inl z)]
    · rw [c, ← hw, if_pos (Or.inr y)]
    · rw [c, ← hw, if_neg (fun q => q.elim z y)]
theorem yp_ren {post : Int32 → SY → Prop} {k c : Nat} (hk : k ≤ c) (hc : c ≤ 8) (hp : ∃ n, wY_renderAt_141 post n 0 (nI c) (nI k) 0 0 (nI (0 + 1)) 0 0 0 0 0 (-1) ype sr ln kd nm (ma_w mt (fun m => if m = 0 ∨ m = 3 then 1 else 0) 0 6) (upd co 0 1) (upd wi 0 4) (ma_w cp (fun _ => 1) 0 192) (ma_w pa (fun _ => 0) 0 192) (ma_w pn (fun _ => -1) 0 192) (upd ru 0 0) (upd pl 0 0) (upd sv 0 0) (upd be 0 0) (upd mx 0 (-1)) bx bo ex ey fx fy tx ty yo) : wpY_renderAt post (nI c, ysh, yle, yla, yde, ypa, yed, yoc, yun, yfa, ywh, ype, sr, ln, kd, nm, mt, co, wi, cp, pa, pn, ru, pl, sv, be, mx, bx, bo, ex, ey, fx, fy, tx, ty, yo) (nI k) := by
  have h := yw_r113 (yoc := yoc) (cp := cp) hp 192 0 rfl
  rw [ma_w0] at h
  have h' := yw_r79 ⟨_, h⟩ 6 0 rfl
  rw [ma_w0] at h'
  exact br_f (nI_pos (by omega)) (pk_le k c (fun _ => yp_cl (nm_e (nm_e ⟨_, h'⟩))) (fun z => absurd z (by omega)))
theorem re_main {c d k : Nat} (hk : k ≤ c) (hd : rr_doc c d rs rk rv dk dv ln kd nm) (hs : rr_st st mt co wi) (hp : rr_pa pa) :
    ∃ (r : Int32) (u' : SX) (v' : SY), rr_I u' v' ∧ (∀ post : Int32 → SX → Prop, post r u' → wpX_renderFirst post (nI d, nI c, xde, xoc, xun, xfp, xsc, xtl, xec, xpb, xpf, xsx, xsy, xcx, xcy, dk, dv, sr, rs, rk, rv, ct, ru, pl, be, mx, xo, st, cp, pa, pn, fx, fy, tx, ty, fi, cr, cv) (nI k)) ∧ (∀ post : Int32 → SY → Prop, post r v' → wpY_renderAt post (nI c, ysh, yle, yla, yde, ypa, yed, yoc, yun, yfa, ywh, ype, sr, ln, kd, nm, mt, co, wi, cp, pa, pn, ru, pl, sv, be, mx, bx, bo, ex, ey, fx, fy, tx, ty, yo) (nI k)) := by
  have hc8 := hd.1
  have hR : rr_R k (rr_ph 0 0 (fun _ => 0)) 0 0 (nI d, nI c, nI (0 + 1), 0, 0, -1, 0, 0, 0, 0, xpf, xsx, xsy, xcx, xcy, dk, dv, sr, rs, rk, rv, ma_w ct (fun s => ma_nw sr (nI s) k) 0 6, upd ru 0 0, upd pl 0 0, upd be 0 0, upd mx 0 (-1), xo, upd (upd (upd (upd (ma_w st (fun _ => 0) 0 8) 0 1) 3 1) 6 1) 7 4, ma_w cp (fun _ => 1) 0 192, ma_w pa (fun _ => 0) 0 192, ma_w pn (fun _ => -1) 0 192, fx, fy, tx, ty, fi, cr, cv)
      (nI c, nI k, 0, 0, nI (0 + 1), 0, 0, 0, 0, 0, -1, ype, sr, ln, kd, nm, ma_w mt (fun m => if m = 0 ∨ m = 3 then 1 else 0) 0 6, upd co 0 1, upd wi 0 4, ma_w cp (fun _ => 1) 0 192, ma_w pa (fun _ => 0) 0 192, ma_w pn (fun _ => -1) 0 192, upd ru 0 0, upd pl 0 0, upd sv 0 0, upd be 0 0, upd mx 0 (-1), bx, bo, ex, ey, fx, fy, tx, ty, yo) :=
    ⟨c, d, 0, 0, 0, 0, 0, 0, 0, fun _ => 0, fun _ => 0, fun _ => 0, 0, _, _, _, _, _, _, _, _, _, _, _, _, _, _, _, _, _, _, _, _, _, _, _, _, _, _, _, _, _, _, _, _, _, _, _, _, _, _, _, _, _, rfl, rfl, rfl, hd, rr_st0 hs, rr_pa0 hp, rr_op0, fun s hs6 => ma_wg0 hs6, by omega, rr_fr0, rr_pl0 _ _ _ _, ma_p0 0 xsx xsy xcx xcy fx fy tx ty fi bx bo ex ey, fun z => absurd z (by decide)⟩
  obtain ⟨r, u', v', hI, hX, hY⟩ := lo_main k _ 0 _ _ hR
  have e : rr_ph 0 0 (fun _ => 0) = 8241 := rr_ph0
  rw [e] at hX hY
  refine ⟨r, u', v', hI, fun post H => ?_, fun post H => ?_⟩
  · unfold wpX_renderFirst
    exact xp_start (by omega) ⟨8242, hX post 8242 0 (by omega) (by omega) H⟩
  · exact yp_ren hk hc8 ⟨8242, hY post 8242 0 (by omega) (by omega) H⟩
