variable {xds xrc xde xoc xun xfp xsc xtl xec xpb xpf xsx xsy xcx xcy yrc ysh yle yla yde ypa yed yoc yun yfa ywh ype : Int32} {dk dv sr rs rk rv ct ru pl be mx xo st cp pa pn fx fy tx ty fi cr cv ln kd nm mt co wi sv bx bo ex ey yo : Nat → Int32}
/-! save, restore -/
def rr_gs (cp : Nat → Int32) (b t : Nat) : Int32 := vp_nar .boolean (cp (b + t))
theorem xw_sv2 {post : Int32 → SX → Prop} {V : Nat} (hV : V < 6) (hp : post 0 (xds, xrc, xde, xoc, xun, xfp, nI (V + 1), xtl, xec, xpb, xpf, xsx, xsy, xcx, xcy, dk, dv, sr, rs, rk, rv, ct, ru, pl, be, mx, xo, st, ma_w cp (rr_gs cp (192 * V)) (192 * V + 192) 192, pa, pn, fx, fy, tx, ty, fi, cr, cv)) :
    ∀ d i, i + d = 192 → wX_saveState_64 post (nI (192 * V)) xds xrc xde xoc xun xfp (nI V) xtl xec xpb xpf xsx xsy xcx xcy (d + 1) (nI i) dk dv sr rs rk rv ct ru pl be mx xo st (ma_w cp (rr_gs cp (192 * V)) (192 * V + 192) i) pa pn fx fy tx ty fi cr cv := by
  intro d
  induction d with
  | zero =>
    intro i hi
    have e : i = 192 := by omega
    rw [e]
    exact pk_le 192 192 (fun _ => nm_r (nI_1 V) hp) (fun h => absurd h (by omega))
  | succ d ih =>
    intro i hi
    have h := ih (i + 1) (by omega)
    have e1 : nI (192 * V) + nI i = nI (192 * V + i) := nI_add _ i
    have h1 : vp_in (nI (192 * V) + nI i) 1344 := pk_in (192 * V + i) 1344 (by omega) e1
    have c1 : (nI (192 * V) + nI i).toNatClampNeg = 192 * V + i := pk_cl (192 * V + i) e1
    have e2 : nI (192 * V) + 192 + nI i = nI (192 * V + 192 + i) := by
      rw [show nI (192 * V) + 192 = nI (192 * V + 192) from nI_add (192 * V) 192, nI_add]
    have h2 : vp_in (nI (192 * V) + 192 + nI i) 1344 := pk_in (192 * V + 192 + i) 1344 (by omega) e2
    have c2 : (nI (192 * V) + 192 + nI i).toNatClampNeg = 192 * V + 192 + i := pk_cl (192 * V + 192 + i) e2
    exact pk_le 192 i (fun h => absurd h (by omega)) (fun _ => ⟨h1, h2, nm_r (by rw [c2, c1, ma_wr (by omega)]; exact ma_ws cp (rr_gs cp (192 * V)) (192 * V + 192) i) (nm_r (nI_1 i) h)⟩)
theorem xw_sv1 {post : Int32 → SX → Prop} {V : Nat} (hV : V < 6) (hp : ∃ n, wX_saveState_64 post (nI (192 * V)) xds xrc xde xoc xun xfp (nI V) xtl xec xpb xpf xsx xsy xcx xcy n 0 dk dv sr rs rk rv ct ru pl be mx xo (ma_w st (fun n => st (8 * V + n)) (8 * V + 8) 8) cp pa pn fx fy tx ty fi cr cv) :
    ∀ d i, i + d = 8 → wX_saveState_22 post (nI (8 * V)) xds xrc xde xoc xun xfp (nI V) xtl xec xpb xpf xsx xsy xcx xcy (d + 1) (nI i) dk dv sr rs rk rv ct ru pl be mx xo (ma_w st (fun n => st (8 * V + n)) (8 * V + 8) i) cp pa pn fx fy tx ty fi cr cv := by
  intro d
  induction d with
  | zero =>
    intro i hi
    have e : i = 8 := by omega
    rw [e]
    exact pk_le 8 8 (fun _ => nm_r (mb_ml 192 V) hp) (fun h => absurd h (by omega))
  | succ d ih =>
    intro i hi
    have h := ih (i + 1) (by omega)
    have e1 : nI (8 * V) + nI i = nI (8 * V + i) := nI_add _ i
    have h1 : vp_in (nI (8 * V) + nI i) 56 := pk_in (8 * V + i) 56 (by omega) e1
    have c1 : (nI (8 * V) + nI i).toNatClampNeg = 8 * V + i := pk_cl (8 * V + i) e1
    have e2 : nI (8 * V) + 8 + nI i = nI (8 * V + 8 + i) := by
      rw [show nI (8 * V) + 8 = nI (8 * V + 8) from nI_add (8 * V) 8, nI_add]
    have h2 : vp_in (nI (8 * V) + 8 + nI i) 56 := pk_in (8 * V + 8 + i) 56 (by omega) e2
    have c2 : (nI (8 * V) + 8 + nI i).toNatClampNeg = 8 * V + 8 + i := pk_cl (8 * V + 8 + i) e2
    exact pk_le 8 i (fun h => absurd h (by omega)) (fun _ => ⟨h1, h2, nm_r (by rw [c2, c1, ma_wr (by omega)]; exact ma_ws st (fun n => st (8 * V + n)) (8 * V + 8) i) (nm_r (nI_1 i) h)⟩)
theorem xp_sv {post : Int32 → SX → Prop} {V : Nat} (hV : V < 6) (hp : post 0 (xds, xrc, xde, xoc, xun, xfp, nI (V + 1), xtl, xec, xpb, xpf, xsx, xsy, xcx, xcy, dk, dv, sr, rs, rk, rv, ct, ru, pl, be, mx, xo, ma_w st (fun n => st (8 * V + n)) (8 * V + 8) 8, ma_w cp (rr_gs cp (192 * V)) (192 * V + 192) 192, pa, pn, fx, fy, tx, ty, fi, cr, cv)) : wpX_saveState post (xds, xrc, xde, xoc, xun, xfp, nI V, xtl, xec, xpb, xpf, xsx, xsy, xcx, xcy, dk, dv, sr, rs, rk, rv, ct, ru, pl, be, mx, xo, st, cp, pa, pn, fx, fy, tx, ty, fi, cr, cv) := by
  have h := xw_sv2 hV hp 192 0 rfl
  rw [ma_w0] at h
  have h' := xw_sv1 hV ⟨_, h⟩ 8 0 rfl
  rw [ma_w0] at h'
  exact pk_lt V 6 (fun _ => nm_r (mb_ml 8 V) ⟨9, h'⟩) (fun h => absurd h (by omega))
theorem xp_sv6 {post : Int32 → SX → Prop} {V : Nat} (hV : V = 6) (hp : post 6 (xds, xrc, xde, xoc, xun, xfp, nI V, xtl, xec, xpb, xpf, xsx, xsy, xcx, xcy, dk, dv, sr, rs, rk, rv, ct, ru, pl, be, mx, xo, st, cp, pa, pn, fx, fy, tx, ty, fi, cr, cv)) : wpX_saveState post (xds, xrc, xde, xoc, xun, xfp, nI V, xtl, xec, xpb, xpf, xsx, xsy, xcx, xcy, dk, dv, sr, rs, rk, rv, ct, ru, pl, be, mx, xo, st, cp, pa, pn, fx, fy, tx, ty, fi, cr, cv) := pk_lt V 6 (fun h => absurd h (by omega)) (fun _ => hp)
/-! the layers' mixture -/
def rr_gp (pa : Nat → Int32) (a : Int32) (bU bL t : Nat) : Int32 := if pa (bU + t) = -1 then pa (bL + t) else if pa (bL + t) = -1 then pa (bU + t) else (a * pa (bU + t) + (16 - a) * pa (bL + t)) / 16
def rr_gq (pa pn : Nat → Int32) (bU bL t : Nat) : Int32 := if pa (bU + t) = -1 then pn (bL + t) else pn (bU + t)
theorem xw_mi {post : SX → Prop} {a : Int32} {l bU bL : Nat} (hU : bU + 192 ≤ 1344) (hL : bL + 192 ≤ bU) (hp : post (xds, xrc, xde, xoc, xun, xfp, xsc, nI l, xec, xpb, xpf, xsx, xsy, xcx, xcy, dk, dv, sr, rs, rk, rv, ct, ru, pl, be, mx, xo, st, cp, ma_w pa (rr_gp pa a bU bL) bL 192, ma_w pn (rr_gq pa pn bU bL) bL 192, fx, fy, tx, ty, fi, cr, cv)) :
    ∀ d i, i + d = 192 → wX_mixTopLayer_18 post a (nI bU) (nI bL) xds xrc xde xoc xun xfp xsc (nI (l + 1)) xec xpb xpf xsx xsy xcx xcy (d + 1) (nI i) dk dv sr rs rk rv ct ru pl be mx xo st cp (ma_w pa (rr_gp pa a bU bL) bL i) (ma_w pn (rr_gq pa pn bU bL) bL i) fx fy tx ty fi cr cv := by
  intro d
  induction d with
  | zero =>
    intro i hi
    have e : i = 192 := by omega
    rw [e]
    exact pk_le 192 192 (fun _ => nm_r (nI_pred l) hp) (fun h => absurd h (by omega))
  | succ d ih =>
    intro i hi
    have h := ih (i + 1) (by omega)
    have hinU : vp_in (nI bU + nI i) 1344 := pk_in (bU + i) 1344 (by omega) (nI_add bU i)
    have ecU : (nI bU + nI i).toNatClampNeg = bU + i := pk_cl (bU + i) (nI_add bU i)
    have hinL : vp_in (nI bL + nI i) 1344 := pk_in (bL + i) 1344 (by omega) (nI_add bL i)
    have ecL : (nI bL + nI i).toNatClampNeg = bL + i := pk_cl (bL + i) (nI_add bL i)
    have rU : ma_w pa (rr_gp pa a bU bL) bL i (nI bU + nI i).toNatClampNeg = pa (bU + i) := by
      rw [ecU]
      exact ma_wr (by omega)
    have rL : ma_w pa (rr_gp pa a bU bL) bL i (nI bL + nI i).toNatClampNeg = pa (bL + i) := by
      rw [ecL]
      exact ma_wr (by omega)
    have qU : ma_w pn (rr_gq pa pn bU bL) bL i (nI bU + nI i).toNatClampNeg = pn (bU + i) := by
      rw [ecU]
      exact ma_wr (by omega)
    refine pk_le 192 i (fun h => absurd h (by omega)) (fun _ => ⟨hinU, nm_r rU ⟨hinL, nm_r rL ?_⟩⟩)
    by_cases z : pa (bU + i) = -1
    · have e1 : ma_w pa (rr_gp pa a bU bL) bL i = ma_w pa (rr_gp pa a bU bL) bL (i + 1) := ma_wk (if_pos z)
      have e2 : ma_w pn (rr_gq pa pn bU bL) bL i = ma_w pn (rr_gq pa pn bU bL) bL (i + 1) := ma_wk (if_pos z)
      rw [← e1, ← e2] at h
      exact br_t z (nm_r (nI_1 i) h)
    · have e2 : rr_gq pa pn bU bL i = pn (bU + i) := if_neg z
      by_cases y : pa (bL + i) = -1
      · have e1 : rr_gp pa a bU bL i = pa (bU + i) := by
          unfold rr_gp
          rw [if_neg z, if_pos y]
        exact br_f z (br_t y (br_f (by decide) ⟨hinL, nm_r (by rw [ecL, ← ma_ws, e1]) ⟨hinU, hinL, nm_r (by rw [qU, ecL, ← ma_ws, e2]) (nm_r (nI_1 i) h)⟩⟩))
      · have e1 : rr_gp pa a bU bL i = (a * pa (bU + i) + (16 - a) * pa (bL + i)) / 16 := by
          unfold rr_gp
          rw [if_neg z, if_neg y]
        exact br_f z (br_f y (br_t rfl ⟨by decide, hinL, nm_r (by rw [ecL, ← ma_ws, e1]) ⟨hinU, hinL, nm_r (by rw [qU, ecL, ← ma_ws, e2]) (nm_r (nI_1 i) h)⟩⟩))
theorem xp_mi {post : SX → Prop} {a : Int32} {l : Nat} (hl : l + 1 ≤ 6) (hp : post (xds, xrc, xde, xoc, xun, xfp, xsc, nI l, xec, xpb, xpf, xsx, xsy, xcx, xcy, dk, dv, sr, rs, rk, rv, ct, ru, pl, be, mx, xo, st, cp, ma_w pa (rr_gp pa a (192 * (l + 1)) (192 * l)) (192 * l) 192, ma_w pn (rr_gq pa pn (192 * (l + 1)) (192 * l)) (192 * l) 192, fx, fy, tx, ty, fi, cr, cv)) : wpX_mixTopLayer post (xds, xrc, xde, xoc, xun, xfp, xsc, nI (l + 1), xec, xpb, xpf, xsx, xsy, xcx, xcy, dk, dv, sr, rs, rk, rv, ct, ru, pl, be, mx, xo, st, cp, pa, pn, fx, fy, tx, ty, fi, cr, cv) a := by
  have h := xw_mi (bU := 192 * (l + 1)) (bL := 192 * l) (by omega) (by omega) hp 192 0 rfl
  rw [ma_w0, ma_w0] at h
  have e : nI (192 * (l + 1)) - 192 = nI (192 * l) := by
    have := pk_sub (a := 192 * (l + 1)) (b := 192) (by omega)
    rw [show 192 * (l + 1) - 192 = 192 * l by omega] at this
    exact this
  exact nm_r (mb_ml 192 (l + 1)) (nm_r e ⟨193, h⟩)
/-! the matrix -/
theorem xw_cm3 {post : Int32 → SX → Prop} {V : Nat} (hV : V ≤ 6) (hp : post 0 (xds, xrc, xde, xoc, xun, xfp, xsc, xtl, xec, xpb, xpf, xsx, xsy, xcx, xcy, dk, dv, sr, rs, rk, rv, ct, ru, pl, be, mx, xo, ma_w st xo (8 * V) 6, cp, pa, pn, fx, fy, tx, ty, fi, cr, cv)) :
    ∀ d i, i + d = 6 → wX_changeMatrix_182 post (nI (8 * V)) xds xrc xde xoc xun xfp xsc xtl xec xpb xpf xsx xsy xcx xcy (d + 1) (nI i) dk dv sr rs rk rv ct ru pl be mx xo (ma_w st xo (8 * V) i) cp pa pn fx fy tx ty fi cr cv := by
  intro d
  induction d with
  | zero =>
    intro i hi
    have e : i = 6 := by omega
    rw [e]
    exact pk_le 6 6 (fun _ => hp) (fun h => absurd h (by omega))
  | succ d ih =>
    intro i hi
    have h := ih (i + 1) (by omega)
    have e1 : nI (8 * V) + nI i = nI (8 * V + i) := nI_add _ i
    have c1 : (nI (8 * V) + nI i).toNatClampNeg = 8 * V + i := pk_cl (8 * V + i) e1
    have c2 : (nI i).toNatClampNeg = i := pk_cl i
    exact pk_le 6 i (fun h => absurd h (by omega)) (fun _ => ⟨pk_in i 6 (by omega), pk_in (8 * V + i) 56 (by omega) e1, nm_r (by rw [c1, c2]; exact ma_ws st xo (8 * V) i) (nm_r (nI_1 i) h)⟩)
def rr_lim (i : Nat) : Int32 := if 4 ≤ i then 4000 else 50
def rr_ok (xo : Nat → Int32) (i : Nat) : Prop := ¬ xo i < -rr_lim i ∧ xo i ≤ rr_lim i
theorem xw_cm2 {post : Int32 → SX → Prop} {V : Nat} (hV : V ≤ 6) (hp : (∀ j, j < 6 → rr_ok xo j) → post 0 (xds, xrc, xde, xoc, xun, xfp, xsc, xtl, xec, xpb, xpf, xsx, xsy, xcx, xcy, dk, dv, sr, rs, rk, rv, ct, ru, pl, be, mx, xo, ma_w st xo (8 * V) 6, cp, pa, pn, fx, fy, tx, ty, fi, cr, cv)) (hf : (∃ j, j < 6 ∧ ¬ rr_ok xo j) → post 3 (xds, xrc, xde, xoc, xun, xfp, xsc, xtl, xec, xpb, xpf, xsx, xsy, xcx, xcy, dk, dv, sr, rs, rk, rv, ct, ru, pl, be, mx, xo, st, cp, pa, pn, fx, fy, tx, ty, fi, cr, cv)) :
    ∀ d i, i + d = 6 → (∀ j, j < i → rr_ok xo j) → wX_changeMatrix_131 post (nI (8 * V)) xds xrc xde xoc xun xfp xsc xtl xec xpb xpf xsx xsy xcx xcy dk dv sr rs rk rv ct ru pl be mx xo st cp pa pn fx fy tx ty fi cr cv (d + 1) (nI i) := by
  intro d
  induction d with
  | zero =>
    intro i hi hj
    have e : i = 6 := by omega
    rw [e] at hj
    have h := xw_cm3 hV (hp hj) 6 0 rfl
    rw [ma_w0] at h
    rw [e]
    exact pk_le 6 6 (fun _ => ⟨7, h⟩) (fun h => absurd h (by omega))
  | succ d ih =>
    intro i hi hj
    have c : (nI i).toNatClampNeg = i := pk_cl i
    have hin : vp_in (nI i) 6 := pk_in i 6 (by omega)
    have key : wX_changeMatrix_150 post (wX_changeMatrix_131 post (nI (8 * V)) xds xrc xde xoc xun xfp xsc xtl xec xpb xpf xsx xsy xcx xcy dk dv sr rs rk rv ct ru pl be mx xo st cp pa pn fx fy tx ty fi cr cv (d + 1)) (nI (8 * V)) (nI i) (rr_lim i) xds xrc xde xoc xun xfp xsc xtl xec xpb xpf xsx xsy xcx xcy dk dv sr rs rk rv ct ru pl be mx xo st cp pa pn fx fy tx ty fi cr cv := by
      refine ⟨hin, ?_⟩
      rw [c]
      by_cases a : xo i < -rr_lim i
      · exact br_t a (hf ⟨i, by omega, fun z => z.1 a⟩)
      · refine br_f a ⟨hin, ?_⟩
        by_cases b : xo i ≤ rr_lim i
        · refine br_t b (nm_r (nI_1 i) (ih (i + 1) (by omega) (fun j hj' => ?_)))
          by_cases e : j = i
          · rw [e]
            exact ⟨a, b⟩
          · exact hj j (by omega)
        · exact br_f b (hf ⟨i, by omega, fun z => b z.2⟩)
    refine pk_le 6 i (fun h => absurd h (by omega)) (fun _ => pk_le 4 i (fun h => ?_) (fun h => ?_))
    · rw [show rr_lim i = 4000 from if_pos h] at key
      exact key
    · rw [show rr_lim i = 50 from if_neg (by omega)] at key
      exact key
