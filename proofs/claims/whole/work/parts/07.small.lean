variable {xds xrc xde xoc xun xfp xsc xtl xec xpb xpf xsx xsy xcx xcy yrc ysh yle yla yde ypa yed yoc yun yfa ywh ype : Int32} {dk dv sr rs rk rv ct ru pl be mx xo st cp pa pn fx fy tx ty fi cr cv ln kd nm mt co wi sv bx bo ex ey yo : Nat → Int32}
theorem ma_ws0 (f g : Nat → Int32) (i : Nat) : upd (ma_w f g 0 i) i (g i) = ma_w f g 0 (i + 1) := by
  have h := ma_ws f g 0 i
  rw [Nat.zero_add] at h
  exact h
/-! clearLayer, clearPage -/
theorem xw_cl9 {post : SX → Prop} {c : Int32} {b : Nat} (hb : b + 192 ≤ 1344) (hp : post (xds, xrc, xde, xoc, xun, xfp, xsc, xtl, xec, xpb, xpf, xsx, xsy, xcx, xcy, dk, dv, sr, rs, rk, rv, ct, ru, pl, be, mx, xo, st, cp, ma_w pa (fun _ => c) b 192, ma_w pn (fun _ => -1) b 192, fx, fy, tx, ty, fi, cr, cv)) :
    ∀ d i, i + d = 192 → wX_clearLayer_9 post c (nI b) xds xrc xde xoc xun xfp xsc xtl xec xpb xpf xsx xsy xcx xcy (d + 1) (nI i) dk dv sr rs rk rv ct ru pl be mx xo st cp (ma_w pa (fun _ => c) b i) (ma_w pn (fun _ => -1) b i) fx fy tx ty fi cr cv := by
  intro d
  induction d with
  | zero =>
    intro i hi
    have e : i = 192 := by omega
    rw [e]
    exact pk_le 192 192 (fun _ => hp) (fun h => absurd h (by omega))
  | succ d ih =>
    intro i hi
    have ein : nI b + nI i = nI (b + i) := nI_add b i
    have hin : vp_in (nI b + nI i) 1344 := pk_in (b + i) 1344 (by omega) ein
    have ec : (nI b + nI i).toNatClampNeg = b + i := pk_cl (b + i) ein
    exact pk_le 192 i (fun h => absurd h (by omega)) (fun _ => ⟨hin, nm_r (by rw [ec]; exact ma_ws pa (fun _ => c) b i) ⟨hin, nm_r (by rw [ec]; exact ma_ws pn (fun _ => -1) b i) (nm_r (nI_1 i) (ih (i + 1) (by omega)))⟩⟩)
theorem xp_cl {post : SX → Prop} {c : Int32} {l : Nat} (hl : l ≤ 6) (hp : post (xds, xrc, xde, xoc, xun, xfp, xsc, xtl, xec, xpb, xpf, xsx, xsy, xcx, xcy, dk, dv, sr, rs, rk, rv, ct, ru, pl, be, mx, xo, st, cp, ma_w pa (fun _ => c) (192 * l) 192, ma_w pn (fun _ => -1) (192 * l) 192, fx, fy, tx, ty, fi, cr, cv)) : wpX_clearLayer post (xds, xrc, xde, xoc, xun, xfp, xsc, xtl, xec, xpb, xpf, xsx, xsy, xcx, xcy, dk, dv, sr, rs, rk, rv, ct, ru, pl, be, mx, xo, st, cp, pa, pn, fx, fy, tx, ty, fi, cr, cv) (nI l) c := by
  have h := xw_cl9 (b := 192 * l) (by omega) hp 192 0 rfl
  rw [ma_w0, ma_w0] at h
  exact nm_r (mb_ml 192 l) ⟨193, h⟩
theorem yw_cl2 {post : SY → Prop} (hp : post (yrc, ysh, yle, yla, yde, ypa, yed, yoc, yun, yfa, ywh, ype, sr, ln, kd, nm, mt, co, wi, cp, ma_w pa (fun _ => 0) 0 192, ma_w pn (fun _ => -1) 0 192, ru, pl, sv, be, mx, bx, bo, ex, ey, fx, fy, tx, ty, yo)) :
    ∀ d i, i + d = 192 → wY_clearPage_2 post yrc ysh yle yla yde ypa yed yoc yun yfa ywh ype (d + 1) (nI i) sr ln kd nm mt co wi cp (ma_w pa (fun _ => 0) 0 i) (ma_w pn (fun _ => -1) 0 i) ru pl sv be mx bx bo ex ey fx fy tx ty yo := by
  intro d
  induction d with
  | zero =>
    intro i hi
    have e : i = 192 := by omega
    rw [e]
    exact pk_le 192 192 (fun _ => hp) (fun h => absurd h (by omega))
  | succ d ih =>
    intro i hi
    have hin : vp_in (nI i) 1344 := pk_in i 1344 (by omega)
    have ec : (nI i).toNatClampNeg = i := pk_cl i
    exact pk_le 192 i (fun h => absurd h (by omega)) (fun _ => ⟨hin, nm_r (by rw [ec]; exact ma_ws0 pa (fun _ => 0) i) ⟨hin, nm_r (by rw [ec]; exact ma_ws0 pn (fun _ => -1) i) (nm_r (nI_1 i) (ih (i + 1) (by omega)))⟩⟩)
theorem yp_cl {post : SY → Prop} (hp : post (yrc, ysh, yle, yla, yde, ypa, yed, yoc, yun, yfa, ywh, ype, sr, ln, kd, nm, mt, co, wi, cp, ma_w pa (fun _ => 0) 0 192, ma_w pn (fun _ => -1) 0 192, ru, pl, sv, be, mx, bx, bo, ex, ey, fx, fy, tx, ty, yo)) : wpY_clearPage post (yrc, ysh, yle, yla, yde, ypa, yed, yoc, yun, yfa, ywh, ype, sr, ln, kd, nm, mt, co, wi, cp, pa, pn, ru, pl, sv, be, mx, bx, bo, ex, ey, fx, fy, tx, ty, yo) := by
  have h := yw_cl2 hp 192 0 rfl
  rw [ma_w0, ma_w0] at h
  exact ⟨193, h⟩
theorem rr_c10 : rr_c1 0 := by
  unfold rr_c1
  decide
theorem rr_pa0 {pa : Nat → Int32} (h : rr_pa pa) : rr_pa (ma_w pa (fun _ => 0) 0 192) := ma_wall (P := fun x => x = -1 ∨ rr_c1 x) h (fun _ _ => Or.inr (by unfold rr_c1; decide))
theorem i_vc0 : wpX_init (fun u => wpY_init (fun v => i_Rel 0 u v)) := by
  unfold wpX_init
  refine xp_cl (l := 0) (by omega) ?_
  dsimp only
  unfold wpY_init
  refine yp_cl ?_
  dsimp only
  exact ⟨0, 0, 0, 0, 0, -1, 0, 0, 0, 0, 0, 0, 0, 0, 0, 0, 0, 0, 0, 0, 0, 0, 0, 0, _, _, _, _, _, _, _, _, _, _, _, _, _, _, _, _, _, _, _, _, _, _, _, _, _, _, _, _, _, _, _, _, _, _, _, rfl, rfl, ⟨by omega, by omega, rfl, fun r hr => ⟨rfl, 0, by omega, rfl⟩, fun i hi => ⟨rfl, rfl⟩, fun i hi => ⟨rfl, rfl⟩⟩, fun l hl => ⟨fun n hn => rfl, rfl, rfl, rr_c10⟩, rr_pa0 (fun _ => Or.inr rr_c10)⟩
/-! token, wipe, commit, revert -/
theorem yt_28 {post : Int32 → SY → Prop} {d : Nat} {a b : Int32} (hd : ln 8 = nI d) (h : d < 40) (H : post 1 (yrc, ysh, yle, yla, yde, ypa, yed, yoc, yun, yfa, ywh, ype, sr, upd ln 8 (nI (d + 1)), upd kd (320 + d) a, upd nm (320 + d) b, mt, co, wi, cp, pa, pn, ru, pl, sv, be, mx, bx, bo, ex, ey, fx, fy, tx, ty, yo)) : wY_token_28 post a b yrc ysh yle yla yde ypa yed yoc yun yfa ywh ype sr ln kd nm mt co wi cp pa pn ru pl sv be mx bx bo ex ey fx fy tx ty yo := by
  have e : (320 : Int32) + ln 8 = nI (320 + d) := by
    rw [hd]
    exact nI_add 320 d
  have ec : ((320 : Int32) + ln 8).toNatClampNeg = 320 + d := pk_cl (320 + d) e
  have hin : vp_in ((320 : Int32) + ln 8) 360 := pk_in (320 + d) 360 (by omega) e
  exact pk_eq d 40 (fun h => absurd h (by omega)) (fun _ => ⟨hin, nm_r (by rw [ec]) ⟨hin, nm_r (by rw [ec]) (nm_r (by rw [hd, nI_1]) H)⟩⟩) hd
theorem yt_28f {post : Int32 → SY → Prop} {d : Nat} {a b : Int32} (hd : ln 8 = nI d) (h : d = 40) (H : post 0 (yrc, ysh, yle, yla, yde, ypa, yed, yoc, yun, yfa, ywh, ype, sr, ln, kd, nm, mt, co, wi, cp, pa, pn, ru, pl, sv, be, mx, bx, bo, ex, ey, fx, fy, tx, ty, yo)) : wY_token_28 post a b yrc ysh yle yla yde ypa yed yoc yun yfa ywh ype sr ln kd nm mt co wi cp pa pn ru pl sv be mx bx bo ex ey fx fy tx ty yo := pk_eq d 40 (fun _ => H) (fun z => absurd h z) hd
theorem xt_41 {post : Int32 → SX → Prop} {d : Nat} {a b : Int32} (h : d < 40) (H : post 1 (nI (d + 1), xrc, xde, xoc, xun, xfp, xsc, xtl, xec, xpb, xpf, xsx, xsy, xcx, xcy, upd dk d a, upd dv d b, sr, rs, rk, rv, ct, ru, pl, be, mx, xo, st, cp, pa, pn, fx, fy, tx, ty, fi, cr, cv)) : wX_token_41 post a b (nI d) xrc xde xoc xun xfp xsc xtl xec xpb xpf xsx xsy xcx xcy dk dv sr rs rk rv ct ru pl be mx xo st cp pa pn fx fy tx ty fi cr cv := by
  have ec : (nI d).toNatClampNeg = d := pk_cl d
  have hin : vp_in (nI d) 40 := pk_in d 40 h
  exact ⟨hin, nm_r (by rw [ec]) ⟨hin, nm_r (by rw [ec]) (nm_r (nI_1 d) H)⟩⟩
theorem i_vc_token {k : Nat} {u : SX} {v : SY} (I : i_Rel k u v) (hk : k + 3 ≤ 1536) (v1 : Int32) (v2 : Int32) : wpX_token (fun r u' => wpY_token (fun r' v' => r' = r ∧ i_Rel (k + 3) u' v') v v1 v2) u v1 v2 := by
  obtain ⟨c, d, xde, xoc, xun, xfp, xsc, xtl, xec, xpb, xpf, xsx, xsy, xcx, xcy, ysh, yle, yla, yde, ypa, yed, yoc, yfa, ype, dk, dv, sr, rs, rk, rv, ct, ru, pl, be, mx, xo, st, cp, pa, pn, fx, fy, tx, ty, fi, cr, cv, ln, kd, nm, mt, co, wi, sv, bx, bo, ex, ey, yo, rfl, rfl, hd, hs, hp⟩ := I
  have J : i_Rel (k + 3) (nI d, nI c, xde, xoc, xun, xfp, xsc, xtl, xec, xpb, xpf, xsx, xsy, xcx, xcy, dk, dv, sr, rs, rk, rv, ct, ru, pl, be, mx, xo, st, cp, pa, pn, fx, fy, tx, ty, fi, cr, cv) (nI c, ysh, yle, yla, yde, ypa, yed, yoc, xun, yfa, xfp, ype, sr, ln, kd, nm, mt, co, wi, cp, pa, pn, ru, pl, sv, be, mx, bx, bo, ex, ey, fx, fy, tx, ty, yo) := ⟨_, _, _, _, _, _, _, _, _, _, _, _, _, _, _, _, _, _, _, _, _, _, _, _, _, _, _, _, _, _, _, _, _, _, _, _, _, _, _, _, _, _, _, _, _, _, _, _, _, _, _, _, _, _, _, _, _, _, _, rfl, rfl, hd, hs, hp⟩
  have hl := hd.2.2.1
  by_cases h1 : v1 < 0
  · exact br_t h1 (br_t h1 ⟨rfl, J⟩)
  by_cases h2 : 17 < v1
  · exact br_f h1 (br_t h2 (br_f h1 (br_t h2 ⟨rfl, J⟩)))
  by_cases h3 : d < 40
  · have J' := rr_tok hd h3 v1 v2
    by_cases h4 : v1 = 0
    · by_cases h5 : v2 < -1000
      · exact br_f h1 (br_f h2 (pk_lt d 40 (fun _ => br_t h4 (br_t h5 (br_f h1 (br_f h2 (br_t h4 (br_t h5 ⟨rfl, J⟩)))))) (fun h => absurd h (by omega))))
      by_cases h6 : v2 ≤ 1000
      · have h6' : ¬ 1000 < v2 := Int32.not_lt.mpr h6
        exact br_f h1 (br_f h2 (pk_lt d 40 (fun _ => br_t h4 (br_f h5 (br_t h6 (xt_41 h3 (br_f h1 (br_f h2 (br_t h4 (br_f h5 (br_f h6' (yt_28 hl h3 ⟨rfl, ⟨_, _, _, _, _, _, _, _, _, _, _, _, _, _, _, _, _, _, _, _, _, _, _, _, _, _, _, _, _, _, _, _, _, _, _, _, _, _, _, _, _, _, _, _, _, _, _, _, _, _, _, _, _, _, _, _, _, _, _, rfl, rfl, J', hs, hp⟩⟩)))))))))) (fun h => absurd h (by omega))))
      · have h6' : 1000 < v2 := Int32.not_le.mp h6
        exact br_f h1 (br_f h2 (pk_lt d 40 (fun _ => br_t h4 (br_f h5 (br_f h6 (br_f h1 (br_f h2 (br_t h4 (br_f h5 (br_t h6' ⟨rfl, J⟩)))))))) (fun h => absurd h (by omega))))
    · exact br_f h1 (br_f h2 (pk_lt d 40 (fun _ => br_f h4 (xt_41 h3 (br_f h1 (br_f h2 (br_f h4 (yt_28 hl h3 ⟨rfl, ⟨_, _, _, _, _, _, _, _, _, _, _, _, _, _, _, _, _, _, _, _, _, _, _, _, _, _, _, _, _, _, _, _, _, _, _, _, _, _, _, _, _, _, _, _, _, _, _, _, _, _, _, _, _, _, _, _, _, _, _, rfl, rfl, J', hs, hp⟩⟩)))))) (fun h => absurd h (by omega))))
  · have hd40 : d = 40 := by
      have := hd.2.1
      omega
    refine br_f h1 (br_f h2 (pk_lt d 40 (fun h => absurd h h3) (fun _ => br_f h1 (br_f h2 ?_))))
    by_cases h4 : v1 = 0
    · by_cases h5 : v2 < -1000
      · exact br_t h4 (br_t h5 ⟨rfl, J⟩)
      by_cases h6 : 1000 < v2
      · exact br_t h4 (br_f h5 (br_t h6 ⟨rfl, J⟩))
      · exact br_t h4 (br_f h5 (br_f h6 (yt_28f hl hd40 ⟨rfl, J⟩)))
    · exact br_f h4 (yt_28f hl hd40 ⟨rfl, J⟩)
theorem i_vc_wipe {k : Nat} {u : SX} {v : SY} (I : i_Rel k u v) (hk : k + 3 ≤ 1536) : wpX_wipe (fun r u' => wpY_wipe (fun r' v' => r' = r ∧ i_Rel (k + 3) u' v') v) u := by
  obtain ⟨c, d, xde, xoc, xun, xfp, xsc, xtl, xec, xpb, xpf, xsx, xsy, xcx, xcy, ysh, yle, yla, yde, ypa, yed, yoc, yfa, ype, dk, dv, sr, rs, rk, rv, ct, ru, pl, be, mx, xo, st, cp, pa, pn, fx, fy, tx, ty, fi, cr, cv, ln, kd, nm, mt, co, wi, sv, bx, bo, ex, ey, yo, rfl, rfl, hd, hs, hp⟩ := I
  have hl := hd.2.2.1
  exact nm_r hl (nm_e ⟨rfl, ⟨_, _, _, _, _, _, _, _, _, _, _, _, _, _, _, _, _, _, _, _, _, _, _, _, _, _, _, _, _, _, _, _, _, _, _, _, _, _, _, _, _, _, _, _, _, _, _, _, _, _, _, _, _, _, _, _, _, _, _, rfl, rfl, rr_wip hd, hs, hp⟩⟩)
theorem xw_com {post : Int32 → SX → Prop} {s : Int32} {c d : Nat} (hc : c < 8) (hd : d ≤ 40) (hp : post 1 (0, nI (c + 1), xde, xoc, xun, xfp, xsc, xtl, xec, xpb, xpf, xsx, xsy, xcx, xcy, dk, dv, upd sr c s, upd rs c (nI d), ma_w rk dk (40 * c) d, ma_w rv dv (40 * c) d, ct, ru, pl, be, mx, xo, st, cp, pa, pn, fx, fy, tx, ty, fi, cr, cv)) :
    ∀ e i, i + e = d → wX_commit_31 post s (nI (40 * c)) (nI d) (nI c) xde xoc xun xfp xsc xtl xec xpb xpf xsx xsy xcx xcy (e + 1) (nI i) dk dv sr rs (ma_w rk dk (40 * c) i) (ma_w rv dv (40 * c) i) ct ru pl be mx xo st cp pa pn fx fy tx ty fi cr cv := by
  have ecc : (nI c).toNatClampNeg = c := pk_cl c
  have hic : vp_in (nI c) 8 := pk_in c 8 hc
  intro e
  induction e with
  | zero =>
    intro i hi
    have e : i = d := by omega
    rw [e]
    exact pk_le d d (fun _ => ⟨hic, nm_r (by rw [ecc]) ⟨hic, nm_r (by rw [ecc]) (nm_r (nI_1 c) hp)⟩⟩) (fun h => absurd h (by omega))
  | succ e ih =>
    intro i hi
    have ein : nI (40 * c) + nI i = nI (40 * c + i) := nI_add _ i
    have hin : vp_in (nI (40 * c) + nI i) 320 := pk_in (40 * c + i) 320 (by omega) ein
    have ec : (nI (40 * c) + nI i).toNatClampNeg = 40 * c + i := pk_cl (40 * c + i) ein
    have hi4 : vp_in (nI i) 40 := pk_in i 40 (by omega)
    have ei : (nI i).toNatClampNeg = i := pk_cl i
    exact pk_le d i (fun h => absurd h (by omega)) (fun _ => ⟨hi4, hin, nm_r (by rw [ec, ei]; exact ma_ws rk dk (40 * c) i) ⟨hi4, hin, nm_r (by rw [ec, ei]; exact ma_ws rv dv (40 * c) i) (nm_r (nI_1 i) (ih (i + 1) (by omega)))⟩⟩)
theorem yw_com {post : Int32 → SY → Prop} {c d : Nat} (hc : c < 8) (hd : d ≤ 40) (hl : ln 8 = nI d) (hp : post 1 (nI (c + 1), ysh, yle, yla, yde, ypa, yed, yoc, yun, yfa, ywh, ype, sr, upd ln 8 0, ma_w kd (fun t => kd (320 + t)) (40 * c) d, ma_w nm (fun t => nm (320 + t)) (40 * c) d, mt, co, wi, cp, pa, pn, ru, pl, sv, be, mx, bx, bo, ex, ey, fx, fy, tx, ty, yo)) :
    ∀ e i, i + e = d → wY_commit_48 post (nI c) ysh yle yla yde ypa yed yoc yun yfa ywh ype (e + 1) (nI i) sr ln (ma_w kd (fun t => kd (320 + t)) (40 * c) i) (ma_w nm (fun t => nm (320 + t)) (40 * c) i) mt co wi cp pa pn ru pl sv be mx bx bo ex ey fx fy tx ty yo := by
  intro e
  induction e with
  | zero =>
    intro i hi
    have e : i = d := by omega
    rw [e]
    exact pk_le d d (fun _ => nm_e (nm_r (nI_1 c) hp)) (fun h => absurd h (by omega)) hl
  | succ e ih =>
    intro i hi
    have ein : (40 : Int32) * nI c + nI i = nI (40 * c + i) := nI_add (40 * c) i ▸ congrArg (· + nI i) (mb_mr 40 c)
    have hin : vp_in ((40 : Int32) * nI c + nI i) 360 := pk_in (40 * c + i) 360 (by omega) ein
    have ec : ((40 : Int32) * nI c + nI i).toNatClampNeg = 40 * c + i := pk_cl (40 * c + i) ein
    have e3 : (320 : Int32) + nI i = nI (320 + i) := nI_add 320 i
    have hi3 : vp_in ((320 : Int32) + nI i) 360 := pk_in (320 + i) 360 (by omega) e3
    have ei : ((320 : Int32) + nI i).toNatClampNeg = 320 + i := pk_cl (320 + i) e3
    exact pk_le d i (fun h => absurd h (by omega)) (fun _ => ⟨hi3, hin, nm_r (by rw [ec, ei, ma_wr (by omega)]; exact ma_ws kd (fun t => kd (320 + t)) (40 * c) i) ⟨hi3, hin, nm_r (by rw [ec, ei, ma_wr (by omega)]; exact ma_ws nm (fun t => nm (320 + t)) (40 * c) i) (nm_r (nI_1 i) (ih (i + 1) (by omega)))⟩⟩) hl
theorem xp_com {post : Int32 → SX → Prop} {s c d : Nat} (hs : s < 6) (hc : c < 8) (hd : d ≤ 40) (hp : post 1 (0, nI (c + 1), xde, xoc, xun, xfp, xsc, xtl, xec, xpb, xpf, xsx, xsy, xcx, xcy, dk, dv, upd sr c (nI s), upd rs c (nI d), ma_w rk dk (40 * c) d, ma_w rv dv (40 * c) d, ct, ru, pl, be, mx, xo, st, cp, pa, pn, fx, fy, tx, ty, fi, cr, cv)) :
    wpX_commit post (nI d, nI c, xde, xoc, xun, xfp, xsc, xtl, xec, xpb, xpf, xsx, xsy, xcx, xcy, dk, dv, sr, rs, rk, rv, ct, ru, pl, be, mx, xo, st, cp, pa, pn, fx, fy, tx, ty, fi, cr, cv) (nI s) := by
  have h := xw_com hc hd hp d 0 (by omega)
  rw [ma_w0, ma_w0] at h
  exact br_f (nI_pos (by omega)) (pk_le 6 s (fun h => absurd h (by omega)) (fun _ => pk_lt c 8 (fun _ => nm_r (mb_ml 40 c) ⟨d + 1, h⟩) (fun h => absurd h (by omega))))
theorem yp_com {post : Int32 → SY → Prop} {s c d : Nat} (hs : s < 6) (hc : c < 8) (hd : d ≤ 40) (hl : ln 8 = nI d) (hp : post 1 (nI (c + 1), ysh, yle, yla, yde, ypa, yed, yoc, yun, yfa, ywh, ype, upd sr c (nI s), upd (upd ln c (nI d)) 8 0, ma_w kd (fun t => kd (320 + t)) (40 * c) d, ma_w nm (fun t => nm (320 + t)) (40 * c) d, mt, co, wi, cp, pa, pn, ru, pl, sv, be, mx, bx, bo, ex, ey, fx, fy, tx, ty, yo)) :
    wpY_commit post (nI c, ysh, yle, yla, yde, ypa, yed, yoc, yun, yfa, ywh, ype, sr, ln, kd, nm, mt, co, wi, cp, pa, pn, ru, pl, sv, be, mx, bx, bo, ex, ey, fx, fy, tx, ty, yo) (nI s) := by
  have hl' : upd ln c (nI d) 8 = nI d := by
    rw [pk_un (by omega)]
    exact hl
  have h := yw_com (ln := upd ln c (nI d)) hc hd hl' hp d 0 (by omega)
  rw [ma_w0, ma_w0] at h
  have ecc : (nI c).toNatClampNeg = c := pk_cl c
  exact br_f (nI_pos (by omega)) (pk_lt 5 s (fun h => absurd h (by omega)) (fun _ => pk_eq c 8 (fun h => absurd h (by omega)) (fun _ => ⟨pk_in c 8 hc, nm_r (by rw [ecc]) ⟨pk_in c 9 (by omega), nm_r (by rw [ecc, hl]) ⟨d + 1, h⟩⟩⟩)))
theorem i_vc_commit {k : Nat} {u : SX} {v : SY} (I : i_Rel k u v) (hk : k + 3 ≤ 1536) (v1 : Int32) : wpX_commit (fun r u' => wpY_commit (fun r' v' => r' = r ∧ i_Rel (k + 3) u' v') v v1) u v1 := by
  obtain ⟨c, d, xde, xoc, xun, xfp, xsc, xtl, xec, xpb, xpf, xsx, xsy, xcx, xcy, ysh, yle, yla, yde, ypa, yed, yoc, yfa, ype, dk, dv, sr, rs, rk, rv, ct, ru, pl, be, mx, xo, st, cp, pa, pn, fx, fy, tx, ty, fi, cr, cv, ln, kd, nm, mt, co, wi, sv, bx, bo, ex, ey, yo, rfl, rfl, hd, hs, hp⟩ := I
  have J : i_Rel (k + 3) (nI d, nI c, xde, xoc, xun, xfp, xsc, xtl, xec, xpb, xpf, xsx, xsy, xcx, xcy, dk, dv, sr, rs, rk, rv, ct, ru, pl, be, mx, xo, st, cp, pa, pn, fx, fy, tx, ty, fi, cr, cv) (nI c, ysh, yle, yla, yde, ypa, yed, yoc, xun, yfa, xfp, ype, sr, ln, kd, nm, mt, co, wi, cp, pa, pn, ru, pl, sv, be, mx, bx, bo, ex, ey, fx, fy, tx, ty, yo) := ⟨_, _, _, _, _, _, _, _, _, _, _, _, _, _, _, _, _, _, _, _, _, _, _, _, _, _, _, _, _, _, _, _, _, _, _, _, _, _, _, _, _, _, _, _, _, _, _, _, _, _, _, _, _, _, _, _, _, _, _, rfl, rfl, hd, hs, hp⟩
  have hc8 := hd.1
  have hd40 := hd.2.1
  have hl := hd.2.2.1
  rcases pk_ix v1 (n := 6) (by omega) with h1 | h1 | ⟨s, hs6, rfl⟩
  · exact br_t h1 (br_t h1 ⟨rfl, J⟩)
  · rw [Int32.le_iff_toInt_le, nI_toInt (by omega)] at h1
    have h1' : ¬ v1 < 0 := by
      rw [Int32.lt_iff_toInt_lt, mb_0t]
      omega
    have h2 : 6 ≤ v1 := by
      rw [Int32.le_iff_toInt_le, show (6 : Int32).toInt = 6 from by decide]
      omega
    have h3 : 5 < v1 := by
      rw [Int32.lt_iff_toInt_lt, show (5 : Int32).toInt = 5 from by decide]
      omega
    exact br_f h1' (br_t h2 (br_f h1' (br_t h3 ⟨rfl, J⟩)))
  · by_cases hc : c < 8
    · exact xp_com hs6 hc hd40 (yp_com hs6 hc hd40 hl ⟨rfl, ⟨_, _, _, _, _, _, _, _, _, _, _, _, _, _, _, _, _, _, _, _, _, _, _, _, _, _, _, _, _, _, _, _, _, _, _, _, _, _, _, _, _, _, _, _, _, _, _, _, _, _, _, _, _, _, _, _, _, _, _, rfl, rfl, rr_com hd hc, hs, hp⟩⟩)
    · have e8 : c = 8 := by omega
      have h0 : ¬ nI s < 0 := nI_pos (by omega)
      exact br_f h0 (pk_le 6 s (fun h => absurd h (by omega)) (fun _ => pk_lt c 8 (fun h => absurd h hc) (fun _ => br_f h0 (pk_lt 5 s (fun h => absurd h (by omega)) (fun _ => pk_eq c 8 (fun _ => ⟨rfl, J⟩) (fun z => absurd e8 z))))))
theorem i_vc_revert {k : Nat} {u : SX} {v : SY} (I : i_Rel k u v) (hk : k + 3 ≤ 1536) : wpX_revert (fun r u' => wpY_revert (fun r' v' => r' = r ∧ i_Rel (k + 3) u' v') v) u := by
  obtain ⟨c, d, xde, xoc, xun, xfp, xsc, xtl, xec, xpb, xpf, xsx, xsy, xcx, xcy, ysh, yle, yla, yde, ypa, yed, yoc, yfa, ype, dk, dv, sr, rs, rk, rv, ct, ru, pl, be, mx, xo, st, cp, pa, pn, fx, fy, tx, ty, fi, cr, cv, ln, kd, nm, mt, co, wi, sv, bx, bo, ex, ey, yo, rfl, rfl, hd, hs, hp⟩ := I
  have hc8 := hd.1
  cases c with
  | zero => exact br_t rfl (br_t rfl ⟨rfl, ⟨_, _, _, _, _, _, _, _, _, _, _, _, _, _, _, _, _, _, _, _, _, _, _, _, _, _, _, _, _, _, _, _, _, _, _, _, _, _, _, _, _, _, _, _, _, _, _, _, _, _, _, _, _, _, _, _, _, _, _, rfl, rfl, hd, hs, hp⟩⟩)
  | succ c =>
    have hin : vp_in (nI c) 8 := pk_in c 8 (by omega)
    exact pk_eq (c + 1) 0 (fun h => absurd h (by omega)) (fun _ => nm_r (nI_pred c) ⟨hin, pk_eq (c + 1) 0 (fun h => absurd h (by omega)) (fun _ => nm_r (nI_pred c) ⟨hin, rfl, ⟨_, _, _, _, _, _, _, _, _, _, _, _, _, _, _, _, _, _, _, _, _, _, _, _, _, _, _, _, _, _, _, _, _, _, _, _, _, _, _, _, _, _, _, _, _, _, _, _, _, _, _, _, _, _, _, _, _, _, _, rfl, rfl, rr_rev hd, hs, hp⟩⟩)⟩)
theorem i_vc_faultAt {k : Nat} {u : SX} {v : SY} (I : i_Rel k u v) (hk : k + 3 ≤ 1536) : wpX_faultAt (fun r => wpY_faultAt (fun r' => r' = r ∧ i_Rel (k + 3) u v) v) u := by
  obtain ⟨c, d, xde, xoc, xun, xfp, xsc, xtl, xec, xpb, xpf, xsx, xsy, xcx, xcy, ysh, yle, yla, yde, ypa, yed, yoc, yfa, ype, dk, dv, sr, rs, rk, rv, ct, ru, pl, be, mx, xo, st, cp, pa, pn, fx, fy, tx, ty, fi, cr, cv, ln, kd, nm, mt, co, wi, sv, bx, bo, ex, ey, yo, rfl, rfl, hd, hs, hp⟩ := I
  exact ⟨rfl, ⟨_, _, _, _, _, _, _, _, _, _, _, _, _, _, _, _, _, _, _, _, _, _, _, _, _, _, _, _, _, _, _, _, _, _, _, _, _, _, _, _, _, _, _, _, _, _, _, _, _, _, _, _, _, _, _, _, _, _, _, rfl, rfl, hd, hs, hp⟩⟩
theorem i_vc_used {k : Nat} {u : SX} {v : SY} (I : i_Rel k u v) (hk : k + 3 ≤ 1536) : wpX_used (fun r => wpY_used (fun r' => r' = r ∧ i_Rel (k + 3) u v) v) u := by
  obtain ⟨c, d, xde, xoc, xun, xfp, xsc, xtl, xec, xpb, xpf, xsx, xsy, xcx, xcy, ysh, yle, yla, yde, ypa, yed, yoc, yfa, ype, dk, dv, sr, rs, rk, rv, ct, ru, pl, be, mx, xo, st, cp, pa, pn, fx, fy, tx, ty, fi, cr, cv, ln, kd, nm, mt, co, wi, sv, bx, bo, ex, ey, yo, rfl, rfl, hd, hs, hp⟩ := I
  exact ⟨rfl, ⟨_, _, _, _, _, _, _, _, _, _, _, _, _, _, _, _, _, _, _, _, _, _, _, _, _, _, _, _, _, _, _, _, _, _, _, _, _, _, _, _, _, _, _, _, _, _, _, _, _, _, _, _, _, _, _, _, _, _, _, rfl, rfl, hd, hs, hp⟩⟩
