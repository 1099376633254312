variable {xds xrc xde xoc xun xfp xsc xtl xec xpb xpf xsx xsy xcx xcy yrc ysh yle yla yde ypa yed yoc yun yfa ywh ype : Int32} {dk dv sr rs rk rv ct ru pl be mx xo st cp pa pn fx fy tx ty fi cr cv ln kd nm mt co wi sv bx bo ex ey yo : Nat → Int32}
/-! the newest revision, size -/
theorem xw_nr {post : Int32 → Prop} {s : Int32} {n : Nat} (hn : n ≤ 8) (hp : post (ma_nw sr s n)) : ∀ d r, r + d = n → wX_newestRevision_5 post s (nI n) xds xrc xde xoc xun xfp xsc xtl xec xpb xpf xsx xsy xcx xcy dk dv sr rs rk rv ct ru pl be mx xo st cp pa pn fx fy tx ty fi cr cv (d + 1) (ma_nw sr s r) (nI r) := by
  intro d
  induction d with
  | zero =>
    intro r hr
    have e : r = n := by omega
    rw [e]
    exact pk_le n n (fun _ => hp) (fun h => absurd h (by omega))
  | succ d ih =>
    intro r hr
    have ec : (nI r).toNatClampNeg = r := pk_cl r
    have h := ih (r + 1) (by omega)
    have e : ma_nw sr s (r + 1) = if sr r = s then nI r else ma_nw sr s r := rfl
    by_cases z : sr r = s
    · rw [e, if_pos z] at h
      exact pk_le n r (fun h => absurd h (by omega)) (fun _ => ⟨pk_in r 8 (by omega), br_t (by rw [ec]; exact z) (nm_r (nI_1 r) h)⟩)
    · rw [e, if_neg z] at h
      exact pk_le n r (fun h => absurd h (by omega)) (fun _ => ⟨pk_in r 8 (by omega), br_f (by rw [ec]; exact z) (nm_r (nI_1 r) h)⟩)
theorem xp_nr {post : Int32 → Prop} {s : Int32} {n : Nat} (hn : n ≤ 8) (hp : post (ma_nw sr s n)) : wpX_newestRevision post (xds, xrc, xde, xoc, xun, xfp, xsc, xtl, xec, xpb, xpf, xsx, xsy, xcx, xcy, dk, dv, sr, rs, rk, rv, ct, ru, pl, be, mx, xo, st, cp, pa, pn, fx, fy, tx, ty, fi, cr, cv) s (nI n) := ⟨n + 1, xw_nr hn hp n 0 (by omega)⟩
theorem yw_nw {s : Int32} : ∀ n, n ≤ 8 → ∀ post : Int32 → Prop, post (ma_nw sr s n) → wY_newest_4 post s yrc ysh yle yla yde ypa yed yoc yun yfa ywh ype sr ln kd nm mt co wi cp pa pn ru pl sv be mx bx bo ex ey fx fy tx ty yo (n + 1) (nI n - 1) := by
  intro n
  induction n with
  | zero =>
    intro _ post hp
    exact br_t (by decide) hp
  | succ n ih =>
    intro hn post hp
    have ec : (nI n).toNatClampNeg = n := pk_cl n
    have e : ma_nw sr s (n + 1) = if sr n = s then nI n else ma_nw sr s n := rfl
    rw [nI_pred]
    by_cases z : sr n = s
    · rw [e, if_pos z] at hp
      exact br_f (nI_pos (by omega)) ⟨pk_in n 8 (by omega), br_t (by rw [ec]; exact z) hp⟩
    · rw [e, if_neg z] at hp
      exact br_f (nI_pos (by omega)) ⟨pk_in n 8 (by omega), br_f (by rw [ec]; exact z) (nm_r (Int32.sub_eq_add_neg _ _).symm (ih (by omega) post hp))⟩
theorem yp_nw {post : Int32 → Prop} {s : Int32} {n : Nat} (hn : n ≤ 8) (hp : post (ma_nw sr s n)) : wpY_newest post (yrc, ysh, yle, yla, yde, ypa, yed, yoc, yun, yfa, ywh, ype, sr, ln, kd, nm, mt, co, wi, cp, pa, pn, ru, pl, sv, be, mx, bx, bo, ex, ey, fx, fy, tx, ty, yo) s (nI n) := nm_e ⟨n + 1, yw_nw n hn post hp⟩
theorem i_vc_size {k : Nat} {u : SX} {v : SY} (I : i_Rel k u v) (hk : k + 3 ≤ 1536) (v1 : Int32) : wpX_size (fun r => wpY_size (fun r' => r' = r ∧ i_Rel (k + 3) u v) v v1) u v1 := by
  obtain ⟨c, d, xde, xoc, xun, xfp, xsc, xtl, xec, xpb, xpf, xsx, xsy, xcx, xcy, ysh, yle, yla, yde, ypa, yed, yoc, yfa, ype, dk, dv, sr, rs, rk, rv, ct, ru, pl, be, mx, xo, st, cp, pa, pn, fx, fy, tx, ty, fi, cr, cv, ln, kd, nm, mt, co, wi, sv, bx, bo, ex, ey, yo, rfl, rfl, hd, hs, hp⟩ := I
  have J : i_Rel (k + 3) (nI d, nI c, xde, xoc, xun, xfp, xsc, xtl, xec, xpb, xpf, xsx, xsy, xcx, xcy, dk, dv, sr, rs, rk, rv, ct, ru, pl, be, mx, xo, st, cp, pa, pn, fx, fy, tx, ty, fi, cr, cv) (nI c, ysh, yle, yla, yde, ypa, yed, yoc, xun, yfa, xfp, ype, sr, ln, kd, nm, mt, co, wi, cp, pa, pn, ru, pl, sv, be, mx, bx, bo, ex, ey, fx, fy, tx, ty, yo) := ⟨_, _, _, _, _, _, _, _, _, _, _, _, _, _, _, _, _, _, _, _, _, _, _, _, _, _, _, _, _, _, _, _, _, _, _, _, _, _, _, _, _, _, _, _, _, _, _, _, _, _, _, _, _, _, _, _, _, _, _, rfl, rfl, hd, hs, hp⟩
  have hc8 := hd.1
  rcases pk_ix v1 (n := 6) (by omega) with h1 | h1 | ⟨s, hs6, rfl⟩
  · exact br_t h1 (br_t h1 ⟨rfl, J⟩)
  · rw [Int32.le_iff_toInt_le, nI_toInt (by omega)] at h1
    have h1' : ¬ v1 < 0 := by
      rw [Int32.lt_iff_toInt_lt, mb_0t]
      omega
    have h2 : ¬ v1 < 6 := by
      rw [Int32.lt_iff_toInt_lt, show (6 : Int32).toInt = 6 from by decide]
      omega
    have h3 : ¬ v1 ≤ 5 := by
      rw [Int32.le_iff_toInt_le, show (5 : Int32).toInt = 5 from by decide]
      omega
    exact br_f h1' (br_f h2 (br_f h1' (br_f h3 ⟨rfl, J⟩)))
  · have h0 : ¬ nI s < 0 := nI_pos (by omega)
    refine br_f h0 (pk_lt s 6 (fun _ => xp_nr hc8 ?_) (fun h => absurd h (by omega)))
    rcases ma_nwb sr (nI s) c with e | ⟨r, hr, e⟩
    · rw [e]
      refine br_f (by decide) (br_f h0 (pk_le s 5 (fun _ => yp_nw hc8 ?_) (fun h => absurd h (by omega))))
      rw [e]
      exact br_f (by decide) ⟨rfl, J⟩
    · have ec : (nI r).toNatClampNeg = r := pk_cl r
      rw [e]
      refine br_t (nI_pos' (by omega)) ⟨pk_in r 8 (by omega), br_f h0 (pk_le s 5 (fun _ => yp_nw hc8 ?_) (fun h => absurd h (by omega)))⟩
      rw [e]
      refine br_t (nI_pos' (by omega)) ⟨pk_in r 9 (by omega), ?_, J⟩
      rw [ec]
      exact (hd.2.2.2.1 r (by omega)).1.symm
/-! pixel, by, count, row -/
theorem yp_th0 {post : Int32 → Prop} {p0 p1 : Int32} (h : p0 < 0 ∨ 16 ≤ p0 ∨ p1 < 0 ∨ 12 ≤ p1) (H : post 0) : wpY_there post (yrc, ysh, yle, yla, yde, ypa, yed, yoc, yun, yfa, ywh, ype, sr, ln, kd, nm, mt, co, wi, cp, pa, pn, ru, pl, sv, be, mx, bx, bo, ex, ey, fx, fy, tx, ty, yo) p0 p1 :=
  br_c (fun _ => H) (fun h1 => br_c (fun _ => H) (fun h2 => br_c (fun _ => H) (fun h3 => br_c (fun _ => H) (fun h4 => h.elim (fun z => absurd z h1) (fun h => h.elim (fun z => absurd z h2) (fun h => h.elim (fun z => absurd z h3) (fun z => absurd z h4)))))))
theorem yp_th1 {post : Int32 → Prop} {i j : Nat} (hi : i < 16) (hj : j < 12) (H : post 1) : wpY_there post (yrc, ysh, yle, yla, yde, ypa, yed, yoc, yun, yfa, ywh, ype, sr, ln, kd, nm, mt, co, wi, cp, pa, pn, ru, pl, sv, be, mx, bx, bo, ex, ey, fx, fy, tx, ty, yo) (nI i) (nI j) :=
  br_f (nI_pos (by omega)) (pk_le 16 i (fun h => absurd h (by omega)) (fun _ => br_f (nI_pos (by omega)) (pk_le 12 j (fun h => absurd h (by omega)) (fun _ => H))))
theorem ma_xij (i j : Nat) : nI j * 16 + nI i = nI (16 * j + i) := by
  rw [show nI j * 16 = nI (16 * j) from mb_ml 16 j, nI_add]
theorem ma_yij (i j : Nat) : 16 * nI j + nI i = nI (16 * j + i) := by
  rw [show 16 * nI j = nI (16 * j) from mb_mr 16 j, nI_add]
theorem yp_pixel0 {post : Int32 → Prop} {p0 p1 : Int32} (h : p0 < 0 ∨ 16 ≤ p0 ∨ p1 < 0 ∨ 12 ≤ p1) (H : post (-1)) : wpY_pixel post (yrc, ysh, yle, yla, yde, ypa, yed, yoc, yun, yfa, ywh, ype, sr, ln, kd, nm, mt, co, wi, cp, pa, pn, ru, pl, sv, be, mx, bx, bo, ex, ey, fx, fy, tx, ty, yo) p0 p1 := by
  unfold wpY_pixel
  exact yp_th0 h (br_t rfl H)
theorem yp_pixel1 {post : Int32 → Prop} {i j : Nat} (hi : i < 16) (hj : j < 12) (H : post (pa (16 * j + i))) : wpY_pixel post (yrc, ysh, yle, yla, yde, ypa, yed, yoc, yun, yfa, ywh, ype, sr, ln, kd, nm, mt, co, wi, cp, pa, pn, ru, pl, sv, be, mx, bx, bo, ex, ey, fx, fy, tx, ty, yo) (nI i) (nI j) := by
  have ey : (16 * nI j + nI i).toNatClampNeg = 16 * j + i := pk_cl (16 * j + i) (ma_yij i j)
  unfold wpY_pixel
  refine yp_th1 hi hj (br_f (by decide) ⟨pk_in (16 * j + i) 1344 (by omega) (ma_yij i j), ?_⟩)
  rw [ey]
  exact H
theorem xp_pixel0 {post : Int32 → Prop} {p0 p1 : Int32} (h : p0 < 0 ∨ 16 ≤ p0 ∨ p1 < 0 ∨ 12 ≤ p1) (H : post (-1)) : wpX_pixel post (xds, xrc, xde, xoc, xun, xfp, xsc, xtl, xec, xpb, xpf, xsx, xsy, xcx, xcy, dk, dv, sr, rs, rk, rv, ct, ru, pl, be, mx, xo, st, cp, pa, pn, fx, fy, tx, ty, fi, cr, cv) p0 p1 :=
  br_c (fun _ => H) (fun h1 => br_c (fun _ => H) (fun h2 => br_c (fun _ => H) (fun h3 => br_c (fun h4 => h.elim (fun z => absurd z h1) (fun h => h.elim (fun z => absurd z h2) (fun h => h.elim (fun z => absurd z h3) (fun z => absurd h4 (Int32.not_lt.mpr z))))) (fun _ => H))))
theorem xp_pixel1 {post : Int32 → Prop} {i j : Nat} (hi : i < 16) (hj : j < 12) (H : post (pa (16 * j + i))) : wpX_pixel post (xds, xrc, xde, xoc, xun, xfp, xsc, xtl, xec, xpb, xpf, xsx, xsy, xcx, xcy, dk, dv, sr, rs, rk, rv, ct, ru, pl, be, mx, xo, st, cp, pa, pn, fx, fy, tx, ty, fi, cr, cv) (nI i) (nI j) := by
  have ex : (nI j * 16 + nI i).toNatClampNeg = 16 * j + i := pk_cl (16 * j + i) (ma_xij i j)
  refine br_f (nI_pos (by omega)) (pk_le 16 i (fun h => absurd h (by omega)) (fun _ => br_f (nI_pos (by omega)) (pk_lt j 12 (fun _ => ⟨pk_in (16 * j + i) 1344 (by omega) (ma_xij i j), ?_⟩) (fun h => absurd h (by omega)))))
  rw [ex]
  exact H
theorem i_vc_pixel {k : Nat} {u : SX} {v : SY} (I : i_Rel k u v) (hk : k + 3 ≤ 1536) (v1 : Int32) (v2 : Int32) : wpX_pixel (fun r => wpY_pixel (fun r' => r' = r ∧ i_Rel (k + 3) u v) v v1 v2) u v1 v2 := by
  obtain ⟨c, d, xde, xoc, xun, xfp, xsc, xtl, xec, xpb, xpf, xsx, xsy, xcx, xcy, ysh, yle, yla, yde, ypa, yed, yoc, yfa, ype, dk, dv, sr, rs, rk, rv, ct, ru, pl, be, mx, xo, st, cp, pa, pn, fx, fy, tx, ty, fi, cr, cv, ln, kd, nm, mt, co, wi, sv, bx, bo, ex, ey, yo, rfl, rfl, hd, hs, hp⟩ := I
  have J : i_Rel (k + 3) (nI d, nI c, xde, xoc, xun, xfp, xsc, xtl, xec, xpb, xpf, xsx, xsy, xcx, xcy, dk, dv, sr, rs, rk, rv, ct, ru, pl, be, mx, xo, st, cp, pa, pn, fx, fy, tx, ty, fi, cr, cv) (nI c, ysh, yle, yla, yde, ypa, yed, yoc, xun, yfa, xfp, ype, sr, ln, kd, nm, mt, co, wi, cp, pa, pn, ru, pl, sv, be, mx, bx, bo, ex, ey, fx, fy, tx, ty, yo) := ⟨_, _, _, _, _, _, _, _, _, _, _, _, _, _, _, _, _, _, _, _, _, _, _, _, _, _, _, _, _, _, _, _, _, _, _, _, _, _, _, _, _, _, _, _, _, _, _, _, _, _, _, _, _, _, _, _, _, _, _, rfl, rfl, hd, hs, hp⟩
  rcases pk_ix v1 (n := 16) (by omega) with h1 | h1 | ⟨i, hi, rfl⟩
  · exact xp_pixel0 (Or.inl h1) (yp_pixel0 (Or.inl h1) ⟨rfl, J⟩)
  · exact xp_pixel0 (Or.inr (Or.inl h1)) (yp_pixel0 (Or.inr (Or.inl h1)) ⟨rfl, J⟩)
  rcases pk_ix v2 (n := 12) (by omega) with h2 | h2 | ⟨j, hj, rfl⟩
  · exact xp_pixel0 (Or.inr (Or.inr (Or.inl h2))) (yp_pixel0 (Or.inr (Or.inr (Or.inl h2))) ⟨rfl, J⟩)
  · exact xp_pixel0 (Or.inr (Or.inr (Or.inr h2))) (yp_pixel0 (Or.inr (Or.inr (Or.inr h2))) ⟨rfl, J⟩)
  · exact xp_pixel1 hi hj (yp_pixel1 hi hj ⟨rfl, J⟩)
theorem yp_by0 {post : Int32 → Prop} {p0 p1 : Int32} (h : p0 < 0 ∨ 16 ≤ p0 ∨ p1 < 0 ∨ 12 ≤ p1) (H : post (-1)) : wpY_by post (yrc, ysh, yle, yla, yde, ypa, yed, yoc, yun, yfa, ywh, ype, sr, ln, kd, nm, mt, co, wi, cp, pa, pn, ru, pl, sv, be, mx, bx, bo, ex, ey, fx, fy, tx, ty, yo) p0 p1 := by
  unfold wpY_by
  exact yp_th0 h (br_t rfl H)
theorem yp_by1 {post : Int32 → Prop} {i j : Nat} (hi : i < 16) (hj : j < 12) (H : post (pn (16 * j + i))) : wpY_by post (yrc, ysh, yle, yla, yde, ypa, yed, yoc, yun, yfa, ywh, ype, sr, ln, kd, nm, mt, co, wi, cp, pa, pn, ru, pl, sv, be, mx, bx, bo, ex, ey, fx, fy, tx, ty, yo) (nI i) (nI j) := by
  have ey : (16 * nI j + nI i).toNatClampNeg = 16 * j + i := pk_cl (16 * j + i) (ma_yij i j)
  unfold wpY_by
  refine yp_th1 hi hj (br_f (by decide) ⟨pk_in (16 * j + i) 1344 (by omega) (ma_yij i j), ?_⟩)
  rw [ey]
  exact H
theorem xp_by0 {post : Int32 → Prop} {p0 p1 : Int32} (h : p0 < 0 ∨ 16 ≤ p0 ∨ p1 < 0 ∨ 12 ≤ p1) (H : post (-1)) : wpX_by post (xds, xrc, xde, xoc, xun, xfp, xsc, xtl, xec, xpb, xpf, xsx, xsy, xcx, xcy, dk, dv, sr, rs, rk, rv, ct, ru, pl, be, mx, xo, st, cp, pa, pn, fx, fy, tx, ty, fi, cr, cv) p0 p1 :=
  br_c (fun _ => H) (fun h1 => br_c (fun _ => H) (fun h2 => br_c (fun _ => H) (fun h3 => br_c (fun h4 => h.elim (fun z => absurd z h1) (fun h => h.elim (fun z => absurd z h2) (fun h => h.elim (fun z => absurd z h3) (fun z => absurd h4 (Int32.not_lt.mpr z))))) (fun _ => H))))
theorem xp_by1 {post : Int32 → Prop} {i j : Nat} (hi : i < 16) (hj : j < 12) (H : post (pn (16 * j + i))) : wpX_by post (xds, xrc, xde, xoc, xun, xfp, xsc, xtl, xec, xpb, xpf, xsx, xsy, xcx, xcy, dk, dv, sr, rs, rk, rv, ct, ru, pl, be, mx, xo, st, cp, pa, pn, fx, fy, tx, ty, fi, cr, cv) (nI i) (nI j) := by
  have ex : (nI j * 16 + nI i).toNatClampNeg = 16 * j + i := pk_cl (16 * j + i) (ma_xij i j)
  refine br_f (nI_pos (by omega)) (pk_le 16 i (fun h => absurd h (by omega)) (fun _ => br_f (nI_pos (by omega)) (pk_lt j 12 (fun _ => ⟨pk_in (16 * j + i) 1344 (by omega) (ma_xij i j), ?_⟩) (fun h => absurd h (by omega)))))
  rw [ex]
  exact H
theorem i_vc_by {k : Nat} {u : SX} {v : SY} (I : i_Rel k u v) (hk : k + 3 ≤ 1536) (v1 : Int32) (v2 : Int32) : wpX_by (fun r => wpY_by (fun r' => r' = r ∧ i_Rel (k + 3) u v) v v1 v2) u v1 v2 := by
  obtain ⟨c, d, xde, xoc, xun, xfp, xsc, xtl, xec, xpb, xpf, xsx, xsy, xcx, xcy, ysh, yle, yla, yde, ypa, yed, yoc, yfa, ype, dk, dv, sr, rs, rk, rv, ct, ru, pl, be, mx, xo, st, cp, pa, pn, fx, fy, tx, ty, fi, cr, cv, ln, kd, nm, mt, co, wi, sv, bx, bo, ex, ey, yo, rfl, rfl, hd, hs, hp⟩ := I
  have J : i_Rel (k + 3) (nI d, nI c, xde, xoc, xun, xfp, xsc, xtl, xec, xpb, xpf, xsx, xsy, xcx, xcy, dk, dv, sr, rs, rk, rv, ct, ru, pl, be, mx, xo, st, cp, pa, pn, fx, fy, tx, ty, fi, cr, cv) (nI c, ysh, yle, yla, yde, ypa, yed, yoc, xun, yfa, xfp, ype, sr, ln, kd, nm, mt, co, wi, cp, pa, pn, ru, pl, sv, be, mx, bx, bo, ex, ey, fx, fy, tx, ty, yo) := ⟨_, _, _, _, _, _, _, _, _, _, _, _, _, _, _, _, _, _, _, _, _, _, _, _, _, _, _, _, _, _, _, _, _, _, _, _, _, _, _, _, _, _, _, _, _, _, _, _, _, _, _, _, _, _, _, _, _, _, _, rfl, rfl, hd, hs, hp⟩
  rcases pk_ix v1 (n := 16) (by omega) with h1 | h1 | ⟨i, hi, rfl⟩
  · exact xp_by0 (Or.inl h1) (yp_by0 (Or.inl h1) ⟨rfl, J⟩)
  · exact xp_by0 (Or.inr (Or.inl h1)) (yp_by0 (Or.inr (Or.inl h1)) ⟨rfl, J⟩)
  rcases pk_ix v2 (n := 12) (by omega) with h2 | h2 | ⟨j, hj, rfl⟩
  · exact xp_by0 (Or.inr (Or.inr (Or.inl h2))) (yp_by0 (Or.inr (Or.inr (Or.inl h2))) ⟨rfl, J⟩)
  · exact xp_by0 (Or.inr (Or.inr (Or.inr h2))) (yp_by0 (Or.inr (Or.inr (Or.inr h2))) ⟨rfl, J⟩)
  · exact xp_by1 hi hj (yp_by1 hi hj ⟨rfl, J⟩)
theorem xw_cn {post : Int32 → Prop} {c : Int32} (hp : post (nI (ma_cn pa c 192))) : ∀ d i, i + d = 192 → wX_count_4 post c xds xrc xde xoc xun xfp xsc xtl xec xpb xpf xsx xsy xcx xcy dk dv sr rs rk rv ct ru pl be mx xo st cp pa pn fx fy tx ty fi cr cv (d + 1) (nI (ma_cn pa c i)) (nI i) := by
  intro d
  induction d with
  | zero =>
    intro i hi
    have e : i = 192 := by omega
    rw [e]
    exact pk_le 192 192 (fun _ => hp) (fun h => absurd h (by omega))
  | succ d ih =>
    intro i hi
    have ec : (nI i).toNatClampNeg = i := pk_cl i
    have h := ih (i + 1) (by omega)
    have e : ma_cn pa c (i + 1) = ma_cn pa c i + if pa i = c then 1 else 0 := rfl
    by_cases z : pa i = c
    · rw [e, if_pos z] at h
      exact pk_le 192 i (fun h => absurd h (by omega)) (fun _ => ⟨pk_in i 1344 (by omega), br_t (by rw [ec]; exact z) (nm_r (nI_1 _) (nm_r (nI_1 i) h))⟩)
    · rw [e, if_neg z] at h
      exact pk_le 192 i (fun h => absurd h (by omega)) (fun _ => ⟨pk_in i 1344 (by omega), br_f (by rw [ec]; exact z) (nm_r (nI_1 i) h)⟩)
theorem xw_ro {post : Int32 → Prop} {j : Nat} (hj : j < 12) (hp : post (ma_ro pa (16 * j) 16)) : ∀ d i, i + d = 16 → wX_row_16 post (nI j) xds xrc xde xoc xun xfp xsc xtl xec xpb xpf xsx xsy xcx xcy dk dv sr rs rk rv ct ru pl be mx xo st cp pa pn fx fy tx ty fi cr cv (d + 1) (ma_ro pa (16 * j) i) (nI i) := by
  intro d
  induction d with
  | zero =>
    intro i hi
    have e : i = 16 := by omega
    rw [e]
    exact pk_le 16 16 (fun _ => hp) (fun h => absurd h (by omega))
  | succ d ih =>
    intro i hi
    have ec := pk_cl (16 * j + i) (ma_xij i j)
    have h := ih (i + 1) (by omega)
    have e : ma_ro pa (16 * j) (i + 1) = if pa (16 * j + i) = 0 then ma_ro pa (16 * j) i else ma_ro pa (16 * j) i ||| ((1 : Int32) <<< (nI i &&& 31)) := rfl
    by_cases z : pa (16 * j + i) = 0
    · rw [e, if_pos z] at h
      exact pk_le 16 i (fun h => absurd h (by omega)) (fun _ => ⟨pk_in (16 * j + i) 1344 (by omega) (ma_xij i j), br_t (by rw [ec]; exact z) (nm_r (nI_1 i) h)⟩)
    · rw [e, if_neg z] at h
      exact pk_le 16 i (fun h => absurd h (by omega)) (fun _ => ⟨pk_in (16 * j + i) 1344 (by omega) (ma_xij i j), br_f (by rw [ec]; exact z) (nm_e (nm_r (nI_1 i) h))⟩)
theorem yw_cn {post : Int32 → Prop} {c : Int32} (hp : post (nI (ma_cn pa c 192))) : ∀ d i, i + d = 192 → wY_count_4 post c yrc ysh yle yla yde ypa yed yoc yun yfa ywh ype sr ln kd nm mt co wi cp pa pn ru pl sv be mx bx bo ex ey fx fy tx ty yo (d + 1) (nI (ma_cn pa c i)) (nI i) := by
  intro d
  induction d with
  | zero =>
    intro i hi
    have e : i = 192 := by omega
    rw [e]
    exact pk_le 192 192 (fun _ => hp) (fun h => absurd h (by omega))
  | succ d ih =>
    intro i hi
    have ec : (nI i).toNatClampNeg = i := pk_cl i
    have h := ih (i + 1) (by omega)
    have e : ma_cn pa c (i + 1) = ma_cn pa c i + if pa i = c then 1 else 0 := rfl
    by_cases z : pa i = c
    · rw [e, if_pos z] at h
      exact pk_le 192 i (fun h => absurd h (by omega)) (fun _ => ⟨pk_in i 1344 (by omega), br_t (by rw [ec]; exact z) (nm_r (nI_1 _) (nm_r (nI_1 i) h))⟩)
    · rw [e, if_neg z] at h
      exact pk_le 192 i (fun h => absurd h (by omega)) (fun _ => ⟨pk_in i 1344 (by omega), br_f (by rw [ec]; exact z) (nm_r (nI_1 i) h)⟩)
theorem yw_ro {post : Int32 → Prop} {j : Nat} (hj : j < 12) (hp : post (ma_ro pa (16 * j) 16)) : ∀ d i, i + d = 16 → wY_row_16 post (nI j) yrc ysh yle yla yde ypa yed yoc yun yfa ywh ype sr ln kd nm mt co wi cp pa pn ru pl sv be mx bx bo ex ey fx fy tx ty yo (d + 1) (ma_ro pa (16 * j) i) (nI i) := by
  intro d
  induction d with
  | zero =>
    intro i hi
    have e : i = 16 := by omega
    rw [e]
    exact pk_le 16 16 (fun _ => hp) (fun h => absurd h (by omega))
  | succ d ih =>
    intro i hi
    have ec := pk_cl (16 * j + i) (ma_yij i j)
    have h := ih (i + 1) (by omega)
    have e : ma_ro pa (16 * j) (i + 1) = if pa (16 * j + i) = 0 then ma_ro pa (16 * j) i else ma_ro pa (16 * j) i ||| ((1 : Int32) <<< (nI i &&& 31)) := rfl
    by_cases z : pa (16 * j + i) = 0
    · rw [e, if_pos z] at h
      exact pk_le 16 i (fun h => absurd h (by omega)) (fun _ => ⟨pk_in (16 * j + i) 1344 (by omega) (ma_yij i j), br_t (by rw [ec]; exact z) (nm_r (nI_1 i) h)⟩)
    · rw [e, if_neg z] at h
      exact pk_le 16 i (fun h => absurd h (by omega)) (fun _ => ⟨pk_in (16 * j + i) 1344 (by omega) (ma_yij i j), br_f (by rw [ec]; exact z) (nm_e (nm_r (nI_1 i) h))⟩)
theorem i_vc_count {k : Nat} {u : SX} {v : SY} (I : i_Rel k u v) (hk : k + 3 ≤ 1536) (v1 : Int32) : wpX_count (fun r => wpY_count (fun r' => r' = r ∧ i_Rel (k + 3) u v) v v1) u v1 := by
  obtain ⟨c, d, xde, xoc, xun, xfp, xsc, xtl, xec, xpb, xpf, xsx, xsy, xcx, xcy, ysh, yle, yla, yde, ypa, yed, yoc, yfa, ype, dk, dv, sr, rs, rk, rv, ct, ru, pl, be, mx, xo, st, cp, pa, pn, fx, fy, tx, ty, fi, cr, cv, ln, kd, nm, mt, co, wi, sv, bx, bo, ex, ey, yo, rfl, rfl, hd, hs, hp⟩ := I
  exact ⟨193, xw_cn ⟨193, yw_cn ⟨rfl, ⟨_, _, _, _, _, _, _, _, _, _, _, _, _, _, _, _, _, _, _, _, _, _, _, _, _, _, _, _, _, _, _, _, _, _, _, _, _, _, _, _, _, _, _, _, _, _, _, _, _, _, _, _, _, _, _, _, _, _, _, rfl, rfl, hd, hs, hp⟩⟩ 192 0 rfl⟩ 192 0 rfl⟩
theorem i_vc_row {k : Nat} {u : SX} {v : SY} (I : i_Rel k u v) (hk : k + 3 ≤ 1536) (v1 : Int32) : wpX_row (fun r => wpY_row (fun r' => r' = r ∧ i_Rel (k + 3) u v) v v1) u v1 := by
  obtain ⟨c, d, xde, xoc, xun, xfp, xsc, xtl, xec, xpb, xpf, xsx, xsy, xcx, xcy, ysh, yle, yla, yde, ypa, yed, yoc, yfa, ype, dk, dv, sr, rs, rk, rv, ct, ru, pl, be, mx, xo, st, cp, pa, pn, fx, fy, tx, ty, fi, cr, cv, ln, kd, nm, mt, co, wi, sv, bx, bo, ex, ey, yo, rfl, rfl, hd, hs, hp⟩ := I
  have J : i_Rel (k + 3) (nI d, nI c, xde, xoc, xun, xfp, xsc, xtl, xec, xpb, xpf, xsx, xsy, xcx, xcy, dk, dv, sr, rs, rk, rv, ct, ru, pl, be, mx, xo, st, cp, pa, pn, fx, fy, tx, ty, fi, cr, cv) (nI c, ysh, yle, yla, yde, ypa, yed, yoc, xun, yfa, xfp, ype, sr, ln, kd, nm, mt, co, wi, cp, pa, pn, ru, pl, sv, be, mx, bx, bo, ex, ey, fx, fy, tx, ty, yo) := ⟨_, _, _, _, _, _, _, _, _, _, _, _, _, _, _, _, _, _, _, _, _, _, _, _, _, _, _, _, _, _, _, _, _, _, _, _, _, _, _, _, _, _, _, _, _, _, _, _, _, _, _, _, _, _, _, _, _, _, _, rfl, rfl, hd, hs, hp⟩
  rcases pk_ix v1 (n := 12) (by omega) with h1 | h1 | ⟨j, hj, rfl⟩
  · exact br_t h1 (br_t h1 ⟨rfl, J⟩)
  · rw [Int32.le_iff_toInt_le, nI_toInt (by omega)] at h1
    have h1' : ¬ v1 < 0 := by
      rw [Int32.lt_iff_toInt_lt, mb_0t]
      omega
    have h2 : ¬ v1 < 12 := by
      rw [Int32.lt_iff_toInt_lt, show (12 : Int32).toInt = 12 from by decide]
      omega
    have h3 : ¬ v1 ≤ 11 := by
      rw [Int32.le_iff_toInt_le, show (11 : Int32).toInt = 11 from by decide]
      omega
    exact br_f h1' (br_f h2 (br_f h1' (br_f h3 ⟨rfl, J⟩)))
  · have h0 : ¬ nI j < 0 := nI_pos (by omega)
    exact br_f h0 (pk_lt j 12 (fun _ => ⟨17, xw_ro hj (br_f h0 (pk_le j 11 (fun _ => ⟨17, yw_ro hj ⟨rfl, J⟩ 16 0 rfl⟩) (fun h => absurd h (by omega)))) 16 0 rfl⟩) (fun h => absurd h (by omega)))
