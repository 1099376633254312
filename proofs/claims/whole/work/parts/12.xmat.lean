variable {xds xrc xde xoc xun xfp xsc xtl xec xpb xpf xsx xsy xcx xcy yrc ysh yle yla yde ypa yed yoc yun yfa ywh ype : Int32} {dk dv sr rs rk rv ct ru pl be mx xo st cp pa pn fx fy tx ty fi cr cv ln kd nm mt co wi sv bx bo ex ey yo : Nat → Int32}
def rr_it (xo st : Nat → Int32) (b i : Nat) : Nat → Int32 := upd (upd xo i (xo i * st b + xo (i + 1) * st (b + 2))) (i + 1) (xo i * st (b + 1) + xo (i + 1) * st (b + 3))
theorem xw_cm1 {post : Int32 → SX → Prop} {V i n : Nat} (hV : V ≤ 6) (hi : i + 2 ≤ 6) (h : wX_changeMatrix_10 post (nI (8 * V)) xds xrc xde xoc xun xfp xsc xtl xec xpb xpf xsx xsy xcx xcy n (nI (i + 2)) dk dv sr rs rk rv ct ru pl be mx (rr_it xo st (8 * V) i) st cp pa pn fx fy tx ty fi cr cv) : wX_changeMatrix_10 post (nI (8 * V)) xds xrc xde xoc xun xfp xsc xtl xec xpb xpf xsx xsy xcx xcy (n + 1) (nI i) dk dv sr rs rk rv ct ru pl be mx xo st cp pa pn fx fy tx ty fi cr cv := by
  have c : (nI i).toNatClampNeg = i := pk_cl i
  have c1 : (nI i + 1).toNatClampNeg = i + 1 := pk_cl (i + 1) (nI_1 i)
  have b0 : (nI (8 * V)).toNatClampNeg = 8 * V := pk_cl (8 * V)
  have b1 : (nI (8 * V) + 1).toNatClampNeg = 8 * V + 1 := pk_cl (8 * V + 1) (nI_add (8 * V) 1)
  have b2 : (nI (8 * V) + 2).toNatClampNeg = 8 * V + 2 := pk_cl (8 * V + 2) (nI_add (8 * V) 2)
  have b3 : (nI (8 * V) + 3).toNatClampNeg = 8 * V + 3 := pk_cl (8 * V + 3) (nI_add (8 * V) 3)
  have i0 : vp_in (nI (8 * V)) 56 := pk_in (8 * V) 56 (by omega)
  have i1 : vp_in (nI (8 * V) + 1) 56 := pk_in (8 * V + 1) 56 (by omega) (nI_add (8 * V) 1)
  have i2 : vp_in (nI (8 * V) + 2) 56 := pk_in (8 * V + 2) 56 (by omega) (nI_add (8 * V) 2)
  have i3 : vp_in (nI (8 * V) + 3) 56 := pk_in (8 * V + 3) 56 (by omega) (nI_add (8 * V) 3)
  have ii : vp_in (nI i) 6 := pk_in i 6 (by omega)
  have ii1 : vp_in (nI i + 1) 6 := pk_in (i + 1) 6 (by omega) (nI_1 i)
  exact pk_le 6 i (fun h => absurd h (by omega)) (fun _ => ⟨ii, nm_r (by rw [c]) ⟨ii1, nm_r (by rw [c1]) ⟨i0, i2, ii, nm_r (by rw [c, b0, b2]) ⟨i1, i3, ii1, nm_r (by rw [c1, b1, b3]; rfl) (nm_r (nI_add i 2) h)⟩⟩⟩⟩)
def rr_x3 (xo st : Nat → Int32) (b : Nat) : Nat → Int32 := rr_it (rr_it (rr_it xo st b 0) st b 2) st b 4
def rr_xn (xo st : Nat → Int32) (b : Nat) : Nat → Int32 := upd (upd (rr_x3 xo st b) 4 (rr_x3 xo st b 4 + st (b + 4))) 5 (upd (rr_x3 xo st b) 4 (rr_x3 xo st b 4 + st (b + 4)) 5 + st (b + 5))
theorem rr_xnv (xo st : Nat → Int32) (b : Nat) : rr_xn xo st b 0 = xo 0 * st b + xo 1 * st (b + 2) ∧ rr_xn xo st b 1 = xo 0 * st (b + 1) + xo 1 * st (b + 3) ∧ rr_xn xo st b 2 = xo 2 * st b + xo 3 * st (b + 2) ∧ rr_xn xo st b 3 = xo 2 * st (b + 1) + xo 3 * st (b + 3) ∧
    rr_xn xo st b 4 = xo 4 * st b + xo 5 * st (b + 2) + st (b + 4) ∧ rr_xn xo st b 5 = xo 4 * st (b + 1) + xo 5 * st (b + 3) + st (b + 5) := ⟨rfl, rfl, rfl, rfl, rfl, rfl⟩
theorem xp_cm {post : Int32 → SX → Prop} {V : Nat} (hV : V ≤ 6) (h1 : (∀ j, j < 6 → rr_ok (rr_xn xo st (8 * V)) j) → post 0 (xds, xrc, xde, xoc, xun, xfp, nI V, xtl, xec, xpb, xpf, xsx, xsy, xcx, xcy, dk, dv, sr, rs, rk, rv, ct, ru, pl, be, mx, rr_xn xo st (8 * V), ma_w st (rr_xn xo st (8 * V)) (8 * V) 6, cp, pa, pn, fx, fy, tx, ty, fi, cr, cv))
    (h2 : (∃ j, j < 6 ∧ ¬ rr_ok (rr_xn xo st (8 * V)) j) → post 3 (xds, xrc, xde, xoc, xun, xfp, nI V, xtl, xec, xpb, xpf, xsx, xsy, xcx, xcy, dk, dv, sr, rs, rk, rv, ct, ru, pl, be, mx, rr_xn xo st (8 * V), st, cp, pa, pn, fx, fy, tx, ty, fi, cr, cv)) : wpX_changeMatrix post (xds, xrc, xde, xoc, xun, xfp, nI V, xtl, xec, xpb, xpf, xsx, xsy, xcx, xcy, dk, dv, sr, rs, rk, rv, ct, ru, pl, be, mx, xo, st, cp, pa, pn, fx, fy, tx, ty, fi, cr, cv) := by
  refine nm_r (mb_ml 8 V) ⟨4, xw_cm1 (i := 0) hV (by omega) (xw_cm1 (i := 2) hV (by omega) (xw_cm1 (i := 4) hV (by omega) ?_))⟩
  have b4 : (nI (8 * V) + 4).toNatClampNeg = 8 * V + 4 := pk_cl (8 * V + 4) (nI_add (8 * V) 4)
  have b5 : (nI (8 * V) + 5).toNatClampNeg = 8 * V + 5 := pk_cl (8 * V + 5) (nI_add (8 * V) 5)
  have i4 : vp_in (nI (8 * V) + 4) 56 := pk_in (8 * V + 4) 56 (by omega) (nI_add (8 * V) 4)
  have i5 : vp_in (nI (8 * V) + 5) 56 := pk_in (8 * V + 5) 56 (by omega) (nI_add (8 * V) 5)
  have h := xw_cm2 (xo := rr_xn xo st (8 * V)) hV h1 h2 6 0 rfl (fun j hj => absurd hj (Nat.not_lt_zero j))
  exact pk_le 6 6 (fun _ => ⟨i4, nm_r (e' := upd (rr_x3 xo st (8 * V)) 4 (rr_x3 xo st (8 * V) 4 + st (8 * V + 4))) (by rw [b4]; rfl) ⟨i5, nm_r (e' := rr_xn xo st (8 * V)) (by rw [b5]; rfl) ⟨7, h⟩⟩⟩) (fun h => absurd h (by omega))
/-! how many operands an operator needs -/
theorem xp_nd {post : Int32 → Prop} {k : Int32} (hp : post (nI (rr_need k))) : wpX_operandsNeeded post (xds, xrc, xde, xoc, xun, xfp, xsc, xtl, xec, xpb, xpf, xsx, xsy, xcx, xcy, dk, dv, sr, rs, rk, rv, ct, ru, pl, be, mx, xo, st, cp, pa, pn, fx, fy, tx, ty, fi, cr, cv) k := by
  by_cases h1 : k = 1
  · rw [h1, show rr_need 1 = 2 from by decide] at hp
    rw [h1]
    exact br_f (by decide) (br_f (by decide) (br_t rfl hp))
  by_cases h2 : k = 2
  · rw [h2, show rr_need 2 = 2 from by decide] at hp
    rw [h2]
    exact br_f (by decide) (br_f (by decide) (br_f (by decide) (br_t rfl hp)))
  by_cases h3 : k = 3
  · rw [h3, show rr_need 3 = 0 from by decide] at hp
    rw [h3]
    exact br_f (by decide) (br_f (by decide) (br_f (by decide) (br_f (by decide) (br_t rfl hp))))
  by_cases h4 : k = 4
  · rw [h4, show rr_need 4 = 4 from by decide] at hp
    rw [h4]
    exact br_f (by decide) (br_f (by decide) (br_f (by decide) (br_f (by decide) (br_f (by decide) (br_t rfl hp)))))
  by_cases h5 : k = 5
  · rw [h5, show rr_need 5 = 0 from by decide] at hp
    rw [h5]
    exact br_f (by decide) (br_f (by decide) (br_f (by decide) (br_f (by decide) (br_f (by decide) (br_f (by decide) (br_t rfl hp))))))
  by_cases h6 : k = 6
  · rw [h6, show rr_need 6 = 0 from by decide] at hp
    rw [h6]
    exact br_f (by decide) (br_f (by decide) (br_f (by decide) (br_f (by decide) (br_f (by decide) (br_f (by decide) (br_f (by decide) (br_t rfl hp)))))))
  by_cases h7 : k = 7
  · rw [h7, show rr_need 7 = 0 from by decide] at hp
    rw [h7]
    exact br_f (by decide) (br_f (by decide) (br_f (by decide) (br_f (by decide) (br_f (by decide) (br_f (by decide) (br_f (by decide) (br_f (by decide) (br_t rfl hp))))))))
  by_cases h8 : k = 8
  · rw [h8, show rr_need 8 = 0 from by decide] at hp
    rw [h8]
    exact br_f (by decide) (br_f (by decide) (br_f (by decide) (br_f (by decide) (br_f (by decide) (br_f (by decide) (br_f (by decide) (br_f (by decide) (br_f (by decide) (br_t rfl hp)))))))))
  by_cases h9 : k = 9
  · rw [h9, show rr_need 9 = 0 from by decide] at hp
    rw [h9]
    exact br_f (by decide) (br_f (by decide) (br_f (by decide) (br_f (by decide) (br_f (by decide) (br_f (by decide) (br_f (by decide) (br_f (by decide) (br_f (by decide) (br_f (by decide) (br_t rfl hp))))))))))
  by_cases h10 : k = 10
  · rw [h10, show rr_need 10 = 0 from by decide] at hp
    rw [h10]
    exact br_f (by decide) (br_f (by decide) (br_f (by decide) (br_f (by decide) (br_f (by decide) (br_f (by decide) (br_f (by decide) (br_f (by decide) (br_f (by decide) (br_f (by decide) (br_f (by decide) (br_t rfl hp)))))))))))
  by_cases h11 : k = 11
  · rw [h11, show rr_need 11 = 0 from by decide] at hp
    rw [h11]
    exact br_f (by decide) (br_f (by decide) (br_f (by decide) (br_f (by decide) (br_f (by decide) (br_f (by decide) (br_f (by decide) (br_f (by decide) (br_f (by decide) (br_f (by decide) (br_f (by decide) (br_f (by decide) (br_t rfl hp))))))))))))
  by_cases h12 : k = 12
  · rw [h12, show rr_need 12 = 6 from by decide] at hp
    rw [h12]
    exact br_f (by decide) (br_f (by decide) (br_f (by decide) (br_f (by decide) (br_f (by decide) (br_f (by decide) (br_f (by decide) (br_f (by decide) (br_f (by decide) (br_f (by decide) (br_f (by decide) (br_f (by decide) (br_f (by decide) (br_t rfl hp)))))))))))))
  by_cases h13 : k = 13
  · rw [h13, show rr_need 13 = 1 from by decide] at hp
    rw [h13]
    exact br_f (by decide) (br_f (by decide) (br_f (by decide) (br_f (by decide) (br_f (by decide) (br_f (by decide) (br_f (by decide) (br_f (by decide) (br_f (by decide) (br_f (by decide) (br_f (by decide) (br_f (by decide) (br_f (by decide) (br_f (by decide) (br_t rfl hp))))))))))))))
  by_cases h14 : k = 14
  · rw [h14, show rr_need 14 = 1 from by decide] at hp
    rw [h14]
    exact br_f (by decide) (br_f (by decide) (br_f (by decide) (br_f (by decide) (br_f (by decide) (br_f (by decide) (br_f (by decide) (br_f (by decide) (br_f (by decide) (br_f (by decide) (br_f (by decide) (br_f (by decide) (br_f (by decide) (br_f (by decide) (br_f (by decide) (br_t rfl hp)))))))))))))))
  by_cases h15 : k = 15
  · rw [h15, show rr_need 15 = 0 from by decide] at hp
    rw [h15]
    exact br_f (by decide) (br_f (by decide) (br_f (by decide) (br_f (by decide) (br_f (by decide) (br_f (by decide) (br_f (by decide) (br_f (by decide) (br_f (by decide) (br_f (by decide) (br_f (by decide) (br_f (by decide) (br_f (by decide) (br_f (by decide) (br_f (by decide) (br_f (by decide) (br_t rfl hp))))))))))))))))
  by_cases h16 : k = 16
  · rw [h16, show rr_need 16 = 1 from by decide] at hp
    rw [h16]
    exact br_f (by decide) (br_f (by decide) (br_f (by decide) (br_f (by decide) (br_f (by decide) (br_f (by decide) (br_f (by decide) (br_f (by decide) (br_f (by decide) (br_f (by decide) (br_f (by decide) (br_f (by decide) (br_f (by decide) (br_f (by decide) (br_f (by decide) (br_f (by decide) (br_f (by decide) (br_t rfl hp)))))))))))))))))
  by_cases h17 : k = 17
  · rw [h17, show rr_need 17 = 2 from by decide] at hp
    rw [h17]
    exact br_f (by decide) (br_f (by decide) (br_f (by decide) (br_f (by decide) (br_f (by decide) (br_f (by decide) (br_f (by decide) (br_f (by decide) (br_f (by decide) (br_f (by decide) (br_f (by decide) (br_f (by decide) (br_f (by decide) (br_f (by decide) (br_f (by decide) (br_f (by decide) (br_f (by decide) (br_f (by decide) (br_t rfl hp))))))))))))))))))
  have e : rr_need k = 0 := by
    unfold rr_need
    rw [if_neg (fun z => z.elim h1 (fun z => z.elim h2 h17)), if_neg h4, if_neg h12, if_neg (fun z => z.elim h13 (fun z => z.elim h14 h16))]
  rw [e] at hp
  exact br_c (fun _ => hp) (fun _ => br_c (fun _ => hp) (fun _ => br_f h1 (br_f h2 (br_f h3 (br_f h4 (br_f h5 (br_f h6 (br_f h7 (br_f h8 (br_f h9 (br_f h10 (br_f h11 (br_f h12 (br_f h13 (br_f h14 (br_f h15 (br_f h16 (br_f h17 (trivial)))))))))))))))))))
theorem yp_wt {post : Int32 → Prop} {k : Int32} (hp : post (nI (rr_need k))) : wpY_wanted post k := by
  by_cases h1 : k = 1
  · rw [h1, show rr_need 1 = 2 from by decide] at hp
    rw [h1]
    exact br_t rfl hp
  by_cases h2 : k = 2
  · rw [h2, show rr_need 2 = 2 from by decide] at hp
    rw [h2]
    exact br_f (by decide) (br_t rfl hp)
  by_cases h17 : k = 17
  · rw [h17, show rr_need 17 = 2 from by decide] at hp
    rw [h17]
    exact br_f (by decide) (br_f (by decide) (br_t rfl hp))
  by_cases h4 : k = 4
  · rw [h4, show rr_need 4 = 4 from by decide] at hp
    rw [h4]
    exact br_f (by decide) (br_f (by decide) (br_f (by decide) (br_t rfl hp)))
  by_cases h12 : k = 12
  · rw [h12, show rr_need 12 = 6 from by decide] at hp
    rw [h12]
    exact br_f (by decide) (br_f (by decide) (br_f (by decide) (br_f (by decide) (br_t rfl hp))))
  by_cases h13 : k = 13
  · rw [h13, show rr_need 13 = 1 from by decide] at hp
    rw [h13]
    exact br_f (by decide) (br_f (by decide) (br_f (by decide) (br_f (by decide) (br_f (by decide) (br_t rfl hp)))))
  by_cases h14 : k = 14
  · rw [h14, show rr_need 14 = 1 from by decide] at hp
    rw [h14]
    exact br_f (by decide) (br_f (by decide) (br_f (by decide) (br_f (by decide) (br_f (by decide) (br_f (by decide) (br_t rfl hp))))))
  by_cases h16 : k = 16
  · rw [h16, show rr_need 16 = 1 from by decide] at hp
    rw [h16]
    exact br_f (by decide) (br_f (by decide) (br_f (by decide) (br_f (by decide) (br_f (by decide) (br_f (by decide) (br_f (by decide) (br_t rfl hp)))))))
  have e : rr_need k = 0 := by
    unfold rr_need
    rw [if_neg (fun z => z.elim h1 (fun z => z.elim h2 h17)), if_neg h4, if_neg h12, if_neg (fun z => z.elim h13 (fun z => z.elim h14 h16))]
  rw [e] at hp
  exact br_f h1 (br_f h2 (br_f h17 (br_f h4 (br_f h12 (br_f h13 (br_f h14 (br_f h16 (hp))))))))
