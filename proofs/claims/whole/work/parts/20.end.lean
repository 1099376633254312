variable {xds xrc xde xoc xun xfp xsc xtl xec xpb xpf xsx xsy xcx xcy yrc ysh yle yla yde ypa yed yoc yun yfa ywh ype : Int32} {dk dv sr rs rk rv ct ru pl be mx xo st cp pa pn fx fy tx ty fi cr cv ln kd nm mt co wi sv bx bo ex ey yo : Nat → Int32}
/-! the end of a stream -/
theorem yw_mi {post : SY → Prop} {x1 a : Int32} {l : Nat} (hl : l + 1 ≤ 6) (hpa : rr_pa pa) (hp : wY_close_83 post x1 yrc ysh yle (nI l) yde ypa yed yoc yun yfa ywh ype sr ln kd nm mt co wi cp (ma_w pa (rr_gp pa a (192 * (l + 1)) (192 * l)) (192 * l) 192) (ma_w pn (rr_gq pa pn (192 * (l + 1)) (192 * l)) (192 * l) 192) ru pl sv be mx bx bo ex ey fx fy tx ty yo) :
    ∀ d i, i + d = 192 → wY_close_33 post x1 a (d + 1) (nI i) yrc ysh yle (nI (l + 1)) yde ypa yed yoc yun yfa ywh ype sr ln kd nm mt co wi cp (ma_w pa (rr_gp pa a (192 * (l + 1)) (192 * l)) (192 * l) i) (ma_w pn (rr_gq pa pn (192 * (l + 1)) (192 * l)) (192 * l) i) ru pl sv be mx bx bo ex ey fx fy tx ty yo := by
  intro d
  induction d with
  | zero =>
    intro i hi
    have e : i = 192 := by omega
    rw [e]
    exact pk_le 192 192 (fun _ => nm_r (nI_pred l) hp) (fun h => absurd h (by omega))
  | succ d ih =>
    intro i hi
    have h := ih (i + 1) (by omega)
    have eU : (192 : Int32) * nI (l + 1) + nI i = nI (192 * (l + 1) + i) := by
      rw [show (192 : Int32) * nI (l + 1) = nI (192 * (l + 1)) from mb_mr 192 (l + 1), nI_add]
    have eL : (192 : Int32) * (nI (l + 1) - 1) + nI i = nI (192 * l + i) := by
      rw [nI_pred, show (192 : Int32) * nI l = nI (192 * l) from mb_mr 192 l, nI_add]
    have hinU : vp_in (nI (192 * (l + 1) + i)) 1344 := pk_in (192 * (l + 1) + i) 1344 (by omega)
    have hinL : vp_in (nI (192 * l + i)) 1344 := pk_in (192 * l + i) 1344 (by omega)
    have cU : (nI (192 * (l + 1) + i)).toNatClampNeg = 192 * (l + 1) + i := pk_cl (192 * (l + 1) + i)
    have cL : (nI (192 * l + i)).toNatClampNeg = 192 * l + i := pk_cl (192 * l + i)
    have rU : (ma_w pa (rr_gp pa a (192 * (l + 1)) (192 * l)) (192 * l) i) (nI (192 * (l + 1) + i)).toNatClampNeg = pa (192 * (l + 1) + i) := by
      rw [cU]
      exact ma_wr (by omega)
    have rL : (ma_w pa (rr_gp pa a (192 * (l + 1)) (192 * l)) (192 * l) i) (nI (192 * l + i)).toNatClampNeg = pa (192 * l + i) := by
      rw [cL]
      exact ma_wr (by omega)
    have qU : (ma_w pn (rr_gq pa pn (192 * (l + 1)) (192 * l)) (192 * l) i) (nI (192 * (l + 1) + i)).toNatClampNeg = pn (192 * (l + 1) + i) := by
      rw [cU]
      exact ma_wr (by omega)
    refine pk_le 192 i (fun h => absurd h (by omega)) (fun _ => ?_)
    rw [eU, eL]
    refine ⟨hinU, ?_⟩
    rw [rU, rL]
    by_cases z : pa (192 * (l + 1) + i) = -1
    · have e1 : ma_w pa (rr_gp pa a (192 * (l + 1)) (192 * l)) (192 * l) i = ma_w pa (rr_gp pa a (192 * (l + 1)) (192 * l)) (192 * l) (i + 1) := ma_wk (if_pos z)
      have e2 : ma_w pn (rr_gq pa pn (192 * (l + 1)) (192 * l)) (192 * l) i = ma_w pn (rr_gq pa pn (192 * (l + 1)) (192 * l)) (192 * l) (i + 1) := ma_wk (if_pos z)
      rw [← e1, ← e2] at h
      exact br_f (by rw [z]; decide) (nm_r (nI_1 i) h)
    · have e2 : rr_gq pa pn (192 * (l + 1)) (192 * l) i = pn (192 * (l + 1) + i) := if_neg z
      have p1 : 0 ≤ pa (192 * (l + 1) + i) := (hpa (192 * (l + 1) + i)).elim (fun y => absurd y z) (fun y => (mb_n1 y.1).2.2)
      by_cases y : pa (192 * l + i) = -1
      · have e1 : rr_gp pa a (192 * (l + 1)) (192 * l) i = pa (192 * (l + 1) + i) := by
          unfold rr_gp
          rw [if_neg z, if_pos y]
        exact br_t p1 ⟨hinL, br_f (by rw [y]; decide) ⟨hinU, hinL, nm_r (by rw [cL, ← ma_ws, e1]) ⟨hinU, hinL, nm_r (by rw [qU, cL, ← ma_ws, e2]) (nm_r (nI_1 i) h)⟩⟩⟩
      · have e1 : rr_gp pa a (192 * (l + 1)) (192 * l) i = (a * pa (192 * (l + 1) + i) + (16 - a) * pa (192 * l + i)) / 16 := by
          unfold rr_gp
          rw [if_neg z, if_neg y]
        have p2 : 0 ≤ pa (192 * l + i) := (hpa (192 * l + i)).elim (fun q => absurd q y) (fun q => (mb_n1 q.1).2.2)
        exact br_t p1 ⟨hinL, br_t p2 ⟨hinU, hinL, by decide, hinL, nm_r (by rw [cL, ← ma_ws, e1]) ⟨hinU, hinL, nm_r (by rw [qU, cL, ← ma_ws, e2]) (nm_r (nI_1 i) h)⟩⟩⟩
theorem rr_pam {pa : Nat → Int32} {a : Int32} {bU bL : Nat} (h : rr_pa pa) (ha : 0 ≤ a.toInt ∧ a.toInt ≤ 16) : rr_pa (ma_w pa (rr_gp pa a bU bL) bL 192) := by
  refine ma_wall (P := fun x => x = -1 ∨ rr_c1 x) h (fun t _ => ?_)
  unfold rr_gp
  by_cases z : pa (bU + t) = -1
  · rw [if_pos z]
    exact h _
  · by_cases y : pa (bL + t) = -1
    · rw [if_neg z, if_pos y]
      exact h _
    · rw [if_neg z, if_neg y]
      have h1 : rr_c1 (pa (bU + t)) := (h (bU + t)).elim (fun q => absurd q z) id
      have h2 : rr_c1 (pa (bL + t)) := (h (bL + t)).elim (fun q => absurd q y) id
      exact Or.inr (ma_mix ha h1 h2)
theorem st_end {K n c d t L V U E P F : Nat} {A B G : Nat → Nat} (h : rr_H K n c d (t + 1) L V U E P F A B G xpb xpf xsx xsy xcx xcy ype dk dv sr rs rk rv ct ru pl be mx xo st cp pa pn fx fy tx ty fi cr cv ln kd nm mt co wi sv bx bo ex ey yo) :
    ∃ (N' : Nat) (u' : SX) (v' : SY), N' + 1 ≤ rr_ph U (t + 1) A ∧ rr_R K N' 0 0 u' v' ∧ (∀ post : SX → Prop, post u' → wpX_leaveStream post (nI d, nI c, nI (t + 1 + 1), xoc, nI U, -1, nI V, nI L, nI E, xpb, xpf, xsx, xsy, xcx, xcy, dk, dv, sr, rs, rk, rv, ct, ru, pl, be, mx, xo, st, cp, pa, pn, fx, fy, tx, ty, fi, cr, cv)) ∧ (∀ post : SY → Prop, post v' → wpY_close post (nI c, nI K, nI V, nI L, nI (t + 1 + 1), nI P, nI E, yoc, nI U, 0, -1, ype, sr, ln, kd, nm, mt, co, wi, cp, pa, pn, ru, pl, sv, be, mx, bx, bo, ex, ey, fx, fy, tx, ty, yo) (nI (t + 1))) := by
  obtain ⟨hd, hs, hp, ho, hc, hK, hf, hl, hm, hb⟩ := h
  obtain ⟨hTV, hV, hLT⟩ := rr_frb hf
  obtain ⟨_, _, _, beT, _, _, mxT⟩ := hf.1 (t + 1) (by omega)
  obtain ⟨fx1, fx2, fx3, fx4⟩ := rr_frx hf
  have eT : nI (t + 1 + 1) - 1 = nI (t + 1) := nI_pred (t + 1)
  have c7 : (nI (t + 1)).toNatClampNeg = t + 1 := pk_cl (t + 1)
  have i7 : vp_in (nI (t + 1)) 7 := pk_in (t + 1) 7 (by omega)
  have i8 : vp_in (nI (t + 1)) 8 := pk_in (t + 1) 8 (by omega)
  have eB : be (nI (t + 1)).toNatClampNeg - 1 = nI (B (t + 1) - 1) := by
    rw [c7, beT]
    exact pk_sub (a := B (t + 1)) (b := 1) fx3
  by_cases z : mx (t + 1) = -1
  · rw [if_pos z, Nat.sub_zero] at fx1
    refine ⟨_, (nI d, nI c, nI (t + 1), 0, nI U, -1, nI (B (t + 1) - 1), nI L, 0, 0, xpf, xsx, xsy, xcx, xcy, dk, dv, sr, rs, rk, rv, ct, ru, pl, be, mx, xo, st, cp, pa, pn, fx, fy, tx, ty, fi, cr, cv), (nI c, nI K, nI (B (t + 1) - 1), nI L, nI (t + 1), 0, 0, 0, nI U, 0, -1, ype, sr, ln, kd, nm, mt, co, wi, cp, pa, pn, ru, pl, sv, be, mx, bx, bo, ex, ey, fx, fy, tx, ty, yo), fx2, ⟨_, _, _, _, _, _, _, _, _, _, _, _, _, _, _, _, _, _, _, _, _, _, _, _, _, _, _, _, _, _, _, _, _, _, _, _, _, _, _, _, _, _, _, _, _, _, _, _, _, _, _, _, _, _, rfl, rfl, rfl, hd, hs, hp, rr_op0, hc, hK, fx1, rr_plx hl, ma_p0 F xsx xsy xcx xcy fx fy tx ty fi bx bo ex ey, fun z => absurd z (by decide)⟩, ?_, ?_⟩
    · intro post H
      refine nm_r eT ⟨i7, br_t (by rw [c7]; exact z) ?_⟩
      exact pk_le (t + 1) 0 (fun q => absurd q (by omega)) (fun _ => ⟨i7, nm_r eB H⟩)
    · intro post H
      exact pk_eq (t + 1) 0 (fun q => absurd q (by omega)) (fun _ => ⟨i8, br_t (by rw [c7, z]; decide) ⟨i8, nm_r eB H⟩⟩)
  · rw [if_neg z] at fx1
    have hL1 := fx4 z
    obtain ⟨l, rfl⟩ : ∃ l, L = l + 1 := ⟨L - 1, by omega⟩
    rw [Nat.add_sub_cancel] at fx1
    have a16 : 0 ≤ (mx (t + 1)).toInt ∧ (mx (t + 1)).toInt ≤ 16 := mxT.elim (fun q => absurd q z) id
    refine ⟨_, (nI d, nI c, nI (t + 1), 0, nI U, -1, nI (B (t + 1) - 1), nI l, 0, 0, xpf, xsx, xsy, xcx, xcy, dk, dv, sr, rs, rk, rv, ct, ru, pl, be, mx, xo, st, cp, ma_w pa (rr_gp pa (mx (t + 1)) (192 * (l + 1)) (192 * l)) (192 * l) 192, ma_w pn (rr_gq pa pn (192 * (l + 1)) (192 * l)) (192 * l) 192, fx, fy, tx, ty, fi, cr, cv), (nI c, nI K, nI (B (t + 1) - 1), nI l, nI (t + 1), 0, 0, 0, nI U, 0, -1, ype, sr, ln, kd, nm, mt, co, wi, cp, ma_w pa (rr_gp pa (mx (t + 1)) (192 * (l + 1)) (192 * l)) (192 * l) 192, ma_w pn (rr_gq pa pn (192 * (l + 1)) (192 * l)) (192 * l) 192, ru, pl, sv, be, mx, bx, bo, ex, ey, fx, fy, tx, ty, yo), fx2, ⟨_, _, _, _, _, _, _, _, _, _, _, _, _, _, _, _, _, _, _, _, _, _, _, _, _, _, _, _, _, _, _, _, _, _, _, _, _, _, _, _, _, _, _, _, _, _, _, _, _, _, _, _, _, _, rfl, rfl, rfl, hd, hs, rr_pam hp a16, rr_op0, hc, hK, fx1, rr_plx hl, ma_p0 F xsx xsy xcx xcy fx fy tx ty fi bx bo ex ey, fun z => absurd z (by decide)⟩, ?_, ?_⟩
    · intro post H
      refine nm_r eT ⟨i7, br_f (by rw [c7]; exact z) ⟨i7, ?_⟩⟩
      rw [c7]
      exact xp_mi (by omega) (pk_le (t + 1) 0 (fun q => absurd q (by omega)) (fun _ => ⟨i7, nm_r eB H⟩))
    · intro post H
      have key : wY_close_33 post (nI (t + 1)) (mx (t + 1)) 193 (nI 0) (nI c) (nI K) (nI V) (nI (l + 1)) (nI (t + 1)) (nI P) (nI E) 0 (nI U) 0 (-1) ype sr ln kd nm mt co wi cp (ma_w pa (rr_gp pa (mx (t + 1)) (192 * (l + 1)) (192 * l)) (192 * l) 0) (ma_w pn (rr_gq pa pn (192 * (l + 1)) (192 * l)) (192 * l) 0) ru pl sv be mx bx bo ex ey fx fy tx ty yo := yw_mi (by omega) hp ⟨i8, nm_r eB H⟩ 192 0 rfl
      rw [ma_w0, ma_w0] at key
      exact pk_eq (t + 1) 0 (fun q => absurd q (by omega)) (fun _ => ⟨i8, br_f (by rw [c7]; exact (mb_n1 a16.1).2.1) ⟨i8, nm_r (by rw [c7]) ⟨193, key⟩⟩⟩)
theorem st_end0 {K n c d L V U E P F : Nat} {A B G : Nat → Nat} (h : rr_H K n c d 0 L V U E P F A B G xpb xpf xsx xsy xcx xcy ype dk dv sr rs rk rv ct ru pl be mx xo st cp pa pn fx fy tx ty fi cr cv ln kd nm mt co wi sv bx bo ex ey yo) :
    (∀ post : SX → Prop, post (nI d, nI c, 0, 0, nI U, -1, nI V, nI L, 0, 0, xpf, xsx, xsy, xcx, xcy, dk, dv, sr, rs, rk, rv, ct, ru, pl, be, mx, xo, st, cp, pa, pn, fx, fy, tx, ty, fi, cr, cv) → wpX_leaveStream post (nI d, nI c, nI (0 + 1), xoc, nI U, -1, nI V, nI L, nI E, xpb, xpf, xsx, xsy, xcx, xcy, dk, dv, sr, rs, rk, rv, ct, ru, pl, be, mx, xo, st, cp, pa, pn, fx, fy, tx, ty, fi, cr, cv)) ∧ (∀ post : SY → Prop, post (nI c, nI K, nI V, nI L, nI 0, nI P, nI E, 0, nI U, 0, -1, ype, sr, ln, kd, nm, mt, co, wi, cp, pa, pn, ru, pl, sv, be, mx, bx, bo, ex, ey, fx, fy, tx, ty, yo) → wpY_close post (nI c, nI K, nI V, nI L, nI (0 + 1), nI P, nI E, yoc, nI U, 0, -1, ype, sr, ln, kd, nm, mt, co, wi, cp, pa, pn, ru, pl, sv, be, mx, bx, bo, ex, ey, fx, fy, tx, ty, yo) (nI 0)) := by
  obtain ⟨hd, hs, hp, ho, hc, hK, hf, hl, hm, hb⟩ := h
  have z : mx 0 = -1 := hf.2.1
  have eT : nI (0 + 1) - 1 = nI 0 := nI_pred 0
  have c7 : (nI 0).toNatClampNeg = 0 := pk_cl 0
  constructor
  · intro post H
    exact nm_r eT ⟨pk_in 0 7 (by omega), br_t (by rw [c7]; exact z) (pk_le 0 0 (fun _ => H) (fun q => absurd q (by omega)))⟩
  · intro post H
    exact br_t rfl H
/-! an operator that is none -/
theorem mb_59 {k : Int32} (h : ¬ k < 5) (h' : k ≤ 9) : k = 5 ∨ k = 6 ∨ k = 7 ∨ k = 8 ∨ k = 9 := by
  rw [Int32.lt_iff_toInt_lt, show (5 : Int32).toInt = 5 from by decide] at h
  rw [Int32.le_iff_toInt_le, show (9 : Int32).toInt = 9 from by decide] at h'
  have q : k.toInt = 5 ∨ k.toInt = 6 ∨ k.toInt = 7 ∨ k.toInt = 8 ∨ k.toInt = 9 := by omega
  rcases q with q | q | q | q | q
  · exact Or.inl (Int32.toInt_inj.mp (by rw [q]; decide))
  · exact Or.inr (Or.inl (Int32.toInt_inj.mp (by rw [q]; decide)))
  · exact Or.inr (Or.inr (Or.inl (Int32.toInt_inj.mp (by rw [q]; decide))))
  · exact Or.inr (Or.inr (Or.inr (Or.inl (Int32.toInt_inj.mp (by rw [q]; decide)))))
  · exact Or.inr (Or.inr (Or.inr (Or.inr (Int32.toInt_inj.mp (by rw [q]; decide)))))
theorem op_all {K c d T L V U E P F : Nat} {A B G : Nat → Nat} (hU : U < 200) (m : Int32) (k : Int32) (h : rr_H K (rr_need k) c d T L V (U + 1) E P F A B G xpb xpf xsx xsy xcx xcy ype dk dv sr rs rk rv ct ru pl be mx xo st cp pa pn fx fy tx ty fi cr cv ln kd nm mt co wi sv bx bo ex ey yo) :
    ∃ (r : Int32) (u' : SX) (v' : SY), rr_Z K (rr_ph (U + 1) T A) r u' v' ∧ (∀ post : Int32 → SX → Prop, post r u' → wpX_operate post (nI d, nI c, nI (T + 1), 0, nI (U + 1), -1, nI V, nI L, nI E, xpb, xpf, xsx, xsy, xcx, xcy, dk, dv, sr, rs, rk, rv, ct, ru, pl, be, mx, xo, st, cp, pa, pn, fx, fy, tx, ty, fi, cr, cv) k m) ∧ (∀ post : SY → Prop, post v' → wpY_operator post (nI c, nI K, nI V, nI L, nI (T + 1), nI P, nI E, nI (rr_need k), nI U, 0, -1, ype, sr, ln, kd, nm, mt, co, wi, cp, pa, pn, ru, pl, sv, be, mx, bx, bo, ex, ey, fx, fy, tx, ty, yo) k m) := by
  by_cases n1 : k = 1
  · subst n1
    exact op_1 hU m h
  by_cases n2 : k = 2
  · subst n2
    exact op_2 hU m h
  by_cases n3 : k = 3
  · subst n3
    exact op_3 hU m h
  by_cases n4 : k = 4
  · subst n4
    exact op_4 hU m h
  by_cases n5 : k = 5
  · subst n5
    exact op_5 hU m h
  by_cases n6 : k = 6
  · subst n6
    exact op_6 hU m h
  by_cases n7 : k = 7
  · subst n7
    exact op_7 hU m h
  by_cases n8 : k = 8
  · subst n8
    exact op_8 hU m h
  by_cases n9 : k = 9
  · subst n9
    exact op_9 hU m h
  by_cases n10 : k = 10
  · subst n10
    exact op_10 hU m h
  by_cases n11 : k = 11
  · subst n11
    exact op_11 hU m h
  by_cases n12 : k = 12
  · subst n12
    exact op_12 hU m h
  by_cases n13 : k = 13
  · subst n13
    exact op_13 hU m h
  by_cases n14 : k = 14
  · subst n14
    exact op_14 hU m h
  by_cases n15 : k = 15
  · subst n15
    exact op_15 hU m h
  by_cases n16 : k = 16
  · subst n16
    exact op_16 hU m h
  by_cases n17 : k = 17
  · subst n17
    exact op_17 hU m h
  obtain ⟨hd, hs, hp, ho, hc, hK, hf, hl, hm, hb⟩ := h
  refine ⟨0, (nI d, nI c, nI (T + 1), 0, nI (U + 1), -1, nI V, nI L, nI E, xpb, xpf, xsx, xsy, xcx, xcy, dk, dv, sr, rs, rk, rv, ct, ru, pl, be, mx, xo, st, cp, pa, pn, fx, fy, tx, ty, fi, cr, cv), (nI c, nI K, nI V, nI L, nI (T + 1), nI P, nI E, 0, nI (U + 1), 0, -1, ype, sr, ln, kd, nm, mt, co, wi, cp, pa, pn, ru, pl, sv, be, mx, bx, bo, ex, ey, fx, fy, tx, ty, yo), Or.inl ⟨rfl, _, Nat.le_add_right _ _, ⟨_, _, _, _, _, _, _, _, _, _, _, _, _, _, _, _, _, _, _, _, _, _, _, _, _, _, _, _, _, _, _, _, _, _, _, _, _, _, _, _, _, _, _, _, _, _, _, _, _, _, _, _, _, _, rfl, rfl, rfl, hd, hs, hp, rr_op0, hc, hK, hf, hl, hm, hb⟩⟩, ?_, ?_⟩
  · intro post H
    exact br_c (fun _ => H) (fun _ => br_c (fun _ => H) (fun _ => br_f n1 (br_f n2 (br_f n3 (br_f n4 (br_f n5 (br_f n6 (br_f n7 (br_f n8 (br_f n9 (br_f n10 (br_f n11 (br_f n12 (br_f n13 (br_f n14 (br_f n15 (br_f n16 (br_f n17 (trivial)))))))))))))))))))
  · intro post H
    unfold wpY_operator
    refine yp_wt (br_t rfl (pk_eq U 200 (fun z => absurd z (by omega)) (fun _ => nm_r (nI_1 U) (nm_e (nm_e (br_f n1 (br_f n2 (br_f n3 (br_f n4 (br_f n5 (br_f n6 (br_f n15 (br_f n7 (br_f n8 (br_f n10 (br_f n11 (br_f n12 (br_f n13 (br_f n16 (br_f n14 (br_f n17 (?_))))))))))))))))))))))
    refine br_c (fun _ => br_f n15 H) (fun a => br_c (fun b => ?_) (fun _ => br_f n15 H))
    rcases mb_59 a b with q | q | q | q | q
    · exact absurd q n5
    · exact absurd q n6
    · exact absurd q n7
    · exact absurd q n8
    · exact absurd q n9
