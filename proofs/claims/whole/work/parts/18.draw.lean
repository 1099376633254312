variable {xds xrc xde xoc xun xfp xsc xtl xec xpb xpf xsx xsy xcx xcy yrc ysh yle yla yde ypa yed yoc yun yfa ywh ype : Int32} {dk dv sr rs rk rv ct ru pl be mx xo st cp pa pn fx fy tx ty fi cr cv ln kd nm mt co wi sv bx bo ex ey yo : Nat → Int32}
/-! drawing a stream, each side -/
theorem xd_busy {post : Int32 → SX → Prop} {T : Nat} {s a : Int32} (hT : T + 1 ≤ 7) (H : post 6 (xds, xrc, nI (T + 1), xoc, xun, xfp, xsc, xtl, xec, xpb, xpf, xsx, xsy, xcx, xcy, dk, dv, sr, rs, rk, rv, ct, ru, pl, be, mx, xo, st, cp, pa, pn, fx, fy, tx, ty, fi, cr, cv)) : ∀ d i, i + d = T + 1 → (∃ f, i ≤ f ∧ f < T + 1 ∧ ru f = s) → wX_drawStream_14 post s a xds xrc (nI (T + 1)) xoc xun xfp xsc xtl xec xpb xpf xsx xsy xcx xcy dk dv sr rs rk rv ct ru pl be mx xo st cp pa pn fx fy tx ty fi cr cv (d + 1) (nI i) := by
  intro d
  induction d with
  | zero =>
    intro i hi hf
    obtain ⟨f, h1, h2, _⟩ := hf
    omega
  | succ d ih =>
    intro i hi hf
    have c : (nI i).toNatClampNeg = i := pk_cl i
    refine pk_le (T + 1) i (fun h => absurd h (by omega)) (fun _ => ⟨pk_in i 7 (by omega), ?_⟩)
    rw [c]
    by_cases z : ru i = s
    · exact br_t z H
    · refine br_f z (nm_r (nI_1 i) (ih (i + 1) (by omega) ?_))
      obtain ⟨f, h1, h2, h3⟩ := hf
      refine ⟨f, ?_, h2, h3⟩
      have : f ≠ i := fun e => z (by rw [← e]; exact h3)
      omega
theorem xd_free {post : Int32 → SX → Prop} {T : Nat} {s a : Int32} (hT : T + 1 ≤ 7) (hn : ∀ f, f < T + 1 → ru f ≠ s) (H : wX_drawStream_14 post s a xds xrc (nI (T + 1)) xoc xun xfp xsc xtl xec xpb xpf xsx xsy xcx xcy dk dv sr rs rk rv ct ru pl be mx xo st cp pa pn fx fy tx ty fi cr cv 1 (nI (T + 1))) : ∀ d i, i + d = T + 1 → wX_drawStream_14 post s a xds xrc (nI (T + 1)) xoc xun xfp xsc xtl xec xpb xpf xsx xsy xcx xcy dk dv sr rs rk rv ct ru pl be mx xo st cp pa pn fx fy tx ty fi cr cv (d + 1) (nI i) := by
  intro d
  induction d with
  | zero =>
    intro i hi
    have e : i = T + 1 := by omega
    rw [e]
    exact H
  | succ d ih =>
    intro i hi
    have c : (nI i).toNatClampNeg = i := pk_cl i
    refine pk_le (T + 1) i (fun h => absurd h (by omega)) (fun _ => ⟨pk_in i 7 (by omega), ?_⟩)
    rw [c]
    exact br_f (hn i (by omega)) (nm_r (nI_1 i) (ih (i + 1) (by omega)))
theorem xp_dr3 {post : Int32 → SX → Prop} {s a : Int32} (h : s < 0 ∨ 6 ≤ s) (H : post 3 (xds, xrc, xde, xoc, xun, xfp, xsc, xtl, xec, xpb, xpf, xsx, xsy, xcx, xcy, dk, dv, sr, rs, rk, rv, ct, ru, pl, be, mx, xo, st, cp, pa, pn, fx, fy, tx, ty, fi, cr, cv)) : wpX_drawStream post (xds, xrc, xde, xoc, xun, xfp, xsc, xtl, xec, xpb, xpf, xsx, xsy, xcx, xcy, dk, dv, sr, rs, rk, rv, ct, ru, pl, be, mx, xo, st, cp, pa, pn, fx, fy, tx, ty, fi, cr, cv) s a := br_c (fun _ => H) (fun h1 => br_c (fun h2 => h.elim (fun z => absurd z h1) (fun z => absurd h2 (Int32.not_lt.mpr z))) (fun _ => H))
theorem xp_dr6 {post : Int32 → SX → Prop} {T V j : Nat} {a : Int32} (hj : j < 6) (hT : T + 1 ≤ 7) (hb : (∃ f, f < T + 1 ∧ ru f = nI j) ∨ V = 6) (H : post 6 (xds, xrc, nI (T + 1), xoc, xun, xfp, nI V, xtl, xec, xpb, xpf, xsx, xsy, xcx, xcy, dk, dv, sr, rs, rk, rv, ct, ru, pl, be, mx, xo, st, cp, pa, pn, fx, fy, tx, ty, fi, cr, cv)) : wpX_drawStream post (xds, xrc, nI (T + 1), xoc, xun, xfp, nI V, xtl, xec, xpb, xpf, xsx, xsy, xcx, xcy, dk, dv, sr, rs, rk, rv, ct, ru, pl, be, mx, xo, st, cp, pa, pn, fx, fy, tx, ty, fi, cr, cv) (nI j) a := by
  refine br_f (nI_pos (by omega)) (pk_lt j 6 (fun _ => ?_) (fun h => absurd h (by omega)))
  by_cases hr : ∃ f, f < T + 1 ∧ ru f = nI j
  · obtain ⟨f, h1, h2⟩ := hr
    exact ⟨_, xd_busy hT H (T + 1) 0 (by omega) ⟨f, by omega, h1, h2⟩⟩
  · have hV : V = 6 := hb.elim (fun z => absurd z hr) id
    exact ⟨_, xd_free hT (fun f h1 h2 => hr ⟨f, h1, h2⟩) (pk_le (T + 1) (T + 1) (fun _ => xp_sv6 hV (br_f (by decide) H)) (fun h => absurd h (by omega))) (T + 1) 0 (by omega)⟩
theorem xp_dr0 {post : Int32 → SX → Prop} {T V j : Nat} {a : Int32} (hj : j < 6) (hT : T + 1 < 7) (hV : V < 6) (hn : ∀ f, f < T + 1 → ru f ≠ nI j)
    (H : post 0 (xds, xrc, nI (T + 1 + 1), 0, xun, xfp, nI (V + 1), xtl, 0, 0, xpf, xsx, xsy, xcx, xcy, dk, dv, sr, rs, rk, rv, ct, upd ru (T + 1) (nI j), upd pl (T + 1) 0, upd be (T + 1) (nI (V + 1)), upd mx (T + 1) a, xo, ma_w st (fun n => st (8 * V + n)) (8 * V + 8) 8, ma_w cp (rr_gs cp (192 * V)) (192 * V + 192) 192, pa, pn, fx, fy, tx, ty, fi, cr, cv)) :
    wpX_drawStream post (xds, xrc, nI (T + 1), xoc, xun, xfp, nI V, xtl, xec, xpb, xpf, xsx, xsy, xcx, xcy, dk, dv, sr, rs, rk, rv, ct, ru, pl, be, mx, xo, st, cp, pa, pn, fx, fy, tx, ty, fi, cr, cv) (nI j) a := by
  refine br_f (nI_pos (by omega)) (pk_lt j 6 (fun _ => ?_) (fun h => absurd h (by omega)))
  have c : (nI (T + 1)).toNatClampNeg = T + 1 := pk_cl (T + 1)
  have hin : vp_in (nI (T + 1)) 7 := pk_in (T + 1) 7 (by omega)
  exact ⟨_, xd_free (by omega) hn (pk_le (T + 1) (T + 1) (fun _ => xp_sv hV (br_t rfl ⟨hin, nm_r (by rw [c]) ⟨hin, nm_r (by rw [c]) ⟨hin, nm_r (by rw [c]) ⟨hin, nm_r (by rw [c]) (nm_r (nI_1 (T + 1)) H)⟩⟩⟩⟩)) (fun h => absurd h (by omega))) (T + 1) 0 (by omega)⟩
/-! the reference -/
theorem yd_b1 {post : SY → Prop} {T : Nat} {s a : Int32} (hT : T + 1 ≤ 7) (H : post (yrc, ysh, yle, yla, nI (T + 1), ypa, yed, yoc, yun, 6, ywh, ype, sr, ln, kd, nm, mt, co, wi, cp, pa, pn, ru, pl, sv, be, mx, bx, bo, ex, ey, fx, fy, tx, ty, yo)) : ∀ d i, i + d = T + 1 → wY_draw_33 post s a yrc ysh yle yla (nI (T + 1)) ypa yed yoc yun yfa ywh ype sr ln kd nm mt co wi cp pa pn ru pl sv be mx bx bo ex ey fx fy tx ty yo (d + 1) 1 (nI i) := by
  intro d
  induction d with
  | zero =>
    intro i hi
    have e : i = T + 1 := by omega
    rw [e]
    exact pk_le (T + 1) (T + 1) (fun _ => br_f (by decide) H) (fun h => absurd h (by omega))
  | succ d ih =>
    intro i hi
    have h := ih (i + 1) (by omega)
    exact pk_le (T + 1) i (fun h => absurd h (by omega)) (fun _ => ⟨pk_in i 8 (by omega), br_c (fun _ => nm_r (nI_1 i) h) (fun _ => nm_r (nI_1 i) h)⟩)
theorem yd_busy {post : SY → Prop} {T : Nat} {s a : Int32} (hT : T + 1 ≤ 7) (H : post (yrc, ysh, yle, yla, nI (T + 1), ypa, yed, yoc, yun, 6, ywh, ype, sr, ln, kd, nm, mt, co, wi, cp, pa, pn, ru, pl, sv, be, mx, bx, bo, ex, ey, fx, fy, tx, ty, yo)) : ∀ d i, i + d = T + 1 → (∃ f, i ≤ f ∧ f < T + 1 ∧ ru f = s) → wY_draw_33 post s a yrc ysh yle yla (nI (T + 1)) ypa yed yoc yun yfa ywh ype sr ln kd nm mt co wi cp pa pn ru pl sv be mx bx bo ex ey fx fy tx ty yo (d + 1) 0 (nI i) := by
  intro d
  induction d with
  | zero =>
    intro i hi hf
    obtain ⟨f, h1, h2, _⟩ := hf
    omega
  | succ d ih =>
    intro i hi hf
    have c : (nI i).toNatClampNeg = i := pk_cl i
    refine pk_le (T + 1) i (fun h => absurd h (by omega)) (fun _ => ⟨pk_in i 8 (by omega), ?_⟩)
    rw [c]
    by_cases z : ru i = s
    · exact br_t z (nm_r (nI_1 i) (yd_b1 hT H d (i + 1) (by omega)))
    · refine br_f z (nm_r (nI_1 i) (ih (i + 1) (by omega) ?_))
      obtain ⟨f, h1, h2, h3⟩ := hf
      refine ⟨f, ?_, h2, h3⟩
      have : f ≠ i := fun e => z (by rw [← e]; exact h3)
      omega
theorem yd_free {post : SY → Prop} {T : Nat} {s a : Int32} (hT : T + 1 ≤ 7) (hn : ∀ f, f < T + 1 → ru f ≠ s) (H : wY_draw_33 post s a yrc ysh yle yla (nI (T + 1)) ypa yed yoc yun yfa ywh ype sr ln kd nm mt co wi cp pa pn ru pl sv be mx bx bo ex ey fx fy tx ty yo 1 0 (nI (T + 1))) : ∀ d i, i + d = T + 1 → wY_draw_33 post s a yrc ysh yle yla (nI (T + 1)) ypa yed yoc yun yfa ywh ype sr ln kd nm mt co wi cp pa pn ru pl sv be mx bx bo ex ey fx fy tx ty yo (d + 1) 0 (nI i) := by
  intro d
  induction d with
  | zero =>
    intro i hi
    have e : i = T + 1 := by omega
    rw [e]
    exact H
  | succ d ih =>
    intro i hi
    have c : (nI i).toNatClampNeg = i := pk_cl i
    refine pk_le (T + 1) i (fun h => absurd h (by omega)) (fun _ => ⟨pk_in i 8 (by omega), ?_⟩)
    rw [c]
    exact br_f (hn i (by omega)) (nm_r (nI_1 i) (ih (i + 1) (by omega)))
theorem yp_dr3 {post : SY → Prop} {s a : Int32} (h : s < 0 ∨ 6 ≤ s) (H : post (yrc, ysh, yle, yla, yde, ypa, yed, yoc, yun, 3, ywh, ype, sr, ln, kd, nm, mt, co, wi, cp, pa, pn, ru, pl, sv, be, mx, bx, bo, ex, ey, fx, fy, tx, ty, yo)) : wpY_draw post (yrc, ysh, yle, yla, yde, ypa, yed, yoc, yun, yfa, ywh, ype, sr, ln, kd, nm, mt, co, wi, cp, pa, pn, ru, pl, sv, be, mx, bx, bo, ex, ey, fx, fy, tx, ty, yo) s a := by
  refine br_c (fun _ => H) (fun h1 => br_c (fun h2 => ?_) (fun _ => H))
  rcases h with z | z
  · exact absurd z h1
  · rw [Int32.le_iff_toInt_le, show (5 : Int32).toInt = 5 from by decide] at h2
    rw [Int32.le_iff_toInt_le, show (6 : Int32).toInt = 6 from by decide] at z
    omega
theorem yp_dr6 {post : SY → Prop} {T V j : Nat} {a : Int32} (hj : j < 6) (hT : T + 1 ≤ 7) (hV6 : V ≤ 6) (hb : (∃ f, f < T + 1 ∧ ru f = nI j) ∨ V = 6) (H : post (yrc, ysh, nI V, yla, nI (T + 1), ypa, yed, yoc, yun, 6, ywh, ype, sr, ln, kd, nm, mt, co, wi, cp, pa, pn, ru, pl, sv, be, mx, bx, bo, ex, ey, fx, fy, tx, ty, yo)) : wpY_draw post (yrc, ysh, nI V, yla, nI (T + 1), ypa, yed, yoc, yun, yfa, ywh, ype, sr, ln, kd, nm, mt, co, wi, cp, pa, pn, ru, pl, sv, be, mx, bx, bo, ex, ey, fx, fy, tx, ty, yo) (nI j) a := by
  refine br_f (nI_pos (by omega)) (pk_le j 5 (fun _ => pk_eq V 6 (fun hV => ⟨_, yd_b1 hT H (T + 1) 0 (by omega)⟩) (fun hV => ?_)) (fun h => absurd h (by omega)))
  obtain ⟨f, h1, h2⟩ := hb.elim id (fun z => absurd z hV)
  exact ⟨_, yd_busy hT H (T + 1) 0 (by omega) ⟨f, by omega, h1, h2⟩⟩
theorem yp_op {post : SY → Prop} {T : Nat} {s a : Int32} (hT : T < 8) (H : post (yrc, ysh, yle, yla, nI (T + 1), ypa, yed, 0, yun, yfa, ywh, ype, sr, ln, kd, nm, mt, co, wi, cp, pa, pn, upd ru T s, upd pl T 0, upd sv T 0, upd be T yle, upd mx T a, bx, bo, ex, ey, fx, fy, tx, ty, yo)) : wpY_open post (yrc, ysh, yle, yla, nI T, ypa, yed, yoc, yun, yfa, ywh, ype, sr, ln, kd, nm, mt, co, wi, cp, pa, pn, ru, pl, sv, be, mx, bx, bo, ex, ey, fx, fy, tx, ty, yo) s a := by
  have c : (nI T).toNatClampNeg = T := pk_cl T
  have hin : vp_in (nI T) 8 := pk_in T 8 hT
  exact ⟨hin, nm_r (by rw [c]) ⟨hin, nm_r (by rw [c]) ⟨hin, nm_r (by rw [c]) ⟨hin, nm_r (by rw [c]) ⟨hin, nm_r (by rw [c]) (nm_r (nI_1 T) H)⟩⟩⟩⟩⟩
theorem yw_103 {post : SY → Prop} {s a : Int32} {L : Nat} (hL : L ≤ 6) (hp : wY_draw_151 post s a yrc ysh yle (nI L) yde ypa yed yoc yun yfa ywh ype sr ln kd nm mt co wi cp (ma_w pa (fun _ => -1) (192 * L) 192) (ma_w pn (fun _ => -1) (192 * L) 192) ru pl sv be mx bx bo ex ey fx fy tx ty yo) :
    ∀ d i, i + d = 192 → wY_draw_103 post s a yrc ysh yle (nI L) yde ypa yed yoc yun yfa ywh ype (d + 1) (nI i) sr ln kd nm mt co wi cp (ma_w pa (fun _ => -1) (192 * L) i) (ma_w pn (fun _ => -1) (192 * L) i) ru pl sv be mx bx bo ex ey fx fy tx ty yo := by
  intro d
  induction d with
  | zero =>
    intro i hi
    have e : i = 192 := by omega
    rw [e]
    exact pk_le 192 192 (fun _ => hp) (fun h => absurd h (by omega))
  | succ d ih =>
    intro i hi
    have eL : (192 : Int32) * nI L + nI i = nI (192 * L + i) := by
      rw [show (192 : Int32) * nI L = nI (192 * L) from mb_mr 192 L, nI_add]
    have hinL : vp_in ((192 : Int32) * nI L + nI i) 1344 := pk_in (192 * L + i) 1344 (by omega) eL
    have ecL : ((192 : Int32) * nI L + nI i).toNatClampNeg = 192 * L + i := pk_cl (192 * L + i) eL
    exact pk_le 192 i (fun h => absurd h (by omega)) (fun _ => ⟨hinL, nm_r (by rw [ecL]; exact ma_ws pa (fun _ => -1) (192 * L) i) ⟨hinL, nm_r (by rw [ecL]; exact ma_ws pn (fun _ => -1) (192 * L) i) (nm_r (nI_1 i) (ih (i + 1) (by omega)))⟩⟩)
theorem yp_dr0 {post : SY → Prop} {T V j : Nat} {a : Int32} (hj : j < 6) (hT : T + 1 < 7) (hV : V < 6) (hn : ∀ f, f < T + 1 → ru f ≠ nI j) (ha : a < 0)
    (H : post (yrc, ysh, nI (V + 1), yla, nI (T + 1 + 1), 0, 0, 0, yun, yfa, ywh, ype, sr, ln, kd, nm, ma_w mt (fun n => mt (6 * V + n)) (6 * V + 6) 6, upd co (V + 1) (co V), upd wi (V + 1) (wi V), ma_w cp (rr_gs cp (192 * V)) (192 * V + 192) 192, pa, pn, upd ru (T + 1) (nI j), upd pl (T + 1) 0, upd sv (T + 1) 0, upd be (T + 1) (nI (V + 1)), upd mx (T + 1) a, bx, bo, ex, ey, fx, fy, tx, ty, yo)) :
    wpY_draw post (yrc, ysh, nI V, yla, nI (T + 1), ypa, yed, yoc, yun, yfa, ywh, ype, sr, ln, kd, nm, mt, co, wi, cp, pa, pn, ru, pl, sv, be, mx, bx, bo, ex, ey, fx, fy, tx, ty, yo) (nI j) a := by
  refine br_f (nI_pos (by omega)) (pk_le j 5 (fun _ => pk_eq V 6 (fun h => absurd h (by omega)) (fun _ => ⟨_, yd_free (by omega) hn (pk_le (T + 1) (T + 1) (fun _ => br_t rfl (yp_ke hV (br_t ha ?_))) (fun h => absurd h (by omega))) (T + 1) 0 (by omega)⟩)) (fun h => absurd h (by omega)))
  unfold wY_draw_151
  exact yp_op (by omega) H
theorem yp_dr0g {post : SY → Prop} {T V L j : Nat} {a : Int32} (hj : j < 6) (hT : T + 1 < 7) (hV : V < 6) (hL : L < 6) (hn : ∀ f, f < T + 1 → ru f ≠ nI j) (ha : ¬ a < 0)
    (H : post (yrc, ysh, nI (V + 1), nI (L + 1), nI (T + 1 + 1), 0, 0, 0, yun, yfa, ywh, ype, sr, ln, kd, nm, ma_w mt (fun n => mt (6 * V + n)) (6 * V + 6) 6, upd co (V + 1) (co V), upd wi (V + 1) (wi V), ma_w cp (rr_gs cp (192 * V)) (192 * V + 192) 192, ma_w pa (fun _ => -1) (192 * (L + 1)) 192, ma_w pn (fun _ => -1) (192 * (L + 1)) 192, upd ru (T + 1) (nI j), upd pl (T + 1) 0, upd sv (T + 1) 0, upd be (T + 1) (nI (V + 1)), upd mx (T + 1) a, bx, bo, ex, ey, fx, fy, tx, ty, yo)) :
    wpY_draw post (yrc, ysh, nI V, nI L, nI (T + 1), ypa, yed, yoc, yun, yfa, ywh, ype, sr, ln, kd, nm, mt, co, wi, cp, pa, pn, ru, pl, sv, be, mx, bx, bo, ex, ey, fx, fy, tx, ty, yo) (nI j) a := by
  refine br_f (nI_pos (by omega)) (pk_le j 5 (fun _ => pk_eq V 6 (fun h => absurd h (by omega)) (fun _ => ⟨_, yd_free (by omega) hn (pk_le (T + 1) (T + 1) (fun _ => br_t rfl (yp_ke hV (br_f ha (nm_r (nI_1 L) ⟨193, ?_⟩)))) (fun h => absurd h (by omega))) (T + 1) 0 (by omega)⟩)) (fun h => absurd h (by omega)))
  have key := yw_103 (post := post) (s := nI j) (a := a) (L := L + 1) (pa := pa) (pn := pn) (sr := sr) (ln := ln) (kd := kd) (nm := nm) (mt := ma_w mt (fun n => mt (6 * V + n)) (6 * V + 6) 6) (co := upd co (V + 1) (co V)) (wi := upd wi (V + 1) (wi V)) (cp := ma_w cp (rr_gs cp (192 * V)) (192 * V + 192) 192) (ru := ru) (pl := pl) (sv := sv) (be := be) (mx := mx) (bx := bx) (bo := bo) (ex := ex) (ey := ey) (fx := fx) (fy := fy) (tx := tx) (ty := ty) (yo := yo) (yrc := yrc) (ysh := ysh) (yle := nI (V + 1)) (yde := nI (T + 1)) (ypa := 0) (yed := 0) (yoc := yoc) (yun := yun) (yfa := yfa) (ywh := ywh) (ype := ype) (by omega) (by
    unfold wY_draw_151
    exact yp_op (by omega) H) 192 0 rfl
  rw [ma_w0, ma_w0] at key
  exact key
/-! the matrix of the reference, its numbers -/
def rr_sm (x : Int32) : Prop := ¬ x < -50 ∧ ¬ 50 < x
theorem yp_sm1 {post : Int32 → Prop} {x : Int32} (h : rr_sm x) (H : post 1) : wpY_small post (yrc, ysh, yle, yla, yde, ypa, yed, yoc, yun, yfa, ywh, ype, sr, ln, kd, nm, mt, co, wi, cp, pa, pn, ru, pl, sv, be, mx, bx, bo, ex, ey, fx, fy, tx, ty, yo) x := br_f h.1 (br_f h.2 H)
theorem yp_sm0 {post : Int32 → Prop} {x : Int32} (h : ¬ rr_sm x) (H : post 0) : wpY_small post (yrc, ysh, yle, yla, yde, ypa, yed, yoc, yun, yfa, ywh, ype, sr, ln, kd, nm, mt, co, wi, cp, pa, pn, ru, pl, sv, be, mx, bx, bo, ex, ey, fx, fy, tx, ty, yo) x := br_c (fun _ => H) (fun a => br_c (fun _ => H) (fun b => absurd ⟨a, b⟩ h))
def rr_all (n0 n1 n2 n3 n4 n5 : Int32) : Prop := rr_sm n0 ∧ rr_sm n1 ∧ rr_sm n2 ∧ rr_sm n3 ∧ ma_bd 4000 n4 ∧ ma_bd 4000 n5
theorem yp_tr {post : SY → Prop} {V : Nat} (hV : V ≤ 6) {n0 n1 n2 n3 n4 n5 : Int32} (e0 : yo 0 * mt (6 * V) + yo 1 * mt (6 * V + 2) = n0) (e1 : yo 0 * mt (6 * V + 1) + yo 1 * mt (6 * V + 3) = n1) (e2 : yo 2 * mt (6 * V) + yo 3 * mt (6 * V + 2) = n2) (e3 : yo 2 * mt (6 * V + 1) + yo 3 * mt (6 * V + 3) = n3) (e4 : yo 4 * mt (6 * V) + yo 5 * mt (6 * V + 2) + mt (6 * V + 4) = n4) (e5 : yo 4 * mt (6 * V + 1) + yo 5 * mt (6 * V + 3) + mt (6 * V + 5) = n5)
    (H1 : rr_all n0 n1 n2 n3 n4 n5 → post (yrc, ysh, nI V, yla, yde, ypa, yed, yoc, yun, yfa, ywh, ype, sr, ln, kd, nm, rr_m6 mt (6 * V) n0 n1 n2 n3 n4 n5, co, wi, cp, pa, pn, ru, pl, sv, be, mx, bx, bo, ex, ey, fx, fy, tx, ty, yo)) (H0 : ¬ rr_all n0 n1 n2 n3 n4 n5 → post (yrc, ysh, nI V, yla, yde, ypa, yed, yoc, yun, 3, ywh, ype, sr, ln, kd, nm, mt, co, wi, cp, pa, pn, ru, pl, sv, be, mx, bx, bo, ex, ey, fx, fy, tx, ty, yo)) : wpY_transform post (yrc, ysh, nI V, yla, yde, ypa, yed, yoc, yun, yfa, ywh, ype, sr, ln, kd, nm, mt, co, wi, cp, pa, pn, ru, pl, sv, be, mx, bx, bo, ex, ey, fx, fy, tx, ty, yo) := by
  have c0 : (nI (6 * V)).toNatClampNeg = 6 * V := pk_cl (6 * V)
  have c1 : (nI (6 * V) + 1).toNatClampNeg = 6 * V + 1 := pk_cl (6 * V + 1) (nI_add (6 * V) 1)
  have c2 : (nI (6 * V) + 2).toNatClampNeg = 6 * V + 2 := pk_cl (6 * V + 2) (nI_add (6 * V) 2)
  have c3 : (nI (6 * V) + 3).toNatClampNeg = 6 * V + 3 := pk_cl (6 * V + 3) (nI_add (6 * V) 3)
  have c4 : (nI (6 * V) + 4).toNatClampNeg = 6 * V + 4 := pk_cl (6 * V + 4) (nI_add (6 * V) 4)
  have c5 : (nI (6 * V) + 5).toNatClampNeg = 6 * V + 5 := pk_cl (6 * V + 5) (nI_add (6 * V) 5)
  have i0 : vp_in (nI (6 * V)) 42 := pk_in (6 * V) 42 (by omega)
  have i1 : vp_in (nI (6 * V) + 1) 42 := pk_in (6 * V + 1) 42 (by omega) (nI_add (6 * V) 1)
  have i2 : vp_in (nI (6 * V) + 2) 42 := pk_in (6 * V + 2) 42 (by omega) (nI_add (6 * V) 2)
  have i3 : vp_in (nI (6 * V) + 3) 42 := pk_in (6 * V + 3) 42 (by omega) (nI_add (6 * V) 3)
  have i4 : vp_in (nI (6 * V) + 4) 42 := pk_in (6 * V + 4) 42 (by omega) (nI_add (6 * V) 4)
  have i5 : vp_in (nI (6 * V) + 5) 42 := pk_in (6 * V + 5) 42 (by omega) (nI_add (6 * V) 5)
  refine nm_r (mb_mr 6 V) ⟨i0, nm_r (by rw [c0]) ⟨i1, nm_r (by rw [c1]) ⟨i2, nm_r (by rw [c2]) ⟨i3, nm_r (by rw [c3]) (nm_e (nm_e (nm_e (nm_e (nm_e (nm_e (nm_r e0 (nm_r e1 (nm_r e2 (nm_r e3 ⟨i4, nm_r (e' := n4) (by rw [c4]; exact e4) ⟨i5, nm_r (e' := n5) (by rw [c5]; exact e5) ?_⟩⟩))))))))))⟩⟩⟩⟩
  by_cases s0 : rr_sm n0
  · by_cases s1 : rr_sm n1
    · by_cases s2 : rr_sm n2
      · by_cases s3 : rr_sm n3
        · by_cases s4 : ma_bd 4000 n4
          · by_cases s5 : ma_bd 4000 n5
            · exact yp_sm1 s0 (br_f (by decide) (yp_sm1 s1 (br_f (by decide) (yp_sm1 s2 (br_f (by decide) (yp_sm1 s3 (br_f (by decide) (yp_nr1 s4 (br_f (by decide) (yp_nr1 s5 (br_f (by decide) ⟨i0, nm_r (by rw [c0]) ⟨i1, nm_r (by rw [c1]) ⟨i2, nm_r (by rw [c2]) ⟨i3, nm_r (by rw [c3]) ⟨i4, nm_r (by rw [c4]) ⟨i5, nm_r (by rw [c5]; rfl) (H1 ⟨s0, s1, s2, s3, s4, s5⟩)⟩⟩⟩⟩⟩⟩)))))))))))
            · exact yp_sm1 s0 (br_f (by decide) (yp_sm1 s1 (br_f (by decide) (yp_sm1 s2 (br_f (by decide) (yp_sm1 s3 (br_f (by decide) (yp_nr1 s4 (br_f (by decide) (yp_nr0 s5 (br_t rfl (H0 (fun z => s5 z.2.2.2.2.2)))))))))))))
          · exact yp_sm1 s0 (br_f (by decide) (yp_sm1 s1 (br_f (by decide) (yp_sm1 s2 (br_f (by decide) (yp_sm1 s3 (br_f (by decide) (yp_nr0 s4 (br_t rfl (H0 (fun z => s4 z.2.2.2.2.1)))))))))))
        · exact yp_sm1 s0 (br_f (by decide) (yp_sm1 s1 (br_f (by decide) (yp_sm1 s2 (br_f (by decide) (yp_sm0 s3 (br_t rfl (H0 (fun z => s3 z.2.2.2.1)))))))))
      · exact yp_sm1 s0 (br_f (by decide) (yp_sm1 s1 (br_f (by decide) (yp_sm0 s2 (br_t rfl (H0 (fun z => s2 z.2.2.1)))))))
    · exact yp_sm1 s0 (br_f (by decide) (yp_sm0 s1 (br_t rfl (H0 (fun z => s1 z.2.1)))))
  · exact yp_sm0 s0 (br_t rfl (H0 (fun z => s0 z.1)))
theorem rr_oksm {xn : Nat → Int32} {i : Nat} (hi : i < 4) : rr_ok xn i ↔ rr_sm (xn i) := by
  unfold rr_ok rr_sm
  rw [show rr_lim i = 50 from if_neg (by omega), Int32.not_lt (a := 50)]
theorem rr_oknr {xn : Nat → Int32} {i : Nat} (hi : 4 ≤ i) : rr_ok xn i ↔ ma_bd 4000 (xn i) := by
  unfold rr_ok
  rw [mb_k, show rr_lim i = 4000 from if_pos hi, Int32.not_lt (a := 4000)]
theorem rr_okall {xn : Nat → Int32} : (∀ j, j < 6 → rr_ok xn j) ↔ rr_all (xn 0) (xn 1) (xn 2) (xn 3) (xn 4) (xn 5) := by
  constructor
  · intro h
    exact ⟨(rr_oksm (by omega)).mp (h 0 (by omega)), (rr_oksm (by omega)).mp (h 1 (by omega)), (rr_oksm (by omega)).mp (h 2 (by omega)), (rr_oksm (by omega)).mp (h 3 (by omega)), (rr_oknr (by omega)).mp (h 4 (by omega)), (rr_oknr (by omega)).mp (h 5 (by omega))⟩
  · intro h j hj
    obtain ⟨h0, h1, h2, h3, h4, h5⟩ := h
    have hn' : j = 0 ∨ j = 1 ∨ j = 2 ∨ j = 3 ∨ j = 4 ∨ j = 5 := by omega
    rcases hn' with rfl | rfl | rfl | rfl | rfl | rfl
    · exact (rr_oksm (by omega)).mpr h0
    · exact (rr_oksm (by omega)).mpr h1
    · exact (rr_oksm (by omega)).mpr h2
    · exact (rr_oksm (by omega)).mpr h3
    · exact (rr_oknr (by omega)).mpr h4
    · exact (rr_oknr (by omega)).mpr h5
