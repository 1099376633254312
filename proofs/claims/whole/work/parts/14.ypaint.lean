variable {xds xrc xde xoc xun xfp xsc xtl xec xpb xpf xsx xsy xcx xcy yrc ysh yle yla yde ypa yed yoc yun yfa ywh ype : Int32} {dk dv sr rs rk rv ct ru pl be mx xo st cp pa pn fx fy tx ty fi cr cv ln kd nm mt co wi sv bx bo ex ey yo : Nat → Int32}
/-! fill, cut -/
theorem yw_f39 {post : SY → Prop} {J : Int32 → (Nat → Int32) → (Nat → Int32) → (Nat → Int32) → (Nat → Int32) → (Nat → Int32) → (Nat → Int32) → (Nat → Int32) → (Nat → Int32) → (Nat → Int32) → (Nat → Int32) → (Nat → Int32) → (Nat → Int32) → (Nat → Int32) → (Nat → Int32) → (Nat → Int32) → (Nat → Int32) → (Nat → Int32) → (Nat → Int32) → (Nat → Int32) → (Nat → Int32) → (Nat → Int32) → (Nat → Int32) → (Nat → Int32) → (Nat → Int32) → Prop} {k m z : Int32} {V L i : Nat} (hV : V ≤ 6) (hL : L ≤ 6) (hi : i < 192) (cz : Nat → Int32) (hz : cz i = z) (pb pc : Nat → Int32)
    (h : J (nI (i + 1)) sr ln kd nm mt co wi cp (ma_w pb (rr_gf pb cz cp (co V) (192 * V) (192 * L)) (192 * L) (i + 1)) (ma_w pc (rr_gf pc cz cp m (192 * V) (192 * L)) (192 * L) (i + 1)) ru pl sv be mx bx bo ex ey fx fy tx ty yo) :
    wY_fill_39 post J k m (nI i) z yrc ysh (nI V) (nI L) yde ypa yed yoc yun yfa ywh ype sr ln kd nm mt co wi cp (ma_w pb (rr_gf pb cz cp (co V) (192 * V) (192 * L)) (192 * L) i) (ma_w pc (rr_gf pc cz cp m (192 * V) (192 * L)) (192 * L) i) ru pl sv be mx bx bo ex ey fx fy tx ty yo := by
  have eV : (192 : Int32) * nI V + nI i = nI (192 * V + i) := by
    rw [show (192 : Int32) * nI V = nI (192 * V) from mb_mr 192 V, nI_add]
  have eL : (192 : Int32) * nI L + nI i = nI (192 * L + i) := by
    rw [show (192 : Int32) * nI L = nI (192 * L) from mb_mr 192 L, nI_add]
  have hinV : vp_in ((192 : Int32) * nI V + nI i) 1344 := pk_in (192 * V + i) 1344 (by omega) eV
  have ecV : ((192 : Int32) * nI V + nI i).toNatClampNeg = 192 * V + i := pk_cl (192 * V + i) eV
  have hinL : vp_in ((192 : Int32) * nI L + nI i) 1344 := pk_in (192 * L + i) 1344 (by omega) eL
  have ecL : ((192 : Int32) * nI L + nI i).toNatClampNeg = 192 * L + i := pk_cl (192 * L + i) eL
  have ecv : (nI V).toNatClampNeg = V := pk_cl V
  by_cases a : z = 0
  · have a' : cz i = 0 := hz.trans a
    have e1 : ma_w pb (rr_gf pb cz cp (co V) (192 * V) (192 * L)) (192 * L) i = ma_w pb (rr_gf pb cz cp (co V) (192 * V) (192 * L)) (192 * L) (i + 1) := ma_wk (if_pos a')
    have e2 : ma_w pc (rr_gf pc cz cp m (192 * V) (192 * L)) (192 * L) i = ma_w pc (rr_gf pc cz cp m (192 * V) (192 * L)) (192 * L) (i + 1) := ma_wk (if_pos a')
    rw [← e1, ← e2] at h
    exact br_t a (nm_r (nI_1 i) h)
  · have a' : ¬ cz i = 0 := fun q => a (hz.symm.trans q)
    refine br_f a ⟨hinV, ?_⟩
    by_cases y : cp (192 * V + i) = 0
    · have e1 : ma_w pb (rr_gf pb cz cp (co V) (192 * V) (192 * L)) (192 * L) i = ma_w pb (rr_gf pb cz cp (co V) (192 * V) (192 * L)) (192 * L) (i + 1) := ma_wk (by unfold rr_gf; rw [if_neg a', if_pos y])
      have e2 : ma_w pc (rr_gf pc cz cp m (192 * V) (192 * L)) (192 * L) i = ma_w pc (rr_gf pc cz cp m (192 * V) (192 * L)) (192 * L) (i + 1) := ma_wk (by unfold rr_gf; rw [if_neg a', if_pos y])
      rw [← e1, ← e2] at h
      exact br_t (by rw [ecV]; exact y) (nm_r (nI_1 i) h)
    · have e1 : rr_gf pb cz cp (co V) (192 * V) (192 * L) i = co V := by
        unfold rr_gf
        rw [if_neg a', if_neg y]
      have e2 : rr_gf pc cz cp m (192 * V) (192 * L) i = m := by
        unfold rr_gf
        rw [if_neg a', if_neg y]
      exact br_f (by rw [ecV]; exact y) ⟨pk_in V 7 (by omega), hinL, nm_r (by rw [ecL, ecv, ← ma_ws, e1]) ⟨hinL, nm_r (by rw [ecL, ← ma_ws, e2]) (nm_r (nI_1 i) h)⟩⟩
/-- what the reference finds at a pixel, by the operator -/
def rr_hit (k : Int32) (E P : Nat) (fx fy tx ty bx bo ex ey : Nat → Int32) (w : Int32) (t : Nat) : Int32 := if k = 15 then rr_cn fx fy tx ty w E t else ma_ins (if k = 6 then 1 else 0) (ma_S E P fx fy tx ty bx bo ex ey t)
theorem yw_fi {post : SY → Prop} {k m : Int32} {V L E P : Nat} (hV : V ≤ 6) (hL : L ≤ 6) (hE : E ≤ 24) (hP : P ≤ 25) (hq : ma_q4 E fx fy tx ty) (hq' : ma_q4 P bx bo ex ey) (cz : Nat → Int32) (hz : cz = rr_hit k E P fx fy tx ty bx bo ex ey (wi V))
    (H : post (yrc, ysh, nI V, nI L, yde, nI P, nI E, yoc, yun, yfa, ywh, ype, sr, ln, kd, nm, mt, co, wi, cp, ma_w pa (rr_gf pa cz cp (co V) (192 * V) (192 * L)) (192 * L) 192, ma_w pn (rr_gf pn cz cp m (192 * V) (192 * L)) (192 * L) 192, ru, pl, sv, be, mx, bx, bo, ex, ey, fx, fy, tx, ty, yo)) :
    ∀ d i, i + d = 192 → wY_fill_2 post k m yrc ysh (nI V) (nI L) yde (nI P) (nI E) yoc yun yfa ywh ype (d + 1) (nI i) sr ln kd nm mt co wi cp (ma_w pa (rr_gf pa cz cp (co V) (192 * V) (192 * L)) (192 * L) i) (ma_w pn (rr_gf pn cz cp m (192 * V) (192 * L)) (192 * L) i) ru pl sv be mx bx bo ex ey fx fy tx ty yo := by
  intro d
  induction d with
  | zero =>
    intro i hi
    have e : i = 192 := by omega
    rw [e]
    exact pk_le 192 192 (fun _ => H) (fun h => absurd h (by omega))
  | succ d ih =>
    intro i hi
    have h := ih (i + 1) (by omega)
    have hi' : i < 192 := by omega
    refine pk_le 192 i (fun h => absurd h (by omega)) (fun _ => ?_)
    by_cases k15 : k = 15
    · refine br_t k15 (yp_dr hE hV hi' (yw_f39 hV hL hi' cz ?_ pa pn h))
      rw [hz]
      exact if_pos k15
    · by_cases k6 : k = 6
      · refine br_f k15 (br_t k6 ?_)
        unfold wY_fill_36
        refine yp_in hE hP hi' hq hq' (yw_f39 hV hL hi' cz ?_ pa pn h)
        rw [hz]
        unfold rr_hit
        rw [if_neg k15, if_pos k6]
      · refine br_f k15 (br_f k6 ?_)
        unfold wY_fill_36
        refine yp_in hE hP hi' hq hq' (yw_f39 hV hL hi' cz ?_ pa pn h)
        rw [hz]
        unfold rr_hit
        rw [if_neg k15, if_neg k6]
theorem yp_fi {post : SY → Prop} {k m : Int32} {V L E P : Nat} (hV : V ≤ 6) (hL : L ≤ 6) (hE : E ≤ 24) (hP : P ≤ 25) (hq : ma_q4 E fx fy tx ty) (hq' : ma_q4 P bx bo ex ey)
    (H : post (yrc, ysh, nI V, nI L, yde, nI P, nI E, yoc, yun, yfa, ywh, ype, sr, ln, kd, nm, mt, co, wi, cp, ma_w pa (rr_gf pa (rr_hit k E P fx fy tx ty bx bo ex ey (wi V)) cp (co V) (192 * V) (192 * L)) (192 * L) 192, ma_w pn (rr_gf pn (rr_hit k E P fx fy tx ty bx bo ex ey (wi V)) cp m (192 * V) (192 * L)) (192 * L) 192, ru, pl, sv, be, mx, bx, bo, ex, ey, fx, fy, tx, ty, yo)) :
    wpY_fill post (yrc, ysh, nI V, nI L, yde, nI P, nI E, yoc, yun, yfa, ywh, ype, sr, ln, kd, nm, mt, co, wi, cp, pa, pn, ru, pl, sv, be, mx, bx, bo, ex, ey, fx, fy, tx, ty, yo) k m := by
  have h := yw_fi hV hL hE hP hq hq' _ rfl H 192 0 rfl
  rw [ma_w0, ma_w0] at h
  exact ⟨_, h⟩
theorem yw_cu {post : SY → Prop} {k o : Int32} {V E P : Nat} (hV : V ≤ 6) (hE : E ≤ 24) (hP : P ≤ 25) (hq : ma_q4 E fx fy tx ty) (hq' : ma_q4 P bx bo ex ey) (ho : o = if k = 8 then 1 else 0)
    (H : post (yrc, ysh, nI V, yla, yde, nI P, nI E, yoc, yun, yfa, ywh, ype, sr, ln, kd, nm, mt, co, wi, ma_w cp (rr_gk cp (fun t => ma_ins o (ma_S E P fx fy tx ty bx bo ex ey t)) (192 * V)) (192 * V) 192, pa, pn, ru, pl, sv, be, mx, bx, bo, ex, ey, fx, fy, tx, ty, yo)) :
    ∀ d i, i + d = 192 → wY_cut_2 post k yrc ysh (nI V) yla yde (nI P) (nI E) yoc yun yfa ywh ype (d + 1) (nI i) sr ln kd nm mt co wi (ma_w cp (rr_gk cp (fun t => ma_ins o (ma_S E P fx fy tx ty bx bo ex ey t)) (192 * V)) (192 * V) i) pa pn ru pl sv be mx bx bo ex ey fx fy tx ty yo := by
  intro d
  induction d with
  | zero =>
    intro i hi
    have e : i = 192 := by omega
    rw [e]
    exact pk_le 192 192 (fun _ => H) (fun h => absurd h (by omega))
  | succ d ih =>
    intro i hi
    have h := ih (i + 1) (by omega)
    have hi' : i < 192 := by omega
    have eV : (192 : Int32) * nI V + nI i = nI (192 * V + i) := by
      rw [show (192 : Int32) * nI V = nI (192 * V) from mb_mr 192 V, nI_add]
    have hinV : vp_in ((192 : Int32) * nI V + nI i) 1344 := pk_in (192 * V + i) 1344 (by omega) eV
    have ecV : ((192 : Int32) * nI V + nI i).toNatClampNeg = 192 * V + i := pk_cl (192 * V + i) eV
    have er : ma_w cp (rr_gk cp (fun t => ma_ins o (ma_S E P fx fy tx ty bx bo ex ey t)) (192 * V)) (192 * V) i ((192 : Int32) * nI V + nI i).toNatClampNeg = cp (192 * V + i) := by
      rw [ecV]
      exact ma_wr (by omega)
    have key : wY_cut_22 post (wY_cut_2 post k yrc ysh (nI V) yla yde (nI P) (nI E) yoc yun yfa ywh ype (d + 1)) k (nI i) o (nI i) yrc ysh (nI V) yla yde (nI P) (nI E) yoc yun yfa ywh ype sr ln kd nm mt co wi (ma_w cp (rr_gk cp (fun t => ma_ins o (ma_S E P fx fy tx ty bx bo ex ey t)) (192 * V)) (192 * V) i) pa pn ru pl sv be mx bx bo ex ey fx fy tx ty yo := by
      unfold wY_cut_22
      refine yp_in hE hP hi' hq hq' ⟨hinV, ?_⟩
      by_cases z : cp (192 * V + i) = 0
      · have e1 : rr_gk cp (fun t => ma_ins o (ma_S E P fx fy tx ty bx bo ex ey t)) (192 * V) i = 0 := if_pos z
        exact br_t (by rw [er]; exact z) ⟨hinV, nm_r (by rw [ecV, ← ma_ws, e1, mb_vb0]) (nm_r (nI_1 i) h)⟩
      · refine br_f (by rw [er]; exact z) ?_
        by_cases y : ma_ins o (ma_S E P fx fy tx ty bx bo ex ey i) = 0
        · have e1 : rr_gk cp (fun t => ma_ins o (ma_S E P fx fy tx ty bx bo ex ey t)) (192 * V) i = 0 := by
            unfold rr_gk
            rw [if_neg z, if_pos y]
          exact br_t y ⟨hinV, nm_r (by rw [ecV, ← ma_ws, e1, mb_vb0]) (nm_r (nI_1 i) h)⟩
        · have e1 : rr_gk cp (fun t => ma_ins o (ma_S E P fx fy tx ty bx bo ex ey t)) (192 * V) i = 1 := by
            unfold rr_gk
            rw [if_neg z, if_neg y]
          exact br_f y ⟨hinV, nm_r (by rw [ecV, ← ma_ws, e1, mb_vb1]) (nm_r (nI_1 i) h)⟩
    refine pk_le 192 i (fun h => absurd h (by omega)) (fun _ => ?_)
    by_cases k8 : k = 8
    · rw [if_pos k8] at ho
      subst ho
      exact br_t k8 key
    · rw [if_neg k8] at ho
      subst ho
      exact br_f k8 key
theorem yp_cu {post : SY → Prop} {k : Int32} {V E P : Nat} (hV : V ≤ 6) (hE : E ≤ 24) (hP : P ≤ 25) (hq : ma_q4 E fx fy tx ty) (hq' : ma_q4 P bx bo ex ey)
    (H : post (yrc, ysh, nI V, yla, yde, nI P, nI E, yoc, yun, yfa, ywh, ype, sr, ln, kd, nm, mt, co, wi, ma_w cp (rr_gk cp (fun t => ma_ins (if k = 8 then 1 else 0) (ma_S E P fx fy tx ty bx bo ex ey t)) (192 * V)) (192 * V) 192, pa, pn, ru, pl, sv, be, mx, bx, bo, ex, ey, fx, fy, tx, ty, yo)) : wpY_cut post (yrc, ysh, nI V, yla, yde, nI P, nI E, yoc, yun, yfa, ywh, ype, sr, ln, kd, nm, mt, co, wi, cp, pa, pn, ru, pl, sv, be, mx, bx, bo, ex, ey, fx, fy, tx, ty, yo) k := by
  have h := yw_cu hV hE hP hq hq' rfl H 192 0 rfl
  rw [ma_w0] at h
  exact ⟨_, h⟩
/-! keep, mix, close -/
theorem yw_ke2 {post : SY → Prop} {V : Nat} (hV : V < 6) (hp : post (yrc, ysh, nI (V + 1), yla, yde, ypa, yed, yoc, yun, yfa, ywh, ype, sr, ln, kd, nm, mt, co, wi, ma_w cp (rr_gs cp (192 * V)) (192 * V + 192) 192, pa, pn, ru, pl, sv, be, mx, bx, bo, ex, ey, fx, fy, tx, ty, yo)) :
    ∀ d i, i + d = 192 → wY_keep_87 post yrc ysh (nI V) yla yde ypa yed yoc yun yfa ywh ype (d + 1) (nI i) sr ln kd nm mt co wi (ma_w cp (rr_gs cp (192 * V)) (192 * V + 192) i) pa pn ru pl sv be mx bx bo ex ey fx fy tx ty yo := by
  intro d
  induction d with
  | zero =>
    intro i hi
    have e : i = 192 := by omega
    rw [e]
    exact pk_le 192 192 (fun _ => nm_r (nI_1 V) hp) (fun h => absurd h (by omega))
  | succ d ih =>
    intro i hi
    have h := ih (i + 1) (by omega)
    have e0 : (192 : Int32) * nI V = nI (192 * V) := mb_mr 192 V
    have e1 : (192 : Int32) * nI V + nI i = nI (192 * V + i) := by
      rw [e0, nI_add]
    have h1 : vp_in ((192 : Int32) * nI V + nI i) 1344 := pk_in (192 * V + i) 1344 (by omega) e1
    have c1 : ((192 : Int32) * nI V + nI i).toNatClampNeg = 192 * V + i := pk_cl (192 * V + i) e1
    have e2 : (192 : Int32) * nI V + 192 + nI i = nI (192 * V + 192 + i) := by
      rw [e0, show nI (192 * V) + 192 = nI (192 * V + 192) from nI_add (192 * V) 192, nI_add]
    have h2 : vp_in ((192 : Int32) * nI V + 192 + nI i) 1344 := pk_in (192 * V + 192 + i) 1344 (by omega) e2
    have c2 : ((192 : Int32) * nI V + 192 + nI i).toNatClampNeg = 192 * V + 192 + i := pk_cl (192 * V + 192 + i) e2
    exact pk_le 192 i (fun h => absurd h (by omega)) (fun _ => ⟨h1, h2, nm_r (by rw [c2, c1, ma_wr (by omega)]; exact ma_ws cp (rr_gs cp (192 * V)) (192 * V + 192) i) (nm_r (nI_1 i) h)⟩)
theorem yw_ke1 {post : SY → Prop} {V : Nat} (hV : V < 6) (hp : ∃ n, wY_keep_87 post yrc ysh (nI V) yla yde ypa yed yoc yun yfa ywh ype n 0 sr ln kd nm (ma_w mt (fun n => mt (6 * V + n)) (6 * V + 6) 6) (upd co (V + 1) (co V)) (upd wi (V + 1) (wi V)) cp pa pn ru pl sv be mx bx bo ex ey fx fy tx ty yo) :
    ∀ d i, i + d = 6 → wY_keep_2 post yrc ysh (nI V) yla yde ypa yed yoc yun yfa ywh ype (d + 1) (nI i) sr ln kd nm (ma_w mt (fun n => mt (6 * V + n)) (6 * V + 6) i) co wi cp pa pn ru pl sv be mx bx bo ex ey fx fy tx ty yo := by
  intro d
  induction d with
  | zero =>
    intro i hi
    have e : i = 6 := by omega
    rw [e]
    have a1 : vp_in (nI V) 7 := pk_in V 7 (by omega)
    have a2 : vp_in (nI V + 1) 7 := pk_in (V + 1) 7 (by omega) (nI_1 V)
    have c1 : (nI V).toNatClampNeg = V := pk_cl V
    have c2 : (nI V + 1).toNatClampNeg = V + 1 := pk_cl (V + 1) (nI_1 V)
    exact pk_le 6 6 (fun _ => ⟨a1, a2, nm_r (by rw [c1, c2]) ⟨a1, a2, nm_r (by rw [c1, c2]) hp⟩⟩) (fun h => absurd h (by omega))
  | succ d ih =>
    intro i hi
    have h := ih (i + 1) (by omega)
    have e0 : (6 : Int32) * nI V = nI (6 * V) := mb_mr 6 V
    have e1 : (6 : Int32) * nI V + nI i = nI (6 * V + i) := by
      rw [e0, nI_add]
    have h1 : vp_in ((6 : Int32) * nI V + nI i) 42 := pk_in (6 * V + i) 42 (by omega) e1
    have c1 : ((6 : Int32) * nI V + nI i).toNatClampNeg = 6 * V + i := pk_cl (6 * V + i) e1
    have e2 : (6 : Int32) * nI V + 6 + nI i = nI (6 * V + 6 + i) := by
      rw [e0, show nI (6 * V) + 6 = nI (6 * V + 6) from nI_add (6 * V) 6, nI_add]
    have h2 : vp_in ((6 : Int32) * nI V + 6 + nI i) 42 := pk_in (6 * V + 6 + i) 42 (by omega) e2
    have c2 : ((6 : Int32) * nI V + 6 + nI i).toNatClampNeg = 6 * V + 6 + i := pk_cl (6 * V + 6 + i) e2
    exact pk_le 6 i (fun h => absurd h (by omega)) (fun _ => ⟨h1, h2, nm_r (by rw [c2, c1, ma_wr (by omega)]; exact ma_ws mt (fun n => mt (6 * V + n)) (6 * V + 6) i) (nm_r (nI_1 i) h)⟩)
theorem yp_ke {post : SY → Prop} {V : Nat} (hV : V < 6) (hp : post (yrc, ysh, nI (V + 1), yla, yde, ypa, yed, yoc, yun, yfa, ywh, ype, sr, ln, kd, nm, ma_w mt (fun n => mt (6 * V + n)) (6 * V + 6) 6, upd co (V + 1) (co V), upd wi (V + 1) (wi V), ma_w cp (rr_gs cp (192 * V)) (192 * V + 192) 192, pa, pn, ru, pl, sv, be, mx, bx, bo, ex, ey, fx, fy, tx, ty, yo)) : wpY_keep post (yrc, ysh, nI V, yla, yde, ypa, yed, yoc, yun, yfa, ywh, ype, sr, ln, kd, nm, mt, co, wi, cp, pa, pn, ru, pl, sv, be, mx, bx, bo, ex, ey, fx, fy, tx, ty, yo) := by
  have h := yw_ke2 hV hp 192 0 rfl
  rw [ma_w0] at h
  have h' := yw_ke1 hV ⟨_, h⟩ 6 0 rfl
  rw [ma_w0] at h'
  exact ⟨_, h'⟩
