variable {xds xrc xde xoc xun xfp xsc xtl xec xpb xpf xsx xsy xcx xcy yrc ysh yle yla yde ypa yed yoc yun yfa ywh ype : Int32} {dk dv sr rs rk rv ct ru pl be mx xo st cp pa pn fx fy tx ty fi cr cv ln kd nm mt co wi sv bx bo ex ey yo : Nat → Int32}
theorem br3_t {a b c A B : Prop} (ha : ¬ a) (hb : ¬ b) (hc : ¬ c) (h : B) : (a → A) ∧ (¬ a → (b → A) ∧ (¬ b → (c → A) ∧ (¬ c → B))) := br_f ha (br_f hb (br_f hc h))
theorem br3_f {a b c A B : Prop} (h : a ∨ b ∨ c) (H : A) : (a → A) ∧ (¬ a → (b → A) ∧ (¬ b → (c → A) ∧ (¬ c → B))) :=
  br_c (fun _ => H) (fun ha => br_c (fun _ => H) (fun hb => br_c (fun _ => H) (fun hc => h.elim (fun z => absurd z ha) (fun h => h.elim (fun z => absurd z hb) (fun z => absurd z hc)))))
theorem ma_or3 {a b c : Prop} (h : ¬ (a ∧ b ∧ c)) : ¬ a ∨ ¬ b ∨ ¬ c := by
  by_cases ha : a
  · by_cases hb : b
    · exact Or.inr (Or.inr (fun hc => h ⟨ha, hb, hc⟩))
    · exact Or.inr (Or.inl hb)
  · exact Or.inl ha
theorem ma_nlt {x y : Int32} (h : ¬ x < y) : y ≤ x := Int32.not_lt.mp h
theorem ma_lt {x y : Int32} (h : x < y) : ¬ y ≤ x := Int32.not_le.mpr h
theorem ma_or3' {a b c d e f : Int32} (h : ¬ (a < b ∧ c < d ∧ e < f)) : b ≤ a ∨ d ≤ c ∨ f ≤ e := (ma_or3 h).elim (fun z => Or.inl (ma_nlt z)) (fun h => h.elim (fun z => Or.inr (Or.inl (ma_nlt z))) (fun z => Or.inr (Or.inr (ma_nlt z))))
/-! the crossings of one edge -/
def rr_gc (cr : Nat → Int32) (x1 y1 x2 y2 : Int32) (t : Nat) : Int32 := cr t + Int32.ofInt (ma_cp x1 y1 x2 y2 t)
theorem ma_o1 : Int32.ofInt 1 = 1 := by decide
theorem ma_o0 : Int32.ofInt 0 = 0 := by decide
theorem ma_om : Int32.ofInt (-1) = -1 := by decide
theorem xw_ac {post : SX → Prop} {x1 y1 x2 y2 : Int32} (h1 : ma_bd 4000 x1) (h2 : ma_bd 4000 y1) (h3 : ma_bd 4000 x2) (h4 : ma_bd 4000 y2) (hp : post (xds, xrc, xde, xoc, xun, xfp, xsc, xtl, xec, xpb, xpf, xsx, xsy, xcx, xcy, dk, dv, sr, rs, rk, rv, ct, ru, pl, be, mx, xo, st, cp, pa, pn, fx, fy, tx, ty, fi, ma_w cr (rr_gc cr x1 y1 x2 y2) 0 192, cv)) :
    ∀ d i, i + d = 192 → wX_addCrossings_3 post x1 y1 x2 y2 xds xrc xde xoc xun xfp xsc xtl xec xpb xpf xsx xsy xcx xcy (d + 1) (nI i) dk dv sr rs rk rv ct ru pl be mx xo st cp pa pn fx fy tx ty fi (ma_w cr (rr_gc cr x1 y1 x2 y2) 0 i) cv := by
  intro d
  induction d with
  | zero =>
    intro i hi
    have e : i = 192 := by omega
    rw [e]
    exact pk_le 192 192 (fun _ => hp) (fun h => absurd h (by omega))
  | succ d ih =>
    intro i hi
    have h := ih (i + 1) (by omega)
    have hin : vp_in (nI i) 192 := pk_in i 192 (by omega)
    have ec : (nI i).toNatClampNeg = i := pk_cl i
    have er : ma_w cr (rr_gc cr x1 y1 x2 y2) 0 i i = cr i := ma_wr (by omega)
    refine pk_le 192 i (fun h => absurd h (by omega)) (fun _ => ⟨by decide, nm_r (ma_xpx (by omega)) ⟨by decide, nm_r (ma_xpy (by omega)) (nm_e ?_)⟩⟩)
    rcases ma_xcase h1 h2 h3 h4 (show i < 192 by omega) _ rfl with ⟨⟨a, b, c⟩, n, e⟩ | ⟨n, ⟨a, b, c⟩, e⟩ | ⟨n, n', e⟩
    · exact br3_t (ma_lt a) (ma_lt b) (ma_lt c) ⟨hin, hin, nm_r (by rw [ec, er, show cr i + 1 = rr_gc cr x1 y1 x2 y2 i by unfold rr_gc; rw [e, ma_o1]]; exact ma_ws0 cr _ i) (br3_f (ma_or3' n) (nm_r (nI_1 i) h))⟩
    · refine br3_f (ma_or3' n) (br3_t (ma_lt a) (ma_lt b) (ma_lt c) ⟨hin, hin, nm_r ?_ (nm_r (nI_1 i) h)⟩)
      rw [ec, er, show cr i - 1 = rr_gc cr x1 y1 x2 y2 i by unfold rr_gc; rw [e, ma_om, Int32.sub_eq_add_neg]]
      exact ma_ws0 cr _ i
    · have ek : ma_w cr (rr_gc cr x1 y1 x2 y2) 0 i = ma_w cr (rr_gc cr x1 y1 x2 y2) 0 (i + 1) := ma_wk (by rw [Nat.zero_add]; unfold rr_gc; rw [e, ma_o0, Int32.add_zero])
      rw [← ek] at h
      exact br3_f (ma_or3' n) (br3_f (ma_or3' n') (nm_r (nI_1 i) h))
theorem xp_ac {post : SX → Prop} {x1 y1 x2 y2 : Int32} (h1 : ma_bd 4000 x1) (h2 : ma_bd 4000 y1) (h3 : ma_bd 4000 x2) (h4 : ma_bd 4000 y2) (hp : post (xds, xrc, xde, xoc, xun, xfp, xsc, xtl, xec, xpb, xpf, xsx, xsy, xcx, xcy, dk, dv, sr, rs, rk, rv, ct, ru, pl, be, mx, xo, st, cp, pa, pn, fx, fy, tx, ty, fi, ma_w cr (rr_gc cr x1 y1 x2 y2) 0 192, cv)) : wpX_addCrossings post (xds, xrc, xde, xoc, xun, xfp, xsc, xtl, xec, xpb, xpf, xsx, xsy, xcx, xcy, dk, dv, sr, rs, rk, rv, ct, ru, pl, be, mx, xo, st, cp, pa, pn, fx, fy, tx, ty, fi, cr, cv) x1 y1 x2 y2 := by
  have h := xw_ac h1 h2 h3 h4 hp 192 0 rfl
  rw [ma_w0] at h
  exact ⟨193, h⟩
theorem ma_ww {f g : Nat → Int32} {x1 y1 x2 y2 : Int32} : ma_w (ma_w f g 0 192) (rr_gc (ma_w f g 0 192) x1 y1 x2 y2) 0 192 = ma_w f (fun t => g t + Int32.ofInt (ma_cp x1 y1 x2 y2 t)) 0 192 := by
  funext j
  by_cases h : j < 192
  · rw [ma_wg0 h, ma_wg0 h]
    unfold rr_gc
    rw [ma_wg0 h]
  · rw [ma_wr (by omega), ma_wr (by omega), ma_wr (by omega)]
/-- what the component has counted after k edges -/
def rr_ck (E : Nat) (fx fy tx ty fi : Nat → Int32) (k t : Nat) : Int32 := Int32.ofInt (ma_sum (ma_T E fx fy tx ty fi t) k)
theorem rr_cks (E : Nat) (fx fy tx ty fi : Nat → Int32) (k t : Nat) : rr_ck E fx fy tx ty fi (k + 1) t = rr_ck E fx fy tx ty fi k t + Int32.ofInt (ma_cp (fx k) (fy k) (tx k) (ty k) t) + Int32.ofInt (ma_cl (fun a b c d => ma_cp a b c d t) fx fy tx ty fi E k) := by
  unfold rr_ck
  show Int32.ofInt (ma_sum (ma_T E fx fy tx ty fi t) k + (ma_cp (fx k) (fy k) (tx k) (ty k) t + ma_cl (fun a b c d => ma_cp a b c d t) fx fy tx ty fi E k)) = _
  rw [Int32.ofInt_add, Int32.ofInt_add, Int32.add_assoc]
theorem xw_ci3 {post : SX → Prop} {o : Int32} {E : Nat} (hS : ∀ t, t < 192 → -100 ≤ ma_sum (ma_T E fx fy tx ty fi t) E ∧ ma_sum (ma_T E fx fy tx ty fi t) E ≤ 100) (hc : ∀ t, t < 192 → cr t = rr_ck E fx fy tx ty fi E t) (hp : post (xds, xrc, xde, xoc, xun, xfp, xsc, xtl, xec, xpb, xpf, xsx, xsy, xcx, xcy, dk, dv, sr, rs, rk, rv, ct, ru, pl, be, mx, xo, st, cp, pa, pn, fx, fy, tx, ty, fi, cr, ma_w cv (fun t => ma_ins o (ma_sum (ma_T E fx fy tx ty fi t) E)) 0 192)) :
    ∀ d i, i + d = 192 → wX_coverInside_125 post o xds xrc xde xoc xun xfp xsc xtl xec xpb xpf xsx xsy xcx xcy (d + 1) (nI i) dk dv sr rs rk rv ct ru pl be mx xo st cp pa pn fx fy tx ty fi cr (ma_w cv (fun t => ma_ins o (ma_sum (ma_T E fx fy tx ty fi t) E)) 0 i) := by
  intro d
  induction d with
  | zero =>
    intro i hi
    have e : i = 192 := by omega
    rw [e]
    exact pk_le 192 192 (fun _ => hp) (fun h => absurd h (by omega))
  | succ d ih =>
    intro i hi
    have h := ih (i + 1) (by omega)
    have hin : vp_in (nI i) 192 := pk_in i 192 (by omega)
    have ec : (nI i).toNatClampNeg = i := pk_cl i
    have hb := hS i (by omega)
    have hci : cr (nI i).toNatClampNeg = Int32.ofInt (ma_sum (ma_T E fx fy tx ty fi i) E) := by
      rw [ec]
      exact hc i (by omega)
    have hw := ma_ws0 cv (fun t => ma_ins o (ma_sum (ma_T E fx fy tx ty fi t) E)) i
    refine pk_le 192 i (fun h => absurd h (by omega)) (fun _ => ?_)
    by_cases ho : o = 0
    · by_cases hz : ma_sum (ma_T E fx fy tx ty fi i) E = 0
      · exact br_t ho ⟨hin, br_t (by rw [hci]; exact (ma_of0 hb.1 hb.2).mpr hz) ⟨hin, nm_r (by rw [ec, ← hw, mb_vb0]; unfold ma_ins; rw [if_pos ho, if_pos hz]) (nm_r (nI_1 i) h)⟩⟩
      · exact br_t ho ⟨hin, br_f (by rw [hci]; exact fun z => hz ((ma_of0 hb.1 hb.2).mp z)) ⟨hin, nm_r (by rw [ec, ← hw, mb_vb1]; unfold ma_ins; rw [if_pos ho, if_neg hz]) (nm_r (nI_1 i) h)⟩⟩
    · by_cases hz : ma_sum (ma_T E fx fy tx ty fi i) E % 2 = 0
      · exact br_f ho ⟨hin, br_t (by rw [hci]; exact (ma_of1 _).mpr hz) ⟨hin, nm_r (by rw [ec, ← hw, mb_vb0]; unfold ma_ins; rw [if_neg ho, if_pos hz]) (nm_r (nI_1 i) h)⟩⟩
      · exact br_f ho ⟨hin, br_f (by rw [hci]; exact fun z => hz ((ma_of1 _).mp z)) ⟨hin, nm_r (by rw [ec, ← hw, mb_vb1]; unfold ma_ins; rw [if_neg ho, if_neg hz]) (nm_r (nI_1 i) h)⟩⟩
theorem xw_ci2 {post : SX → Prop} {o : Int32} {E : Nat} (hE : E ≤ 24) (hq : ma_q4 E fx fy tx ty) (hf : ma_fb E fi) (hS : ∀ t, t < 192 → -100 ≤ ma_sum (ma_T E fx fy tx ty fi t) E ∧ ma_sum (ma_T E fx fy tx ty fi t) E ≤ 100) (hp : post (xds, xrc, xde, xoc, xun, xfp, xsc, xtl, nI E, xpb, xpf, xsx, xsy, xcx, xcy, dk, dv, sr, rs, rk, rv, ct, ru, pl, be, mx, xo, st, cp, pa, pn, fx, fy, tx, ty, fi, ma_w cr (rr_ck E fx fy tx ty fi E) 0 192, ma_w cv (fun t => ma_ins o (ma_sum (ma_T E fx fy tx ty fi t) E)) 0 192)) :
    ∀ d k, k + d = E → wX_coverInside_24 post o (d + 1) (nI k) xds xrc xde xoc xun xfp xsc xtl (nI E) xpb xpf xsx xsy xcx xcy dk dv sr rs rk rv ct ru pl be mx xo st cp pa pn fx fy tx ty fi (ma_w cr (rr_ck E fx fy tx ty fi k) 0 192) cv := by
  intro d
  induction d with
  | zero =>
    intro k hk
    have e : k = E := by omega
    rw [e]
    have h := xw_ci3 (cr := ma_w cr (rr_ck E fx fy tx ty fi E) 0 192) (cv := cv) hS (fun t ht => ma_wg0 ht) hp 192 0 rfl
    rw [ma_w0] at h
    exact pk_le E E (fun _ => ⟨193, h⟩) (fun h => absurd h (by omega))
  | succ d ih =>
    intro k hk
    have h := ih (k + 1) (by omega)
    have hin : vp_in (nI k) 24 := pk_in k 24 (by omega)
    have ec : (nI k).toNatClampNeg = k := pk_cl k
    have ec1 : (nI k + 1).toNatClampNeg = k + 1 := pk_cl (k + 1) (nI_1 k)
    obtain ⟨q1, q2, q3, q4⟩ := hq k (by omega)
    obtain ⟨m, hm, em⟩ := hf k (by omega)
    obtain ⟨p1, p2, p3, p4⟩ := hq m (by omega)
    have ecm : (fi k).toNatClampNeg = m := pk_cl m em
    have him : vp_in (fi k) 24 := pk_in m 24 (by omega) em
    have hclose : (k + 1 = E ∨ fi (k + 1) ≠ fi k) → wX_coverInside_89 post (wX_coverInside_24 post o (d + 1)) o (nI k) (fi k) xds xrc xde xoc xun xfp xsc xtl (nI E) xpb xpf xsx xsy xcx xcy dk dv sr rs rk rv ct ru pl be mx xo st cp pa pn fx fy tx ty fi (ma_w cr (fun t => rr_ck E fx fy tx ty fi k t + Int32.ofInt (ma_cp (fx k) (fy k) (tx k) (ty k) t)) 0 192) cv := by
      intro hl
      refine ⟨hin, hin, him, him, ?_⟩
      rw [ec, ecm]
      refine xp_ac q3 q4 p1 p2 ?_
      rw [ma_ww]
      refine nm_r (nI_1 k) ?_
      have e : ma_w cr (rr_ck E fx fy tx ty fi (k + 1)) 0 192 = ma_w cr (fun t => rr_ck E fx fy tx ty fi k t + Int32.ofInt (ma_cp (fx k) (fy k) (tx k) (ty k) t) + Int32.ofInt (ma_cp (tx k) (ty k) (fx m) (fy m) t)) 0 192 := ma_wc (fun t _ => by
        rw [rr_cks]
        unfold ma_cl
        rw [if_pos hl, ecm])
      rw [e] at h
      exact h
    refine pk_le E k (fun h => absurd h (by omega)) (fun _ => ⟨hin, hin, hin, hin, ?_⟩)
    rw [ec]
    refine xp_ac q1 q2 q3 q4 ?_
    rw [ma_ww]
    refine ⟨hin, nm_e ?_⟩
    refine pk_eq (k + 1) E (fun z => hclose (Or.inl z)) (fun z => ⟨pk_in (k + 1) 24 (by omega) (nI_1 k), ?_⟩) (nI_1 k)
    rw [ec1]
    by_cases hl : fi (k + 1) = fi k
    · refine br_t hl (nm_r (nI_1 k) ?_)
      have e : ma_w cr (rr_ck E fx fy tx ty fi (k + 1)) 0 192 = ma_w cr (fun t => rr_ck E fx fy tx ty fi k t + Int32.ofInt (ma_cp (fx k) (fy k) (tx k) (ty k) t)) 0 192 := ma_wc (fun t _ => by
        rw [rr_cks]
        unfold ma_cl
        rw [if_neg (fun y => y.elim z (fun y => y hl)), ma_o0, Int32.add_zero])
      rw [e] at h
      exact h
    · exact br_f hl (hclose (Or.inr hl))
theorem xw_ci1 {post : SX → Prop} {o : Int32} (hp : ∃ n, wX_coverInside_24 post o n 0 xds xrc xde xoc xun xfp xsc xtl xec xpb xpf xsx xsy xcx xcy dk dv sr rs rk rv ct ru pl be mx xo st cp pa pn fx fy tx ty fi (ma_w cr (fun _ => 0) 0 192) cv) :
    ∀ d i, i + d = 192 → wX_coverInside_2 post o xds xrc xde xoc xun xfp xsc xtl xec xpb xpf xsx xsy xcx xcy (d + 1) (nI i) dk dv sr rs rk rv ct ru pl be mx xo st cp pa pn fx fy tx ty fi (ma_w cr (fun _ => 0) 0 i) cv := by
  intro d
  induction d with
  | zero =>
    intro i hi
    have e : i = 192 := by omega
    rw [e]
    exact pk_le 192 192 (fun _ => hp) (fun h => absurd h (by omega))
  | succ d ih =>
    intro i hi
    have hin : vp_in (nI i) 192 := pk_in i 192 (by omega)
    have ec : (nI i).toNatClampNeg = i := pk_cl i
    exact pk_le 192 i (fun h => absurd h (by omega)) (fun _ => ⟨hin, nm_r (by rw [ec]; exact ma_ws0 cr (fun _ => 0) i) (nm_r (nI_1 i) (ih (i + 1) (by omega)))⟩)
theorem xp_ci {post : SX → Prop} {o : Int32} {E : Nat} (hE : E ≤ 24) (hq : ma_q4 E fx fy tx ty) (hf : ma_fb E fi) (hS : ∀ t, t < 192 → -100 ≤ ma_sum (ma_T E fx fy tx ty fi t) E ∧ ma_sum (ma_T E fx fy tx ty fi t) E ≤ 100) (hp : post (xds, xrc, xde, xoc, xun, xfp, xsc, xtl, nI E, xpb, xpf, xsx, xsy, xcx, xcy, dk, dv, sr, rs, rk, rv, ct, ru, pl, be, mx, xo, st, cp, pa, pn, fx, fy, tx, ty, fi, ma_w cr (rr_ck E fx fy tx ty fi E) 0 192, ma_w cv (fun t => ma_ins o (ma_sum (ma_T E fx fy tx ty fi t) E)) 0 192)) :
    wpX_coverInside post (xds, xrc, xde, xoc, xun, xfp, xsc, xtl, nI E, xpb, xpf, xsx, xsy, xcx, xcy, dk, dv, sr, rs, rk, rv, ct, ru, pl, be, mx, xo, st, cp, pa, pn, fx, fy, tx, ty, fi, cr, cv) o := by
  have h := xw_ci2 (cr := cr) (cv := cv) hE hq hf hS hp E 0 (by omega)
  have e : ma_w cr (rr_ck E fx fy tx ty fi 0) 0 192 = ma_w cr (fun _ => 0) 0 192 := ma_wc (fun t _ => ma_o0)
  rw [e] at h
  have h' := xw_ci1 ⟨_, h⟩ 192 0 rfl
  rw [ma_w0] at h'
  exact ⟨193, h'⟩
