variable {xds xrc xde xoc xun xfp xsc xtl xec xpb xpf xsx xsy xcx xcy yrc ysh yle yla yde ypa yed yoc yun yfa ywh ype : Int32} {dk dv sr rs rk rv ct ru pl be mx xo st cp pa pn fx fy tx ty fi cr cv ln kd nm mt co wi sv bx bo ex ey yo : Nat → Int32}
/-! a token -/
theorem rr_opS {q : Nat} {xo yo : Nat → Int32} (h : rr_op q xo yo) (hq : q < 6) (w : Int32) : rr_op (q + 1) (upd xo q w) (upd yo q w) := by
  refine ⟨by omega, fun i hi => ?_⟩
  by_cases e : i = q
  · rw [e, pk_us, pk_us]
  · rw [pk_un e, pk_un e]
    exact h.2 i (by omega)
theorem tk {K q c d T L V U E P F : Nat} {A B G : Nat → Nat} (k w m : Int32) (h : rr_H K q c d T L V U E P F A B G xpb xpf xsx xsy xcx xcy ype dk dv sr rs rk rv ct ru pl be mx xo st cp pa pn fx fy tx ty fi cr cv ln kd nm mt co wi sv bx bo ex ey yo) :
    ∃ (r r1 xoc1 xun1 : Int32) (xo1 : Nat → Int32) (u' : SX) (v' : SY), ((r = 0 ∧ ∃ N' q', N' ≤ rr_ph U T A ∧ rr_R K N' q' q' u' v') ∨ (r ≠ 0 ∧ rr_F r u' v')) ∧
      (∀ post : Int32 → SX → Prop, post r1 (nI d, nI c, nI (T + 1), xoc1, xun1, -1, nI V, nI L, nI E, xpb, xpf, xsx, xsy, xcx, xcy, dk, dv, sr, rs, rk, rv, ct, ru, pl, be, mx, xo1, st, cp, pa, pn, fx, fy, tx, ty, fi, cr, cv) → wpX_takeToken post (nI d, nI c, nI (T + 1), nI q, nI U, -1, nI V, nI L, nI E, xpb, xpf, xsx, xsy, xcx, xcy, dk, dv, sr, rs, rk, rv, ct, ru, pl, be, mx, xo, st, cp, pa, pn, fx, fy, tx, ty, fi, cr, cv) k w) ∧
      ((r1 = 0 ∧ ∀ post : Int32 → SX → Prop, post r u' → wpX_operate post (nI d, nI c, nI (T + 1), xoc1, xun1, -1, nI V, nI L, nI E, xpb, xpf, xsx, xsy, xcx, xcy, dk, dv, sr, rs, rk, rv, ct, ru, pl, be, mx, xo1, st, cp, pa, pn, fx, fy, tx, ty, fi, cr, cv) k m) ∨ (r1 ≠ 0 ∧ r = r1 ∧ u' = (nI d, nI c, nI (T + 1), xoc1, xun1, -1, nI V, nI L, nI E, xpb, xpf, xsx, xsy, xcx, xcy, dk, dv, sr, rs, rk, rv, ct, ru, pl, be, mx, xo1, st, cp, pa, pn, fx, fy, tx, ty, fi, cr, cv))) ∧
      (k = 0 → ∀ post : SY → Prop, post v' → wpY_number post (nI c, nI K, nI V, nI L, nI (T + 1), nI P, nI E, nI q, nI U, 0, -1, ype, sr, ln, kd, nm, mt, co, wi, cp, pa, pn, ru, pl, sv, be, mx, bx, bo, ex, ey, fx, fy, tx, ty, yo) w) ∧
      (¬ k = 0 → ∀ post : SY → Prop, post v' → wpY_operator post (nI c, nI K, nI V, nI L, nI (T + 1), nI P, nI E, nI q, nI U, 0, -1, ype, sr, ln, kd, nm, mt, co, wi, cp, pa, pn, ru, pl, sv, be, mx, bx, bo, ex, ey, fx, fy, tx, ty, yo) k m) := by
  obtain ⟨hd, hs, hp, ho, hc, hK, hf, hl, hm, hb⟩ := h
  have hq6 := ho.1
  have hU200 := hf.2.2.2.2.2.2
  by_cases k0 : k = 0
  · subst k0
    by_cases h6 : q < 6
    · have cq : (nI q).toNatClampNeg = q := pk_cl q
      have iq : vp_in (nI q) 6 := pk_in q 6 h6
      refine ⟨0, 0, nI (q + 1), nI U, upd xo q w, (nI d, nI c, nI (T + 1), nI (q + 1), nI U, -1, nI V, nI L, nI E, xpb, xpf, xsx, xsy, xcx, xcy, dk, dv, sr, rs, rk, rv, ct, ru, pl, be, mx, upd xo q w, st, cp, pa, pn, fx, fy, tx, ty, fi, cr, cv), (nI c, nI K, nI V, nI L, nI (T + 1), nI P, nI E, nI (q + 1), nI U, 0, -1, ype, sr, ln, kd, nm, mt, co, wi, cp, pa, pn, ru, pl, sv, be, mx, bx, bo, ex, ey, fx, fy, tx, ty, upd yo q w), Or.inl ⟨rfl, _, q + 1, Nat.le_refl _, ⟨_, _, _, _, _, _, _, _, _, _, _, _, _, _, _, _, _, _, _, _, _, _, _, _, _, _, _, _, _, _, _, _, _, _, _, _, _, _, _, _, _, _, _, _, _, _, _, _, _, _, _, _, _, _, rfl, rfl, rfl, hd, hs, hp, rr_opS ho h6 w, hc, hK, hf, hl, hm, hb⟩⟩, ?_, Or.inl ⟨rfl, fun post H => br_t (by decide) H⟩, fun _ post H => pk_eq q 6 (fun z => absurd z (by omega)) (fun _ => ⟨iq, nm_r (by rw [cq]) (nm_r (nI_1 q) H)⟩), fun z => absurd rfl z⟩
      intro post H
      exact br_t rfl (pk_lt q 6 (fun _ => ⟨iq, nm_r (by rw [cq]) (nm_r (nI_1 q) H)⟩) (fun z => absurd z (by omega)))
    · have e6 : q = 6 := by omega
      refine ⟨1, 1, nI q, nI U, xo, (nI d, nI c, nI (T + 1), nI q, nI U, -1, nI V, nI L, nI E, xpb, xpf, xsx, xsy, xcx, xcy, dk, dv, sr, rs, rk, rv, ct, ru, pl, be, mx, xo, st, cp, pa, pn, fx, fy, tx, ty, fi, cr, cv), (nI c, nI K, nI V, nI L, nI (T + 1), nI P, nI E, nI q, nI U, 1, -1, ype, sr, ln, kd, nm, mt, co, wi, cp, pa, pn, ru, pl, sv, be, mx, bx, bo, ex, ey, fx, fy, tx, ty, yo), Or.inr ⟨by decide, ⟨_, _, _, _, _, _, _, _, _, _, _, _, _, _, _, _, _, _, _, _, _, _, _, _, _, _, _, _, _, _, _, _, _, _, _, _, _, _, _, _, _, _, _, _, _, _, _, _, _, _, _, _, _, _, _, _, _, rfl, rfl, hd, hs, hp⟩⟩, ?_, Or.inr ⟨by decide, rfl, rfl⟩, fun _ post H => pk_eq q 6 (fun _ => H) (fun z => absurd e6 z), fun z => absurd rfl z⟩
      intro post H
      exact br_t rfl (pk_lt q 6 (fun z => absurd z h6) (fun _ => H))
  · by_cases hn : q = rr_need k
    · subst hn
      by_cases hU : U < 200
      · obtain ⟨fu1, fu2⟩ := rr_fru hf hU
        obtain ⟨r, u', v', hZ, hX, hY⟩ := op_all hU m k ⟨hd, hs, hp, ho, hc, hK, fu1, hl, hm, hb⟩
        refine ⟨r, 0, 0, nI (U + 1), xo, u', v', ?_, ?_, Or.inl ⟨rfl, hX⟩, fun z => absurd z k0, fun _ => hY⟩
        · rcases hZ with ⟨h0, N', hN', hR⟩ | hF
          · exact Or.inl ⟨h0, N', 0, by omega, hR⟩
          · exact Or.inr hF
        · intro post H
          exact br_f k0 (xp_nd (br_t rfl (pk_lt U 200 (fun _ => nm_r (nI_1 U) H) (fun z => absurd z (by omega)))))
      · have eU : U = 200 := by omega
        refine ⟨2, 2, 0, nI U, xo, (nI d, nI c, nI (T + 1), 0, nI U, -1, nI V, nI L, nI E, xpb, xpf, xsx, xsy, xcx, xcy, dk, dv, sr, rs, rk, rv, ct, ru, pl, be, mx, xo, st, cp, pa, pn, fx, fy, tx, ty, fi, cr, cv), (nI c, nI K, nI V, nI L, nI (T + 1), nI P, nI E, 0, nI U, 2, -1, ype, sr, ln, kd, nm, mt, co, wi, cp, pa, pn, ru, pl, sv, be, mx, bx, bo, ex, ey, fx, fy, tx, ty, yo), Or.inr ⟨by decide, ⟨_, _, _, _, _, _, _, _, _, _, _, _, _, _, _, _, _, _, _, _, _, _, _, _, _, _, _, _, _, _, _, _, _, _, _, _, _, _, _, _, _, _, _, _, _, _, _, _, _, _, _, _, _, _, _, _, _, rfl, rfl, hd, hs, hp⟩⟩, ?_, Or.inr ⟨by decide, rfl, rfl⟩, fun z => absurd z k0, ?_⟩
        · intro post H
          exact br_f k0 (xp_nd (br_t rfl (pk_lt U 200 (fun z => absurd z hU) (fun _ => H))))
        · intro _ post H
          unfold wpY_operator
          exact yp_wt (br_t rfl (pk_eq U 200 (fun _ => H) (fun z => absurd eU z)))
    · have hb6 := rr_needb k
      refine ⟨1, 1, nI q, nI U, xo, (nI d, nI c, nI (T + 1), nI q, nI U, -1, nI V, nI L, nI E, xpb, xpf, xsx, xsy, xcx, xcy, dk, dv, sr, rs, rk, rv, ct, ru, pl, be, mx, xo, st, cp, pa, pn, fx, fy, tx, ty, fi, cr, cv), (nI c, nI K, nI V, nI L, nI (T + 1), nI P, nI E, nI q, nI U, 1, -1, ype, sr, ln, kd, nm, mt, co, wi, cp, pa, pn, ru, pl, sv, be, mx, bx, bo, ex, ey, fx, fy, tx, ty, yo), Or.inr ⟨by decide, ⟨_, _, _, _, _, _, _, _, _, _, _, _, _, _, _, _, _, _, _, _, _, _, _, _, _, _, _, _, _, _, _, _, _, _, _, _, _, _, _, _, _, _, _, _, _, _, _, _, _, _, _, _, _, _, _, _, _, rfl, rfl, hd, hs, hp⟩⟩, ?_, Or.inr ⟨by decide, rfl, rfl⟩, fun z => absurd z k0, ?_⟩
      · intro post H
        exact br_f k0 (xp_nd (pk_eq q (rr_need k) (fun z => absurd z hn) (fun _ => H)))
      · intro _ post H
        unfold wpY_operator
        exact yp_wt (pk_eq q (rr_need k) (fun z => absurd z hn) (fun _ => H))
/-! the two loops' bodies -/
def rr_WX (post : Int32 → SX → Prop) (n : Nat) (f s : Int32) (u : SX) : Prop := match u with
  | (xds, xrc, xde, xoc, xun, xfp, xsc, xtl, xec, xpb, xpf, xsx, xsy, xcx, xcy, dk, dv, sr, rs, rk, rv, ct, ru, pl, be, mx, xo, st, cp, pa, pn, fx, fy, tx, ty, fi, cr, cv) => wX_renderFirst_9 post n f s xds xrc xde xoc xun xfp xsc xtl xec xpb xpf xsx xsy xcx xcy dk dv sr rs rk rv ct ru pl be mx xo st cp pa pn fx fy tx ty fi cr cv
def rr_WY (post : Int32 → SY → Prop) (n : Nat) (s : Int32) (v : SY) : Prop := match v with
  | (yrc, ysh, yle, yla, yde, ypa, yed, yoc, yun, yfa, ywh, ype, sr, ln, kd, nm, mt, co, wi, cp, pa, pn, ru, pl, sv, be, mx, bx, bo, ex, ey, fx, fy, tx, ty, yo) => wY_renderAt_141 post n s yrc ysh yle yla yde ypa yed yoc yun yfa ywh ype sr ln kd nm mt co wi cp pa pn ru pl sv be mx bx bo ex ey fx fy tx ty yo
def rr_154 (post : Int32 → SX → Prop) (n : Nat) (r s m : Int32) (u : SX) : Prop := match u with
  | (xds, xrc, xde, xoc, xun, xfp, xsc, xtl, xec, xpb, xpf, xsx, xsy, xcx, xcy, dk, dv, sr, rs, rk, rv, ct, ru, pl, be, mx, xo, st, cp, pa, pn, fx, fy, tx, ty, fi, cr, cv) => wX_renderFirst_154 post (wX_renderFirst_9 post n) r s m xds xrc xde xoc xun xfp xsc xtl xec xpb xpf xsx xsy xcx xcy dk dv sr rs rk rv ct ru pl be mx xo st cp pa pn fx fy tx ty fi cr cv
def rr_122 (post : SY → Prop) (m : Int32) (v : SY) : Prop := match v with
  | (yrc, ysh, yle, yla, yde, ypa, yed, yoc, yun, yfa, ywh, ype, sr, ln, kd, nm, mt, co, wi, cp, pa, pn, ru, pl, sv, be, mx, bx, bo, ex, ey, fx, fy, tx, ty, yo) => wY_advance_122 post m yrc ysh yle yla yde ypa yed yoc yun yfa ywh ype sr ln kd nm mt co wi cp pa pn ru pl sv be mx bx bo ex ey fx fy tx ty yo
theorem xs_leave {post : Int32 → SX → Prop} {n s T s0 a : Nat} (u' : SX) (hs : s < 8241) (hT : T + 1 ≤ 7) (h0 : s0 < 6) (ruT : ru T = nI s0) (plT : pl T = nI a) (ha : a ≤ 40) (hl : ct s0 = -1 ∨ ∃ r, r < 8 ∧ ct s0 = nI r ∧ rs r = nI a)
    (hc : ∀ p : SX → Prop, p u' → wpX_leaveStream p (xds, xrc, nI (T + 1), xoc, xun, xfp, xsc, xtl, xec, xpb, xpf, xsx, xsy, xcx, xcy, dk, dv, sr, rs, rk, rv, ct, ru, pl, be, mx, xo, st, cp, pa, pn, fx, fy, tx, ty, fi, cr, cv)) (H : rr_WX post n 0 (nI (s + 1)) u') : rr_WX post (n + 1) 0 (nI s) (xds, xrc, nI (T + 1), xoc, xun, xfp, xsc, xtl, xec, xpb, xpf, xsx, xsy, xcx, xcy, dk, dv, sr, rs, rk, rv, ct, ru, pl, be, mx, xo, st, cp, pa, pn, fx, fy, tx, ty, fi, cr, cv) := by
  obtain ⟨xds', xrc', xde', xoc', xun', xfp', xsc', xtl', xec', xpb', xpf', xsx', xsy', xcx', xcy', dk', dv', sr', rs', rk', rv', ct', ru', pl', be', mx', xo', st', cp', pa', pn', fx', fy', tx', ty', fi', cr', cv'⟩ := u'
  have eT : nI (T + 1) - 1 = nI T := nI_pred T
  have cT : (nI T).toNatClampNeg = T := pk_cl T
  have c0 : (nI s0).toNatClampNeg = s0 := pk_cl s0
  have i7 : vp_in (nI T) 7 := pk_in T 7 (by omega)
  have x79 : wX_renderFirst_79 post (wX_renderFirst_9 post n) 0 (nI s) xds xrc (nI (T + 1)) xoc xun xfp xsc xtl xec xpb xpf xsx xsy xcx xcy dk dv sr rs rk rv ct ru pl be mx xo st cp pa pn fx fy tx ty fi cr cv := by
    unfold wX_renderFirst_79
    exact hc _ (nm_r (nI_1 s) H)
  refine pk_le 8241 s (fun z => absurd z (by omega)) (fun _ => pk_le (T + 1) 0 (fun z => absurd z (by omega)) (fun _ => br_t rfl (nm_r eT ⟨i7, nm_r (e' := nI s0) (by rw [cT]; exact ruT) ⟨i7, nm_r (e' := nI a) (by rw [cT]; exact plT) ⟨pk_in s0 6 h0, nm_r (e' := ct s0) (by rw [c0]) ?_⟩⟩⟩)))
  rcases hl with e | ⟨r, hr, e, e'⟩
  · rw [e]
    exact br_t (by decide) x79
  · have cr : (nI r).toNatClampNeg = r := pk_cl r
    rw [e]
    refine br_f (nI_pos (by omega)) ⟨pk_in r 8 hr, ?_⟩
    rw [cr, e']
    exact pk_lt a a (fun z => absurd z (by omega)) (fun _ => x79)
theorem xs_tok {post : Int32 → SX → Prop} {n s T s0 a r l : Nat} {r1 r2 m xoc1 xun1 : Int32} {xo1 : Nat → Int32} (u' : SX) (hs : s < 8241) (hT : T + 1 ≤ 7) (h0 : s0 < 6) (ruT : ru T = nI s0) (plT : pl T = nI a) (hr : r < 8) (hl : l ≤ 40) (ha : a < l) (e : ct s0 = nI r) (e' : rs r = nI l) (em : m = 64 * nI s0 + nI a)
    (hTk : ∀ p : Int32 → SX → Prop, p r1 (xds, xrc, nI (T + 1), xoc1, xun1, xfp, xsc, xtl, xec, xpb, xpf, xsx, xsy, xcx, xcy, dk, dv, sr, rs, rk, rv, ct, ru, upd pl T (nI (a + 1)), be, mx, xo1, st, cp, pa, pn, fx, fy, tx, ty, fi, cr, cv) → wpX_takeToken p (xds, xrc, nI (T + 1), xoc, xun, xfp, xsc, xtl, xec, xpb, xpf, xsx, xsy, xcx, xcy, dk, dv, sr, rs, rk, rv, ct, ru, upd pl T (nI (a + 1)), be, mx, xo, st, cp, pa, pn, fx, fy, tx, ty, fi, cr, cv) (rk (40 * r + a)) (rv (40 * r + a)))
    (hOp : (r1 = 0 ∧ ∀ p : Int32 → SX → Prop, p r2 u' → wpX_operate p (xds, xrc, nI (T + 1), xoc1, xun1, xfp, xsc, xtl, xec, xpb, xpf, xsx, xsy, xcx, xcy, dk, dv, sr, rs, rk, rv, ct, ru, upd pl T (nI (a + 1)), be, mx, xo1, st, cp, pa, pn, fx, fy, tx, ty, fi, cr, cv) (rk (40 * r + a)) m) ∨ (r1 ≠ 0 ∧ r2 = r1 ∧ u' = (xds, xrc, nI (T + 1), xoc1, xun1, xfp, xsc, xtl, xec, xpb, xpf, xsx, xsy, xcx, xcy, dk, dv, sr, rs, rk, rv, ct, ru, upd pl T (nI (a + 1)), be, mx, xo1, st, cp, pa, pn, fx, fy, tx, ty, fi, cr, cv)))
    (H : rr_154 post n r2 (nI s) m u') : rr_WX post (n + 1) 0 (nI s) (xds, xrc, nI (T + 1), xoc, xun, xfp, xsc, xtl, xec, xpb, xpf, xsx, xsy, xcx, xcy, dk, dv, sr, rs, rk, rv, ct, ru, pl, be, mx, xo, st, cp, pa, pn, fx, fy, tx, ty, fi, cr, cv) := by
  have eT : nI (T + 1) - 1 = nI T := nI_pred T
  have cT : (nI T).toNatClampNeg = T := pk_cl T
  have c0 : (nI s0).toNatClampNeg = s0 := pk_cl s0
  have i7 : vp_in (nI T) 7 := pk_in T 7 (by omega)
  have cr : (nI r).toNatClampNeg = r := pk_cl r
  have e8 : nI r * 40 + nI a = nI (40 * r + a) := by
    rw [show nI r * 40 = nI (40 * r) from mb_ml 40 r, nI_add]
  have i8 : vp_in (nI (40 * r + a)) 320 := pk_in (40 * r + a) 320 (by omega)
  have c8 : (nI (40 * r + a)).toNatClampNeg = 40 * r + a := pk_cl (40 * r + a)
  refine pk_le 8241 s (fun z => absurd z (by omega)) (fun _ => pk_le (T + 1) 0 (fun z => absurd z (by omega)) (fun _ => br_t rfl (nm_r eT ⟨i7, nm_r (e' := nI s0) (by rw [cT]; exact ruT) ⟨i7, nm_r (e' := nI a) (by rw [cT]; exact plT) ⟨pk_in s0 6 h0, nm_r (e' := ct s0) (by rw [c0]) ?_⟩⟩⟩)))
  rw [e]
  refine br_f (nI_pos (by omega)) ⟨pk_in r 8 hr, ?_⟩
  rw [cr, e']
  refine pk_lt a l (fun _ => ⟨i7, nm_r (by rw [cT, nI_1]) (nm_r e8 (nm_r em.symm ⟨i8, i8, ?_⟩))⟩) (fun z => absurd z (by omega))
  rw [c8]
  refine hTk _ ?_
  rcases hOp with ⟨z, hO⟩ | ⟨z, z2, z3⟩
  · refine br_t z ⟨i8, hO _ ?_⟩
    obtain ⟨xds', xrc', xde', xoc', xun', xfp', xsc', xtl', xec', xpb', xpf', xsx', xsy', xcx', xcy', dk', dv', sr', rs', rk', rv', ct', ru', pl', be', mx', xo', st', cp', pa', pn', fx', fy', tx', ty', fi', cr', cv'⟩ := u'
    exact H
  · subst z3
    rw [z2] at H
    exact br_f z H
theorem ys_leave {post : SY → Prop} {T s0 a K : Nat} (v' : SY) (hK : K ≤ 8) (hT : T + 1 ≤ 7) (h0 : s0 < 6) (ruT : ru T = nI s0) (plT : pl T = nI a) (ha : a ≤ 40) (hl : ma_nw sr (nI s0) K = -1 ∨ ∃ r, r < 8 ∧ ma_nw sr (nI s0) K = nI r ∧ ln r = nI a)
    (hc : ∀ p : SY → Prop, p v' → wpY_close p (yrc, nI K, yle, yla, nI (T + 1), ypa, yed, yoc, yun, yfa, ywh, ype, sr, ln, kd, nm, mt, co, wi, cp, pa, pn, ru, pl, sv, be, mx, bx, bo, ex, ey, fx, fy, tx, ty, yo) (nI T)) (H : post v') : wpY_advance post (yrc, nI K, yle, yla, nI (T + 1), ypa, yed, yoc, yun, yfa, ywh, ype, sr, ln, kd, nm, mt, co, wi, cp, pa, pn, ru, pl, sv, be, mx, bx, bo, ex, ey, fx, fy, tx, ty, yo) := by
  obtain ⟨yrc', ysh', yle', yla', yde', ypa', yed', yoc', yun', yfa', ywh', ype', sr', ln', kd', nm', mt', co', wi', cp', pa', pn', ru', pl', sv', be', mx', bx', bo', ex', ey', fx', fy', tx', ty', yo'⟩ := v'
  have eT : nI (T + 1) - 1 = nI T := nI_pred T
  have cT : (nI T).toNatClampNeg = T := pk_cl T
  have i8 : vp_in (nI T) 8 := pk_in T 8 (by omega)
  have y43 : wY_advance_43 post (nI T) yrc (nI K) yle yla (nI (T + 1)) ypa yed yoc yun yfa ywh ype sr ln kd nm mt co wi cp pa pn ru pl sv be mx bx bo ex ey fx fy tx ty yo := by
    unfold wY_advance_43
    exact hc _ H
  unfold wpY_advance
  refine nm_r eT ⟨i8, nm_r (e' := nI s0) (by rw [cT]; exact ruT) (yp_nw hK ?_)⟩
  rcases hl with e | ⟨r, hr, e, e'⟩
  · rw [e]
    exact br_t (by decide) y43
  · have cr : (nI r).toNatClampNeg = r := pk_cl r
    rw [e]
    refine br_f (nI_pos (by omega)) ⟨i8, pk_in r 9 (by omega), ?_⟩
    rw [cT, cr, plT, e']
    exact br_t rfl y43
theorem ys_tok {post : SY → Prop} {T s0 a r l K : Nat} {m : Int32} (v' : SY) (hK : K ≤ 8) (hT : T + 1 ≤ 7) (h0 : s0 < 6) (ruT : ru T = nI s0) (plT : pl T = nI a) (hr : r < 8) (hl : l ≤ 40) (ha : a < l) (e : ma_nw sr (nI s0) K = nI r) (e' : ln r = nI l) (em : m = 64 * nI s0 + nI a)
    (hY0 : kd (40 * r + a) = 0 → ∀ p : SY → Prop, p v' → wpY_number p (yrc, nI K, yle, yla, nI (T + 1), ypa, yed, yoc, yun, yfa, ywh, ype, sr, ln, kd, nm, mt, co, wi, cp, pa, pn, ru, upd pl T (nI (a + 1)), sv, be, mx, bx, bo, ex, ey, fx, fy, tx, ty, yo) (nm (40 * r + a)))
    (hY1 : ¬ kd (40 * r + a) = 0 → ∀ p : SY → Prop, p v' → wpY_operator p (yrc, nI K, yle, yla, nI (T + 1), ypa, yed, yoc, yun, yfa, ywh, ype, sr, ln, kd, nm, mt, co, wi, cp, pa, pn, ru, upd pl T (nI (a + 1)), sv, be, mx, bx, bo, ex, ey, fx, fy, tx, ty, yo) (kd (40 * r + a)) m)
    (H : rr_122 post m v') : wpY_advance post (yrc, nI K, yle, yla, nI (T + 1), ypa, yed, yoc, yun, yfa, ywh, ype, sr, ln, kd, nm, mt, co, wi, cp, pa, pn, ru, pl, sv, be, mx, bx, bo, ex, ey, fx, fy, tx, ty, yo) := by
  obtain ⟨yrc', ysh', yle', yla', yde', ypa', yed', yoc', yun', yfa', ywh', ype', sr', ln', kd', nm', mt', co', wi', cp', pa', pn', ru', pl', sv', be', mx', bx', bo', ex', ey', fx', fy', tx', ty', yo'⟩ := v'
  have eT : nI (T + 1) - 1 = nI T := nI_pred T
  have cT : (nI T).toNatClampNeg = T := pk_cl T
  have i8 : vp_in (nI T) 8 := pk_in T 8 (by omega)
  have cr : (nI r).toNatClampNeg = r := pk_cl r
  have e4 : 40 * nI r + nI a = nI (40 * r + a) := by
    rw [show 40 * nI r = nI (40 * r) from mb_mr 40 r, nI_add]
  have i4 : vp_in (nI (40 * r + a)) 360 := pk_in (40 * r + a) 360 (by omega)
  have c4 : (nI (40 * r + a)).toNatClampNeg = 40 * r + a := pk_cl (40 * r + a)
  unfold wpY_advance
  refine nm_r eT ⟨i8, nm_r (e' := nI s0) (by rw [cT]; exact ruT) (yp_nw hK ?_)⟩
  rw [e]
  refine br_f (nI_pos (by omega)) ⟨i8, pk_in r 9 (by omega), ?_⟩
  rw [cT, cr, plT, e']
  refine pk_eq a l (fun z => absurd z (by omega)) (fun _ => ⟨i8, nm_r e4 ⟨i8, nm_r em.symm ⟨i8, i8, nm_r (by rw [nI_1]) ⟨i4, ?_⟩⟩⟩⟩)
  rw [c4]
  by_cases k0 : kd (40 * r + a) = 0
  · exact br_t k0 ⟨i4, hY0 k0 _ H⟩
  · exact br_f k0 ⟨i4, hY1 k0 _ H⟩
