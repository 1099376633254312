variable {xds xrc xde xoc xun xfp xsc xtl xec xpb xpf xsx xsy xcx xcy yrc ysh yle yla yde ypa yed yoc yun yfa ywh ype : Int32} {dk dv sr rs rk rv ct ru pl be mx xo st cp pa pn fx fy tx ty fi cr cv ln kd nm mt co wi sv bx bo ex ey yo : Nat → Int32}
/-! a step of both loops -/
theorem st_step {K q N : Nat} {u : SX} {v : SY} (h : rr_R K N q q u v) :
    (∃ (N' q' : Nat) (u' : SX) (v' : SY), N' < N ∧ rr_R K N' q' q' u' v' ∧ (∀ (post : Int32 → SX → Prop) (n s : Nat), s < 8241 → rr_WX post n 0 (nI (s + 1)) u' → rr_WX post (n + 1) 0 (nI s) u) ∧ (∀ (post : Int32 → SY → Prop) (n s : Nat), s < 8241 → rr_WY post n (nI (s + 1)) v' → rr_WY post (n + 1) (nI s) v)) ∨
    (∃ (r : Int32) (u' : SX) (v' : SY), rr_I u' v' ∧ (∀ (post : Int32 → SX → Prop) (n s : Nat), s < 8241 → post r u' → rr_WX post (n + 2) 0 (nI s) u) ∧ (∀ (post : Int32 → SY → Prop) (n s : Nat), s < 8241 → post r v' → rr_WY post (n + 2) (nI s) v)) := by
  obtain ⟨c, d, T, L, V, U, E, P, F, A, B, G, xpb, xpf, xsx, xsy, xcx, xcy, ype, dk, dv, sr, rs, rk, rv, ct, ru, pl, be, mx, xo, st, cp, pa, pn, fx, fy, tx, ty, fi, cr, cv, ln, kd, nm, mt, co, wi, sv, bx, bo, ex, ey, yo, rfl, rfl, rfl, h⟩ := h
  have hH := h
  obtain ⟨hd, hs, hp, ho, hc, hK, hf, hl, hm, hb⟩ := h
  obtain ⟨hTV, hV, hLT⟩ := rr_frb hf
  obtain ⟨⟨s0, h0, ruT⟩, plT, hA, _⟩ := hf.1 T (by omega)
  have ect : ct s0 = ma_nw sr (nI s0) K := hc s0 h0
  by_cases hlv : ma_nw sr (nI s0) K = -1 ∨ ∃ r, r < 8 ∧ ma_nw sr (nI s0) K = nI r ∧ ln r = nI (A T)
  · have hlx : ct s0 = -1 ∨ ∃ r, r < 8 ∧ ct s0 = nI r ∧ rs r = nI (A T) := by
      rw [ect]
      rcases hlv with e | ⟨r, hr, e, e'⟩
      · exact Or.inl e
      · exact Or.inr ⟨r, hr, e, by rw [(hd.2.2.2.1 r hr).1]; exact e'⟩
    cases T with
    | zero =>
      obtain ⟨hX, hY⟩ := st_end0 hH
      refine Or.inr ⟨0, _, _, ?_, fun post n s hs' H => xs_leave (n := n + 1) _ hs' (by omega) h0 ruT plT hA hlx hX (br_c (fun _ => H) (fun _ => br_t (by decide) H)), fun post n s hs' H => pk_le 20000 s (fun z => absurd z (by omega)) (fun _ => pk_le (0 + 1) 0 (fun z => absurd z (by omega)) (fun _ => br_t rfl (ys_leave _ hK (by omega) h0 ruT plT hA hlv hY (nm_r (nI_1 s) (br_c (fun _ => H) (fun _ => br_t (by decide) H))))))⟩
      exact ⟨_, _, _, _, _, _, _, _, _, _, _, _, _, _, _, _, _, _, _, _, _, _, _, _, _, _, _, _, _, _, _, _, _, _, _, _, _, _, _, _, _, _, _, _, _, _, _, _, _, _, _, _, _, _, _, _, _, _, _, rfl, rfl, hd, hs, hp⟩
    | succ t =>
      obtain ⟨N', u', v', hN, hR, hX, hY⟩ := st_end hH
      obtain ⟨yrc', ysh', yle', yla', yde', ypa', yed', yoc', yun', yfa', ywh', ype', sr', ln', kd', nm', mt', co', wi', cp', pa', pn', ru', pl', sv', be', mx', bx', bo', ex', ey', fx', fy', tx', ty', yo'⟩ := v'
      exact Or.inl ⟨N', 0, u', _, by omega, hR, fun post n s hs' H => xs_leave u' hs' (by omega) h0 ruT plT hA hlx hX H, fun post n s hs' H => pk_le 20000 s (fun z => absurd z (by omega)) (fun _ => pk_le (t + 1 + 1) 0 (fun z => absurd z (by omega)) (fun _ => br_t rfl (ys_leave _ hK (by omega) h0 ruT plT hA hlv hY (nm_r (nI_1 s) H))))⟩
  · rcases ma_nwb sr (nI s0) K with e | ⟨r, hr, e⟩
    · exact absurd (Or.inl e) hlv
    · obtain ⟨er, l, hl40, el⟩ := hd.2.2.2.1 r (by omega)
      have hAl := hl T (by omega) r l (by omega) hl40 (by rw [ruT]; exact e) el
      have hAT : A T < l := by
        have : A T ≠ l := fun z => hlv (Or.inr ⟨r, by omega, e, by rw [z]; exact el⟩)
        omega
      obtain ⟨ft1, ft2⟩ := rr_frt hf (by omega)
      have hpl := rr_plt hl (r := r) (l := l) (by omega) hl40 (by rw [ruT]; exact e) el hAT
      obtain ⟨ek, ev⟩ := hd.2.2.2.2.1 (40 * r + A T) (by omega)
      obtain ⟨r', r1, xoc1, xun1, xo1, u', v', hO, hTk, hOp, hY0, hY1⟩ := tk (kd (40 * r + A T)) (nm (40 * r + A T)) (64 * nI s0 + nI (A T)) ⟨hd, hs, hp, ho, hc, hK, ft1, hpl, hm, hb⟩
      rw [← ek, ← ev] at hTk
      rw [← ek] at hOp
      rcases hO with ⟨z, N', q', hN', hR⟩ | ⟨z, hF⟩
      · subst z
        have hR' := hR
        obtain ⟨c', d', T', L', V', U', E', P', F', A', B', G', xpb', xpf', xsx', xsy', xcx', xcy', ype', dk', dv', sr', rs', rk', rv', ct', ru', pl', be', mx', xo', st', cp', pa', pn', fx', fy', tx', ty', fi', cr', cv', ln', kd', nm', mt', co', wi', sv', bx', bo', ex', ey', yo', rfl, rfl, _, _⟩ := hR
        exact Or.inl ⟨N', q', _, _, by omega, hR', fun post n s hs' H => xs_tok _ hs' (by omega) h0 ruT plT (by omega) hl40 hAT (ect.trans e) (er.trans el) rfl hTk hOp (br_t rfl (nm_r (nI_1 s) H)), fun post n s hs' H => pk_le 20000 s (fun z => absurd z (by omega)) (fun _ => pk_le (T + 1) 0 (fun z => absurd z (by omega)) (fun _ => br_t rfl (ys_tok _ hK (by omega) h0 ruT plT (by omega) hl40 hAT e el rfl hY0 hY1 (br_t rfl (nm_r (nI_1 s) H)))))⟩
      · obtain ⟨c', d', xde', xoc', xun', xsc', xtl', xec', xpb', xpf', xsx', xsy', xcx', xcy', ysh', yle', yla', yde', ypa', yed', yoc', ype', dk', dv', sr', rs', rk', rv', ct', ru', pl', be', mx', xo', st', cp', pa', pn', fx', fy', tx', ty', fi', cr', cv', ln', kd', nm', mt', co', wi', sv', bx', bo', ex', ey', yo', rfl, rfl, hd', hs'', hp'⟩ := hF
        refine Or.inr ⟨r', (nI d', nI c', xde', xoc', xun', 64 * nI s0 + nI (A T), xsc', xtl', xec', xpb', xpf', xsx', xsy', xcx', xcy', dk', dv', sr', rs', rk', rv', ct', ru', pl', be', mx', xo', st', cp', pa', pn', fx', fy', tx', ty', fi', cr', cv'), (nI c', ysh', yle', yla', yde', ypa', yed', yoc', xun', r', 64 * nI s0 + nI (A T), ype', sr', ln', kd', nm', mt', co', wi', cp', pa', pn', ru', pl', sv', be', mx', bx', bo', ex', ey', fx', fy', tx', ty', yo'), ?_, fun post n s hs' H => xs_tok (n := n + 1) _ hs' (by omega) h0 ruT plT (by omega) hl40 hAT (ect.trans e) (er.trans el) rfl hTk hOp (br_f z (nm_r (nI_1 s) (br_c (fun _ => H) (fun _ => br_c (fun _ => H) (fun _ => br_f z H))))), fun post n s hs' H => pk_le 20000 s (fun z => absurd z (by omega)) (fun _ => pk_le (T + 1) 0 (fun z => absurd z (by omega)) (fun _ => br_t rfl (ys_tok _ hK (by omega) h0 ruT plT (by omega) hl40 hAT e el rfl hY0 hY1 (br_f z (nm_r (nI_1 s) (br_c (fun _ => H) (fun _ => br_c (fun _ => H) (fun _ => br_f z H))))))))⟩
        exact ⟨_, _, _, _, _, _, _, _, _, _, _, _, _, _, _, _, _, _, _, _, _, _, _, _, _, _, _, _, _, _, _, _, _, _, _, _, _, _, _, _, _, _, _, _, _, _, _, _, _, _, _, _, _, _, _, _, _, _, _, rfl, rfl, hd', hs'', hp'⟩
theorem rr_RN {K N q n : Nat} {u : SX} {v : SY} (h : rr_R K N q n u v) : 1 ≤ N := by
  obtain ⟨c, d, T, L, V, U, E, P, F, A, B, G, xpb, xpf, xsx, xsy, xcx, xcy, ype, dk, dv, sr, rs, rk, rv, ct, ru, pl, be, mx, xo, st, cp, pa, pn, fx, fy, tx, ty, fi, cr, cv, ln, kd, nm, mt, co, wi, sv, bx, bo, ex, ey, yo, _, _, rfl, h⟩ := h
  exact rr_ph1 h.2.2.2.2.2.2.1
theorem lo_main (K : Nat) : ∀ (N q : Nat) (u : SX) (v : SY), rr_R K N q q u v → ∃ (r : Int32) (u' : SX) (v' : SY), rr_I u' v' ∧ (∀ (post : Int32 → SX → Prop) (n s : Nat), N < n → s + N ≤ 8241 → post r u' → rr_WX post n 0 (nI s) u) ∧ (∀ (post : Int32 → SY → Prop) (n s : Nat), N < n → s + N ≤ 8241 → post r v' → rr_WY post n (nI s) v) := by
  intro N
  induction N using Nat.strongRecOn with
  | ind N ih =>
    intro q u v h
    have h1 := rr_RN h
    rcases st_step h with ⟨N', q', u1, v1, hN, hR, hX, hY⟩ | ⟨r, u1, v1, hI, hX, hY⟩
    · obtain ⟨r, u', v', hI, hX', hY'⟩ := ih N' hN q' u1 v1 hR
      refine ⟨r, u', v', hI, fun post n s hn hs H => ?_, fun post n s hn hs H => ?_⟩
      · obtain ⟨n', rfl⟩ : ∃ n', n = n' + 1 := ⟨n - 1, by omega⟩
        exact hX post n' s (by omega) (hX' post n' (s + 1) (by omega) (by omega) H)
      · obtain ⟨n', rfl⟩ : ∃ n', n = n' + 1 := ⟨n - 1, by omega⟩
        exact hY post n' s (by omega) (hY' post n' (s + 1) (by omega) (by omega) H)
    · refine ⟨r, u1, v1, hI, fun post n s hn hs H => ?_, fun post n s hn hs H => ?_⟩
      · obtain ⟨n', rfl⟩ : ∃ n', n = n' + 2 := ⟨n - 2, by omega⟩
        exact hX post n' s (by omega) H
      · obtain ⟨n', rfl⟩ : ∃ n', n = n' + 2 := ⟨n - 2, by omega⟩
        exact hY post n' s (by omega) H
