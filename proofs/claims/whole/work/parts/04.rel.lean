/-! the pieces of the relation, and how they last -/
def rr_doc (c d : Nat) (rs rk rv dk dv ln kd nm : Nat → Int32) : Prop :=
  c ≤ 8 ∧ d ≤ 40 ∧ ln 8 = nI d ∧ (∀ r, r < 8 → rs r = ln r ∧ ∃ l, l ≤ 40 ∧ ln r = nI l) ∧ (∀ i, i < 320 → rk i = kd i ∧ rv i = nm i) ∧ (∀ i, i < 40 → dk i = kd (320 + i) ∧ dv i = nm (320 + i))
theorem rr_tok {c d : Nat} {rs rk rv dk dv ln kd nm : Nat → Int32} (h : rr_doc c d rs rk rv dk dv ln kd nm) (hd : d < 40) (a b : Int32) :
    rr_doc c (d + 1) rs rk rv (upd dk d a) (upd dv d b) (upd ln 8 (nI (d + 1))) (upd kd (320 + d) a) (upd nm (320 + d) b) := by
  obtain ⟨h1, h2, h3, h4, h5, h6⟩ := h
  refine ⟨h1, by omega, pk_us, ?_, ?_, ?_⟩
  · intro r hr
    have ne : r ≠ 8 := by omega
    rw [pk_un ne]
    exact h4 r hr
  · intro i hi
    have ne : i ≠ 320 + d := by omega
    rw [pk_un ne, pk_un ne]
    exact h5 i hi
  · intro i hi
    by_cases e : i = d
    · rw [e, pk_us, pk_us, pk_us, pk_us]
      exact ⟨rfl, rfl⟩
    · have ne : 320 + i ≠ 320 + d := by omega
      rw [pk_un e, pk_un e, pk_un ne, pk_un ne]
      exact h6 i hi
theorem rr_wip {c d : Nat} {rs rk rv dk dv ln kd nm : Nat → Int32} (h : rr_doc c d rs rk rv dk dv ln kd nm) :
    rr_doc c 0 rs rk rv dk dv (upd ln 8 0) kd nm := by
  obtain ⟨h1, h2, h3, h4, h5, h6⟩ := h
  refine ⟨h1, by omega, pk_us, ?_, h5, h6⟩
  intro r hr
  have ne : r ≠ 8 := by omega
  rw [pk_un ne]
  exact h4 r hr
theorem rr_com {c d : Nat} {rs rk rv dk dv ln kd nm : Nat → Int32} (h : rr_doc c d rs rk rv dk dv ln kd nm) (hc : c < 8) :
    rr_doc (c + 1) 0 (upd rs c (nI d)) (ma_w rk dk (40 * c) d) (ma_w rv dv (40 * c) d) dk dv (upd (upd ln c (nI d)) 8 0) (ma_w kd (fun t => kd (320 + t)) (40 * c) d) (ma_w nm (fun t => nm (320 + t)) (40 * c) d) := by
  obtain ⟨h1, h2, h3, h4, h5, h6⟩ := h
  refine ⟨by omega, by omega, pk_us, ?_, ?_, ?_⟩
  · intro r hr
    have ne : r ≠ 8 := by omega
    rw [pk_un ne]
    by_cases e : r = c
    · rw [e, pk_us, pk_us]
      exact ⟨rfl, d, h2, rfl⟩
    · rw [pk_un e, pk_un e]
      exact h4 r hr
  · intro i hi
    by_cases e : 40 * c ≤ i ∧ i < 40 * c + d
    · obtain ⟨t, rfl⟩ : ∃ t, i = 40 * c + t := ⟨i - 40 * c, by omega⟩
      rw [ma_wg (by omega), ma_wg (by omega), ma_wg (by omega), ma_wg (by omega)]
      exact h6 t (by omega)
    · rw [ma_wr (by omega), ma_wr (by omega), ma_wr (by omega), ma_wr (by omega)]
      exact h5 i hi
  · intro i hi
    rw [ma_wr (by omega), ma_wr (by omega)]
    exact h6 i hi
theorem rr_rev {c d : Nat} {rs rk rv dk dv ln kd nm : Nat → Int32} (h : rr_doc (c + 1) d rs rk rv dk dv ln kd nm) : rr_doc c d rs rk rv dk dv ln kd nm := by
  obtain ⟨h1, h2⟩ := h
  exact ⟨by omega, h2⟩

def rr_c1 (x : Int32) : Prop := 0 ≤ x.toInt ∧ x.toInt ≤ 255
def rr_st (st mt co wi : Nat → Int32) : Prop := ∀ l, l < 7 → (∀ n, n < 6 → st (8 * l + n) = mt (6 * l + n)) ∧ st (8 * l + 6) = co l ∧ st (8 * l + 7) = wi l ∧ rr_c1 (co l)
theorem rr_stg {st mt co wi st' mt' co' wi' : Nat → Int32} (l0 : Nat) (h : rr_st st mt co wi) (hs : ∀ j, (j < 8 * l0 ∨ 8 * l0 + 8 ≤ j) → st' j = st j) (hm : ∀ j, (j < 6 * l0 ∨ 6 * l0 + 6 ≤ j) → mt' j = mt j)
    (hc : ∀ j, j ≠ l0 → co' j = co j) (hw : ∀ j, j ≠ l0 → wi' j = wi j) (h0 : (∀ n, n < 6 → st' (8 * l0 + n) = mt' (6 * l0 + n)) ∧ st' (8 * l0 + 6) = co' l0 ∧ st' (8 * l0 + 7) = wi' l0 ∧ rr_c1 (co' l0)) : rr_st st' mt' co' wi' := by
  intro l hl
  by_cases e : l = l0
  · rw [e]
    exact h0
  · obtain ⟨h1, h2, h3, h4⟩ := h l hl
    refine ⟨fun n hn => ?_, ?_, ?_, ?_⟩
    · rw [hs _ (by omega), hm _ (by omega)]
      exact h1 n hn
    · rw [hs _ (by omega), hc _ e]
      exact h2
    · rw [hs _ (by omega), hw _ e]
      exact h3
    · rw [hc _ e]
      exact h4
theorem rr_sts {st mt co wi : Nat → Int32} {V : Nat} (h : rr_st st mt co wi) (hV : V < 7) : rr_st (ma_w st (fun n => st (8 * V + n)) (8 * V + 8) 8) (ma_w mt (fun n => mt (6 * V + n)) (6 * V + 6) 6) (upd co (V + 1) (co V)) (upd wi (V + 1) (wi V)) := by
  obtain ⟨h1, h2, h3, h4⟩ := h V hV
  refine rr_stg (V + 1) h (fun j hj => ma_wr (by omega)) (fun j hj => ma_wr (by omega)) (fun j hj => pk_un hj) (fun j hj => pk_un hj) ⟨fun n hn => ?_, ?_, ?_, ?_⟩
  · rw [show 8 * (V + 1) + n = 8 * V + 8 + n by omega, show 6 * (V + 1) + n = 6 * V + 6 + n by omega, ma_wg (by omega), ma_wg hn]
    exact h1 n hn
  · rw [show 8 * (V + 1) + 6 = 8 * V + 8 + 6 by omega, ma_wg (by omega), pk_us]
    exact h2
  · rw [show 8 * (V + 1) + 7 = 8 * V + 8 + 7 by omega, ma_wg (by omega), pk_us]
    exact h3
  · rw [pk_us]
    exact h4
theorem rr_stc {st mt co wi : Nat → Int32} {V : Nat} (h : rr_st st mt co wi) (hV : V < 7) {x : Int32} (hx : rr_c1 x) : rr_st (upd st (8 * V + 6) x) mt (upd co V x) wi := by
  obtain ⟨h1, h2, h3, h4⟩ := h V hV
  refine rr_stg V h (fun j hj => pk_un (by omega)) (fun j hj => rfl) (fun j hj => pk_un hj) (fun j hj => rfl) ⟨fun n hn => ?_, ?_, ?_, ?_⟩
  · rw [pk_un (by omega)]
    exact h1 n hn
  · rw [pk_us, pk_us]
  · rw [pk_un (by omega)]
    exact h3
  · rw [pk_us]
    exact hx
theorem rr_stw {st mt co wi : Nat → Int32} {V : Nat} (h : rr_st st mt co wi) (hV : V < 7) (x : Int32) : rr_st (upd st (8 * V + 7) x) mt co (upd wi V x) := by
  obtain ⟨h1, h2, h3, h4⟩ := h V hV
  refine rr_stg V h (fun j hj => pk_un (by omega)) (fun j hj => rfl) (fun j hj => rfl) (fun j hj => pk_un hj) ⟨fun n hn => ?_, ?_, ?_, h4⟩
  · rw [pk_un (by omega)]
    exact h1 n hn
  · rw [pk_un (by omega)]
    exact h2
  · rw [pk_us, pk_us]
/-- six stores in a row -/
def rr_m6 (mt : Nat → Int32) (b : Nat) (x0 x1 x2 x3 x4 x5 : Int32) : Nat → Int32 := upd (upd (upd (upd (upd (upd mt b x0) (b + 1) x1) (b + 2) x2) (b + 3) x3) (b + 4) x4) (b + 5) x5
theorem rr_m6o {mt : Nat → Int32} {b j : Nat} {x0 x1 x2 x3 x4 x5 : Int32} (h : j < b ∨ b + 6 ≤ j) : rr_m6 mt b x0 x1 x2 x3 x4 x5 j = mt j := by
  unfold rr_m6
  rw [pk_un (by omega), pk_un (by omega), pk_un (by omega), pk_un (by omega), pk_un (by omega), pk_un (by omega)]
theorem rr_m6v (mt : Nat → Int32) (b : Nat) (x0 x1 x2 x3 x4 x5 : Int32) : rr_m6 mt b x0 x1 x2 x3 x4 x5 b = x0 ∧ rr_m6 mt b x0 x1 x2 x3 x4 x5 (b + 1) = x1 ∧ rr_m6 mt b x0 x1 x2 x3 x4 x5 (b + 2) = x2 ∧ rr_m6 mt b x0 x1 x2 x3 x4 x5 (b + 3) = x3 ∧ rr_m6 mt b x0 x1 x2 x3 x4 x5 (b + 4) = x4 ∧ rr_m6 mt b x0 x1 x2 x3 x4 x5 (b + 5) = x5 := by
  unfold rr_m6
  refine ⟨?_, ?_, ?_, ?_, ?_, pk_us⟩
  · rw [pk_un (by omega), pk_un (by omega), pk_un (by omega), pk_un (by omega), pk_un (by omega), pk_us]
  · rw [pk_un (by omega), pk_un (by omega), pk_un (by omega), pk_un (by omega), pk_us]
  · rw [pk_un (by omega), pk_un (by omega), pk_un (by omega), pk_us]
  · rw [pk_un (by omega), pk_un (by omega), pk_us]
  · rw [pk_un (by omega), pk_us]
theorem rr_stm {st mt co wi xo : Nat → Int32} {V : Nat} (h : rr_st st mt co wi) (hV : V < 7) : rr_st (ma_w st xo (8 * V) 6) (rr_m6 mt (6 * V) (xo 0) (xo 1) (xo 2) (xo 3) (xo 4) (xo 5)) co wi := by
  obtain ⟨h1, h2, h3, h4⟩ := h V hV
  obtain ⟨e0, e1, e2, e3, e4, e5⟩ := rr_m6v mt (6 * V) (xo 0) (xo 1) (xo 2) (xo 3) (xo 4) (xo 5)
  refine rr_stg V h (fun j hj => ma_wr (by omega)) (fun j hj => rr_m6o (by omega)) (fun j hj => rfl) (fun j hj => rfl) ⟨fun n hn => ?_, ?_, ?_, h4⟩
  · rw [ma_wg hn]
    have hn' : n = 0 ∨ n = 1 ∨ n = 2 ∨ n = 3 ∨ n = 4 ∨ n = 5 := by omega
    rcases hn' with rfl | rfl | rfl | rfl | rfl | rfl
    · exact e0.symm
    · exact e1.symm
    · exact e2.symm
    · exact e3.symm
    · exact e4.symm
    · exact e5.symm
  · rw [ma_wr (by omega)]
    exact h2
  · rw [ma_wr (by omega)]
    exact h3
theorem rr_st0 {st mt co wi : Nat → Int32} (h : rr_st st mt co wi) : rr_st (upd (upd (upd (upd (ma_w st (fun _ => 0) 0 8) 0 1) 3 1) 6 1) 7 4) (ma_w mt (fun m => if m = 0 ∨ m = 3 then 1 else 0) 0 6) (upd co 0 1) (upd wi 0 4) := by
  refine rr_stg 0 h (fun j hj => ?_) (fun j hj => ma_wr (by omega)) (fun j hj => pk_un hj) (fun j hj => pk_un hj) ⟨fun n hn => ?_, ?_, ?_, ?_⟩
  · rw [pk_un (by omega), pk_un (by omega), pk_un (by omega), pk_un (by omega), ma_wr (by omega)]
  · rw [show 8 * 0 + n = n by omega, ma_wg0 hn, pk_un (by omega), pk_un (by omega)]
    by_cases e3 : n = 3
    · rw [e3, pk_us]
      rfl
    · rw [pk_un e3]
      by_cases e0 : n = 0
      · rw [e0, pk_us]
        rfl
      · rw [pk_un e0, ma_wg0 (by omega), if_neg (by omega)]
  · rw [pk_un (by omega), pk_us, pk_us]
  · rw [pk_us, pk_us]
  · rw [pk_us]
    unfold rr_c1
    decide

def rr_pa (pa : Nat → Int32) : Prop := ∀ j, pa j = -1 ∨ rr_c1 (pa j)
def rr_op (q : Nat) (xo yo : Nat → Int32) : Prop := q ≤ 6 ∧ ∀ i, i < q → xo i = yo i
def rr_ct (K : Nat) (ct sr : Nat → Int32) : Prop := ∀ s, s < 6 → ct s = ma_nw sr (nI s) K

/-! the frames -/
def rr_up (A : Nat → Nat) (k v : Nat) : Nat → Nat := fun j => if j = k then v else A j
theorem rr_us (A : Nat → Nat) (k v : Nat) : rr_up A k v k = v := if_pos rfl
theorem rr_un {A : Nat → Nat} {k v j : Nat} (h : j ≠ k) : rr_up A k v j = A j := if_neg h
def rr_pt (A : Nat → Nat) : Nat → Nat
  | 0 => 0
  | n + 1 => rr_pt A n + (41 - A n)
theorem rr_ptc {A A' : Nat → Nat} : ∀ n, (∀ k, k < n → A k = A' k) → rr_pt A n = rr_pt A' n
  | 0, _ => rfl
  | n + 1, h => by
    show rr_pt A n + (41 - A n) = rr_pt A' n + (41 - A' n)
    rw [rr_ptc n (fun k hk => h k (by omega)), h n (by omega)]
def rr_cg (mx : Nat → Int32) : Nat → Nat
  | 0 => 0
  | n + 1 => rr_cg mx n + (if mx n = -1 then 0 else 1)
theorem rr_cgc {A A' : Nat → Int32} : ∀ n, (∀ k, k < n → A k = A' k) → rr_cg A n = rr_cg A' n
  | 0, _ => rfl
  | n + 1, h => by
    show rr_cg A n + (if A n = -1 then 0 else 1) = rr_cg A' n + (if A' n = -1 then 0 else 1)
    rw [rr_cgc n (fun k hk => h k (by omega)), h n (by omega)]
theorem rr_cgb {mx : Nat → Int32} (h0 : mx 0 = -1) : ∀ n, rr_cg mx (n + 1) ≤ n
  | 0 => by
    show 0 + (if mx 0 = -1 then 0 else 1) ≤ 0
    rw [if_pos h0]
    omega
  | n + 1 => by
    have ih := rr_cgb h0 n
    show rr_cg mx (n + 1) + (if mx (n + 1) = -1 then 0 else 1) ≤ n + 1
    split <;> omega
def rr_mx (x : Int32) : Prop := x = -1 ∨ (0 ≤ x.toInt ∧ x.toInt ≤ 16)
/-- D frames (one more than T), L layers above the page, V states saved, U units; of each frame its place A, the states saved below it B, those saved in it G -/
def rr_fr (T L V U : Nat) (ru pl be sv mx : Nat → Int32) (A B G : Nat → Nat) : Prop :=
  (∀ f, f < T + 1 → (∃ s, s < 6 ∧ ru f = nI s) ∧ pl f = nI (A f) ∧ A f ≤ 40 ∧ be f = nI (B f) ∧ sv f = nI (G f) ∧ f ≤ B f ∧ rr_mx (mx f)) ∧ mx 0 = -1 ∧ (∀ f, f < T → B (f + 1) = B f + G f + 1) ∧ V = B T + G T ∧ V ≤ 6 ∧ L = rr_cg mx (T + 1) ∧ U ≤ 200
def rr_ph (U T : Nat) (A : Nat → Nat) : Nat := 41 * (200 - U) + rr_pt A (T + 1)
section
variable {T L V U : Nat} {ru pl be sv mx : Nat → Int32} {A B G : Nat → Nat}
theorem rr_frb (h : rr_fr T L V U ru pl be sv mx A B G) : T ≤ V ∧ V ≤ 6 ∧ L ≤ T := by
  obtain ⟨h1, h2, h3, h4, h5, h6, h7⟩ := h
  have := (h1 T (by omega)).2.2.2.2.2.1
  have := rr_cgb h2 T
  omega
theorem rr_fr0 {ru pl be sv mx : Nat → Int32} : rr_fr 0 0 0 0 (upd ru 0 0) (upd pl 0 0) (upd be 0 0) (upd sv 0 0) (upd mx 0 (-1)) (fun _ => 0) (fun _ => 0) (fun _ => 0) := by
  refine ⟨fun f hf => ?_, pk_us, fun f hf => absurd hf (Nat.not_lt_zero f), rfl, by omega, ?_, by omega⟩
  · have e : f = 0 := by omega
    rw [e, pk_us, pk_us, pk_us, pk_us, pk_us]
    exact ⟨⟨0, by omega, rfl⟩, rfl, Nat.zero_le 40, rfl, rfl, Nat.zero_le _, Or.inl rfl⟩
  · show 0 = 0 + (if upd mx 0 (-1) 0 = -1 then 0 else 1)
    rw [pk_us, if_pos rfl]
theorem rr_ph0 : rr_ph 0 0 (fun _ => 0) = 8241 := rfl
/-- a token is taken -/
theorem rr_frt (h : rr_fr T L V U ru pl be sv mx A B G) (ha : A T < 40) : rr_fr T L V U ru (upd pl T (nI (A T + 1))) be sv mx (rr_up A T (A T + 1)) B G ∧ rr_ph U T (rr_up A T (A T + 1)) + 1 = rr_ph U T A := by
  obtain ⟨h1, h2, h3, h4, h5, h6, h7⟩ := h
  refine ⟨⟨fun f hf => ?_, h2, h3, h4, h5, h6, h7⟩, ?_⟩
  · obtain ⟨g1, g2, g3, g4⟩ := h1 f hf
    by_cases e : f = T
    · rw [e, pk_us, rr_us]
      rw [e] at g1 g4
      exact ⟨g1, rfl, by omega, g4⟩
    · rw [pk_un e, rr_un e]
      exact ⟨g1, g2, g3, g4⟩
  · show 41 * (200 - U) + (rr_pt (rr_up A T (A T + 1)) T + (41 - rr_up A T (A T + 1) T)) + 1 = 41 * (200 - U) + (rr_pt A T + (41 - A T))
    rw [rr_us, rr_ptc T (A' := A) (fun k hk => rr_un (Nat.ne_of_lt hk))]
    omega
/-- a unit is used -/
theorem rr_fru (h : rr_fr T L V U ru pl be sv mx A B G) (hU : U < 200) : rr_fr T L V (U + 1) ru pl be sv mx A B G ∧ rr_ph (U + 1) T A + 41 = rr_ph U T A := by
  obtain ⟨h1, h2, h3, h4, h5, h6, h7⟩ := h
  refine ⟨⟨h1, h2, h3, h4, h5, h6, by omega⟩, ?_⟩
  unfold rr_ph
  omega
/-- q -/
theorem rr_frq (h : rr_fr T L V U ru pl be sv mx A B G) (hV : V < 6) : rr_fr T L (V + 1) U ru pl be (upd sv T (nI (G T + 1))) mx A B (rr_up G T (G T + 1)) := by
  obtain ⟨h1, h2, h3, h4, h5, h6, h7⟩ := h
  refine ⟨fun f hf => ?_, h2, fun f hf => ?_, ?_, by omega, h6, h7⟩
  · obtain ⟨g1, g2, g3, g4, g5, g6⟩ := h1 f hf
    by_cases e : f = T
    · rw [e, pk_us, rr_us]
      rw [e] at g1 g2 g3 g4 g6
      exact ⟨g1, g2, g3, g4, rfl, g6⟩
    · rw [pk_un e, rr_un e]
      exact ⟨g1, g2, g3, g4, g5, g6⟩
  · rw [rr_un (by omega)]
    exact h3 f hf
  · rw [rr_us]
    omega
/-- Q -/
theorem rr_frQ (h : rr_fr T L V U ru pl be sv mx A B G) (hG : 0 < G T) : rr_fr T L (V - 1) U ru pl be (upd sv T (nI (G T - 1))) mx A B (rr_up G T (G T - 1)) := by
  obtain ⟨h1, h2, h3, h4, h5, h6, h7⟩ := h
  refine ⟨fun f hf => ?_, h2, fun f hf => ?_, ?_, by omega, h6, h7⟩
  · obtain ⟨g1, g2, g3, g4, g5, g6⟩ := h1 f hf
    by_cases e : f = T
    · rw [e, pk_us, rr_us]
      rw [e] at g1 g2 g3 g4 g6
      exact ⟨g1, g2, g3, g4, rfl, g6⟩
    · rw [pk_un e, rr_un e]
      exact ⟨g1, g2, g3, g4, g5, g6⟩
  · rw [rr_un (by omega)]
    exact h3 f hf
  · rw [rr_us]
    omega
/-- a stream is entered: Do and Dg -/
theorem rr_fre (h : rr_fr T L V U ru pl be sv mx A B G) (hV : V < 6) {s : Nat} (hs : s < 6) {a : Int32} (ha : rr_mx a) : rr_fr (T + 1) (L + if a = -1 then 0 else 1) (V + 1) U (upd ru (T + 1) (nI s)) (upd pl (T + 1) 0) (upd be (T + 1) (nI (V + 1))) (upd sv (T + 1) 0) (upd mx (T + 1) a) (rr_up A (T + 1) 0) (rr_up B (T + 1) (V + 1)) (rr_up G (T + 1) 0) ∧ rr_ph U (T + 1) (rr_up A (T + 1) 0) = rr_ph U T A + 41 := by
  obtain ⟨h1, h2, h3, h4, h5, h6, h7⟩ := h
  have hT := (h1 T (by omega)).2.2.2.2.2.1
  refine ⟨⟨fun f hf => ?_, ?_, fun f hf => ?_, ?_, by omega, ?_, h7⟩, ?_⟩
  · by_cases e : f = T + 1
    · rw [e, pk_us, pk_us, pk_us, pk_us, pk_us, rr_us, rr_us, rr_us]
      exact ⟨⟨s, hs, rfl⟩, rfl, by omega, rfl, rfl, by omega, ha⟩
    · rw [pk_un e, pk_un e, pk_un e, pk_un e, pk_un e, rr_un e, rr_un e, rr_un e]
      exact h1 f (by omega)
  · rw [pk_un (by omega)]
    exact h2
  · by_cases e : f = T
    · rw [e, rr_us, rr_un (by omega), rr_un (by omega)]
      omega
    · rw [rr_un (by omega), rr_un (by omega), rr_un (by omega)]
      exact h3 f (by omega)
  · rw [rr_us, rr_us]
  · show _ = rr_cg (upd mx (T + 1) a) (T + 1) + (if upd mx (T + 1) a (T + 1) = -1 then 0 else 1)
    rw [pk_us, h6, rr_cgc (T + 1) (A' := mx) (fun k hk => pk_un (Nat.ne_of_lt hk))]
  · show 41 * (200 - U) + (rr_pt (rr_up A (T + 1) 0) (T + 1) + (41 - rr_up A (T + 1) 0 (T + 1))) = 41 * (200 - U) + rr_pt A (T + 1) + 41
    rw [rr_us, rr_ptc (T + 1) (A' := A) (fun k hk => rr_un (Nat.ne_of_lt hk))]
    omega
/-- a stream's end, not the lowest's -/
theorem rr_frx (h : rr_fr (T + 1) L V U ru pl be sv mx A B G) : rr_fr T (L - if mx (T + 1) = -1 then 0 else 1) (B (T + 1) - 1) U ru pl be sv mx A B G ∧ rr_ph U T A + 1 ≤ rr_ph U (T + 1) A ∧ 1 ≤ B (T + 1) ∧ (mx (T + 1) ≠ -1 → 1 ≤ L) := by
  obtain ⟨h1, h2, h3, h4, h5, h6, h7⟩ := h
  have e3 := h3 T (by omega)
  have e1 := (h1 (T + 1) (by omega)).2.2.1
  have e6 : L = rr_cg mx (T + 1) + (if mx (T + 1) = -1 then 0 else 1) := h6
  refine ⟨⟨fun f hf => h1 f (by omega), h2, fun f hf => h3 f (by omega), by omega, by omega, by omega, h7⟩, ?_, by omega, fun hm => ?_⟩
  · show 41 * (200 - U) + rr_pt A (T + 1) + 1 ≤ 41 * (200 - U) + (rr_pt A (T + 1) + (41 - A (T + 1)))
    omega
  · rw [if_neg hm] at e6
    omega
theorem rr_ph1 (h : rr_fr T L V U ru pl be sv mx A B G) : 1 ≤ rr_ph U T A := by
  obtain ⟨h1, _⟩ := h
  have e1 := (h1 T (by omega)).2.2.1
  show 1 ≤ 41 * (200 - U) + (rr_pt A T + (41 - A T))
  omega
end
/-- no frame's place is beyond its stream's end -/
def rr_pl (K T : Nat) (ru sr ln : Nat → Int32) (A : Nat → Nat) : Prop := ∀ f, f < T + 1 → ∀ r l, r < 8 → l ≤ 40 → ma_nw sr (ru f) K = nI r → ln r = nI l → A f ≤ l
theorem rr_pl0 (K : Nat) (ru sr ln : Nat → Int32) : rr_pl K 0 ru sr ln (fun _ => 0) := fun _ _ _ _ _ _ _ _ => Nat.zero_le _
theorem rr_plt {K T : Nat} {ru sr ln : Nat → Int32} {A : Nat → Nat} (h : rr_pl K T ru sr ln A) {r l : Nat} (hr : r < 8) (hl : l ≤ 40) (e : ma_nw sr (ru T) K = nI r) (e' : ln r = nI l) (ha : A T < l) : rr_pl K T ru sr ln (rr_up A T (A T + 1)) := by
  intro f hf r' l' hr' hl' g g'
  by_cases z : f = T
  · rw [z] at g
    rw [e, nI_eq (by omega) (by omega)] at g
    rw [← g, e', nI_eq (by omega) (by omega)] at g'
    rw [z, rr_us]
    omega
  · rw [rr_un z]
    exact h f hf r' l' hr' hl' g g'
theorem rr_ple {K T : Nat} {ru sr ln : Nat → Int32} {A : Nat → Nat} (h : rr_pl K T ru sr ln A) (s : Int32) : rr_pl K (T + 1) (upd ru (T + 1) s) sr ln (rr_up A (T + 1) 0) := by
  intro f hf r' l' hr' hl' g g'
  by_cases z : f = T + 1
  · rw [z, rr_us]
    omega
  · rw [rr_un z]
    rw [pk_un z] at g
    exact h f (by omega) r' l' hr' hl' g g'
theorem rr_plx {K T : Nat} {ru sr ln : Nat → Int32} {A : Nat → Nat} (h : rr_pl K (T + 1) ru sr ln A) : rr_pl K T ru sr ln A := fun f hf => h f (by omega)
