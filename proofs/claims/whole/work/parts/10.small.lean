section
variable {dl xc tc tm xn md lo en qn yc yn : Int32} {nt : Int64} {dO dA dB xo xa xb xl st xr rg xv pl tr xk xm wt xw xt xi mc xe xz ti yo ya yb yl cu ag yv yr yt yi yk ym li ye qu yd ys yz : Nat → Int32} {tk : Nat → Int64} {run i p : Nat} {T C : Int} {G : Nat → Int32 → Prop}
theorem mp_x2 (p : Nat) : nI p * 2 = nI (2 * p) := by rw [Nat.mul_comm]; exact pk_mul p 2
theorem mp_x4 (p : Nat) : nI p * 4 = nI (4 * p) := by rw [Nat.mul_comm]; exact pk_mul p 4
theorem mp_x12 (p : Nat) : nI p * 12 = nI (12 * p) := by rw [Nat.mul_comm]; exact pk_mul p 12
theorem mp_x24 (p : Nat) : nI p * 24 = nI (24 * p) := by rw [Nat.mul_comm]; exact pk_mul p 24
theorem mp_2x (p : Nat) : 2 * nI p = nI (2 * p) := pk_mul 2 p
theorem mp_4x (p : Nat) : 4 * nI p = nI (4 * p) := pk_mul 4 p
theorem mp_8x (p : Nat) : 8 * nI p = nI (8 * p) := pk_mul 8 p
theorem mp_12x (p : Nat) : 12 * nI p = nI (12 * p) := pk_mul 12 p
theorem mp_24x (p : Nat) : 24 * nI p = nI (24 * p) := pk_mul 24 p
theorem mp_n8 {b : Nat} (h : b < 2 ^ 31) : (8 : Int32) ≤ nI b ↔ 8 ≤ b := nI_leI (a := 8) (by omega) h
theorem mp_n4 {b : Nat} (h : b < 2 ^ 31) : (4 : Int32) ≤ nI b ↔ 4 ≤ b := nI_leI (a := 4) (by omega) h
theorem mp_n12 {b : Nat} (h : b < 2 ^ 31) : (12 : Int32) ≤ nI b ↔ 12 ≤ b := nI_leI (a := 12) (by omega) h
theorem mp_n11 {b : Nat} (h : b < 2 ^ 31) : (11 : Int32) ≤ nI b ↔ 11 ≤ b := nI_leI (a := 11) (by omega) h
theorem mp_n24 {b : Nat} (h : b < 2 ^ 31) : (24 : Int32) ≤ nI b ↔ 24 ≤ b := nI_leI (a := 24) (by omega) h
/-! is it below -/
def mp_out (x : Int32) (n : Nat) : Prop := x < 0 ∨ (¬ x < 0 ∧ nI n ≤ x)
theorem mp_bel (x : Int32) {n : Nat} (hn : n < 2 ^ 31) : (∃ j, j < n ∧ x = nI j) ∨ (mp_out x n ∧ ∀ j, j < n → x ≠ nI j) := by
  rcases mp_below x hn with h | ⟨h1, h2⟩
  · exact Or.inl h
  · exact Or.inr ⟨h2, fun j hj e => h1 ⟨j, hj, e⟩⟩
theorem mx_bel_t {post : Int32 → Prop} {j n : Nat} (hj : j < n) (hn : n < 2 ^ 31) (h : post 1) : wpX_isBelow post (nI j) (nI n) := br_f (nI_pos (by omega)) (br_f (nI_ge hj hn) h)
theorem mx_bel_f {post : Int32 → Prop} {x : Int32} {n : Nat} (hx : mp_out x n) (h : post 0) : wpX_isBelow post x (nI n) := by
  rcases hx with hx | ⟨hx, hy⟩
  · exact br_t hx h
  · exact br_f hx (br_t hy h)
theorem my_bel_t {post : Int32 → Prop} {j n : Nat} (hj : j < n) (hn : n < 2 ^ 31) (h : post 1) : wpY_among post (dl, qn, yc, tm, tc, yn, md, lo, en, yo, ya, yb, yl, cu, ag, dO, dA, dB, st, rg, pl, yv, yr, tr, yt, yi, mc, yk, ym, wt, li, ye, qu, yd, ys, yz, ti) (nI j) (nI n) := br_f (nI_pos (by omega)) (br_f (nI_ge hj hn) h)
theorem my_bel_f {post : Int32 → Prop} {x : Int32} {n : Nat} (hx : mp_out x n) (h : post 0) : wpY_among post (dl, qn, yc, tm, tc, yn, md, lo, en, yo, ya, yb, yl, cu, ag, dO, dA, dB, st, rg, pl, yv, yr, tr, yt, yi, mc, yk, ym, wt, li, ye, qu, yd, ys, yz, ti) x (nI n) := by
  rcases hx with hx | ⟨hx, hy⟩
  · exact br_t hx h
  · exact br_f hx (br_t hy h)
/-! alive -/
def mp_dead (st : Nat → Int32) (x : Int32) : Prop := mp_out x 8 ∨ ∃ p, p < 8 ∧ x = nI p ∧ st p ≠ 1 ∧ st p ≠ 2
theorem mp_alx (hS : mp_S st) (x : Int32) : (∃ p, p < 8 ∧ x = nI p ∧ mp_al st p) ∨ (mp_dead st x ∧ ∀ p, p < 8 → x = nI p → ¬ mp_al st p) := by
  rcases mp_bel x (n := 8) (by omega) with ⟨p, hp, e⟩ | ⟨h, h2⟩
  · rcases mp_al_of hS hp with ⟨ha, _⟩ | ⟨ha, _, h1, h2⟩
    · exact Or.inl ⟨p, hp, e, ha⟩
    · refine Or.inr ⟨Or.inr ⟨p, hp, e, h1, h2⟩, fun q hq eq => ?_⟩
      have : p = q := by
        rw [e, nI_eq (by omega) (by omega)] at eq
        exact eq
      exact this ▸ ha
  · exact Or.inr ⟨Or.inl h, fun q hq eq => absurd eq (h2 q hq)⟩
theorem mp_deadp (hp : p < 8) (h : ¬ mp_al st p) : mp_dead st (nI p) := Or.inr ⟨p, hp, rfl, fun z => h (Or.inl z), fun z => h (Or.inr z)⟩
theorem mx_al_t {post : Int32 → Prop} (hp : p < 8) (ha : mp_al st p) (h : post 1) : wpX_isAlive post (dl, nt, xc, tc, tm, xn, md, lo, en, dO, dA, dB, xo, xa, xb, xl, st, xr, rg, xv, pl, tr, xk, xm, wt, xw, xt, xi, mc, tk, xe, xz, ti) (nI p) := by
  unfold wpX_isAlive
  dsimp only
  have c := nI_clamp (n := p) (by omega)
  have I := vp_in_nI (n := p) (N := 8) hp (by omega)
  refine mx_bel_t (n := 8) hp (by omega) (br_f (by decide) (And.intro I ?_))
  rw [c]
  rcases ha with ha | ha
  · exact br_t ha h
  · exact br_f (by rw [ha]; decide) ⟨I, br_t ha h⟩
theorem mx_al_f {post : Int32 → Prop} {x : Int32} (hx : mp_dead st x) (h : post 0) : wpX_isAlive post (dl, nt, xc, tc, tm, xn, md, lo, en, dO, dA, dB, xo, xa, xb, xl, st, xr, rg, xv, pl, tr, xk, xm, wt, xw, xt, xi, mc, tk, xe, xz, ti) x := by
  unfold wpX_isAlive
  dsimp only
  rcases hx with hx | ⟨p, hp, rfl, h1, h2⟩
  · exact mx_bel_f (n := 8) hx (br_t rfl h)
  · have c := nI_clamp (n := p) (by omega)
    have I := vp_in_nI (n := p) (N := 8) hp (by omega)
    refine mx_bel_t (n := 8) hp (by omega) (br_f (by decide) (And.intro I ?_))
    rw [c]
    exact br_f h1 ⟨I, br_f h2 h⟩
theorem my_al_t {post : Int32 → Prop} (hp : p < 8) (ha : mp_al st p) (h : post 1) : wpY_alive post (dl, qn, yc, tm, tc, yn, md, lo, en, yo, ya, yb, yl, cu, ag, dO, dA, dB, st, rg, pl, yv, yr, tr, yt, yi, mc, yk, ym, wt, li, ye, qu, yd, ys, yz, ti) (nI p) := by
  unfold wpY_alive
  dsimp only
  have c := nI_clamp (n := p) (by omega)
  have I := vp_in_nI (n := p) (N := 8) hp (by omega)
  refine my_bel_t (n := 8) hp (by omega) (br_f (by decide) (And.intro I ?_))
  rw [c]
  rcases ha with ha | ha
  · exact br_t ha h
  · exact br_f (by rw [ha]; decide) ⟨I, br_t ha h⟩
theorem my_al_f {post : Int32 → Prop} {x : Int32} (hx : mp_dead st x) (h : post 0) : wpY_alive post (dl, qn, yc, tm, tc, yn, md, lo, en, yo, ya, yb, yl, cu, ag, dO, dA, dB, st, rg, pl, yv, yr, tr, yt, yi, mc, yk, ym, wt, li, ye, qu, yd, ys, yz, ti) x := by
  unfold wpY_alive
  dsimp only
  rcases hx with hx | ⟨p, hp, rfl, h1, h2⟩
  · exact my_bel_f (n := 8) hx (br_t rfl h)
  · have c := nI_clamp (n := p) (by omega)
    have I := vp_in_nI (n := p) (N := 8) hp (by omega)
    refine my_bel_t (n := 8) hp (by omega) (br_f (by decide) (And.intro I ?_))
    rw [c]
    exact br_f h1 ⟨I, br_f h2 h⟩
/-! to the back of the queue; marking -/
theorem mx_back {post : SX → Prop} (hp : p < 8) (h : post (dl, nt + 1, xc, tc, tm, xn, md, lo, en, dO, dA, dB, xo, xa, xb, xl, upd st p 1, xr, rg, xv, pl, tr, xk, xm, wt, xw, xt, xi, mc, vp_updL tk p nt, xe, xz, ti)) : wpX_goToBack post (dl, nt, xc, tc, tm, xn, md, lo, en, dO, dA, dB, xo, xa, xb, xl, st, xr, rg, xv, pl, tr, xk, xm, wt, xw, xt, xi, mc, tk, xe, xz, ti) (nI p) := by
  have c := nI_clamp (n := p) (by omega)
  have I := vp_in_nI (n := p) (N := 8) hp (by omega)
  unfold wpX_goToBack
  simp only [c, I, forall_eq, true_implies, false_implies, not_true_eq_false, not_false_eq_true, and_true, true_and]
  exact h
theorem my_enq {post : SY → Prop} {n : Nat} (hp : p < 8) (hn : n < 8) (h : post (dl, nI (n + 1), yc, tm, tc, yn, md, lo, en, yo, ya, yb, yl, cu, ag, dO, dA, dB, upd st p 1, rg, pl, yv, yr, tr, yt, yi, mc, yk, ym, wt, li, ye, upd qu n (nI p), yd, ys, yz, ti)) : wpY_enqueue post (dl, nI n, yc, tm, tc, yn, md, lo, en, yo, ya, yb, yl, cu, ag, dO, dA, dB, st, rg, pl, yv, yr, tr, yt, yi, mc, yk, ym, wt, li, ye, qu, yd, ys, yz, ti) (nI p) := by
  have c := nI_clamp (n := p) (by omega)
  have c2 := nI_clamp (n := n) (by omega)
  have I := vp_in_nI (n := p) (N := 8) hp (by omega)
  have I2 := vp_in_nI (n := n) (N := 8) hn (by omega)
  unfold wpY_enqueue
  simp only [c, c2, I, I2, nI_1, forall_eq, true_implies, false_implies, not_true_eq_false, not_false_eq_true, and_true, true_and]
  exact h
theorem mp_b1n : vp_nar .boolean 1 = 1 := by decide
theorem mp_b0n : vp_nar .boolean 0 = 0 := by decide
theorem mx_mark {post : SX → Prop} {reason : Int32} {d : Nat} (hp : p < 8) (hd : d < 8) (hz : xz p = 0) (h : post (dl, nt, nI (d + 1), tc, tm, xn, md, lo, en, dO, dA, dB, xo, xa, xb, xl, st, upd xr p reason, rg, xv, pl, tr, xk, xm, wt, xw, xt, xi, mc, tk, upd xe d (nI p), upd xz p 1, ti)) : wpX_markToEnd post (dl, nt, nI d, tc, tm, xn, md, lo, en, dO, dA, dB, xo, xa, xb, xl, st, xr, rg, xv, pl, tr, xk, xm, wt, xw, xt, xi, mc, tk, xe, xz, ti) (nI p) reason := by
  have c := nI_clamp (n := p) (by omega)
  have c2 := nI_clamp (n := d) (by omega)
  have I := vp_in_nI (n := p) (N := 8) hp (by omega)
  have I2 := vp_in_nI (n := d) (N := 8) hd (by omega)
  have l : nI d < 8 := nI_lt (b := 8) hd (by omega)
  unfold wpX_markToEnd
  simp only [c, c2, I, I2, nI_1, hz, l, mp_b1n, forall_eq, true_implies, false_implies, not_true_eq_false, not_false_eq_true, and_true, true_and]
  exact h
theorem mx_mark0 {post : SX → Prop} {reason : Int32} (hp : p < 8) (hz : xz p ≠ 0) (h : post (dl, nt, xc, tc, tm, xn, md, lo, en, dO, dA, dB, xo, xa, xb, xl, st, xr, rg, xv, pl, tr, xk, xm, wt, xw, xt, xi, mc, tk, xe, xz, ti)) : wpX_markToEnd post (dl, nt, xc, tc, tm, xn, md, lo, en, dO, dA, dB, xo, xa, xb, xl, st, xr, rg, xv, pl, tr, xk, xm, wt, xw, xt, xi, mc, tk, xe, xz, ti) (nI p) reason := by
  have c := nI_clamp (n := p) (by omega)
  have I := vp_in_nI (n := p) (N := 8) hp (by omega)
  unfold wpX_markToEnd
  simp only [c, I, hz, forall_eq, true_implies, false_implies, not_true_eq_false, not_false_eq_true, and_true, true_and]
  exact h
theorem my_doom {post : SY → Prop} {reason : Int32} {d : Nat} (hp : p < 8) (hd : d < 8) (hz : yz p = 0) (h : post (dl, qn, nI (d + 1), tm, tc, yn, md, lo, en, yo, ya, yb, yl, cu, ag, dO, dA, dB, st, rg, pl, yv, yr, tr, yt, yi, mc, yk, ym, wt, li, ye, qu, upd yd d (nI p), upd ys d reason, upd yz p 1, ti)) : wpY_doom post (dl, qn, nI d, tm, tc, yn, md, lo, en, yo, ya, yb, yl, cu, ag, dO, dA, dB, st, rg, pl, yv, yr, tr, yt, yi, mc, yk, ym, wt, li, ye, qu, yd, ys, yz, ti) (nI p) reason := by
  have c := nI_clamp (n := p) (by omega)
  have c2 := nI_clamp (n := d) (by omega)
  have I := vp_in_nI (n := p) (N := 8) hp (by omega)
  have I2 := vp_in_nI (n := d) (N := 8) hd (by omega)
  unfold wpY_doom
  simp only [c, c2, I, I2, nI_1, hz, mp_b1n, forall_eq, true_implies, false_implies, not_true_eq_false, not_false_eq_true, and_true, true_and]
  exact h
theorem my_doom0 {post : SY → Prop} {reason : Int32} (hp : p < 8) (hz : yz p ≠ 0) (h : post (dl, qn, yc, tm, tc, yn, md, lo, en, yo, ya, yb, yl, cu, ag, dO, dA, dB, st, rg, pl, yv, yr, tr, yt, yi, mc, yk, ym, wt, li, ye, qu, yd, ys, yz, ti)) : wpY_doom post (dl, qn, yc, tm, tc, yn, md, lo, en, yo, ya, yb, yl, cu, ag, dO, dA, dB, st, rg, pl, yv, yr, tr, yt, yi, mc, yk, ym, wt, li, ye, qu, yd, ys, yz, ti) (nI p) reason := by
  have c := nI_clamp (n := p) (by omega)
  have I := vp_in_nI (n := p) (N := 8) hp (by omega)
  unfold wpY_doom
  simp only [c, I, hz, forall_eq, true_implies, false_implies, not_true_eq_false, not_false_eq_true, and_true, true_and]
  exact h
end
