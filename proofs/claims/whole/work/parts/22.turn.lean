section
variable {dl xc tc tm xn md lo en qn yc yn : Int32} {nt : Int64} {dO dA dB xo xa xb xl st xr rg xv pl tr xk xm wt xw xt xi mc xe xz ti yo ya yb yl cu ag yv yr yt yi yk ym li ye qu yd ys yz : Nat → Int32} {tk : Nat → Int64} {run i p : Nat} {T C : Int} {G : Nat → Int32 → Prop}
theorem mp_RR_up {C' : Int} {u : SX} {v : SY} (h : mp_RR p T C tm xn yn u v) (h1 : C ≤ C') (h2 : C' < 2 ^ 40) : mp_RR p T C' tm xn yn u v := by
  obtain ⟨dl, nt, tc, md, lo, en, dO, dA, dB, xo, xa, xb, xl, st, xr, rg, xv, pl, tr, xk, xm, wt, xw, xt, xi, mc, tk, xe, xz, ti, qn, yo, ya, yb, yl, cu, ag, yv, yr, yt, yi, yk, ym, li, ye, qu, yd, ys, yz, e1, e2, a, b⟩ := h
  exact ⟨dl, nt, tc, md, lo, en, dO, dA, dB, xo, xa, xb, xl, st, xr, rg, xv, pl, tr, xk, xm, wt, xw, xt, xi, mc, tk, xe, xz, ti, qn, yo, ya, yb, yl, cu, ag, yv, yr, yt, yi, yk, ym, li, ye, qu, yd, ys, yz, e1, e2, fun z => mp_F_R (a z) h1 h2, fun z => mp_F_R (b z) h1 h2⟩
theorem mp_OP_up {C' : Int} {op a b : Int32} {u : SX} {v : SY} (h : mp_OP p op a b T C tm xn yn u v) (h1 : C ≤ C') (h2 : C' < 2 ^ 40) : mp_OP p op a b T C' tm xn yn u v := by
  obtain ⟨u1, u2, u3, v3, a1, a2, a3, a4, a5, a6⟩ := h
  exact ⟨u1, u2, u3, v3, a1, a2, a3, a4, a5, mp_RR_up a6 h1 h2⟩
theorem mp_op {op a b : Int32} {pn : Nat} (h : (mp_D dl dO dA dB ∧ mp_C xo xa xb xl yo ya yb yl cu ∧ mp_V st xv yv xl cu ∧ mp_P st pl ∧ mp_S st ∧ mp_M st mc xt xi yt yi ∧ mp_K st xk yk ∧ mp_K st xm ym ∧ mp_W st xw li ye tm ∧ mp_T tm tc ti T ∧ mp_Q st tk nt p qu qn ∧ mp_E st xr yr ∧ mp_Z 0 st xr xe xz 0 yd ys yz 0 ∧ mp_F st nt C ∧ mp_G (fun _ _ => True) st xv yz)) (hp : p < 8) (h1 : st p = 1) (hok : mp_ok op a b) (hpl : pl p = nI (pn + 1)) (hpn : pn < 24) (ht : tc.toInt + 1 ≤ tm.toInt) (hT1 : T < 1900000000) (hC1 : C + 1 < 2 ^ 40) : mp_OP p op a b T (C + 1) tm xn yn (dl, nt, 0, tc, tm, xn, md, lo, en, dO, dA, dB, xo, xa, xb, xl, st, xr, rg, xv, pl, tr, xk, xm, wt, xw, xt, xi, mc, tk, xe, xz, ti) (dl, qn, 0, tm, tc, yn, md, lo, en, yo, ya, yb, yl, cu, ag, dO, dA, dB, st, rg, pl, yv, yr, tr, yt, yi, mc, yk, ym, wt, li, ye, qu, yd, ys, yz, ti) := by
  have up : ∀ {op a b}, mp_OP p op a b T C tm xn yn (dl, nt, 0, tc, tm, xn, md, lo, en, dO, dA, dB, xo, xa, xb, xl, st, xr, rg, xv, pl, tr, xk, xm, wt, xw, xt, xi, mc, tk, xe, xz, ti) (dl, qn, 0, tm, tc, yn, md, lo, en, yo, ya, yb, yl, cu, ag, dO, dA, dB, st, rg, pl, yv, yr, tr, yt, yi, mc, yk, ym, wt, li, ye, qu, yd, ys, yz, ti) → mp_OP p op a b T (C + 1) tm xn yn (dl, nt, 0, tc, tm, xn, md, lo, en, dO, dA, dB, xo, xa, xb, xl, st, xr, rg, xv, pl, tr, xk, xm, wt, xw, xt, xi, mc, tk, xe, xz, ti) (dl, qn, 0, tm, tc, yn, md, lo, en, yo, ya, yb, yl, cu, ag, dO, dA, dB, st, rg, pl, yv, yr, tr, yt, yi, mc, yk, ym, wt, li, ye, qu, yd, ys, yz, ti) := fun w => mp_OP_up w (by omega) hC1
  rcases hok with ⟨ho, ha⟩ | ⟨ho, ha, hb⟩ | ⟨rfl, ha⟩ | ⟨rfl, ha, hb⟩ | ⟨rfl, ha, hb⟩ | ⟨rfl, ha, hb⟩ | ⟨rfl, ha, hb⟩ | ⟨rfl, hb⟩ | ⟨rfl, ha⟩
  · rcases ho with rfl | rfl | rfl | rfl | rfl | rfl | rfl
    · exact up (mp_op0 h hp h1 ha)
    · exact up (mp_op9 h hp h1 ha)
    · exact up (mp_op10 h hp h1 ha)
    · exact up (mp_op11 h hp h1 ha)
    · exact up (mp_op12 h hp h1 ha)
    · exact up (mp_op14 h hp h1 ha)
    · exact up (mp_op17 h hp h1 ha ht hT1)
  · rcases ho with rfl | rfl | rfl | rfl
    · exact up (mp_op1 h hp h1 ha hb)
    · exact up (mp_op2 h hp h1 ha hb)
    · exact up (mp_op3 h hp h1 ha hb)
    · exact up (mp_op13 h hp h1 ha hb)
  · exact up (mp_op4 h hp h1 ha)
  · exact up (mp_op5 h hp h1 ha hb)
  · exact up (mp_op6 h hp h1 ha)
  · exact mp_op7 h hp h1 hb hpl hpn hT1 hC1
  · exact mp_op8 h hp h1 ha hC1
  · exact up (mp_op15 h hp h1 hb)
  · exact up (mp_op16 h hp h1 ha)
/-! has it a next instruction -/
theorem mp_next (h : (mp_D dl dO dA dB ∧ mp_C xo xa xb xl yo ya yb yl cu ∧ mp_V st xv yv xl cu ∧ mp_P st pl ∧ mp_S st ∧ mp_M st mc xt xi yt yi ∧ mp_K st xk yk ∧ mp_K st xm ym ∧ mp_W st xw li ye tm ∧ mp_T tm tc ti T ∧ mp_Q st tk nt run qu qn ∧ mp_E st xr yr ∧ mp_Z i st xr xe xz xc yd ys yz yc ∧ mp_F st nt C ∧ mp_G G st xv yz)) (hp : p < 8) (ha : mp_al st p) : ∃ a b n pn, a < 8 ∧ b < 8 ∧ n ≤ 24 ∧ pn ≤ 24 ∧ xv p = nI a ∧ yv p = nI b ∧ xl a = nI n ∧ yl b = nI n ∧ pl p = nI pn ∧ ∀ i, i < n → xo (24 * a + i) = yo (24 * b + i) ∧ xa (24 * a + i) = ya (24 * b + i) ∧ xb (24 * a + i) = yb (24 * b + i) ∧ mp_ok (yo (24 * b + i)) (ya (24 * b + i)) (yb (24 * b + i)) := by
  obtain ⟨a, b, ha8, hb8, e1, e2, n, hn0, hn, e3, e4, rows⟩ := mp_ver h.2.1 h.2.2.1 hp ha
  obtain ⟨pn, hpn, e5, _⟩ := h.2.2.2.1 p hp ha
  exact ⟨a, b, n, pn, ha8, hb8, hn, hpn, e1, e2, e3, e4, e5, rows⟩
theorem mx_next_t {post : Int32 → Prop} {a n pn : Nat} (hp : p < 8) (ha : a < 8) (hn : n ≤ 24) (e1 : xv p = nI a) (e3 : xl a = nI n) (e5 : pl p = nI pn) (hlt : pn < n) (h : post 1) : wpX_hasNext post (dl, nt, xc, tc, tm, xn, md, lo, en, dO, dA, dB, xo, xa, xb, xl, st, xr, rg, xv, pl, tr, xk, xm, wt, xw, xt, xi, mc, tk, xe, xz, ti) (nI p) := by
  have c := nI_clamp (n := p) (by omega)
  have I := vp_in_nI (n := p) (N := 8) hp (by omega)
  have ca := nI_clamp (n := a) (by omega)
  have Ia := vp_in_nI (n := a) (N := 8) ha (by omega)
  unfold wpX_hasNext
  dsimp only
  rw [c, e1, ca, e3, e5]
  exact ⟨I, I, Ia, br_f (nI_ge hlt (by omega)) h⟩
theorem mx_next_f {post : Int32 → Prop} {a n pn : Nat} (hp : p < 8) (ha : a < 8) (hpn : pn ≤ 24) (e1 : xv p = nI a) (e3 : xl a = nI n) (e5 : pl p = nI pn) (hlt : n ≤ pn) (h : post 0) : wpX_hasNext post (dl, nt, xc, tc, tm, xn, md, lo, en, dO, dA, dB, xo, xa, xb, xl, st, xr, rg, xv, pl, tr, xk, xm, wt, xw, xt, xi, mc, tk, xe, xz, ti) (nI p) := by
  have c := nI_clamp (n := p) (by omega)
  have I := vp_in_nI (n := p) (N := 8) hp (by omega)
  have ca := nI_clamp (n := a) (by omega)
  have Ia := vp_in_nI (n := a) (N := 8) ha (by omega)
  unfold wpX_hasNext
  dsimp only
  rw [c, e1, ca, e3, e5]
  exact ⟨I, I, Ia, br_t (nI_le hlt (by omega)) h⟩
theorem my_stands_t {post : Int32 → SY → Prop} {b n pn : Nat} (hp : p < 8) (hb : b < 8) (hn : n ≤ 24) (e1 : yv p = nI b) (e3 : yl b = nI n) (e5 : pl p = nI pn) (hlt : pn < n) (h : post 1 (dl, qn, yc, tm, tc, yn, md, lo, en, yo, ya, yb, yl, cu, ag, dO, dA, dB, st, rg, pl, yv, yr, tr, yt, yi, mc, yk, ym, wt, li, ye, qu, yd, ys, yz, ti)) : wpY_stands post (dl, qn, yc, tm, tc, yn, md, lo, en, yo, ya, yb, yl, cu, ag, dO, dA, dB, st, rg, pl, yv, yr, tr, yt, yi, mc, yk, ym, wt, li, ye, qu, yd, ys, yz, ti) (nI p) := by
  have c := nI_clamp (n := p) (by omega)
  have I := vp_in_nI (n := p) (N := 8) hp (by omega)
  have ca := nI_clamp (n := b) (by omega)
  have Ia := vp_in_nI (n := b) (N := 8) hb (by omega)
  unfold wpY_stands
  dsimp only
  rw [c, e1, ca, e3, e5]
  exact ⟨I, I, Ia, br_f (nI_ge hlt (by omega)) h⟩
/-! nothing left to do: it ends with 0 -/
theorem mp_nonext {a b n pn : Nat} (h : (mp_D dl dO dA dB ∧ mp_C xo xa xb xl yo ya yb yl cu ∧ mp_V st xv yv xl cu ∧ mp_P st pl ∧ mp_S st ∧ mp_M st mc xt xi yt yi ∧ mp_K st xk yk ∧ mp_K st xm ym ∧ mp_W st xw li ye tm ∧ mp_T tm tc ti T ∧ mp_Q st tk nt p qu qn ∧ mp_E st xr yr ∧ mp_Z 0 st xr xe xz 0 yd ys yz 0 ∧ mp_F st nt C ∧ mp_G (fun _ _ => True) st xv yz)) (hp : p < 8) (h1 : st p = 1) (ha : a < 8) (hb : b < 8) (hpn : pn ≤ 24) (e1 : xv p = nI a) (e2 : yv p = nI b) (e3 : xl a = nI n) (e4 : yl b = nI n) (e5 : pl p = nI pn) (hlt : n ≤ pn) : ∃ (st' : Nat → Int32) (tk' : Nat → Int64) (nt' : Int64) (qu' : Nat → Int32) (qn' : Int32) (mc' xt' xi' yt' yi' : Nat → Int32) (lo' : Int32) (xr' xe' xz' : Nat → Int32) (xc' : Int32) (yd' ys' yz' : Nat → Int32) (yc' : Int32) (xk' yk' xm' ym' yr' : Nat → Int32) (en' : Int32), (∀ (post : SX → Prop) J k, post (dl, nt', 0, tc, tm, xn, md, lo', en', dO, dA, dB, xo, xa, xb, xl, st', xr', rg, xv, pl, tr, xk', xm', wt, xw, xt', xi', mc', tk', xe', xz', ti) → wX_takeTurn_103 post J (nI p) k dl nt 0 tc tm xn md lo en dO dA dB xo xa xb xl st xr rg xv pl tr xk xm wt xw xt xi mc tk xe xz ti) ∧ (∀ (post : Int32 → SY → Prop), post 0 (dl, qn', 0, tm, tc, yn, md, lo', en', yo, ya, yb, yl, cu, ag, dO, dA, dB, st', rg, pl, yv, yr', tr, yt', yi', mc', yk', ym', wt, li, ye, qu', yd', ys', yz', ti) → wpY_stands post (dl, qn, 0, tm, tc, yn, md, lo, en, yo, ya, yb, yl, cu, ag, dO, dA, dB, st, rg, pl, yv, yr, tr, yt, yi, mc, yk, ym, wt, li, ye, qu, yd, ys, yz, ti) (nI p)) ∧ st' p ≠ 1 ∧ (mp_D dl dO dA dB ∧ mp_C xo xa xb xl yo ya yb yl cu ∧ mp_V st' xv yv xl cu ∧ mp_P st' pl ∧ mp_S st' ∧ mp_M st' mc' xt' xi' yt' yi' ∧ mp_K st' xk' yk' ∧ mp_K st' xm' ym' ∧ mp_W st' xw li ye tm ∧ mp_T tm tc ti T ∧ mp_Q st' tk' nt' 8 qu' qn' ∧ mp_E st' xr' yr' ∧ mp_Z 0 st' xr' xe' xz' 0 yd' ys' yz' 0 ∧ mp_F st' nt' C ∧ mp_G (fun _ _ => True) st' xv yz') := by
  have c := nI_clamp (n := p) (by omega)
  have I := vp_in_nI (n := p) (N := 8) hp (by omega)
  have cb := nI_clamp (n := b) (by omega)
  have Ib := vp_in_nI (n := b) (N := 8) hb (by omega)
  obtain ⟨hx, hy, h2⟩ := mp_doom_0 (reason := 0) h hp (Or.inl h1)
  obtain ⟨st', tk', nt', qu', qn', mc', xt', xi', yt', yi', lo', xr', xe', xz', xc', yd', ys', yz', yc', xk', yk', xm', ym', yr', en', hX, hY, hR⟩ := mp_settle (dl := dl) (nt := nt) (xc := nI (0 + 1)) (tc := tc) (tm := tm) (xn := xn) (md := md) (lo := lo) (en := en) (dO := dO) (dA := dA) (dB := dB) (xo := xo) (xa := xa) (xb := xb) (xl := xl) (st := st) (xr := upd xr p 0) (rg := rg) (xv := xv) (pl := pl) (tr := tr) (xk := xk) (xm := xm) (wt := wt) (xw := xw) (xt := xt) (xi := xi) (mc := mc) (tk := tk) (xe := upd xe 0 (nI p)) (xz := upd xz p 1) (ti := ti) (qn := qn) (yc := nI (0 + 1)) (yn := yn) (yo := yo) (ya := ya) (yb := yb) (yl := yl) (cu := cu) (ag := ag) (yv := yv) (yr := yr) (yt := yt) (yi := yi) (yk := yk) (ym := ym) (li := li) (ye := ye) (qu := qu) (yd := upd yd 0 (nI p)) (ys := upd ys 0 0) (yz := upd yz p 1) h2
  have hz := mp_Z_none hR.2.2.2.2.2.2.2.2.2.2.2.2.1
  have hs : st' p ≠ 1 := fun z => (hR.2.2.2.2.2.2.2.2.2.2.2.2.2.2 p hp (Or.inl z) (hz.2 p hp).1).2 rfl
  refine ⟨st', tk', nt', qu', qn', mc', xt', xi', yt', yi', lo', xr', xe', xz', xc', yd', ys', yz', yc', xk', yk', xm', ym', yr', en', fun post J k hq => ?_, fun post hq => ?_, hs, mp_norun_R (mp_G_R hR (fun _ _ _ => trivial)) hs⟩
  · unfold wX_takeTurn_103
    rw [c]
    refine ⟨I, br_t h1 (mx_next_f hp ha hpn e1 e3 e5 hlt (br_t rfl (mx_mark (d := 0) hp (by omega) hx (hX _ ?_))))⟩
    unfold wX_takeTurn_131
    rw [c]
    exact ⟨I, br_f hs hq⟩
  · unfold wpY_stands
    dsimp only
    rw [c, e2, cb, e4, e5]
    exact ⟨I, I, Ib, br_t (nI_le hlt (by omega)) (my_doom (d := 0) hp (by omega) hy (hY _ hq))⟩
/-! one instruction -/
theorem my_sel1 {post : SY → Prop} {v : SY} {q op a b : Int32} (h : op < 6 ∨ op = 9) (w : my_disp post v q op a b) : wpY_simple post v q op a b := by
  rcases w with ⟨_, w⟩ | ⟨a1, a2, _⟩ | ⟨a1, a2, _⟩ | ⟨a1, a2, _⟩
  · exact w
  all_goals exact absurd h (fun z => z.elim a1 a2)
theorem my_sel2 {post : SY → Prop} {v : SY} {q op a b : Int32} (h1 : ¬ op < 6) (h2 : ¬ op = 9) (h3 : op = 7) (w : my_disp post v q op a b) : wpY_receive post v q a b := by
  rcases w with ⟨z, _⟩ | ⟨_, _, _, w⟩ | ⟨_, _, a3, _⟩ | ⟨_, _, a3, _⟩
  · exact absurd z (fun z => z.elim h1 h2)
  · exact w
  · exact absurd h3 a3
  · exact absurd h3 a3
theorem my_sel3 {post : SY → Prop} {v : SY} {q op a b : Int32} (h1 : ¬ op < 6) (h2 : ¬ op = 9) (h3 : ¬ op = 7) (h4 : 13 ≤ op) (w : my_disp post v q op a b) : wpY_last post v q op a b := by
  rcases w with ⟨z, _⟩ | ⟨_, _, a3, _⟩ | ⟨_, _, _, _, w⟩ | ⟨_, _, _, a4, _⟩
  · exact absurd z (fun z => z.elim h1 h2)
  · exact absurd a3 h3
  · exact w
  · exact absurd h4 a4
theorem my_sel4 {post : SY → Prop} {v : SY} {q op a b : Int32} (h1 : ¬ op < 6) (h2 : ¬ op = 9) (h3 : ¬ op = 7) (h4 : ¬ 13 ≤ op) (w : my_disp post v q op a b) : wpY_others post v q op a b := by
  rcases w with ⟨z, _⟩ | ⟨_, _, a3, _⟩ | ⟨_, _, _, a4, _⟩ | ⟨_, _, _, _, w⟩
  · exact absurd z (fun z => z.elim h1 h2)
  · exact absurd a3 h3
  · exact absurd a4 h4
  · exact w
theorem mp_instr {a b n pn : Nat} (h : (mp_D dl dO dA dB ∧ mp_C xo xa xb xl yo ya yb yl cu ∧ mp_V st xv yv xl cu ∧ mp_P st pl ∧ mp_S st ∧ mp_M st mc xt xi yt yi ∧ mp_K st xk yk ∧ mp_K st xm ym ∧ mp_W st xw li ye tm ∧ mp_T tm tc ti T ∧ mp_Q st tk nt p qu qn ∧ mp_E st xr yr ∧ mp_Z 0 st xr xe xz 0 yd ys yz 0 ∧ mp_F st nt C ∧ mp_G (fun _ _ => True) st xv yz)) (hp : p < 8) (h1 : st p = 1) (ha : a < 8) (hb : b < 8) (hn : n ≤ 24) (e1 : xv p = nI a) (e2 : yv p = nI b) (e3 : xl a = nI n) (e5 : pl p = nI pn) (hlt : pn < n) (rows : ∀ i, i < n → xo (24 * a + i) = yo (24 * b + i) ∧ xa (24 * a + i) = ya (24 * b + i) ∧ xb (24 * a + i) = yb (24 * b + i) ∧ mp_ok (yo (24 * b + i)) (ya (24 * b + i)) (yb (24 * b + i))) (hT1 : T + 1 < 1900000000) (hC1 : C + 1 < 2 ^ 40) :
    ∃ (dl' : Int32) (nt' : Int64) (tc' md' lo' en' : Int32) (dO' dA' dB' xo' xa' xb' xl' st' xr' rg' xv' pl' tr' xk' xm' wt' xw' xt' xi' mc' : Nat → Int32) (tk' : Nat → Int64) (xe' xz' ti' : Nat → Int32) (qn' : Int32) (yo' ya' yb' yl' cu' ag' yv' yr' yt' yi' yk' ym' li' ye' qu' yd' ys' yz' : Nat → Int32), (∀ (post : SX → Prop) m k, k < 8 → wX_takeTurn_103 post (wX_takeTurn_2 post (nI p) m) (nI p) (nI k) dl' nt' 0 tc' (tm + 1) xn md' lo' en' dO' dA' dB' xo' xa' xb' xl' st' xr' rg' xv' pl' tr' xk' xm' wt' xw' xt' xi' mc' tk' xe' xz' ti' → wX_takeTurn_2 post (nI p) (m + 1) (nI k) dl nt 0 tc tm xn md lo en dO dA dB xo xa xb xl st xr rg xv pl tr xk xm wt xw xt xi mc tk xe xz ti) ∧ (∀ (post : SY → Prop), post (dl', qn', 0, tm + 1, tc', yn, md', lo', en', yo', ya', yb', yl', cu', ag', dO', dA', dB', st', rg', pl', yv', yr', tr', yt', yi', mc', yk', ym', wt', li', ye', qu', yd', ys', yz', ti') → wpY_instruction post (dl, qn, 0, tm, tc, yn, md, lo, en, yo, ya, yb, yl, cu, ag, dO, dA, dB, st, rg, pl, yv, yr, tr, yt, yi, mc, yk, ym, wt, li, ye, qu, yd, ys, yz, ti) (nI p)) ∧ (st' p = 1 → (mp_D dl' dO' dA' dB' ∧ mp_C xo' xa' xb' xl' yo' ya' yb' yl' cu' ∧ mp_V st' xv' yv' xl' cu' ∧ mp_P st' pl' ∧ mp_S st' ∧ mp_M st' mc' xt' xi' yt' yi' ∧ mp_K st' xk' yk' ∧ mp_K st' xm' ym' ∧ mp_W st' xw' li' ye' (tm + 1) ∧ mp_T (tm + 1) tc' ti' (T + 1) ∧ mp_Q st' tk' nt' p qu' qn' ∧ mp_E st' xr' yr' ∧ mp_Z 0 st' xr' xe' xz' 0 yd' ys' yz' 0 ∧ mp_F st' nt' (C + 1) ∧ mp_G (fun _ _ => True) st' xv' yz')) ∧ (st' p ≠ 1 → (mp_D dl' dO' dA' dB' ∧ mp_C xo' xa' xb' xl' yo' ya' yb' yl' cu' ∧ mp_V st' xv' yv' xl' cu' ∧ mp_P st' pl' ∧ mp_S st' ∧ mp_M st' mc' xt' xi' yt' yi' ∧ mp_K st' xk' yk' ∧ mp_K st' xm' ym' ∧ mp_W st' xw' li' ye' (tm + 1) ∧ mp_T (tm + 1) tc' ti' (T + 1) ∧ mp_Q st' tk' nt' 8 qu' qn' ∧ mp_E st' xr' yr' ∧ mp_Z 0 st' xr' xe' xz' 0 yd' ys' yz' 0 ∧ mp_F st' nt' (C + 1) ∧ mp_G (fun _ _ => True) st' xv' yz')) ∧ (tm + 1).toInt = tm.toInt + 1 := by
  obtain ⟨hR1, et⟩ := mp_tick_R h (by omega)
  have hR2 := mp_place_R (p := p) (n := pn + 1) hR1 (by rw [h1]; decide) (by omega)
  obtain ⟨r1, r2, r3, hok⟩ := rows pn hlt
  have htc : tc.toInt + 1 ≤ (tm + 1).toInt := by
    have := h.2.2.2.2.2.2.2.2.2.1.2.2.2.1
    omega
  obtain ⟨u1, u2, u3, v3, hA, hB, hFi, hY, hcd, hRR⟩ := mp_op (dl := dl) (nt := nt) (tc := tc) (tm := tm + 1) (xn := xn) (md := md) (lo := lo) (en := en) (dO := dO) (dA := dA) (dB := dB) (xo := xo) (xa := xa) (xb := xb) (xl := xl) (st := st) (xr := xr) (rg := rg) (xv := xv) (pl := upd pl p (nI (pn + 1))) (tr := tr) (xk := xk) (xm := xm) (wt := wt) (xw := xw) (xt := xt) (xi := xi) (mc := mc) (tk := tk) (xe := xe) (xz := xz) (ti := ti) (qn := qn) (yn := yn) (yo := yo) (ya := ya) (yb := yb) (yl := yl) (cu := cu) (ag := ag) (yv := yv) (yr := yr) (yt := yt) (yi := yi) (yk := yk) (ym := ym) (li := li) (ye := ye) (qu := qu) (yd := yd) (ys := ys) (yz := yz) (pn := pn) hR2 hp h1 hok pk_us (by omega) htc (by omega) hC1
  obtain ⟨dl', nt', tc', md', lo', en', dO', dA', dB', xo', xa', xb', xl', st', xr', rg', xv', pl', tr', xk', xm', wt', xw', xt', xi', mc', tk', xe', xz', ti', qn', yo', ya', yb', yl', cu', ag', yv', yr', yt', yi', yk', ym', li', ye', qu', yd', ys', yz', rfl, rfl, q1, q2⟩ := hRR
  obtain ⟨dls1, nts1, xcs1, tcs1, tms1, xns1, mds1, los1, ens1, dOs1, dAs1, dBs1, xos1, xas1, xbs1, xls1, sts1, xrs1, rgs1, xvs1, pls1, trs1, xks1, xms1, wts1, xws1, xts1, xis1, mcs1, tks1, xes1, xzs1, tis1⟩ := u1
  obtain ⟨dls2, nts2, xcs2, tcs2, tms2, xns2, mds2, los2, ens2, dOs2, dAs2, dBs2, xos2, xas2, xbs2, xls2, sts2, xrs2, rgs2, xvs2, pls2, trs2, xks2, xms2, wts2, xws2, xts2, xis2, mcs2, tks2, xes2, xzs2, tis2⟩ := u2
  have hcd' : (xos1, xas1, xbs1) = (xo, xa, xb) := hcd
  simp only [Prod.mk.injEq] at hcd'
  obtain ⟨rfl, rfl, rfl⟩ := hcd'
  have c := nI_clamp (n := p) (by omega)
  have I := vp_in_nI (n := p) (N := 8) hp (by omega)
  have cx := nI_clamp (n := 24 * a + pn) (by omega)
  have Ix := vp_in_nI (n := 24 * a + pn) (N := 192) (by omega) (by omega)
  have cy := nI_clamp (n := 24 * b + pn) (by omega)
  have Iy := vp_in_nI (n := 24 * b + pn) (N := 192) (by omega) (by omega)
  refine ⟨dl', nt', tc', md', lo', en', dO', dA', dB', xo', xa', xb', xl', st', xr', rg', xv', pl', tr', xk', xm', wt', xw', xt', xi', mc', tk', xe', xz', ti', qn', yo', ya', yb', yl', cu', ag', yv', yr', yt', yi', yk', ym', li', ye', qu', yd', ys', yz', fun post m k hk hq => ?_, fun post hq => ?_, q1, q2, et⟩
  · refine br_f (nI_ge (b := 8) hk (by omega)) (mx_next_t hp ha hn e1 e3 e5 hlt (br_f (by decide) (And.intro I (And.intro I ?_))))
    rw [c, e1, e5, mp_x24, nI_add, nI_1]
    refine nm_e (nm_e ⟨I, I, nm_e ⟨Ix, Ix, Ix, ?_⟩⟩)
    rw [cx, r1, r2, r3]
    refine hA _ ⟨Ix, Ix, Ix, ?_⟩
    rw [r1, r2, r3]
    exact hB _ (hFi _ hq)
  · unfold wpY_instruction
    dsimp only
    rw [c, e2, e5, mp_24x, nI_add, nI_1]
    refine ⟨I, I, nm_e ⟨Iy, nm_e ⟨Iy, nm_e (nm_e ⟨I, I, nm_e ⟨Iy, ?_⟩⟩)⟩⟩⟩
    rw [cy]
    refine br_c (fun g1 => ⟨Iy, ?_⟩) (fun g1 => ⟨Iy, br_c (fun g2 => ⟨Iy, ?_⟩) (fun g2 => ⟨Iy, br_c (fun g3 => ?_) (fun g3 => ⟨Iy, br_c (fun g4 => ⟨Iy, ?_⟩) (fun g4 => ⟨Iy, ?_⟩)⟩)⟩)⟩)
    · rw [cy]
      exact my_sel1 (Or.inl g1) (hY _ hq)
    · rw [cy]
      exact my_sel1 (Or.inr g2) (hY _ hq)
    · exact my_sel2 g1 g2 g3 (hY _ hq)
    · exact my_sel3 g1 g2 g3 g4 (hY _ hq)
    · exact my_sel4 g1 g2 g3 g4 (hY _ hq)
end
