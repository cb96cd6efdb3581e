section
variable {dl xc tc tm xn md lo en qn yc yn : Int32} {nt : Int64} {dO dA dB xo xa xb xl st xr rg xv pl tr xk xm wt xw xt xi mc xe xz ti yo ya yb yl cu ag yv yr yt yi yk ym li ye qu yd ys yz : Nat → Int32} {tk : Nat → Int64} {run i p : Nat} {T C : Int} {G : Nat → Int32 → Prop}
theorem mp_nI_inj {a b : Nat} (ha : a < 2 ^ 31) (hb : b < 2 ^ 31) (h : a ≠ b) : ¬ nI a = nI b := fun z => h ((nI_eq ha hb).mp z)
theorem mp_link {q : Nat} (hK : mp_K st xk yk) (hp : p < 8) (hq : q < 8) (ap : mp_al st p) (aq : mp_al st q) : ∃ xk' yk' : Nat → Int32, (∀ post : SX → Prop, post (dl, nt, xc, tc, tm, xn, md, lo, en, dO, dA, dB, xo, xa, xb, xl, st, xr, rg, xv, pl, tr, xk', xm, wt, xw, xt, xi, mc, tk, xe, xz, ti) → wpX_link post (dl, nt, xc, tc, tm, xn, md, lo, en, dO, dA, dB, xo, xa, xb, xl, st, xr, rg, xv, pl, tr, xk, xm, wt, xw, xt, xi, mc, tk, xe, xz, ti) (nI p) (nI q)) ∧ (∀ post : SY → Prop, post (dl, qn, yc, tm, tc, yn, md, lo, en, yo, ya, yb, yl, cu, ag, dO, dA, dB, st, rg, pl, yv, yr, tr, yt, yi, mc, yk', ym, wt, li, ye, qu, yd, ys, yz, ti) → wpY_link post (dl, qn, yc, tm, tc, yn, md, lo, en, yo, ya, yb, yl, cu, ag, dO, dA, dB, st, rg, pl, yv, yr, tr, yt, yi, mc, yk, ym, wt, li, ye, qu, yd, ys, yz, ti) (nI p) (nI q) 1) ∧ mp_K st xk' yk' := by
  by_cases e : p = q
  · subst e
    exact ⟨xk, yk, fun post h => br_t rfl h, fun post h => br_t rfl h, hK⟩
  · have cp := nI_clamp (n := p) (by omega)
    have Ip := vp_in_nI (n := p) (N := 8) hp (by omega)
    have cq := nI_clamp (n := q) (by omega)
    have Iq := vp_in_nI (n := q) (N := 8) hq (by omega)
    have c1 := nI_clamp (n := 8 * p + q) (by omega)
    have c2 := nI_clamp (n := 8 * q + p) (by omega)
    have I1 := vp_in_nI (n := 8 * p + q) (N := 64) (by omega) (by omega)
    have I2 := vp_in_nI (n := 8 * q + p) (N := 64) (by omega) (by omega)
    have ne := mp_nI_inj (a := p) (b := q) (by omega) (by omega) e
    have h1 := mp_K_set hK hp hq e ap aq
    have h2 := mp_K_set h1 hq hp (Ne.symm e) aq ap
    refine ⟨_, _, fun post h => br_f ne ?_, fun post h => br_f ne ?_, h2⟩
    · rw [cp, cq]
      exact ⟨Ip, Ip, nm_e ⟨Iq, Iq, nm_e h⟩⟩
    · rw [mp_8x, nI_add, mp_8x, nI_add, c1, c2, mp_b1n]
      exact ⟨I1, nm_e ⟨I2, nm_e h⟩⟩
theorem mx_unl {post : SX → Prop} {q : Nat} (hp : p < 8) (hq : q < 8) (h : post (dl, nt, xc, tc, tm, xn, md, lo, en, dO, dA, dB, xo, xa, xb, xl, st, xr, rg, xv, pl, tr, upd (upd xk p (xk p &&& (((1 : Int32) <<< (nI q &&& 31)) ^^^ (-1)))) q (upd xk p (xk p &&& (((1 : Int32) <<< (nI q &&& 31)) ^^^ (-1))) q &&& (((1 : Int32) <<< (nI p &&& 31)) ^^^ (-1))), xm, wt, xw, xt, xi, mc, tk, xe, xz, ti)) : wpX_unlink post (dl, nt, xc, tc, tm, xn, md, lo, en, dO, dA, dB, xo, xa, xb, xl, st, xr, rg, xv, pl, tr, xk, xm, wt, xw, xt, xi, mc, tk, xe, xz, ti) (nI p) (nI q) := by
  have cp := nI_clamp (n := p) (by omega)
  have Ip := vp_in_nI (n := p) (N := 8) hp (by omega)
  have cq := nI_clamp (n := q) (by omega)
  have Iq := vp_in_nI (n := q) (N := 8) hq (by omega)
  unfold wpX_unlink
  dsimp only
  refine mx_bel_t (n := 8) hq (by omega) (br_f (by decide) (And.intro Ip ?_))
  rw [cp, cq]
  exact ⟨Ip, nm_e ⟨Iq, Iq, nm_e h⟩⟩
theorem mp_op6 {a b : Int32} (h : (mp_D dl dO dA dB ∧ mp_C xo xa xb xl yo ya yb yl cu ∧ mp_V st xv yv xl cu ∧ mp_P st pl ∧ mp_S st ∧ mp_M st mc xt xi yt yi ∧ mp_K st xk yk ∧ mp_K st xm ym ∧ mp_W st xw li ye tm ∧ mp_T tm tc ti T ∧ mp_Q st tk nt p qu qn ∧ mp_E st xr yr ∧ mp_Z 0 st xr xe xz 0 yd ys yz 0 ∧ mp_F st nt C ∧ mp_G (fun _ _ => True) st xv yz)) (hp : p < 8) (h1 : st p = 1) (ha : mp_lt a 4) : mp_OP p 6 a b T C tm xn yn (dl, nt, 0, tc, tm, xn, md, lo, en, dO, dA, dB, xo, xa, xb, xl, st, xr, rg, xv, pl, tr, xk, xm, wt, xw, xt, xi, mc, tk, xe, xz, ti) (dl, qn, 0, tm, tc, yn, md, lo, en, yo, ya, yb, yl, cu, ag, dO, dA, dB, st, rg, pl, yv, yr, tr, yt, yi, mc, yk, ym, wt, li, ye, qu, yd, ys, yz, ti) := by
  obtain ⟨j, hj, rfl⟩ := ha
  have c := nI_clamp (n := 4 * p + j) (by omega)
  have I := vp_in_nI (n := 4 * p + j) (N := 32) (by omega) (by omega)
  have c4 := nI_clamp (n := 4 * p) (by omega)
  have I4 := vp_in_nI (n := 4 * p) (N := 32) (by omega) (by omega)
  rcases mp_alx h.2.2.2.2.1 (rg (4 * p + j)) with ⟨q, hq, eq, haq⟩ | ⟨hd, _⟩
  · obtain ⟨r, st', tk', nt', qu', qn', mc', xt', xi', yt', yi', lo', hX, hY, hR, _, _⟩ := mp_deliver (dl := dl) (nt := nt) (xc := 0) (tc := tc) (tm := tm) (xn := xn) (md := md) (lo := lo) (en := en) (dO := dO) (dA := dA) (dB := dB) (xo := xo) (xa := xa) (xb := xb) (xl := xl) (st := st) (xr := xr) (rg := rg) (xv := xv) (pl := pl) (tr := tr) (xk := xk) (xm := xm) (wt := wt) (xw := xw) (xt := xt) (xi := xi) (mc := mc) (tk := tk) (xe := xe) (xz := xz) (ti := ti) (qn := qn) (yc := 0) (yn := yn) (yo := yo) (ya := ya) (yb := yb) (yl := yl) (cu := cu) (ag := ag) (yv := yv) (yr := yr) (yt := yt) (yi := yi) (yk := yk) (ym := ym) (li := li) (ye := ye) (qu := qu) (yd := yd) (ys := ys) (yz := yz) h hq haq b (rg (4 * p))
    refine ⟨(dl, nt, 0, tc, tm, xn, md, lo, en, dO, dA, dB, xo, xa, xb, xl, st, xr, rg, xv, pl, tr, xk, xm, wt, xw, xt, xi, mc, tk, xe, xz, ti), (dl, nt', 0, tc, tm, xn, md, lo', en, dO, dA, dB, xo, xa, xb, xl, st', xr, rg, xv, pl, tr, xk, xm, wt, xw, xt', xi', mc', tk', xe, xz, ti), (dl, nt', 0, tc, tm, xn, md, lo', en, dO, dA, dB, xo, xa, xb, xl, st', xr, rg, xv, pl, tr, xk, xm, wt, xw, xt', xi', mc', tk', xe, xz, ti), (dl, qn', 0, tm, tc, yn, md, lo', en, yo, ya, yb, yl, cu, ag, dO, dA, dB, st', rg, pl, yv, yr, tr, yt', yi', mc', yk, ym, wt, li, ye, qu', yd, ys, yz, ti), fun post hq' => ?_, fun post hq' => ?_, fun post hq' => mx_fin0 hq', fun post hq' => Or.inr (Or.inr (Or.inr ⟨by decide, by decide, by decide, by decide, ?_⟩)), rfl, mp_RR_s hR⟩
    · refine nm_r (mp_x4 p) (br_f (by decide) (br_f (by decide) (br_f (by decide) (br_f (by decide) (br_f (by decide) (br_f (by decide) (br_f (by decide) (br_f (by decide) (br_t rfl ?_)))))))))
      exact hq'
    · refine nm_r (mp_x4 p) (br_f (by decide) (br_f (by decide) (br_t rfl ?_)))
      rw [nI_add, c, c4, eq]
      refine ⟨I, I4, ?_⟩
      unfold wpX_sendTo
      dsimp only
      exact mx_al_t hq haq (br_f (by decide) (hX _ hq'))
    · refine br_f (by decide) ?_
      rw [mp_4a, c, eq]
      refine ⟨I, ?_⟩
      unfold wY_others_20
      refine my_al_t hq haq (br_f (by decide) (br_f (by decide) (br_t rfl ?_)))
      rw [mp_4x, c4]
      exact br_f (by decide) ⟨I4, hY _ hq'⟩
  · refine ⟨(dl, nt, 0, tc, tm, xn, md, lo, en, dO, dA, dB, xo, xa, xb, xl, st, xr, rg, xv, pl, tr, xk, xm, wt, xw, xt, xi, mc, tk, xe, xz, ti), (dl, nt, 0, tc, tm, xn, md, lo + 1, en, dO, dA, dB, xo, xa, xb, xl, st, xr, rg, xv, pl, tr, xk, xm, wt, xw, xt, xi, mc, tk, xe, xz, ti), (dl, nt, 0, tc, tm, xn, md, lo + 1, en, dO, dA, dB, xo, xa, xb, xl, st, xr, rg, xv, pl, tr, xk, xm, wt, xw, xt, xi, mc, tk, xe, xz, ti), (dl, qn, 0, tm, tc, yn, md, lo + 1, en, yo, ya, yb, yl, cu, ag, dO, dA, dB, st, rg, pl, yv, yr, tr, yt, yi, mc, yk, ym, wt, li, ye, qu, yd, ys, yz, ti), fun post hq' => ?_, fun post hq' => ?_, fun post hq' => mx_fin0 hq', fun post hq' => Or.inr (Or.inr (Or.inr ⟨by decide, by decide, by decide, by decide, ?_⟩)), rfl, mp_RR_1 h1 h⟩
    · refine nm_r (mp_x4 p) (br_f (by decide) (br_f (by decide) (br_f (by decide) (br_f (by decide) (br_f (by decide) (br_f (by decide) (br_f (by decide) (br_f (by decide) (br_t rfl ?_)))))))))
      exact hq'
    · refine nm_r (mp_x4 p) (br_f (by decide) (br_f (by decide) (br_t rfl ?_)))
      rw [nI_add, c, c4]
      refine ⟨I, I4, ?_⟩
      unfold wpX_sendTo
      dsimp only
      exact mx_al_f hd (br_t rfl (nm_e hq'))
    · refine br_f (by decide) ?_
      rw [mp_4a, c]
      refine ⟨I, ?_⟩
      unfold wY_others_20
      refine my_al_f hd (br_f (by decide) (br_f (by decide) (br_t rfl ?_)))
      exact br_t rfl (nm_e hq')
theorem mp_op10 {a b : Int32} (h : (mp_D dl dO dA dB ∧ mp_C xo xa xb xl yo ya yb yl cu ∧ mp_V st xv yv xl cu ∧ mp_P st pl ∧ mp_S st ∧ mp_M st mc xt xi yt yi ∧ mp_K st xk yk ∧ mp_K st xm ym ∧ mp_W st xw li ye tm ∧ mp_T tm tc ti T ∧ mp_Q st tk nt p qu qn ∧ mp_E st xr yr ∧ mp_Z 0 st xr xe xz 0 yd ys yz 0 ∧ mp_F st nt C ∧ mp_G (fun _ _ => True) st xv yz)) (hp : p < 8) (h1 : st p = 1) (ha : mp_lt a 4) : mp_OP p 10 a b T C tm xn yn (dl, nt, 0, tc, tm, xn, md, lo, en, dO, dA, dB, xo, xa, xb, xl, st, xr, rg, xv, pl, tr, xk, xm, wt, xw, xt, xi, mc, tk, xe, xz, ti) (dl, qn, 0, tm, tc, yn, md, lo, en, yo, ya, yb, yl, cu, ag, dO, dA, dB, st, rg, pl, yv, yr, tr, yt, yi, mc, yk, ym, wt, li, ye, qu, yd, ys, yz, ti) := by
  obtain ⟨j, hj, rfl⟩ := ha
  have c := nI_clamp (n := 4 * p + j) (by omega)
  have I := vp_in_nI (n := 4 * p + j) (N := 32) (by omega) (by omega)
  rcases mp_alx h.2.2.2.2.1 (rg (4 * p + j)) with ⟨q, hq, eq, haq⟩ | ⟨hd, _⟩
  · obtain ⟨xk', yk', hX, hY, hk⟩ := mp_link (dl := dl) (nt := nt) (xc := 0) (tc := tc) (tm := tm) (xn := xn) (md := md) (lo := lo) (en := en) (dO := dO) (dA := dA) (dB := dB) (xo := xo) (xa := xa) (xb := xb) (xl := xl) (st := st) (xr := xr) (rg := rg) (xv := xv) (pl := pl) (tr := tr) (xk := xk) (xm := xm) (wt := wt) (xw := xw) (xt := xt) (xi := xi) (mc := mc) (tk := tk) (xe := xe) (xz := xz) (ti := ti) (qn := qn) (yc := 0) (yn := yn) (yo := yo) (ya := ya) (yb := yb) (yl := yl) (cu := cu) (ag := ag) (yv := yv) (yr := yr) (yt := yt) (yi := yi) (yk := yk) (ym := ym) (li := li) (ye := ye) (qu := qu) (yd := yd) (ys := ys) (yz := yz) h.2.2.2.2.2.2.1 hp hq (Or.inl h1) haq
    refine ⟨(dl, nt, 0, tc, tm, xn, md, lo, en, dO, dA, dB, xo, xa, xb, xl, st, xr, rg, xv, pl, tr, xk, xm, wt, xw, xt, xi, mc, tk, xe, xz, ti), (dl, nt, 0, tc, tm, xn, md, lo, en, dO, dA, dB, xo, xa, xb, xl, st, xr, rg, xv, pl, tr, xk', xm, wt, xw, xt, xi, mc, tk, xe, xz, ti), (dl, nt, 0, tc, tm, xn, md, lo, en, dO, dA, dB, xo, xa, xb, xl, st, xr, rg, xv, pl, tr, xk', xm, wt, xw, xt, xi, mc, tk, xe, xz, ti), (dl, qn, 0, tm, tc, yn, md, lo, en, yo, ya, yb, yl, cu, ag, dO, dA, dB, st, rg, pl, yv, yr, tr, yt, yi, mc, yk', ym, wt, li, ye, qu, yd, ys, yz, ti), fun post hq' => ?_, fun post hq' => ?_, fun post hq' => mx_fin0 hq', fun post hq' => Or.inr (Or.inr (Or.inr ⟨by decide, by decide, by decide, by decide, ?_⟩)), rfl, mp_RR_1 h1 (mp_K_R h hk h.2.2.2.2.2.2.2.1)⟩
    · refine nm_r (mp_x4 p) (br_f (by decide) (br_f (by decide) (br_f (by decide) (br_f (by decide) (br_f (by decide) (br_f (by decide) (br_f (by decide) (br_f (by decide) (br_f (by decide) (br_f (by decide) (br_f (by decide) (br_f (by decide) (br_t rfl ?_)))))))))))))
      exact hq'
    · refine nm_r (mp_x4 p) (br_f (by decide) (br_f (by decide) (br_f (by decide) (br_f (by decide) (br_f (by decide) (br_f (by decide) (br_t rfl ?_)))))))
      rw [nI_add, c, eq]
      exact ⟨I, mx_al_t hq haq (br_f (by decide) ⟨I, hX _ hq'⟩)⟩
    · refine br_f (by decide) ?_
      rw [mp_4a, c, eq]
      refine ⟨I, ?_⟩
      unfold wY_others_20
      refine my_al_t hq haq (br_f (by decide) (br_f (by decide) (br_f (by decide) (br_f (by decide) (br_f (by decide) (br_f (by decide) (br_t rfl ?_)))))))
      exact br_f (by decide) (hY _ hq')
  · obtain ⟨st', tk', nt', qu', qn', mc', xt', xi', yt', yi', lo', xr', xe', xz', xc', yd', ys', yz', yc', hX1, hY1, hR1, _, _⟩ := mp_signal (dl := dl) (nt := nt) (xc := 0) (tc := tc) (tm := tm) (xn := xn) (md := md) (lo := lo) (en := en) (dO := dO) (dA := dA) (dB := dB) (xo := xo) (xa := xa) (xb := xb) (xl := xl) (st := st) (xr := xr) (rg := rg) (xv := xv) (pl := pl) (tr := tr) (xk := xk) (xm := xm) (wt := wt) (xw := xw) (xt := xt) (xi := xi) (mc := mc) (tk := tk) (xe := xe) (xz := xz) (ti := ti) (qn := qn) (yc := 0) (yn := yn) (yo := yo) (ya := ya) (yb := yb) (yl := yl) (cu := cu) (ag := ag) (yv := yv) (yr := yr) (yt := yt) (yi := yi) (yk := yk) (ym := ym) (li := li) (ye := ye) (qu := qu) (yd := yd) (ys := ys) (yz := yz) h hp (Or.inl h1) (nI p) 7
    obtain ⟨st'', tk'', nt'', qu'', qn'', mc'', xt'', xi'', yt'', yi'', lo'', xr'', xe'', xz'', xc'', yd'', ys'', yz'', yc'', xk'', yk'', xm'', ym'', yr'', en'', hX, hY, hR⟩ := mp_settle (dl := dl) (nt := nt') (xc := xc') (tc := tc) (tm := tm) (xn := xn) (md := md) (lo := lo') (en := en) (dO := dO) (dA := dA) (dB := dB) (xo := xo) (xa := xa) (xb := xb) (xl := xl) (st := st') (xr := xr') (rg := rg) (xv := xv) (pl := pl) (tr := tr) (xk := xk) (xm := xm) (wt := wt) (xw := xw) (xt := xt') (xi := xi') (mc := mc') (tk := tk') (xe := xe') (xz := xz') (ti := ti) (qn := qn') (yc := yc') (yn := yn) (yo := yo) (ya := ya) (yb := yb) (yl := yl) (cu := cu) (ag := ag) (yv := yv) (yr := yr) (yt := yt') (yi := yi') (yk := yk) (ym := ym) (li := li) (ye := ye) (qu := qu') (yd := yd') (ys := ys') (yz := yz') hR1
    refine ⟨(dl, nt, 0, tc, tm, xn, md, lo, en, dO, dA, dB, xo, xa, xb, xl, st, xr, rg, xv, pl, tr, xk, xm, wt, xw, xt, xi, mc, tk, xe, xz, ti), (dl, nt', xc', tc, tm, xn, md, lo', en, dO, dA, dB, xo, xa, xb, xl, st', xr', rg, xv, pl, tr, xk, xm, wt, xw, xt', xi', mc', tk', xe', xz', ti), (dl, nt'', 0, tc, tm, xn, md, lo'', en'', dO, dA, dB, xo, xa, xb, xl, st'', xr'', rg, xv, pl, tr, xk'', xm'', wt, xw, xt'', xi'', mc'', tk'', xe'', xz'', ti), (dl, qn'', 0, tm, tc, yn, md, lo'', en'', yo, ya, yb, yl, cu, ag, dO, dA, dB, st'', rg, pl, yv, yr'', tr, yt'', yi'', mc'', yk'', ym'', wt, li, ye, qu'', yd'', ys'', yz'', ti), fun post hq' => ?_, fun post hq' => ?_, hX, fun post hq' => Or.inr (Or.inr (Or.inr ⟨by decide, by decide, by decide, by decide, ?_⟩)), rfl, mp_RR_s hR⟩
    · refine nm_r (mp_x4 p) (br_f (by decide) (br_f (by decide) (br_f (by decide) (br_f (by decide) (br_f (by decide) (br_f (by decide) (br_f (by decide) (br_f (by decide) (br_f (by decide) (br_f (by decide) (br_f (by decide) (br_f (by decide) (br_t rfl ?_)))))))))))))
      exact hq'
    · refine nm_r (mp_x4 p) (br_f (by decide) (br_f (by decide) (br_f (by decide) (br_f (by decide) (br_f (by decide) (br_f (by decide) (br_t rfl ?_)))))))
      rw [nI_add, c]
      exact ⟨I, mx_al_f hd (br_t rfl (br_t rfl (hX1 _ hq')))⟩
    · refine br_f (by decide) ?_
      rw [mp_4a, c]
      refine ⟨I, ?_⟩
      unfold wY_others_20
      refine my_al_f hd (br_f (by decide) (br_f (by decide) (br_f (by decide) (br_f (by decide) (br_f (by decide) (br_f (by decide) (br_t rfl ?_)))))))
      exact br_t rfl (hY1 _ (hY _ hq'))
theorem mp_op11 {a b : Int32} (h : (mp_D dl dO dA dB ∧ mp_C xo xa xb xl yo ya yb yl cu ∧ mp_V st xv yv xl cu ∧ mp_P st pl ∧ mp_S st ∧ mp_M st mc xt xi yt yi ∧ mp_K st xk yk ∧ mp_K st xm ym ∧ mp_W st xw li ye tm ∧ mp_T tm tc ti T ∧ mp_Q st tk nt p qu qn ∧ mp_E st xr yr ∧ mp_Z 0 st xr xe xz 0 yd ys yz 0 ∧ mp_F st nt C ∧ mp_G (fun _ _ => True) st xv yz)) (hp : p < 8) (h1 : st p = 1) (ha : mp_lt a 4) : mp_OP p 11 a b T C tm xn yn (dl, nt, 0, tc, tm, xn, md, lo, en, dO, dA, dB, xo, xa, xb, xl, st, xr, rg, xv, pl, tr, xk, xm, wt, xw, xt, xi, mc, tk, xe, xz, ti) (dl, qn, 0, tm, tc, yn, md, lo, en, yo, ya, yb, yl, cu, ag, dO, dA, dB, st, rg, pl, yv, yr, tr, yt, yi, mc, yk, ym, wt, li, ye, qu, yd, ys, yz, ti) := by
  obtain ⟨j, hj, rfl⟩ := ha
  have c := nI_clamp (n := 4 * p + j) (by omega)
  have I := vp_in_nI (n := 4 * p + j) (N := 32) (by omega) (by omega)
  have hK := h.2.2.2.2.2.2.1
  have zz : ∀ q, q < 8 → (¬ mp_al st q ∨ q = p) → yk (8 * p + q) = 0 ∧ yk (8 * q + p) = 0 := fun q hq w => by
    constructor
    · by_cases z : yk (8 * p + q) = 0
      · exact z
      · obtain ⟨_, w1, w2⟩ := (hK p hp).2 q hq z
        rcases w with w | w
        · exact absurd w1 w
        · exact absurd w.symm w2
    · by_cases z : yk (8 * q + p) = 0
      · exact z
      · obtain ⟨w1, _, w2⟩ := (hK q hq).2 p hp z
        rcases w with w | w
        · exact absurd w1 w
        · exact absurd w w2
  rcases mp_alx h.2.2.2.2.1 (rg (4 * p + j)) with ⟨q, hq, eq, haq⟩ | ⟨hd, hd2⟩
  · by_cases e : q = p
    · obtain ⟨z1, z2⟩ := zz q hq (Or.inr e)
      have k1 := mp_K_clr0 hK hp hq z1
      have k2 := mp_K_clr0 k1 hq hp z2
      refine ⟨(dl, nt, 0, tc, tm, xn, md, lo, en, dO, dA, dB, xo, xa, xb, xl, st, xr, rg, xv, pl, tr, xk, xm, wt, xw, xt, xi, mc, tk, xe, xz, ti), _, _, (dl, qn, 0, tm, tc, yn, md, lo, en, yo, ya, yb, yl, cu, ag, dO, dA, dB, st, rg, pl, yv, yr, tr, yt, yi, mc, yk, ym, wt, li, ye, qu, yd, ys, yz, ti), fun post hq' => ?_, fun post hq' => ?_, fun post hq' => mx_fin0 hq', fun post hq' => Or.inr (Or.inr (Or.inr ⟨by decide, by decide, by decide, by decide, ?_⟩)), rfl, mp_RR_1 h1 (mp_K_R h k2 h.2.2.2.2.2.2.2.1)⟩
      · refine nm_r (mp_x4 p) (br_f (by decide) (br_f (by decide) (br_f (by decide) (br_f (by decide) (br_f (by decide) (br_f (by decide) (br_f (by decide) (br_f (by decide) (br_f (by decide) (br_f (by decide) (br_f (by decide) (br_f (by decide) (br_f (by decide) (br_t rfl ?_))))))))))))))
        exact hq'
      · refine nm_r (mp_x4 p) (br_f (by decide) (br_f (by decide) (br_f (by decide) (br_f (by decide) (br_f (by decide) (br_f (by decide) (br_f (by decide) (br_t rfl ?_))))))))
        rw [nI_add, c, eq]
        exact ⟨I, mx_unl hp hq hq'⟩
      · refine br_f (by decide) ?_
        rw [mp_4a, c, eq]
        refine ⟨I, ?_⟩
        unfold wY_others_20
        refine my_al_t hq haq (br_f (by decide) (br_f (by decide) (br_f (by decide) (br_f (by decide) (br_f (by decide) (br_f (by decide) (br_f (by decide) (br_t rfl ?_))))))))
        exact br_f (by decide) (br_t (congrArg nI e.symm) hq')
    · have k1 := mp_K_clr hK hp hq
      have k2 := mp_K_clr k1 hq hp
      have ne := mp_nI_inj (a := p) (b := q) (by omega) (by omega) (Ne.symm e)
      have c1 := nI_clamp (n := 8 * p + q) (by omega)
      have c2 := nI_clamp (n := 8 * q + p) (by omega)
      have I1 := vp_in_nI (n := 8 * p + q) (N := 64) (by omega) (by omega)
      have I2 := vp_in_nI (n := 8 * q + p) (N := 64) (by omega) (by omega)
      refine ⟨(dl, nt, 0, tc, tm, xn, md, lo, en, dO, dA, dB, xo, xa, xb, xl, st, xr, rg, xv, pl, tr, xk, xm, wt, xw, xt, xi, mc, tk, xe, xz, ti), _, _, (dl, qn, 0, tm, tc, yn, md, lo, en, yo, ya, yb, yl, cu, ag, dO, dA, dB, st, rg, pl, yv, yr, tr, yt, yi, mc, upd (upd yk (8 * p + q) 0) (8 * q + p) 0, ym, wt, li, ye, qu, yd, ys, yz, ti), fun post hq' => ?_, fun post hq' => ?_, fun post hq' => mx_fin0 hq', fun post hq' => Or.inr (Or.inr (Or.inr ⟨by decide, by decide, by decide, by decide, ?_⟩)), rfl, mp_RR_1 h1 (mp_K_R h k2 h.2.2.2.2.2.2.2.1)⟩
      · refine nm_r (mp_x4 p) (br_f (by decide) (br_f (by decide) (br_f (by decide) (br_f (by decide) (br_f (by decide) (br_f (by decide) (br_f (by decide) (br_f (by decide) (br_f (by decide) (br_f (by decide) (br_f (by decide) (br_f (by decide) (br_f (by decide) (br_t rfl ?_))))))))))))))
        exact hq'
      · refine nm_r (mp_x4 p) (br_f (by decide) (br_f (by decide) (br_f (by decide) (br_f (by decide) (br_f (by decide) (br_f (by decide) (br_f (by decide) (br_t rfl ?_))))))))
        rw [nI_add, c, eq]
        exact ⟨I, mx_unl hp hq hq'⟩
      · refine br_f (by decide) ?_
        rw [mp_4a, c, eq]
        refine ⟨I, ?_⟩
        unfold wY_others_20
        refine my_al_t hq haq (br_f (by decide) (br_f (by decide) (br_f (by decide) (br_f (by decide) (br_f (by decide) (br_f (by decide) (br_f (by decide) (br_t rfl ?_))))))))
        refine br_f (by decide) (br_f ne ?_)
        rw [mp_8x, nI_add, mp_8x, nI_add, c1, c2, mp_b0n]
        exact ⟨I1, nm_e ⟨I2, nm_e hq'⟩⟩
  · have hY : ∀ post : SY → Prop, post (dl, qn, 0, tm, tc, yn, md, lo, en, yo, ya, yb, yl, cu, ag, dO, dA, dB, st, rg, pl, yv, yr, tr, yt, yi, mc, yk, ym, wt, li, ye, qu, yd, ys, yz, ti) → my_disp post (dl, qn, 0, tm, tc, yn, md, lo, en, yo, ya, yb, yl, cu, ag, dO, dA, dB, st, rg, pl, yv, yr, tr, yt, yi, mc, yk, ym, wt, li, ye, qu, yd, ys, yz, ti) (nI p) 11 (nI j) b := fun post hq' => Or.inr (Or.inr (Or.inr ⟨by decide, by decide, by decide, by decide, by
      refine br_f (by decide) ?_
      rw [mp_4a, c]
      refine ⟨I, ?_⟩
      unfold wY_others_20
      refine my_al_f hd (br_f (by decide) (br_f (by decide) (br_f (by decide) (br_f (by decide) (br_f (by decide) (br_f (by decide) (br_f (by decide) (br_t rfl ?_))))))))
      exact br_t rfl hq'⟩))
    rcases mp_bel (rg (4 * p + j)) (n := 8) (by omega) with ⟨q, hq, eq⟩ | ⟨ho, _⟩
    · obtain ⟨z1, z2⟩ := zz q hq (Or.inl (hd2 q hq eq))
      have k1 := mp_K_clr0 hK hp hq z1
      have k2 := mp_K_clr0 k1 hq hp z2
      refine ⟨(dl, nt, 0, tc, tm, xn, md, lo, en, dO, dA, dB, xo, xa, xb, xl, st, xr, rg, xv, pl, tr, xk, xm, wt, xw, xt, xi, mc, tk, xe, xz, ti), _, _, (dl, qn, 0, tm, tc, yn, md, lo, en, yo, ya, yb, yl, cu, ag, dO, dA, dB, st, rg, pl, yv, yr, tr, yt, yi, mc, yk, ym, wt, li, ye, qu, yd, ys, yz, ti), fun post hq' => ?_, fun post hq' => ?_, fun post hq' => mx_fin0 hq', hY, rfl, mp_RR_1 h1 (mp_K_R h k2 h.2.2.2.2.2.2.2.1)⟩
      · refine nm_r (mp_x4 p) (br_f (by decide) (br_f (by decide) (br_f (by decide) (br_f (by decide) (br_f (by decide) (br_f (by decide) (br_f (by decide) (br_f (by decide) (br_f (by decide) (br_f (by decide) (br_f (by decide) (br_f (by decide) (br_f (by decide) (br_t rfl ?_))))))))))))))
        exact hq'
      · refine nm_r (mp_x4 p) (br_f (by decide) (br_f (by decide) (br_f (by decide) (br_f (by decide) (br_f (by decide) (br_f (by decide) (br_f (by decide) (br_t rfl ?_))))))))
        rw [nI_add, c, eq]
        exact ⟨I, mx_unl hp hq hq'⟩
    · refine ⟨(dl, nt, 0, tc, tm, xn, md, lo, en, dO, dA, dB, xo, xa, xb, xl, st, xr, rg, xv, pl, tr, xk, xm, wt, xw, xt, xi, mc, tk, xe, xz, ti), (dl, nt, 0, tc, tm, xn, md, lo, en, dO, dA, dB, xo, xa, xb, xl, st, xr, rg, xv, pl, tr, xk, xm, wt, xw, xt, xi, mc, tk, xe, xz, ti), (dl, nt, 0, tc, tm, xn, md, lo, en, dO, dA, dB, xo, xa, xb, xl, st, xr, rg, xv, pl, tr, xk, xm, wt, xw, xt, xi, mc, tk, xe, xz, ti), (dl, qn, 0, tm, tc, yn, md, lo, en, yo, ya, yb, yl, cu, ag, dO, dA, dB, st, rg, pl, yv, yr, tr, yt, yi, mc, yk, ym, wt, li, ye, qu, yd, ys, yz, ti), fun post hq' => ?_, fun post hq' => ?_, fun post hq' => mx_fin0 hq', hY, rfl, mp_RR_1 h1 h⟩
      · refine nm_r (mp_x4 p) (br_f (by decide) (br_f (by decide) (br_f (by decide) (br_f (by decide) (br_f (by decide) (br_f (by decide) (br_f (by decide) (br_f (by decide) (br_f (by decide) (br_f (by decide) (br_f (by decide) (br_f (by decide) (br_f (by decide) (br_t rfl ?_))))))))))))))
        exact hq'
      · refine nm_r (mp_x4 p) (br_f (by decide) (br_f (by decide) (br_f (by decide) (br_f (by decide) (br_f (by decide) (br_f (by decide) (br_f (by decide) (br_t rfl ?_))))))))
        rw [nI_add, c]
        refine ⟨I, ?_⟩
        unfold wpX_unlink
        dsimp only
        exact mx_bel_f (n := 8) ho (br_t rfl hq')
theorem mp_op12 {a b : Int32} (h : (mp_D dl dO dA dB ∧ mp_C xo xa xb xl yo ya yb yl cu ∧ mp_V st xv yv xl cu ∧ mp_P st pl ∧ mp_S st ∧ mp_M st mc xt xi yt yi ∧ mp_K st xk yk ∧ mp_K st xm ym ∧ mp_W st xw li ye tm ∧ mp_T tm tc ti T ∧ mp_Q st tk nt p qu qn ∧ mp_E st xr yr ∧ mp_Z 0 st xr xe xz 0 yd ys yz 0 ∧ mp_F st nt C ∧ mp_G (fun _ _ => True) st xv yz)) (hp : p < 8) (h1 : st p = 1) (ha : mp_lt a 4) : mp_OP p 12 a b T C tm xn yn (dl, nt, 0, tc, tm, xn, md, lo, en, dO, dA, dB, xo, xa, xb, xl, st, xr, rg, xv, pl, tr, xk, xm, wt, xw, xt, xi, mc, tk, xe, xz, ti) (dl, qn, 0, tm, tc, yn, md, lo, en, yo, ya, yb, yl, cu, ag, dO, dA, dB, st, rg, pl, yv, yr, tr, yt, yi, mc, yk, ym, wt, li, ye, qu, yd, ys, yz, ti) := by
  obtain ⟨j, hj, rfl⟩ := ha
  have c := nI_clamp (n := 4 * p + j) (by omega)
  have I := vp_in_nI (n := 4 * p + j) (N := 32) (by omega) (by omega)
  have cp := nI_clamp (n := p) (by omega)
  have Ip := vp_in_nI (n := p) (N := 8) hp (by omega)
  rcases mp_alx h.2.2.2.2.1 (rg (4 * p + j)) with ⟨q, hq, eq, haq⟩ | ⟨hd, _⟩
  · by_cases e : q = p
    · have eq' : rg (4 * p + j) = nI p := by rw [eq, e]
      have haq' : mp_al st p := Or.inl h1
      refine ⟨(dl, nt, 0, tc, tm, xn, md, lo, en, dO, dA, dB, xo, xa, xb, xl, st, xr, rg, xv, pl, tr, xk, xm, wt, xw, xt, xi, mc, tk, xe, xz, ti), (dl, nt, 0, tc, tm, xn, md, lo, en, dO, dA, dB, xo, xa, xb, xl, st, xr, rg, xv, pl, tr, xk, xm, wt, xw, xt, xi, mc, tk, xe, xz, ti), (dl, nt, 0, tc, tm, xn, md, lo, en, dO, dA, dB, xo, xa, xb, xl, st, xr, rg, xv, pl, tr, xk, xm, wt, xw, xt, xi, mc, tk, xe, xz, ti), (dl, qn, 0, tm, tc, yn, md, lo, en, yo, ya, yb, yl, cu, ag, dO, dA, dB, st, rg, pl, yv, yr, tr, yt, yi, mc, yk, ym, wt, li, ye, qu, yd, ys, yz, ti), fun post hq' => ?_, fun post hq' => ?_, fun post hq' => mx_fin0 hq', fun post hq' => Or.inr (Or.inr (Or.inr ⟨by decide, by decide, by decide, by decide, ?_⟩)), rfl, mp_RR_1 h1 h⟩
      · refine nm_r (mp_x4 p) (br_f (by decide) (br_f (by decide) (br_f (by decide) (br_f (by decide) (br_f (by decide) (br_f (by decide) (br_f (by decide) (br_f (by decide) (br_f (by decide) (br_f (by decide) (br_f (by decide) (br_f (by decide) (br_f (by decide) (br_f (by decide) (br_t rfl ?_)))))))))))))))
        exact hq'
      · refine nm_r (mp_x4 p) (br_f (by decide) (br_f (by decide) (br_f (by decide) (br_f (by decide) (br_f (by decide) (br_f (by decide) (br_f (by decide) (br_f (by decide) (br_t rfl ?_)))))))))
        rw [nI_add, c, eq']
        refine ⟨I, ?_⟩
        unfold wpX_monitor
        dsimp only
        exact mx_al_t hp haq' (br_f (by decide) (br_t rfl hq'))
      · refine br_f (by decide) ?_
        rw [mp_4a, c, eq']
        refine ⟨I, ?_⟩
        unfold wY_others_20
        refine my_al_t hp haq' (br_f (by decide) (br_t (by decide) ?_))
        exact br_f (by decide) (br_t rfl (br_f (by decide) hq'))
    · have k1 := mp_K_set h.2.2.2.2.2.2.2.1 hp hq (Ne.symm e) (Or.inl h1) haq
      have ne := mp_nI_inj (a := q) (b := p) (by omega) (by omega) e
      have c1 := nI_clamp (n := 8 * p + q) (by omega)
      have I1 := vp_in_nI (n := 8 * p + q) (N := 64) (by omega) (by omega)
      refine ⟨(dl, nt, 0, tc, tm, xn, md, lo, en, dO, dA, dB, xo, xa, xb, xl, st, xr, rg, xv, pl, tr, xk, xm, wt, xw, xt, xi, mc, tk, xe, xz, ti), _, _, (dl, qn, 0, tm, tc, yn, md, lo, en, yo, ya, yb, yl, cu, ag, dO, dA, dB, st, rg, pl, yv, yr, tr, yt, yi, mc, yk, upd ym (8 * p + q) 1, wt, li, ye, qu, yd, ys, yz, ti), fun post hq' => ?_, fun post hq' => ?_, fun post hq' => mx_fin0 hq', fun post hq' => Or.inr (Or.inr (Or.inr ⟨by decide, by decide, by decide, by decide, ?_⟩)), rfl, mp_RR_1 h1 (mp_K_R h h.2.2.2.2.2.2.1 k1)⟩
      · refine nm_r (mp_x4 p) (br_f (by decide) (br_f (by decide) (br_f (by decide) (br_f (by decide) (br_f (by decide) (br_f (by decide) (br_f (by decide) (br_f (by decide) (br_f (by decide) (br_f (by decide) (br_f (by decide) (br_f (by decide) (br_f (by decide) (br_f (by decide) (br_t rfl ?_)))))))))))))))
        exact hq'
      · refine nm_r (mp_x4 p) (br_f (by decide) (br_f (by decide) (br_f (by decide) (br_f (by decide) (br_f (by decide) (br_f (by decide) (br_f (by decide) (br_f (by decide) (br_t rfl ?_)))))))))
        rw [nI_add, c, eq]
        refine ⟨I, ?_⟩
        unfold wpX_monitor
        dsimp only
        refine mx_al_t hq haq (br_f (by decide) (br_f ne ?_))
        rw [cp]
        exact ⟨Ip, Ip, nm_e hq'⟩
      · refine br_f (by decide) ?_
        rw [mp_4a, c, eq]
        refine ⟨I, ?_⟩
        unfold wY_others_20
        refine my_al_t hq haq (br_f (by decide) (br_t (by decide) ?_))
        refine br_f (by decide) (br_f ne ?_)
        rw [mp_8x, nI_add, c1, mp_b1n]
        exact ⟨I1, nm_e (br_f (by decide) hq')⟩
  · obtain ⟨r, st', tk', nt', qu', qn', mc', xt', xi', yt', yi', lo', hX, hY, hR, _, _⟩ := mp_deliver (dl := dl) (nt := nt) (xc := 0) (tc := tc) (tm := tm) (xn := xn) (md := md) (lo := lo) (en := en) (dO := dO) (dA := dA) (dB := dB) (xo := xo) (xa := xa) (xb := xb) (xl := xl) (st := st) (xr := xr) (rg := rg) (xv := xv) (pl := pl) (tr := tr) (xk := xk) (xm := xm) (wt := wt) (xw := xw) (xt := xt) (xi := xi) (mc := mc) (tk := tk) (xe := xe) (xz := xz) (ti := ti) (qn := qn) (yc := 0) (yn := yn) (yo := yo) (ya := ya) (yb := yb) (yl := yl) (cu := cu) (ag := ag) (yv := yv) (yr := yr) (yt := yt) (yi := yi) (yk := yk) (ym := ym) (li := li) (ye := ye) (qu := qu) (yd := yd) (ys := ys) (yz := yz) h hp (Or.inl h1) 7 (56 + (rg (4 * p + j) &&& 7))
    refine ⟨(dl, nt, 0, tc, tm, xn, md, lo, en, dO, dA, dB, xo, xa, xb, xl, st, xr, rg, xv, pl, tr, xk, xm, wt, xw, xt, xi, mc, tk, xe, xz, ti), (dl, nt', 0, tc, tm, xn, md, lo', en, dO, dA, dB, xo, xa, xb, xl, st', xr, rg, xv, pl, tr, xk, xm, wt, xw, xt', xi', mc', tk', xe, xz, ti), (dl, nt', 0, tc, tm, xn, md, lo', en, dO, dA, dB, xo, xa, xb, xl, st', xr, rg, xv, pl, tr, xk, xm, wt, xw, xt', xi', mc', tk', xe, xz, ti), (dl, qn', 0, tm, tc, yn, md, lo', en, yo, ya, yb, yl, cu, ag, dO, dA, dB, st', rg, pl, yv, yr, tr, yt', yi', mc', yk, ym, wt, li, ye, qu', yd, ys, yz, ti), fun post hq' => ?_, fun post hq' => ?_, fun post hq' => mx_fin0 hq', fun post hq' => Or.inr (Or.inr (Or.inr ⟨by decide, by decide, by decide, by decide, ?_⟩)), rfl, mp_RR_s hR⟩
    · refine nm_r (mp_x4 p) (br_f (by decide) (br_f (by decide) (br_f (by decide) (br_f (by decide) (br_f (by decide) (br_f (by decide) (br_f (by decide) (br_f (by decide) (br_f (by decide) (br_f (by decide) (br_f (by decide) (br_f (by decide) (br_f (by decide) (br_f (by decide) (br_t rfl ?_)))))))))))))))
      exact hq'
    · refine nm_r (mp_x4 p) (br_f (by decide) (br_f (by decide) (br_f (by decide) (br_f (by decide) (br_f (by decide) (br_f (by decide) (br_f (by decide) (br_f (by decide) (br_t rfl ?_)))))))))
      rw [nI_add, c]
      refine ⟨I, ?_⟩
      unfold wpX_monitor
      dsimp only
      exact mx_al_f hd (br_t rfl (hX _ hq'))
    · refine br_f (by decide) ?_
      rw [mp_4a, c]
      refine ⟨I, ?_⟩
      unfold wY_others_20
      refine my_al_f hd (br_f (by decide) (br_t (by decide) ?_))
      exact br_t rfl (br_t rfl (hY _ hq'))
end
