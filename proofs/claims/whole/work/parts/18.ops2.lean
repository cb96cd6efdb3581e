section
variable {dl xc tc tm xn md lo en qn yc yn : Int32} {nt : Int64} {dO dA dB xo xa xb xl st xr rg xv pl tr xk xm wt xw xt xi mc xe xz ti yo ya yb yl cu ag yv yr yt yi yk ym li ye qu yd ys yz : Nat → Int32} {tk : Nat → Int64} {run i p : Nat} {T C : Int} {G : Nat → Int32 → Prop}
theorem mp_doom_0 {reason : Int32} (h : (mp_D dl dO dA dB ∧ mp_C xo xa xb xl yo ya yb yl cu ∧ mp_V st xv yv xl cu ∧ mp_P st pl ∧ mp_S st ∧ mp_M st mc xt xi yt yi ∧ mp_K st xk yk ∧ mp_K st xm ym ∧ mp_W st xw li ye tm ∧ mp_T tm tc ti T ∧ mp_Q st tk nt run qu qn ∧ mp_E st xr yr ∧ mp_Z 0 st xr xe xz 0 yd ys yz 0 ∧ mp_F st nt C ∧ mp_G G st xv yz)) (hp : p < 8) (ha : mp_al st p) : xz p = 0 ∧ yz p = 0 ∧ (mp_D dl dO dA dB ∧ mp_C xo xa xb xl yo ya yb yl cu ∧ mp_V st xv yv xl cu ∧ mp_P st pl ∧ mp_S st ∧ mp_M st mc xt xi yt yi ∧ mp_K st xk yk ∧ mp_K st xm ym ∧ mp_W st xw li ye tm ∧ mp_T tm tc ti T ∧ mp_Q st tk nt run qu qn ∧ mp_E st (upd xr p reason) yr ∧ mp_Z 0 st (upd xr p reason) (upd xe 0 (nI p)) (upd xz p 1) (nI (0 + 1)) (upd yd 0 (nI p)) (upd ys 0 reason) (upd yz p 1) (nI (0 + 1)) ∧ mp_F st nt C ∧ mp_G (fun q v => G q v ∧ q ≠ p) st xv (upd yz p 1)) := by
  have hz := (mp_Z_none h.2.2.2.2.2.2.2.2.2.2.2.2.1).2 p hp
  obtain ⟨d, hd, e1, e2, hR⟩ := mp_doom_R (reason := reason) h hp ha hz.1
  have e : d = 0 := by
    have w : nI 0 = nI d := e1
    rw [nI_eq (by omega) (by omega)] at w
    exact w.symm
  subst e
  exact ⟨hz.2, hz.1, hR⟩
theorem mp_strike {q : Nat} (h : (mp_D dl dO dA dB ∧ mp_C xo xa xb xl yo ya yb yl cu ∧ mp_V st xv yv xl cu ∧ mp_P st pl ∧ mp_S st ∧ mp_M st mc xt xi yt yi ∧ mp_K st xk yk ∧ mp_K st xm ym ∧ mp_W st xw li ye tm ∧ mp_T tm tc ti T ∧ mp_Q st tk nt run qu qn ∧ mp_E st xr yr ∧ mp_Z 0 st xr xe xz 0 yd ys yz 0 ∧ mp_F st nt C ∧ mp_G G st xv yz)) (hq : q < 8) (haq : mp_al st q) (fr reason : Int32) : ∃ (st' : Nat → Int32) (tk' : Nat → Int64) (nt' : Int64) (qu' : Nat → Int32) (qn' : Int32) (mc' xt' xi' yt' yi' : Nat → Int32) (lo' : Int32) (xr' xe' xz' : Nat → Int32) (xc' : Int32) (yd' ys' yz' : Nat → Int32) (yc' : Int32) (st'' : Nat → Int32) (tk'' : Nat → Int64) (nt'' : Int64) (qu'' : Nat → Int32) (qn'' : Int32) (mc'' xt'' xi'' yt'' yi'' : Nat → Int32) (lo'' : Int32) (xr'' xe'' xz'' : Nat → Int32) (xc'' : Int32) (yd'' ys'' yz'' : Nat → Int32) (yc'' : Int32) (xk'' yk'' xm'' ym'' yr'' : Nat → Int32) (en'' : Int32), (∀ post : SX → Prop, post (dl, nt', xc', tc, tm, xn, md, lo', en, dO, dA, dB, xo, xa, xb, xl, st', xr', rg, xv, pl, tr, xk, xm, wt, xw, xt', xi', mc', tk', xe', xz', ti) → wpX_giveSignal post (dl, nt, 0, tc, tm, xn, md, lo, en, dO, dA, dB, xo, xa, xb, xl, st, xr, rg, xv, pl, tr, xk, xm, wt, xw, xt, xi, mc, tk, xe, xz, ti) fr (nI q) reason 1) ∧ (∀ post : SX → Prop, post (dl, nt'', 0, tc, tm, xn, md, lo'', en'', dO, dA, dB, xo, xa, xb, xl, st'', xr'', rg, xv, pl, tr, xk'', xm'', wt, xw, xt'', xi'', mc'', tk'', xe'', xz'', ti) → wpX_finishEndings post (dl, nt', xc', tc, tm, xn, md, lo', en, dO, dA, dB, xo, xa, xb, xl, st', xr', rg, xv, pl, tr, xk, xm, wt, xw, xt', xi', mc', tk', xe', xz', ti)) ∧ (∀ post : SY → Prop, post (dl, qn'', 0, tm, tc, yn, md, lo'', en'', yo, ya, yb, yl, cu, ag, dO, dA, dB, st'', rg, pl, yv, yr'', tr, yt'', yi'', mc'', yk'', ym'', wt, li, ye, qu'', yd'', ys'', yz'', ti) → wpY_strike post (dl, qn, 0, tm, tc, yn, md, lo, en, yo, ya, yb, yl, cu, ag, dO, dA, dB, st, rg, pl, yv, yr, tr, yt, yi, mc, yk, ym, wt, li, ye, qu, yd, ys, yz, ti) fr (nI q) reason) ∧ (mp_D dl dO dA dB ∧ mp_C xo xa xb xl yo ya yb yl cu ∧ mp_V st'' xv yv xl cu ∧ mp_P st'' pl ∧ mp_S st'' ∧ mp_M st'' mc'' xt'' xi'' yt'' yi'' ∧ mp_K st'' xk'' yk'' ∧ mp_K st'' xm'' ym'' ∧ mp_W st'' xw li ye tm ∧ mp_T tm tc ti T ∧ mp_Q st'' tk'' nt'' run qu'' qn'' ∧ mp_E st'' xr'' yr'' ∧ mp_Z 0 st'' xr'' xe'' xz'' 0 yd'' ys'' yz'' 0 ∧ mp_F st'' nt'' C ∧ mp_G G st'' xv yz'') := by
  by_cases h9 : reason = 9
  · obtain ⟨hx, hy, h1⟩ := mp_doom_0 (reason := 8) h hq haq
    have h2 := mp_G_R h1 (G' := G) (fun q v z => z.1)
    obtain ⟨st'', tk'', nt'', qu'', qn'', mc'', xt'', xi'', yt'', yi'', lo'', xr'', xe'', xz'', xc'', yd'', ys'', yz'', yc'', xk'', yk'', xm'', ym'', yr'', en'', hX, hY, hR⟩ := mp_settle (dl := dl) (nt := nt) (xc := nI (0 + 1)) (tc := tc) (tm := tm) (xn := xn) (md := md) (lo := lo) (en := en) (dO := dO) (dA := dA) (dB := dB) (xo := xo) (xa := xa) (xb := xb) (xl := xl) (st := st) (xr := upd xr q 8) (rg := rg) (xv := xv) (pl := pl) (tr := tr) (xk := xk) (xm := xm) (wt := wt) (xw := xw) (xt := xt) (xi := xi) (mc := mc) (tk := tk) (xe := upd xe 0 (nI q)) (xz := upd xz q 1) (ti := ti) (qn := qn) (yc := nI (0 + 1)) (yn := yn) (yo := yo) (ya := ya) (yb := yb) (yl := yl) (cu := cu) (ag := ag) (yv := yv) (yr := yr) (yt := yt) (yi := yi) (yk := yk) (ym := ym) (li := li) (ye := ye) (qu := qu) (yd := upd yd 0 (nI q)) (ys := upd ys 0 8) (yz := upd yz q 1) h2
    refine ⟨st, tk, nt, qu, qn, mc, xt, xi, yt, yi, lo, upd xr q 8, upd xe 0 (nI q), upd xz q 1, nI (0 + 1), upd yd 0 (nI q), upd ys 0 8, upd yz q 1, nI (0 + 1), st'', tk'', nt'', qu'', qn'', mc'', xt'', xi'', yt'', yi'', lo'', xr'', xe'', xz'', xc'', yd'', ys'', yz'', yc'', xk'', yk'', xm'', ym'', yr'', en'', fun post hq' => ?_, hX, fun post hq' => ?_, hR⟩
    · exact br_f (by decide) (br_t h9 (mx_mark (d := 0) hq (by omega) hx hq'))
    · exact br_t h9 (my_doom (d := 0) hq (by omega) hy (hY _ hq'))
  · obtain ⟨st', tk', nt', qu', qn', mc', xt', xi', yt', yi', lo', xr', xe', xz', xc', yd', ys', yz', yc', hX1, hY1, hR1, _, _⟩ := mp_signal (dl := dl) (nt := nt) (xc := 0) (tc := tc) (tm := tm) (xn := xn) (md := md) (lo := lo) (en := en) (dO := dO) (dA := dA) (dB := dB) (xo := xo) (xa := xa) (xb := xb) (xl := xl) (st := st) (xr := xr) (rg := rg) (xv := xv) (pl := pl) (tr := tr) (xk := xk) (xm := xm) (wt := wt) (xw := xw) (xt := xt) (xi := xi) (mc := mc) (tk := tk) (xe := xe) (xz := xz) (ti := ti) (qn := qn) (yc := 0) (yn := yn) (yo := yo) (ya := ya) (yb := yb) (yl := yl) (cu := cu) (ag := ag) (yv := yv) (yr := yr) (yt := yt) (yi := yi) (yk := yk) (ym := ym) (li := li) (ye := ye) (qu := qu) (yd := yd) (ys := ys) (yz := yz) h hq haq fr reason
    obtain ⟨st'', tk'', nt'', qu'', qn'', mc'', xt'', xi'', yt'', yi'', lo'', xr'', xe'', xz'', xc'', yd'', ys'', yz'', yc'', xk'', yk'', xm'', ym'', yr'', en'', hX, hY, hR⟩ := mp_settle (dl := dl) (nt := nt') (xc := xc') (tc := tc) (tm := tm) (xn := xn) (md := md) (lo := lo') (en := en) (dO := dO) (dA := dA) (dB := dB) (xo := xo) (xa := xa) (xb := xb) (xl := xl) (st := st') (xr := xr') (rg := rg) (xv := xv) (pl := pl) (tr := tr) (xk := xk) (xm := xm) (wt := wt) (xw := xw) (xt := xt') (xi := xi') (mc := mc') (tk := tk') (xe := xe') (xz := xz') (ti := ti) (qn := qn') (yc := yc') (yn := yn) (yo := yo) (ya := ya) (yb := yb) (yl := yl) (cu := cu) (ag := ag) (yv := yv) (yr := yr) (yt := yt') (yi := yi') (yk := yk) (ym := ym) (li := li) (ye := ye) (qu := qu') (yd := yd') (ys := ys') (yz := yz') hR1
    refine ⟨st', tk', nt', qu', qn', mc', xt', xi', yt', yi', lo', xr', xe', xz', xc', yd', ys', yz', yc', st'', tk'', nt'', qu'', qn'', mc'', xt'', xi'', yt'', yi'', lo'', xr'', xe'', xz'', xc'', yd'', ys'', yz'', yc'', xk'', yk'', xm'', ym'', yr'', en'', fun post hq' => ?_, hX, fun post hq' => ?_, hR⟩
    · exact br_f (by decide) (br_f h9 (hX1 _ hq'))
    · exact br_f h9 (hY1 _ (hY _ hq'))
theorem mp_op13 {a b : Int32} (h : (mp_D dl dO dA dB ∧ mp_C xo xa xb xl yo ya yb yl cu ∧ mp_V st xv yv xl cu ∧ mp_P st pl ∧ mp_S st ∧ mp_M st mc xt xi yt yi ∧ mp_K st xk yk ∧ mp_K st xm ym ∧ mp_W st xw li ye tm ∧ mp_T tm tc ti T ∧ mp_Q st tk nt p qu qn ∧ mp_E st xr yr ∧ mp_Z 0 st xr xe xz 0 yd ys yz 0 ∧ mp_F st nt C ∧ mp_G (fun _ _ => True) st xv yz)) (hp : p < 8) (h1 : st p = 1) (ha : mp_lt a 4) (hb : mp_lt b 4) : mp_OP p 13 a b T C tm xn yn (dl, nt, 0, tc, tm, xn, md, lo, en, dO, dA, dB, xo, xa, xb, xl, st, xr, rg, xv, pl, tr, xk, xm, wt, xw, xt, xi, mc, tk, xe, xz, ti) (dl, qn, 0, tm, tc, yn, md, lo, en, yo, ya, yb, yl, cu, ag, dO, dA, dB, st, rg, pl, yv, yr, tr, yt, yi, mc, yk, ym, wt, li, ye, qu, yd, ys, yz, ti) := by
  obtain ⟨j, hj, rfl⟩ := ha
  obtain ⟨k, hk, rfl⟩ := hb
  have c := nI_clamp (n := 4 * p + j) (by omega)
  have I := vp_in_nI (n := 4 * p + j) (N := 32) (by omega) (by omega)
  have c2 := nI_clamp (n := 4 * p + k) (by omega)
  have I2 := vp_in_nI (n := 4 * p + k) (N := 32) (by omega) (by omega)
  have a3 : nI j &&& 3 = nI j := by
    rw [pk_andN (by omega) 2 mp_3]
    exact congrArg nI (Nat.mod_eq_of_lt hj)
  rcases mp_alx h.2.2.2.2.1 (rg (4 * p + j)) with ⟨q, hq, eq, haq⟩ | ⟨hd, _⟩
  · obtain ⟨st', tk', nt', qu', qn', mc', xt', xi', yt', yi', lo', xr', xe', xz', xc', yd', ys', yz', yc', st'', tk'', nt'', qu'', qn'', mc'', xt'', xi'', yt'', yi'', lo'', xr'', xe'', xz'', xc'', yd'', ys'', yz'', yc'', xk'', yk'', xm'', ym'', yr'', en'', hX1, hX2, hY, hR⟩ := mp_strike (dl := dl) (nt := nt) (tc := tc) (tm := tm) (xn := xn) (md := md) (lo := lo) (en := en) (dO := dO) (dA := dA) (dB := dB) (xo := xo) (xa := xa) (xb := xb) (xl := xl) (st := st) (xr := xr) (rg := rg) (xv := xv) (pl := pl) (tr := tr) (xk := xk) (xm := xm) (wt := wt) (xw := xw) (xt := xt) (xi := xi) (mc := mc) (tk := tk) (xe := xe) (xz := xz) (ti := ti) (qn := qn) (yn := yn) (yo := yo) (ya := ya) (yb := yb) (yl := yl) (cu := cu) (ag := ag) (yv := yv) (yr := yr) (yt := yt) (yi := yi) (yk := yk) (ym := ym) (li := li) (ye := ye) (qu := qu) (yd := yd) (ys := ys) (yz := yz) (run := p) (T := T) (C := C) (G := fun _ _ => True) h hq haq (nI p) (rg (4 * p + k))
    refine ⟨(dl, nt, 0, tc, tm, xn, md, lo, en, dO, dA, dB, xo, xa, xb, xl, st, xr, rg, xv, pl, tr, xk, xm, wt, xw, xt, xi, mc, tk, xe, xz, ti), (dl, nt', xc', tc, tm, xn, md, lo', en, dO, dA, dB, xo, xa, xb, xl, st', xr', rg, xv, pl, tr, xk, xm, wt, xw, xt', xi', mc', tk', xe', xz', ti), (dl, nt'', 0, tc, tm, xn, md, lo'', en'', dO, dA, dB, xo, xa, xb, xl, st'', xr'', rg, xv, pl, tr, xk'', xm'', wt, xw, xt'', xi'', mc'', tk'', xe'', xz'', ti), (dl, qn'', 0, tm, tc, yn, md, lo'', en'', yo, ya, yb, yl, cu, ag, dO, dA, dB, st'', rg, pl, yv, yr'', tr, yt'', yi'', mc'', yk'', ym'', wt, li, ye, qu'', yd'', ys'', yz'', ti), fun post hq' => ?_, fun post hq' => ?_, hX2, fun post hq' => Or.inr (Or.inr (Or.inl ⟨by decide, by decide, by decide, by decide, ?_⟩)), rfl, mp_RR_s hR⟩
    · refine nm_r (mp_x4 p) (br_f (by decide) (br_f (by decide) (br_f (by decide) (br_f (by decide) (br_f (by decide) (br_f (by decide) (br_f (by decide) (br_f (by decide) (br_f (by decide) (br_f (by decide) (br_f (by decide) (br_f (by decide) (br_f (by decide) (br_f (by decide) (br_f (by decide) (br_t rfl ?_))))))))))))))))
      exact hq'
    · refine nm_r (mp_x4 p) (br_f (by decide) (br_f (by decide) (br_f (by decide) (br_f (by decide) (br_f (by decide) (br_f (by decide) (br_f (by decide) (br_f (by decide) (br_f (by decide) (br_t rfl ?_))))))))))
      rw [nI_add, nI_add, c, c2, eq]
      exact ⟨I, mx_al_t hq haq (br_f (by decide) ⟨I, I2, hX1 _ hq'⟩)⟩
    · unfold wpY_last
      dsimp only
      rw [a3, mp_4a, mp_4a, c, c2]
      refine ⟨I, nm_r eq (br_f (by decide) (br_f (by decide) (br_t rfl ?_)))⟩
      exact my_al_t hq haq (br_f (by decide) ⟨I2, hY _ hq'⟩)
  · refine mp_op_a (u' := (dl, nt, 0, tc, tm, xn, md, lo, en, dO, dA, dB, xo, xa, xb, xl, st, xr, rg, xv, pl, tr, xk, xm, wt, xw, xt, xi, mc, tk, xe, xz, ti)) (v' := (dl, qn, 0, tm, tc, yn, md, lo, en, yo, ya, yb, yl, cu, ag, dO, dA, dB, st, rg, pl, yv, yr, tr, yt, yi, mc, yk, ym, wt, li, ye, qu, yd, ys, yz, ti)) (fun post hq => ?_) (fun post hq => ?_) (fun post hq => mx_fin0 hq) (fun post hq => Or.inr (Or.inr (Or.inl ⟨by decide, by decide, by decide, by decide, ?_⟩))) rfl (mp_RR_1 h1 h)
    · refine nm_r (mp_x4 p) (br_f (by decide) (br_f (by decide) (br_f (by decide) (br_f (by decide) (br_f (by decide) (br_f (by decide) (br_f (by decide) (br_f (by decide) (br_f (by decide) (br_f (by decide) (br_f (by decide) (br_f (by decide) (br_f (by decide) (br_f (by decide) (br_f (by decide) (br_t rfl ?_))))))))))))))))
      exact hq
    · refine nm_r (mp_x4 p) (br_f (by decide) (br_f (by decide) (br_f (by decide) (br_f (by decide) (br_f (by decide) (br_f (by decide) (br_f (by decide) (br_f (by decide) (br_f (by decide) (br_t rfl ?_))))))))))
      rw [nI_add, c]
      exact ⟨I, mx_al_f hd (br_t rfl hq)⟩
    · unfold wpY_last
      dsimp only
      rw [a3, mp_4a, c]
      refine ⟨I, nm_e (br_f (by decide) (br_f (by decide) (br_t rfl ?_)))⟩
      exact my_al_f hd (br_t rfl hq)
theorem mp_op14 {a b : Int32} (h : (mp_D dl dO dA dB ∧ mp_C xo xa xb xl yo ya yb yl cu ∧ mp_V st xv yv xl cu ∧ mp_P st pl ∧ mp_S st ∧ mp_M st mc xt xi yt yi ∧ mp_K st xk yk ∧ mp_K st xm ym ∧ mp_W st xw li ye tm ∧ mp_T tm tc ti T ∧ mp_Q st tk nt p qu qn ∧ mp_E st xr yr ∧ mp_Z 0 st xr xe xz 0 yd ys yz 0 ∧ mp_F st nt C ∧ mp_G (fun _ _ => True) st xv yz)) (hp : p < 8) (h1 : st p = 1) (ha : mp_lt a 4) : mp_OP p 14 a b T C tm xn yn (dl, nt, 0, tc, tm, xn, md, lo, en, dO, dA, dB, xo, xa, xb, xl, st, xr, rg, xv, pl, tr, xk, xm, wt, xw, xt, xi, mc, tk, xe, xz, ti) (dl, qn, 0, tm, tc, yn, md, lo, en, yo, ya, yb, yl, cu, ag, dO, dA, dB, st, rg, pl, yv, yr, tr, yt, yi, mc, yk, ym, wt, li, ye, qu, yd, ys, yz, ti) := by
  obtain ⟨j, hj, rfl⟩ := ha
  have c := nI_clamp (n := 4 * p + j) (by omega)
  have I := vp_in_nI (n := 4 * p + j) (N := 32) (by omega) (by omega)
  have a3 : nI j &&& 3 = nI j := by
    rw [pk_andN (by omega) 2 mp_3]
    exact congrArg nI (Nat.mod_eq_of_lt hj)
  obtain ⟨hx, hy, h2⟩ := mp_doom_0 (reason := rg (4 * p + j)) h hp (Or.inl h1)
  have h3 := mp_G_R h2 (G' := fun _ _ => True) (fun q v z => z.1)
  obtain ⟨st'', tk'', nt'', qu'', qn'', mc'', xt'', xi'', yt'', yi'', lo'', xr'', xe'', xz'', xc'', yd'', ys'', yz'', yc'', xk'', yk'', xm'', ym'', yr'', en'', hX, hY, hR⟩ := mp_settle (dl := dl) (nt := nt) (xc := nI (0 + 1)) (tc := tc) (tm := tm) (xn := xn) (md := md) (lo := lo) (en := en) (dO := dO) (dA := dA) (dB := dB) (xo := xo) (xa := xa) (xb := xb) (xl := xl) (st := st) (xr := upd xr p (rg (4 * p + j))) (rg := rg) (xv := xv) (pl := pl) (tr := tr) (xk := xk) (xm := xm) (wt := wt) (xw := xw) (xt := xt) (xi := xi) (mc := mc) (tk := tk) (xe := upd xe 0 (nI p)) (xz := upd xz p 1) (ti := ti) (qn := qn) (yc := nI (0 + 1)) (yn := yn) (yo := yo) (ya := ya) (yb := yb) (yl := yl) (cu := cu) (ag := ag) (yv := yv) (yr := yr) (yt := yt) (yi := yi) (yk := yk) (ym := ym) (li := li) (ye := ye) (qu := qu) (yd := upd yd 0 (nI p)) (ys := upd ys 0 (rg (4 * p + j))) (yz := upd yz p 1) h3
  refine ⟨(dl, nt, nI (0 + 1), tc, tm, xn, md, lo, en, dO, dA, dB, xo, xa, xb, xl, st, upd xr p (rg (4 * p + j)), rg, xv, pl, tr, xk, xm, wt, xw, xt, xi, mc, tk, upd xe 0 (nI p), upd xz p 1, ti), (dl, nt, nI (0 + 1), tc, tm, xn, md, lo, en, dO, dA, dB, xo, xa, xb, xl, st, upd xr p (rg (4 * p + j)), rg, xv, pl, tr, xk, xm, wt, xw, xt, xi, mc, tk, upd xe 0 (nI p), upd xz p 1, ti), (dl, nt'', 0, tc, tm, xn, md, lo'', en'', dO, dA, dB, xo, xa, xb, xl, st'', xr'', rg, xv, pl, tr, xk'', xm'', wt, xw, xt'', xi'', mc'', tk'', xe'', xz'', ti), (dl, qn'', 0, tm, tc, yn, md, lo'', en'', yo, ya, yb, yl, cu, ag, dO, dA, dB, st'', rg, pl, yv, yr'', tr, yt'', yi'', mc'', yk'', ym'', wt, li, ye, qu'', yd'', ys'', yz'', ti), fun post hq' => ?_, fun post hq' => ?_, hX, fun post hq' => Or.inr (Or.inr (Or.inl ⟨by decide, by decide, by decide, by decide, ?_⟩)), rfl, mp_RR_s hR⟩
  · refine nm_r (mp_x4 p) (br_f (by decide) (br_f (by decide) (br_f (by decide) (br_f (by decide) (br_f (by decide) (br_f (by decide) (br_f (by decide) (br_f (by decide) (br_f (by decide) (br_f (by decide) (br_f (by decide) (br_f (by decide) (br_f (by decide) (br_f (by decide) (br_f (by decide) (br_f (by decide) (br_t rfl ?_)))))))))))))))))
    rw [nI_add, c]
    exact ⟨I, mx_mark (d := 0) hp (by omega) hx hq'⟩
  · refine nm_r (mp_x4 p) (br_f (by decide) (br_t (by decide) ?_))
    exact hq'
  · unfold wpY_last
    dsimp only
    rw [a3, mp_4a, c]
    refine ⟨I, nm_e (br_f (by decide) (br_f (by decide) (br_f (by decide) (br_t rfl ?_))))⟩
    exact my_doom (d := 0) hp (by omega) hy (hY _ hq')
theorem mp_op15 {a b : Int32} (h : (mp_D dl dO dA dB ∧ mp_C xo xa xb xl yo ya yb yl cu ∧ mp_V st xv yv xl cu ∧ mp_P st pl ∧ mp_S st ∧ mp_M st mc xt xi yt yi ∧ mp_K st xk yk ∧ mp_K st xm ym ∧ mp_W st xw li ye tm ∧ mp_T tm tc ti T ∧ mp_Q st tk nt p qu qn ∧ mp_E st xr yr ∧ mp_Z 0 st xr xe xz 0 yd ys yz 0 ∧ mp_F st nt C ∧ mp_G (fun _ _ => True) st xv yz)) (hp : p < 8) (h1 : st p = 1) (hb : mp_lt b 2) : mp_OP p 15 a b T C tm xn yn (dl, nt, 0, tc, tm, xn, md, lo, en, dO, dA, dB, xo, xa, xb, xl, st, xr, rg, xv, pl, tr, xk, xm, wt, xw, xt, xi, mc, tk, xe, xz, ti) (dl, qn, 0, tm, tc, yn, md, lo, en, yo, ya, yb, yl, cu, ag, dO, dA, dB, st, rg, pl, yv, yr, tr, yt, yi, mc, yk, ym, wt, li, ye, qu, yd, ys, yz, ti) := by
  obtain ⟨a3, ha3, e3⟩ := pk_andE a 2 mp_3
  have c := nI_clamp (n := 4 * p + a3) (by omega)
  have I := vp_in_nI (n := 4 * p + a3) (N := 32) (by omega) (by omega)
  have cp := nI_clamp (n := p) (by omega)
  have Ip := vp_in_nI (n := p) (N := 8) (by omega) (by omega)
  by_cases hb1 : b = 1
  · refine mp_op_a (u' := (dl, nt, 0, tc, tm, xn, md, lo, en, dO, dA, dB, xo, xa, xb, xl, st, xr, rg, xv, pl, upd tr p 1, xk, xm, wt, xw, xt, xi, mc, tk, xe, xz, ti)) (v' := (dl, qn, 0, tm, tc, yn, md, lo, en, yo, ya, yb, yl, cu, ag, dO, dA, dB, st, rg, pl, yv, yr, upd tr p 1, yt, yi, mc, yk, ym, wt, li, ye, qu, yd, ys, yz, ti)) (fun post hq => ?_) (fun post hq => ?_) (fun post hq => mx_fin0 hq) (fun post hq => Or.inr (Or.inr (Or.inl ⟨by decide, by decide, by decide, by decide, ?_⟩))) rfl (mp_RR_1 h1 h)
    · refine nm_r (mp_x4 p) (br_f (by decide) (br_f (by decide) (br_f (by decide) (br_f (by decide) (br_f (by decide) (br_f (by decide) (br_f (by decide) (br_f (by decide) (br_f (by decide) (br_f (by decide) (br_f (by decide) (br_f (by decide) (br_f (by decide) (br_f (by decide) (br_f (by decide) (br_f (by decide) (br_f (by decide) (br_t rfl ?_))))))))))))))))))
      rw [cp, mp_b1n]
      exact br_t hb1 ⟨Ip, nm_e hq⟩
    · refine nm_r (mp_x4 p) (br_f (by decide) (br_t (by decide) ?_))
      exact hq
    · unfold wpY_last
      dsimp only
      rw [e3, mp_4a, c, cp, mp_b1n]
      refine ⟨I, nm_e (br_f (by decide) (br_f (by decide) (br_f (by decide) (br_f (by decide) (br_t rfl ?_)))))⟩
      exact br_t hb1 ⟨Ip, nm_e hq⟩
  · refine mp_op_a (u' := (dl, nt, 0, tc, tm, xn, md, lo, en, dO, dA, dB, xo, xa, xb, xl, st, xr, rg, xv, pl, upd tr p 0, xk, xm, wt, xw, xt, xi, mc, tk, xe, xz, ti)) (v' := (dl, qn, 0, tm, tc, yn, md, lo, en, yo, ya, yb, yl, cu, ag, dO, dA, dB, st, rg, pl, yv, yr, upd tr p 0, yt, yi, mc, yk, ym, wt, li, ye, qu, yd, ys, yz, ti)) (fun post hq => ?_) (fun post hq => ?_) (fun post hq => mx_fin0 hq) (fun post hq => Or.inr (Or.inr (Or.inl ⟨by decide, by decide, by decide, by decide, ?_⟩))) rfl (mp_RR_1 h1 h)
    · refine nm_r (mp_x4 p) (br_f (by decide) (br_f (by decide) (br_f (by decide) (br_f (by decide) (br_f (by decide) (br_f (by decide) (br_f (by decide) (br_f (by decide) (br_f (by decide) (br_f (by decide) (br_f (by decide) (br_f (by decide) (br_f (by decide) (br_f (by decide) (br_f (by decide) (br_f (by decide) (br_f (by decide) (br_t rfl ?_))))))))))))))))))
      rw [cp, mp_b0n]
      exact br_f hb1 ⟨Ip, nm_e hq⟩
    · refine nm_r (mp_x4 p) (br_f (by decide) (br_t (by decide) ?_))
      exact hq
    · unfold wpY_last
      dsimp only
      rw [e3, mp_4a, c, cp, mp_b0n]
      refine ⟨I, nm_e (br_f (by decide) (br_f (by decide) (br_f (by decide) (br_f (by decide) (br_t rfl ?_)))))⟩
      exact br_f hb1 ⟨Ip, nm_e hq⟩
theorem mp_op16 {a b : Int32} (h : (mp_D dl dO dA dB ∧ mp_C xo xa xb xl yo ya yb yl cu ∧ mp_V st xv yv xl cu ∧ mp_P st pl ∧ mp_S st ∧ mp_M st mc xt xi yt yi ∧ mp_K st xk yk ∧ mp_K st xm ym ∧ mp_W st xw li ye tm ∧ mp_T tm tc ti T ∧ mp_Q st tk nt p qu qn ∧ mp_E st xr yr ∧ mp_Z 0 st xr xe xz 0 yd ys yz 0 ∧ mp_F st nt C ∧ mp_G (fun _ _ => True) st xv yz)) (hp : p < 8) (h1 : st p = 1) (ha : mp_lt a 4) : mp_OP p 16 a b T C tm xn yn (dl, nt, 0, tc, tm, xn, md, lo, en, dO, dA, dB, xo, xa, xb, xl, st, xr, rg, xv, pl, tr, xk, xm, wt, xw, xt, xi, mc, tk, xe, xz, ti) (dl, qn, 0, tm, tc, yn, md, lo, en, yo, ya, yb, yl, cu, ag, dO, dA, dB, st, rg, pl, yv, yr, tr, yt, yi, mc, yk, ym, wt, li, ye, qu, yd, ys, yz, ti) := by
  obtain ⟨m, hm4, rfl⟩ := ha
  have c := nI_clamp (n := 4 * p + m) (by omega)
  have I := vp_in_nI (n := 4 * p + m) (N := 32) (by omega) (by omega)
  have cp := nI_clamp (n := p) (by omega)
  have Ip := vp_in_nI (n := p) (N := 8) (by omega) (by omega)
  have cm := nI_clamp (n := m) (by omega)
  have Im := vp_in_nI (n := m) (N := 4) (by omega) (by omega)
  have c2 := nI_clamp (n := 2 * m) (by omega)
  have I2 := vp_in_nI (n := 2 * m) (N := 8) (by omega) (by omega)
  have a3 : nI m &&& 3 = nI m := by
    rw [pk_andN (by omega) 2 mp_3]
    exact congrArg nI (Nat.mod_eq_of_lt hm4)
  rcases h.2.1 m hm4 with ⟨e1, e2, e3⟩ | ⟨cc, hcc, e1, hcv, _⟩
  · obtain ⟨hx, hy, h2⟩ := mp_doom_0 (reason := 6) h hp (Or.inl h1)
    have h3 := mp_G_R h2 (G' := fun _ _ => True) (fun q v z => z.1)
    obtain ⟨st'', tk'', nt'', qu'', qn'', mc'', xt'', xi'', yt'', yi'', lo'', xr'', xe'', xz'', xc'', yd'', ys'', yz'', yc'', xk'', yk'', xm'', ym'', yr'', en'', hX, hY, hR⟩ := mp_settle (dl := dl) (nt := nt) (xc := nI (0 + 1)) (tc := tc) (tm := tm) (xn := xn) (md := md) (lo := lo) (en := en) (dO := dO) (dA := dA) (dB := dB) (xo := xo) (xa := xa) (xb := xb) (xl := xl) (st := st) (xr := upd xr p 6) (rg := rg) (xv := xv) (pl := pl) (tr := tr) (xk := xk) (xm := xm) (wt := wt) (xw := xw) (xt := xt) (xi := xi) (mc := mc) (tk := tk) (xe := upd xe 0 (nI p)) (xz := upd xz p 1) (ti := ti) (qn := qn) (yc := nI (0 + 1)) (yn := yn) (yo := yo) (ya := ya) (yb := yb) (yl := yl) (cu := cu) (ag := ag) (yv := yv) (yr := yr) (yt := yt) (yi := yi) (yk := yk) (ym := ym) (li := li) (ye := ye) (qu := qu) (yd := upd yd 0 (nI p)) (ys := upd ys 0 6) (yz := upd yz p 1) h3
    refine ⟨(dl, nt, nI (0 + 1), tc, tm, xn, md, lo, en, dO, dA, dB, xo, xa, xb, xl, st, upd xr p 6, rg, xv, pl, tr, xk, xm, wt, xw, xt, xi, mc, tk, upd xe 0 (nI p), upd xz p 1, ti), (dl, nt, nI (0 + 1), tc, tm, xn, md, lo, en, dO, dA, dB, xo, xa, xb, xl, st, upd xr p 6, rg, xv, pl, tr, xk, xm, wt, xw, xt, xi, mc, tk, upd xe 0 (nI p), upd xz p 1, ti), (dl, nt'', 0, tc, tm, xn, md, lo'', en'', dO, dA, dB, xo, xa, xb, xl, st'', xr'', rg, xv, pl, tr, xk'', xm'', wt, xw, xt'', xi'', mc'', tk'', xe'', xz'', ti), (dl, qn'', 0, tm, tc, yn, md, lo'', en'', yo, ya, yb, yl, cu, ag, dO, dA, dB, st'', rg, pl, yv, yr'', tr, yt'', yi'', mc'', yk'', ym'', wt, li, ye, qu'', yd'', ys'', yz'', ti), fun post hq' => ?_, fun post hq' => ?_, hX, fun post hq' => Or.inr (Or.inr (Or.inl ⟨by decide, by decide, by decide, by decide, ?_⟩)), rfl, mp_RR_s hR⟩
    · refine nm_r (mp_x4 p) (br_f (by decide) (br_f (by decide) (br_f (by decide) (br_f (by decide) (br_f (by decide) (br_f (by decide) (br_f (by decide) (br_f (by decide) (br_f (by decide) (br_f (by decide) (br_f (by decide) (br_f (by decide) (br_f (by decide) (br_f (by decide) (br_f (by decide) (br_f (by decide) (br_f (by decide) (br_f (by decide) (br_t rfl ?_)))))))))))))))))))
      unfold wpX_callModule
      dsimp only
      rw [mp_2x, c2]
      exact ⟨I2, br_t e2 (mx_mark (d := 0) hp (by omega) hx hq')⟩
    · refine nm_r (mp_x4 p) (br_f (by decide) (br_t (by decide) ?_))
      exact hq'
    · unfold wpY_last
      dsimp only
      rw [a3, mp_4a, c, cm, e1]
      refine ⟨I, nm_e (br_f (by decide) (br_f (by decide) (br_f (by decide) (br_f (by decide) (br_f (by decide) (br_t rfl ?_))))))⟩
      exact ⟨Im, br_t (by decide) (my_doom (d := 0) hp (by omega) hy (hY _ hq'))⟩
  · obtain ⟨n0, a1, a2, b3, a4, a5⟩ := hcv
    have ne0 : ¬ xl (2 * m) = 0 := by rw [b3]; exact nI_ne0 a1 (by omega)
    refine mp_op_a (u' := (dl, nt, 0, tc, tm, xn, md, lo, en, dO, dA, dB, xo, xa, xb, xl, st, xr, rg, upd xv p (nI (2 * m)), upd pl p 0, tr, xk, xm, wt, xw, xt, xi, mc, tk, xe, xz, ti)) (v' := (dl, qn, 0, tm, tc, yn, md, lo, en, yo, ya, yb, yl, cu, ag, dO, dA, dB, st, rg, upd pl p 0, upd yv p (nI (2 * m + cc)), yr, tr, yt, yi, mc, yk, ym, wt, li, ye, qu, yd, ys, yz, ti)) (fun post hq => ?_) (fun post hq => ?_) (fun post hq => mx_fin0 hq) (fun post hq => Or.inr (Or.inr (Or.inl ⟨by decide, by decide, by decide, by decide, ?_⟩))) rfl (mp_RR_1 h1 (mp_call_R h (by rw [h1]; decide) hm4 hcc e1 (fun _ _ => trivial)))
    · refine nm_r (mp_x4 p) (br_f (by decide) (br_f (by decide) (br_f (by decide) (br_f (by decide) (br_f (by decide) (br_f (by decide) (br_f (by decide) (br_f (by decide) (br_f (by decide) (br_f (by decide) (br_f (by decide) (br_f (by decide) (br_f (by decide) (br_f (by decide) (br_f (by decide) (br_f (by decide) (br_f (by decide) (br_f (by decide) (br_t rfl ?_)))))))))))))))))))
      unfold wpX_callModule
      dsimp only
      rw [mp_2x, c2, cp]
      exact ⟨I2, br_f ne0 ⟨Ip, nm_e ⟨Ip, nm_e hq⟩⟩⟩
    · refine nm_r (mp_x4 p) (br_f (by decide) (br_t (by decide) ?_))
      exact hq
    · unfold wpY_last
      dsimp only
      rw [a3, mp_4a, c, cm, e1, cp, mp_2x, nI_add]
      refine ⟨I, nm_e (br_f (by decide) (br_f (by decide) (br_f (by decide) (br_f (by decide) (br_f (by decide) (br_t rfl ?_))))))⟩
      exact ⟨Im, br_f (nI_pos (by omega)) ⟨Im, Ip, nm_e ⟨Ip, nm_e hq⟩⟩⟩
theorem mp_op17 {a b : Int32} (h : (mp_D dl dO dA dB ∧ mp_C xo xa xb xl yo ya yb yl cu ∧ mp_V st xv yv xl cu ∧ mp_P st pl ∧ mp_S st ∧ mp_M st mc xt xi yt yi ∧ mp_K st xk yk ∧ mp_K st xm ym ∧ mp_W st xw li ye tm ∧ mp_T tm tc ti T ∧ mp_Q st tk nt p qu qn ∧ mp_E st xr yr ∧ mp_Z 0 st xr xe xz 0 yd ys yz 0 ∧ mp_F st nt C ∧ mp_G (fun _ _ => True) st xv yz)) (hp : p < 8) (h1 : st p = 1) (ha : mp_lt a 4) (ht : tc.toInt + 1 ≤ tm.toInt) (hT1 : T < 1900000000) : mp_OP p 17 a b T C tm xn yn (dl, nt, 0, tc, tm, xn, md, lo, en, dO, dA, dB, xo, xa, xb, xl, st, xr, rg, xv, pl, tr, xk, xm, wt, xw, xt, xi, mc, tk, xe, xz, ti) (dl, qn, 0, tm, tc, yn, md, lo, en, yo, ya, yb, yl, cu, ag, dO, dA, dB, st, rg, pl, yv, yr, tr, yt, yi, mc, yk, ym, wt, li, ye, qu, yd, ys, yz, ti) := by
  obtain ⟨j, hj, rfl⟩ := ha
  have c := nI_clamp (n := 4 * p + j) (by omega)
  have I := vp_in_nI (n := 4 * p + j) (N := 32) (by omega) (by omega)
  have a3 : nI j &&& 3 = nI j := by
    rw [pk_andN (by omega) 2 mp_3]
    exact congrArg nI (Nat.mod_eq_of_lt hj)
  have I15 : vp_in (tc &&& 15) 16 := pk_andIn tc 4 mp_15 (by omega)
  refine mp_op_a (u' := (dl, nt, 0, tc + 1, tm, xn, md, lo, en, dO, dA, dB, xo, xa, xb, xl, st, xr, rg, xv, pl, tr, xk, xm, wt, xw, xt, xi, mc, tk, xe, xz, upd ti (tc &&& 15).toNatClampNeg (rg (4 * p + j)))) (v' := (dl, qn, 0, tm, tc + 1, yn, md, lo, en, yo, ya, yb, yl, cu, ag, dO, dA, dB, st, rg, pl, yv, yr, tr, yt, yi, mc, yk, ym, wt, li, ye, qu, yd, ys, yz, upd ti (tc &&& 15).toNatClampNeg (rg (4 * p + j)))) (fun post hq => ?_) (fun post hq => ?_) (fun post hq => mx_fin0 hq) (fun post hq => Or.inr (Or.inr (Or.inl ⟨by decide, by decide, by decide, by decide, ?_⟩))) rfl (mp_RR_1 h1 (mp_tell_R h ht hT1))
  · refine nm_r (mp_x4 p) (br_f (by decide) (br_f (by decide) (br_f (by decide) (br_f (by decide) (br_f (by decide) (br_f (by decide) (br_f (by decide) (br_f (by decide) (br_f (by decide) (br_f (by decide) (br_f (by decide) (br_f (by decide) (br_f (by decide) (br_f (by decide) (br_f (by decide) (br_f (by decide) (br_f (by decide) (br_f (by decide) (br_f (by decide) (br_t rfl ?_))))))))))))))))))))
    unfold wpX_toldPlace
    dsimp only
    rw [nI_add, c]
    exact ⟨I, I15, nm_e (nm_e hq)⟩
  · refine nm_r (mp_x4 p) (br_f (by decide) (br_t (by decide) ?_))
    exact hq
  · unfold wpY_last
    dsimp only
    rw [a3, mp_4a, c]
    refine ⟨I, nm_e (br_f (by decide) (br_t (by decide) ?_))⟩
    exact ⟨I15, nm_e (nm_e hq)⟩
end
