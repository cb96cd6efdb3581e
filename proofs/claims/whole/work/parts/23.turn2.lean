section
variable {dl xc tc tm xn md lo en qn yc yn : Int32} {nt : Int64} {dO dA dB xo xa xb xl st xr rg xv pl tr xk xm wt xw xt xi mc xe xz ti yo ya yb yl cu ag yv yr yt yi yk ym li ye qu yd ys yz : Nat → Int32} {tk : Nat → Int64} {run i p : Nat} {T C : Int} {G : Nat → Int32 → Prop}
theorem my_66_0 {post : Int32 → SY → Prop} {x1 x3 : Int32} {m : Nat} (h : post 1 (dl, qn, yc, tm, tc, yn, md, lo, en, yo, ya, yb, yl, cu, ag, dO, dA, dB, st, rg, pl, yv, yr, tr, yt, yi, mc, yk, ym, wt, li, ye, qu, yd, ys, yz, ti)) : wY_turn_66 post x1 (m + 1) 0 x3 dl qn yc tm tc yn md lo en yo ya yb yl cu ag dO dA dB st rg pl yv yr tr yt yi mc yk ym wt li ye qu yd ys yz ti := br_c (fun _ => br_t rfl h) (fun _ => br_t rfl (br_t rfl h))
theorem my_66_n {post : Int32 → SY → Prop} {x3 : Int32} {m : Nat} (hp : p < 8) (h1 : st p ≠ 1) (h : post 1 (dl, qn, yc, tm, tc, yn, md, lo, en, yo, ya, yb, yl, cu, ag, dO, dA, dB, st, rg, pl, yv, yr, tr, yt, yi, mc, yk, ym, wt, li, ye, qu, yd, ys, yz, ti)) : wY_turn_66 post (nI p) (m + 1) 1 x3 dl qn yc tm tc yn md lo en yo ya yb yl cu ag dO dA dB st rg pl yv yr tr yt yi mc yk ym wt li ye qu yd ys yz ti := by
  have c := nI_clamp (n := p) (by omega)
  have I := vp_in_nI (n := p) (N := 8) hp (by omega)
  have w : wY_turn_113 post (nI p) 1 dl qn yc tm tc yn md lo en yo ya yb yl cu ag dO dA dB st rg pl yv yr tr yt yi mc yk ym wt li ye qu yd ys yz ti := by
    unfold wY_turn_113
    rw [c]
    exact br_f (by decide) ⟨I, br_f h1 h⟩
  refine br_c (fun _ => w) (fun _ => br_f (by decide) (And.intro I ?_))
  rw [c]
  exact br_f h1 w
theorem mp_turn_l {K : Int} (hp : p < 8) (hK0 : 0 ≤ K) (hK1 : K < 2 ^ 32) : ∀ d k : Nat, k + d = 8 → ∀ (T : Int) (tm : Int32) (dl : Int32) (nt : Int64) (tc md lo en : Int32) (dO dA dB xo xa xb xl st xr rg xv pl tr xk xm wt xw xt xi mc : Nat → Int32) (tk : Nat → Int64) (xe xz ti : Nat → Int32) (qn : Int32) (yo ya yb yl cu ag yv yr yt yi yk ym li ye qu yd ys yz : Nat → Int32), T + (d : Int) < 1900000000 → (mp_D dl dO dA dB ∧ mp_C xo xa xb xl yo ya yb yl cu ∧ mp_V st xv yv xl cu ∧ mp_P st pl ∧ mp_S st ∧ mp_M st mc xt xi yt yi ∧ mp_K st xk yk ∧ mp_K st xm ym ∧ mp_W st xw li ye tm ∧ mp_T tm tc ti T ∧ mp_Q st tk nt p qu qn ∧ mp_E st xr yr ∧ mp_Z 0 st xr xe xz 0 yd ys yz 0 ∧ mp_F st nt (2 * tm.toInt + K) ∧ mp_G (fun _ _ => True) st xv yz) → st p = 1 → (∃ a n pn, xv p = nI a ∧ a < 8 ∧ xl a = nI n ∧ n ≤ 24 ∧ pl p = nI pn ∧ pn < n) → ∃ (tm' : Int32) (dl' : Int32) (nt' : Int64) (tc' md' lo' en' : Int32) (dO' dA' dB' xo' xa' xb' xl' st' xr' rg' xv' pl' tr' xk' xm' wt' xw' xt' xi' mc' : Nat → Int32) (tk' : Nat → Int64) (xe' xz' ti' : Nat → Int32) (qn' : Int32) (yo' ya' yb' yl' cu' ag' yv' yr' yt' yi' yk' ym' li' ye' qu' yd' ys' yz' : Nat → Int32), (∀ (post : SX → Prop) n, d < n → post (dl', nt', 0, tc', tm', xn, md', lo', en', dO', dA', dB', xo', xa', xb', xl', st', xr', rg', xv', pl', tr', xk', xm', wt', xw', xt', xi', mc', tk', xe', xz', ti') → wX_takeTurn_2 post (nI p) n (nI k) dl nt 0 tc tm xn md lo en dO dA dB xo xa xb xl st xr rg xv pl tr xk xm wt xw xt xi mc tk xe xz ti) ∧ (∀ (post : Int32 → SY → Prop) n, d + 1 < n → post 1 (dl', qn', 0, tm', tc', yn, md', lo', en', yo', ya', yb', yl', cu', ag', dO', dA', dB', st', rg', pl', yv', yr', tr', yt', yi', mc', yk', ym', wt', li', ye', qu', yd', ys', yz', ti') → wY_turn_66 post (nI p) n 1 (nI k) dl qn 0 tm tc yn md lo en yo ya yb yl cu ag dO dA dB st rg pl yv yr tr yt yi mc yk ym wt li ye qu yd ys yz ti) ∧ (mp_D dl' dO' dA' dB' ∧ mp_C xo' xa' xb' xl' yo' ya' yb' yl' cu' ∧ mp_V st' xv' yv' xl' cu' ∧ mp_P st' pl' ∧ mp_S st' ∧ mp_M st' mc' xt' xi' yt' yi' ∧ mp_K st' xk' yk' ∧ mp_K st' xm' ym' ∧ mp_W st' xw' li' ye' tm' ∧ mp_T tm' tc' ti' (T + (d : Int)) ∧ mp_Q st' tk' nt' 8 qu' qn' ∧ mp_E st' xr' yr' ∧ mp_Z 0 st' xr' xe' xz' 0 yd' ys' yz' 0 ∧ mp_F st' nt' (2 * tm'.toInt + K + 1) ∧ mp_G (fun _ _ => True) st' xv' yz') := by
  intro d
  have c := nI_clamp (n := p) (by omega)
  have I := vp_in_nI (n := p) (N := 8) hp (by omega)
  induction d with
  | zero =>
    intro k hk T tm dl nt tc md lo en dO dA dB xo xa xb xl st xr rg xv pl tr xk xm wt xw xt xi mc tk xe xz ti qn yo ya yb yl cu ag yv yr yt yi yk ym li ye qu yd ys yz hT1 h h1 _
    have e : k = 8 := by omega
    subst e
    have hTt := h.2.2.2.2.2.2.2.2.2.1
    obtain ⟨t0, t1, _, _, _⟩ := hTt
    obtain ⟨n0, hn0, rfl, hR⟩ := mp_back_R h hp h1 (by omega)
    refine ⟨tm, dl, nt + 1, tc, md, lo, en, dO, dA, dB, xo, xa, xb, xl, upd st p 1, xr, rg, xv, pl, tr, xk, xm, wt, xw, xt, xi, mc, vp_updL tk p nt, xe, xz, ti, nI (n0 + 1), yo, ya, yb, yl, cu, ag, yv, yr, yt, yi, yk, ym, li, ye, upd qu n0 (nI p), yd, ys, yz, fun post n hn hq => ?_, fun post n hn hq => ?_, mp_T_R hR (by omega)⟩
    · obtain ⟨m, rfl⟩ := mp_pos hn
      exact br_t (nI_le (b := 8) (Nat.le_refl 8) (by omega)) (mx_back hp hq)
    · obtain ⟨m, rfl⟩ := mp_pos hn
      refine br_t (nI_le (b := 8) (Nat.le_refl 8) (by omega)) (br_f (by decide) (And.intro I ?_))
      rw [c]
      exact br_t h1 (my_enq hp hn0 hq)
  | succ d ih =>
    intro k hk T tm dl nt tc md lo en dO dA dB xo xa xb xl st xr rg xv pl tr xk xm wt xw xt xi mc tk xe xz ti qn yo ya yb yl cu ag yv yr yt yi yk ym li ye qu yd ys yz hT1 h h1 hnx
    obtain ⟨t0, t1, _, _, _⟩ := h.2.2.2.2.2.2.2.2.2.1
    obtain ⟨a, b, n, pn, ha8, hb8, hn24, hpn, e1, e2, e3, e4, e5, rows⟩ := mp_next h hp (Or.inl h1)
    have hlt : pn < n := by
      obtain ⟨a', n', pn', w1, w2, w3, w4, w5, w6⟩ := hnx
      have q1 : a = a' := by
        rw [e1, nI_eq (by omega) (by omega)] at w1
        exact w1
      subst q1
      have q2 : n = n' := by
        rw [e3, nI_eq (by omega) (by omega)] at w3
        exact w3
      have q3 : pn = pn' := by
        rw [e5, nI_eq (by omega) (by omega)] at w5
        exact w5
      omega
    obtain ⟨dl', nt', tc', md', lo', en', dO', dA', dB', xo', xa', xb', xl', st', xr', rg', xv', pl', tr', xk', xm', wt', xw', xt', xi', mc', tk', xe', xz', ti', qn', yo', ya', yb', yl', cu', ag', yv', yr', yt', yi', yk', ym', li', ye', qu', yd', ys', yz', hX, hY, q1, q2, et⟩ := mp_instr (dl := dl) (nt := nt) (tc := tc) (tm := tm) (xn := xn) (md := md) (lo := lo) (en := en) (dO := dO) (dA := dA) (dB := dB) (xo := xo) (xa := xa) (xb := xb) (xl := xl) (st := st) (xr := xr) (rg := rg) (xv := xv) (pl := pl) (tr := tr) (xk := xk) (xm := xm) (wt := wt) (xw := xw) (xt := xt) (xi := xi) (mc := mc) (tk := tk) (xe := xe) (xz := xz) (ti := ti) (qn := qn) (yn := yn) (yo := yo) (ya := ya) (yb := yb) (yl := yl) (cu := cu) (ag := ag) (yv := yv) (yr := yr) (yt := yt) (yi := yi) (yk := yk) (ym := ym) (li := li) (ye := ye) (qu := qu) (yd := yd) (ys := ys) (yz := yz) h hp h1 ha8 hb8 hn24 e1 e2 e3 e5 hlt rows (by omega) (by omega)
    by_cases h1' : st' p = 1
    · have hR := mp_F_R (q1 h1') (C' := 2 * (tm + 1).toInt + K) (by omega) (by omega)
      obtain ⟨a', b', n', pn', ha8', hb8', hn24', hpn', e1', e2', e3', e4', e5', _⟩ := mp_next hR hp (Or.inl h1')
      by_cases hlt' : pn' < n'
      · obtain ⟨tm'', dl'', nt'', tc'', md'', lo'', en'', dO'', dA'', dB'', xo'', xa'', xb'', xl'', st'', xr'', rg'', xv'', pl'', tr'', xk'', xm'', wt'', xw'', xt'', xi'', mc'', tk'', xe'', xz'', ti'', qn'', yo'', ya'', yb'', yl'', cu'', ag'', yv'', yr'', yt'', yi'', yk'', ym'', li'', ye'', qu'', yd'', ys'', yz'', hX2, hY2, hR2⟩ := ih (k + 1) (by omega) (T + 1) (tm + 1) dl' nt' tc' md' lo' en' dO' dA' dB' xo' xa' xb' xl' st' xr' rg' xv' pl' tr' xk' xm' wt' xw' xt' xi' mc' tk' xe' xz' ti' qn' yo' ya' yb' yl' cu' ag' yv' yr' yt' yi' yk' ym' li' ye' qu' yd' ys' yz' (by omega) hR h1' ⟨a', n', pn', e1', ha8', e3', hn24', e5', hlt'⟩
        refine ⟨tm'', dl'', nt'', tc'', md'', lo'', en'', dO'', dA'', dB'', xo'', xa'', xb'', xl'', st'', xr'', rg'', xv'', pl'', tr'', xk'', xm'', wt'', xw'', xt'', xi'', mc'', tk'', xe'', xz'', ti'', qn'', yo'', ya'', yb'', yl'', cu'', ag'', yv'', yr'', yt'', yi'', yk'', ym'', li'', ye'', qu'', yd'', ys'', yz'', fun post n hn hq => ?_, fun post n hn hq => ?_, mp_T_R hR2 (by omega)⟩
        · obtain ⟨m, rfl⟩ := mp_pos hn
          refine hX post m k (by omega) ?_
          unfold wX_takeTurn_103
          rw [c]
          refine ⟨I, br_t h1' (mx_next_t hp ha8' hn24' e1' e3' e5' hlt' (br_f (by decide) ?_))⟩
          unfold wX_takeTurn_131
          rw [c]
          exact ⟨I, br_t h1' (nm_r (nI_1 k) (hX2 post m (by omega) hq))⟩
        · obtain ⟨m, rfl⟩ := mp_pos hn
          refine br_f (nI_ge (b := 8) (by omega) (by omega)) (br_f (by decide) (And.intro I ?_))
          rw [c]
          exact br_t h1 (hY _ ⟨I, br_t h1' (my_stands_t hp hb8' hn24' e2' e4' e5' hlt' (nm_r (nI_1 k) (hY2 post m (by omega) hq)))⟩)
      · obtain ⟨st'', tk'', nt'', qu'', qn'', mc'', xt'', xi'', yt'', yi'', lo'', xr'', xe'', xz'', xc'', yd'', ys'', yz'', yc'', xk'', yk'', xm'', ym'', yr'', en'', hX2, hY2, hs, hR2⟩ := mp_nonext (dl := dl') (nt := nt') (tc := tc') (tm := tm + 1) (xn := xn) (md := md') (lo := lo') (en := en') (dO := dO') (dA := dA') (dB := dB') (xo := xo') (xa := xa') (xb := xb') (xl := xl') (st := st') (xr := xr') (rg := rg') (xv := xv') (pl := pl') (tr := tr') (xk := xk') (xm := xm') (wt := wt') (xw := xw') (xt := xt') (xi := xi') (mc := mc') (tk := tk') (xe := xe') (xz := xz') (ti := ti') (qn := qn') (yn := yn) (yo := yo') (ya := ya') (yb := yb') (yl := yl') (cu := cu') (ag := ag') (yv := yv') (yr := yr') (yt := yt') (yi := yi') (yk := yk') (ym := ym') (li := li') (ye := ye') (qu := qu') (yd := yd') (ys := ys') (yz := yz') hR hp h1' ha8' hb8' hpn' e1' e2' e3' e4' e5' (by omega)
        refine ⟨tm + 1, dl', nt'', tc', md', lo'', en'', dO', dA', dB', xo', xa', xb', xl', st'', xr'', rg', xv', pl', tr', xk'', xm'', wt', xw', xt'', xi'', mc'', tk'', xe'', xz'', ti', qn'', yo', ya', yb', yl', cu', ag', yv', yr'', yt'', yi'', yk'', ym'', li', ye', qu'', yd'', ys'', yz'', fun post n hn hq => ?_, fun post n hn hq => ?_, mp_T_R (mp_F_R hR2 (by omega) (by omega)) (by omega)⟩
        · obtain ⟨m, rfl⟩ := mp_pos hn
          exact hX post m k (by omega) (hX2 post _ _ hq)
        · obtain ⟨m, rfl⟩ := mp_pos hn
          obtain ⟨m', rfl⟩ : ∃ m', m = m' + 1 := ⟨m - 1, by omega⟩
          refine br_f (nI_ge (b := 8) (by omega) (by omega)) (br_f (by decide) (And.intro I ?_))
          rw [c]
          exact br_t h1 (hY _ ⟨I, br_t h1' (hY2 _ (nm_e (my_66_0 hq)))⟩)
    · have hR := q2 h1'
      refine ⟨tm + 1, dl', nt', tc', md', lo', en', dO', dA', dB', xo', xa', xb', xl', st', xr', rg', xv', pl', tr', xk', xm', wt', xw', xt', xi', mc', tk', xe', xz', ti', qn', yo', ya', yb', yl', cu', ag', yv', yr', yt', yi', yk', ym', li', ye', qu', yd', ys', yz', fun post n hn hq => ?_, fun post n hn hq => ?_, mp_T_R (mp_F_R hR (by omega) (by omega)) (by omega)⟩
      · obtain ⟨m, rfl⟩ := mp_pos hn
        refine hX post m k (by omega) ?_
        unfold wX_takeTurn_103
        rw [c]
        refine ⟨I, br_f h1' ?_⟩
        unfold wX_takeTurn_131
        rw [c]
        exact ⟨I, br_f h1' hq⟩
      · obtain ⟨m, rfl⟩ := mp_pos hn
        obtain ⟨m', rfl⟩ : ∃ m', m = m' + 1 := ⟨m - 1, by omega⟩
        refine br_f (nI_ge (b := 8) (by omega) (by omega)) (br_f (by decide) (And.intro I ?_))
        rw [c]
        exact br_t h1 (hY _ ⟨I, br_f h1' (nm_e (my_66_n hp h1' hq))⟩)
def my_l66 (post : Int32 → SY → Prop) (q r : Int32) (v : SY) : Prop := match v with
  | (dl, qn, yc, tm, tc, yn, md, lo, en, yo, ya, yb, yl, cu, ag, dO, dA, dB, st, rg, pl, yv, yr, tr, yt, yi, mc, yk, ym, wt, li, ye, qu, yd, ys, yz, ti) => ∃ n66 : Nat, wY_turn_66 post q n66 r 0 dl qn yc tm tc yn md lo en yo ya yb yl cu ag dO dA dB st rg pl yv yr tr yt yi mc yk ym wt li ye qu yd ys yz ti
theorem mp_turn {K : Int} (h : (mp_D dl dO dA dB ∧ mp_C xo xa xb xl yo ya yb yl cu ∧ mp_V st xv yv xl cu ∧ mp_P st pl ∧ mp_S st ∧ mp_M st mc xt xi yt yi ∧ mp_K st xk yk ∧ mp_K st xm ym ∧ mp_W st xw li ye tm ∧ mp_T tm tc ti T ∧ mp_Q st tk nt p qu qn ∧ mp_E st xr yr ∧ mp_Z 0 st xr xe xz 0 yd ys yz 0 ∧ mp_F st nt (2 * tm.toInt + K) ∧ mp_G (fun _ _ => True) st xv yz)) (hp : p < 8) (h1 : st p = 1) (hK0 : 0 ≤ K) (hK1 : K < 2 ^ 32) (hT1 : T + 8 < 1900000000) : ∃ (tm' : Int32) (dl' : Int32) (nt' : Int64) (tc' md' lo' en' : Int32) (dO' dA' dB' xo' xa' xb' xl' st' xr' rg' xv' pl' tr' xk' xm' wt' xw' xt' xi' mc' : Nat → Int32) (tk' : Nat → Int64) (xe' xz' ti' : Nat → Int32) (qn' : Int32) (yo' ya' yb' yl' cu' ag' yv' yr' yt' yi' yk' ym' li' ye' qu' yd' ys' yz' : Nat → Int32), (∀ (post : SX → Prop), post (dl', nt', 0, tc', tm', xn, md', lo', en', dO', dA', dB', xo', xa', xb', xl', st', xr', rg', xv', pl', tr', xk', xm', wt', xw', xt', xi', mc', tk', xe', xz', ti') → wpX_takeTurn post (dl, nt, 0, tc, tm, xn, md, lo, en, dO, dA, dB, xo, xa, xb, xl, st, xr, rg, xv, pl, tr, xk, xm, wt, xw, xt, xi, mc, tk, xe, xz, ti) (nI p)) ∧ (∀ (post : Int32 → SY → Prop), post 1 (dl', qn', 0, tm', tc', yn, md', lo', en', yo', ya', yb', yl', cu', ag', dO', dA', dB', st', rg', pl', yv', yr', tr', yt', yi', mc', yk', ym', wt', li', ye', qu', yd', ys', yz', ti') → wpY_stands (fun r v => my_l66 post (nI p) r v) (dl, qn, 0, tm, tc, yn, md, lo, en, yo, ya, yb, yl, cu, ag, dO, dA, dB, st, rg, pl, yv, yr, tr, yt, yi, mc, yk, ym, wt, li, ye, qu, yd, ys, yz, ti) (nI p)) ∧ (mp_D dl' dO' dA' dB' ∧ mp_C xo' xa' xb' xl' yo' ya' yb' yl' cu' ∧ mp_V st' xv' yv' xl' cu' ∧ mp_P st' pl' ∧ mp_S st' ∧ mp_M st' mc' xt' xi' yt' yi' ∧ mp_K st' xk' yk' ∧ mp_K st' xm' ym' ∧ mp_W st' xw' li' ye' tm' ∧ mp_T tm' tc' ti' (T + 8) ∧ mp_Q st' tk' nt' 8 qu' qn' ∧ mp_E st' xr' yr' ∧ mp_Z 0 st' xr' xe' xz' 0 yd' ys' yz' 0 ∧ mp_F st' nt' (2 * tm'.toInt + K + 1) ∧ mp_G (fun _ _ => True) st' xv' yz') := by
  obtain ⟨t0, t1, _, _, _⟩ := h.2.2.2.2.2.2.2.2.2.1
  obtain ⟨a, b, n, pn, ha8, hb8, hn24, hpn, e1, e2, e3, e4, e5, rows⟩ := mp_next h hp (Or.inl h1)
  by_cases hlt : pn < n
  · obtain ⟨tm', dl', nt', tc', md', lo', en', dO', dA', dB', xo', xa', xb', xl', st', xr', rg', xv', pl', tr', xk', xm', wt', xw', xt', xi', mc', tk', xe', xz', ti', qn', yo', ya', yb', yl', cu', ag', yv', yr', yt', yi', yk', ym', li', ye', qu', yd', ys', yz', hX, hY, hR⟩ := mp_turn_l (xn := xn) (yn := yn) hp hK0 hK1 8 0 (by omega) T tm dl nt tc md lo en dO dA dB xo xa xb xl st xr rg xv pl tr xk xm wt xw xt xi mc tk xe xz ti qn yo ya yb yl cu ag yv yr yt yi yk ym li ye qu yd ys yz (by omega) h h1 ⟨a, n, pn, e1, ha8, e3, hn24, e5, hlt⟩
    refine ⟨tm', dl', nt', tc', md', lo', en', dO', dA', dB', xo', xa', xb', xl', st', xr', rg', xv', pl', tr', xk', xm', wt', xw', xt', xi', mc', tk', xe', xz', ti', qn', yo', ya', yb', yl', cu', ag', yv', yr', yt', yi', yk', ym', li', ye', qu', yd', ys', yz', fun post hq => ?_, fun post hq => ?_, mp_T_R hR (by omega)⟩
    · unfold wpX_takeTurn
      exact ⟨9, hX post 9 (by omega) hq⟩
    · exact my_stands_t hp hb8 hn24 e2 e4 e5 hlt ⟨10, hY post 10 (by omega) hq⟩
  · obtain ⟨st', tk', nt', qu', qn', mc', xt', xi', yt', yi', lo', xr', xe', xz', xc', yd', ys', yz', yc', xk', yk', xm', ym', yr', en', hX2, hY2, hs, hR2⟩ := mp_nonext (dl := dl) (nt := nt) (tc := tc) (tm := tm) (xn := xn) (md := md) (lo := lo) (en := en) (dO := dO) (dA := dA) (dB := dB) (xo := xo) (xa := xa) (xb := xb) (xl := xl) (st := st) (xr := xr) (rg := rg) (xv := xv) (pl := pl) (tr := tr) (xk := xk) (xm := xm) (wt := wt) (xw := xw) (xt := xt) (xi := xi) (mc := mc) (tk := tk) (xe := xe) (xz := xz) (ti := ti) (qn := qn) (yn := yn) (yo := yo) (ya := ya) (yb := yb) (yl := yl) (cu := cu) (ag := ag) (yv := yv) (yr := yr) (yt := yt) (yi := yi) (yk := yk) (ym := ym) (li := li) (ye := ye) (qu := qu) (yd := yd) (ys := ys) (yz := yz) h hp h1 ha8 hb8 hpn e1 e2 e3 e4 e5 (by omega)
    refine ⟨tm, dl, nt', tc, md, lo', en', dO, dA, dB, xo, xa, xb, xl, st', xr', rg, xv, pl, tr, xk', xm', wt, xw, xt', xi', mc', tk', xe', xz', ti, qn', yo, ya, yb, yl, cu, ag, yv, yr', yt', yi', yk', ym', li, ye, qu', yd', ys', yz', fun post hq => ?_, fun post hq => ?_, mp_T_R (mp_F_R hR2 (by omega) (by omega)) (by omega)⟩
    · unfold wpX_takeTurn
      exact ⟨1, br_f (by decide) (mx_next_f hp ha8 hpn e1 e3 e5 (by omega) (br_t rfl (hX2 post _ _ hq)))⟩
    · exact hY2 _ ⟨1, my_66_0 hq⟩
end
