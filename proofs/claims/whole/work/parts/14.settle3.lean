section
variable {dl xc tc tm xn md lo en qn yc yn : Int32} {nt : Int64} {dO dA dB xo xa xb xl st xr rg xv pl tr xk xm wt xw xt xi mc xe xz ti yo ya yb yl cu ag yv yr yt yi yk ym li ye qu yd ys yz : Nat → Int32} {tk : Nat → Int64} {run i p : Nat} {T C : Int} {G : Nat → Int32 → Prop}
theorem mp_endstep (h : (mp_D dl dO dA dB ∧ mp_C xo xa xb xl yo ya yb yl cu ∧ mp_V st xv yv xl cu ∧ mp_P st pl ∧ mp_S st ∧ mp_M st mc xt xi yt yi ∧ mp_K st xk yk ∧ mp_K st xm ym ∧ mp_W st xw li ye tm ∧ mp_T tm tc ti T ∧ mp_Q st tk nt run qu qn ∧ mp_E st xr yr ∧ mp_Z i st xr xe xz xc yd ys yz yc ∧ mp_F st nt C ∧ mp_G G st xv yz)) (hi : xc ≠ nI i) : ∃ (st' : Nat → Int32) (tk' : Nat → Int64) (nt' : Int64) (qu' : Nat → Int32) (qn' : Int32) (mc' xt' xi' yt' yi' : Nat → Int32) (lo' : Int32) (xr' xe' xz' : Nat → Int32) (xc' : Int32) (yd' ys' yz' : Nat → Int32) (yc' : Int32) (xk' yk' xm' ym' yr' : Nat → Int32) (en' : Int32), (∀ (post : SX → Prop) n, wX_finishEndings_2 post n (nI (i + 1)) dl nt' xc' tc tm xn md lo' en' dO dA dB xo xa xb xl st' xr' rg xv pl tr xk' xm' wt xw xt' xi' mc' tk' xe' xz' ti → wX_finishEndings_2 post (n + 1) (nI i) dl nt xc tc tm xn md lo en dO dA dB xo xa xb xl st xr rg xv pl tr xk xm wt xw xt xi mc tk xe xz ti) ∧ (∀ (post : SY → Prop) n, wY_settle_2 post n (nI (i + 1)) dl qn' yc' tm tc yn md lo' en' yo ya yb yl cu ag dO dA dB st' rg pl yv yr' tr yt' yi' mc' yk' ym' wt li ye qu' yd' ys' yz' ti → wY_settle_2 post (n + 1) (nI i) dl qn yc tm tc yn md lo en yo ya yb yl cu ag dO dA dB st rg pl yv yr tr yt yi mc yk ym wt li ye qu yd ys yz ti) ∧ (mp_D dl dO dA dB ∧ mp_C xo xa xb xl yo ya yb yl cu ∧ mp_V st' xv yv xl cu ∧ mp_P st' pl ∧ mp_S st' ∧ mp_M st' mc' xt' xi' yt' yi' ∧ mp_K st' xk' yk' ∧ mp_K st' xm' ym' ∧ mp_W st' xw li ye tm ∧ mp_T tm tc ti T ∧ mp_Q st' tk' nt' run qu' qn' ∧ mp_E st' xr' yr' ∧ mp_Z (i + 1) st' xr' xe' xz' xc' yd' ys' yz' yc' ∧ mp_F st' nt' C ∧ mp_G G st' xv yz') := by
  have hh := h
  obtain ⟨hD, hC, hV, hP, hS, hM, hK, hm, hW, hT, hQ, hE, hZ, hF, hG⟩ := h
  obtain ⟨p, d, hp, hid, hd8, rfl, rfl, e1, e2, ha, e3, hstep⟩ := mp_end_R hh hi
  have ci := nI_clamp (n := i) (by omega)
  have Ii := vp_in_nI (n := i) (N := 8) (by omega) (by omega)
  have cp := nI_clamp (n := p) (by omega)
  have Ip := vp_in_nI (n := p) (N := 8) hp (by omega)
  obtain ⟨w, hw, hmons⟩ := mx_mons (dl := dl) (nt := nt) (xc := nI d) (tc := tc) (tm := tm) (xn := xn) (md := md) (lo := lo) (en := en) (dO := dO) (dA := dA) (dB := dB) (xo := xo) (xa := xa) (xb := xb) (xl := xl) (st := st) (xr := xr) (rg := rg) (xv := xv) (pl := pl) (tr := tr) (xk := xk) (xm := xm) (wt := wt) (xw := xw) (xt := xt) (xi := xi) (mc := mc) (tk := tk) (xe := xe) (xz := xz) (ti := ti) (ym := ym) hm hp
  obtain ⟨xk', xm', k1, k2, m1, m2, hclose⟩ := mx_close (dl := dl) (nt := nt) (xc := nI d) (tc := tc) (tm := tm) (xn := xn) (md := md) (lo := lo) (en := en) (dO := dO) (dA := dA) (dB := dB) (xo := xo) (xa := xa) (xb := xb) (xl := xl) (st := st) (xr := xr) (rg := rg) (xv := xv) (pl := pl) (tr := tr) (xk := xk) (xm := xm) (wt := wt) (xw := xw) (xt := xt) (xi := xi) (mc := mc) (tk := tk) (xe := xe) (xz := xz) (ti := ti) hp
  obtain ⟨t', e', yk', ym', b1, b2, b3, b4, hY8⟩ := my_end_l (reason := ys i) (dl := dl) (qn := qn) (yc := nI d) (tm := tm) (tc := tc) (yn := yn) (md := md) (lo := lo) (en := en) (yo := yo) (ya := ya) (yb := yb) (yl := yl) (cu := cu) (ag := ag) (dO := dO) (dA := dA) (dB := dB) (st := st) (rg := rg) (pl := pl) (yv := yv) (yr := yr) (tr := tr) (yt := yt) (yi := yi) (mc := mc) (wt := wt) (li := li) (ye := ye) (qu := qu) (yd := yd) (ys := ys) (yz := yz) (ti := ti) hp 8 0 rfl 0 0 yk ym (fun j => decide (yk (8 * p + j) ≠ 0)) (fun j => decide (ym (8 * j + p) ≠ 0)) (mp_ac_0 _) (mp_ac_0 _) (fun j _ _ => ⟨rfl, rfl⟩)
  have et : xk p = t' := mp_ac_u (hK p hp).1 b1
  have ee : w = e' := mp_ac_u hw b2
  subst et
  subst ee
  obtain ⟨qu', qn', hlv, hleave⟩ := my_leave (tk := tk) (nt := nt) (run := run) (dl := dl) (qn := qn) (yc := nI d) (tm := tm) (tc := tc) (yn := yn) (md := md) (lo := lo) (en := en) (yo := yo) (ya := ya) (yb := yb) (yl := yl) (cu := cu) (ag := ag) (dO := dO) (dA := dA) (dB := dB) (st := upd st p 3) (rg := rg) (pl := pl) (yv := yv) (yr := upd yr p (ys i)) (tr := tr) (yt := yt) (yi := yi) (mc := upd mc p 0) (yk := yk') (ym := ym') (wt := wt) (li := li) (ye := ye) (qu := qu) (yd := yd) (ys := ys) (yz := yz) (ti := ti) hQ hp
  have kk : ∀ (f f' : Nat → Int32), (∀ a b, a < 8 → b < 8 → f' (8 * a + b) = if (a = p ∧ 0 ≤ b) ∨ (b = p ∧ 0 ≤ a) then 0 else f (8 * a + b)) → ∀ a b, a < 8 → b < 8 → f' (8 * a + b) = if a = p ∨ b = p then 0 else f (8 * a + b) := by
    intro f f' hf a b ha hb
    rw [hf a b ha hb]
    by_cases z : a = p ∨ b = p
    · rw [if_pos (by omega), if_pos z]
    · rw [if_neg (by omega), if_neg z]
  have hR1 := hstep xk' yk' xm' ym' qu' qn' hlv k1 k2 (kk yk yk' b3) m1 m2 (kk ym ym' b4)
  obtain ⟨st', tk', nt', qu', qn', mc', xt', xi', yt', yi', lo', xr', xe', xz', xc', yd', ys', yz', yc', hXs, hYs, hRs, hals, ers⟩ := mp_sigloop (run := run) (i := i + 1) (T := T) (C := C) (G := G) (dl := dl) (tc := tc) (tm := tm) (xn := xn) (md := md) (en := en + 1) (dO := dO) (dA := dA) (dB := dB) (xo := xo) (xa := xa) (xb := xb) (xl := xl) (rg := rg) (xv := xv) (pl := pl) (tr := tr) (xk := xk') (xm := xm') (wt := wt) (xw := xw) (ti := ti) (yn := yn) (yo := yo) (ya := ya) (yb := yb) (yl := yl) (cu := cu) (ag := ag) (yv := yv) (yr := upd yr p (ys i)) (yk := yk') (ym := ym') (li := li) (ye := ye) (f := p) hp b1 8 0 rfl (upd st p 3) tk nt qu' qn' (upd mc p 0) xt xi yt yi lo xr xe (upd xz p 0) (nI d) yd ys yz (nI d) hR1 (fun j hj z => by
    obtain ⟨_, w1, w2⟩ := (hK p hp).2 j hj (of_decide_eq_true z)
    exact (mp_al_n (Ne.symm w2)).mpr w1) mp_al_3 e3
  obtain ⟨st'', tk'', nt'', qu'', qn'', mc'', xt'', xi'', yt'', yi'', lo'', hXd, hYd, hRd, hald⟩ := mp_delloop (run := run) (i := i + 1) (T := T) (C := C) (G := G) (dl := dl) (xc := xc') (tc := tc) (tm := tm) (xn := xn) (md := md) (en := en + 1) (dO := dO) (dA := dA) (dB := dB) (xo := xo) (xa := xa) (xb := xb) (xl := xl) (xr := xr') (rg := rg) (xv := xv) (pl := pl) (tr := tr) (xk := xk') (xm := xm') (wt := wt) (xw := xw) (xe := xe') (xz := xz') (ti := ti) (yc := yc') (yn := yn) (yo := yo) (ya := ya) (yb := yb) (yl := yl) (cu := cu) (ag := ag) (yv := yv) (yr := upd yr p (ys i)) (yk := yk') (ym := ym') (li := li) (ye := ye) (yd := yd') (ys := ys') (yz := yz') (f := p) hp b2 ers 8 0 rfl st' tk' nt' qu' qn' mc' xt' xi' yt' yi' lo' hRs (fun j hj z => by
    obtain ⟨w1, _, w2⟩ := (hm j hj).2 p hp (of_decide_eq_true z)
    exact (hals j hj).mpr ((mp_al_n w2).mpr w1))
  refine ⟨st'', tk'', nt'', qu'', qn'', mc'', xt'', xi'', yt'', yi'', lo'', xr', xe', xz', xc', yd', ys', yz', yc', xk', yk', xm', ym', upd yr p (ys i), en + 1, fun post n hq => ?_, fun post n hq => ?_, hRd⟩
  · refine br_f (nI_ge (b := 8) (by omega) (by omega)) (br_t (nI_lt hid (by omega)) (And.intro Ii ?_))
    rw [ci, e1]
    refine nm_e ⟨Ip, ?_⟩
    rw [cp]
    exact nm_e (hmons _ (hclose _ ⟨9, hXs _ _ _ _ 9 (by omega) ⟨9, hXd _ _ _ 9 (by omega) (by rw [nI_1]; exact hq)⟩⟩))
  · refine br_f (nI_ge hid (by omega)) (And.intro Ii (And.intro Ii ?_))
    rw [ci, e2]
    unfold wpY_end
    refine ⟨9, hY8 _ 9 (by omega) (br_t (nI_le (b := 8) (Nat.le_refl 8) (by omega)) (And.intro Ip ?_))⟩
    rw [cp]
    exact nm_e ⟨Ip, nm_e ⟨Ip, nm_e (hleave _ (nm_e ⟨9, hYs _ _ 9 (by omega) ⟨9, hYd _ 9 (by omega) (nm_r (nI_1 i) hq)⟩⟩))⟩⟩
theorem my_clear {d : Nat} (hd8 : d ≤ 8) (hyd : ∀ j, j < d → ∃ q, q < 8 ∧ yd j = nI q) : ∀ e k, k + e = d → ∀ yz : Nat → Int32, (∀ q, q < 8 → yz q ≠ 0 → ∃ j, k ≤ j ∧ j < d ∧ yd j = nI q) → ∃ yz' : Nat → Int32, (∀ q, q < 8 → yz' q = 0) ∧ ∀ (post : SY → Prop) n, e < n → post (dl, qn, 0, tm, tc, yn, md, lo, en, yo, ya, yb, yl, cu, ag, dO, dA, dB, st, rg, pl, yv, yr, tr, yt, yi, mc, yk, ym, wt, li, ye, qu, yd, ys, yz', ti) → wY_settle_34 post dl qn (nI d) tm tc yn md lo en n (nI k) yo ya yb yl cu ag dO dA dB st rg pl yv yr tr yt yi mc yk ym wt li ye qu yd ys yz ti := by
  intro e
  induction e with
  | zero =>
    intro k hk yz hz
    have e8 : k = d := by omega
    subst e8
    refine ⟨yz, fun q hq => ?_, fun post n hn h => ?_⟩
    · by_cases z : yz q = 0
      · exact z
      · obtain ⟨j, h1, h2, _⟩ := hz q hq z
        omega
    · obtain ⟨m, rfl⟩ := mp_pos hn
      exact br_t (nI_le (Nat.le_refl k) (by omega)) h
  | succ e ih =>
    intro k hk yz hz
    obtain ⟨q0, hq0, eq0⟩ := hyd k (by omega)
    have ck := nI_clamp (n := k) (by omega)
    have Ik := vp_in_nI (n := k) (N := 8) (by omega) (by omega)
    have cq := nI_clamp (n := q0) (by omega)
    have Iq := vp_in_nI (n := q0) (N := 8) hq0 (by omega)
    obtain ⟨yz', h1, hY⟩ := ih (k + 1) (by omega) (upd yz q0 0) (fun q hq z => by
      by_cases w : q = q0
      · subst w
        rw [pk_us] at z
        exact absurd rfl z
      · rw [pk_un w] at z
        obtain ⟨j, a1, a2, a3⟩ := hz q hq z
        refine ⟨j, ?_, a2, a3⟩
        by_cases w2 : j = k
        · subst w2
          rw [eq0, nI_eq (by omega) (by omega)] at a3
          exact absurd a3.symm w
        · omega)
    refine ⟨yz', h1, fun post n hn h => ?_⟩
    obtain ⟨m, rfl⟩ := mp_pos hn
    refine br_f (nI_ge (by omega) (by omega)) (And.intro Ik ?_)
    rw [ck, eq0, cq, mp_b0n]
    exact ⟨Iq, nm_e (nm_r (nI_1 k) (hY post m (by omega) h))⟩
theorem mp_settle_x (h : (mp_D dl dO dA dB ∧ mp_C xo xa xb xl yo ya yb yl cu ∧ mp_V st xv yv xl cu ∧ mp_P st pl ∧ mp_S st ∧ mp_M st mc xt xi yt yi ∧ mp_K st xk yk ∧ mp_K st xm ym ∧ mp_W st xw li ye tm ∧ mp_T tm tc ti T ∧ mp_Q st tk nt run qu qn ∧ mp_E st xr yr ∧ mp_Z i st xr xe xz xc yd ys yz yc ∧ mp_F st nt C ∧ mp_G G st xv yz)) (hx : xc = nI i) : ∃ yz' : Nat → Int32, (∀ (post : SX → Prop) n, post (dl, nt, 0, tc, tm, xn, md, lo, en, dO, dA, dB, xo, xa, xb, xl, st, xr, rg, xv, pl, tr, xk, xm, wt, xw, xt, xi, mc, tk, xe, xz, ti) → wX_finishEndings_2 post (n + 1) (nI i) dl nt xc tc tm xn md lo en dO dA dB xo xa xb xl st xr rg xv pl tr xk xm wt xw xt xi mc tk xe xz ti) ∧ (∀ (post : SY → Prop) n, post (dl, qn, 0, tm, tc, yn, md, lo, en, yo, ya, yb, yl, cu, ag, dO, dA, dB, st, rg, pl, yv, yr, tr, yt, yi, mc, yk, ym, wt, li, ye, qu, yd, ys, yz', ti) → wY_settle_2 post (n + 1) (nI i) dl qn yc tm tc yn md lo en yo ya yb yl cu ag dO dA dB st rg pl yv yr tr yt yi mc yk ym wt li ye qu yd ys yz ti) ∧ (mp_D dl dO dA dB ∧ mp_C xo xa xb xl yo ya yb yl cu ∧ mp_V st xv yv xl cu ∧ mp_P st pl ∧ mp_S st ∧ mp_M st mc xt xi yt yi ∧ mp_K st xk yk ∧ mp_K st xm ym ∧ mp_W st xw li ye tm ∧ mp_T tm tc ti T ∧ mp_Q st tk nt run qu qn ∧ mp_E st xr yr ∧ mp_Z 0 st xr xe xz 0 yd ys yz' 0 ∧ mp_F st nt C ∧ mp_G G st xv yz') := by
  have hh := h
  obtain ⟨hD, hC, hV, hP, hS, hM, hK, hm, hW, hT, hQ, hE, hZ, hF, hG⟩ := h
  obtain ⟨d, a, b, c1, c2, c3, f, g, k, l⟩ := hZ
  have ed : d = i := by
    rw [c1, nI_eq (by omega) (by omega)] at hx
    exact hx
  subst ed
  subst c2
  subst hx
  obtain ⟨yz', h1, hY⟩ := my_clear (dl := dl) (qn := qn) (tm := tm) (tc := tc) (yn := yn) (md := md) (lo := lo) (en := en) (yo := yo) (ya := ya) (yb := yb) (yl := yl) (cu := cu) (ag := ag) (dO := dO) (dA := dA) (dB := dB) (st := st) (rg := rg) (pl := pl) (yv := yv) (yr := yr) (tr := tr) (yt := yt) (yi := yi) (mc := mc) (yk := yk) (ym := ym) (wt := wt) (li := li) (ye := ye) (qu := qu) (yd := yd) (ys := ys) (ti := ti) a (fun j hj => by
    obtain ⟨q, hq, w, _⟩ := f j hj
    exact ⟨q, hq, w⟩) d 0 (by omega) yz (fun q hq z => by
    obtain ⟨j, hj, w⟩ := g q hq z
    exact ⟨j, by omega, hj, w⟩)
  refine ⟨yz', fun post n hq => ?_, fun post n hq => ?_, mp_fin_R hh rfl h1⟩
  · by_cases e8 : d = 8
    · subst e8
      exact br_t (nI_le (b := 8) (Nat.le_refl 8) (by omega)) hq
    · exact br_f (nI_ge (b := 8) (by omega) (by omega)) (br_f (nI_nlt (Nat.le_refl d) (by omega)) hq)
  · exact br_t (nI_le (Nat.le_refl d) (by omega)) ⟨d + 1, hY post _ (by omega) hq⟩
theorem mp_settle_i : ∀ m i, 8 - i ≤ m → ∀ (st : Nat → Int32) (tk : Nat → Int64) (nt : Int64) (qu : Nat → Int32) (qn : Int32) (mc xt xi yt yi : Nat → Int32) (lo : Int32) (xr xe xz : Nat → Int32) (xc : Int32) (yd ys yz : Nat → Int32) (yc : Int32) (xk yk xm ym yr : Nat → Int32) (en : Int32), (mp_D dl dO dA dB ∧ mp_C xo xa xb xl yo ya yb yl cu ∧ mp_V st xv yv xl cu ∧ mp_P st pl ∧ mp_S st ∧ mp_M st mc xt xi yt yi ∧ mp_K st xk yk ∧ mp_K st xm ym ∧ mp_W st xw li ye tm ∧ mp_T tm tc ti T ∧ mp_Q st tk nt run qu qn ∧ mp_E st xr yr ∧ mp_Z i st xr xe xz xc yd ys yz yc ∧ mp_F st nt C ∧ mp_G G st xv yz) → ∃ (st' : Nat → Int32) (tk' : Nat → Int64) (nt' : Int64) (qu' : Nat → Int32) (qn' : Int32) (mc' xt' xi' yt' yi' : Nat → Int32) (lo' : Int32) (xr' xe' xz' : Nat → Int32) (xc' : Int32) (yd' ys' yz' : Nat → Int32) (yc' : Int32) (xk' yk' xm' ym' yr' : Nat → Int32) (en' : Int32), (∀ (post : SX → Prop) n, m < n → post (dl, nt', 0, tc, tm, xn, md, lo', en', dO, dA, dB, xo, xa, xb, xl, st', xr', rg, xv, pl, tr, xk', xm', wt, xw, xt', xi', mc', tk', xe', xz', ti) → wX_finishEndings_2 post n (nI i) dl nt xc tc tm xn md lo en dO dA dB xo xa xb xl st xr rg xv pl tr xk xm wt xw xt xi mc tk xe xz ti) ∧ (∀ (post : SY → Prop) n, m < n → post (dl, qn', 0, tm, tc, yn, md, lo', en', yo, ya, yb, yl, cu, ag, dO, dA, dB, st', rg, pl, yv, yr', tr, yt', yi', mc', yk', ym', wt, li, ye, qu', yd', ys', yz', ti) → wY_settle_2 post n (nI i) dl qn yc tm tc yn md lo en yo ya yb yl cu ag dO dA dB st rg pl yv yr tr yt yi mc yk ym wt li ye qu yd ys yz ti) ∧ (mp_D dl dO dA dB ∧ mp_C xo xa xb xl yo ya yb yl cu ∧ mp_V st' xv yv xl cu ∧ mp_P st' pl ∧ mp_S st' ∧ mp_M st' mc' xt' xi' yt' yi' ∧ mp_K st' xk' yk' ∧ mp_K st' xm' ym' ∧ mp_W st' xw li ye tm ∧ mp_T tm tc ti T ∧ mp_Q st' tk' nt' run qu' qn' ∧ mp_E st' xr' yr' ∧ mp_Z 0 st' xr' xe' xz' 0 yd' ys' yz' 0 ∧ mp_F st' nt' C ∧ mp_G G st' xv yz') := by
  intro m
  induction m with
  | zero =>
    intro i hi st tk nt qu qn mc xt xi yt yi lo xr xe xz xc yd ys yz yc xk yk xm ym yr en h
    have hx : xc = nI i := by
      obtain ⟨hD, hC, hV, hP, hS, hM, hK, hm, hW, hT, hQ, hE, hZ, hF, hG⟩ := h
      obtain ⟨d, a, b, c1, c2, c3, f, g, k, l⟩ := hZ
      rw [c1]
      exact congrArg nI (by omega)
    obtain ⟨yz', hX, hY, hR⟩ := mp_settle_x (dl := dl) (nt := nt) (xc := xc) (tc := tc) (tm := tm) (xn := xn) (md := md) (lo := lo) (en := en) (dO := dO) (dA := dA) (dB := dB) (xo := xo) (xa := xa) (xb := xb) (xl := xl) (st := st) (xr := xr) (rg := rg) (xv := xv) (pl := pl) (tr := tr) (xk := xk) (xm := xm) (wt := wt) (xw := xw) (xt := xt) (xi := xi) (mc := mc) (tk := tk) (xe := xe) (xz := xz) (ti := ti) (qn := qn) (yc := yc) (yn := yn) (yo := yo) (ya := ya) (yb := yb) (yl := yl) (cu := cu) (ag := ag) (yv := yv) (yr := yr) (yt := yt) (yi := yi) (yk := yk) (ym := ym) (li := li) (ye := ye) (qu := qu) (yd := yd) (ys := ys) (yz := yz) h hx
    refine ⟨st, tk, nt, qu, qn, mc, xt, xi, yt, yi, lo, xr, xe, xz, 0, yd, ys, yz', 0, xk, yk, xm, ym, yr, en, fun post n hn hq => ?_, fun post n hn hq => ?_, hR⟩
    · obtain ⟨m, rfl⟩ := mp_pos hn
      exact hX post m hq
    · obtain ⟨m, rfl⟩ := mp_pos hn
      exact hY post m hq
  | succ m ih =>
    intro i hi st tk nt qu qn mc xt xi yt yi lo xr xe xz xc yd ys yz yc xk yk xm ym yr en h
    by_cases hx : xc = nI i
    · obtain ⟨yz', hX, hY, hR⟩ := mp_settle_x (dl := dl) (nt := nt) (xc := xc) (tc := tc) (tm := tm) (xn := xn) (md := md) (lo := lo) (en := en) (dO := dO) (dA := dA) (dB := dB) (xo := xo) (xa := xa) (xb := xb) (xl := xl) (st := st) (xr := xr) (rg := rg) (xv := xv) (pl := pl) (tr := tr) (xk := xk) (xm := xm) (wt := wt) (xw := xw) (xt := xt) (xi := xi) (mc := mc) (tk := tk) (xe := xe) (xz := xz) (ti := ti) (qn := qn) (yc := yc) (yn := yn) (yo := yo) (ya := ya) (yb := yb) (yl := yl) (cu := cu) (ag := ag) (yv := yv) (yr := yr) (yt := yt) (yi := yi) (yk := yk) (ym := ym) (li := li) (ye := ye) (qu := qu) (yd := yd) (ys := ys) (yz := yz) h hx
      refine ⟨st, tk, nt, qu, qn, mc, xt, xi, yt, yi, lo, xr, xe, xz, 0, yd, ys, yz', 0, xk, yk, xm, ym, yr, en, fun post n hn hq => ?_, fun post n hn hq => ?_, hR⟩
      · obtain ⟨m, rfl⟩ := mp_pos hn
        exact hX post m hq
      · obtain ⟨m, rfl⟩ := mp_pos hn
        exact hY post m hq
    · obtain ⟨st', tk', nt', qu', qn', mc', xt', xi', yt', yi', lo', xr', xe', xz', xc', yd', ys', yz', yc', xk', yk', xm', ym', yr', en', hX, hY, hR⟩ := mp_endstep (dl := dl) (nt := nt) (xc := xc) (tc := tc) (tm := tm) (xn := xn) (md := md) (lo := lo) (en := en) (dO := dO) (dA := dA) (dB := dB) (xo := xo) (xa := xa) (xb := xb) (xl := xl) (st := st) (xr := xr) (rg := rg) (xv := xv) (pl := pl) (tr := tr) (xk := xk) (xm := xm) (wt := wt) (xw := xw) (xt := xt) (xi := xi) (mc := mc) (tk := tk) (xe := xe) (xz := xz) (ti := ti) (qn := qn) (yc := yc) (yn := yn) (yo := yo) (ya := ya) (yb := yb) (yl := yl) (cu := cu) (ag := ag) (yv := yv) (yr := yr) (yt := yt) (yi := yi) (yk := yk) (ym := ym) (li := li) (ye := ye) (qu := qu) (yd := yd) (ys := ys) (yz := yz) h hx
      obtain ⟨st'', tk'', nt'', qu'', qn'', mc'', xt'', xi'', yt'', yi'', lo'', xr'', xe'', xz'', xc'', yd'', ys'', yz'', yc'', xk'', yk'', xm'', ym'', yr'', en'', hX2, hY2, hR2⟩ := ih (i + 1) (by omega) st' tk' nt' qu' qn' mc' xt' xi' yt' yi' lo' xr' xe' xz' xc' yd' ys' yz' yc' xk' yk' xm' ym' yr' en' hR
      refine ⟨st'', tk'', nt'', qu'', qn'', mc'', xt'', xi'', yt'', yi'', lo'', xr'', xe'', xz'', xc'', yd'', ys'', yz'', yc'', xk'', yk'', xm'', ym'', yr'', en'', fun post n hn hq => ?_, fun post n hn hq => ?_, hR2⟩
      · obtain ⟨k, rfl⟩ := mp_pos hn
        exact hX post k (hX2 post k (by omega) hq)
      · obtain ⟨k, rfl⟩ := mp_pos hn
        exact hY post k (hY2 post k (by omega) hq)
theorem mp_settle (h : (mp_D dl dO dA dB ∧ mp_C xo xa xb xl yo ya yb yl cu ∧ mp_V st xv yv xl cu ∧ mp_P st pl ∧ mp_S st ∧ mp_M st mc xt xi yt yi ∧ mp_K st xk yk ∧ mp_K st xm ym ∧ mp_W st xw li ye tm ∧ mp_T tm tc ti T ∧ mp_Q st tk nt run qu qn ∧ mp_E st xr yr ∧ mp_Z 0 st xr xe xz xc yd ys yz yc ∧ mp_F st nt C ∧ mp_G G st xv yz)) : ∃ (st' : Nat → Int32) (tk' : Nat → Int64) (nt' : Int64) (qu' : Nat → Int32) (qn' : Int32) (mc' xt' xi' yt' yi' : Nat → Int32) (lo' : Int32) (xr' xe' xz' : Nat → Int32) (xc' : Int32) (yd' ys' yz' : Nat → Int32) (yc' : Int32) (xk' yk' xm' ym' yr' : Nat → Int32) (en' : Int32), (∀ (post : SX → Prop), post (dl, nt', 0, tc, tm, xn, md, lo', en', dO, dA, dB, xo, xa, xb, xl, st', xr', rg, xv, pl, tr, xk', xm', wt, xw, xt', xi', mc', tk', xe', xz', ti) → wpX_finishEndings post (dl, nt, xc, tc, tm, xn, md, lo, en, dO, dA, dB, xo, xa, xb, xl, st, xr, rg, xv, pl, tr, xk, xm, wt, xw, xt, xi, mc, tk, xe, xz, ti)) ∧ (∀ (post : SY → Prop), post (dl, qn', 0, tm, tc, yn, md, lo', en', yo, ya, yb, yl, cu, ag, dO, dA, dB, st', rg, pl, yv, yr', tr, yt', yi', mc', yk', ym', wt, li, ye, qu', yd', ys', yz', ti) → wpY_settle post (dl, qn, yc, tm, tc, yn, md, lo, en, yo, ya, yb, yl, cu, ag, dO, dA, dB, st, rg, pl, yv, yr, tr, yt, yi, mc, yk, ym, wt, li, ye, qu, yd, ys, yz, ti)) ∧ (mp_D dl dO dA dB ∧ mp_C xo xa xb xl yo ya yb yl cu ∧ mp_V st' xv yv xl cu ∧ mp_P st' pl ∧ mp_S st' ∧ mp_M st' mc' xt' xi' yt' yi' ∧ mp_K st' xk' yk' ∧ mp_K st' xm' ym' ∧ mp_W st' xw li ye tm ∧ mp_T tm tc ti T ∧ mp_Q st' tk' nt' run qu' qn' ∧ mp_E st' xr' yr' ∧ mp_Z 0 st' xr' xe' xz' 0 yd' ys' yz' 0 ∧ mp_F st' nt' C ∧ mp_G G st' xv yz') := by
  obtain ⟨st', tk', nt', qu', qn', mc', xt', xi', yt', yi', lo', xr', xe', xz', xc', yd', ys', yz', yc', xk', yk', xm', ym', yr', en', hX, hY, hR⟩ := mp_settle_i (dl := dl) (tc := tc) (tm := tm) (xn := xn) (md := md) (dO := dO) (dA := dA) (dB := dB) (xo := xo) (xa := xa) (xb := xb) (xl := xl) (rg := rg) (xv := xv) (pl := pl) (tr := tr) (wt := wt) (xw := xw) (ti := ti) (yn := yn) (yo := yo) (ya := ya) (yb := yb) (yl := yl) (cu := cu) (ag := ag) (yv := yv) (li := li) (ye := ye) 8 0 (by omega) st tk nt qu qn mc xt xi yt yi lo xr xe xz xc yd ys yz yc xk yk xm ym yr en h
  exact ⟨st', tk', nt', qu', qn', mc', xt', xi', yt', yi', lo', xr', xe', xz', xc', yd', ys', yz', yc', xk', yk', xm', ym', yr', en', fun post hq => by unfold wpX_finishEndings; exact ⟨9, hX post 9 (by omega) hq⟩, fun post hq => by unfold wpY_settle; exact ⟨9, hY post 9 (by omega) hq⟩, hR⟩
theorem mx_fin0 {post : SX → Prop} (h : post (dl, nt, 0, tc, tm, xn, md, lo, en, dO, dA, dB, xo, xa, xb, xl, st, xr, rg, xv, pl, tr, xk, xm, wt, xw, xt, xi, mc, tk, xe, xz, ti)) : wpX_finishEndings post (dl, nt, 0, tc, tm, xn, md, lo, en, dO, dA, dB, xo, xa, xb, xl, st, xr, rg, xv, pl, tr, xk, xm, wt, xw, xt, xi, mc, tk, xe, xz, ti) := by
  unfold wpX_finishEndings
  exact ⟨1, br_f (by decide) (br_f (by decide) h)⟩
end
