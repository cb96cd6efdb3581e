section
variable {dl xc tc tm xn md lo en qn yc yn : Int32} {nt : Int64} {dO dA dB xo xa xb xl st xr rg xv pl tr xk xm wt xw xt xi mc xe xz ti yo ya yb yl cu ag yv yr yt yi yk ym li ye qu yd ys yz : Nat → Int32} {tk : Nat → Int64} {run i p : Nat} {T C : Int} {G : Nat → Int32 → Prop}
/-! the watchers get their messages -/
theorem mp_delloop {f : Nat} {lk reason : Int32} {g : Nat → Bool} (hf : f < 8) (hlk : mp_ac lk g 8) (er : xr f = reason) : ∀ d q, q + d = 8 → ∀ (st : Nat → Int32) (tk : Nat → Int64) (nt : Int64) (qu : Nat → Int32) (qn : Int32) (mc xt xi yt yi : Nat → Int32) (lo : Int32), (mp_D dl dO dA dB ∧ mp_C xo xa xb xl yo ya yb yl cu ∧ mp_V st xv yv xl cu ∧ mp_P st pl ∧ mp_S st ∧ mp_M st mc xt xi yt yi ∧ mp_K st xk yk ∧ mp_K st xm ym ∧ mp_W st xw li ye tm ∧ mp_T tm tc ti T ∧ mp_Q st tk nt run qu qn ∧ mp_E st xr yr ∧ mp_Z i st xr xe xz xc yd ys yz yc ∧ mp_F st nt C ∧ mp_G G st xv yz) → (∀ j, j < 8 → g j = true → mp_al st j) → ∃ (st' : Nat → Int32) (tk' : Nat → Int64) (nt' : Int64) (qu' : Nat → Int32) (qn' : Int32) (mc' xt' xi' yt' yi' : Nat → Int32) (lo' : Int32),
    (∀ post J x1 n, d < n → J (x1 + 1) dl nt' xc tc tm xn md lo' en dO dA dB xo xa xb xl st' xr rg xv pl tr xk xm wt xw xt' xi' mc' tk' xe xz ti → wX_finishEndings_87 post J x1 (nI f) lk n (nI q) dl nt xc tc tm xn md lo en dO dA dB xo xa xb xl st xr rg xv pl tr xk xm wt xw xt xi mc tk xe xz ti) ∧ (∀ post n, d < n → post (dl, qn', yc, tm, tc, yn, md, lo', en, yo, ya, yb, yl, cu, ag, dO, dA, dB, st', rg, pl, yv, yr, tr, yt', yi', mc', yk, ym, wt, li, ye, qu', yd, ys, yz, ti) → wY_end_192 post (nI f) reason lk n (nI q) dl qn yc tm tc yn md lo en yo ya yb yl cu ag dO dA dB st rg pl yv yr tr yt yi mc yk ym wt li ye qu yd ys yz ti) ∧ (mp_D dl dO dA dB ∧ mp_C xo xa xb xl yo ya yb yl cu ∧ mp_V st' xv yv xl cu ∧ mp_P st' pl ∧ mp_S st' ∧ mp_M st' mc' xt' xi' yt' yi' ∧ mp_K st' xk yk ∧ mp_K st' xm ym ∧ mp_W st' xw li ye tm ∧ mp_T tm tc ti T ∧ mp_Q st' tk' nt' run qu' qn' ∧ mp_E st' xr yr ∧ mp_Z i st' xr xe xz xc yd ys yz yc ∧ mp_F st' nt' C ∧ mp_G G st' xv yz) ∧ (∀ q, q < 8 → (mp_al st' q ↔ mp_al st q)) := by
  intro d
  induction d with
  | zero =>
    intro q hq st tk nt qu qn mc xt xi yt yi lo h hg
    have e : q = 8 := by omega
    subst e
    refine ⟨st, tk, nt, qu, qn, mc, xt, xi, yt, yi, lo, fun post J x1 n hn hJ => ?_, fun post n hn hJ => ?_, h, fun q _ => Iff.rfl⟩
    · obtain ⟨m, rfl⟩ := mp_pos hn
      exact br_t (nI_le (b := 8) (Nat.le_refl 8) (by omega)) (nm_e hJ)
    · obtain ⟨m, rfl⟩ := mp_pos hn
      exact br_t (nI_le (b := 8) (Nat.le_refl 8) (by omega)) hJ
  | succ d ih =>
    intro q hq st tk nt qu qn mc xt xi yt yi lo h hg
    have h8 : ¬ (8 : Int32) ≤ nI q := nI_ge (b := 8) (by omega) (by omega)
    have cf := nI_clamp (n := f) (by omega)
    have If := vp_in_nI (n := f) (N := 8) hf (by omega)
    have hb := mp_hbg hlk (q := q) (by omega)
    by_cases hgq : g q = true
    · have ha := hg q (by omega) hgq
      obtain ⟨r, st', tk', nt', qu', qn', mc', xt', xi', yt', yi', lo', hX, hY, hR, hal, hr⟩ := mp_deliver (dl := dl) (nt := nt) (xc := xc) (tc := tc) (tm := tm) (xn := xn) (md := md) (lo := lo) (en := en) (dO := dO) (dA := dA) (dB := dB) (xo := xo) (xa := xa) (xb := xb) (xl := xl) (st := st) (xr := xr) (rg := rg) (xv := xv) (pl := pl) (tr := tr) (xk := xk) (xm := xm) (wt := wt) (xw := xw) (xt := xt) (xi := xi) (mc := mc) (tk := tk) (xe := xe) (xz := xz) (ti := ti) (qn := qn) (yc := yc) (yn := yn) (yo := yo) (ya := ya) (yb := yb) (yl := yl) (cu := cu) (ag := ag) (yv := yv) (yr := yr) (yt := yt) (yi := yi) (yk := yk) (ym := ym) (li := li) (ye := ye) (qu := qu) (yd := yd) (ys := ys) (yz := yz) h (p := q) (by omega) ha 7 (nI f + 8 * reason)
      obtain ⟨st'', tk'', nt'', qu'', qn'', mc'', xt'', xi'', yt'', yi'', lo'', hX2, hY2, hR2, hal2⟩ := ih (q + 1) (by omega) st' tk' nt' qu' qn' mc' xt' xi' yt' yi' lo' hR (fun j hj w => (hal j hj).mpr (hg j hj w))
      refine ⟨st'', tk'', nt'', qu'', qn'', mc'', xt'', xi'', yt'', yi'', lo'', fun post J x1 n hn hJ => ?_, fun post n hn hJ => ?_, hR2, fun j hj => (hal2 j hj).trans (hal j hj)⟩
      · obtain ⟨m, rfl⟩ := mp_pos hn
        refine br_f h8 (br_t (hb.mpr hgq) (br_f (by decide) (And.intro If ?_)))
        rw [cf, er]
        exact hX _ (nm_r (nI_1 q) (hX2 post J x1 m (by omega) hJ))
      · obtain ⟨m, rfl⟩ := mp_pos hn
        exact br_f h8 (br_t (hb.mpr hgq) (my_al_t (by omega) ha (br_f (by decide) (hY _ (nm_r (nI_1 q) (hY2 post m (by omega) hJ))))))
    · obtain ⟨st'', tk'', nt'', qu'', qn'', mc'', xt'', xi'', yt'', yi'', lo'', hX2, hY2, hR2, hal2⟩ := ih (q + 1) (by omega) st tk nt qu qn mc xt xi yt yi lo h hg
      refine ⟨st'', tk'', nt'', qu'', qn'', mc'', xt'', xi'', yt'', yi'', lo'', fun post J x1 n hn hJ => ?_, fun post n hn hJ => ?_, hR2, hal2⟩
      · obtain ⟨m, rfl⟩ := mp_pos hn
        exact br_f h8 (br_f (fun z => hgq (hb.mp z)) (br_t rfl (nm_r (nI_1 q) (hX2 post J x1 m (by omega) hJ))))
      · obtain ⟨m, rfl⟩ := mp_pos hn
        exact br_f h8 (br_f (fun z => hgq (hb.mp z)) (nm_r (nI_1 q) (hY2 post m (by omega) hJ)))
/-! the linked get their signals -/
theorem mp_sigloop {f : Nat} {lk reason : Int32} {g : Nat → Bool} (hf : f < 8) (hlk : mp_ac lk g 8) : ∀ d q, q + d = 8 → ∀ (st : Nat → Int32) (tk : Nat → Int64) (nt : Int64) (qu : Nat → Int32) (qn : Int32) (mc xt xi yt yi : Nat → Int32) (lo : Int32) (xr xe xz : Nat → Int32) (xc : Int32) (yd ys yz : Nat → Int32) (yc : Int32), (mp_D dl dO dA dB ∧ mp_C xo xa xb xl yo ya yb yl cu ∧ mp_V st xv yv xl cu ∧ mp_P st pl ∧ mp_S st ∧ mp_M st mc xt xi yt yi ∧ mp_K st xk yk ∧ mp_K st xm ym ∧ mp_W st xw li ye tm ∧ mp_T tm tc ti T ∧ mp_Q st tk nt run qu qn ∧ mp_E st xr yr ∧ mp_Z i st xr xe xz xc yd ys yz yc ∧ mp_F st nt C ∧ mp_G G st xv yz) → (∀ j, j < 8 → g j = true → mp_al st j) → ¬ mp_al st f → xr f = reason → ∃ (st' : Nat → Int32) (tk' : Nat → Int64) (nt' : Int64) (qu' : Nat → Int32) (qn' : Int32) (mc' xt' xi' yt' yi' : Nat → Int32) (lo' : Int32) (xr' xe' xz' : Nat → Int32) (xc' : Int32) (yd' ys' yz' : Nat → Int32) (yc' : Int32),
    (∀ post J x1 x4 n, d < n → (∃ m, wX_finishEndings_87 post J x1 (nI f) x4 m 0 dl nt' xc' tc tm xn md lo' en dO dA dB xo xa xb xl st' xr' rg xv pl tr xk xm wt xw xt' xi' mc' tk' xe' xz' ti) → wX_finishEndings_48 post J x1 (nI f) lk x4 n (nI q) dl nt xc tc tm xn md lo en dO dA dB xo xa xb xl st xr rg xv pl tr xk xm wt xw xt xi mc tk xe xz ti) ∧ (∀ post x4 n, d < n → (∃ m, wY_end_192 post (nI f) reason x4 m 0 dl qn' yc' tm tc yn md lo' en yo ya yb yl cu ag dO dA dB st' rg pl yv yr tr yt' yi' mc' yk ym wt li ye qu' yd' ys' yz' ti) → wY_end_158 post (nI f) reason lk x4 n (nI q) dl qn yc tm tc yn md lo en yo ya yb yl cu ag dO dA dB st rg pl yv yr tr yt yi mc yk ym wt li ye qu yd ys yz ti) ∧ (mp_D dl dO dA dB ∧ mp_C xo xa xb xl yo ya yb yl cu ∧ mp_V st' xv yv xl cu ∧ mp_P st' pl ∧ mp_S st' ∧ mp_M st' mc' xt' xi' yt' yi' ∧ mp_K st' xk yk ∧ mp_K st' xm ym ∧ mp_W st' xw li ye tm ∧ mp_T tm tc ti T ∧ mp_Q st' tk' nt' run qu' qn' ∧ mp_E st' xr' yr ∧ mp_Z i st' xr' xe' xz' xc' yd' ys' yz' yc' ∧ mp_F st' nt' C ∧ mp_G G st' xv yz') ∧ (∀ q, q < 8 → (mp_al st' q ↔ mp_al st q)) ∧ xr' f = reason := by
  intro d
  induction d with
  | zero =>
    intro q hq st tk nt qu qn mc xt xi yt yi lo xr xe xz xc yd ys yz yc h hg hd er
    have e : q = 8 := by omega
    subst e
    refine ⟨st, tk, nt, qu, qn, mc, xt, xi, yt, yi, lo, xr, xe, xz, xc, yd, ys, yz, yc, fun post J x1 x4 n hn hJ => ?_, fun post x4 n hn hJ => ?_, h, fun q _ => Iff.rfl, er⟩
    · obtain ⟨m, rfl⟩ := mp_pos hn
      exact br_t (nI_le (b := 8) (Nat.le_refl 8) (by omega)) hJ
    · obtain ⟨m, rfl⟩ := mp_pos hn
      exact br_t (nI_le (b := 8) (Nat.le_refl 8) (by omega)) hJ
  | succ d ih =>
    intro q hq st tk nt qu qn mc xt xi yt yi lo xr xe xz xc yd ys yz yc h hg hd er
    have h8 : ¬ (8 : Int32) ≤ nI q := nI_ge (b := 8) (by omega) (by omega)
    have cf := nI_clamp (n := f) (by omega)
    have If := vp_in_nI (n := f) (N := 8) hf (by omega)
    have hb := mp_hbg hlk (q := q) (by omega)
    by_cases hgq : g q = true
    · have ha := hg q (by omega) hgq
      obtain ⟨st', tk', nt', qu', qn', mc', xt', xi', yt', yi', lo', xr', xe', xz', xc', yd', ys', yz', yc', hX, hY, hR, hal, hxr⟩ := mp_signal (dl := dl) (nt := nt) (xc := xc) (tc := tc) (tm := tm) (xn := xn) (md := md) (lo := lo) (en := en) (dO := dO) (dA := dA) (dB := dB) (xo := xo) (xa := xa) (xb := xb) (xl := xl) (st := st) (xr := xr) (rg := rg) (xv := xv) (pl := pl) (tr := tr) (xk := xk) (xm := xm) (wt := wt) (xw := xw) (xt := xt) (xi := xi) (mc := mc) (tk := tk) (xe := xe) (xz := xz) (ti := ti) (qn := qn) (yc := yc) (yn := yn) (yo := yo) (ya := ya) (yb := yb) (yl := yl) (cu := cu) (ag := ag) (yv := yv) (yr := yr) (yt := yt) (yi := yi) (yk := yk) (ym := ym) (li := li) (ye := ye) (qu := qu) (yd := yd) (ys := ys) (yz := yz) h (p := q) (by omega) ha (nI f) reason
      obtain ⟨st'', tk'', nt'', qu'', qn'', mc'', xt'', xi'', yt'', yi'', lo'', xr'', xe'', xz'', xc'', yd'', ys'', yz'', yc'', hX2, hY2, hR2, hal2, er2⟩ := ih (q + 1) (by omega) st' tk' nt' qu' qn' mc' xt' xi' yt' yi' lo' xr' xe' xz' xc' yd' ys' yz' yc' hR (fun j hj w => (hal j hj).mpr (hg j hj w)) (fun w => hd ((hal f hf).mp w)) ((hxr f hf hd).trans er)
      refine ⟨st'', tk'', nt'', qu'', qn'', mc'', xt'', xi'', yt'', yi'', lo'', xr'', xe'', xz'', xc'', yd'', ys'', yz'', yc'', fun post J x1 x4 n hn hJ => ?_, fun post x4 n hn hJ => ?_, hR2, fun j hj => (hal2 j hj).trans (hal j hj), er2⟩
      · obtain ⟨m, rfl⟩ := mp_pos hn
        refine br_f h8 (br_t (hb.mpr hgq) (br_f (by decide) (And.intro If ?_)))
        rw [cf, er]
        exact br_t rfl (hX _ (nm_r (nI_1 q) (hX2 post J x1 x4 m (by omega) hJ)))
      · obtain ⟨m, rfl⟩ := mp_pos hn
        exact br_f h8 (br_t (hb.mpr hgq) (hY _ (nm_r (nI_1 q) (hY2 post x4 m (by omega) hJ))))
    · obtain ⟨st'', tk'', nt'', qu'', qn'', mc'', xt'', xi'', yt'', yi'', lo'', xr'', xe'', xz'', xc'', yd'', ys'', yz'', yc'', hX2, hY2, hR2, hal2, er2⟩ := ih (q + 1) (by omega) st tk nt qu qn mc xt xi yt yi lo xr xe xz xc yd ys yz yc h hg hd er
      refine ⟨st'', tk'', nt'', qu'', qn'', mc'', xt'', xi'', yt'', yi'', lo'', xr'', xe'', xz'', xc'', yd'', ys'', yz'', yc'', fun post J x1 x4 n hn hJ => ?_, fun post x4 n hn hJ => ?_, hR2, hal2, er2⟩
      · obtain ⟨m, rfl⟩ := mp_pos hn
        exact br_f h8 (br_f (fun z => hgq (hb.mp z)) (br_t rfl (nm_r (nI_1 q) (hX2 post J x1 x4 m (by omega) hJ))))
      · obtain ⟨m, rfl⟩ := mp_pos hn
        exact br_f h8 (br_f (fun z => hgq (hb.mp z)) (nm_r (nI_1 q) (hY2 post x4 m (by omega) hJ)))
/-! Y: the ties are cut -/
theorem mp_cut {f : Nat → Int32} {q : Nat} (hp : p < 8) (hq : q < 8) {f' : Nat → Int32} (h : ∀ a b, a < 8 → b < 8 → f' (8 * a + b) = if (a = p ∧ q + 1 ≤ b) ∨ (b = p ∧ q + 1 ≤ a) then 0 else upd (upd f (8 * p + q) 0) (8 * q + p) 0 (8 * a + b)) : ∀ a b, a < 8 → b < 8 → f' (8 * a + b) = if (a = p ∧ q ≤ b) ∨ (b = p ∧ q ≤ a) then 0 else f (8 * a + b) := by
  intro a b ha hb
  rw [h a b ha hb]
  by_cases w : (a = p ∧ q + 1 ≤ b) ∨ (b = p ∧ q + 1 ≤ a)
  · rw [if_pos w, if_pos (by omega)]
  · rw [if_neg w]
    by_cases w1 : a = q ∧ b = p
    · rw [w1.1, w1.2, pk_us, if_pos (by omega)]
    · rw [pk_un (by omega)]
      by_cases w2 : a = p ∧ b = q
      · rw [w2.1, w2.2, pk_us, if_pos (by omega)]
      · rw [pk_un (by omega), if_neg (by omega)]
theorem my_end_l {reason : Int32} (hp : p < 8) : ∀ d q, q + d = 8 → ∀ (t e : Int32) (yk ym : Nat → Int32) (gt ge : Nat → Bool), mp_ac t gt q → mp_ac e ge q → (∀ j, q ≤ j → j < 8 → gt j = decide (yk (8 * p + j) ≠ 0) ∧ ge j = decide (ym (8 * j + p) ≠ 0)) → ∃ (t' e' : Int32) (yk' ym' : Nat → Int32),
    mp_ac t' gt 8 ∧ mp_ac e' ge 8 ∧ (∀ a b, a < 8 → b < 8 → yk' (8 * a + b) = if (a = p ∧ q ≤ b) ∨ (b = p ∧ q ≤ a) then 0 else yk (8 * a + b)) ∧ (∀ a b, a < 8 → b < 8 → ym' (8 * a + b) = if (a = p ∧ q ≤ b) ∨ (b = p ∧ q ≤ a) then 0 else ym (8 * a + b)) ∧
    ∀ (post : SY → Prop) n, d < n → wY_end_8 post (nI p) reason dl qn yc tm tc yn md lo en 1 t' e' (nI 8) yo ya yb yl cu ag dO dA dB st rg pl yv yr tr yt yi mc yk' ym' wt li ye qu yd ys yz ti → wY_end_8 post (nI p) reason dl qn yc tm tc yn md lo en n t e (nI q) yo ya yb yl cu ag dO dA dB st rg pl yv yr tr yt yi mc yk ym wt li ye qu yd ys yz ti := by
  intro d
  induction d with
  | zero =>
    intro q hq t e yk ym gt ge ht he hg
    have e8 : q = 8 := by omega
    subst e8
    refine ⟨t, e, yk, ym, ht, he, fun a b ha hb => by rw [if_neg (by omega)], fun a b ha hb => by rw [if_neg (by omega)], fun post n hn h => ?_⟩
    obtain ⟨m, rfl⟩ := mp_pos hn
    have h8 : (8 : Int32) ≤ nI 8 := nI_le (b := 8) (Nat.le_refl 8) (by omega)
    exact br_t h8 (h.1 h8)
  | succ d ih =>
    intro q hq t e yk ym gt ge ht he hg
    have h8 : ¬ (8 : Int32) ≤ nI q := nI_ge (b := 8) (by omega) (by omega)
    have a1 : 8 * nI p + nI q = nI (8 * p + q) := by rw [mp_8x, nI_add]
    have a2 : 8 * nI q + nI p = nI (8 * q + p) := by rw [mp_8x, nI_add]
    have c1 := nI_clamp (n := 8 * p + q) (by omega)
    have c2 := nI_clamp (n := 8 * q + p) (by omega)
    have I1 := vp_in_nI (n := 8 * p + q) (N := 64) (by omega) (by omega)
    have I2 := vp_in_nI (n := 8 * q + p) (N := 64) (by omega) (by omega)
    obtain ⟨g1, g2⟩ := hg q (Nat.le_refl q) (by omega)
    have hg' : ∀ j, q + 1 ≤ j → j < 8 → gt j = decide (upd (upd yk (8 * p + q) 0) (8 * q + p) 0 (8 * p + j) ≠ 0) ∧ ge j = decide (upd (upd ym (8 * p + q) 0) (8 * q + p) 0 (8 * j + p) ≠ 0) := fun j hj hj8 => by
      rw [pk_un (by omega), pk_un (by omega), pk_un (by omega), pk_un (by omega)]
      exact hg j (by omega) hj8
    have fin : ∀ (t1 e1 : Int32), mp_ac t1 gt (q + 1) → mp_ac e1 ge (q + 1) → ∃ (t' e' : Int32) (yk' ym' : Nat → Int32),
        mp_ac t' gt 8 ∧ mp_ac e' ge 8 ∧ (∀ a b, a < 8 → b < 8 → yk' (8 * a + b) = if (a = p ∧ q ≤ b) ∨ (b = p ∧ q ≤ a) then 0 else yk (8 * a + b)) ∧ (∀ a b, a < 8 → b < 8 → ym' (8 * a + b) = if (a = p ∧ q ≤ b) ∨ (b = p ∧ q ≤ a) then 0 else ym (8 * a + b)) ∧
        ∀ (post : SY → Prop) n, d < n → wY_end_8 post (nI p) reason dl qn yc tm tc yn md lo en 1 t' e' (nI 8) yo ya yb yl cu ag dO dA dB st rg pl yv yr tr yt yi mc yk' ym' wt li ye qu yd ys yz ti → wY_end_61 post (wY_end_8 post (nI p) reason dl qn yc tm tc yn md lo en n) (nI p) reason t1 e1 (nI q) dl qn yc tm tc yn md lo en yo ya yb yl cu ag dO dA dB st rg pl yv yr tr yt yi mc yk ym wt li ye qu yd ys yz ti := fun t1 e1 ht1 he1 => by
      obtain ⟨t', e', yk', ym', b1, b2, b3, b4, hY⟩ := ih (q + 1) (by omega) t1 e1 _ _ gt ge ht1 he1 hg'
      refine ⟨t', e', yk', ym', b1, b2, mp_cut hp (by omega) b3, mp_cut hp (by omega) b4, fun post n hn h => ?_⟩
      unfold wY_end_61
      rw [a1, a2, c1, c2, mp_b0n]
      exact ⟨I1, nm_e ⟨I2, nm_e ⟨I1, nm_e ⟨I2, nm_e (nm_r (nI_1 q) (hY post n hn h))⟩⟩⟩⟩
    have t1 : ∃ t1, mp_ac t1 gt (q + 1) ∧ ∀ (P : Int32 → Prop), P t1 → (yk (8 * p + q) = 0 → P t) ∧ (¬ yk (8 * p + q) = 0 → P (t ||| ((1 : Int32) <<< (nI q &&& 31)))) := by
      by_cases z : yk (8 * p + q) = 0
      · exact ⟨t, mp_ac_f ht (g1.trans (decide_eq_false (fun w => w z))), fun P hP => br_t z hP⟩
      · exact ⟨_, mp_ac_t ht (by omega) (g1.trans (decide_eq_true z)), fun P hP => br_f z hP⟩
    have e1 : ∃ e1, mp_ac e1 ge (q + 1) ∧ ∀ (P : Int32 → Prop), P e1 → (ym (8 * q + p) = 0 → P e) ∧ (¬ ym (8 * q + p) = 0 → P (e ||| ((1 : Int32) <<< (nI q &&& 31)))) := by
      by_cases z : ym (8 * q + p) = 0
      · exact ⟨e, mp_ac_f he (g2.trans (decide_eq_false (fun w => w z))), fun P hP => br_t z hP⟩
      · exact ⟨_, mp_ac_t he (by omega) (g2.trans (decide_eq_true z)), fun P hP => br_f z hP⟩
    obtain ⟨t1, ht1, hPt⟩ := t1
    obtain ⟨e1, he1, hPe⟩ := e1
    obtain ⟨t', e', yk', ym', b1, b2, b3, b4, hY⟩ := fin t1 e1 ht1 he1
    refine ⟨t', e', yk', ym', b1, b2, b3, b4, fun post n hn h => ?_⟩
    obtain ⟨m, rfl⟩ := mp_pos hn
    have w61 := hY post m (by omega) h
    have w37 : wY_end_37 post (wY_end_8 post (nI p) reason dl qn yc tm tc yn md lo en m) (nI p) reason t1 e (nI q) dl qn yc tm tc yn md lo en yo ya yb yl cu ag dO dA dB st rg pl yv yr tr yt yi mc yk ym wt li ye qu yd ys yz ti := by
      unfold wY_end_37
      rw [a2, c2]
      refine ⟨I2, ?_⟩
      have w := hPe (fun z => wY_end_61 post (wY_end_8 post (nI p) reason dl qn yc tm tc yn md lo en m) (nI p) reason t1 z (nI q) dl qn yc tm tc yn md lo en yo ya yb yl cu ag dO dA dB st rg pl yv yr tr yt yi mc yk ym wt li ye qu yd ys yz ti) w61
      exact ⟨w.1, fun z => nm_e (w.2 z)⟩
    refine br_f h8 ?_
    rw [a1, c1]
    refine ⟨I1, ?_⟩
    have w := hPt (fun z => wY_end_37 post (wY_end_8 post (nI p) reason dl qn yc tm tc yn md lo en m) (nI p) reason z e (nI q) dl qn yc tm tc yn md lo en yo ya yb yl cu ag dO dA dB st rg pl yv yr tr yt yi mc yk ym wt li ye qu yd ys yz ti) w37
    exact ⟨w.1, fun z => nm_e (w.2 z)⟩
end
