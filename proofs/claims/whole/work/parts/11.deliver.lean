section
variable {dl xc tc tm xn md lo en qn yc yn : Int32} {nt : Int64} {dO dA dB xo xa xb xl st xr rg xv pl tr xk xm wt xw xt xi mc xe xz ti yo ya yb yl cu ag yv yr yt yi yk ym li ye qu yd ys yz : Nat → Int32} {tk : Nat → Int64} {run i p : Nat} {T C : Int} {G : Nat → Int32 → Prop}
theorem mx_del0 {post : Int32 → SX → Prop} {tag v : Int32} (hp : p < 8) (hz : xz p ≠ 0) (h : post 0 (dl, nt, xc, tc, tm, xn, md, lo, en, dO, dA, dB, xo, xa, xb, xl, st, xr, rg, xv, pl, tr, xk, xm, wt, xw, xt, xi, mc, tk, xe, xz, ti)) : wpX_deliver post (dl, nt, xc, tc, tm, xn, md, lo, en, dO, dA, dB, xo, xa, xb, xl, st, xr, rg, xv, pl, tr, xk, xm, wt, xw, xt, xi, mc, tk, xe, xz, ti) (nI p) tag v := by
  have c := nI_clamp (n := p) (by omega)
  have I := vp_in_nI (n := p) (N := 8) hp (by omega)
  unfold wpX_deliver
  simp only [c, I, hz, forall_eq, true_implies, false_implies, not_true_eq_false, not_false_eq_true, and_true, true_and]
  exact h
theorem mp_Z_xz (hZ : mp_Z i st xr xe xz xc yd ys yz yc) (hp : p < 8) (ha : mp_al st p) : xz p ≠ 0 ↔ yz p ≠ 0 := by
  obtain ⟨d, _, _, _, _, _, _, _, _, l⟩ := hZ
  rw [l p hp]
  exact ⟨fun z => z.1, fun z => ⟨z, ha⟩⟩
theorem mp_deliver (h : (mp_D dl dO dA dB ∧ mp_C xo xa xb xl yo ya yb yl cu ∧ mp_V st xv yv xl cu ∧ mp_P st pl ∧ mp_S st ∧ mp_M st mc xt xi yt yi ∧ mp_K st xk yk ∧ mp_K st xm ym ∧ mp_W st xw li ye tm ∧ mp_T tm tc ti T ∧ mp_Q st tk nt run qu qn ∧ mp_E st xr yr ∧ mp_Z i st xr xe xz xc yd ys yz yc ∧ mp_F st nt C ∧ mp_G G st xv yz)) (hp : p < 8) (ha : mp_al st p) (tag v : Int32) : ∃ (r : Int32) (st' : Nat → Int32) (tk' : Nat → Int64) (nt' : Int64) (qu' : Nat → Int32) (qn' : Int32) (mc' xt' xi' yt' yi' : Nat → Int32) (lo' : Int32), (∀ post : Int32 → SX → Prop, post r (dl, nt', xc, tc, tm, xn, md, lo', en, dO, dA, dB, xo, xa, xb, xl, st', xr, rg, xv, pl, tr, xk, xm, wt, xw, xt', xi', mc', tk', xe, xz, ti) → wpX_deliver post (dl, nt, xc, tc, tm, xn, md, lo, en, dO, dA, dB, xo, xa, xb, xl, st, xr, rg, xv, pl, tr, xk, xm, wt, xw, xt, xi, mc, tk, xe, xz, ti) (nI p) tag v) ∧ (∀ post : Int32 → SY → Prop, post r (dl, qn', yc, tm, tc, yn, md, lo', en, yo, ya, yb, yl, cu, ag, dO, dA, dB, st', rg, pl, yv, yr, tr, yt', yi', mc', yk, ym, wt, li, ye, qu', yd, ys, yz, ti) → wpY_deliver post (dl, qn, yc, tm, tc, yn, md, lo, en, yo, ya, yb, yl, cu, ag, dO, dA, dB, st, rg, pl, yv, yr, tr, yt, yi, mc, yk, ym, wt, li, ye, qu, yd, ys, yz, ti) (nI p) tag v) ∧ (mp_D dl dO dA dB ∧ mp_C xo xa xb xl yo ya yb yl cu ∧ mp_V st' xv yv xl cu ∧ mp_P st' pl ∧ mp_S st' ∧ mp_M st' mc' xt' xi' yt' yi' ∧ mp_K st' xk yk ∧ mp_K st' xm ym ∧ mp_W st' xw li ye tm ∧ mp_T tm tc ti T ∧ mp_Q st' tk' nt' run qu' qn' ∧ mp_E st' xr yr ∧ mp_Z i st' xr xe xz xc yd ys yz yc ∧ mp_F st' nt' C ∧ mp_G G st' xv yz) ∧ (∀ q, q < 8 → (mp_al st' q ↔ mp_al st q)) ∧ (r = 0 ∨ r = 1) := by
  have hh := h
  obtain ⟨hD, hC, hV, hP, hS, hM, hK, hm, hW, hT, hQ, hE, hZ, hF, hG⟩ := h
  have c := nI_clamp (n := p) (by omega)
  have I := vp_in_nI (n := p) (N := 8) hp (by omega)
  have hxz := mp_Z_xz hZ hp ha
  by_cases hz : yz p = 0
  · have hx : xz p = 0 := by
      by_cases w : xz p = 0
      · exact w
      · exact absurd hz (hxz.mp w)
    obtain ⟨n, hn, en', h0, hk⟩ := hM p hp
    by_cases h12 : n = 12
    · subst h12
      have l : ¬ nI 12 < 12 := by decide
      have l2 : nI 12 = 12 := by decide
      refine ⟨0, st, tk, nt, qu, qn, mc, xt, xi, yt, yi, lo + 1, fun post hq => ?_, fun post hq => ?_, hh, fun q _ => Iff.rfl, Or.inl rfl⟩
      · unfold wpX_deliver
        simp only [c, I, hx, en', l, forall_eq, true_implies, false_implies, not_true_eq_false, not_false_eq_true, and_true, true_and]
        exact hq
      · unfold wpY_deliver
        simp only [c, I, hz, en', l2, forall_eq, true_implies, false_implies, not_true_eq_false, not_false_eq_true, and_true, true_and]
        exact hq
    · have hn' : n < 12 := by omega
      have l : nI n < 12 := nI_lt (b := 12) hn' (by omega)
      have l2 : ¬ nI n = 12 := fun z => h12 ((nI_eq (b := 12) (by omega) (by omega)).mp z)
      have c3 := nI_clamp (n := 12 * p + n) (by omega)
      have I3 := vp_in_nI (n := 12 * p + n) (N := 96) (by omega) (by omega)
      have h1 := mp_app_R (tag := tag) (v := v) hh hp ha hn' en'
      by_cases h2 : st p = 2
      · by_cases hb : ((wt p >>> (tag &&& 31)) &&& 1) = 1
        · obtain ⟨m, hm8, rfl, h3⟩ := mp_wake_R h1 hp h2
          refine ⟨1, _, _, _, _, _, _, _, _, _, _, lo, fun post hq => ?_, fun post hq => ?_, h3, fun q _ => mp_al_k (Or.inl rfl) ha, Or.inr rfl⟩
          · unfold wpX_deliver
            simp only [c, I, hx, en', l, mp_x12, nI_add, nI_1, c3, I3, h2, wpX_hasBit, hb, forall_eq, true_implies, false_implies, not_true_eq_false, not_false_eq_true, and_true, true_and]
            exact br_f (by decide) (mx_back hp hq)
          · unfold wpY_deliver
            simp only [c, I, hz, en', l2, mp_12x, nI_add, nI_1, c3, I3, h2, hb, forall_eq, true_implies, false_implies, not_true_eq_false, not_false_eq_true, and_true, true_and]
            exact my_enq hp hm8 hq
        · refine ⟨1, st, tk, nt, qu, qn, _, _, _, _, _, lo, fun post hq => ?_, fun post hq => ?_, h1, fun q _ => Iff.rfl, Or.inr rfl⟩
          · unfold wpX_deliver
            simp only [c, I, hx, en', l, mp_x12, nI_add, nI_1, c3, I3, h2, wpX_hasBit, hb, forall_eq, true_implies, false_implies, not_true_eq_false, not_false_eq_true, and_true, true_and]
            exact hq
          · unfold wpY_deliver
            simp only [c, I, hz, en', l2, mp_12x, nI_add, nI_1, c3, I3, h2, hb, forall_eq, true_implies, false_implies, not_true_eq_false, not_false_eq_true, and_true, true_and]
            exact hq
      · refine ⟨1, st, tk, nt, qu, qn, _, _, _, _, _, lo, fun post hq => ?_, fun post hq => ?_, h1, fun q _ => Iff.rfl, Or.inr rfl⟩
        · unfold wpX_deliver
          simp only [c, I, hx, en', l, mp_x12, nI_add, nI_1, c3, I3, h2, forall_eq, true_implies, false_implies, not_true_eq_false, not_false_eq_true, and_true, true_and]
          exact hq
        · unfold wpY_deliver
          simp only [c, I, hz, en', l2, mp_12x, nI_add, nI_1, c3, I3, h2, forall_eq, true_implies, false_implies, not_true_eq_false, not_false_eq_true, and_true, true_and]
          exact hq
  · have hx : xz p ≠ 0 := hxz.mpr hz
    refine ⟨0, st, tk, nt, qu, qn, mc, xt, xi, yt, yi, lo, fun post hq => mx_del0 hp hx hq, fun post hq => ?_, hh, fun q _ => Iff.rfl, Or.inl rfl⟩
    unfold wpY_deliver
    simp only [c, I, hz, forall_eq, true_implies, false_implies, not_true_eq_false, not_false_eq_true, and_true, true_and]
    exact hq
theorem mp_signal (h : (mp_D dl dO dA dB ∧ mp_C xo xa xb xl yo ya yb yl cu ∧ mp_V st xv yv xl cu ∧ mp_P st pl ∧ mp_S st ∧ mp_M st mc xt xi yt yi ∧ mp_K st xk yk ∧ mp_K st xm ym ∧ mp_W st xw li ye tm ∧ mp_T tm tc ti T ∧ mp_Q st tk nt run qu qn ∧ mp_E st xr yr ∧ mp_Z i st xr xe xz xc yd ys yz yc ∧ mp_F st nt C ∧ mp_G G st xv yz)) (hp : p < 8) (ha : mp_al st p) (fr reason : Int32) : ∃ (st' : Nat → Int32) (tk' : Nat → Int64) (nt' : Int64) (qu' : Nat → Int32) (qn' : Int32) (mc' xt' xi' yt' yi' : Nat → Int32) (lo' : Int32) (xr' xe' xz' : Nat → Int32) (xc' : Int32) (yd' ys' yz' : Nat → Int32) (yc' : Int32), (∀ post : SX → Prop, post (dl, nt', xc', tc, tm, xn, md, lo', en, dO, dA, dB, xo, xa, xb, xl, st', xr', rg, xv, pl, tr, xk, xm, wt, xw, xt', xi', mc', tk', xe', xz', ti) → wX_giveSignal_21 post fr (nI p) reason dl nt xc tc tm xn md lo en dO dA dB xo xa xb xl st xr rg xv pl tr xk xm wt xw xt xi mc tk xe xz ti) ∧ (∀ post : SY → Prop, post (dl, qn', yc', tm, tc, yn, md, lo', en, yo, ya, yb, yl, cu, ag, dO, dA, dB, st', rg, pl, yv, yr, tr, yt', yi', mc', yk, ym, wt, li, ye, qu', yd', ys', yz', ti) → wpY_signal post (dl, qn, yc, tm, tc, yn, md, lo, en, yo, ya, yb, yl, cu, ag, dO, dA, dB, st, rg, pl, yv, yr, tr, yt, yi, mc, yk, ym, wt, li, ye, qu, yd, ys, yz, ti) fr (nI p) reason) ∧ (mp_D dl dO dA dB ∧ mp_C xo xa xb xl yo ya yb yl cu ∧ mp_V st' xv yv xl cu ∧ mp_P st' pl ∧ mp_S st' ∧ mp_M st' mc' xt' xi' yt' yi' ∧ mp_K st' xk yk ∧ mp_K st' xm ym ∧ mp_W st' xw li ye tm ∧ mp_T tm tc ti T ∧ mp_Q st' tk' nt' run qu' qn' ∧ mp_E st' xr' yr ∧ mp_Z i st' xr' xe' xz' xc' yd' ys' yz' yc' ∧ mp_F st' nt' C ∧ mp_G G st' xv yz') ∧ (∀ q, q < 8 → (mp_al st' q ↔ mp_al st q)) ∧ (∀ q, q < 8 → ¬ mp_al st q → xr' q = xr q) := by
  have hh := h
  obtain ⟨hD, hC, hV, hP, hS, hM, hK, hm, hW, hT, hQ, hE, hZ, hF, hG⟩ := h
  have c := nI_clamp (n := p) (by omega)
  have I := vp_in_nI (n := p) (N := 8) hp (by omega)
  have hxz := mp_Z_xz hZ hp ha
  by_cases hz : yz p = 0
  · have hx : xz p = 0 := by
      by_cases w : xz p = 0
      · exact w
      · exact absurd hz (hxz.mp w)
    by_cases ht : tr p = 0
    · by_cases h0 : reason = 0
      · refine ⟨st, tk, nt, qu, qn, mc, xt, xi, yt, yi, lo, xr, xe, xz, xc, yd, ys, yz, yc, fun post hq => ?_, fun post hq => ?_, hh, fun q _ => Iff.rfl, fun q _ _ => rfl⟩
        · unfold wX_giveSignal_21
          simp only [c, I, ht, h0, forall_eq, true_implies, false_implies, not_true_eq_false, not_false_eq_true, and_true, true_and]
          exact hq
        · unfold wpY_signal
          dsimp only
          refine my_al_t hp ha (br_f (by decide) ?_)
          simp only [c, I, hz, ht, h0, forall_eq, true_implies, false_implies, not_true_eq_false, not_false_eq_true, and_true, true_and]
          exact hq
      · obtain ⟨d, hd, rfl, rfl, h1⟩ := mp_doom_R (reason := reason) hh hp ha hz
        have h2 := mp_G_R h1 (G' := G) (fun q v z => z.1)
        refine ⟨st, tk, nt, qu, qn, mc, xt, xi, yt, yi, lo, _, _, _, _, _, _, _, _, fun post hq => ?_, fun post hq => ?_, h2, fun q _ => Iff.rfl, fun q _ hq => pk_un (fun z => by subst z; exact hq ha)⟩
        · unfold wX_giveSignal_21
          simp only [c, I, ht, h0, forall_eq, true_implies, false_implies, not_true_eq_false, not_false_eq_true, and_true, true_and]
          exact mx_mark hp hd hx hq
        · unfold wpY_signal
          dsimp only
          refine my_al_t hp ha (br_f (by decide) ?_)
          simp only [c, I, hz, ht, h0, forall_eq, true_implies, false_implies, not_true_eq_false, not_false_eq_true, and_true, true_and]
          exact my_doom hp hd hz hq
    · obtain ⟨r, st', tk', nt', qu', qn', mc', xt', xi', yt', yi', lo', hX, hY, hR, hal, hr⟩ := mp_deliver (dl := dl) (nt := nt) (xc := xc) (tc := tc) (tm := tm) (xn := xn) (md := md) (lo := lo) (en := en) (dO := dO) (dA := dA) (dB := dB) (xo := xo) (xa := xa) (xb := xb) (xl := xl) (st := st) (xr := xr) (rg := rg) (xv := xv) (pl := pl) (tr := tr) (xk := xk) (xm := xm) (wt := wt) (xw := xw) (xt := xt) (xi := xi) (mc := mc) (tk := tk) (xe := xe) (xz := xz) (ti := ti) (qn := qn) (yc := yc) (yn := yn) (yo := yo) (ya := ya) (yb := yb) (yl := yl) (cu := cu) (ag := ag) (yv := yv) (yr := yr) (yt := yt) (yi := yi) (yk := yk) (ym := ym) (li := li) (ye := ye) (qu := qu) (yd := yd) (ys := ys) (yz := yz) hh hp ha 6 (fr + 8 * reason)
      refine ⟨st', tk', nt', qu', qn', mc', xt', xi', yt', yi', lo', xr, xe, xz, xc, yd, ys, yz, yc, fun post hq => ?_, fun post hq => ?_, hR, hal, fun q _ _ => rfl⟩
      · unfold wX_giveSignal_21
        simp only [c, I, ht, forall_eq, true_implies, false_implies, not_true_eq_false, not_false_eq_true, and_true, true_and]
        exact hX _ hq
      · unfold wpY_signal
        dsimp only
        refine my_al_t hp ha (br_f (by decide) ?_)
        simp only [c, I, hz, ht, forall_eq, true_implies, false_implies, not_true_eq_false, not_false_eq_true, and_true, true_and]
        exact hY _ hq
  · have hx : xz p ≠ 0 := hxz.mpr hz
    refine ⟨st, tk, nt, qu, qn, mc, xt, xi, yt, yi, lo, xr, xe, xz, xc, yd, ys, yz, yc, fun post hq => ?_, fun post hq => ?_, hh, fun q _ => Iff.rfl, fun q _ _ => rfl⟩
    · unfold wX_giveSignal_21
      by_cases ht : tr p = 0
      · by_cases h0 : reason = 0
        · simp only [c, I, ht, h0, forall_eq, true_implies, false_implies, not_true_eq_false, not_false_eq_true, and_true, true_and]
          exact hq
        · simp only [c, I, ht, h0, forall_eq, true_implies, false_implies, not_true_eq_false, not_false_eq_true, and_true, true_and]
          exact mx_mark0 hp hx hq
      · simp only [c, I, ht, forall_eq, true_implies, false_implies, not_true_eq_false, not_false_eq_true, and_true, true_and]
        exact mx_del0 hp hx hq
    · unfold wpY_signal
      dsimp only
      refine my_al_t hp ha (br_f (by decide) ?_)
      simp only [c, I, hz, forall_eq, true_implies, false_implies, not_true_eq_false, not_false_eq_true, and_true, true_and]
      exact hq
end
