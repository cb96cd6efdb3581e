section
variable {dl xc tc tm xn md lo en qn yc yn : Int32} {nt : Int64} {dO dA dB xo xa xb xl st xr rg xv pl tr xk xm wt xw xt xi mc xe xz ti yo ya yb yl cu ag yv yr yt yi yk ym li ye qu yd ys yz : Nat → Int32} {tk : Nat → Int64} {run i p : Nat} {T C : Int} {G : Nat → Int32 → Prop}
theorem mp_4a (p a : Nat) : 4 * nI p + nI a = nI (4 * p + a) := by rw [mp_4x, nI_add]
def mp_RR (p : Nat) (T C : Int) (tm xn yn : Int32) (u : SX) (v : SY) : Prop := ∃ (dl : Int32) (nt : Int64) (tc md lo en : Int32) (dO dA dB xo xa xb xl st xr rg xv pl tr xk xm wt xw xt xi mc : Nat → Int32) (tk : Nat → Int64) (xe xz ti : Nat → Int32) (qn : Int32) (yo ya yb yl cu ag yv yr yt yi yk ym li ye qu yd ys yz : Nat → Int32), u = (dl, nt, 0, tc, tm, xn, md, lo, en, dO, dA, dB, xo, xa, xb, xl, st, xr, rg, xv, pl, tr, xk, xm, wt, xw, xt, xi, mc, tk, xe, xz, ti) ∧ v = (dl, qn, 0, tm, tc, yn, md, lo, en, yo, ya, yb, yl, cu, ag, dO, dA, dB, st, rg, pl, yv, yr, tr, yt, yi, mc, yk, ym, wt, li, ye, qu, yd, ys, yz, ti) ∧ (st p = 1 → (mp_D dl dO dA dB ∧ mp_C xo xa xb xl yo ya yb yl cu ∧ mp_V st xv yv xl cu ∧ mp_P st pl ∧ mp_S st ∧ mp_M st mc xt xi yt yi ∧ mp_K st xk yk ∧ mp_K st xm ym ∧ mp_W st xw li ye tm ∧ mp_T tm tc ti T ∧ mp_Q st tk nt p qu qn ∧ mp_E st xr yr ∧ mp_Z 0 st xr xe xz 0 yd ys yz 0 ∧ mp_F st nt C ∧ mp_G (fun _ _ => True) st xv yz)) ∧ (st p ≠ 1 → (mp_D dl dO dA dB ∧ mp_C xo xa xb xl yo ya yb yl cu ∧ mp_V st xv yv xl cu ∧ mp_P st pl ∧ mp_S st ∧ mp_M st mc xt xi yt yi ∧ mp_K st xk yk ∧ mp_K st xm ym ∧ mp_W st xw li ye tm ∧ mp_T tm tc ti T ∧ mp_Q st tk nt 8 qu qn ∧ mp_E st xr yr ∧ mp_Z 0 st xr xe xz 0 yd ys yz 0 ∧ mp_F st nt C ∧ mp_G (fun _ _ => True) st xv yz))
theorem mp_RR_1 (h1 : st p = 1) (h : (mp_D dl dO dA dB ∧ mp_C xo xa xb xl yo ya yb yl cu ∧ mp_V st xv yv xl cu ∧ mp_P st pl ∧ mp_S st ∧ mp_M st mc xt xi yt yi ∧ mp_K st xk yk ∧ mp_K st xm ym ∧ mp_W st xw li ye tm ∧ mp_T tm tc ti T ∧ mp_Q st tk nt p qu qn ∧ mp_E st xr yr ∧ mp_Z 0 st xr xe xz 0 yd ys yz 0 ∧ mp_F st nt C ∧ mp_G (fun _ _ => True) st xv yz)) : mp_RR p T C tm xn yn (dl, nt, 0, tc, tm, xn, md, lo, en, dO, dA, dB, xo, xa, xb, xl, st, xr, rg, xv, pl, tr, xk, xm, wt, xw, xt, xi, mc, tk, xe, xz, ti) (dl, qn, 0, tm, tc, yn, md, lo, en, yo, ya, yb, yl, cu, ag, dO, dA, dB, st, rg, pl, yv, yr, tr, yt, yi, mc, yk, ym, wt, li, ye, qu, yd, ys, yz, ti) := ⟨dl, nt, tc, md, lo, en, dO, dA, dB, xo, xa, xb, xl, st, xr, rg, xv, pl, tr, xk, xm, wt, xw, xt, xi, mc, tk, xe, xz, ti, qn, yo, ya, yb, yl, cu, ag, yv, yr, yt, yi, yk, ym, li, ye, qu, yd, ys, yz, rfl, rfl, fun _ => h, fun z => absurd h1 z⟩
theorem mp_RR_2 (h1 : st p ≠ 1) (h : (mp_D dl dO dA dB ∧ mp_C xo xa xb xl yo ya yb yl cu ∧ mp_V st xv yv xl cu ∧ mp_P st pl ∧ mp_S st ∧ mp_M st mc xt xi yt yi ∧ mp_K st xk yk ∧ mp_K st xm ym ∧ mp_W st xw li ye tm ∧ mp_T tm tc ti T ∧ mp_Q st tk nt 8 qu qn ∧ mp_E st xr yr ∧ mp_Z 0 st xr xe xz 0 yd ys yz 0 ∧ mp_F st nt C ∧ mp_G (fun _ _ => True) st xv yz)) : mp_RR p T C tm xn yn (dl, nt, 0, tc, tm, xn, md, lo, en, dO, dA, dB, xo, xa, xb, xl, st, xr, rg, xv, pl, tr, xk, xm, wt, xw, xt, xi, mc, tk, xe, xz, ti) (dl, qn, 0, tm, tc, yn, md, lo, en, yo, ya, yb, yl, cu, ag, dO, dA, dB, st, rg, pl, yv, yr, tr, yt, yi, mc, yk, ym, wt, li, ye, qu, yd, ys, yz, ti) := ⟨dl, nt, tc, md, lo, en, dO, dA, dB, xo, xa, xb, xl, st, xr, rg, xv, pl, tr, xk, xm, wt, xw, xt, xi, mc, tk, xe, xz, ti, qn, yo, ya, yb, yl, cu, ag, yv, yr, yt, yi, yk, ym, li, ye, qu, yd, ys, yz, rfl, rfl, fun z => absurd z h1, fun _ => h⟩
theorem mp_RR_s (h : (mp_D dl dO dA dB ∧ mp_C xo xa xb xl yo ya yb yl cu ∧ mp_V st xv yv xl cu ∧ mp_P st pl ∧ mp_S st ∧ mp_M st mc xt xi yt yi ∧ mp_K st xk yk ∧ mp_K st xm ym ∧ mp_W st xw li ye tm ∧ mp_T tm tc ti T ∧ mp_Q st tk nt p qu qn ∧ mp_E st xr yr ∧ mp_Z 0 st xr xe xz 0 yd ys yz 0 ∧ mp_F st nt C ∧ mp_G (fun _ _ => True) st xv yz)) : mp_RR p T C tm xn yn (dl, nt, 0, tc, tm, xn, md, lo, en, dO, dA, dB, xo, xa, xb, xl, st, xr, rg, xv, pl, tr, xk, xm, wt, xw, xt, xi, mc, tk, xe, xz, ti) (dl, qn, 0, tm, tc, yn, md, lo, en, yo, ya, yb, yl, cu, ag, dO, dA, dB, st, rg, pl, yv, yr, tr, yt, yi, mc, yk, ym, wt, li, ye, qu, yd, ys, yz, ti) := ⟨dl, nt, tc, md, lo, en, dO, dA, dB, xo, xa, xb, xl, st, xr, rg, xv, pl, tr, xk, xm, wt, xw, xt, xi, mc, tk, xe, xz, ti, qn, yo, ya, yb, yl, cu, ag, yv, yr, yt, yi, yk, ym, li, ye, qu, yd, ys, yz, rfl, rfl, fun _ => h, fun z => mp_norun_R h z⟩
def mx_cd (u : SX) : (Nat → Int32) × (Nat → Int32) × (Nat → Int32) := match u with
  | (dl, nt, xc, tc, tm, xn, md, lo, en, dO, dA, dB, xo, xa, xb, xl, st, xr, rg, xv, pl, tr, xk, xm, wt, xw, xt, xi, mc, tk, xe, xz, ti) => (xo, xa, xb)
def my_disp (post : SY → Prop) (v : SY) (p op a b : Int32) : Prop := ((op < 6 ∨ op = 9) ∧ wpY_simple post v p op a b) ∨ (¬ op < 6 ∧ ¬ op = 9 ∧ op = 7 ∧ wpY_receive post v p a b) ∨ (¬ op < 6 ∧ ¬ op = 9 ∧ ¬ op = 7 ∧ 13 ≤ op ∧ wpY_last post v p op a b) ∨ (¬ op < 6 ∧ ¬ op = 9 ∧ ¬ op = 7 ∧ ¬ 13 ≤ op ∧ wpY_others post v p op a b)
def mp_OP (p : Nat) (op a b : Int32) (T C : Int) (tm xn yn : Int32) (u : SX) (v : SY) : Prop := ∃ (u1 u2 u3 : SX) (v3 : SY), (∀ post : SX → Prop, post u1 → wpX_doAlone post u (nI p) op a b) ∧ (∀ post : SX → Prop, post u2 → wpX_doWithOthers post u1 (nI p) op a b) ∧ (∀ post : SX → Prop, post u3 → wpX_finishEndings post u2) ∧ (∀ post : SY → Prop, post v3 → my_disp post v (nI p) op a b) ∧ mx_cd u1 = mx_cd u ∧ mp_RR p T C tm xn yn u3 v3
/-- what stands alone and marks none -/
theorem mp_op_a {op a b : Int32} {u' : SX} {v' : SY} (hA : ∀ post : SX → Prop, post u' → wpX_doAlone post (dl, nt, 0, tc, tm, xn, md, lo, en, dO, dA, dB, xo, xa, xb, xl, st, xr, rg, xv, pl, tr, xk, xm, wt, xw, xt, xi, mc, tk, xe, xz, ti) (nI p) op a b) (hB : ∀ post : SX → Prop, post u' → wpX_doWithOthers post u' (nI p) op a b) (hF : ∀ post : SX → Prop, post u' → wpX_finishEndings post u') (hY : ∀ post : SY → Prop, post v' → my_disp post (dl, qn, 0, tm, tc, yn, md, lo, en, yo, ya, yb, yl, cu, ag, dO, dA, dB, st, rg, pl, yv, yr, tr, yt, yi, mc, yk, ym, wt, li, ye, qu, yd, ys, yz, ti) (nI p) op a b) (hc : mx_cd u' = (xo, xa, xb)) (hR : mp_RR p T C tm xn yn u' v') : mp_OP p op a b T C tm xn yn (dl, nt, 0, tc, tm, xn, md, lo, en, dO, dA, dB, xo, xa, xb, xl, st, xr, rg, xv, pl, tr, xk, xm, wt, xw, xt, xi, mc, tk, xe, xz, ti) (dl, qn, 0, tm, tc, yn, md, lo, en, yo, ya, yb, yl, cu, ag, dO, dA, dB, st, rg, pl, yv, yr, tr, yt, yi, mc, yk, ym, wt, li, ye, qu, yd, ys, yz, ti) := ⟨u', u', u', v', hA, hB, hF, hY, hc, hR⟩
theorem mp_op0 {a b : Int32} (h : (mp_D dl dO dA dB ∧ mp_C xo xa xb xl yo ya yb yl cu ∧ mp_V st xv yv xl cu ∧ mp_P st pl ∧ mp_S st ∧ mp_M st mc xt xi yt yi ∧ mp_K st xk yk ∧ mp_K st xm ym ∧ mp_W st xw li ye tm ∧ mp_T tm tc ti T ∧ mp_Q st tk nt p qu qn ∧ mp_E st xr yr ∧ mp_Z 0 st xr xe xz 0 yd ys yz 0 ∧ mp_F st nt C ∧ mp_G (fun _ _ => True) st xv yz)) (hp : p < 8) (h1 : st p = 1) (ha : mp_lt a 4) : mp_OP p 0 a b T C tm xn yn (dl, nt, 0, tc, tm, xn, md, lo, en, dO, dA, dB, xo, xa, xb, xl, st, xr, rg, xv, pl, tr, xk, xm, wt, xw, xt, xi, mc, tk, xe, xz, ti) (dl, qn, 0, tm, tc, yn, md, lo, en, yo, ya, yb, yl, cu, ag, dO, dA, dB, st, rg, pl, yv, yr, tr, yt, yi, mc, yk, ym, wt, li, ye, qu, yd, ys, yz, ti) := by
  obtain ⟨j, hj, rfl⟩ := ha
  have c := nI_clamp (n := 4 * p + j) (by omega)
  have I := vp_in_nI (n := 4 * p + j) (N := 32) (by omega) (by omega)
  refine mp_op_a (u' := (dl, nt, 0, tc, tm, xn, md, lo, en, dO, dA, dB, xo, xa, xb, xl, st, xr, upd rg (4 * p + j) b, xv, pl, tr, xk, xm, wt, xw, xt, xi, mc, tk, xe, xz, ti)) (v' := (dl, qn, 0, tm, tc, yn, md, lo, en, yo, ya, yb, yl, cu, ag, dO, dA, dB, st, upd rg (4 * p + j) b, pl, yv, yr, tr, yt, yi, mc, yk, ym, wt, li, ye, qu, yd, ys, yz, ti)) (fun post hq => ?_) (fun post hq => ?_) (fun post hq => mx_fin0 hq) (fun post hq => Or.inl ⟨by decide, ?_⟩) rfl (mp_RR_1 h1 h)
  · refine nm_r (mp_x4 p) (br_f (by decide) (br_f (by decide) (br_t rfl ?_)))
    rw [nI_add, c]
    exact ⟨I, nm_e hq⟩
  · refine nm_r (mp_x4 p) (br_t (by decide) ?_)
    exact hq
  · refine nm_r (mp_4a p _) (br_f (by decide) (br_f (by decide) (br_t rfl ?_)))
    rw [c]
    exact ⟨I, nm_e hq⟩
theorem mp_op1 {a b : Int32} (h : (mp_D dl dO dA dB ∧ mp_C xo xa xb xl yo ya yb yl cu ∧ mp_V st xv yv xl cu ∧ mp_P st pl ∧ mp_S st ∧ mp_M st mc xt xi yt yi ∧ mp_K st xk yk ∧ mp_K st xm ym ∧ mp_W st xw li ye tm ∧ mp_T tm tc ti T ∧ mp_Q st tk nt p qu qn ∧ mp_E st xr yr ∧ mp_Z 0 st xr xe xz 0 yd ys yz 0 ∧ mp_F st nt C ∧ mp_G (fun _ _ => True) st xv yz)) (hp : p < 8) (h1 : st p = 1) (ha : mp_lt a 4) (hb : mp_lt b 4) : mp_OP p 1 a b T C tm xn yn (dl, nt, 0, tc, tm, xn, md, lo, en, dO, dA, dB, xo, xa, xb, xl, st, xr, rg, xv, pl, tr, xk, xm, wt, xw, xt, xi, mc, tk, xe, xz, ti) (dl, qn, 0, tm, tc, yn, md, lo, en, yo, ya, yb, yl, cu, ag, dO, dA, dB, st, rg, pl, yv, yr, tr, yt, yi, mc, yk, ym, wt, li, ye, qu, yd, ys, yz, ti) := by
  obtain ⟨j, hj, rfl⟩ := ha
  obtain ⟨k, hk, rfl⟩ := hb
  have c := nI_clamp (n := 4 * p + j) (by omega)
  have I := vp_in_nI (n := 4 * p + j) (N := 32) (by omega) (by omega)
  have c2 := nI_clamp (n := 4 * p + k) (by omega)
  have I2 := vp_in_nI (n := 4 * p + k) (N := 32) (by omega) (by omega)
  refine mp_op_a (u' := (dl, nt, 0, tc, tm, xn, md, lo, en, dO, dA, dB, xo, xa, xb, xl, st, xr, upd rg (4 * p + j) (rg (4 * p + j) + rg (4 * p + k)), xv, pl, tr, xk, xm, wt, xw, xt, xi, mc, tk, xe, xz, ti)) (v' := (dl, qn, 0, tm, tc, yn, md, lo, en, yo, ya, yb, yl, cu, ag, dO, dA, dB, st, upd rg (4 * p + j) (rg (4 * p + j) + rg (4 * p + k)), pl, yv, yr, tr, yt, yi, mc, yk, ym, wt, li, ye, qu, yd, ys, yz, ti)) (fun post hq => ?_) (fun post hq => ?_) (fun post hq => mx_fin0 hq) (fun post hq => Or.inl ⟨by decide, ?_⟩) rfl (mp_RR_1 h1 h)
  · refine nm_r (mp_x4 p) (br_f (by decide) (br_f (by decide) (br_f (by decide) (br_t rfl ?_))))
    rw [nI_add, nI_add, c, c2]
    exact ⟨I, I2, I, nm_e hq⟩
  · refine nm_r (mp_x4 p) (br_t (by decide) ?_)
    exact hq
  · refine nm_r (mp_4a p _) (br_f (by decide) (br_f (by decide) (br_f (by decide) (br_t rfl ?_))))
    rw [mp_4a, c, c2]
    exact ⟨I, I2, I, nm_e hq⟩
theorem mp_op2 {a b : Int32} (h : (mp_D dl dO dA dB ∧ mp_C xo xa xb xl yo ya yb yl cu ∧ mp_V st xv yv xl cu ∧ mp_P st pl ∧ mp_S st ∧ mp_M st mc xt xi yt yi ∧ mp_K st xk yk ∧ mp_K st xm ym ∧ mp_W st xw li ye tm ∧ mp_T tm tc ti T ∧ mp_Q st tk nt p qu qn ∧ mp_E st xr yr ∧ mp_Z 0 st xr xe xz 0 yd ys yz 0 ∧ mp_F st nt C ∧ mp_G (fun _ _ => True) st xv yz)) (hp : p < 8) (h1 : st p = 1) (ha : mp_lt a 4) (hb : mp_lt b 4) : mp_OP p 2 a b T C tm xn yn (dl, nt, 0, tc, tm, xn, md, lo, en, dO, dA, dB, xo, xa, xb, xl, st, xr, rg, xv, pl, tr, xk, xm, wt, xw, xt, xi, mc, tk, xe, xz, ti) (dl, qn, 0, tm, tc, yn, md, lo, en, yo, ya, yb, yl, cu, ag, dO, dA, dB, st, rg, pl, yv, yr, tr, yt, yi, mc, yk, ym, wt, li, ye, qu, yd, ys, yz, ti) := by
  obtain ⟨j, hj, rfl⟩ := ha
  obtain ⟨k, hk, rfl⟩ := hb
  have c := nI_clamp (n := 4 * p + j) (by omega)
  have I := vp_in_nI (n := 4 * p + j) (N := 32) (by omega) (by omega)
  have c2 := nI_clamp (n := 4 * p + k) (by omega)
  have I2 := vp_in_nI (n := 4 * p + k) (N := 32) (by omega) (by omega)
  refine mp_op_a (u' := (dl, nt, 0, tc, tm, xn, md, lo, en, dO, dA, dB, xo, xa, xb, xl, st, xr, upd rg (4 * p + j) (rg (4 * p + j) - rg (4 * p + k)), xv, pl, tr, xk, xm, wt, xw, xt, xi, mc, tk, xe, xz, ti)) (v' := (dl, qn, 0, tm, tc, yn, md, lo, en, yo, ya, yb, yl, cu, ag, dO, dA, dB, st, upd rg (4 * p + j) (rg (4 * p + j) - rg (4 * p + k)), pl, yv, yr, tr, yt, yi, mc, yk, ym, wt, li, ye, qu, yd, ys, yz, ti)) (fun post hq => ?_) (fun post hq => ?_) (fun post hq => mx_fin0 hq) (fun post hq => Or.inl ⟨by decide, ?_⟩) rfl (mp_RR_1 h1 h)
  · refine nm_r (mp_x4 p) (br_f (by decide) (br_f (by decide) (br_f (by decide) (br_f (by decide) (br_t rfl ?_)))))
    rw [nI_add, nI_add, c, c2]
    exact ⟨I, I2, I, nm_e hq⟩
  · refine nm_r (mp_x4 p) (br_t (by decide) ?_)
    exact hq
  · refine nm_r (mp_4a p _) (br_f (by decide) (br_f (by decide) (br_f (by decide) (br_f (by decide) (br_t rfl ?_)))))
    rw [mp_4a, c, c2]
    exact ⟨I, I2, I, nm_e hq⟩
theorem mp_op3 {a b : Int32} (h : (mp_D dl dO dA dB ∧ mp_C xo xa xb xl yo ya yb yl cu ∧ mp_V st xv yv xl cu ∧ mp_P st pl ∧ mp_S st ∧ mp_M st mc xt xi yt yi ∧ mp_K st xk yk ∧ mp_K st xm ym ∧ mp_W st xw li ye tm ∧ mp_T tm tc ti T ∧ mp_Q st tk nt p qu qn ∧ mp_E st xr yr ∧ mp_Z 0 st xr xe xz 0 yd ys yz 0 ∧ mp_F st nt C ∧ mp_G (fun _ _ => True) st xv yz)) (hp : p < 8) (h1 : st p = 1) (ha : mp_lt a 4) (hb : mp_lt b 4) : mp_OP p 3 a b T C tm xn yn (dl, nt, 0, tc, tm, xn, md, lo, en, dO, dA, dB, xo, xa, xb, xl, st, xr, rg, xv, pl, tr, xk, xm, wt, xw, xt, xi, mc, tk, xe, xz, ti) (dl, qn, 0, tm, tc, yn, md, lo, en, yo, ya, yb, yl, cu, ag, dO, dA, dB, st, rg, pl, yv, yr, tr, yt, yi, mc, yk, ym, wt, li, ye, qu, yd, ys, yz, ti) := by
  obtain ⟨j, hj, rfl⟩ := ha
  obtain ⟨k, hk, rfl⟩ := hb
  have c := nI_clamp (n := 4 * p + j) (by omega)
  have I := vp_in_nI (n := 4 * p + j) (N := 32) (by omega) (by omega)
  have c2 := nI_clamp (n := 4 * p + k) (by omega)
  have I2 := vp_in_nI (n := 4 * p + k) (N := 32) (by omega) (by omega)
  refine mp_op_a (u' := (dl, nt, 0, tc, tm, xn, md, lo, en, dO, dA, dB, xo, xa, xb, xl, st, xr, upd rg (4 * p + j) (rg (4 * p + k)), xv, pl, tr, xk, xm, wt, xw, xt, xi, mc, tk, xe, xz, ti)) (v' := (dl, qn, 0, tm, tc, yn, md, lo, en, yo, ya, yb, yl, cu, ag, dO, dA, dB, st, upd rg (4 * p + j) (rg (4 * p + k)), pl, yv, yr, tr, yt, yi, mc, yk, ym, wt, li, ye, qu, yd, ys, yz, ti)) (fun post hq => ?_) (fun post hq => ?_) (fun post hq => mx_fin0 hq) (fun post hq => Or.inl ⟨by decide, ?_⟩) rfl (mp_RR_1 h1 h)
  · refine nm_r (mp_x4 p) (br_f (by decide) (br_f (by decide) (br_f (by decide) (br_f (by decide) (br_f (by decide) (br_t rfl ?_))))))
    rw [nI_add, nI_add, c, c2]
    exact ⟨I2, I, nm_e hq⟩
  · refine nm_r (mp_x4 p) (br_t (by decide) ?_)
    exact hq
  · refine nm_r (mp_4a p _) (br_f (by decide) (br_f (by decide) (br_f (by decide) (br_f (by decide) (br_f (by decide) (br_t rfl ?_))))))
    rw [mp_4a, c, c2]
    exact ⟨I2, I, nm_e hq⟩
theorem mp_op4 {a b : Int32} (h : (mp_D dl dO dA dB ∧ mp_C xo xa xb xl yo ya yb yl cu ∧ mp_V st xv yv xl cu ∧ mp_P st pl ∧ mp_S st ∧ mp_M st mc xt xi yt yi ∧ mp_K st xk yk ∧ mp_K st xm ym ∧ mp_W st xw li ye tm ∧ mp_T tm tc ti T ∧ mp_Q st tk nt p qu qn ∧ mp_E st xr yr ∧ mp_Z 0 st xr xe xz 0 yd ys yz 0 ∧ mp_F st nt C ∧ mp_G (fun _ _ => True) st xv yz)) (hp : p < 8) (h1 : st p = 1) (ha : mp_lt a 24) : mp_OP p 4 a b T C tm xn yn (dl, nt, 0, tc, tm, xn, md, lo, en, dO, dA, dB, xo, xa, xb, xl, st, xr, rg, xv, pl, tr, xk, xm, wt, xw, xt, xi, mc, tk, xe, xz, ti) (dl, qn, 0, tm, tc, yn, md, lo, en, yo, ya, yb, yl, cu, ag, dO, dA, dB, st, rg, pl, yv, yr, tr, yt, yi, mc, yk, ym, wt, li, ye, qu, yd, ys, yz, ti) := by
  obtain ⟨j, hj, rfl⟩ := ha
  have c := nI_clamp (n := p) (by omega)
  have I := vp_in_nI (n := p) (N := 8) (by omega) (by omega)
  refine mp_op_a (u' := (dl, nt, 0, tc, tm, xn, md, lo, en, dO, dA, dB, xo, xa, xb, xl, st, xr, rg, xv, upd pl p (nI j), tr, xk, xm, wt, xw, xt, xi, mc, tk, xe, xz, ti)) (v' := (dl, qn, 0, tm, tc, yn, md, lo, en, yo, ya, yb, yl, cu, ag, dO, dA, dB, st, rg, upd pl p (nI j), yv, yr, tr, yt, yi, mc, yk, ym, wt, li, ye, qu, yd, ys, yz, ti)) (fun post hq => ?_) (fun post hq => ?_) (fun post hq => mx_fin0 hq) (fun post hq => Or.inl ⟨by decide, ?_⟩) rfl (mp_RR_1 h1 (mp_place_R h (by rw [h1]; decide) (by omega)))
  · refine nm_r (mp_x4 p) (br_f (by decide) (br_f (by decide) (br_f (by decide) (br_f (by decide) (br_f (by decide) (br_f (by decide) (br_t rfl ?_)))))))
    rw [c]
    exact ⟨I, nm_e hq⟩
  · refine nm_r (mp_x4 p) (br_t (by decide) ?_)
    exact hq
  · refine nm_r (mp_4a p _) (br_f (by decide) (br_f (by decide) (br_f (by decide) (br_f (by decide) (br_f (by decide) (br_f (by decide) (br_t rfl ?_)))))))
    rw [c]
    exact ⟨I, nm_e hq⟩
theorem mp_op5 {a b : Int32} (h : (mp_D dl dO dA dB ∧ mp_C xo xa xb xl yo ya yb yl cu ∧ mp_V st xv yv xl cu ∧ mp_P st pl ∧ mp_S st ∧ mp_M st mc xt xi yt yi ∧ mp_K st xk yk ∧ mp_K st xm ym ∧ mp_W st xw li ye tm ∧ mp_T tm tc ti T ∧ mp_Q st tk nt p qu qn ∧ mp_E st xr yr ∧ mp_Z 0 st xr xe xz 0 yd ys yz 0 ∧ mp_F st nt C ∧ mp_G (fun _ _ => True) st xv yz)) (hp : p < 8) (h1 : st p = 1) (ha : mp_lt a 4) (hb : mp_lt b 24) : mp_OP p 5 a b T C tm xn yn (dl, nt, 0, tc, tm, xn, md, lo, en, dO, dA, dB, xo, xa, xb, xl, st, xr, rg, xv, pl, tr, xk, xm, wt, xw, xt, xi, mc, tk, xe, xz, ti) (dl, qn, 0, tm, tc, yn, md, lo, en, yo, ya, yb, yl, cu, ag, dO, dA, dB, st, rg, pl, yv, yr, tr, yt, yi, mc, yk, ym, wt, li, ye, qu, yd, ys, yz, ti) := by
  obtain ⟨j, hj, rfl⟩ := ha
  obtain ⟨k, hk, rfl⟩ := hb
  have c := nI_clamp (n := p) (by omega)
  have I := vp_in_nI (n := p) (N := 8) (by omega) (by omega)
  have c2 := nI_clamp (n := 4 * p + j) (by omega)
  have I2 := vp_in_nI (n := 4 * p + j) (N := 32) (by omega) (by omega)
  by_cases hz : rg (4 * p + j) = 0
  · refine mp_op_a (u' := (dl, nt, 0, tc, tm, xn, md, lo, en, dO, dA, dB, xo, xa, xb, xl, st, xr, rg, xv, upd pl p (nI k), tr, xk, xm, wt, xw, xt, xi, mc, tk, xe, xz, ti)) (v' := (dl, qn, 0, tm, tc, yn, md, lo, en, yo, ya, yb, yl, cu, ag, dO, dA, dB, st, rg, upd pl p (nI k), yv, yr, tr, yt, yi, mc, yk, ym, wt, li, ye, qu, yd, ys, yz, ti)) (fun post hq => ?_) (fun post hq => ?_) (fun post hq => mx_fin0 hq) (fun post hq => Or.inl ⟨by decide, ?_⟩) rfl (mp_RR_1 h1 (mp_place_R h (by rw [h1]; decide) (by omega)))
    · refine nm_r (mp_x4 p) (br_f (by decide) (br_f (by decide) (br_f (by decide) (br_f (by decide) (br_f (by decide) (br_f (by decide) (br_f (by decide) (br_t rfl ?_))))))))
      rw [nI_add, c, c2]
      exact ⟨I2, br_t hz ⟨I, nm_e hq⟩⟩
    · refine nm_r (mp_x4 p) (br_t (by decide) ?_)
      exact hq
    · refine nm_r (mp_4a p _) (br_f (by decide) (br_f (by decide) (br_f (by decide) (br_f (by decide) (br_f (by decide) (br_f (by decide) (br_f (by decide) (br_t rfl ?_))))))))
      rw [c, c2]
      exact ⟨I2, br_t hz ⟨I, nm_e hq⟩⟩
  · refine mp_op_a (u' := (dl, nt, 0, tc, tm, xn, md, lo, en, dO, dA, dB, xo, xa, xb, xl, st, xr, rg, xv, pl, tr, xk, xm, wt, xw, xt, xi, mc, tk, xe, xz, ti)) (v' := (dl, qn, 0, tm, tc, yn, md, lo, en, yo, ya, yb, yl, cu, ag, dO, dA, dB, st, rg, pl, yv, yr, tr, yt, yi, mc, yk, ym, wt, li, ye, qu, yd, ys, yz, ti)) (fun post hq => ?_) (fun post hq => ?_) (fun post hq => mx_fin0 hq) (fun post hq => Or.inl ⟨by decide, ?_⟩) rfl (mp_RR_1 h1 h)
    · refine nm_r (mp_x4 p) (br_f (by decide) (br_f (by decide) (br_f (by decide) (br_f (by decide) (br_f (by decide) (br_f (by decide) (br_f (by decide) (br_t rfl ?_))))))))
      rw [nI_add, c, c2]
      exact ⟨I2, br_f hz ⟨I, I, nm_r (mp_upd_same rfl) hq⟩⟩
    · refine nm_r (mp_x4 p) (br_t (by decide) ?_)
      exact hq
    · refine nm_r (mp_4a p _) (br_f (by decide) (br_f (by decide) (br_f (by decide) (br_f (by decide) (br_f (by decide) (br_f (by decide) (br_f (by decide) (br_t rfl ?_))))))))
      rw [c2]
      exact ⟨I2, br_f hz hq⟩
theorem mp_op9 {a b : Int32} (h : (mp_D dl dO dA dB ∧ mp_C xo xa xb xl yo ya yb yl cu ∧ mp_V st xv yv xl cu ∧ mp_P st pl ∧ mp_S st ∧ mp_M st mc xt xi yt yi ∧ mp_K st xk yk ∧ mp_K st xm ym ∧ mp_W st xw li ye tm ∧ mp_T tm tc ti T ∧ mp_Q st tk nt p qu qn ∧ mp_E st xr yr ∧ mp_Z 0 st xr xe xz 0 yd ys yz 0 ∧ mp_F st nt C ∧ mp_G (fun _ _ => True) st xv yz)) (hp : p < 8) (h1 : st p = 1) (ha : mp_lt a 4) : mp_OP p 9 a b T C tm xn yn (dl, nt, 0, tc, tm, xn, md, lo, en, dO, dA, dB, xo, xa, xb, xl, st, xr, rg, xv, pl, tr, xk, xm, wt, xw, xt, xi, mc, tk, xe, xz, ti) (dl, qn, 0, tm, tc, yn, md, lo, en, yo, ya, yb, yl, cu, ag, dO, dA, dB, st, rg, pl, yv, yr, tr, yt, yi, mc, yk, ym, wt, li, ye, qu, yd, ys, yz, ti) := by
  obtain ⟨j, hj, rfl⟩ := ha
  have c := nI_clamp (n := 4 * p + j) (by omega)
  have I := vp_in_nI (n := 4 * p + j) (N := 32) (by omega) (by omega)
  refine mp_op_a (u' := (dl, nt, 0, tc, tm, xn, md, lo, en, dO, dA, dB, xo, xa, xb, xl, st, xr, upd rg (4 * p + j) (nI p), xv, pl, tr, xk, xm, wt, xw, xt, xi, mc, tk, xe, xz, ti)) (v' := (dl, qn, 0, tm, tc, yn, md, lo, en, yo, ya, yb, yl, cu, ag, dO, dA, dB, st, upd rg (4 * p + j) (nI p), pl, yv, yr, tr, yt, yi, mc, yk, ym, wt, li, ye, qu, yd, ys, yz, ti)) (fun post hq => ?_) (fun post hq => ?_) (fun post hq => mx_fin0 hq) (fun post hq => Or.inl ⟨by decide, ?_⟩) rfl (mp_RR_1 h1 h)
  · refine nm_r (mp_x4 p) (br_f (by decide) (br_f (by decide) (br_f (by decide) (br_f (by decide) (br_f (by decide) (br_f (by decide) (br_f (by decide) (br_f (by decide) (br_f (by decide) (br_f (by decide) (br_f (by decide) (br_t rfl ?_))))))))))))
    rw [nI_add, c]
    exact ⟨I, nm_e hq⟩
  · refine nm_r (mp_x4 p) (br_f (by decide) (br_f (by decide) (br_f (by decide) (br_f (by decide) (br_f (by decide) (br_t rfl ?_))))))
    exact hq
  · refine nm_r (mp_4a p _) (br_f (by decide) (br_t (by decide) ?_))
    rw [c]
    exact ⟨I, nm_e hq⟩
end
