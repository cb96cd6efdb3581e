section
variable {dl xc tc tm xn md lo en qn yc yn : Int32} {nt : Int64} {dO dA dB xo xa xb xl st xr rg xv pl tr xk xm wt xw xt xi mc xe xz ti yo ya yb yl cu ag yv yr yt yi yk ym li ye qu yd ys yz : Nat → Int32} {tk : Nat → Int64} {run i p : Nat} {T C : Int} {G : Nat → Int32 → Prop}
theorem i_vc_wipe {k : Nat} {u : SX} {v : SY} (I : i_Rel k u v) (hk : k + 4 ≤ 2048) : wpX_wipe (fun r u' => wpY_wipe (fun r' v' => r' = r ∧ i_Rel (k + 4) u' v') v) u := by
  obtain ⟨dl, nt, tc, md, lo, en, dO, dA, dB, xo, xa, xb, xl, st, xr, rg, xv, pl, tr, xk, xm, wt, xw, xt, xi, mc, tk, xe, xz, ti, qn, yo, ya, yb, yl, cu, ag, yv, yr, yt, yi, yk, ym, li, ye, qu, yd, ys, yz, tm, xn, rfl, rfl, hR⟩ := i_up I
  exact ⟨rfl, mi_mk ⟨mp_D_0, hR.2⟩ (by omega) (by omega)⟩
theorem i_vc_code {k : Nat} {u : SX} {v : SY} (I : i_Rel k u v) (hk : k + 4 ≤ 2048) (v1 : Int32) (v2 : Int32) (v3 : Int32) : wpX_code (fun r u' => wpY_code (fun r' v' => r' = r ∧ i_Rel (k + 4) u' v') v v1 v2 v3) u v1 v2 v3 := by
  have J := i_up I
  obtain ⟨dl, nt, tc, md, lo, en, dO, dA, dB, xo, xa, xb, xl, st, xr, rg, xv, pl, tr, xk, xm, wt, xw, xt, xi, mc, tk, xe, xz, ti, qn, yo, ya, yb, yl, cu, ag, yv, yr, yt, yi, yk, ym, li, ye, qu, yd, ys, yz, tm, xn, rfl, rfl, hR⟩ := J
  have J : i_Rel (k + 4) (dl, nt, 0, tc, tm, xn, md, lo, en, dO, dA, dB, xo, xa, xb, xl, st, xr, rg, xv, pl, tr, xk, xm, wt, xw, xt, xi, mc, tk, xe, xz, ti) (dl, qn, 0, tm, tc, xn, md, lo, en, yo, ya, yb, yl, cu, ag, dO, dA, dB, st, rg, pl, yv, yr, tr, yt, yi, mc, yk, ym, wt, li, ye, qu, yd, ys, yz, ti) := mi_mk hR (by omega) (by omega)
  obtain ⟨n, hn, rfl, hok⟩ := hR.1
  by_cases h24 : n = 24
  · subst h24
    exact br_t (nI_le (b := 24) (Nat.le_refl 24) (by omega)) (br_t rfl ⟨rfl, J⟩)
  · have hn' : n < 24 := by omega
    have c := nI_clamp (n := n) (by omega)
    have In := vp_in_nI (n := n) (N := 24) hn' (by omega)
    have ge : ¬ (24 : Int32) ≤ nI n := nI_ge (b := 24) hn' (by omega)
    have ne : ¬ nI n = 24 := mp_nI_inj (b := 24) (by omega) (by omega) h24
    rcases mp_bel v1 (n := 18) (by omega) with ⟨o, ho, rfl⟩ | ⟨ho, _⟩
    · rcases mp_insA (dl := nI n) (qn := qn) (yc := 0) (tm := tm) (tc := tc) (yn := xn) (md := md) (lo := lo) (en := en) (yo := yo) (ya := ya) (yb := yb) (yl := yl) (cu := cu) (ag := ag) (dO := dO) (dA := dA) (dB := dB) (st := st) (rg := rg) (pl := pl) (yv := yv) (yr := yr) (tr := tr) (yt := yt) (yi := yi) (mc := mc) (yk := yk) (ym := ym) (wt := wt) (li := li) (ye := ye) (qu := qu) (yd := yd) (ys := ys) (yz := yz) (ti := ti) ho v2 v3 with ⟨w, hX, hY1, hY2⟩ | ⟨hX, hY⟩
      · have JJ : i_Rel (k + 4) (nI (n + 1), nt, 0, tc, tm, xn, md, lo, en, upd dO n (nI o), upd dA n v2, upd dB n v3, xo, xa, xb, xl, st, xr, rg, xv, pl, tr, xk, xm, wt, xw, xt, xi, mc, tk, xe, xz, ti) (nI (n + 1), qn, 0, tm, tc, xn, md, lo, en, yo, ya, yb, yl, cu, ag, upd dO n (nI o), upd dA n v2, upd dB n v3, st, rg, pl, yv, yr, tr, yt, yi, mc, yk, ym, wt, li, ye, qu, yd, ys, yz, ti) := mi_mk ⟨mp_D_push hR.1 hn' w, hR.2⟩ (by omega) (by omega)
        refine br_f ge (hX _ (br_f (by decide) (And.intro In ?_)))
        rw [c, nI_1]
        refine nm_e ⟨In, nm_e ⟨In, nm_e (nm_e ?_)⟩⟩
        refine br_f ne (my_bel_t (n := 18) ho (by omega) (br_f (by decide) (hY1 _ (br_f (by decide) (hY2 _ (br_f (by decide) (And.intro In ?_)))))))
        rw [c, nI_1]
        exact nm_e ⟨In, nm_e ⟨In, nm_e (nm_e ⟨rfl, JJ⟩)⟩⟩
      · refine br_f ge (hX _ (br_t rfl (br_f ne (my_bel_t (n := 18) ho (by omega) (br_f (by decide) ?_)))))
        rcases hY with hY | ⟨hY1, hY2⟩
        · exact hY _ (br_t rfl ⟨rfl, J⟩)
        · exact hY1 _ (br_f (by decide) (hY2 _ (br_t rfl ⟨rfl, J⟩)))
    · refine br_f ge ?_
      have hX : ∀ post : Int32 → Prop, post 0 → wpX_isInstruction post v1 v2 v3 := fun post h => by
        rcases ho with ho | ⟨h0, h18⟩
        · exact br_t ho h
        · refine br_f h0 (br_t ?_ h)
          rw [Int32.le_iff_toInt_le, nI_toInt (by omega)] at h18
          rw [Int32.lt_iff_toInt_lt, show (17 : Int32).toInt = 17 from by decide]
          omega
      exact hX _ (br_t rfl (br_f ne (my_bel_f (n := 18) ho (br_t rfl ⟨rfl, J⟩))))
theorem i_vc_load {k : Nat} {u : SX} {v : SY} (I : i_Rel k u v) (hk : k + 4 ≤ 2048) (v1 : Int32) : wpX_load (fun r u' => wpY_load (fun r' v' => r' = r ∧ i_Rel (k + 4) u' v') v v1) u v1 := by
  obtain ⟨dl, nt, tc, md, lo, en, dO, dA, dB, xo, xa, xb, xl, st, xr, rg, xv, pl, tr, xk, xm, wt, xw, xt, xi, mc, tk, xe, xz, ti, qn, yo, ya, yb, yl, cu, ag, yv, yr, yt, yi, yk, ym, li, ye, qu, yd, ys, yz, tm, xn, rfl, rfl, hR⟩ := i_up I
  have J : i_Rel (k + 4) (dl, nt, 0, tc, tm, xn, md, lo, en, dO, dA, dB, xo, xa, xb, xl, st, xr, rg, xv, pl, tr, xk, xm, wt, xw, xt, xi, mc, tk, xe, xz, ti) (dl, qn, 0, tm, tc, xn, md, lo, en, yo, ya, yb, yl, cu, ag, dO, dA, dB, st, rg, pl, yv, yr, tr, yt, yi, mc, yk, ym, wt, li, ye, qu, yd, ys, yz, ti) := mi_mk hR (by omega) (by omega)
  rcases mp_bel v1 (n := 4) (by omega) with ⟨m, hm4, rfl⟩ | ⟨ho, _⟩
  · obtain ⟨n, hn, rfl, hok⟩ := hR.1
    by_cases h0 : n = 0
    · subst h0
      unfold wpX_load
      dsimp only
      refine mx_bel_t (n := 4) hm4 (by omega) (br_f (by decide) (br_t rfl ?_))
      unfold wpY_load
      dsimp only
      exact my_bel_t (n := 4) hm4 (by omega) (br_f (by decide) (br_t rfl ⟨rfl, J⟩))
    · obtain ⟨r, dl', xo', xa', xb', yo', ya', yb', xl', yl', cu', xv', ag', hX, hY, hR2⟩ := mp_load (nt := nt) (tc := tc) (tm := tm) (xn := xn) (md := md) (lo := lo) (en := en) (dO := dO) (dA := dA) (dB := dB) (xo := xo) (xa := xa) (xb := xb) (xl := xl) (st := st) (xr := xr) (rg := rg) (xv := xv) (pl := pl) (tr := tr) (xk := xk) (xm := xm) (wt := wt) (xw := xw) (xt := xt) (xi := xi) (mc := mc) (tk := tk) (xe := xe) (xz := xz) (ti := ti) (qn := qn) (yn := xn) (yo := yo) (ya := ya) (yb := yb) (yl := yl) (cu := cu) (ag := ag) (yv := yv) (yr := yr) (yt := yt) (yi := yi) (yk := yk) (ym := ym) (li := li) (ye := ye) (qu := qu) (yd := yd) (ys := ys) (yz := yz) hR hm4 (by omega) hn
      exact hX _ (hY _ ⟨rfl, mi_mk hR2 (by omega) (by omega)⟩)
  · unfold wpX_load
    dsimp only
    refine mx_bel_f (n := 4) ho (br_t rfl ?_)
    unfold wpY_load
    dsimp only
    exact my_bel_f (n := 4) ho (br_t rfl ⟨rfl, J⟩)
theorem i_vc_purge {k : Nat} {u : SX} {v : SY} (I : i_Rel k u v) (hk : k + 4 ≤ 2048) (v1 : Int32) : wpX_purge (fun r u' => wpY_purge (fun r' v' => r' = r ∧ i_Rel (k + 4) u' v') v v1) u v1 := by
  obtain ⟨dl, nt, tc, md, lo, en, dO, dA, dB, xo, xa, xb, xl, st, xr, rg, xv, pl, tr, xk, xm, wt, xw, xt, xi, mc, tk, xe, xz, ti, qn, yo, ya, yb, yl, cu, ag, yv, yr, yt, yi, yk, ym, li, ye, qu, yd, ys, yz, tm, xn, rfl, rfl, hR⟩ := i_up I
  have J : i_Rel (k + 4) (dl, nt, 0, tc, tm, xn, md, lo, en, dO, dA, dB, xo, xa, xb, xl, st, xr, rg, xv, pl, tr, xk, xm, wt, xw, xt, xi, mc, tk, xe, xz, ti) (dl, qn, 0, tm, tc, xn, md, lo, en, yo, ya, yb, yl, cu, ag, dO, dA, dB, st, rg, pl, yv, yr, tr, yt, yi, mc, yk, ym, wt, li, ye, qu, yd, ys, yz, ti) := mi_mk hR (by omega) (by omega)
  rcases mp_bel v1 (n := 4) (by omega) with ⟨m, hm4, rfl⟩ | ⟨ho, _⟩
  · have h0 := mp_G_R hR (G' := fun r v => r < 0 → v ≠ nI (2 * m + 1)) (fun r v _ z => absurd z (by omega))
    obtain ⟨cnt', ag', st', tk', nt', qu', qn', mc', xt', xi', yt', yi', lo', xr', xe', xz', xc', yd', ys', yz', yc', xk', yk', xm', ym', yr', en', hX, hY, hR2⟩ := mp_purge_l (dl := dl) (tc := tc) (tm := tm) (xn := xn) (md := md) (dO := dO) (dA := dA) (dB := dB) (xo := xo) (xa := xa) (xb := xb) (xl := xl) (rg := rg) (xv := xv) (pl := pl) (tr := tr) (wt := wt) (xw := xw) (ti := ti) (yn := xn) (yo := yo) (ya := ya) (yb := yb) (yl := yl) (cu := cu) (ag := ag) (yv := yv) (li := li) (ye := ye) hm4 8 0 rfl 0 st tk nt qu qn mc xt xi yt yi lo xr xe xz 0 yd ys yz 0 xk yk xm ym yr en h0
    unfold wpX_purge
    dsimp only
    refine mx_bel_t (n := 4) hm4 (by omega) (br_f (by decide) (nm_r (mp_2m1 m) ⟨9, hX _ 9 (by omega) ?_⟩))
    unfold wpY_purge
    dsimp only
    exact my_bel_t (n := 4) hm4 (by omega) (br_f (by decide) ⟨9, hY _ 9 (by omega) ⟨rfl, mi_mk hR2 (by omega) (by omega)⟩⟩)
  · unfold wpX_purge
    dsimp only
    refine mx_bel_f (n := 4) ho (br_t rfl ?_)
    unfold wpY_purge
    dsimp only
    exact my_bel_f (n := 4) ho (br_t rfl ⟨rfl, J⟩)
theorem i_vc_spawn {k : Nat} {u : SX} {v : SY} (I : i_Rel k u v) (hk : k + 4 ≤ 2048) (v1 : Int32) (v2 : Int32) : wpX_spawn (fun r u' => wpY_spawn (fun r' v' => r' = r ∧ i_Rel (k + 4) u' v') v v1 v2) u v1 v2 := by
  have eK := mi_K_s hk
  have bK := mi_K_b k
  obtain ⟨dl, nt, tc, md, lo, en, dO, dA, dB, xo, xa, xb, xl, st, xr, rg, xv, pl, tr, xk, xm, wt, xw, xt, xi, mc, tk, xe, xz, ti, qn, yo, ya, yb, yl, cu, ag, yv, yr, yt, yi, yk, ym, li, ye, qu, yd, ys, yz, tm, xn, rfl, rfl, hR⟩ := I
  have b := hR.2.2.2.2.2.2.2.2.2.1.2.1
  rcases mp_bel v1 (n := 4) (by omega) with ⟨m, hm4, rfl⟩ | ⟨ho, _⟩
  · obtain ⟨r, st', tk', nt', qu', qn', rg', pl', xv', yv', tr', md', hX, hY, hR2, _, _⟩ := mp_make (dl := dl) (nt := nt) (tc := tc) (tm := tm) (xn := xn) (md := md) (lo := lo) (en := en) (dO := dO) (dA := dA) (dB := dB) (xo := xo) (xa := xa) (xb := xb) (xl := xl) (st := st) (xr := xr) (rg := rg) (xv := xv) (pl := pl) (tr := tr) (xk := xk) (xm := xm) (wt := wt) (xw := xw) (xt := xt) (xi := xi) (mc := mc) (tk := tk) (xe := xe) (xz := xz) (ti := ti) (qn := qn) (yn := xn) (yo := yo) (ya := ya) (yb := yb) (yl := yl) (cu := cu) (ag := ag) (yv := yv) (yr := yr) (yt := yt) (yi := yi) (yk := yk) (ym := ym) (li := li) (ye := ye) (qu := qu) (yd := yd) (ys := ys) (yz := yz) hR hm4 v2 (fun z => absurd z (by omega)) (fun _ _ => trivial) (by omega)
    unfold wpX_spawn
    dsimp only
    refine mx_bel_t (n := 4) hm4 (by omega) (br_f (by decide) (hX _ ?_))
    unfold wpY_spawn
    dsimp only
    exact my_bel_t (n := 4) hm4 (by omega) (br_f (by decide) (hY _ ⟨rfl, mi_mk hR2 (by omega) (by omega)⟩))
  · unfold wpX_spawn
    dsimp only
    refine mx_bel_f (n := 4) ho (br_t rfl ?_)
    unfold wpY_spawn
    dsimp only
    exact my_bel_f (n := 4) ho (br_t rfl ⟨rfl, mi_mk hR (by omega) (by omega)⟩)
theorem i_vc_send {k : Nat} {u : SX} {v : SY} (I : i_Rel k u v) (hk : k + 4 ≤ 2048) (v1 : Int32) (v2 : Int32) (v3 : Int32) : wpX_send (fun r u' => wpY_send (fun r' v' => r' = r ∧ i_Rel (k + 4) u' v') v v1 v2 v3) u v1 v2 v3 := by
  obtain ⟨dl, nt, tc, md, lo, en, dO, dA, dB, xo, xa, xb, xl, st, xr, rg, xv, pl, tr, xk, xm, wt, xw, xt, xi, mc, tk, xe, xz, ti, qn, yo, ya, yb, yl, cu, ag, yv, yr, yt, yi, yk, ym, li, ye, qu, yd, ys, yz, tm, xn, rfl, rfl, hR⟩ := i_up I
  have J : i_Rel (k + 4) (dl, nt, 0, tc, tm, xn, md, lo, en, dO, dA, dB, xo, xa, xb, xl, st, xr, rg, xv, pl, tr, xk, xm, wt, xw, xt, xi, mc, tk, xe, xz, ti) (dl, qn, 0, tm, tc, xn, md, lo, en, yo, ya, yb, yl, cu, ag, dO, dA, dB, st, rg, pl, yv, yr, tr, yt, yi, mc, yk, ym, wt, li, ye, qu, yd, ys, yz, ti) := mi_mk hR (by omega) (by omega)
  unfold wpX_send
  dsimp only
  rcases mp_alx hR.2.2.2.2.1 v1 with ⟨p, hp, rfl, ha⟩ | ⟨hd, _⟩
  · rcases mp_bel v2 (n := 6) (by omega) with ⟨l, hl, rfl⟩ | ⟨ho, _⟩
    · obtain ⟨r, st', tk', nt', qu', qn', mc', xt', xi', yt', yi', lo', hX, hY, hR2, _, hr⟩ := mp_deliver (dl := dl) (nt := nt) (xc := 0) (tc := tc) (tm := tm) (xn := xn) (md := md) (lo := lo) (en := en) (dO := dO) (dA := dA) (dB := dB) (xo := xo) (xa := xa) (xb := xb) (xl := xl) (st := st) (xr := xr) (rg := rg) (xv := xv) (pl := pl) (tr := tr) (xk := xk) (xm := xm) (wt := wt) (xw := xw) (xt := xt) (xi := xi) (mc := mc) (tk := tk) (xe := xe) (xz := xz) (ti := ti) (qn := qn) (yc := 0) (yn := xn) (yo := yo) (ya := ya) (yb := yb) (yl := yl) (cu := cu) (ag := ag) (yv := yv) (yr := yr) (yt := yt) (yi := yi) (yk := yk) (ym := ym) (li := li) (ye := ye) (qu := qu) (yd := yd) (ys := ys) (yz := yz) hR hp ha (nI l) v3
      refine mx_al_t hp ha (br_f (by decide) (mx_bel_t (n := 6) hl (by omega) (br_f (by decide) (hX _ ?_))))
      rcases hr with rfl | rfl
      · refine br_t rfl ?_
        unfold wpY_send
        dsimp only
        exact my_al_t hp ha (br_f (by decide) (my_bel_t (n := 6) hl (by omega) (br_f (by decide) (hY _ (br_t rfl ⟨rfl, mi_mk hR2 (by omega) (by omega)⟩)))))
      · refine br_f (by decide) ?_
        unfold wpY_send
        dsimp only
        exact my_al_t hp ha (br_f (by decide) (my_bel_t (n := 6) hl (by omega) (br_f (by decide) (hY _ (br_f (by decide) ⟨rfl, mi_mk hR2 (by omega) (by omega)⟩)))))
    · refine mx_al_t hp ha (br_f (by decide) (mx_bel_f (n := 6) ho (br_t rfl ?_)))
      unfold wpY_send
      dsimp only
      exact my_al_t hp ha (br_f (by decide) (my_bel_f (n := 6) ho (br_t rfl ⟨rfl, J⟩)))
  · refine mx_al_f hd (br_t rfl ?_)
    unfold wpY_send
    dsimp only
    exact my_al_f hd (br_t rfl ⟨rfl, J⟩)
theorem i_vc_exit {k : Nat} {u : SX} {v : SY} (I : i_Rel k u v) (hk : k + 4 ≤ 2048) (v1 : Int32) (v2 : Int32) : wpX_exit (fun r u' => wpY_exit (fun r' v' => r' = r ∧ i_Rel (k + 4) u' v') v v1 v2) u v1 v2 := by
  obtain ⟨dl, nt, tc, md, lo, en, dO, dA, dB, xo, xa, xb, xl, st, xr, rg, xv, pl, tr, xk, xm, wt, xw, xt, xi, mc, tk, xe, xz, ti, qn, yo, ya, yb, yl, cu, ag, yv, yr, yt, yi, yk, ym, li, ye, qu, yd, ys, yz, tm, xn, rfl, rfl, hR⟩ := i_up I
  have J : i_Rel (k + 4) (dl, nt, 0, tc, tm, xn, md, lo, en, dO, dA, dB, xo, xa, xb, xl, st, xr, rg, xv, pl, tr, xk, xm, wt, xw, xt, xi, mc, tk, xe, xz, ti) (dl, qn, 0, tm, tc, xn, md, lo, en, yo, ya, yb, yl, cu, ag, dO, dA, dB, st, rg, pl, yv, yr, tr, yt, yi, mc, yk, ym, wt, li, ye, qu, yd, ys, yz, ti) := mi_mk hR (by omega) (by omega)
  unfold wpX_exit
  dsimp only
  rcases mp_alx hR.2.2.2.2.1 v1 with ⟨p, hp, rfl, ha⟩ | ⟨hd, _⟩
  · obtain ⟨st', tk', nt', qu', qn', mc', xt', xi', yt', yi', lo', xr', xe', xz', xc', yd', ys', yz', yc', st'', tk'', nt'', qu'', qn'', mc'', xt'', xi'', yt'', yi'', lo'', xr'', xe'', xz'', xc'', yd'', ys'', yz'', yc'', xk'', yk'', xm'', ym'', yr'', en'', hX1, hX2, hY, hR2⟩ := mp_strike (dl := dl) (nt := nt) (tc := tc) (tm := tm) (xn := xn) (md := md) (lo := lo) (en := en) (dO := dO) (dA := dA) (dB := dB) (xo := xo) (xa := xa) (xb := xb) (xl := xl) (st := st) (xr := xr) (rg := rg) (xv := xv) (pl := pl) (tr := tr) (xk := xk) (xm := xm) (wt := wt) (xw := xw) (xt := xt) (xi := xi) (mc := mc) (tk := tk) (xe := xe) (xz := xz) (ti := ti) (qn := qn) (yn := xn) (yo := yo) (ya := ya) (yb := yb) (yl := yl) (cu := cu) (ag := ag) (yv := yv) (yr := yr) (yt := yt) (yi := yi) (yk := yk) (ym := ym) (li := li) (ye := ye) (qu := qu) (yd := yd) (ys := ys) (yz := yz) hR hp ha (nI p) v2
    refine mx_al_t hp ha (br_f (by decide) (hX1 _ (hX2 _ ?_)))
    unfold wpY_exit
    dsimp only
    exact my_al_t hp ha (br_f (by decide) (hY _ ⟨rfl, mi_mk hR2 (by omega) (by omega)⟩))
  · refine mx_al_f hd (br_t rfl ?_)
    unfold wpY_exit
    dsimp only
    exact my_al_f hd (br_t rfl ⟨rfl, J⟩)
theorem i_vc_run {k : Nat} {u : SX} {v : SY} (I : i_Rel k u v) (hk : k + 4 ≤ 2048) (v1 : Int32) : wpX_run (fun r u' => wpY_run (fun r' v' => r' = r ∧ i_Rel (k + 4) u' v') v v1) u v1 := by
  have eK := mi_K_s hk
  have bK := mi_K_b k
  obtain ⟨dl, nt, tc, md, lo, en, dO, dA, dB, xo, xa, xb, xl, st, xr, rg, xv, pl, tr, xk, xm, wt, xw, xt, xi, mc, tk, xe, xz, ti, qn, yo, ya, yb, yl, cu, ag, yv, yr, yt, yi, yk, ym, li, ye, qu, yd, ys, yz, tm, xn, rfl, rfl, hR⟩ := I
  have J : i_Rel (k + 4) (dl, nt, 0, tc, tm, xn, md, lo, en, dO, dA, dB, xo, xa, xb, xl, st, xr, rg, xv, pl, tr, xk, xm, wt, xw, xt, xi, mc, tk, xe, xz, ti) (dl, qn, 0, tm, tc, xn, md, lo, en, yo, ya, yb, yl, cu, ag, dO, dA, dB, st, rg, pl, yv, yr, tr, yt, yi, mc, yk, ym, wt, li, ye, qu, yd, ys, yz, ti) := mi_mk hR (by omega) (by omega)
  by_cases h1 : v1 < 1
  · exact br_t h1 (br_t h1 ⟨rfl, J⟩)
  · by_cases h2 : (100 : Int32) < v1
    · exact br_f h1 (br_t h2 (br_f h1 (br_t h2 ⟨rfl, J⟩)))
    · by_cases h3 : tm ≤ 1000000000
      · have hv0 : 0 ≤ v1.toInt := by
          rw [Int32.lt_iff_toInt_lt, show (1 : Int32).toInt = 1 from by decide] at h1
          omega
        obtain ⟨N, _, rfl, eN⟩ := mp_nn hv0
        have hN : N ≤ 100 := by
          rw [Int32.lt_iff_toInt_lt, eN, show (100 : Int32).toInt = 100 from by decide] at h2
          omega
        have ht : tm.toInt ≤ 1000000000 := by
          rw [Int32.le_iff_toInt_le, show (1000000000 : Int32).toInt = 1000000000 from by decide] at h3
          exact h3
        have hR1 : (mp_D dl dO dA dB ∧ mp_C xo xa xb xl yo ya yb yl cu ∧ mp_V st xv yv xl cu ∧ mp_P st pl ∧ mp_S st ∧ mp_M st mc xt xi yt yi ∧ mp_K st xk yk ∧ mp_K st xm ym ∧ mp_W st xw li ye tm ∧ mp_T tm tc ti (1000000000 + 1008 * ((0 : Nat) : Int)) ∧ mp_Q st tk nt 8 qu qn ∧ mp_E st xr yr ∧ mp_Z 0 st xr xe xz 0 yd ys yz 0 ∧ mp_F st nt (2 * tm.toInt + (mi_K k + ((0 : Nat) : Int))) ∧ mp_G (fun _ _ => True) st xv yz) := by
          have hR0 := mp_F_R hR (C' := 2 * tm.toInt + (mi_K k + ((0 : Nat) : Int))) (by omega) (by omega)
          obtain ⟨hD, hC, hV, hP, hS, hM, hK, hm, hW, hT, hQ, hE, hZ, hF, hG⟩ := hR0
          obtain ⟨a, b, c, d, e⟩ := hT
          exact ⟨hD, hC, hV, hP, hS, hM, hK, hm, hW, ⟨a, by omega, c, d, e⟩, hQ, hE, hZ, hF, hG⟩
        obtain ⟨r, tm', dl', nt', tc', md', lo', en', dO', dA', dB', xo', xa', xb', xl', st', xr', rg', xv', pl', tr', xk', xm', wt', xw', xt', xi', mc', tk', xe', xz', ti', qn', yo', ya', yb', yl', cu', ag', yv', yr', yt', yi', yk', ym', li', ye', qu', yd', ys', yz', hX, hY, hR2⟩ := mp_run_l (xn := xn) hN (by omega) (by omega) N 0 (by omega) tm dl nt tc md lo en dO dA dB xo xa xb xl st xr rg xv pl tr xk xm wt xw xt xi mc tk xe xz ti qn yo ya yb yl cu ag yv yr yt yi yk ym li ye qu yd ys yz hR1
        have e0 : xn + nI 0 = xn := by
          rw [nI_0]
          exact Int32.add_zero xn
        rw [e0] at hY
        refine br_f h1 (br_f h2 (br_t h3 ⟨N + 1, hX _ _ (by omega) ?_⟩))
        exact br_f h1 (br_f h2 (br_t h3 ⟨N + 2, hY _ _ (by omega) ⟨rfl, mi_mk hR2 (by omega) (by omega)⟩⟩))
      · exact br_f h1 (br_f h2 (br_f h3 (br_f h1 (br_f h2 (br_f h3 ⟨rfl, J⟩)))))
end
