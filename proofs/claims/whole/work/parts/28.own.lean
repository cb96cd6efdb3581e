section
variable {dl xc tc tm xn md lo en qn yc yn : Int32} {nt : Int64} {dO dA dB xo xa xb xl st xr rg xv pl tr xk xm wt xw xt xi mc xe xz ti yo ya yb yl cu ag yv yr yt yi yk ym li ye qu yd ys yz : Nat → Int32} {tk : Nat → Int64} {run i p : Nat} {T C : Int} {G : Nat → Int32 → Prop}
/-! load -/
theorem mp_load {m n : Nat} (h : (mp_D (nI n) dO dA dB ∧ mp_C xo xa xb xl yo ya yb yl cu ∧ mp_V st xv yv xl cu ∧ mp_P st pl ∧ mp_S st ∧ mp_M st mc xt xi yt yi ∧ mp_K st xk yk ∧ mp_K st xm ym ∧ mp_W st xw li ye tm ∧ mp_T tm tc ti T ∧ mp_Q st tk nt 8 qu qn ∧ mp_E st xr yr ∧ mp_Z 0 st xr xe xz 0 yd ys yz 0 ∧ mp_F st nt C ∧ mp_G (fun _ _ => True) st xv yz)) (hm4 : m < 4) (hn0 : 0 < n) (hn : n ≤ 24) : ∃ (r : Int32) (dl' : Int32) (xo' xa' xb' yo' ya' yb' xl' yl' cu' xv' ag' : Nat → Int32), (∀ post : Int32 → SX → Prop, post r (dl', nt, 0, tc, tm, xn, md, lo, en, dO, dA, dB, xo', xa', xb', xl', st, xr, rg, xv', pl, tr, xk, xm, wt, xw, xt, xi, mc, tk, xe, xz, ti) → wpX_load post (nI n, nt, 0, tc, tm, xn, md, lo, en, dO, dA, dB, xo, xa, xb, xl, st, xr, rg, xv, pl, tr, xk, xm, wt, xw, xt, xi, mc, tk, xe, xz, ti) (nI m)) ∧ (∀ post : Int32 → SY → Prop, post r (dl', qn, 0, tm, tc, yn, md, lo, en, yo', ya', yb', yl', cu', ag', dO, dA, dB, st, rg, pl, yv, yr, tr, yt, yi, mc, yk, ym, wt, li, ye, qu, yd, ys, yz, ti) → wpY_load post (nI n, qn, 0, tm, tc, yn, md, lo, en, yo, ya, yb, yl, cu, ag, dO, dA, dB, st, rg, pl, yv, yr, tr, yt, yi, mc, yk, ym, wt, li, ye, qu, yd, ys, yz, ti) (nI m)) ∧ (mp_D dl' dO dA dB ∧ mp_C xo' xa' xb' xl' yo' ya' yb' yl' cu' ∧ mp_V st xv' yv xl' cu' ∧ mp_P st pl ∧ mp_S st ∧ mp_M st mc xt xi yt yi ∧ mp_K st xk yk ∧ mp_K st xm ym ∧ mp_W st xw li ye tm ∧ mp_T tm tc ti T ∧ mp_Q st tk nt 8 qu qn ∧ mp_E st xr yr ∧ mp_Z 0 st xr xe xz 0 yd ys yz 0 ∧ mp_F st nt C ∧ mp_G (fun _ _ => True) st xv' yz) := by
  have hh := h
  obtain ⟨hD, hC, hV, hP, hS, hM, hK, hm, hW, hT, hQ, hE, hZ, hF, hG⟩ := h
  have dn0 : ¬ nI n = 0 := nI_ne0 hn0 (by omega)
  have cm := nI_clamp (n := m) (by omega)
  have Im := vp_in_nI (n := m) (N := 4) hm4 (by omega)
  rcases mp_first (fun q => mp_al st q ∧ xv q = nI (2 * m + 1)) 8 with hno | ⟨q0, hq0, hB, hlow⟩
  · obtain ⟨c', hc', cz⟩ : ∃ c', ((cu m = 0 ∧ c' = 1) ∨ (cu m ≠ 0 ∧ c' = 0)) ∧ c' < 2 := by
      by_cases z : cu m = 0
      · exact ⟨1, Or.inl ⟨z, rfl⟩, by omega⟩
      · exact ⟨0, Or.inr ⟨z, rfl⟩, by omega⟩
    have c2 := nI_clamp (n := 2 * m) (by omega)
    have I2 := vp_in_nI (n := 2 * m) (N := 8) (by omega) (by omega)
    have c3 := nI_clamp (n := 2 * m + 1) (by omega)
    have I3 := vp_in_nI (n := 2 * m + 1) (N := 8) (by omega) (by omega)
    obtain ⟨xo', xa', xb', s1, s2, s3, hX31⟩ := mx_ld_l (dl := nI n) (nt := nt) (xc := 0) (tc := tc) (tm := tm) (xn := xn) (md := md) (lo := lo) (en := en) (dO := dO) (dA := dA) (dB := dB) (xl := xl) (st := st) (xr := xr) (rg := rg) (xv := xv) (pl := pl) (tr := tr) (xk := xk) (xm := xm) (wt := wt) (xw := xw) (xt := xt) (xi := xi) (mc := mc) (tk := tk) (xe := xe) (xz := xz) (ti := ti) hm4 24 0 rfl xo xa xb
    obtain ⟨xv', sv, hX170⟩ := mx_ldv_l (dl := 0) (nt := nt) (xc := 0) (tc := tc) (tm := tm) (xn := xn) (md := md) (lo := lo) (en := en) (dO := dO) (dA := dA) (dB := dB) (xo := xo') (xa := xa') (xb := xb') (xl := upd (upd xl (2 * m + 1) (xl (2 * m))) (2 * m) (nI n)) (st := st) (xr := xr) (rg := rg) (pl := pl) (tr := tr) (xk := xk) (xm := xm) (wt := wt) (xw := xw) (xt := xt) (xi := xi) (mc := mc) (tk := tk) (xe := xe) (xz := xz) (ti := ti) hm4 8 0 rfl xv
    obtain ⟨ag', hY62⟩ : ∃ ag' : Nat → Int32, ∀ post : Int32 → SY → Prop, wY_load_82 post (nI m) (nI c') (nI m) (nI n) qn 0 tm tc yn md lo en yo ya yb yl cu ag' dO dA dB st rg pl yv yr tr yt yi mc yk ym wt li ye qu yd ys yz ti → ∀ k, wY_load_20 post (nI m) (nI n) qn 0 tm tc yn md lo en yo ya yb yl cu ag dO dA dB st rg pl yv yr tr yt yi mc yk ym wt li ye qu yd ys yz ti (k + 1) (nI 8) := by
      have w62 : ∀ (post : Int32 → SY → Prop) (z0 : Int32), wY_load_82 post (nI m) (nI c') (nI m) (nI n) qn 0 tm tc yn md lo en yo ya yb yl cu (upd ag m (vp_nar .boolean z0)) dO dA dB st rg pl yv yr tr yt yi mc yk ym wt li ye qu yd ys yz ti → wY_load_62 post (nI m) z0 (nI m) (nI n) qn 0 tm tc yn md lo en yo ya yb yl cu ag dO dA dB st rg pl yv yr tr yt yi mc yk ym wt li ye qu yd ys yz ti := fun post z0 w => by
        unfold wY_load_62
        rw [cm]
        refine ⟨Im, nm_e ⟨Im, ?_⟩⟩
        rcases hc' with ⟨z, rfl⟩ | ⟨z, rfl⟩
        · exact br_t z w
        · exact br_f z w
      by_cases neg : cu m < 0
      · refine ⟨upd ag m (vp_nar .boolean 0), fun post w k => br_t (nI_le (b := 8) (Nat.le_refl 8) (by omega)) (And.intro Im ?_)⟩
        rw [cm]
        exact br_t neg (w62 post 0 w)
      · refine ⟨upd ag m (vp_nar .boolean 1), fun post w k => br_t (nI_le (b := 8) (Nat.le_refl 8) (by omega)) (And.intro Im ?_)⟩
        rw [cm]
        exact br_f neg (w62 post 1 w)
    obtain ⟨yo', ya', yb', t1, t2, t3, hY96⟩ := my_ld_l (v := 2 * m + c') (qn := qn) (yc := 0) (tm := tm) (tc := tc) (yn := yn) (md := md) (lo := lo) (en := en) (yl := yl) (cu := upd cu m (nI c')) (ag := ag') (dO := dO) (dA := dA) (dB := dB) (st := st) (rg := rg) (pl := pl) (yv := yv) (yr := yr) (tr := tr) (yt := yt) (yi := yi) (mc := mc) (yk := yk) (ym := ym) (wt := wt) (li := li) (ye := ye) (qu := qu) (yd := yd) (ys := ys) (yz := yz) (ti := ti) (by omega) hn n 0 (by omega) yo ya yb
    have toLd : ∀ f f' d : Nat → Int32, mp_ldq f f' d m 0 → mp_ld f f' d m := fun f f' d w => ⟨fun i hi => w.1 i (by omega) hi, fun j hj => w.2 j (by omega)⟩
    have toLy : ∀ f f' d : Nat → Int32, mp_lyq f f' d (2 * m + c') n 0 → mp_ly f f' d (2 * m + c') n := fun f f' d w => ⟨fun k hk => w.1 k (by omega) hk, fun j hj => w.2 j (by omega)⟩
    have hR := mp_load_R (xv' := xv') hh hm4 hn0 hn (fun _ _ => trivial) (fun q hq ha z => hno q hq ⟨ha, z⟩) hc' (toLd _ _ _ s1) (toLd _ _ _ s2) (toLd _ _ _ s3) (toLy _ _ _ t1) (toLy _ _ _ t2) (toLy _ _ _ t3) (fun q hq => by
      rw [sv q hq]
      by_cases z : xv q = nI (2 * m)
      · rw [if_pos ⟨by omega, z⟩, if_pos z]
      · rw [if_neg (fun y => z y.2), if_neg z])
    refine ⟨1, 0, xo', xa', xb', yo', ya', yb', _, _, _, xv', ag', fun post hq => ?_, fun post hq => ?_, hR⟩
    · unfold wpX_load
      dsimp only
      refine mx_bel_t (n := 4) hm4 (by omega) (br_f (by decide) (br_f dn0 ?_))
      unfold wpX_isOldInUse
      refine ⟨9, mx_oiu_l hS hm4 0 (Or.inl rfl) (fun _ q hq ha z => hno q hq ⟨ha, z⟩) 8 0 rfl 0 (Or.inl rfl) (fun z => absurd z (by decide)) _ 9 (by omega) (br_t rfl (nm_r (mp_2x m) ⟨25, hX31 _ 25 (by omega) (br_t (nI_le (b := 24) (Nat.le_refl 24) (by omega)) (And.intro I2 ?_))⟩))⟩
      rw [nI_1, c2, c3]
      exact ⟨I3, nm_e ⟨I2, nm_e ⟨9, hX170 _ 9 (by omega) hq⟩⟩⟩
    · unfold wpY_load
      dsimp only
      refine my_bel_t (n := 4) hm4 (by omega) (br_f (by decide) (br_f dn0 ⟨9, my_ld20_l (xv := xv) (xl := xl) hS hV hm4 (e := 8) (by omega) hno _ (hY62 _ ?_) 8 0 rfl 9 (by omega)⟩))
      unfold wY_load_82
      rw [cm]
      exact ⟨Im, nm_e ⟨Im, nm_r (e' := nI (2 * m + c')) (by rw [pk_us, mp_2x, nI_add]) ⟨n + 1, hY96 _ _ (by omega) hq⟩⟩⟩
  · refine ⟨0, nI n, xo, xa, xb, yo, ya, yb, xl, yl, cu, xv, ag, fun post hq => ?_, fun post hq => ?_, hh⟩
    · unfold wpX_load
      dsimp only
      refine mx_bel_t (n := 4) hm4 (by omega) (br_f (by decide) (br_f dn0 ?_))
      unfold wpX_isOldInUse
      exact ⟨9, mx_oiu_l hS hm4 1 (Or.inr rfl) (fun z => absurd z (by decide)) 8 0 rfl 0 (Or.inl rfl) (fun _ => Or.inr ⟨q0, by omega, hq0, hB.1, hB.2⟩) _ 9 (by omega) (br_f (by decide) hq)⟩
    · unfold wpY_load
      dsimp only
      exact my_bel_t (n := 4) hm4 (by omega) (br_f (by decide) (br_f dn0 ⟨9, my_ld20_l (xv := xv) (xl := xl) hS hV hm4 (e := q0) (by omega) hlow _ (fun k => br_f (nI_ge (b := 8) hq0 (by omega)) (my_old hS hV hq0 hm4 (fun _ _ => br_f (by decide) hq) (fun z => absurd hB z))) q0 0 (by omega) 9 (by omega)⟩))
/-! purge -/
theorem mp_purge_l {m : Nat} (hm4 : m < 4) : ∀ d q, q + d = 8 → ∀ (cnt : Int32) (st : Nat → Int32) (tk : Nat → Int64) (nt : Int64) (qu : Nat → Int32) (qn : Int32) (mc xt xi yt yi : Nat → Int32) (lo : Int32) (xr xe xz : Nat → Int32) (xc : Int32) (yd ys yz : Nat → Int32) (yc : Int32) (xk yk xm ym yr : Nat → Int32) (en : Int32), (mp_D dl dO dA dB ∧ mp_C xo xa xb xl yo ya yb yl cu ∧ mp_V st xv yv xl cu ∧ mp_P st pl ∧ mp_S st ∧ mp_M st mc xt xi yt yi ∧ mp_K st xk yk ∧ mp_K st xm ym ∧ mp_W st xw li ye tm ∧ mp_T tm tc ti T ∧ mp_Q st tk nt 8 qu qn ∧ mp_E st xr yr ∧ mp_Z 0 st xr xe xz 0 yd ys yz 0 ∧ mp_F st nt C ∧ mp_G (fun r v => r < q → v ≠ nI (2 * m + 1)) st xv yz) → ∃ (cnt' : Int32) (ag' : Nat → Int32) (st' : Nat → Int32) (tk' : Nat → Int64) (nt' : Int64) (qu' : Nat → Int32) (qn' : Int32) (mc' xt' xi' yt' yi' : Nat → Int32) (lo' : Int32) (xr' xe' xz' : Nat → Int32) (xc' : Int32) (yd' ys' yz' : Nat → Int32) (yc' : Int32) (xk' yk' xm' ym' yr' : Nat → Int32) (en' : Int32), (∀ (post : Int32 → SX → Prop) n, d < n → post cnt' (dl, nt', 0, tc, tm, xn, md, lo', en', dO, dA, dB, xo, xa, xb, upd xl (2 * m + 1) 0, st', xr', rg, xv, pl, tr, xk', xm', wt, xw, xt', xi', mc', tk', xe', xz', ti) → wX_purge_21 post (nI (2 * m + 1)) n cnt (nI q) dl nt 0 tc tm xn md lo en dO dA dB xo xa xb xl st xr rg xv pl tr xk xm wt xw xt xi mc tk xe xz ti) ∧ (∀ (post : Int32 → SY → Prop) n, d < n → post cnt' (dl, qn', 0, tm, tc, yn, md, lo', en', yo, ya, yb, yl, cu, ag', dO, dA, dB, st', rg, pl, yv, yr', tr, yt', yi', mc', yk', ym', wt, li, ye, qu', yd', ys', yz', ti) → wY_purge_15 post (nI m) n cnt (nI q) dl qn 0 tm tc yn md lo en yo ya yb yl cu ag dO dA dB st rg pl yv yr tr yt yi mc yk ym wt li ye qu yd ys yz ti) ∧ (mp_D dl dO dA dB ∧ mp_C xo xa xb (upd xl (2 * m + 1) 0) yo ya yb yl cu ∧ mp_V st' xv yv (upd xl (2 * m + 1) 0) cu ∧ mp_P st' pl ∧ mp_S st' ∧ mp_M st' mc' xt' xi' yt' yi' ∧ mp_K st' xk' yk' ∧ mp_K st' xm' ym' ∧ mp_W st' xw li ye tm ∧ mp_T tm tc ti T ∧ mp_Q st' tk' nt' 8 qu' qn' ∧ mp_E st' xr' yr' ∧ mp_Z 0 st' xr' xe' xz' 0 yd' ys' yz' 0 ∧ mp_F st' nt' C ∧ mp_G (fun _ _ => True) st' xv yz') := by
  intro d
  have cm := nI_clamp (n := m) (by omega)
  have Im := vp_in_nI (n := m) (N := 4) hm4 (by omega)
  have c3 := nI_clamp (n := 2 * m + 1) (by omega)
  have I3 := vp_in_nI (n := 2 * m + 1) (N := 8) (by omega) (by omega)
  induction d with
  | zero =>
    intro q hq cnt st tk nt qu qn mc xt xi yt yi lo xr xe xz xc yd ys yz yc xk yk xm ym yr en h
    have e : q = 8 := by omega
    subst e
    have hz := mp_Z_none h.2.2.2.2.2.2.2.2.2.2.2.2.1
    have hR := mp_purge_R (mp_G_R h (G' := fun _ _ => True) (fun _ _ _ => trivial)) hm4 (fun p hp ha => h.2.2.2.2.2.2.2.2.2.2.2.2.2.2 p hp ha (hz.2 p hp).1 hp)
    refine ⟨cnt, upd ag m 0, st, tk, nt, qu, qn, mc, xt, xi, yt, yi, lo, xr, xe, xz, 0, yd, ys, yz, 0, xk, yk, xm, ym, yr, en, fun post n hn hq' => ?_, fun post n hn hq' => ?_, hR⟩
    · obtain ⟨k, rfl⟩ := mp_pos hn
      refine br_t (nI_le (b := 8) (Nat.le_refl 8) (by omega)) (And.intro I3 ?_)
      rw [c3]
      exact nm_e hq'
    · obtain ⟨k, rfl⟩ := mp_pos hn
      refine br_t (nI_le (b := 8) (Nat.le_refl 8) (by omega)) (And.intro Im ?_)
      rw [cm, mp_b0n]
      exact nm_e hq'
  | succ d ih =>
    intro q hq cnt st tk nt qu qn mc xt xi yt yi lo xr xe xz xc yd ys yz yc xk yk xm ym yr en h
    have hS := h.2.2.2.2.1
    have hV := h.2.2.1
    have h8 : ¬ (8 : Int32) ≤ nI q := nI_ge (b := 8) (by omega) (by omega)
    have c := nI_clamp (n := q) (by omega)
    have I := vp_in_nI (n := q) (N := 8) (by omega) (by omega)
    by_cases hB : mp_al st q ∧ xv q = nI (2 * m + 1)
    · obtain ⟨ha, hv⟩ := hB
      obtain ⟨hx, hy, h1⟩ := mp_doom_0 (reason := 8) h (by omega) ha
      obtain ⟨st', tk', nt', qu', qn', mc', xt', xi', yt', yi', lo', xr', xe', xz', xc', yd', ys', yz', yc', xk', yk', xm', ym', yr', en', hX, hY, hR⟩ := mp_settle (dl := dl) (nt := nt) (xc := nI (0 + 1)) (tc := tc) (tm := tm) (xn := xn) (md := md) (lo := lo) (en := en) (dO := dO) (dA := dA) (dB := dB) (xo := xo) (xa := xa) (xb := xb) (xl := xl) (st := st) (xr := upd xr q 8) (rg := rg) (xv := xv) (pl := pl) (tr := tr) (xk := xk) (xm := xm) (wt := wt) (xw := xw) (xt := xt) (xi := xi) (mc := mc) (tk := tk) (xe := upd xe 0 (nI q)) (xz := upd xz q 1) (ti := ti) (qn := qn) (yc := nI (0 + 1)) (yn := yn) (yo := yo) (ya := ya) (yb := yb) (yl := yl) (cu := cu) (ag := ag) (yv := yv) (yr := yr) (yt := yt) (yi := yi) (yk := yk) (ym := ym) (li := li) (ye := ye) (qu := qu) (yd := upd yd 0 (nI q)) (ys := upd ys 0 8) (yz := upd yz q 1) h1
      have hR2 := mp_G_R hR (G' := fun r v => r < q + 1 → v ≠ nI (2 * m + 1)) (fun r v z w => by
        by_cases y : r = q
        · exact absurd y z.2
        · exact z.1 (by omega))
      obtain ⟨cnt', ag', st'', tk'', nt'', qu'', qn'', mc'', xt'', xi'', yt'', yi'', lo'', xr'', xe'', xz'', xc'', yd'', ys'', yz'', yc'', xk'', yk'', xm'', ym'', yr'', en'', hX2, hY2, hR3⟩ := ih (q + 1) (by omega) (cnt + 1) st' tk' nt' qu' qn' mc' xt' xi' yt' yi' lo' xr' xe' xz' 0 yd' ys' yz' 0 xk' yk' xm' ym' yr' en' hR2
      refine ⟨cnt', ag', st'', tk'', nt'', qu'', qn'', mc'', xt'', xi'', yt'', yi'', lo'', xr'', xe'', xz'', xc'', yd'', ys'', yz'', yc'', xk'', yk'', xm'', ym'', yr'', en'', fun post n hn hq' => ?_, fun post n hn hq' => ?_, hR3⟩
      · obtain ⟨k, rfl⟩ := mp_pos hn
        refine br_f h8 (mx_al_t (by omega) ha (br_f (by decide) (And.intro I ?_)))
        rw [c]
        exact br_t hv (mx_mark (d := 0) (by omega) (by omega) hx (hX _ (nm_e (nm_r (nI_1 q) (hX2 post k (by omega) hq')))))
      · obtain ⟨k, rfl⟩ := mp_pos hn
        exact br_f h8 (my_old hS hV (by omega) hm4 (fun _ _ => br_f (by decide) (my_doom (d := 0) (by omega) (by omega) hy (hY _ (nm_e (nm_r (nI_1 q) (hY2 post k (by omega) hq')))))) (fun z => absurd ⟨ha, hv⟩ z))
    · have hR2 : (mp_D dl dO dA dB ∧ mp_C xo xa xb xl yo ya yb yl cu ∧ mp_V st xv yv xl cu ∧ mp_P st pl ∧ mp_S st ∧ mp_M st mc xt xi yt yi ∧ mp_K st xk yk ∧ mp_K st xm ym ∧ mp_W st xw li ye tm ∧ mp_T tm tc ti T ∧ mp_Q st tk nt 8 qu qn ∧ mp_E st xr yr ∧ mp_Z 0 st xr xe xz 0 yd ys yz 0 ∧ mp_F st nt C ∧ mp_G (fun r v => r < q + 1 → v ≠ nI (2 * m + 1)) st xv yz) := by
        obtain ⟨hD, hC, hV, hP, hS, hM, hK, hm, hW, hT, hQ, hE, hZ, hF, hG⟩ := h
        refine ⟨hD, hC, hV, hP, hS, hM, hK, hm, hW, hT, hQ, hE, hZ, hF, fun r hr a b z => ?_⟩
        by_cases y : r = q
        · subst y
          exact fun w => hB ⟨a, w⟩
        · exact hG r hr a b (by omega)
      obtain ⟨cnt', ag', st'', tk'', nt'', qu'', qn'', mc'', xt'', xi'', yt'', yi'', lo'', xr'', xe'', xz'', xc'', yd'', ys'', yz'', yc'', xk'', yk'', xm'', ym'', yr'', en'', hX2, hY2, hR3⟩ := ih (q + 1) (by omega) cnt st tk nt qu qn mc xt xi yt yi lo xr xe xz xc yd ys yz yc xk yk xm ym yr en hR2
      refine ⟨cnt', ag', st'', tk'', nt'', qu'', qn'', mc'', xt'', xi'', yt'', yi'', lo'', xr'', xe'', xz'', xc'', yd'', ys'', yz'', yc'', xk'', yk'', xm'', ym'', yr'', en'', fun post n hn hq' => ?_, fun post n hn hq' => ?_, hR3⟩
      · obtain ⟨k, rfl⟩ := mp_pos hn
        refine br_f h8 ?_
        rcases mp_al_of hS (p := q) (by omega) with ⟨ha, _⟩ | ⟨hd, _⟩
        · refine mx_al_t (by omega) ha (br_f (by decide) (And.intro I ?_))
          rw [c]
          exact br_f (fun w => hB ⟨ha, w⟩) (nm_r (nI_1 q) (hX2 post k (by omega) hq'))
        · exact mx_al_f (mp_deadp (by omega) hd) (br_t rfl (nm_r (nI_1 q) (hX2 post k (by omega) hq')))
      · obtain ⟨k, rfl⟩ := mp_pos hn
        exact br_f h8 (my_old hS hV (by omega) hm4 (fun a b => absurd ⟨a, b⟩ hB) (fun _ => br_t rfl (nm_r (nI_1 q) (hY2 post k (by omega) hq'))))
/-! Y: a row of booleans as a set of bits -/
theorem my_set_l (hp : p < 8) (w1 : Int32) (f : Nat → Int32) (hf : (w1 = 0 ∧ f = ym) ∨ (¬ w1 = 0 ∧ f = yk)) : ∀ d q, q + d = 8 → ∀ a, mp_ac a (fun j => decide (f (8 * p + j) ≠ 0)) q → ∃ w, mp_ac w (fun j => decide (f (8 * p + j) ≠ 0)) 8 ∧ ∀ (post : Int32 → Prop) n, d < n → post w → wY_set_5 post w1 (nI p) dl qn yc tm tc yn md lo en yo ya yb yl cu ag dO dA dB st rg pl yv yr tr yt yi mc yk ym wt li ye qu yd ys yz ti n a (nI q) := by
  intro d
  induction d with
  | zero =>
    intro q hq a ha
    have e : q = 8 := by omega
    subst e
    refine ⟨a, ha, fun post n hn h => ?_⟩
    obtain ⟨m, rfl⟩ := mp_pos hn
    exact br_t (nI_le (b := 8) (Nat.le_refl 8) (by omega)) h
  | succ d ih =>
    intro q hq a ha
    have h8 : ¬ (8 : Int32) ≤ nI q := nI_ge (b := 8) (by omega) (by omega)
    have c := nI_clamp (n := 8 * p + q) (by omega)
    have I := vp_in_nI (n := 8 * p + q) (N := 64) (by omega) (by omega)
    by_cases hg : f (8 * p + q) = 0
    · obtain ⟨w, hw, hY⟩ := ih (q + 1) (by omega) a (mp_ac_f ha (decide_eq_false (fun z => z hg)))
      refine ⟨w, hw, fun post n hn h => ?_⟩
      obtain ⟨m, rfl⟩ := mp_pos hn
      refine br_f h8 ?_
      rw [mp_8x, nI_add, c]
      rcases hf with ⟨z, rfl⟩ | ⟨z, rfl⟩
      · exact br_t z ⟨I, br_t hg (nm_r (nI_1 q) (hY post m (by omega) h))⟩
      · exact br_f z ⟨I, br_t hg (nm_r (nI_1 q) (hY post m (by omega) h))⟩
    · obtain ⟨w, hw, hY⟩ := ih (q + 1) (by omega) _ (mp_ac_t ha (by omega) (decide_eq_true hg))
      refine ⟨w, hw, fun post n hn h => ?_⟩
      obtain ⟨m, rfl⟩ := mp_pos hn
      refine br_f h8 ?_
      rw [mp_8x, nI_add, c]
      rcases hf with ⟨z, rfl⟩ | ⟨z, rfl⟩
      · exact br_t z ⟨I, br_f hg (nm_e (nm_r (nI_1 q) (hY post m (by omega) h)))⟩
      · exact br_f z ⟨I, br_f hg (nm_e (nm_r (nI_1 q) (hY post m (by omega) h)))⟩
theorem my_set {xs : Nat → Int32} {f : Nat → Int32} (hp : p < 8) (w1 : Int32) (hf : (w1 = 0 ∧ f = ym) ∨ (¬ w1 = 0 ∧ f = yk)) (hK : mp_K st xs f) {post : Int32 → Prop} (h : post (xs p)) : wpY_set post (dl, qn, yc, tm, tc, yn, md, lo, en, yo, ya, yb, yl, cu, ag, dO, dA, dB, st, rg, pl, yv, yr, tr, yt, yi, mc, yk, ym, wt, li, ye, qu, yd, ys, yz, ti) w1 (nI p) := by
  obtain ⟨w, hw, hY⟩ := my_set_l (dl := dl) (qn := qn) (yc := yc) (tm := tm) (tc := tc) (yn := yn) (md := md) (lo := lo) (en := en) (yo := yo) (ya := ya) (yb := yb) (yl := yl) (cu := cu) (ag := ag) (dO := dO) (dA := dA) (dB := dB) (st := st) (rg := rg) (pl := pl) (yv := yv) (yr := yr) (tr := tr) (yt := yt) (yi := yi) (mc := mc) (yk := yk) (ym := ym) (wt := wt) (li := li) (ye := ye) (qu := qu) (yd := yd) (ys := ys) (yz := yz) (ti := ti) hp w1 f hf 8 0 rfl 0 (mp_ac_0 _)
  have e : xs p = w := mp_ac_u (hK p hp).1 hw
  unfold wpY_set
  exact ⟨9, hY post 9 (by omega) (by rw [← e]; exact h)⟩
end
