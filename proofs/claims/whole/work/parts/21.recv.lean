section
variable {dl xc tc tm xn md lo en qn yc yn : Int32} {nt : Int64} {dO dA dB xo xa xb xl st xr rg xv pl tr xk xm wt xw xt xi mc xe xz ti yo ya yb yl cu ag yv yr yt yi yk ym li ye qu yd ys yz : Nat → Int32} {tk : Nat → Int64} {run i p : Nat} {T C : Int} {G : Nat → Int32 → Prop}
theorem mx_wait {post : SX → Prop} {tg e : Int32} {pn : Nat} (hp : p < 8) (hpl : pl p = nI (pn + 1)) (h : post (dl, nt, xc, tc, tm, xn, md, lo, en, dO, dA, dB, xo, xa, xb, xl, upd st p 2, xr, rg, xv, upd pl p (nI pn), tr, xk, xm, upd wt p tg, upd xw p e, xt, xi, mc, tk, xe, xz, ti)) : wpX_waitUntil post (dl, nt, xc, tc, tm, xn, md, lo, en, dO, dA, dB, xo, xa, xb, xl, st, xr, rg, xv, pl, tr, xk, xm, wt, xw, xt, xi, mc, tk, xe, xz, ti) (nI p) tg e := by
  have c := nI_clamp (n := p) (by omega)
  have I := vp_in_nI (n := p) (N := 8) hp (by omega)
  unfold wpX_waitUntil
  dsimp only
  rw [c, hpl, nI_pred]
  exact ⟨I, nm_e ⟨I, nm_e ⟨I, nm_e ⟨I, I, nm_e h⟩⟩⟩⟩
theorem mp_addt {x y : Int32} {T : Int} (h0 : 0 ≤ x.toInt) (hT : x.toInt ≤ T) (hT1 : T < 1900000000) (h1 : 0 ≤ y.toInt) (h2 : y.toInt ≤ 1000) : (x + y).toInt = x.toInt + y.toInt := by
  rw [Int32.toInt_add]
  exact Int.bmod_eq_of_le (by omega) (by omega)
theorem my_210 {post : SY → Prop} {tg e x5 : Int32} {pn l : Nat} {z : Int32} (hp : p < 8) (hl : l < 5) (hpl : pl p = nI (pn + 1)) (hz : (l = 4 ∧ z = 0) ∨ (l < 4 ∧ z = 1)) (he : (x5 ≤ 1000 ∧ e = tm + x5) ∨ (¬ x5 ≤ 1000 ∧ e = tm + 1000)) (h : post (dl, qn, yc, tm, tc, yn, md, lo, en, yo, ya, yb, yl, cu, ag, dO, dA, dB, upd st p 2, rg, upd pl p (nI pn), yv, yr, tr, yt, yi, mc, yk, ym, upd wt p tg, upd li p z, upd ye p e, qu, yd, ys, yz, ti)) : wY_receive_210 post (nI p) tg (nI l) x5 dl qn yc tm tc yn md lo en yo ya yb yl cu ag dO dA dB st rg pl yv yr tr yt yi mc yk ym wt li ye qu yd ys yz ti := by
  have c := nI_clamp (n := p) (by omega)
  have I := vp_in_nI (n := p) (N := 8) hp (by omega)
  have w249 : ∀ z0, vp_nar .boolean z0 = z → wY_receive_249 post (nI p) x5 z0 (nI p) dl qn yc tm tc yn md lo en yo ya yb yl cu ag dO dA dB (upd st p 2) rg (upd pl p (nI pn)) yv yr tr yt yi mc yk ym (upd wt p tg) li ye qu yd ys yz ti := fun z0 ez => by
    unfold wY_receive_249
    rw [c, ez]
    rcases he with ⟨h1, rfl⟩ | ⟨h1, rfl⟩
    · exact ⟨I, nm_e (br_t h1 ⟨I, nm_e h⟩)⟩
    · exact ⟨I, nm_e (br_f h1 ⟨I, nm_e h⟩)⟩
  unfold wY_receive_210
  rw [c, hpl, nI_pred]
  refine ⟨I, I, nm_e ⟨I, nm_e ⟨I, nm_e ?_⟩⟩⟩
  rcases hz with ⟨e4, rfl⟩ | ⟨e4, rfl⟩
  · exact br_t (nI_le (a := 4) (by omega) (by omega)) (w249 0 mp_b0n)
  · exact br_f (nI_ge (b := 4) e4 (by omega)) (w249 1 mp_b1n)
theorem mx_ft_some {k n0 : Nat} {tg : Int32} {post : Int32 → Prop} (hp : p < 8) (hn0 : n0 ≤ 12) (em : mc p = nI n0) (hk : k < n0) (hB : mp_tb tg xt p k) (hlow : ∀ j, j < k → ¬ mp_tb tg xt p j) (h : post (nI k)) : wpX_firstWithTag post (dl, nt, xc, tc, tm, xn, md, lo, en, dO, dA, dB, xo, xa, xb, xl, st, xr, rg, xv, pl, tr, xk, xm, wt, xw, xt, xi, mc, tk, xe, xz, ti) (nI p) tg := by
  have c := nI_clamp (n := p) (by omega)
  have I := vp_in_nI (n := p) (N := 8) hp (by omega)
  have c2 := nI_clamp (n := 12 * p + k) (by omega)
  have I2 := vp_in_nI (n := 12 * p + k) (N := 96) (by omega) (by omega)
  unfold wpX_firstWithTag
  refine ⟨13, mx_ft_l hp (e := k) (by omega) hn0 em (fun j hj _ => hlow j hj) post (fun m => ?_) k 0 (by omega) 13 (by omega)⟩
  refine br_f (nI_ge (b := 12) (by omega) (by omega)) (And.intro I ?_)
  rw [c, em, mp_x12, nI_add, c2]
  exact br_f (nI_ge hk (by omega)) ⟨I2, br_t hB (br_f (by decide) h)⟩
theorem mx_ft_none {n0 : Nat} {tg : Int32} {post : Int32 → Prop} (hp : p < 8) (hn0 : n0 ≤ 12) (em : mc p = nI n0) (hlow : ∀ j, j < n0 → ¬ mp_tb tg xt p j) (h : post (-1)) : wpX_firstWithTag post (dl, nt, xc, tc, tm, xn, md, lo, en, dO, dA, dB, xo, xa, xb, xl, st, xr, rg, xv, pl, tr, xk, xm, wt, xw, xt, xi, mc, tk, xe, xz, ti) (nI p) tg := by
  unfold wpX_firstWithTag
  exact ⟨13, mx_ft_l hp (e := 12) (by omega) hn0 em (fun j _ hj => hlow j hj) post (fun m => br_t (nI_le (b := 12) (Nat.le_refl 12) (by omega)) h) 12 0 (by omega) 13 (by omega)⟩
theorem mp_op7 {a b : Int32} {pn : Nat} (h : (mp_D dl dO dA dB ∧ mp_C xo xa xb xl yo ya yb yl cu ∧ mp_V st xv yv xl cu ∧ mp_P st pl ∧ mp_S st ∧ mp_M st mc xt xi yt yi ∧ mp_K st xk yk ∧ mp_K st xm ym ∧ mp_W st xw li ye tm ∧ mp_T tm tc ti T ∧ mp_Q st tk nt p qu qn ∧ mp_E st xr yr ∧ mp_Z 0 st xr xe xz 0 yd ys yz 0 ∧ mp_F st nt C ∧ mp_G (fun _ _ => True) st xv yz)) (hp : p < 8) (h1 : st p = 1) (hb : mp_lt b 5) (hpl : pl p = nI (pn + 1)) (hpn : pn < 24) (hT1 : T < 1900000000) (hC1 : C + 1 < 2 ^ 40) : mp_OP p 7 a b T (C + 1) tm xn yn (dl, nt, 0, tc, tm, xn, md, lo, en, dO, dA, dB, xo, xa, xb, xl, st, xr, rg, xv, pl, tr, xk, xm, wt, xw, xt, xi, mc, tk, xe, xz, ti) (dl, qn, 0, tm, tc, yn, md, lo, en, yo, ya, yb, yl, cu, ag, dO, dA, dB, st, rg, pl, yv, yr, tr, yt, yi, mc, yk, ym, wt, li, ye, qu, yd, ys, yz, ti) := by
  have hh := h
  obtain ⟨hD, hC, hV, hP, hS, hM, hK, hm, hW, hT, hQ, hE, hZ, hF, hG⟩ := h
  obtain ⟨l, hl, rfl⟩ := hb
  obtain ⟨n0, hn0, em, _, hk⟩ := hM p hp
  have hup := mp_F_R hh (C' := C + 1) (by omega) hC1
  have c := nI_clamp (n := p) (by omega)
  have I := vp_in_nI (n := p) (N := 8) hp (by omega)
  have c4 := nI_clamp (n := 4 * p) (by omega)
  have I4 := vp_in_nI (n := 4 * p) (N := 32) (by omega) (by omega)
  have c41 := nI_clamp (n := 4 * p + 1) (by omega)
  have I41 := vp_in_nI (n := 4 * p + 1) (N := 32) (by omega) (by omega)
  have hBeq : ∀ k, k < n0 → (mp_tb a xt p k ↔ mp_tb a yt p k) := fun k hk' => by
    unfold mp_tb
    rw [(hk k hk').1]
  rcases mp_first (mp_tb a xt p) n0 with hnone | ⟨k, hk0, hB, hlow⟩
  · have hnoneY : ∀ k, k < n0 → ¬ mp_tb a yt p k := fun k hk' z => hnone k hk' ((hBeq k hk').mpr z)
    have hY0 : ∀ post : SY → Prop, wY_receive_39 post (nI p) a (nI l) (nI n0) dl qn 0 tm tc yn md lo en yo ya yb yl cu ag dO dA dB st rg pl yv yr tr yt yi mc yk ym wt li ye qu yd ys yz ti → my_disp post (dl, qn, 0, tm, tc, yn, md, lo, en, yo, ya, yb, yl, cu, ag, dO, dA, dB, st, rg, pl, yv, yr, tr, yt, yi, mc, yk, ym, wt, li, ye, qu, yd, ys, yz, ti) (nI p) 7 a (nI l) := fun post w => Or.inr (Or.inl ⟨by decide, by decide, rfl, by
      unfold wpY_receive
      refine ⟨n0 + 1, my_ft_l hp (e := n0) (Nat.le_refl n0) hn0 em hnoneY post (fun m => And.intro I ?_) n0 0 (by omega) (n0 + 1) (by omega)⟩
      rw [c, em]
      exact br_t (nI_le (Nat.le_refl n0) (by omega)) w⟩)
    by_cases h4 : l = 4
    · subst h4
      refine mp_op_a (u' := (dl, nt, 0, tc, tm, xn, md, lo, en, dO, dA, dB, xo, xa, xb, xl, upd st p 2, xr, rg, xv, upd pl p (nI pn), tr, xk, xm, upd wt p a, upd xw p (-1), xt, xi, mc, tk, xe, xz, ti)) (v' := (dl, qn, 0, tm, tc, yn, md, lo, en, yo, ya, yb, yl, cu, ag, dO, dA, dB, upd st p 2, rg, upd pl p (nI pn), yv, yr, tr, yt, yi, mc, yk, ym, upd wt p a, upd li p 0, upd ye p (tm + 0), qu, yd, ys, yz, ti)) (fun post hq => ?_) (fun post hq => ?_) (fun post hq => mx_fin0 hq) (fun post hq => hY0 post ?_) rfl (mp_RR_2 (by rw [pk_us]; decide) (mp_wait_R hh hp h1 hpn (Or.inl ⟨rfl, rfl⟩) hC1))
      · refine nm_r (mp_x4 p) (br_f (by decide) (br_f (by decide) (br_f (by decide) (br_f (by decide) (br_f (by decide) (br_f (by decide) (br_f (by decide) (br_f (by decide) (br_f (by decide) (br_t rfl ?_))))))))))
        unfold wpX_receive
        dsimp only
        refine mx_ft_none hp hn0 em hnone (nm_e (br_t rfl (br_t rfl ?_)))
        exact mx_wait hp hpl hq
      · refine nm_r (mp_x4 p) (br_f (by decide) (br_f (by decide) (br_f (by decide) (br_t rfl ?_))))
        exact hq
      · unfold wY_receive_39
        rw [c, em]
        refine ⟨I, br_t (nI_le (Nat.le_refl n0) (by omega)) (br_t (nI_le (b := 4) (Nat.le_refl 4) (by omega)) ?_)⟩
        exact br_t (nI_le (b := 4) (Nat.le_refl 4) (by omega)) (my_210 hp (by omega) hpl (Or.inl ⟨rfl, rfl⟩) (Or.inl ⟨by decide, rfl⟩) hq)
    · have hl4 : l < 4 := by omega
      have ne4 : ¬ nI l = 4 := mp_nI_inj (b := 4) (by omega) (by omega) h4
      have ge4 : ¬ (4 : Int32) ≤ nI l := nI_ge (b := 4) hl4 (by omega)
      have cl := nI_clamp (n := 4 * p + l) (by omega)
      have Il := vp_in_nI (n := 4 * p + l) (N := 32) (by omega) (by omega)
      obtain ⟨t0, t1, _, _, _⟩ := hT
      have i0 : (0 : Int32).toInt = 0 := by decide
      have i1 : (1 : Int32).toInt = 1 := by decide
      have ik : (1000 : Int32).toInt = 1000 := by decide
      by_cases hw : rg (4 * p + l) ≤ 0
      · have hw1 : ¬ (1 : Int32) ≤ rg (4 * p + l) := fun z => by
          rw [Int32.le_iff_toInt_le, i1] at z
          rw [Int32.le_iff_toInt_le, i0] at hw
          omega
        refine mp_op_a (u' := (dl, nt, 0, tc, tm, xn, md, lo, en, dO, dA, dB, xo, xa, xb, xl, st, xr, upd rg (4 * p + 1) (-1), xv, pl, tr, xk, xm, wt, xw, xt, xi, mc, tk, xe, xz, ti)) (v' := (dl, qn, 0, tm, tc, yn, md, lo, en, yo, ya, yb, yl, cu, ag, dO, dA, dB, st, upd rg (4 * p + 1) (-1), pl, yv, yr, tr, yt, yi, mc, yk, ym, wt, li, ye, qu, yd, ys, yz, ti)) (fun post hq => ?_) (fun post hq => ?_) (fun post hq => mx_fin0 hq) (fun post hq => hY0 post ?_) rfl (mp_RR_1 h1 hup)
        · refine nm_r (mp_x4 p) (br_f (by decide) (br_f (by decide) (br_f (by decide) (br_f (by decide) (br_f (by decide) (br_f (by decide) (br_f (by decide) (br_f (by decide) (br_f (by decide) (br_t rfl ?_))))))))))
          unfold wpX_receive
          dsimp only
          refine mx_ft_none hp hn0 em hnone (nm_r (mp_x4 p) (br_t rfl (br_f ne4 ?_)))
          rw [nI_add, nI_1, cl, c41]
          exact ⟨Il, br_t hw ⟨I41, nm_e hq⟩⟩
        · refine nm_r (mp_x4 p) (br_f (by decide) (br_f (by decide) (br_f (by decide) (br_t rfl ?_))))
          exact hq
        · unfold wY_receive_39
          rw [c, em, mp_4a, cl]
          refine ⟨I, br_t (nI_le (Nat.le_refl n0) (by omega)) (br_f ge4 ⟨Il, br_f ge4 (br_f hw1 ?_)⟩)⟩
          rw [mp_4x, nI_1, c41]
          exact ⟨I41, nm_e hq⟩
      · have hw1 : (1 : Int32) ≤ rg (4 * p + l) := by
          rw [Int32.le_iff_toInt_le, i1]
          rw [Int32.le_iff_toInt_le, i0] at hw
          omega
        have hw1' : 1 ≤ (rg (4 * p + l)).toInt := by
          rw [Int32.le_iff_toInt_le, i1] at hw1
          exact hw1
        by_cases hk1 : (1000 : Int32) ≤ rg (4 * p + l)
        · have es := mp_addt (y := 1000) t0 t1 hT1 (by rw [ik]; omega) (by rw [ik]; omega)
          have he : (rg (4 * p + l) ≤ 1000 ∧ tm + 1000 = tm + rg (4 * p + l)) ∨ (¬ rg (4 * p + l) ≤ 1000 ∧ tm + 1000 = tm + 1000) := by
            by_cases z : rg (4 * p + l) ≤ 1000
            · have ez : rg (4 * p + l) = 1000 := Int32.toInt_inj.mp (by
                rw [Int32.le_iff_toInt_le, ik] at z hk1
                rw [ik]
                omega)
              exact Or.inl ⟨z, by rw [ez]⟩
            · exact Or.inr ⟨z, rfl⟩
          refine mp_op_a (u' := (dl, nt, 0, tc, tm, xn, md, lo, en, dO, dA, dB, xo, xa, xb, xl, upd st p 2, xr, rg, xv, upd pl p (nI pn), tr, xk, xm, upd wt p a, upd xw p (tm + 1000), xt, xi, mc, tk, xe, xz, ti)) (v' := (dl, qn, 0, tm, tc, yn, md, lo, en, yo, ya, yb, yl, cu, ag, dO, dA, dB, upd st p 2, rg, upd pl p (nI pn), yv, yr, tr, yt, yi, mc, yk, ym, upd wt p a, upd li p 1, upd ye p (tm + 1000), qu, yd, ys, yz, ti)) (fun post hq => ?_) (fun post hq => ?_) (fun post hq => mx_fin0 hq) (fun post hq => hY0 post ?_) rfl (mp_RR_2 (by rw [pk_us]; decide) (mp_wait_R hh hp h1 hpn (Or.inr ⟨by decide, rfl, by rw [es, ik]; omega, by rw [es, ik]; omega⟩) hC1))
          · refine nm_r (mp_x4 p) (br_f (by decide) (br_f (by decide) (br_f (by decide) (br_f (by decide) (br_f (by decide) (br_f (by decide) (br_f (by decide) (br_f (by decide) (br_f (by decide) (br_t rfl ?_))))))))))
            unfold wpX_receive
            dsimp only
            refine mx_ft_none hp hn0 em hnone (nm_r (mp_x4 p) (br_t rfl (br_f ne4 ?_)))
            rw [nI_add, cl]
            refine ⟨Il, br_f hw ⟨Il, br_t hk1 ?_⟩⟩
            unfold wX_receive_126
            exact mx_wait hp hpl hq
          · refine nm_r (mp_x4 p) (br_f (by decide) (br_f (by decide) (br_f (by decide) (br_t rfl ?_))))
            exact hq
          · unfold wY_receive_39
            rw [c, em, mp_4a, cl]
            exact ⟨I, br_t (nI_le (Nat.le_refl n0) (by omega)) (br_f ge4 ⟨Il, br_f ge4 (br_t hw1 (my_210 hp (by omega) hpl (Or.inr ⟨hl4, rfl⟩) he hq))⟩)⟩
        · have hk2 : (rg (4 * p + l)).toInt < 1000 := by
            rw [Int32.le_iff_toInt_le, ik] at hk1
            omega
          have es := mp_addt (y := rg (4 * p + l)) t0 t1 hT1 (by omega) (by omega)
          have hle : rg (4 * p + l) ≤ 1000 := by
            rw [Int32.le_iff_toInt_le, ik]
            omega
          refine mp_op_a (u' := (dl, nt, 0, tc, tm, xn, md, lo, en, dO, dA, dB, xo, xa, xb, xl, upd st p 2, xr, rg, xv, upd pl p (nI pn), tr, xk, xm, upd wt p a, upd xw p (tm + rg (4 * p + l)), xt, xi, mc, tk, xe, xz, ti)) (v' := (dl, qn, 0, tm, tc, yn, md, lo, en, yo, ya, yb, yl, cu, ag, dO, dA, dB, upd st p 2, rg, upd pl p (nI pn), yv, yr, tr, yt, yi, mc, yk, ym, upd wt p a, upd li p 1, upd ye p (tm + rg (4 * p + l)), qu, yd, ys, yz, ti)) (fun post hq => ?_) (fun post hq => ?_) (fun post hq => mx_fin0 hq) (fun post hq => hY0 post ?_) rfl (mp_RR_2 (by rw [pk_us]; decide) (mp_wait_R hh hp h1 hpn (Or.inr ⟨by decide, rfl, by rw [es]; omega, by rw [es]; omega⟩) hC1))
          · refine nm_r (mp_x4 p) (br_f (by decide) (br_f (by decide) (br_f (by decide) (br_f (by decide) (br_f (by decide) (br_f (by decide) (br_f (by decide) (br_f (by decide) (br_f (by decide) (br_t rfl ?_))))))))))
            unfold wpX_receive
            dsimp only
            refine mx_ft_none hp hn0 em hnone (nm_r (mp_x4 p) (br_t rfl (br_f ne4 ?_)))
            rw [nI_add, cl]
            refine ⟨Il, br_f hw ⟨Il, br_f hk1 ⟨Il, ?_⟩⟩⟩
            unfold wX_receive_126
            exact mx_wait hp hpl hq
          · refine nm_r (mp_x4 p) (br_f (by decide) (br_f (by decide) (br_f (by decide) (br_t rfl ?_))))
            exact hq
          · unfold wY_receive_39
            rw [c, em, mp_4a, cl]
            exact ⟨I, br_t (nI_le (Nat.le_refl n0) (by omega)) (br_f ge4 ⟨Il, br_f ge4 (br_t hw1 (my_210 hp (by omega) hpl (Or.inr ⟨hl4, rfl⟩) (Or.inl ⟨hle, rfl⟩) hq))⟩)⟩
  · obtain ⟨n1, rfl⟩ : ∃ n1, n0 = n1 + 1 := ⟨n0 - 1, by omega⟩
    obtain ⟨et, ei⟩ := hk k hk0
    have ck := nI_clamp (n := 12 * p + k) (by omega)
    have Ik := vp_in_nI (n := 12 * p + k) (N := 96) (by omega) (by omega)
    obtain ⟨xt', xi', a1, a2, hXd⟩ := mx_drop_l (dl := dl) (nt := nt) (xc := 0) (tc := tc) (tm := tm) (xn := xn) (md := md) (lo := lo) (en := en) (dO := dO) (dA := dA) (dB := dB) (xo := xo) (xa := xa) (xb := xb) (xl := xl) (st := st) (xr := xr) (rg := upd (upd rg (4 * p) (yi (12 * p + k))) (4 * p + 1) (yt (12 * p + k))) (xv := xv) (pl := pl) (tr := tr) (xk := xk) (xm := xm) (wt := wt) (xw := xw) (mc := upd mc p (nI n1)) (tk := tk) (xe := xe) (xz := xz) (ti := ti) hp (k := k) (by omega) 11 0 rfl xt xi
    obtain ⟨yt', yi', b1, b2, hYd⟩ := my_drop_l (dl := dl) (qn := qn) (yc := 0) (tm := tm) (tc := tc) (yn := yn) (md := md) (lo := lo) (en := en) (yo := yo) (ya := ya) (yb := yb) (yl := yl) (cu := cu) (ag := ag) (dO := dO) (dA := dA) (dB := dB) (st := st) (rg := upd (upd rg (4 * p) (yi (12 * p + k))) (4 * p + 1) (yt (12 * p + k))) (pl := pl) (yv := yv) (yr := yr) (tr := tr) (mc := upd mc p (nI n1)) (yk := yk) (ym := ym) (wt := wt) (li := li) (ye := ye) (qu := qu) (yd := yd) (ys := ys) (yz := yz) (ti := ti) hp (n1 := n1) (by omega) pk_us (n1 - k) k (by omega) yt yi
    have hM' := mp_M_drop (xt' := xt') (xi' := xi') (yt' := yt') (yi' := yi') hM hp (Or.inl h1) hk0 hn0 em (fun j hj => (a1 j (by omega) hj).1) (fun j hj => (a1 j (by omega) hj).2) (fun j hj => a2 j (by omega)) (fun j hj => by
      by_cases z : j < k
      · rw [if_pos z]; exact (b2 _ (by omega)).1
      · rw [if_neg z]; exact (b1 j (by omega) (by omega)).1) (fun j hj => by
      by_cases z : j < k
      · rw [if_pos z]; exact (b2 _ (by omega)).2
      · rw [if_neg z]; exact (b1 j (by omega) (by omega)).2) (fun j hj => b2 j (by omega))
    refine mp_op_a (u' := (dl, nt, 0, tc, tm, xn, md, lo, en, dO, dA, dB, xo, xa, xb, xl, st, xr, upd (upd rg (4 * p) (yi (12 * p + k))) (4 * p + 1) (yt (12 * p + k)), xv, pl, tr, xk, xm, wt, xw, xt', xi', upd mc p (nI n1), tk, xe, xz, ti)) (v' := (dl, qn, 0, tm, tc, yn, md, lo, en, yo, ya, yb, yl, cu, ag, dO, dA, dB, st, upd (upd rg (4 * p) (yi (12 * p + k))) (4 * p + 1) (yt (12 * p + k)), pl, yv, yr, tr, yt', yi', upd mc p (nI n1), yk, ym, wt, li, ye, qu, yd, ys, yz, ti)) (fun post hq => ?_) (fun post hq => ?_) (fun post hq => mx_fin0 hq) (fun post hq => Or.inr (Or.inl ⟨by decide, by decide, rfl, ?_⟩)) rfl (mp_RR_1 h1 (mp_M_R hup hM'))
    · refine nm_r (mp_x4 p) (br_f (by decide) (br_f (by decide) (br_f (by decide) (br_f (by decide) (br_f (by decide) (br_f (by decide) (br_f (by decide) (br_f (by decide) (br_f (by decide) (br_t rfl ?_))))))))))
      unfold wpX_receive
      dsimp only
      refine mx_ft_some hp hn0 em hk0 hB hlow (nm_r (mp_x4 p) (br_f (mp_neg1 (by omega)) ?_))
      rw [mp_x12, nI_add, nI_1, ck, c4, c41, et, ei]
      refine ⟨Ik, I4, nm_e ⟨Ik, I41, nm_e ?_⟩⟩
      unfold wpX_dropMessage
      dsimp only
      rw [c, em, nI_pred]
      exact ⟨I, I, nm_e ⟨12, hXd _ 12 (by omega) hq⟩⟩
    · refine nm_r (mp_x4 p) (br_f (by decide) (br_f (by decide) (br_f (by decide) (br_t rfl ?_))))
      exact hq
    · unfold wpY_receive
      refine ⟨13, my_ft_l hp (e := k) (by omega) hn0 em (fun j hj z => hlow j hj ((hBeq j (by omega)).mpr z)) post (fun m => And.intro I ?_) k 0 (by omega) 13 (by omega)⟩
      rw [c, em, mp_12x, nI_add, ck]
      refine br_f (nI_ge hk0 (by omega)) ⟨Ik, br_f (fun z => ?_) ?_⟩
      · have w : ((a >>> (yt (12 * p + k) &&& 31)) &&& 1) = 1 := (hBeq k hk0).mp hB
        rw [w] at z
        exact absurd z (by decide)
      · unfold wY_receive_39
        rw [c, em, mp_12x, nI_add, ck, mp_4x, nI_1, c4, c41, nI_pred]
        exact ⟨I, br_f (nI_ge hk0 (by omega)) ⟨Ik, I4, nm_e ⟨Ik, I41, nm_e ⟨I, I, nm_e (nm_e ⟨n1 - k + 1, hYd _ _ (by omega) hq⟩)⟩⟩⟩⟩
end
