section
variable {dl xc tc tm xn md lo en qn yc yn : Int32} {nt : Int64} {dO dA dB xo xa xb xl st xr rg xv pl tr xk xm wt xw xt xi mc xe xz ti yo ya yb yl cu ag yv yr yt yi yk ym li ye qu yd ys yz : Nat → Int32} {tk : Nat → Int64} {run i p : Nat} {T C : Int} {G : Nat → Int32 → Prop}
theorem i_vc_state {k : Nat} {u : SX} {v : SY} (I : i_Rel k u v) (hk : k + 4 ≤ 2048) (v1 : Int32) : wpX_state (fun r => wpY_state (fun r' => r' = r ∧ i_Rel (k + 4) u v) v v1) u v1 := by
  have J := i_up I
  obtain ⟨dl, nt, tc, md, lo, en, dO, dA, dB, xo, xa, xb, xl, st, xr, rg, xv, pl, tr, xk, xm, wt, xw, xt, xi, mc, tk, xe, xz, ti, qn, yo, ya, yb, yl, cu, ag, yv, yr, yt, yi, yk, ym, li, ye, qu, yd, ys, yz, tm, xn, rfl, rfl, hR⟩ := I
  rcases mp_bel v1 (n := 8) (by omega) with ⟨j, hj, rfl⟩ | ⟨ho, _⟩
  · have c := nI_clamp (n := j) (by omega)
    have Ij := vp_in_nI (n := j) (N := 8) hj (by omega)
    unfold wpX_state
    dsimp only
    refine mx_bel_t (n := 8) hj (by omega) (br_f (by decide) ⟨Ij, ?_⟩)
    unfold wpY_state
    dsimp only
    exact my_bel_t (n := 8) hj (by omega) (br_f (by decide) ⟨Ij, rfl, J⟩)
  · unfold wpX_state
    dsimp only
    refine mx_bel_f (n := 8) ho (br_t rfl ?_)
    unfold wpY_state
    dsimp only
    exact my_bel_f (n := 8) ho (br_t rfl ⟨rfl, J⟩)
theorem i_vc_register {k : Nat} {u : SX} {v : SY} (I : i_Rel k u v) (hk : k + 4 ≤ 2048) (v1 : Int32) (v2 : Int32) : wpX_register (fun r => wpY_register (fun r' => r' = r ∧ i_Rel (k + 4) u v) v v1 v2) u v1 v2 := by
  have J := i_up I
  obtain ⟨dl, nt, tc, md, lo, en, dO, dA, dB, xo, xa, xb, xl, st, xr, rg, xv, pl, tr, xk, xm, wt, xw, xt, xi, mc, tk, xe, xz, ti, qn, yo, ya, yb, yl, cu, ag, yv, yr, yt, yi, yk, ym, li, ye, qu, yd, ys, yz, tm, xn, rfl, rfl, hR⟩ := I
  have H : ∃ r : Int32, (∀ post : Int32 → Prop, post r → wpX_register post (dl, nt, 0, tc, tm, xn, md, lo, en, dO, dA, dB, xo, xa, xb, xl, st, xr, rg, xv, pl, tr, xk, xm, wt, xw, xt, xi, mc, tk, xe, xz, ti) v1 v2) ∧ (∀ post : Int32 → Prop, post r → wpY_register post (dl, qn, 0, tm, tc, xn, md, lo, en, yo, ya, yb, yl, cu, ag, dO, dA, dB, st, rg, pl, yv, yr, tr, yt, yi, mc, yk, ym, wt, li, ye, qu, yd, ys, yz, ti) v1 v2) := by
    rcases mp_bel v1 (n := 8) (by omega) with ⟨j, hj, rfl⟩ | ⟨ho, _⟩
    · rcases mp_bel v2 (n := 4) (by omega) with ⟨l, hl, rfl⟩ | ⟨ho, _⟩
      · have c := nI_clamp (n := j) (by omega)
        have Ij := vp_in_nI (n := j) (N := 8) hj (by omega)
        have c2 := nI_clamp (n := 4 * j + l) (by omega)
        have I2 := vp_in_nI (n := 4 * j + l) (N := 32) (by omega) (by omega)
        by_cases h0 : st j = 0
        · refine ⟨0, fun post h => ?_, fun post h => ?_⟩
          · unfold wpX_register
            dsimp only
            refine mx_bel_t (n := 8) hj (by omega) (br_f (by decide) (mx_bel_t (n := 4) hl (by omega) (br_f (by decide) ⟨Ij, ?_⟩)))
            rw [c]
            exact br_t h0 h
          · unfold wpY_register
            dsimp only
            refine my_bel_t (n := 8) hj (by omega) (br_f (by decide) (my_bel_t (n := 4) hl (by omega) (br_f (by decide) ⟨Ij, ?_⟩)))
            rw [c]
            exact br_t h0 h
        · refine ⟨rg (4 * j + l), fun post h => ?_, fun post h => ?_⟩
          · unfold wpX_register
            dsimp only
            refine mx_bel_t (n := 8) hj (by omega) (br_f (by decide) (mx_bel_t (n := 4) hl (by omega) (br_f (by decide) ⟨Ij, ?_⟩)))
            rw [c, mp_x4, nI_add, c2]
            exact br_f h0 ⟨I2, h⟩
          · unfold wpY_register
            dsimp only
            refine my_bel_t (n := 8) hj (by omega) (br_f (by decide) (my_bel_t (n := 4) hl (by omega) (br_f (by decide) ⟨Ij, ?_⟩)))
            rw [c, mp_4x, nI_add, c2]
            exact br_f h0 ⟨I2, h⟩
      · refine ⟨0, fun post h => ?_, fun post h => ?_⟩
        · unfold wpX_register
          dsimp only
          exact mx_bel_t (n := 8) hj (by omega) (br_f (by decide) (mx_bel_f (n := 4) ho (br_t rfl h)))
        · unfold wpY_register
          dsimp only
          exact my_bel_t (n := 8) hj (by omega) (br_f (by decide) (my_bel_f (n := 4) ho (br_t rfl h)))
    · refine ⟨0, fun post h => ?_, fun post h => ?_⟩
      · unfold wpX_register
        dsimp only
        exact mx_bel_f (n := 8) ho (br_t rfl h)
      · unfold wpY_register
        dsimp only
        exact my_bel_f (n := 8) ho (br_t rfl h)
  obtain ⟨r, hX, hY⟩ := H
  exact hX _ (hY _ ⟨rfl, J⟩)
theorem i_vc_message {k : Nat} {u : SX} {v : SY} (I : i_Rel k u v) (hk : k + 4 ≤ 2048) (v1 : Int32) (v2 : Int32) (v3 : Int32) : wpX_message (fun r => wpY_message (fun r' => r' = r ∧ i_Rel (k + 4) u v) v v1 v2 v3) u v1 v2 v3 := by
  have J := i_up I
  obtain ⟨dl, nt, tc, md, lo, en, dO, dA, dB, xo, xa, xb, xl, st, xr, rg, xv, pl, tr, xk, xm, wt, xw, xt, xi, mc, tk, xe, xz, ti, qn, yo, ya, yb, yl, cu, ag, yv, yr, yt, yi, yk, ym, li, ye, qu, yd, ys, yz, tm, xn, rfl, rfl, hR⟩ := I
  have H : ∃ r : Int64, (∀ post : Int64 → Prop, post r → wpX_message post (dl, nt, 0, tc, tm, xn, md, lo, en, dO, dA, dB, xo, xa, xb, xl, st, xr, rg, xv, pl, tr, xk, xm, wt, xw, xt, xi, mc, tk, xe, xz, ti) v1 v2 v3) ∧ (∀ post : Int64 → Prop, post r → wpY_message post (dl, qn, 0, tm, tc, xn, md, lo, en, yo, ya, yb, yl, cu, ag, dO, dA, dB, st, rg, pl, yv, yr, tr, yt, yi, mc, yk, ym, wt, li, ye, qu, yd, ys, yz, ti) v1 v2 v3) := by
    rcases mp_alx hR.2.2.2.2.1 v1 with ⟨p, hp, rfl, ha⟩ | ⟨hd, _⟩
    · obtain ⟨n, hn, em, _, hkk⟩ := hR.2.2.2.2.2.1 p hp
      have c := nI_clamp (n := p) (by omega)
      have Ip := vp_in_nI (n := p) (N := 8) hp (by omega)
      rcases mp_bel v2 (n := n) (by omega) with ⟨l, hl, rfl⟩ | ⟨ho, _⟩
      · have c2 := nI_clamp (n := 12 * p + l) (by omega)
        have I2 := vp_in_nI (n := 12 * p + l) (N := 96) (by omega) (by omega)
        obtain ⟨et, ei⟩ := hkk l hl
        have hX : ∀ post : Int64 → Prop, (((v3 = 0 → (vp_in (nI (12 * p + l)) 96 ∧ (post ((yt (12 * p + l)).toInt64)))) ∧ (¬ v3 = 0 → (((v3 = 1 → (vp_in (nI (12 * p + l)) 96 ∧ (post ((yi (12 * p + l)).toInt64)))) ∧ (¬ v3 = 1 → (post 10000000000))))))) → wpX_message post (dl, nt, 0, tc, tm, xn, md, lo, en, dO, dA, dB, xo, xa, xb, xl, st, xr, rg, xv, pl, tr, xk, xm, wt, xw, xt, xi, mc, tk, xe, xz, ti) (nI p) (nI l) v3 := fun post h => by
          unfold wpX_message
          dsimp only
          refine mx_al_t hp ha (br_f (by decide) ⟨Ip, ?_⟩)
          rw [c, em]
          refine mx_bel_t hl (by omega) (br_f (by decide) (nm_r (e' := nI (12 * p + l)) (by rw [mp_x12, nI_add]) ?_))
          rw [c2, et, ei]
          exact h
        have hY : ∀ (post : Int64 → Prop) (r : Int32), (wpY_among (fun r_80 => (((r_80 = 0 → (post 10000000000)) ∧ (¬ r_80 = 0 → (((v3 = 0 → (vp_in (nI (12 * p + l)) 96 ∧ (post ((yt (12 * p + l)).toInt64)))) ∧ (¬ v3 = 0 → (vp_in (nI (12 * p + l)) 96 ∧ (post ((yi (12 * p + l)).toInt64)))))))))) (dl, qn, 0, tm, tc, xn, md, lo, en, yo, ya, yb, yl, cu, ag, dO, dA, dB, st, rg, pl, yv, yr, tr, yt, yi, mc, yk, ym, wt, li, ye, qu, yd, ys, yz, ti) v3 2) → wpY_message post (dl, qn, 0, tm, tc, xn, md, lo, en, yo, ya, yb, yl, cu, ag, dO, dA, dB, st, rg, pl, yv, yr, tr, yt, yi, mc, yk, ym, wt, li, ye, qu, yd, ys, yz, ti) (nI p) (nI l) v3 := fun post r h => by
          unfold wpY_message
          dsimp only
          refine my_al_t hp ha (br_f (by decide) ⟨Ip, ?_⟩)
          rw [c, em]
          refine my_bel_t hl (by omega) (br_f (by decide) ?_)
          rw [mp_12x, nI_add, c2]
          exact h
        by_cases h0 : v3 = 0
        · subst h0
          exact ⟨_, fun post h => hX post (br_t rfl ⟨I2, h⟩), fun post h => hY post 0 (my_bel_t (j := 0) (n := 2) (by omega) (by omega) (br_f (by decide) (br_t rfl ⟨I2, h⟩)))⟩
        · by_cases h1 : v3 = 1
          · subst h1
            exact ⟨_, fun post h => hX post (br_f h0 (br_t rfl ⟨I2, h⟩)), fun post h => hY post 0 (my_bel_t (j := 1) (n := 2) (by omega) (by omega) (br_f (by decide) (br_f h0 ⟨I2, h⟩)))⟩
          · refine ⟨10000000000, fun post h => hX post (br_f h0 (br_f h1 h)), fun post h => hY post 0 ?_⟩
            rcases mp_bel v3 (n := 2) (by omega) with ⟨l3, hl3, e3⟩ | ⟨ho, _⟩
            · have : l3 = 0 ∨ l3 = 1 := by omega
              rcases this with rfl | rfl
              · exact absurd e3 h0
              · exact absurd e3 h1
            · exact my_bel_f (n := 2) ho (br_t rfl h)
      · refine ⟨10000000000, fun post h => ?_, fun post h => ?_⟩
        · unfold wpX_message
          dsimp only
          refine mx_al_t hp ha (br_f (by decide) ⟨Ip, ?_⟩)
          rw [c, em]
          exact mx_bel_f ho (br_t rfl h)
        · unfold wpY_message
          dsimp only
          refine my_al_t hp ha (br_f (by decide) ⟨Ip, ?_⟩)
          rw [c, em]
          exact my_bel_f ho (br_t rfl h)
    · refine ⟨10000000000, fun post h => ?_, fun post h => ?_⟩
      · unfold wpX_message
        dsimp only
        exact mx_al_f hd (br_t rfl h)
      · unfold wpY_message
        dsimp only
        exact my_al_f hd (br_t rfl h)
  obtain ⟨r, hX, hY⟩ := H
  exact hX _ (hY _ ⟨rfl, J⟩)
theorem i_vc_ready {k : Nat} {u : SX} {v : SY} (I : i_Rel k u v) (hk : k + 4 ≤ 2048) (v1 : Int32) : wpX_ready (fun r => wpY_ready (fun r' => r' = r ∧ i_Rel (k + 4) u v) v v1) u v1 := by
  have J := i_up I
  obtain ⟨dl, nt, tc, md, lo, en, dO, dA, dB, xo, xa, xb, xl, st, xr, rg, xv, pl, tr, xk, xm, wt, xw, xt, xi, mc, tk, xe, xz, ti, qn, yo, ya, yb, yl, cu, ag, yv, yr, yt, yi, yk, ym, li, ye, qu, yd, ys, yz, tm, xn, rfl, rfl, hR⟩ := I
  obtain ⟨r, n, en', hn8, hX, hc⟩ := mx_ready (dl := dl) (nt := nt) (xc := 0) (tc := tc) (tm := tm) (xn := xn) (md := md) (lo := lo) (en := en) (dO := dO) (dA := dA) (dB := dB) (xo := xo) (xa := xa) (xb := xb) (xl := xl) (st := st) (xr := xr) (rg := rg) (xv := xv) (pl := pl) (tr := tr) (xk := xk) (xm := xm) (wt := wt) (xw := xw) (xt := xt) (xi := xi) (mc := mc) (tk := tk) (xe := xe) (xz := xz) (ti := ti) (qu := qu) (qn := qn) hR.2.2.2.2.2.2.2.2.2.2.1 v1
  refine hX _ ?_
  subst en'
  unfold wpY_ready
  dsimp only
  rcases hc with ⟨j, p, hj, ex, hp, eq, er, h1⟩ | ⟨hno, er⟩
  · subst ex
    have c := nI_clamp (n := j) (by omega)
    refine my_bel_t hj (by omega) (br_f (by decide) ⟨vp_in_nI (by omega) (by omega), ?_⟩)
    rw [c]
    exact ⟨by rw [eq, er], J⟩
  · rcases mp_bel v1 (n := n) (by omega) with ⟨j, hj, e⟩ | ⟨ho, _⟩
    · exact absurd e (hno j hj)
    · exact my_bel_f ho (br_t rfl ⟨er.symm, J⟩)
theorem mp_toix {t j : Nat} (h : t ≤ j) (hj : j < 16) : ((nI t - 1) - nI j) &&& 15 = nI (15 + t - j) := by
  rw [pk_and _ 4 mp_15]
  apply congrArg nI
  have e : ((nI t - 1) - nI j).toBitVec.toNat = (2 ^ 32 - j + ((2 ^ 32 - 1 + t) % 2 ^ 32)) % 2 ^ 32 := by
    rw [Int32.toBitVec_sub, BitVec.toNat_sub, Int32.toBitVec_sub, BitVec.toNat_sub, pk_tn (by omega), pk_tn (by omega)]
    rfl
  rw [e]
  omega
theorem i_vc_told {k : Nat} {u : SX} {v : SY} (I : i_Rel k u v) (hk : k + 4 ≤ 2048) (v1 : Int32) : wpX_told (fun r => wpY_told (fun r' => r' = r ∧ i_Rel (k + 4) u v) v v1) u v1 := by
  have J := i_up I
  obtain ⟨dl, nt, tc, md, lo, en, dO, dA, dB, xo, xa, xb, xl, st, xr, rg, xv, pl, tr, xk, xm, wt, xw, xt, xi, mc, tk, xe, xz, ti, qn, yo, ya, yb, yl, cu, ag, yv, yr, yt, yi, yk, ym, li, ye, qu, yd, ys, yz, tm, xn, rfl, rfl, hR⟩ := I
  rcases mp_bel v1 (n := 16) (by omega) with ⟨j, hj, rfl⟩ | ⟨ho, _⟩
  · obtain ⟨a, b, cc, d, e⟩ := hR.2.2.2.2.2.2.2.2.2.1
    obtain ⟨t, ht, rfl, et⟩ := mp_nn cc
    have I15 : vp_in (((nI t - 1) - nI j) &&& 15) 16 := pk_andIn _ 4 mp_15 (by omega)
    unfold wpX_told
    dsimp only
    refine mx_bel_t (n := 16) hj (by omega) (br_f (by decide) ?_)
    unfold wpX_toldPlace
    refine ⟨I15, ?_⟩
    unfold wpY_told
    dsimp only
    refine my_bel_t (n := 16) hj (by omega) (br_f (by decide) ?_)
    by_cases w : t ≤ j
    · refine br_t (nI_le w (by omega)) ⟨?_, J⟩
      rw [mp_toix w hj, nI_clamp (by omega)]
      exact (e (15 + t - j) (by omega) (by omega)).symm
    · exact br_f (nI_ge (by omega) ht) ⟨I15, rfl, J⟩
  · unfold wpX_told
    dsimp only
    refine mx_bel_f (n := 16) ho (br_t rfl ?_)
    unfold wpY_told
    dsimp only
    exact my_bel_f (n := 16) ho (br_t rfl ⟨rfl, J⟩)
theorem i_vc_count {k : Nat} {u : SX} {v : SY} (I : i_Rel k u v) (hk : k + 4 ≤ 2048) (v1 : Int32) : wpX_count (fun r => wpY_count (fun r' => r' = r ∧ i_Rel (k + 4) u v) v v1) u v1 := by
  have J := i_up I
  obtain ⟨dl, nt, tc, md, lo, en, dO, dA, dB, xo, xa, xb, xl, st, xr, rg, xv, pl, tr, xk, xm, wt, xw, xt, xi, mc, tk, xe, xz, ti, qn, yo, ya, yb, yl, cu, ag, yv, yr, yt, yi, yk, ym, li, ye, qu, yd, ys, yz, tm, xn, rfl, rfl, hR⟩ := I
  rcases pk_ix v1 (n := 6) (by omega) with h | h | ⟨j, hj, rfl⟩
  · exact br_t h (br_t h ⟨rfl, J⟩)
  · have h0 : ¬ v1 < 0 := fun z => by
      rw [Int32.lt_iff_toInt_lt, show (0 : Int32).toInt = 0 from by decide] at z
      rw [Int32.le_iff_toInt_le, nI_toInt (by omega)] at h
      omega
    have h5 : (5 : Int32) < v1 := by
      rw [Int32.le_iff_toInt_le, nI_toInt (by omega)] at h
      rw [Int32.lt_iff_toInt_lt, show (5 : Int32).toInt = 5 from by decide]
      omega
    exact br_f h0 (br_t h5 (br_f h0 (br_t h5 ⟨rfl, J⟩)))
  · have h : j = 0 ∨ j = 1 ∨ j = 2 ∨ j = 3 ∨ j = 4 ∨ j = 5 := by omega
    rcases h with rfl | rfl | rfl | rfl | rfl | rfl
    · exact br_f (by decide) (br_f (by decide) (br_t rfl (br_f (by decide) (br_f (by decide) (br_t rfl ⟨rfl, J⟩)))))
    · exact br_f (by decide) (br_f (by decide) (br_f (by decide) (br_t rfl (br_f (by decide) (br_f (by decide) (br_f (by decide) (br_t rfl ⟨rfl, J⟩)))))))
    · exact br_f (by decide) (br_f (by decide) (br_f (by decide) (br_f (by decide) (br_t rfl (br_f (by decide) (br_f (by decide) (br_f (by decide) (br_f (by decide) (br_t rfl ⟨rfl, J⟩)))))))))
    · exact br_f (by decide) (br_f (by decide) (br_f (by decide) (br_f (by decide) (br_f (by decide) (br_t rfl (br_f (by decide) (br_f (by decide) (br_f (by decide) (br_f (by decide) (br_f (by decide) (br_t rfl ⟨rfl, J⟩)))))))))))
    · exact br_f (by decide) (br_f (by decide) (br_f (by decide) (br_f (by decide) (br_f (by decide) (br_f (by decide) (br_t rfl (br_f (by decide) (br_f (by decide) (br_f (by decide) (br_f (by decide) (br_f (by decide) (br_f (by decide) (br_t rfl ⟨rfl, J⟩)))))))))))))
    · exact br_f (by decide) (br_f (by decide) (br_f (by decide) (br_f (by decide) (br_f (by decide) (br_f (by decide) (br_f (by decide) (br_t rfl (br_f (by decide) (br_f (by decide) (br_f (by decide) (br_f (by decide) (br_f (by decide) (br_f (by decide) (br_f (by decide) (br_t rfl ⟨rfl, J⟩)))))))))))))))
end
