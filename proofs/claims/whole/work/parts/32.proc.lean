section
variable {dl xc tc tm xn md lo en qn yc yn : Int32} {nt : Int64} {dO dA dB xo xa xb xl st xr rg xv pl tr xk xm wt xw xt xi mc xe xz ti yo ya yb yl cu ag yv yr yt yi yk ym li ye qu yd ys yz : Nat → Int32} {tk : Nat → Int64} {run i p : Nat} {T C : Int} {G : Nat → Int32 → Prop}
theorem mp_proc (hR : (mp_D dl dO dA dB ∧ mp_C xo xa xb xl yo ya yb yl cu ∧ mp_V st xv yv xl cu ∧ mp_P st pl ∧ mp_S st ∧ mp_M st mc xt xi yt yi ∧ mp_K st xk yk ∧ mp_K st xm ym ∧ mp_W st xw li ye tm ∧ mp_T tm tc ti T ∧ mp_Q st tk nt 8 qu qn ∧ mp_E st xr yr ∧ mp_Z 0 st xr xe xz 0 yd ys yz 0 ∧ mp_F st nt C ∧ mp_G (fun _ _ => True) st xv yz)) (v1 v2 : Int32) : ∃ r : Int32, (∀ post : Int32 → Prop, post r → wpX_process post (dl, nt, 0, tc, tm, xn, md, lo, en, dO, dA, dB, xo, xa, xb, xl, st, xr, rg, xv, pl, tr, xk, xm, wt, xw, xt, xi, mc, tk, xe, xz, ti) v1 v2) ∧ (∀ post : Int32 → Prop, post r → wpY_process post (dl, qn, 0, tm, tc, yn, md, lo, en, yo, ya, yb, yl, cu, ag, dO, dA, dB, st, rg, pl, yv, yr, tr, yt, yi, mc, yk, ym, wt, li, ye, qu, yd, ys, yz, ti) v1 v2) := by
  have hh := hR
  obtain ⟨hD, hC, hV, hP, hS, hM, hK, hm, hW, hT, hQ, hE, hZ, hF, hG⟩ := hh
  by_cases h8 : v2 = 8
  · subst h8
    rcases mp_alx hS v1 with ⟨p, hp, rfl, ha⟩ | ⟨hd, hd2⟩
    · have c := nI_clamp (n := p) (by omega)
      have Ip := vp_in_nI (n := p) (N := 8) hp (by omega)
      refine ⟨-1, fun post h => ?_, fun post h => ?_⟩
      · unfold wpX_process
        dsimp only
        exact mx_al_t hp ha (br_f (by decide) (br_f (by decide) (br_t (by decide) h)))
      · refine br_t rfl (my_bel_t (n := 8) hp (by omega) (br_f (by decide) ⟨Ip, ?_⟩))
        rw [c]
        exact br_f (mp_al_s ha).2 h
    · rcases mp_bel v1 (n := 8) (by omega) with ⟨j, hj, rfl⟩ | ⟨ho, _⟩
      · have c := nI_clamp (n := j) (by omega)
        have Ij := vp_in_nI (n := j) (N := 8) hj (by omega)
        by_cases h3 : st j = 3
        · have er := hE j hj h3
          refine ⟨yr j, fun post h => ?_, fun post h => ?_⟩
          · unfold wpX_process
            dsimp only
            refine mx_al_f hd (br_t rfl (br_t rfl (mx_bel_t (n := 8) hj (by omega) (br_f (by decide) ⟨Ij, ?_⟩))))
            rw [c, er]
            exact br_t h3 ⟨Ij, h⟩
          · refine br_t rfl (my_bel_t (n := 8) hj (by omega) (br_f (by decide) ⟨Ij, ?_⟩))
            rw [c]
            exact br_t h3 ⟨Ij, h⟩
        · refine ⟨-1, fun post h => ?_, fun post h => ?_⟩
          · unfold wpX_process
            dsimp only
            refine mx_al_f hd (br_t rfl (br_t rfl (mx_bel_t (n := 8) hj (by omega) (br_f (by decide) ⟨Ij, ?_⟩))))
            rw [c]
            exact br_f h3 h
          · refine br_t rfl (my_bel_t (n := 8) hj (by omega) (br_f (by decide) ⟨Ij, ?_⟩))
            rw [c]
            exact br_f h3 h
      · refine ⟨-1, fun post h => ?_, fun post h => ?_⟩
        · unfold wpX_process
          dsimp only
          exact mx_al_f hd (br_t rfl (br_t rfl (mx_bel_f (n := 8) ho (br_t rfl h))))
        · exact br_t rfl (my_bel_f (n := 8) ho (br_t rfl h))
  · rcases mp_alx hS v1 with ⟨p, hp, rfl, ha⟩ | ⟨hd, hd2⟩
    · have c := nI_clamp (n := p) (by omega)
      have Ip := vp_in_nI (n := p) (N := 8) hp (by omega)
      have n2 : ¬ (2 : Int32) = 0 := by decide
      obtain ⟨a, b, ha8, hb8, e1, e2, e3, _, e5⟩ := mp_old2 hV hp ha (m := 0) (by omega)
      obtain ⟨z, hz, hY80⟩ : ∃ z : Int32, ((z = 0 ∧ (¬ st p = 2 ∨ li p = 0)) ∨ (z = 1 ∧ st p = 2 ∧ ¬ li p = 0)) ∧ ∀ post : Int32 → Prop, wY_process_80 post (nI p) v2 (nI (b / 2)) z dl qn 0 tm tc yn md lo en yo ya yb yl cu ag dO dA dB st rg pl yv yr tr yt yi mc yk ym wt li ye qu yd ys yz ti → wpY_process post (dl, qn, 0, tm, tc, yn, md, lo, en, yo, ya, yb, yl, cu, ag, dO, dA, dB, st, rg, pl, yv, yr, tr, yt, yi, mc, yk, ym, wt, li, ye, qu, yd, ys, yz, ti) (nI p) v2 := by
        have pre : ∀ post : Int32 → Prop, ((st p = 2 → (vp_in (nI p) 8 ∧ ((li p = 0 → wY_process_79 post (nI p) v2 (nI (b / 2)) dl qn 0 tm tc yn md lo en yo ya yb yl cu ag dO dA dB st rg pl yv yr tr yt yi mc yk ym wt li ye qu yd ys yz ti) ∧ (¬ li p = 0 → wY_process_80 post (nI p) v2 (nI (b / 2)) 1 dl qn 0 tm tc yn md lo en yo ya yb yl cu ag dO dA dB st rg pl yv yr tr yt yi mc yk ym wt li ye qu yd ys yz ti)))) ∧ (¬ st p = 2 → wY_process_79 post (nI p) v2 (nI (b / 2)) dl qn 0 tm tc yn md lo en yo ya yb yl cu ag dO dA dB st rg pl yv yr tr yt yi mc yk ym wt li ye qu yd ys yz ti)) → wpY_process post (dl, qn, 0, tm, tc, yn, md, lo, en, yo, ya, yb, yl, cu, ag, dO, dA, dB, st, rg, pl, yv, yr, tr, yt, yi, mc, yk, ym, wt, li, ye, qu, yd, ys, yz, ti) (nI p) v2 := fun post w => by
          refine br_f h8 (my_al_t hp ha (br_f (by decide) ⟨Ip, n2, ?_⟩))
          rw [c, e2, mp_d2 (by omega)]
          exact nm_e ⟨Ip, w⟩
        by_cases s2 : st p = 2
        · by_cases l0 : li p = 0
          · exact ⟨0, Or.inl ⟨rfl, Or.inr l0⟩, fun post w => pre post (br_t s2 ⟨Ip, br_t l0 w⟩)⟩
          · exact ⟨1, Or.inr ⟨rfl, s2, l0⟩, fun post w => pre post (br_t s2 ⟨Ip, br_f l0 w⟩)⟩
        · exact ⟨0, Or.inl ⟨rfl, Or.inl s2⟩, fun post w => pre post (br_f s2 w)⟩
      rcases pk_ix v2 (n := 8) (by omega) with hlo | hhi | ⟨j, hj, ej⟩
      · refine ⟨-1, fun post h => ?_, fun post h => hY80 post (br_t hlo h)⟩
        unfold wpX_process
        dsimp only
        exact mx_al_t hp ha (br_f (by decide) (br_t hlo h))
      · have g0 : ¬ v2 < 0 := fun z => by
          rw [Int32.lt_iff_toInt_lt, show (0 : Int32).toInt = 0 from by decide] at z
          rw [Int32.le_iff_toInt_le, nI_toInt (by omega)] at hhi
          omega
        have g7 : (7 : Int32) < v2 := by
          rw [Int32.le_iff_toInt_le, nI_toInt (by omega)] at hhi
          rw [Int32.lt_iff_toInt_lt, show (7 : Int32).toInt = 7 from by decide]
          omega
        refine ⟨-1, fun post h => ?_, fun post h => hY80 post (br_f g0 (br_t g7 h))⟩
        unfold wpX_process
        dsimp only
        exact mx_al_t hp ha (br_f (by decide) (br_f g0 (br_t g7 h)))
      · have hc : j = 0 ∨ j = 1 ∨ j = 2 ∨ j = 3 ∨ j = 4 ∨ j = 5 ∨ j = 6 ∨ j = 7 := by omega
        subst ej
        rcases hc with rfl | rfl | rfl | rfl | rfl | rfl | rfl | rfl
        · refine ⟨pl p, fun post h => ?_, fun post h => hY80 post (br_f (by decide) (br_f (by decide) (br_t rfl ?_)))⟩
          · unfold wpX_process
            dsimp only
            refine mx_al_t hp ha (br_f (by decide) (br_f (by decide) (br_f (by decide) (br_t rfl ?_))))
            rw [c]
            exact ⟨Ip, h⟩
          · rw [c]
            exact ⟨Ip, h⟩
        · refine ⟨nI (b / 2), fun post h => ?_, fun post h => hY80 post (br_f (by decide) (br_f (by decide) (br_f (by decide) (br_t rfl ?_))))⟩
          · unfold wpX_process
            dsimp only
            refine mx_al_t hp ha (br_f (by decide) (br_f (by decide) (br_f (by decide) (br_f (by decide) (br_t rfl ?_)))))
            rw [c, e1, mp_d2 (by omega), ← e3]
            exact ⟨Ip, n2, h⟩
          · exact h
        · have ex : nI a - nI a / 2 * 2 = nI (a % 2) := pk_rem (d := 2) (by omega) (by omega) (by omega)
          refine ⟨nI (a % 2), fun post h => ?_, fun post h => hY80 post (br_f (by decide) (br_f (by decide) (br_f (by decide) (br_f (by decide) (br_t rfl ?_)))))⟩
          · unfold wpX_process
            dsimp only
            refine mx_al_t hp ha (br_f (by decide) (br_f (by decide) (br_f (by decide) (br_f (by decide) (br_f (by decide) (br_t rfl ?_))))))
            rw [c, e1, ex]
            exact ⟨Ip, n2, h⟩
          · refine my_old hS hV hp (by omega) (fun _ w => ?_) (fun w => ?_)
            · rw [e1, nI_eq (by omega) (by omega)] at w
              have e : a % 2 = 1 := by omega
              rw [e] at h
              exact br_f (by decide) h
            · have e : a % 2 = 0 := by
                rcases Nat.mod_two_eq_zero_or_one a with y | y
                · exact y
                · exact absurd ⟨ha, by rw [e1]; exact congrArg nI (by omega)⟩ w
              rw [e] at h
              exact br_t rfl h
        · refine ⟨mc p, fun post h => ?_, fun post h => hY80 post (br_f (by decide) (br_f (by decide) (br_f (by decide) (br_f (by decide) (br_f (by decide) (br_t rfl ?_))))))⟩
          · unfold wpX_process
            dsimp only
            refine mx_al_t hp ha (br_f (by decide) (br_f (by decide) (br_f (by decide) (br_f (by decide) (br_f (by decide) (br_f (by decide) (br_t rfl ?_)))))))
            rw [c]
            exact ⟨Ip, h⟩
          · rw [c]
            exact ⟨Ip, h⟩
        · refine ⟨xk p, fun post h => ?_, fun post h => hY80 post (br_f (by decide) (br_f (by decide) (br_f (by decide) (br_f (by decide) (br_f (by decide) (br_f (by decide) (br_t rfl ?_)))))))⟩
          · unfold wpX_process
            dsimp only
            refine mx_al_t hp ha (br_f (by decide) (br_f (by decide) (br_f (by decide) (br_f (by decide) (br_f (by decide) (br_f (by decide) (br_f (by decide) (br_t rfl ?_))))))))
            rw [c]
            exact ⟨Ip, h⟩
          · exact my_set hp 1 (Or.inr ⟨by decide, rfl⟩) hK h
        · refine ⟨xm p, fun post h => ?_, fun post h => hY80 post (br_f (by decide) (br_f (by decide) (br_f (by decide) (br_f (by decide) (br_f (by decide) (br_f (by decide) (br_f (by decide) (br_t rfl ?_))))))))⟩
          · unfold wpX_process
            dsimp only
            refine mx_al_t hp ha (br_f (by decide) (br_f (by decide) (br_f (by decide) (br_f (by decide) (br_f (by decide) (br_f (by decide) (br_f (by decide) (br_f (by decide) (br_t rfl ?_)))))))))
            rw [c]
            exact ⟨Ip, h⟩
          · exact my_set hp 0 (Or.inl ⟨rfl, rfl⟩) hm h
        · by_cases t0 : tr p = 0
          · refine ⟨0, fun post h => ?_, fun post h => hY80 post (br_f (by decide) (br_f (by decide) (br_f (by decide) (br_f (by decide) (br_f (by decide) (br_f (by decide) (br_f (by decide) (br_f (by decide) (br_t rfl ?_)))))))))⟩
            · unfold wpX_process
              dsimp only
              refine mx_al_t hp ha (br_f (by decide) (br_f (by decide) (br_f (by decide) (br_f (by decide) (br_f (by decide) (br_f (by decide) (br_f (by decide) (br_f (by decide) (br_f (by decide) (br_t rfl ?_))))))))))
              rw [c]
              exact ⟨Ip, br_t t0 h⟩
            · rw [c]
              exact ⟨Ip, br_t t0 h⟩
          · refine ⟨1, fun post h => ?_, fun post h => hY80 post (br_f (by decide) (br_f (by decide) (br_f (by decide) (br_f (by decide) (br_f (by decide) (br_f (by decide) (br_f (by decide) (br_f (by decide) (br_t rfl ?_)))))))))⟩
            · unfold wpX_process
              dsimp only
              refine mx_al_t hp ha (br_f (by decide) (br_f (by decide) (br_f (by decide) (br_f (by decide) (br_f (by decide) (br_f (by decide) (br_f (by decide) (br_f (by decide) (br_f (by decide) (br_t rfl ?_))))))))))
              rw [c]
              exact ⟨Ip, br_f t0 h⟩
            · rw [c]
              exact ⟨Ip, br_f t0 h⟩
        · have hXt : ∀ post : Int32 → Prop, wpX_timeLeft (fun r_56 => (post r_56)) (dl, nt, 0, tc, tm, xn, md, lo, en, dO, dA, dB, xo, xa, xb, xl, st, xr, rg, xv, pl, tr, xk, xm, wt, xw, xt, xi, mc, tk, xe, xz, ti) (nI p) → wpX_process post (dl, nt, 0, tc, tm, xn, md, lo, en, dO, dA, dB, xo, xa, xb, xl, st, xr, rg, xv, pl, tr, xk, xm, wt, xw, xt, xi, mc, tk, xe, xz, ti) (nI p) (nI 7) := fun post w => by
            unfold wpX_process
            dsimp only
            exact mx_al_t hp ha (br_f (by decide) (br_f (by decide) (br_f (by decide) (br_f (by decide) (br_f (by decide) (br_f (by decide) (br_f (by decide) (br_f (by decide) (br_f (by decide) (br_f (by decide) (br_t rfl w)))))))))))
          have hYt : ∀ post : Int32 → Prop, ((z = 0 → (post (-1))) ∧ (¬ z = 0 → (vp_in (nI p) 8 ∧ ((ye p ≤ tm → (post 0)) ∧ (¬ ye p ≤ tm → (vp_in (nI p) 8 ∧ (post (ye p - tm)))))))) → wpY_process post (dl, qn, 0, tm, tc, yn, md, lo, en, yo, ya, yb, yl, cu, ag, dO, dA, dB, st, rg, pl, yv, yr, tr, yt, yi, mc, yk, ym, wt, li, ye, qu, yd, ys, yz, ti) (nI p) (nI 7) := fun post w => by
            refine hY80 post (br_f (by decide) (br_f (by decide) (br_f (by decide) (br_f (by decide) (br_f (by decide) (br_f (by decide) (br_f (by decide) (br_f (by decide) (br_f (by decide) (br_t rfl ?_))))))))))
            rw [c]
            exact w
          rcases hz with ⟨rfl, hz⟩ | ⟨rfl, s2, l1⟩
          · refine ⟨-1, fun post h => hXt post ?_, fun post h => hYt post (br_t rfl h)⟩
            unfold wpX_timeLeft
            dsimp only
            rw [c]
            refine ⟨Ip, br_c (fun s2 => ⟨Ip, ?_⟩) (fun _ => h)⟩
            rcases hz with hz | hz
            · exact absurd s2 hz
            · rcases hW p hp s2 with ⟨_, w⟩ | ⟨w, _⟩
              · exact br_t w h
              · exact absurd hz w
          · obtain ⟨w1, w2⟩ : xw p = ye p ∧ ¬ xw p = -1 := by
              rcases hW p hp s2 with ⟨w, _⟩ | ⟨_, w, w', _⟩
              · exact absurd w l1
              · refine ⟨w, fun y => ?_⟩
                rw [← w, y, show (-1 : Int32).toInt = -1 from by decide] at w'
                omega
            by_cases hl : ye p ≤ tm
            · refine ⟨0, fun post h => hXt post ?_, fun post h => hYt post (br_f (by decide) ⟨Ip, br_t hl h⟩)⟩
              unfold wpX_timeLeft
              dsimp only
              rw [c]
              refine ⟨Ip, br_t s2 ⟨Ip, br_f w2 ⟨Ip, ?_⟩⟩⟩
              rw [w1]
              exact br_t hl h
            · refine ⟨ye p - tm, fun post h => hXt post ?_, fun post h => hYt post (br_f (by decide) ⟨Ip, br_f hl ⟨Ip, h⟩⟩)⟩
              unfold wpX_timeLeft
              dsimp only
              rw [c]
              refine ⟨Ip, br_t s2 ⟨Ip, br_f w2 ⟨Ip, ?_⟩⟩⟩
              rw [w1]
              exact br_f hl ⟨Ip, h⟩
    · refine ⟨-1, fun post h => ?_, fun post h => br_f h8 (my_al_f hd (br_t rfl h))⟩
      unfold wpX_process
      dsimp only
      exact mx_al_f hd (br_t rfl (br_f h8 h))
theorem i_vc_process {k : Nat} {u : SX} {v : SY} (I : i_Rel k u v) (hk : k + 4 ≤ 2048) (v1 : Int32) (v2 : Int32) : wpX_process (fun r => wpY_process (fun r' => r' = r ∧ i_Rel (k + 4) u v) v v1 v2) u v1 v2 := by
  have J := i_up I
  obtain ⟨dl, nt, tc, md, lo, en, dO, dA, dB, xo, xa, xb, xl, st, xr, rg, xv, pl, tr, xk, xm, wt, xw, xt, xi, mc, tk, xe, xz, ti, qn, yo, ya, yb, yl, cu, ag, yv, yr, yt, yi, yk, ym, li, ye, qu, yd, ys, yz, tm, xn, rfl, rfl, hR⟩ := I
  obtain ⟨r, hX, hY⟩ := mp_proc (dl := dl) (nt := nt) (tc := tc) (tm := tm) (xn := xn) (md := md) (lo := lo) (en := en) (dO := dO) (dA := dA) (dB := dB) (xo := xo) (xa := xa) (xb := xb) (xl := xl) (st := st) (xr := xr) (rg := rg) (xv := xv) (pl := pl) (tr := tr) (xk := xk) (xm := xm) (wt := wt) (xw := xw) (xt := xt) (xi := xi) (mc := mc) (tk := tk) (xe := xe) (xz := xz) (ti := ti) (qn := qn) (yn := xn) (yo := yo) (ya := ya) (yb := yb) (yl := yl) (cu := cu) (ag := ag) (yv := yv) (yr := yr) (yt := yt) (yi := yi) (yk := yk) (ym := ym) (li := li) (ye := ye) (qu := qu) (yd := yd) (ys := ys) (yz := yz) hR v1 v2
  exact hX _ (hY _ ⟨rfl, J⟩)
end
