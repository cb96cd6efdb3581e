section
variable {dl xc tc tm xn md lo en qn yc yn : Int32} {nt : Int64} {dO dA dB xo xa xb xl st xr rg xv pl tr xk xm wt xw xt xi mc xe xz ti yo ya yb yl cu ag yv yr yt yi yk ym li ye qu yd ys yz : Nat → Int32} {tk : Nat → Int64} {run i p : Nat} {T C : Int} {G : Nat → Int32 → Prop}
theorem mp_op8 {a b : Int32} (h : (mp_D dl dO dA dB ∧ mp_C xo xa xb xl yo ya yb yl cu ∧ mp_V st xv yv xl cu ∧ mp_P st pl ∧ mp_S st ∧ mp_M st mc xt xi yt yi ∧ mp_K st xk yk ∧ mp_K st xm ym ∧ mp_W st xw li ye tm ∧ mp_T tm tc ti T ∧ mp_Q st tk nt p qu qn ∧ mp_E st xr yr ∧ mp_Z 0 st xr xe xz 0 yd ys yz 0 ∧ mp_F st nt C ∧ mp_G (fun _ _ => True) st xv yz)) (hp : p < 8) (h1 : st p = 1) (ha : mp_lt a 4) (hC1 : C + 1 < 2 ^ 40) : mp_OP p 8 a b T (C + 1) tm xn yn (dl, nt, 0, tc, tm, xn, md, lo, en, dO, dA, dB, xo, xa, xb, xl, st, xr, rg, xv, pl, tr, xk, xm, wt, xw, xt, xi, mc, tk, xe, xz, ti) (dl, qn, 0, tm, tc, yn, md, lo, en, yo, ya, yb, yl, cu, ag, dO, dA, dB, st, rg, pl, yv, yr, tr, yt, yi, mc, yk, ym, wt, li, ye, qu, yd, ys, yz, ti) := by
  obtain ⟨m, hm4, rfl⟩ := ha
  have c4 := nI_clamp (n := 4 * p) (by omega)
  have I4 := vp_in_nI (n := 4 * p) (N := 32) (by omega) (by omega)
  have c41 := nI_clamp (n := 4 * p + 1) (by omega)
  have I41 := vp_in_nI (n := 4 * p + 1) (N := 32) (by omega) (by omega)
  obtain ⟨r, st', tk', nt', qu', qn', rg', pl', xv', yv', tr', md', hX, hY, hR, hr, hk⟩ := mp_make (dl := dl) (nt := nt) (tc := tc) (tm := tm) (xn := xn) (md := md) (lo := lo) (en := en) (dO := dO) (dA := dA) (dB := dB) (xo := xo) (xa := xa) (xb := xb) (xl := xl) (st := st) (xr := xr) (rg := rg) (xv := xv) (pl := pl) (tr := tr) (xk := xk) (xm := xm) (wt := wt) (xw := xw) (xt := xt) (xi := xi) (mc := mc) (tk := tk) (xe := xe) (xz := xz) (ti := ti) (qn := qn) (yn := yn) (yo := yo) (ya := ya) (yb := yb) (yl := yl) (cu := cu) (ag := ag) (yv := yv) (yr := yr) (yt := yt) (yi := yi) (yk := yk) (ym := ym) (li := li) (ye := ye) (qu := qu) (yd := yd) (ys := ys) (yz := yz) h hm4 (rg (4 * p)) (fun _ => Or.inl h1) (fun _ _ => trivial) hC1
  obtain ⟨ap, ep⟩ := hk p hp (Or.inl h1)
  have h1' : st' p = 1 := ep.trans h1
  have hal : ∀ (post : SY → Prop), (∀ r3 : Int32, post (dl, qn, 0, tm, tc, yn, md, lo, en, yo, ya, yb, yl, cu, ag, dO, dA, dB, st, rg, pl, yv, yr, tr, yt, yi, mc, yk, ym, wt, li, ye, qu, yd, ys, yz, ti) → True) → True := fun _ _ => trivial
  have hA : ∀ post : SX → Prop, post (dl, nt, 0, tc, tm, xn, md, lo, en, dO, dA, dB, xo, xa, xb, xl, st, xr, rg, xv, pl, tr, xk, xm, wt, xw, xt, xi, mc, tk, xe, xz, ti) → wpX_doAlone post (dl, nt, 0, tc, tm, xn, md, lo, en, dO, dA, dB, xo, xa, xb, xl, st, xr, rg, xv, pl, tr, xk, xm, wt, xw, xt, xi, mc, tk, xe, xz, ti) (nI p) 8 (nI m) b := fun post hq' => by
    refine nm_r (mp_x4 p) (br_f (by decide) (br_f (by decide) (br_f (by decide) (br_f (by decide) (br_f (by decide) (br_f (by decide) (br_f (by decide) (br_f (by decide) (br_f (by decide) (br_f (by decide) (br_t rfl ?_)))))))))))
    exact hq'
  have hal0 : ∀ Q : Int32 → Prop, (∀ r3, Q r3) → wpY_alive Q (dl, qn, 0, tm, tc, yn, md, lo, en, yo, ya, yb, yl, cu, ag, dO, dA, dB, st, rg, pl, yv, yr, tr, yt, yi, mc, yk, ym, wt, li, ye, qu, yd, ys, yz, ti) 0 := fun Q hQ => by
    rcases mp_alx h.2.2.2.2.1 0 with ⟨q, hq, eq, haq⟩ | ⟨hd, _⟩
    · rw [eq]
      exact my_al_t hq haq (hQ 1)
    · exact my_al_f hd (hQ 0)
  by_cases hl : b = 1 ∧ r ≠ -1
  · obtain ⟨hb1, hrn⟩ := hl
    rcases hr with hr | ⟨cq, hcq, er, ac⟩
    · exact absurd hr hrn
    · obtain ⟨xk', yk', hXl, hYl, hK'⟩ := mp_link (dl := dl) (nt := nt') (xc := 0) (tc := tc) (tm := tm) (xn := xn) (md := md') (lo := lo) (en := en) (dO := dO) (dA := dA) (dB := dB) (xo := xo) (xa := xa) (xb := xb) (xl := xl) (st := st') (xr := xr) (rg := upd rg' (4 * p + 1) r) (xv := xv') (pl := pl') (tr := tr') (xk := xk) (xm := xm) (wt := wt) (xw := xw) (xt := xt) (xi := xi) (mc := mc) (tk := tk') (xe := xe) (xz := xz) (ti := ti) (qn := qn') (yc := 0) (yn := yn) (yo := yo) (ya := ya) (yb := yb) (yl := yl) (cu := cu) (ag := ag) (yv := yv') (yr := yr) (yt := yt) (yi := yi) (yk := yk) (ym := ym) (li := li) (ye := ye) (qu := qu') (yd := yd) (ys := ys) (yz := yz) hR.2.2.2.2.2.2.1 hp hcq ap ac
      refine ⟨(dl, nt, 0, tc, tm, xn, md, lo, en, dO, dA, dB, xo, xa, xb, xl, st, xr, rg, xv, pl, tr, xk, xm, wt, xw, xt, xi, mc, tk, xe, xz, ti), (dl, nt', 0, tc, tm, xn, md', lo, en, dO, dA, dB, xo, xa, xb, xl, st', xr, upd rg' (4 * p + 1) r, xv', pl', tr', xk', xm, wt, xw, xt, xi, mc, tk', xe, xz, ti), (dl, nt', 0, tc, tm, xn, md', lo, en, dO, dA, dB, xo, xa, xb, xl, st', xr, upd rg' (4 * p + 1) r, xv', pl', tr', xk', xm, wt, xw, xt, xi, mc, tk', xe, xz, ti), (dl, qn', 0, tm, tc, yn, md', lo, en, yo, ya, yb, yl, cu, ag, dO, dA, dB, st', upd rg' (4 * p + 1) r, pl', yv', yr, tr', yt, yi, mc, yk', ym, wt, li, ye, qu', yd, ys, yz, ti), hA, fun post hq' => ?_, fun post hq' => mx_fin0 hq', fun post hq' => Or.inr (Or.inr (Or.inr ⟨by decide, by decide, by decide, by decide, ?_⟩)), rfl, mp_RR_1 h1' (mp_K_R hR hK' hR.2.2.2.2.2.2.2.1)⟩
      · refine nm_r (mp_x4 p) (br_f (by decide) (br_f (by decide) (br_f (by decide) (br_f (by decide) (br_t rfl ?_)))))
        refine br_t hb1 ?_
        unfold wX_doWithOthers_91 wpX_spawnFrom
        dsimp only
        rw [mp_x4, nI_1, c4, c41]
        refine ⟨I4, hX _ ⟨I41, nm_e (br_f (by decide) (br_f hrn ?_))⟩⟩
        subst er
        exact hXl _ hq'
      · refine br_t rfl ?_
        unfold wY_others_20
        refine hal0 _ (fun r3 => (br_f (by decide) (br_f (by decide) (br_f (by decide) (br_f (by decide) (br_t rfl ?_))))))
        rw [mp_4x, nI_1, c4, c41]
        refine ⟨I4, hY _ ⟨I41, nm_e (br_f ?_ (br_t hb1 ?_))⟩⟩
        · rw [er]
          exact nI_pos (by omega)
        · subst er
          exact hYl _ hq'
  · refine ⟨(dl, nt, 0, tc, tm, xn, md, lo, en, dO, dA, dB, xo, xa, xb, xl, st, xr, rg, xv, pl, tr, xk, xm, wt, xw, xt, xi, mc, tk, xe, xz, ti), (dl, nt', 0, tc, tm, xn, md', lo, en, dO, dA, dB, xo, xa, xb, xl, st', xr, upd rg' (4 * p + 1) r, xv', pl', tr', xk, xm, wt, xw, xt, xi, mc, tk', xe, xz, ti), (dl, nt', 0, tc, tm, xn, md', lo, en, dO, dA, dB, xo, xa, xb, xl, st', xr, upd rg' (4 * p + 1) r, xv', pl', tr', xk, xm, wt, xw, xt, xi, mc, tk', xe, xz, ti), (dl, qn', 0, tm, tc, yn, md', lo, en, yo, ya, yb, yl, cu, ag, dO, dA, dB, st', upd rg' (4 * p + 1) r, pl', yv', yr, tr', yt, yi, mc, yk, ym, wt, li, ye, qu', yd, ys, yz, ti), hA, fun post hq' => ?_, fun post hq' => mx_fin0 hq', fun post hq' => Or.inr (Or.inr (Or.inr ⟨by decide, by decide, by decide, by decide, ?_⟩)), rfl, mp_RR_1 h1' hR⟩
    · refine nm_r (mp_x4 p) (br_f (by decide) (br_f (by decide) (br_f (by decide) (br_f (by decide) (br_t rfl ?_)))))
      by_cases hb1 : b = 1
      · have hrn : r = -1 := by
          by_cases z : r = -1
          · exact z
          · exact absurd ⟨hb1, z⟩ hl
        refine br_t hb1 ?_
        unfold wX_doWithOthers_91 wpX_spawnFrom
        dsimp only
        rw [mp_x4, nI_1, c4, c41]
        exact ⟨I4, hX _ ⟨I41, nm_e (br_f (by decide) (br_t hrn hq'))⟩⟩
      · refine br_f hb1 ?_
        unfold wX_doWithOthers_91 wpX_spawnFrom
        dsimp only
        rw [mp_x4, nI_1, c4, c41]
        exact ⟨I4, hX _ ⟨I41, nm_e (br_t rfl hq')⟩⟩
    · refine br_t rfl ?_
      unfold wY_others_20
      refine hal0 _ (fun r3 => (br_f (by decide) (br_f (by decide) (br_f (by decide) (br_f (by decide) (br_t rfl ?_))))))
      rw [mp_4x, nI_1, c4, c41]
      refine ⟨I4, hY _ ⟨I41, nm_e ?_⟩⟩
      rcases hr with hr | ⟨cq, hcq, er, ac⟩
      · exact br_t (by rw [hr]; decide) hq'
      · refine br_f (by rw [er]; exact nI_pos (by omega)) (br_f (fun hb1 => hl ⟨hb1, ?_⟩) hq')
        rw [er]
        exact mp_neg1 (by omega)
/-! RECEIVE: the first message with a tag -/
def mp_tb (tg : Int32) (xt : Nat → Int32) (p k : Nat) : Prop := ((tg >>> (xt (12 * p + k) &&& 31)) &&& 1) = 1
theorem mp_first (B : Nat → Prop) : ∀ n, (∀ k, k < n → ¬ B k) ∨ ∃ k, k < n ∧ B k ∧ ∀ j, j < k → ¬ B j := by
  intro n
  induction n with
  | zero => exact Or.inl (fun k hk => absurd hk (by omega))
  | succ n ih =>
    rcases ih with h | ⟨k, hk, h1, h2⟩
    · rcases Classical.em (B n) with w | w
      · exact Or.inr ⟨n, by omega, w, h⟩
      · exact Or.inl (fun k hk => by
          by_cases e : k = n
          · subst e; exact w
          · exact h k (by omega))
    · exact Or.inr ⟨k, by omega, h1, h2⟩
theorem mx_ft_l {e n0 : Nat} {tg : Int32} (hp : p < 8) (he : e ≤ 12) (hn0 : n0 ≤ 12) (em : mc p = nI n0) (hb : ∀ k, k < e → k < n0 → ¬ mp_tb tg xt p k) (post : Int32 → Prop) (hE : ∀ m, wX_firstWithTag_2 post (nI p) tg dl nt xc tc tm xn md lo en dO dA dB xo xa xb xl st xr rg xv pl tr xk xm wt xw xt xi mc tk xe xz ti (m + 1) (nI e)) : ∀ d q, q + d = e → ∀ n, d < n → wX_firstWithTag_2 post (nI p) tg dl nt xc tc tm xn md lo en dO dA dB xo xa xb xl st xr rg xv pl tr xk xm wt xw xt xi mc tk xe xz ti n (nI q) := by
  intro d
  induction d with
  | zero =>
    intro q h n hn
    have : q = e := by omega
    subst this
    obtain ⟨m, rfl⟩ := mp_pos hn
    exact hE m
  | succ d ih =>
    intro q h n hn
    obtain ⟨m, rfl⟩ := mp_pos hn
    have c := nI_clamp (n := p) (by omega)
    have I := vp_in_nI (n := p) (N := 8) hp (by omega)
    have c2 := nI_clamp (n := 12 * p + q) (by omega)
    have I2 := vp_in_nI (n := 12 * p + q) (N := 96) (by omega) (by omega)
    have ihh := ih (q + 1) (by omega) m (by omega)
    refine br_f (nI_ge (b := 12) (by omega) (by omega)) (And.intro I ?_)
    rw [c, em, mp_x12, nI_add, c2]
    by_cases w : n0 ≤ q
    · exact br_t (nI_le w (by omega)) (nm_r (nI_1 q) ihh)
    · exact br_f (nI_ge (by omega) (by omega)) ⟨I2, br_f (hb q (by omega) (by omega)) (br_t rfl (nm_r (nI_1 q) ihh))⟩
theorem mp_tb0 {tg x : Int32} (h : ¬ ((tg >>> (x &&& 31)) &&& 1) = 1) : ((tg >>> (x &&& 31)) &&& 1) = 0 := by
  rcases mp_01 (tg >>> (x &&& 31)) with w | w
  · exact absurd w h
  · exact w
theorem my_ft_l {e n0 : Nat} {tg lim : Int32} (hp : p < 8) (he : e ≤ n0) (hn0 : n0 ≤ 12) (em : mc p = nI n0) (hb : ∀ k, k < e → ¬ mp_tb tg yt p k) (post : SY → Prop) (hE : ∀ m, wY_receive_3 post (nI p) tg lim dl qn yc tm tc yn md lo en yo ya yb yl cu ag dO dA dB st rg pl yv yr tr yt yi mc yk ym wt li ye qu yd ys yz ti (m + 1) (nI e)) : ∀ d q, q + d = e → ∀ n, d < n → wY_receive_3 post (nI p) tg lim dl qn yc tm tc yn md lo en yo ya yb yl cu ag dO dA dB st rg pl yv yr tr yt yi mc yk ym wt li ye qu yd ys yz ti n (nI q) := by
  intro d
  induction d with
  | zero =>
    intro q h n hn
    have : q = e := by omega
    subst this
    obtain ⟨m, rfl⟩ := mp_pos hn
    exact hE m
  | succ d ih =>
    intro q h n hn
    obtain ⟨m, rfl⟩ := mp_pos hn
    have c := nI_clamp (n := p) (by omega)
    have I := vp_in_nI (n := p) (N := 8) hp (by omega)
    have c2 := nI_clamp (n := 12 * p + q) (by omega)
    have I2 := vp_in_nI (n := 12 * p + q) (N := 96) (by omega) (by omega)
    have ihh := ih (q + 1) (by omega) m (by omega)
    refine And.intro I ?_
    rw [c, em, mp_12x, nI_add, c2]
    exact br_f (nI_ge (by omega) (by omega)) ⟨I2, br_t (mp_tb0 (hb q (by omega))) (nm_r (nI_1 q) ihh)⟩
/-! RECEIVE: the message is taken out -/
theorem mx_drop_l {k : Nat} (hp : p < 8) (hk : k < 12) : ∀ d q, q + d = 11 → ∀ xt xi : Nat → Int32, ∃ xt' xi' : Nat → Int32, (∀ j, q ≤ j → j < 11 → xt' (12 * p + j) = (if j < k then xt (12 * p + j) else xt (12 * p + j + 1)) ∧ xi' (12 * p + j) = (if j < k then xi (12 * p + j) else xi (12 * p + j + 1))) ∧ (∀ j, (j < 12 * p + q ∨ 12 * p + 11 ≤ j) → xt' j = xt j ∧ xi' j = xi j) ∧ ∀ (post : SX → Prop) n, d < n → post (dl, nt, xc, tc, tm, xn, md, lo, en, dO, dA, dB, xo, xa, xb, xl, st, xr, rg, xv, pl, tr, xk, xm, wt, xw, xt', xi', mc, tk, xe, xz, ti) → wX_dropMessage_12 post (nI p) (nI k) dl nt xc tc tm xn md lo en n (nI q) dO dA dB xo xa xb xl st xr rg xv pl tr xk xm wt xw xt xi mc tk xe xz ti := by
  intro d
  induction d with
  | zero =>
    intro q hq xt xi
    have e : q = 11 := by omega
    subst e
    refine ⟨xt, xi, fun j h1 h2 => absurd h2 (by omega), fun j _ => ⟨rfl, rfl⟩, fun post n hn h => ?_⟩
    obtain ⟨m, rfl⟩ := mp_pos hn
    exact br_t (nI_le (b := 11) (Nat.le_refl 11) (by omega)) h
  | succ d ih =>
    intro q hq xt xi
    have h11 : ¬ (11 : Int32) ≤ nI q := nI_ge (b := 11) (by omega) (by omega)
    by_cases w : q < k
    · obtain ⟨xt', xi', a1, a2, hX⟩ := ih (q + 1) (by omega) xt xi
      refine ⟨xt', xi', fun j h1 h2 => ?_, fun j hj => a2 j (by omega), fun post n hn h => ?_⟩
      · by_cases e : j = q
        · subst e
          rw [if_pos w, if_pos w]
          exact a2 _ (by omega)
        · exact a1 j (by omega) h2
      · obtain ⟨m, rfl⟩ := mp_pos hn
        exact br_f h11 (br_t (nI_lt w (by omega)) (nm_r (nI_1 q) (hX post m (by omega) h)))
    · obtain ⟨xt', xi', a1, a2, hX⟩ := ih (q + 1) (by omega) (upd xt (12 * p + q) (xt (12 * p + q + 1))) (upd xi (12 * p + q) (xi (12 * p + q + 1)))
      have c1 := nI_clamp (n := 12 * p + q) (by omega)
      have I1 := vp_in_nI (n := 12 * p + q) (N := 96) (by omega) (by omega)
      have c2 := nI_clamp (n := 12 * p + q + 1) (by omega)
      have I2 := vp_in_nI (n := 12 * p + q + 1) (N := 96) (by omega) (by omega)
      refine ⟨xt', xi', fun j h1 h2 => ?_, fun j hj => ?_, fun post n hn h => ?_⟩
      · by_cases e : j = q
        · subst e
          have v := a2 (12 * p + j) (by omega)
          rw [v.1, v.2, pk_us, pk_us, if_neg w, if_neg w]
          exact ⟨rfl, rfl⟩
        · have v := a1 j (by omega) h2
          rw [pk_un (by omega), pk_un (by omega), pk_un (by omega), pk_un (by omega)] at v
          exact v
      · have v := a2 j (by omega)
        rw [v.1, v.2, pk_un (by omega), pk_un (by omega)]
        exact ⟨rfl, rfl⟩
      · obtain ⟨m, rfl⟩ := mp_pos hn
        refine br_f h11 (br_f (nI_nlt (by omega) (by omega)) (nm_r (e' := nI (12 * p + q)) (by rw [mp_x12, nI_add]) ?_))
        rw [nI_1, c1, c2]
        exact ⟨I2, I1, nm_e ⟨I2, I1, nm_e (nm_r (nI_1 q) (hX post m (by omega) h))⟩⟩
theorem my_drop_l {n1 : Nat} (hp : p < 8) (hn1 : n1 < 12) (em : mc p = nI n1) : ∀ d s, s + d = n1 → ∀ yt yi : Nat → Int32, ∃ yt' yi' : Nat → Int32, (∀ j, s ≤ j → j < n1 → yt' (12 * p + j) = yt (12 * p + j + 1) ∧ yi' (12 * p + j) = yi (12 * p + j + 1)) ∧ (∀ j, (j < 12 * p + s ∨ 12 * p + n1 ≤ j) → yt' j = yt j ∧ yi' j = yi j) ∧ ∀ (post : SY → Prop) n, d < n → post (dl, qn, yc, tm, tc, yn, md, lo, en, yo, ya, yb, yl, cu, ag, dO, dA, dB, st, rg, pl, yv, yr, tr, yt', yi', mc, yk, ym, wt, li, ye, qu, yd, ys, yz, ti) → wY_receive_111 post (nI p) dl qn yc tm tc yn md lo en n (nI (12 * p + s)) yo ya yb yl cu ag dO dA dB st rg pl yv yr tr yt yi mc yk ym wt li ye qu yd ys yz ti := by
  intro d
  have c := nI_clamp (n := p) (by omega)
  have I := vp_in_nI (n := p) (N := 8) hp (by omega)
  induction d with
  | zero =>
    intro s hs yt yi
    have e : s = n1 := by omega
    subst e
    refine ⟨yt, yi, fun j h1 h2 => absurd h2 (by omega), fun j _ => ⟨rfl, rfl⟩, fun post n hn h => ?_⟩
    obtain ⟨m, rfl⟩ := mp_pos hn
    refine And.intro I ?_
    rw [c, em, mp_12x, nI_add]
    exact br_t (nI_le (Nat.le_refl _) (by omega)) h
  | succ d ih =>
    intro s hs yt yi
    obtain ⟨yt', yi', a1, a2, hY⟩ := ih (s + 1) (by omega) (upd yt (12 * p + s) (yt (12 * p + s + 1))) (upd yi (12 * p + s) (yi (12 * p + s + 1)))
    have c1 := nI_clamp (n := 12 * p + s) (by omega)
    have I1 := vp_in_nI (n := 12 * p + s) (N := 96) (by omega) (by omega)
    have c2 := nI_clamp (n := 12 * p + s + 1) (by omega)
    have I2 := vp_in_nI (n := 12 * p + s + 1) (N := 96) (by omega) (by omega)
    refine ⟨yt', yi', fun j h1 h2 => ?_, fun j hj => ?_, fun post n hn h => ?_⟩
    · by_cases e : j = s
      · subst e
        have v := a2 (12 * p + j) (by omega)
        rw [v.1, v.2, pk_us, pk_us]
        exact ⟨rfl, rfl⟩
      · have v := a1 j (by omega) h2
        rw [pk_un (by omega), pk_un (by omega)] at v
        exact v
    · have v := a2 j (by omega)
      rw [v.1, v.2, pk_un (by omega), pk_un (by omega)]
      exact ⟨rfl, rfl⟩
    · obtain ⟨m, rfl⟩ := mp_pos hn
      refine And.intro I ?_
      rw [c, em, mp_12x, nI_add, nI_1, c1, c2]
      exact br_f (nI_ge (by omega) (by omega)) ⟨I2, I1, nm_e ⟨I2, I1, nm_e (nm_r (e' := nI (12 * p + (s + 1))) rfl (hY post m (by omega) h))⟩⟩
end
