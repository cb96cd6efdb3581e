section
variable {dl xc tc tm xn md lo en qn yc yn : Int32} {nt : Int64} {dO dA dB xo xa xb xl st xr rg xv pl tr xk xm wt xw xt xi mc xe xz ti yo ya yb yl cu ag yv yr yt yi yk ym li ye qu yd ys yz : Nat → Int32} {tk : Nat → Int64} {run i p : Nat} {T C : Int} {G : Nat → Int32 → Prop}
def mp_rk (st : Nat → Int32) (tk : Nat → Int64) (p : Nat) : Nat → Bool := fun q => decide (st q = 1) && decide ((tk q).toInt < (tk p).toInt)
theorem mx_rb_l (hp : p < 8) : ∀ d q, q + d = 8 → ∀ (post : Int32 → Prop) n, d < n → post (nI (mp_cn (mp_rk st tk p) 8)) → wX_readyBefore_4 post (nI p) dl nt xc tc tm xn md lo en dO dA dB xo xa xb xl st xr rg xv pl tr xk xm wt xw xt xi mc tk xe xz ti n (nI (mp_cn (mp_rk st tk p) q)) (nI q) := by
  intro d
  have cp := nI_clamp (n := p) (by omega)
  have Ip := vp_in_nI (n := p) (N := 8) hp (by omega)
  induction d with
  | zero =>
    intro q hq post n hn h
    have e : q = 8 := by omega
    subst e
    obtain ⟨m, rfl⟩ := mp_pos hn
    exact br_t (nI_le (b := 8) (Nat.le_refl 8) (by omega)) h
  | succ d ih =>
    intro q hq post n hn h
    obtain ⟨m, rfl⟩ := mp_pos hn
    have c := nI_clamp (n := q) (by omega)
    have I := vp_in_nI (n := q) (N := 8) (by omega) (by omega)
    have ihh := ih (q + 1) (by omega) post m (by omega) h
    refine br_f (nI_ge (b := 8) (by omega) (by omega)) (And.intro I ?_)
    rw [c, cp]
    by_cases h1 : st q = 1
    · by_cases hl : tk p ≤ tk q
      · rw [mp_cn_sf (show mp_rk st tk p q = false by
          unfold mp_rk
          rw [Int64.le_iff_toInt_le] at hl
          rw [decide_eq_false (show ¬ (tk q).toInt < (tk p).toInt by omega), Bool.and_false])] at ihh
        exact br_t h1 ⟨I, Ip, br_t hl (nm_r (nI_1 q) ihh)⟩
      · rw [mp_cn_st (show mp_rk st tk p q = true by
          unfold mp_rk
          rw [Int64.le_iff_toInt_le] at hl
          rw [decide_eq_true h1, decide_eq_true (show (tk q).toInt < (tk p).toInt by omega)]; rfl)] at ihh
        exact br_t h1 ⟨I, Ip, br_f hl (nm_r (nI_1 _) (nm_r (nI_1 q) ihh))⟩
    · rw [mp_cn_sf (show mp_rk st tk p q = false by
        unfold mp_rk
        rw [decide_eq_false h1, Bool.false_and])] at ihh
      exact br_f h1 (nm_r (nI_1 q) ihh)
theorem mx_rb {post : Int32 → Prop} (hp : p < 8) (h : post (nI (mp_cn (mp_rk st tk p) 8))) : wpX_readyBefore post (dl, nt, xc, tc, tm, xn, md, lo, en, dO, dA, dB, xo, xa, xb, xl, st, xr, rg, xv, pl, tr, xk, xm, wt, xw, xt, xi, mc, tk, xe, xz, ti) (nI p) := by
  unfold wpX_readyBefore
  exact ⟨9, mx_rb_l hp 8 0 rfl post 9 (by omega) h⟩
theorem mx_ready_l {x1 : Int32} {e : Nat} (he : e ≤ 8) (hq : ∀ q, q < e → st q = 1 → nI (mp_cn (mp_rk st tk q) 8) ≠ x1) (post : Int32 → Prop) (hE : ∀ m, wX_ready_2 post x1 dl nt xc tc tm xn md lo en dO dA dB xo xa xb xl st xr rg xv pl tr xk xm wt xw xt xi mc tk xe xz ti (m + 1) (nI e)) : ∀ d q, q + d = e → ∀ n, d < n → wX_ready_2 post x1 dl nt xc tc tm xn md lo en dO dA dB xo xa xb xl st xr rg xv pl tr xk xm wt xw xt xi mc tk xe xz ti n (nI q) := by
  intro d
  induction d with
  | zero =>
    intro q h n hn
    have : q = e := by omega
    subst this
    obtain ⟨m, rfl⟩ := mp_pos hn
    exact hE m
  | succ d ih =>
    intro q h n hn
    obtain ⟨m, rfl⟩ := mp_pos hn
    have c := nI_clamp (n := q) (by omega)
    have I := vp_in_nI (n := q) (N := 8) (by omega) (by omega)
    have ihh := ih (q + 1) (by omega) m (by omega)
    refine br_f (nI_ge (b := 8) (by omega) (by omega)) (And.intro I ?_)
    rw [c]
    by_cases h1 : st q = 1
    · exact br_t h1 (mx_rb (by omega) (br_f (hq q (by omega) h1) (nm_r (nI_1 q) ihh)))
    · exact br_f h1 (nm_r (nI_1 q) ihh)
theorem mx_ready (hQ : mp_Q st tk nt 8 qu qn) (x1 : Int32) : ∃ (r : Int32) (n : Nat), qn = nI n ∧ n ≤ 8 ∧ (∀ post : Int32 → Prop, post r → wpX_ready post (dl, nt, xc, tc, tm, xn, md, lo, en, dO, dA, dB, xo, xa, xb, xl, st, xr, rg, xv, pl, tr, xk, xm, wt, xw, xt, xi, mc, tk, xe, xz, ti) x1) ∧ ((∃ j p, j < n ∧ x1 = nI j ∧ p < 8 ∧ qu j = nI p ∧ r = nI p ∧ st p = 1) ∨ ((∀ j, j < n → x1 ≠ nI j) ∧ r = -1)) := by
  obtain ⟨L, e, hq, hm, hs, hl, h2⟩ := hQ
  have h8 : ∀ q, q ∈ L → q < 8 := fun q z => ((hm q).mp z).1
  have hlen := mp_len8' (mp_nd hs) h8
  have rank : ∀ q, q < 8 → st q = 1 → ∃ j, j < L.length ∧ L[j]? = some q ∧ mp_cn (mp_rk st tk q) 8 = j := fun q hq8 h1 => by
    obtain ⟨j, hj⟩ := List.mem_iff_getElem?.mp ((hm q).mpr ⟨hq8, h1, by omega⟩)
    exact ⟨j, (List.getElem?_eq_some_iff.mp hj).1, hj, mp_rank hm hs hj⟩
  rcases mp_bel x1 (n := L.length) (by omega) with ⟨j, hj, ex⟩ | ⟨_, hno⟩
  · have hp0 : L[j]? = some L[j] := List.getElem?_eq_getElem hj
    generalize L[j] = p0 at hp0
    have hm0 := (hm p0).mp (List.mem_iff_getElem?.mpr ⟨j, hp0⟩)
    have hr0 : mp_cn (mp_rk st tk p0) 8 = j := mp_rank hm hs hp0
    have c := nI_clamp (n := p0) (by omega)
    have I := vp_in_nI (n := p0) (N := 8) hm0.1 (by omega)
    refine ⟨nI p0, L.length, e, hlen, fun post hq' => ?_, Or.inl ⟨j, p0, hj, ex, hm0.1, hq j p0 hp0, rfl, hm0.2.1⟩⟩
    unfold wpX_ready
    refine ⟨9, mx_ready_l (e := p0) (by omega) (fun q hq2 h1 z => ?_) post (fun m => br_f (nI_ge (b := 8) hm0.1 (by omega)) (And.intro I ?_)) p0 0 (by omega) 9 (by omega)⟩
    · obtain ⟨j2, hj2, hg, er⟩ := rank q (by omega) h1
      rw [er, ex, nI_eq (by omega) (by omega)] at z
      subst z
      rw [hp0] at hg
      have := Option.some.inj hg
      omega
    · rw [c]
      exact br_t hm0.2.1 (mx_rb hm0.1 (br_t (by rw [hr0, ex]) hq'))
  · refine ⟨-1, L.length, e, hlen, fun post hq' => ?_, Or.inr ⟨hno, rfl⟩⟩
    unfold wpX_ready
    refine ⟨9, mx_ready_l (e := 8) (by omega) (fun q hq2 h1 z => ?_) post (fun m => br_t (nI_le (b := 8) (Nat.le_refl 8) (by omega)) hq') 8 0 (by omega) 9 (by omega)⟩
    obtain ⟨j2, hj2, hg, er⟩ := rank q hq2 h1
    rw [er] at z
    exact hno j2 hj2 z.symm
/-! a turn begins -/
theorem mp_head (h : (mp_D dl dO dA dB ∧ mp_C xo xa xb xl yo ya yb yl cu ∧ mp_V st xv yv xl cu ∧ mp_P st pl ∧ mp_S st ∧ mp_M st mc xt xi yt yi ∧ mp_K st xk yk ∧ mp_K st xm ym ∧ mp_W st xw li ye tm ∧ mp_T tm tc ti T ∧ mp_Q st tk nt 8 qu qn ∧ mp_E st xr yr ∧ mp_Z 0 st xr xe xz 0 yd ys yz 0 ∧ mp_F st nt C ∧ mp_G (fun _ _ => True) st xv yz)) : (qn = 0 ∧ (∀ q, q < 8 → st q ≠ 1) ∧ (∀ post : Int32 → Prop, post (-1) → wpX_ready post (dl, nt, 0, tc, tm, xn, md, lo, en, dO, dA, dB, xo, xa, xb, xl, st, xr, rg, xv, pl, tr, xk, xm, wt, xw, xt, xi, mc, tk, xe, xz, ti) 0)) ∨ ∃ p qu' qn', p < 8 ∧ st p = 1 ∧ ¬ qn = 0 ∧ (∀ post : Int32 → Prop, post (nI p) → wpX_ready post (dl, nt, 0, tc, tm, xn, md, lo, en, dO, dA, dB, xo, xa, xb, xl, st, xr, rg, xv, pl, tr, xk, xm, wt, xw, xt, xi, mc, tk, xe, xz, ti) 0) ∧ (∀ post : Int32 → SY → Prop, wpY_stands (fun r v => my_l66 post (nI p) r v) (dl, qn', 0, tm, tc, yn + 1, md, lo, en, yo, ya, yb, yl, cu, ag, dO, dA, dB, st, rg, pl, yv, yr, tr, yt, yi, mc, yk, ym, wt, li, ye, qu', yd, ys, yz, ti) (nI p) → wY_turn_36 post dl qn 0 tm tc yn md lo en yo ya yb yl cu ag dO dA dB st rg pl yv yr tr yt yi mc yk ym wt li ye qu yd ys yz ti) ∧ (mp_D dl dO dA dB ∧ mp_C xo xa xb xl yo ya yb yl cu ∧ mp_V st xv yv xl cu ∧ mp_P st pl ∧ mp_S st ∧ mp_M st mc xt xi yt yi ∧ mp_K st xk yk ∧ mp_K st xm ym ∧ mp_W st xw li ye tm ∧ mp_T tm tc ti T ∧ mp_Q st tk nt p qu' qn' ∧ mp_E st xr yr ∧ mp_Z 0 st xr xe xz 0 yd ys yz 0 ∧ mp_F st nt C ∧ mp_G (fun _ _ => True) st xv yz) := by
  have hQ := h.2.2.2.2.2.2.2.2.2.2.1
  obtain ⟨r, n, en', hn8, hX, hc⟩ := mx_ready (dl := dl) (nt := nt) (xc := 0) (tc := tc) (tm := tm) (xn := xn) (md := md) (lo := lo) (en := en) (dO := dO) (dA := dA) (dB := dB) (xo := xo) (xa := xa) (xb := xb) (xl := xl) (st := st) (xr := xr) (rg := rg) (xv := xv) (pl := pl) (tr := tr) (xk := xk) (xm := xm) (wt := wt) (xw := xw) (xt := xt) (xi := xi) (mc := mc) (tk := tk) (xe := xe) (xz := xz) (ti := ti) (qu := qu) (qn := qn) hQ 0
  rcases hc with ⟨j, p, hj, ex, hp, eq, er, h1⟩ | ⟨hno, er⟩
  · right
    have ej : j = 0 := by
      have w : nI 0 = nI j := ex
      rw [nI_eq (by omega) (by omega)] at w
      exact w.symm
    subst ej
    subst er
    obtain ⟨qu', qn', hlv, hleave⟩ := my_leave (tk := tk) (nt := nt) (run := 8) (dl := dl) (qn := qn) (yc := 0) (tm := tm) (tc := tc) (yn := yn + 1) (md := md) (lo := lo) (en := en) (yo := yo) (ya := ya) (yb := yb) (yl := yl) (cu := cu) (ag := ag) (dO := dO) (dA := dA) (dB := dB) (st := st) (rg := rg) (pl := pl) (yv := yv) (yr := yr) (tr := tr) (yt := yt) (yi := yi) (mc := mc) (yk := yk) (ym := ym) (wt := wt) (li := li) (ye := ye) (qu := qu) (yd := yd) (ys := ys) (yz := yz) (ti := ti) hQ hp
    refine ⟨p, qu', qn', hp, h1, ?_, hX, fun post w => ?_, mp_run_R h h1 hlv⟩
    · rw [en']
      exact nI_ne0 (by omega) (by omega)
    · unfold wY_turn_36
      refine nm_e (nm_r eq (hleave _ ?_))
      exact w
  · left
    have hq0 : n = 0 := by
      rcases Nat.eq_zero_or_pos n with w | w
      · exact w
      · exact absurd rfl (hno 0 w)
    subst hq0
    subst er
    rcases mp_Q_head hQ with ⟨a, b⟩ | ⟨p, m, _, _, _, em, _⟩
    · exact ⟨a, b, hX⟩
    · rw [en', nI_eq (by omega) (by omega)] at em
      omega
end
