section
variable {dl xc tc tm xn md lo en qn yc yn : Int32} {nt : Int64} {dO dA dB xo xa xb xl st xr rg xv pl tr xk xm wt xw xt xi mc xe xz ti yo ya yb yl cu ag yv yr yt yi yk ym li ye qu yd ys yz : Nat → Int32} {tk : Nat → Int64} {run i p : Nat} {T C : Int} {G : Nat → Int32 → Prop}
theorem mp_neg1 {b : Nat} (h : b < 2 ^ 31) : ¬ nI b = -1 := fun z => by
  have w : (nI b).toInt = (-1 : Int32).toInt := congrArg Int32.toInt z
  rw [nI_toInt h, show (-1 : Int32).toInt = -1 from by decide] at w
  omega
theorem mp_nle (a b : Int32) : ¬ a ≤ b ↔ b < a := Int32.not_le
/-! who wakes next -/
theorem mx_ns_l : ∀ d q, q + d = 8 → ∀ (post : Int32 → Prop) n, d < n → post (mp_ns st xw 8) → wX_nextSleeper_4 post dl nt xc tc tm xn md lo en dO dA dB xo xa xb xl st xr rg xv pl tr xk xm wt xw xt xi mc tk xe xz ti n (mp_ns st xw q) (nI q) := by
  intro d
  induction d with
  | zero =>
    intro q hq post n hn h
    have e : q = 8 := by omega
    subst e
    obtain ⟨m, rfl⟩ := mp_pos hn
    exact br_t (nI_le (b := 8) (Nat.le_refl 8) (by omega)) h
  | succ d ih =>
    intro q hq post n hn h
    obtain ⟨m, rfl⟩ := mp_pos hn
    have c := nI_clamp (n := q) (by omega)
    have I := vp_in_nI (n := q) (N := 8) (by omega) (by omega)
    have ihh := ih (q + 1) (by omega) post m (by omega) h
    refine br_f (nI_ge (b := 8) (by omega) (by omega)) (And.intro I ?_)
    rw [c]
    by_cases h2 : st q = 2
    · by_cases hw : xw q = -1
      · rw [mp_ns_f (fun z => z.2.1 hw)] at ihh
        exact br_t h2 ⟨I, br_t hw (nm_r (nI_1 q) ihh)⟩
      · rcases mp_ns_i st xw q (by omega) with ⟨e, _⟩ | ⟨b, hb, e, _⟩
        · rw [mp_ns_t ⟨h2, hw, Or.inl e⟩] at ihh
          exact br_t h2 ⟨I, br_f hw (br_t e (nm_r (nI_1 q) ihh))⟩
        · have cb := nI_clamp (n := b) (by omega)
          have Ib := vp_in_nI (n := b) (N := 8) (by omega) (by omega)
          have nb := mp_neg1 (b := b) (by omega)
          refine br_t h2 ⟨I, br_f hw ?_⟩
          by_cases hl : xw b ≤ xw q
          · rw [mp_ns_f (fun z => by
              rw [e, cb] at z
              rcases z.2.2 with z | z
              · exact nb z
              · exact (mp_nle _ _).mpr z hl)] at ihh
            rw [e] at ihh ⊢
            rw [cb]
            exact br_f nb ⟨I, Ib, br_t hl (nm_r (nI_1 q) ihh)⟩
          · rw [mp_ns_t ⟨h2, hw, Or.inr (by rw [e, cb]; exact (mp_nle _ _).mp hl)⟩] at ihh
            rw [e, cb]
            exact br_f nb ⟨I, Ib, br_f hl (nm_r (nI_1 q) ihh)⟩
    · rw [mp_ns_f (fun z => h2 z.1)] at ihh
      exact br_f h2 (nm_r (nI_1 q) ihh)
theorem mx_ns {post : Int32 → Prop} (h : post (mp_ns st xw 8)) : wpX_nextSleeper post (dl, nt, xc, tc, tm, xn, md, lo, en, dO, dA, dB, xo, xa, xb, xl, st, xr, rg, xv, pl, tr, xk, xm, wt, xw, xt, xi, mc, tk, xe, xz, ti) := by
  unfold wpX_nextSleeper
  exact ⟨9, mx_ns_l 8 0 rfl post 9 (by omega) h⟩
theorem my_ns_l {tm0 : Int32} (hW : mp_W st xw li ye tm0) : ∀ d q, q + d = 8 → ∀ (post : Int32 → Prop) n, d < n → post (mp_ns st xw 8) → wY_soonest_4 post dl qn yc tm tc yn md lo en yo ya yb yl cu ag dO dA dB st rg pl yv yr tr yt yi mc yk ym wt li ye qu yd ys yz ti n (mp_ns st xw q) (nI q) := by
  intro d
  induction d with
  | zero =>
    intro q hq post n hn h
    have e : q = 8 := by omega
    subst e
    obtain ⟨m, rfl⟩ := mp_pos hn
    exact br_t (nI_le (b := 8) (Nat.le_refl 8) (by omega)) h
  | succ d ih =>
    intro q hq post n hn h
    obtain ⟨m, rfl⟩ := mp_pos hn
    have c := nI_clamp (n := q) (by omega)
    have I := vp_in_nI (n := q) (N := 8) (by omega) (by omega)
    have ihh := ih (q + 1) (by omega) post m (by omega) h
    refine br_f (nI_ge (b := 8) (by omega) (by omega)) (And.intro I ?_)
    rw [c]
    by_cases h2 : st q = 2
    · have neg : ∀ x : Int32, 0 ≤ x.toInt → x ≠ -1 := fun x hx z => by
        rw [z, show (-1 : Int32).toInt = -1 from by decide] at hx
        omega
      rcases hW q (by omega) h2 with ⟨l0, w1⟩ | ⟨l1, w1, w2, w3⟩
      · rw [mp_ns_f (fun z => z.2.1 w1)] at ihh
        exact br_t h2 ⟨I, br_t l0 (nm_r (nI_1 q) ihh)⟩
      · have hw : xw q ≠ -1 := by rw [w1]; exact neg _ w2
        rcases mp_ns_i st xw q (by omega) with ⟨e, _⟩ | ⟨b, hb, e, b2, bw⟩
        · rw [mp_ns_t ⟨h2, hw, Or.inl e⟩] at ihh
          exact br_t h2 ⟨I, br_f l1 (br_t (by rw [e]; decide) (nm_r (nI_1 q) ihh))⟩
        · have cb := nI_clamp (n := b) (by omega)
          have Ib := vp_in_nI (n := b) (N := 8) (by omega) (by omega)
          have nb := mp_neg1 (b := b) (by omega)
          have eb : xw b = ye b := by
            rcases hW b (by omega) b2 with ⟨_, w⟩ | ⟨_, w, _⟩
            · exact absurd w bw
            · exact w
          refine br_t h2 ⟨I, br_f l1 ?_⟩
          by_cases hl : xw b ≤ xw q
          · rw [mp_ns_f (fun z => by
              rw [e, cb] at z
              rcases z.2.2 with z | z
              · exact nb z
              · exact (mp_nle _ _).mpr z hl)] at ihh
            rw [e] at ihh ⊢
            rw [cb]
            exact br_f (nI_pos (by omega)) ⟨I, Ib, br_t (by rw [← eb, ← w1]; exact hl) (nm_r (nI_1 q) ihh)⟩
          · rw [mp_ns_t ⟨h2, hw, Or.inr (by rw [e, cb]; exact (mp_nle _ _).mp hl)⟩] at ihh
            rw [e, cb]
            exact br_f (nI_pos (by omega)) ⟨I, Ib, br_f (by rw [← eb, ← w1]; exact hl) (nm_r (nI_1 q) ihh)⟩
    · rw [mp_ns_f (fun z => h2 z.1)] at ihh
      exact br_f h2 (nm_r (nI_1 q) ihh)
theorem my_ns {post : Int32 → Prop} {tm0 : Int32} (hW : mp_W st xw li ye tm0) (h : post (mp_ns st xw 8)) : wpY_soonest post (dl, qn, yc, tm, tc, yn, md, lo, en, yo, ya, yb, yl, cu, ag, dO, dA, dB, st, rg, pl, yv, yr, tr, yt, yi, mc, yk, ym, wt, li, ye, qu, yd, ys, yz, ti) := by
  unfold wpY_soonest
  exact ⟨9, my_ns_l hW 8 0 rfl post 9 (by omega) h⟩
/-! waking -/
theorem mp_wake1 (h : (mp_D dl dO dA dB ∧ mp_C xo xa xb xl yo ya yb yl cu ∧ mp_V st xv yv xl cu ∧ mp_P st pl ∧ mp_S st ∧ mp_M st mc xt xi yt yi ∧ mp_K st xk yk ∧ mp_K st xm ym ∧ mp_W st xw li ye tm ∧ mp_T tm tc ti T ∧ mp_Q st tk nt run qu qn ∧ mp_E st xr yr ∧ mp_Z i st xr xe xz xc yd ys yz yc ∧ mp_F st nt C ∧ mp_G G st xv yz)) (hp : p < 8) (h2 : st p = 2) : ∃ n pn, n < 8 ∧ qn = nI n ∧ pn < 24 ∧ pl p = nI pn ∧ (mp_D dl dO dA dB ∧ mp_C xo xa xb xl yo ya yb yl cu ∧ mp_V (upd st p 1) xv yv xl cu ∧ mp_P (upd st p 1) (upd pl p (nI (pn + 1))) ∧ mp_S (upd st p 1) ∧ mp_M (upd st p 1) mc xt xi yt yi ∧ mp_K (upd st p 1) xk yk ∧ mp_K (upd st p 1) xm ym ∧ mp_W (upd st p 1) xw li ye tm ∧ mp_T tm tc ti T ∧ mp_Q (upd st p 1) (vp_updL tk p nt) (nt + 1) run (upd qu n (nI p)) (nI (n + 1)) ∧ mp_E (upd st p 1) xr yr ∧ mp_Z i (upd st p 1) xr xe xz xc yd ys yz yc ∧ mp_F (upd st p 1) (nt + 1) C ∧ mp_G G (upd st p 1) xv yz) := by
  obtain ⟨pn, _, e1, e2⟩ := h.2.2.2.1 p hp (Or.inr h2)
  obtain ⟨n, hn, e, hR⟩ := mp_wake_R h hp h2
  exact ⟨n, pn, hn, e, e2 h2, e1, mp_place_R (p := p) hR (by rw [pk_us]; decide) (by have := e2 h2; omega)⟩
theorem mp_wake_i : ∀ w i0, ∀ (st : Nat → Int32) (tk : Nat → Int64) (nt : Int64) (qu : Nat → Int32) (qn : Int32) (rg pl : Nat → Int32), mp_cn (fun p => decide (st p = 2)) 8 ≤ w → i0 + w ≤ 8 → (mp_D dl dO dA dB ∧ mp_C xo xa xb xl yo ya yb yl cu ∧ mp_V st xv yv xl cu ∧ mp_P st pl ∧ mp_S st ∧ mp_M st mc xt xi yt yi ∧ mp_K st xk yk ∧ mp_K st xm ym ∧ mp_W st xw li ye tm ∧ mp_T tm tc ti T ∧ mp_Q st tk nt run qu qn ∧ mp_E st xr yr ∧ mp_Z i st xr xe xz xc yd ys yz yc ∧ mp_F st nt C ∧ mp_G G st xv yz) → ∃ (st' : Nat → Int32) (tk' : Nat → Int64) (nt' : Int64) (qu' : Nat → Int32) (qn' : Int32) (rg' pl' : Nat → Int32), (∀ (post : SX → Prop) n, w < n → post (dl, nt', xc, tc, tm, xn, md, lo, en, dO, dA, dB, xo, xa, xb, xl, st', xr, rg', xv, pl', tr, xk, xm, wt, xw, xt, xi, mc, tk', xe, xz, ti) → wX_wakeSleepers_2 post n (nI i0) dl nt xc tc tm xn md lo en dO dA dB xo xa xb xl st xr rg xv pl tr xk xm wt xw xt xi mc tk xe xz ti) ∧ (∀ (post : SY → Prop) n, w < n → post (dl, qn', yc, tm, tc, yn, md, lo, en, yo, ya, yb, yl, cu, ag, dO, dA, dB, st', rg', pl', yv, yr, tr, yt, yi, mc, yk, ym, wt, li, ye, qu', yd, ys, yz, ti) → wY_wake_5 post n (mp_ns st xw 8) dl qn yc tm tc yn md lo en yo ya yb yl cu ag dO dA dB st rg pl yv yr tr yt yi mc yk ym wt li ye qu yd ys yz ti) ∧ (mp_D dl dO dA dB ∧ mp_C xo xa xb xl yo ya yb yl cu ∧ mp_V st' xv yv xl cu ∧ mp_P st' pl' ∧ mp_S st' ∧ mp_M st' mc xt xi yt yi ∧ mp_K st' xk yk ∧ mp_K st' xm ym ∧ mp_W st' xw li ye tm ∧ mp_T tm tc ti T ∧ mp_Q st' tk' nt' run qu' qn' ∧ mp_E st' xr yr ∧ mp_Z i st' xr xe xz xc yd ys yz yc ∧ mp_F st' nt' C ∧ mp_G G st' xv yz) ∧ (∀ q, q < 8 → st q = 1 → st' q = 1) ∧ (∀ q, q < 8 → mp_ns st xw 8 = nI q → xw q ≤ tm → st' q = 1) ∧ (∀ q, q < 8 → mp_ns st' xw 8 = nI q → ¬ xw q ≤ tm) := by
  intro w
  induction w with
  | zero =>
    intro i0 st tk nt qu qn rg pl hw hi h
    have hno : ∀ q, q < 8 → st q ≠ 2 := fun q hq z => by
      have := mp_cn_add (P := fun _ => false) (Q := fun p => decide (p = q)) (p := q) rfl (decide_eq_true rfl) 8 hq (fun r _ ne => (decide_eq_false ne).symm)
      have m := mp_cn_mono (P := fun p => decide (p = q)) (Q := fun p => decide (st p = 2)) 8 (fun r _ e => decide_eq_true (by rw [of_decide_eq_true e]; exact z))
      omega
    have e : mp_ns st xw 8 = -1 := by
      rcases mp_ns_i st xw 8 (Nat.le_refl 8) with ⟨e, _⟩ | ⟨b, hb, _, b2, _⟩
      · exact e
      · exact absurd b2 (hno b hb)
    refine ⟨st, tk, nt, qu, qn, rg, pl, fun post n hn hq => ?_, fun post n hn hq => ?_, h, fun q _ z => z, fun q hq z _ => absurd (z.symm.trans e) (mp_neg1 (by omega)), fun q hq z => absurd (z.symm.trans e) (mp_neg1 (by omega))⟩
    · obtain ⟨m, rfl⟩ := mp_pos hn
      exact br_c (fun _ => hq) (fun _ => mx_ns (br_t e hq))
    · obtain ⟨m, rfl⟩ := mp_pos hn
      rw [e]
      exact br_t (by decide) hq
  | succ w ih =>
    intro i0 st tk nt qu qn rg pl hw hi h
    have h8 : ¬ (8 : Int32) ≤ nI i0 := nI_ge (b := 8) (by omega) (by omega)
    rcases mp_ns_i st xw 8 (Nat.le_refl 8) with ⟨e, _⟩ | ⟨p, hp, e, h2, hxw⟩
    · refine ⟨st, tk, nt, qu, qn, rg, pl, fun post n hn hq => ?_, fun post n hn hq => ?_, h, fun q _ z => z, fun q hq z _ => absurd (z.symm.trans e) (mp_neg1 (by omega)), fun q hq z => absurd (z.symm.trans e) (mp_neg1 (by omega))⟩
      · obtain ⟨m, rfl⟩ := mp_pos hn
        exact br_f h8 (mx_ns (br_t e hq))
      · obtain ⟨m, rfl⟩ := mp_pos hn
        rw [e]
        exact br_t (by decide) hq
    · have hh := h
      obtain ⟨hD, hC, hV, hP, hS, hM, hK, hm, hW, hT, hQ, hE, hZ, hF, hG⟩ := h
      have cp := nI_clamp (n := p) (by omega)
      have Ip := vp_in_nI (n := p) (N := 8) hp (by omega)
      have np := mp_neg1 (b := p) (by omega)
      have ey : xw p = ye p := by
        rcases hW p hp h2 with ⟨_, z⟩ | ⟨_, z, _⟩
        · exact absurd z hxw
        · exact z
      by_cases hle : xw p ≤ tm
      · obtain ⟨n0, pn, hn0, rfl, hpn, epl, hR⟩ := mp_wake1 hh hp h2
        have hcn : mp_cn (fun q => decide (upd st p 1 q = 2)) 8 ≤ w := by
          have e9 := mp_cn_add (P := fun q => decide (upd st p 1 q = 2)) (Q := fun q => decide (st q = 2)) (p := p) (decide_eq_false (by rw [pk_us]; decide)) (decide_eq_true h2) 8 hp (fun q _ ne => by show decide (upd st p 1 q = 2) = decide (st q = 2); rw [pk_un ne])
          omega
        obtain ⟨st'', tk'', nt'', qu'', qn'', rg'', pl'', hX2, hY2, hR2, hk1, hk2, hk3⟩ := ih (i0 + 1) (upd st p 1) (vp_updL tk p nt) (nt + 1) (upd qu n0 (nI p)) (nI (n0 + 1)) (upd rg (4 * p + 1) (-1)) (upd pl p (nI (pn + 1))) hcn (by omega) hR
        have c4 := nI_clamp (n := 4 * p + 1) (by omega)
        have I4 := vp_in_nI (n := 4 * p + 1) (N := 32) (by omega) (by omega)
        have hp1 : st'' p = 1 := hk1 p hp pk_us
        refine ⟨st'', tk'', nt'', qu'', qn'', rg'', pl'', fun post n hn hq => ?_, fun post n hn hq => ?_, hR2, fun q hq z => ?_, fun q hq z _ => ?_, hk3⟩
        · obtain ⟨m, rfl⟩ := mp_pos hn
          refine br_f h8 (mx_ns ?_)
          rw [e, mp_x4, nI_1, c4, cp, epl, nI_1]
          exact br_f np ⟨Ip, br_t hle ⟨I4, nm_e ⟨Ip, Ip, nm_e (mx_back hp (nm_r (nI_1 i0) (hX2 post m (by omega) hq)))⟩⟩⟩
        · obtain ⟨m, rfl⟩ := mp_pos hn
          rw [e]
          refine br_f (nI_pos (by omega)) (And.intro Ip ?_)
          rw [cp, mp_4x, nI_1, c4, epl, nI_1]
          exact br_f (by rw [← ey]; exact fun z => (mp_nle _ _).mpr z hle) ⟨I4, nm_e ⟨Ip, Ip, nm_e (my_enq hp hn0 (my_ns hR.2.2.2.2.2.2.2.2.1 (hY2 post m (by omega) hq)))⟩⟩
        · by_cases w1 : q = p
          · subst w1; exact hp1
          · exact hk1 q hq (by rw [pk_un w1]; exact z)
        · rw [e, nI_eq (by omega) (by omega)] at z
          subst z
          exact hp1
      · refine ⟨st, tk, nt, qu, qn, rg, pl, fun post n hn hq => ?_, fun post n hn hq => ?_, hh, fun q _ z => z, fun q hq z z2 => ?_, fun q hq z => ?_⟩
        · obtain ⟨m, rfl⟩ := mp_pos hn
          refine br_f h8 (mx_ns ?_)
          rw [e, cp]
          exact br_f np ⟨Ip, br_f hle hq⟩
        · obtain ⟨m, rfl⟩ := mp_pos hn
          rw [e]
          refine br_f (nI_pos (by omega)) (And.intro Ip ?_)
          rw [cp]
          exact br_t (by rw [← ey]; exact (mp_nle _ _).mp hle) hq
        · rw [e, nI_eq (by omega) (by omega)] at z
          subst z
          exact absurd z2 hle
        · rw [e, nI_eq (by omega) (by omega)] at z
          subst z
          exact hle
theorem mp_wake (h : (mp_D dl dO dA dB ∧ mp_C xo xa xb xl yo ya yb yl cu ∧ mp_V st xv yv xl cu ∧ mp_P st pl ∧ mp_S st ∧ mp_M st mc xt xi yt yi ∧ mp_K st xk yk ∧ mp_K st xm ym ∧ mp_W st xw li ye tm ∧ mp_T tm tc ti T ∧ mp_Q st tk nt run qu qn ∧ mp_E st xr yr ∧ mp_Z i st xr xe xz xc yd ys yz yc ∧ mp_F st nt C ∧ mp_G G st xv yz)) : ∃ (st' : Nat → Int32) (tk' : Nat → Int64) (nt' : Int64) (qu' : Nat → Int32) (qn' : Int32) (rg' pl' : Nat → Int32), (∀ (post : SX → Prop), post (dl, nt', xc, tc, tm, xn, md, lo, en, dO, dA, dB, xo, xa, xb, xl, st', xr, rg', xv, pl', tr, xk, xm, wt, xw, xt, xi, mc, tk', xe, xz, ti) → wpX_wakeSleepers post (dl, nt, xc, tc, tm, xn, md, lo, en, dO, dA, dB, xo, xa, xb, xl, st, xr, rg, xv, pl, tr, xk, xm, wt, xw, xt, xi, mc, tk, xe, xz, ti)) ∧ (∀ (post : SY → Prop), post (dl, qn', yc, tm, tc, yn, md, lo, en, yo, ya, yb, yl, cu, ag, dO, dA, dB, st', rg', pl', yv, yr, tr, yt, yi, mc, yk, ym, wt, li, ye, qu', yd, ys, yz, ti) → wpY_wake post (dl, qn, yc, tm, tc, yn, md, lo, en, yo, ya, yb, yl, cu, ag, dO, dA, dB, st, rg, pl, yv, yr, tr, yt, yi, mc, yk, ym, wt, li, ye, qu, yd, ys, yz, ti)) ∧ (mp_D dl dO dA dB ∧ mp_C xo xa xb xl yo ya yb yl cu ∧ mp_V st' xv yv xl cu ∧ mp_P st' pl' ∧ mp_S st' ∧ mp_M st' mc xt xi yt yi ∧ mp_K st' xk yk ∧ mp_K st' xm ym ∧ mp_W st' xw li ye tm ∧ mp_T tm tc ti T ∧ mp_Q st' tk' nt' run qu' qn' ∧ mp_E st' xr yr ∧ mp_Z i st' xr xe xz xc yd ys yz yc ∧ mp_F st' nt' C ∧ mp_G G st' xv yz) ∧ (∀ q, q < 8 → st q = 1 → st' q = 1) ∧ (∀ q, q < 8 → mp_ns st xw 8 = nI q → xw q ≤ tm → st' q = 1) ∧ (∀ q, q < 8 → mp_ns st' xw 8 = nI q → ¬ xw q ≤ tm) := by
  obtain ⟨st', tk', nt', qu', qn', rg', pl', hX, hY, hR, k1, k2, k3⟩ := mp_wake_i (dl := dl) (xc := xc) (tc := tc) (tm := tm) (xn := xn) (md := md) (lo := lo) (en := en) (dO := dO) (dA := dA) (dB := dB) (xo := xo) (xa := xa) (xb := xb) (xl := xl) (xr := xr) (xv := xv) (tr := tr) (xk := xk) (xm := xm) (wt := wt) (xw := xw) (xt := xt) (xi := xi) (mc := mc) (xe := xe) (xz := xz) (ti := ti) (yc := yc) (yn := yn) (yo := yo) (ya := ya) (yb := yb) (yl := yl) (cu := cu) (ag := ag) (yv := yv) (yr := yr) (yt := yt) (yi := yi) (yk := yk) (ym := ym) (li := li) (ye := ye) (yd := yd) (ys := ys) (yz := yz) 8 0 st tk nt qu qn rg pl (mp_cn_le _ 8) (by omega) h
  exact ⟨st', tk', nt', qu', qn', rg', pl', fun post hq => by unfold wpX_wakeSleepers; exact ⟨9, hX post 9 (by omega) hq⟩, fun post hq => by unfold wpY_wake; dsimp only; exact my_ns h.2.2.2.2.2.2.2.2.1 ⟨9, hY post 9 (by omega) hq⟩, hR, k1, k2, k3⟩
end
