section
variable {dl xc tc tm xn md lo en qn yc yn : Int32} {nt : Int64} {dO dA dB xo xa xb xl st xr rg xv pl tr xk xm wt xw xt xi mc xe xz ti yo ya yb yl cu ag yv yr yt yi yk ym li ye qu yd ys yz : Nat → Int32} {tk : Nat → Int64} {run i p : Nat} {T C : Int} {G : Nat → Int32 → Prop}
theorem mp_least (hS : mp_S st) : ∀ n, n ≤ 8 → (∀ q, q < n → mp_al st q) ∨ ∃ p, p < n ∧ ¬ mp_al st p ∧ ∀ q, q < p → mp_al st q := by
  intro n
  induction n with
  | zero => intro _; exact Or.inl (fun q hq => absurd hq (by omega))
  | succ n ih =>
    intro hn
    rcases ih (by omega) with h | ⟨p, hp, h1, h2⟩
    · rcases mp_al_of hS (p := n) (by omega) with ⟨ha, _⟩ | ⟨ha, _⟩
      · exact Or.inl (fun q hq => by
          by_cases e : q = n
          · subst e; exact ha
          · exact h q (by omega))
      · exact Or.inr ⟨n, by omega, ha, h⟩
    · exact Or.inr ⟨p, by omega, h1, h2⟩
theorem mp_al_s (ha : mp_al st p) : ¬ st p = 0 ∧ ¬ st p = 3 := by
  unfold mp_al at ha
  rcases ha with h | h <;> rw [h] <;> decide
theorem mx_least_l {e : Nat} (he : e ≤ 8) (hq : ∀ q, q < e → mp_al st q) (post : Int32 → Prop) (hE : ∀ m, wX_leastNotAlive_2 post dl nt xc tc tm xn md lo en dO dA dB xo xa xb xl st xr rg xv pl tr xk xm wt xw xt xi mc tk xe xz ti (m + 1) (nI e)) : ∀ d q, q + d = e → ∀ n, d < n → wX_leastNotAlive_2 post dl nt xc tc tm xn md lo en dO dA dB xo xa xb xl st xr rg xv pl tr xk xm wt xw xt xi mc tk xe xz ti n (nI q) := by
  intro d
  induction d with
  | zero =>
    intro q h n hn
    have : q = e := by omega
    subst this
    obtain ⟨m, rfl⟩ := mp_pos hn
    exact hE m
  | succ d ih =>
    intro q h n hn
    obtain ⟨m, rfl⟩ := mp_pos hn
    have c := nI_clamp (n := q) (by omega)
    have I := vp_in_nI (n := q) (N := 8) (by omega) (by omega)
    obtain ⟨s0, s3⟩ := mp_al_s (hq q (by omega))
    refine br_f (nI_ge (b := 8) (by omega) (by omega)) (And.intro I ?_)
    rw [c]
    exact br_f s0 ⟨I, br_f s3 (nm_r (nI_1 q) (ih (q + 1) (by omega) m (by omega)))⟩
theorem my_make_l {e : Nat} {x1 x2 : Int32} (he : e ≤ 8) (hq : ∀ q, q < e → mp_al st q) (post : Int32 → SY → Prop) (hE : ∀ m, wY_make_13 post x1 x2 dl qn yc tm tc yn md lo en yo ya yb yl cu ag dO dA dB st rg pl yv yr tr yt yi mc yk ym wt li ye qu yd ys yz ti (m + 1) (nI e)) : ∀ d q, q + d = e → ∀ n, d < n → wY_make_13 post x1 x2 dl qn yc tm tc yn md lo en yo ya yb yl cu ag dO dA dB st rg pl yv yr tr yt yi mc yk ym wt li ye qu yd ys yz ti n (nI q) := by
  intro d
  induction d with
  | zero =>
    intro q h n hn
    have : q = e := by omega
    subst this
    obtain ⟨m, rfl⟩ := mp_pos hn
    exact hE m
  | succ d ih =>
    intro q h n hn
    obtain ⟨m, rfl⟩ := mp_pos hn
    exact br_f (nI_ge (b := 8) (by omega) (by omega)) (my_al_t (by omega) (hq q (by omega)) (br_f (by decide) (nm_r (nI_1 q) (ih (q + 1) (by omega) m (by omega)))))
theorem mp_rgeq (v : Int32) : upd (upd (upd (upd (upd rg (4 * p + 0) 0) (4 * p + 1) 0) (4 * p + 2) 0) (4 * p + 3) 0) (4 * p) v = upd (upd (upd (upd rg (4 * p + 0) v) (4 * p + 1) 0) (4 * p + 2) 0) (4 * p + 3) 0 := by
  funext j
  by_cases h0 : j = 4 * p
  · subst h0
    rw [pk_us, pk_un (by omega), pk_un (by omega), pk_un (by omega)]
    exact pk_us.symm
  · rw [pk_un h0]
    by_cases h3 : j = 4 * p + 3
    · subst h3
      rw [pk_us, pk_us]
    · rw [pk_un h3, pk_un h3]
      by_cases h2 : j = 4 * p + 2
      · subst h2
        rw [pk_us, pk_us]
      · rw [pk_un h2, pk_un h2]
        by_cases h1 : j = 4 * p + 1
        · subst h1
          rw [pk_us, pk_us]
        · rw [pk_un h1, pk_un h1, Nat.add_zero, pk_un h0, pk_un h0]
theorem mx_mk_s {post : Int32 → SX → Prop} {x1 x2 : Int32} {r n : Nat} (hp : p < 8) (hr : r < 4) (h : wX_makeProcess_26 post x1 x2 (nI p) dl nt xc tc tm xn md lo en n (nI (r + 1)) dO dA dB xo xa xb xl st xr (upd rg (4 * p + r) 0) xv pl tr xk xm wt xw xt xi mc tk xe xz ti) : wX_makeProcess_26 post x1 x2 (nI p) dl nt xc tc tm xn md lo en (n + 1) (nI r) dO dA dB xo xa xb xl st xr rg xv pl tr xk xm wt xw xt xi mc tk xe xz ti := by
  have c := nI_clamp (n := 4 * p + r) (by omega)
  have I := vp_in_nI (n := 4 * p + r) (N := 32) (by omega) (by omega)
  have a : nI p * 4 + nI r = nI (4 * p + r) := by rw [mp_x4, nI_add]
  refine br_f (nI_ge (b := 4) hr (by omega)) ?_
  rw [a, c]
  exact ⟨I, nm_e (nm_r (nI_1 r) h)⟩
theorem mx_mk {post : Int32 → SX → Prop} {v : Int32} {m : Nat} (hp : p < 8) (hm : m < 4) (h : post (nI p) (dl, nt + 1, xc, tc, tm, xn, md + 1, lo, en, dO, dA, dB, xo, xa, xb, xl, upd st p 1, xr, upd (upd (upd (upd rg (4 * p + 0) v) (4 * p + 1) 0) (4 * p + 2) 0) (4 * p + 3) 0, upd xv p (nI (2 * m)), upd pl p 0, upd tr p 0, xk, xm, wt, xw, xt, xi, mc, vp_updL tk p nt, xe, xz, ti)) : ∃ n, wX_makeProcess_26 post (nI m) v (nI p) dl nt xc tc tm xn md lo en n 0 dO dA dB xo xa xb xl st xr rg xv pl tr xk xm wt xw xt xi mc tk xe xz ti := by
  have c := nI_clamp (n := p) (by omega)
  have I := vp_in_nI (n := p) (N := 8) hp (by omega)
  have c4 := nI_clamp (n := 4 * p) (by omega)
  have I4 := vp_in_nI (n := 4 * p) (N := 32) (by omega) (by omega)
  rw [← mp_rgeq] at h
  refine ⟨5, mx_mk_s (r := 0) hp (by omega) (mx_mk_s (r := 1) hp (by omega) (mx_mk_s (r := 2) hp (by omega) (mx_mk_s (r := 3) hp (by omega) (br_t (nI_le (b := 4) (Nat.le_refl 4) (by omega)) ?_))))⟩
  rw [mp_x4, mp_2x, c, c4, mp_b0n]
  exact ⟨I4, nm_e ⟨I, nm_e ⟨I, nm_e ⟨I, nm_e (nm_e (mx_back hp h))⟩⟩⟩⟩
theorem my_mk_s {post : Int32 → SY → Prop} {x1 v : Int32} {r n : Nat} (hp : p < 8) (hr : r < 4) (hr0 : 0 < r) (h : wY_make_44 post x1 v (nI p) dl qn yc tm tc yn md lo en n (nI (r + 1)) yo ya yb yl cu ag dO dA dB st (upd rg (4 * p + r) 0) pl yv yr tr yt yi mc yk ym wt li ye qu yd ys yz ti) : wY_make_44 post x1 v (nI p) dl qn yc tm tc yn md lo en (n + 1) (nI r) yo ya yb yl cu ag dO dA dB st rg pl yv yr tr yt yi mc yk ym wt li ye qu yd ys yz ti := by
  have c := nI_clamp (n := 4 * p + r) (by omega)
  have I := vp_in_nI (n := 4 * p + r) (N := 32) (by omega) (by omega)
  have a : 4 * nI p + nI r = nI (4 * p + r) := by rw [mp_4x, nI_add]
  refine br_f (nI_ge (b := 4) hr (by omega)) ?_
  rw [a, c]
  exact br_f (nI_ne0 hr0 (by omega)) ⟨I, nm_e (nm_r (nI_1 r) h)⟩
theorem my_mk {post : Int32 → SY → Prop} {v : Int32} {m cc n : Nat} (hp : p < 8) (hm : m < 4) (hc : cc < 2) (ec : cu m = nI cc) (hn : n < 8) (h : post (nI p) (dl, nI (n + 1), yc, tm, tc, yn, md + 1, lo, en, yo, ya, yb, yl, cu, ag, dO, dA, dB, upd st p 1, upd (upd (upd (upd rg (4 * p + 0) v) (4 * p + 1) 0) (4 * p + 2) 0) (4 * p + 3) 0, upd pl p 0, upd yv p (nI (2 * m + cc)), yr, upd tr p 0, yt, yi, upd mc p 0, yk, ym, wt, li, ye, upd qu n (nI p), yd, ys, yz, ti)) : ∃ k, wY_make_44 post (nI m) v (nI p) dl (nI n) yc tm tc yn md lo en k 0 yo ya yb yl cu ag dO dA dB st rg pl yv yr tr yt yi mc yk ym wt li ye qu yd ys yz ti := by
  have c := nI_clamp (n := p) (by omega)
  have I := vp_in_nI (n := p) (N := 8) hp (by omega)
  have cm := nI_clamp (n := m) (by omega)
  have Im := vp_in_nI (n := m) (N := 4) hm (by omega)
  have c4 := nI_clamp (n := 4 * p + 0) (by omega)
  have I4 := vp_in_nI (n := 4 * p + 0) (N := 32) (by omega) (by omega)
  have a : 4 * nI p + 0 = nI (4 * p + 0) := by rw [mp_4x]; exact nI_add (4 * p) 0
  have a1 : (0 : Int32) + 1 = nI (0 + 1) := rfl
  have w3 : wY_make_44 post (nI m) v (nI p) dl (nI n) yc tm tc yn md lo en 4 (nI (0 + 1)) yo ya yb yl cu ag dO dA dB st (upd rg (4 * p + 0) v) pl yv yr tr yt yi mc yk ym wt li ye qu yd ys yz ti := by
    refine my_mk_s (r := 1) hp (by omega) (by omega) (my_mk_s (r := 2) hp (by omega) (by omega) (my_mk_s (r := 3) hp (by omega) (by omega) (br_t (nI_le (b := 4) (Nat.le_refl 4) (by omega)) ?_)))
    rw [c, cm, ec, mp_2x, nI_add, mp_b0n]
    exact ⟨I, nm_e ⟨Im, I, nm_e ⟨I, nm_e ⟨I, nm_e (nm_e (my_enq hp hn h))⟩⟩⟩⟩
  refine ⟨5, br_f (by decide) (br_t rfl ?_)⟩
  rw [a, c4, a1]
  exact ⟨I4, nm_e (nm_e w3)⟩
theorem mp_make {m : Nat} (h : (mp_D dl dO dA dB ∧ mp_C xo xa xb xl yo ya yb yl cu ∧ mp_V st xv yv xl cu ∧ mp_P st pl ∧ mp_S st ∧ mp_M st mc xt xi yt yi ∧ mp_K st xk yk ∧ mp_K st xm ym ∧ mp_W st xw li ye tm ∧ mp_T tm tc ti T ∧ mp_Q st tk nt run qu qn ∧ mp_E st xr yr ∧ mp_Z 0 st xr xe xz 0 yd ys yz 0 ∧ mp_F st nt C ∧ mp_G G st xv yz)) (hm4 : m < 4) (v : Int32) (hr : run < 8 → mp_al st run) (hGt : ∀ q v, G q v) (hC1 : C + 1 < 2 ^ 40) : ∃ (r : Int32) (st' : Nat → Int32) (tk' : Nat → Int64) (nt' : Int64) (qu' : Nat → Int32) (qn' : Int32) (rg' pl' xv' yv' tr' : Nat → Int32) (md' : Int32), (∀ (post : Int32 → SX → Prop), post r (dl, nt', 0, tc, tm, xn, md', lo, en, dO, dA, dB, xo, xa, xb, xl, st', xr, rg', xv', pl', tr', xk, xm, wt, xw, xt, xi, mc, tk', xe, xz, ti) → wpX_makeProcess post (dl, nt, 0, tc, tm, xn, md, lo, en, dO, dA, dB, xo, xa, xb, xl, st, xr, rg, xv, pl, tr, xk, xm, wt, xw, xt, xi, mc, tk, xe, xz, ti) (nI m) v) ∧ (∀ (post : Int32 → SY → Prop), post r (dl, qn', 0, tm, tc, yn, md', lo, en, yo, ya, yb, yl, cu, ag, dO, dA, dB, st', rg', pl', yv', yr, tr', yt, yi, mc, yk, ym, wt, li, ye, qu', yd, ys, yz, ti) → wpY_make post (dl, qn, 0, tm, tc, yn, md, lo, en, yo, ya, yb, yl, cu, ag, dO, dA, dB, st, rg, pl, yv, yr, tr, yt, yi, mc, yk, ym, wt, li, ye, qu, yd, ys, yz, ti) (nI m) v) ∧ (mp_D dl dO dA dB ∧ mp_C xo xa xb xl yo ya yb yl cu ∧ mp_V st' xv' yv' xl cu ∧ mp_P st' pl' ∧ mp_S st' ∧ mp_M st' mc xt xi yt yi ∧ mp_K st' xk yk ∧ mp_K st' xm ym ∧ mp_W st' xw li ye tm ∧ mp_T tm tc ti T ∧ mp_Q st' tk' nt' run qu' qn' ∧ mp_E st' xr yr ∧ mp_Z 0 st' xr xe xz 0 yd ys yz 0 ∧ mp_F st' nt' (C + 1) ∧ mp_G G st' xv' yz) ∧ (r = -1 ∨ ∃ c, c < 8 ∧ r = nI c ∧ mp_al st' c) ∧ (∀ q, q < 8 → mp_al st q → mp_al st' q ∧ st' q = st q) := by
  have hh := h
  obtain ⟨hD, hC, hV, hP, hS, hM, hK, hm, hW, hT, hQ, hE, hZ, hF, hG⟩ := h
  have cm := nI_clamp (n := m) (by omega)
  have Im := vp_in_nI (n := m) (N := 4) hm4 (by omega)
  have c2 := nI_clamp (n := 2 * m) (by omega)
  have I2 := vp_in_nI (n := 2 * m) (N := 8) (by omega) (by omega)
  have hup := mp_F_R hh (C' := C + 1) (by omega) hC1
  rcases mp_least hS 8 (Nat.le_refl 8) with hall | ⟨p, hp, hdead, hlow⟩
  · refine ⟨-1, st, tk, nt, qu, qn, rg, pl, xv, yv, tr, md, fun post hq => ?_, fun post hq => ?_, hup, Or.inl rfl, fun q _ w => ⟨w, rfl⟩⟩
    · unfold wpX_makeProcess
      dsimp only
      unfold wpX_leastNotAlive
      refine ⟨9, mx_least_l (Nat.le_refl 8) hall _ (fun m => br_t (nI_le (b := 8) (Nat.le_refl 8) (by omega)) (br_t rfl hq)) 8 0 rfl 9 (by omega)⟩
    · unfold wpY_make
      dsimp only
      rw [cm]
      refine ⟨Im, br_c (fun _ => ⟨9, my_make_l (Nat.le_refl 8) hall _ (fun m => br_t (nI_le (b := 8) (Nat.le_refl 8) (by omega)) (br_t rfl hq)) 8 0 rfl 9 (by omega)⟩) (fun _ => hq)⟩
  · have ml := nI_ge (b := 8) hp (by omega)
    have hpn : ¬ nI p = -1 := fun z => by
      have w : (nI p).toInt = (-1 : Int32).toInt := congrArg Int32.toInt z
      rw [nI_toInt (by omega), show (-1 : Int32).toInt = -1 from by decide] at w
      omega
    have cp := nI_clamp (n := p) (by omega)
    have Ip := vp_in_nI (n := p) (N := 8) hp (by omega)
    have hs03 : st p = 0 ∨ st p = 3 := by
      rcases mp_al_of hS hp with ⟨w, _⟩ | ⟨_, w, _⟩
      · exact absurd w hdead
      · exact w
    have hX : ∀ post : Int32 → Prop, post (nI p) → wpX_leastNotAlive post (dl, nt, 0, tc, tm, xn, md, lo, en, dO, dA, dB, xo, xa, xb, xl, st, xr, rg, xv, pl, tr, xk, xm, wt, xw, xt, xi, mc, tk, xe, xz, ti) := fun post hq => by
      unfold wpX_leastNotAlive
      refine ⟨9, mx_least_l (by omega) hlow _ (fun m => br_f ml (And.intro Ip ?_)) p 0 (by omega) 9 (by omega)⟩
      rw [cp]
      rcases hs03 with w | w
      · exact br_t w hq
      · exact br_f (by rw [w]; decide) ⟨Ip, br_t w hq⟩
    rcases hC m hm4 with ⟨e1, e2, e3⟩ | ⟨cc, hcc, e1, hcv, _⟩
    · refine ⟨-1, st, tk, nt, qu, qn, rg, pl, xv, yv, tr, md, fun post hq => by
        unfold wpX_makeProcess
        dsimp only
        refine hX _ (br_f hpn ?_)
        rw [mp_2x, c2]
        exact ⟨I2, br_t e2 hq⟩, fun post hq => ?_, hup, Or.inl rfl, fun q _ w => ⟨w, rfl⟩⟩
      · unfold wpY_make
        dsimp only
        rw [cm, e1]
        exact ⟨Im, br_f (by decide) hq⟩
    · obtain ⟨n0, a1, a2, a3, a4, a5⟩ := hcv
      have ne0 : ¬ xl (2 * m) = 0 := by rw [a3]; exact nI_ne0 a1 (by omega)
      have prn : p ≠ run := fun z => hdead (z ▸ hr (z ▸ hp))
      obtain ⟨n, hn, rfl, hR⟩ := mp_make_R hh hp hdead prn hm4 hcc e1 hGt hC1
      have em : upd mc p 0 = mc := mp_upd_same (mp_M_0 hM hp hdead)
      refine ⟨nI p, _, _, _, _, _, upd (upd (upd (upd rg (4 * p + 0) v) (4 * p + 1) 0) (4 * p + 2) 0) (4 * p + 3) 0, _, _, _, upd tr p 0, md + 1, fun post hq => by
        unfold wpX_makeProcess
        dsimp only
        refine hX _ (br_f hpn ?_)
        rw [mp_2x, c2]
        exact ⟨I2, br_f ne0 (mx_mk hp hm4 hq)⟩, fun post hq => ?_, hR, Or.inr ⟨p, hp, rfl, mp_al_1⟩, fun q _ w => ?_⟩
      · unfold wpY_make
        dsimp only
        rw [cm, e1]
        refine ⟨Im, br_t (nI_pos' (by omega)) ⟨9, my_make_l (by omega) hlow _ (fun m => br_f ml (my_al_f (mp_deadp hp hdead) (br_t rfl (br_f (fun z => absurd ((nI_eq (b := 8) (by omega) (by omega)).mp z) (by omega)) (my_mk hp hm4 hcc e1 hn ?_))))) p 0 (by omega) 9 (by omega)⟩⟩
        rw [em]
        exact hq
      · have ne : q ≠ p := fun z => hdead (z ▸ w)
        exact ⟨(mp_al_n ne).mpr w, pk_un ne⟩
end
