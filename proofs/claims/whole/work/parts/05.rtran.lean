section
variable {dl xc tc tm xn md lo en qn yc yn : Int32} {nt : Int64} {dO dA dB xo xa xb xl st xr rg xv pl tr xk xm wt xw xt xi mc xe xz ti yo ya yb yl cu ag yv yr yt yi yk ym li ye qu yd ys yz : Nat → Int32} {tk : Nat → Int64} {run i p : Nat} {T C : Int} {G : Nat → Int32 → Prop}
theorem mp_m1 : ∀ c, c < 2 → nI c ≠ -1 := by decide +kernel
theorem mp_Q_norun (h : mp_Q st tk nt p qu qn) (h1 : st p ≠ 1) : mp_Q st tk nt 8 qu qn := by
  obtain ⟨L, e, hq, hm, hs, hl, h2⟩ := h
  refine ⟨L, e, hq, fun q => ?_, hs, hl, fun w => absurd w (by omega)⟩
  rw [hm q]
  constructor
  · intro ⟨a, b, c⟩
    exact ⟨a, b, by omega⟩
  · intro ⟨a, b, c⟩
    exact ⟨a, b, fun z => h1 (z ▸ b)⟩
theorem mp_wake_R (h : (mp_D dl dO dA dB ∧ mp_C xo xa xb xl yo ya yb yl cu ∧ mp_V st xv yv xl cu ∧ mp_P st pl ∧ mp_S st ∧ mp_M st mc xt xi yt yi ∧ mp_K st xk yk ∧ mp_K st xm ym ∧ mp_W st xw li ye tm ∧ mp_T tm tc ti T ∧ mp_Q st tk nt run qu qn ∧ mp_E st xr yr ∧ mp_Z i st xr xe xz xc yd ys yz yc ∧ mp_F st nt C ∧ mp_G G st xv yz)) (hp : p < 8) (h2 : st p = 2) : ∃ n, n < 8 ∧ qn = nI n ∧ (mp_D dl dO dA dB ∧ mp_C xo xa xb xl yo ya yb yl cu ∧ mp_V (upd st p 1) xv yv xl cu ∧ mp_P (upd st p 1) pl ∧ mp_S (upd st p 1) ∧ mp_M (upd st p 1) mc xt xi yt yi ∧ mp_K (upd st p 1) xk yk ∧ mp_K (upd st p 1) xm ym ∧ mp_W (upd st p 1) xw li ye tm ∧ mp_T tm tc ti T ∧ mp_Q (upd st p 1) (vp_updL tk p nt) (nt + 1) run (upd qu n (nI p)) (nI (n + 1)) ∧ mp_E (upd st p 1) xr yr ∧ mp_Z i (upd st p 1) xr xe xz xc yd ys yz yc ∧ mp_F (upd st p 1) (nt + 1) C ∧ mp_G G (upd st p 1) xv yz) := by
  obtain ⟨hD, hC, hV, hP, hS, hM, hK, hm, hW, hT, hQ, hE, hZ, hF, hG⟩ := h
  have ha : mp_al st p := Or.inr h2
  have e : ∀ q, q < 8 → (mp_al (upd st p 1) q ↔ mp_al st q) := fun q _ => mp_al_k (Or.inl rfl) ha
  have hr : p ≠ run := fun z => by
    obtain ⟨_, _, _, _, _, _, w⟩ := hQ
    exact w (z ▸ hp) (z ▸ h2)
  obtain ⟨n, hn, en', hQ'⟩ := mp_Q_enq (run' := run) hQ hp (Or.inl (by rw [h2]; decide)) (fun q _ => ⟨Or.inl, fun w => w.elim id (fun w => w ▸ hr)⟩) (fun _ => rfl) hF.1 (by have := hF.2.1; have := hF.2.2; omega)
  refine ⟨n, hn, en', hD, hC, mp_V_st hV (fun q hq => (e q hq).mp), mp_P_1 hP ha, mp_S_u hS (by decide), mp_M_st hM (fun q hq => (e q hq).mpr), mp_K_st hK (fun q hq => (e q hq).mpr), mp_K_st hm (fun q hq => (e q hq).mpr), mp_W_st hW (fun q hq z => ?_), hT, hQ', mp_E_st hE (fun q hq z => ?_), mp_Z_st hZ e, mp_F_wake hF hp h2, mp_G_st hG (fun q hq => (e q hq).mp)⟩
  · by_cases w : q = p
    · subst w; exact h2
    · rw [pk_un w] at z; exact z
  · by_cases w : q = p
    · subst w
      rw [pk_us] at z
      exact absurd z (by decide)
    · rw [pk_un w] at z; exact z
theorem mp_back_R (h : (mp_D dl dO dA dB ∧ mp_C xo xa xb xl yo ya yb yl cu ∧ mp_V st xv yv xl cu ∧ mp_P st pl ∧ mp_S st ∧ mp_M st mc xt xi yt yi ∧ mp_K st xk yk ∧ mp_K st xm ym ∧ mp_W st xw li ye tm ∧ mp_T tm tc ti T ∧ mp_Q st tk nt p qu qn ∧ mp_E st xr yr ∧ mp_Z i st xr xe xz xc yd ys yz yc ∧ mp_F st nt C ∧ mp_G G st xv yz)) (hp : p < 8) (h1 : st p = 1) (hC : C + 1 < 2 ^ 40) : ∃ n, n < 8 ∧ qn = nI n ∧ (mp_D dl dO dA dB ∧ mp_C xo xa xb xl yo ya yb yl cu ∧ mp_V (upd st p 1) xv yv xl cu ∧ mp_P (upd st p 1) pl ∧ mp_S (upd st p 1) ∧ mp_M (upd st p 1) mc xt xi yt yi ∧ mp_K (upd st p 1) xk yk ∧ mp_K (upd st p 1) xm ym ∧ mp_W (upd st p 1) xw li ye tm ∧ mp_T tm tc ti T ∧ mp_Q (upd st p 1) (vp_updL tk p nt) (nt + 1) 8 (upd qu n (nI p)) (nI (n + 1)) ∧ mp_E (upd st p 1) xr yr ∧ mp_Z i (upd st p 1) xr xe xz xc yd ys yz yc ∧ mp_F (upd st p 1) (nt + 1) (C + 1) ∧ mp_G G (upd st p 1) xv yz) := by
  obtain ⟨hD, hC', hV, hP, hS, hM, hK, hm, hW, hT, hQ, hE, hZ, hF, hG⟩ := h
  have e0 : upd st p 1 = st := mp_upd_same h1
  obtain ⟨n, hn, en', hQ'⟩ := mp_Q_enq (run' := 8) hQ hp (Or.inr rfl) (fun q hq => ⟨fun _ => by omega, fun _ => by omega⟩) (fun w => absurd w (by omega)) hF.1 (by have := hF.2.1; have := hF.2.2; omega)
  have hF' := mp_F_new hF hp hC
  refine ⟨n, hn, en', ?_⟩
  rw [e0] at hQ' hF' ⊢
  exact ⟨hD, hC', hV, hP, hS, hM, hK, hm, hW, hT, hQ', hE, hZ, hF', hG⟩
theorem mp_run_R {qu' : Nat → Int32} {qn' : Int32} (h : (mp_D dl dO dA dB ∧ mp_C xo xa xb xl yo ya yb yl cu ∧ mp_V st xv yv xl cu ∧ mp_P st pl ∧ mp_S st ∧ mp_M st mc xt xi yt yi ∧ mp_K st xk yk ∧ mp_K st xm ym ∧ mp_W st xw li ye tm ∧ mp_T tm tc ti T ∧ mp_Q st tk nt 8 qu qn ∧ mp_E st xr yr ∧ mp_Z i st xr xe xz xc yd ys yz yc ∧ mp_F st nt C ∧ mp_G G st xv yz)) (h1 : st p = 1) (hl : mp_lv qu qu' qn qn' p) : (mp_D dl dO dA dB ∧ mp_C xo xa xb xl yo ya yb yl cu ∧ mp_V st xv yv xl cu ∧ mp_P st pl ∧ mp_S st ∧ mp_M st mc xt xi yt yi ∧ mp_K st xk yk ∧ mp_K st xm ym ∧ mp_W st xw li ye tm ∧ mp_T tm tc ti T ∧ mp_Q st tk nt p qu' qn' ∧ mp_E st xr yr ∧ mp_Z i st xr xe xz xc yd ys yz yc ∧ mp_F st nt C ∧ mp_G G st xv yz) := by
  obtain ⟨hD, hC, hV, hP, hS, hM, hK, hm, hW, hT, hQ, hE, hZ, hF, hG⟩ := h
  exact ⟨hD, hC, hV, hP, hS, hM, hK, hm, hW, hT, mp_Q_run hQ hl h1, hE, hZ, hF, hG⟩
theorem mp_norun_R (h : (mp_D dl dO dA dB ∧ mp_C xo xa xb xl yo ya yb yl cu ∧ mp_V st xv yv xl cu ∧ mp_P st pl ∧ mp_S st ∧ mp_M st mc xt xi yt yi ∧ mp_K st xk yk ∧ mp_K st xm ym ∧ mp_W st xw li ye tm ∧ mp_T tm tc ti T ∧ mp_Q st tk nt p qu qn ∧ mp_E st xr yr ∧ mp_Z i st xr xe xz xc yd ys yz yc ∧ mp_F st nt C ∧ mp_G G st xv yz)) (h1 : st p ≠ 1) : (mp_D dl dO dA dB ∧ mp_C xo xa xb xl yo ya yb yl cu ∧ mp_V st xv yv xl cu ∧ mp_P st pl ∧ mp_S st ∧ mp_M st mc xt xi yt yi ∧ mp_K st xk yk ∧ mp_K st xm ym ∧ mp_W st xw li ye tm ∧ mp_T tm tc ti T ∧ mp_Q st tk nt 8 qu qn ∧ mp_E st xr yr ∧ mp_Z i st xr xe xz xc yd ys yz yc ∧ mp_F st nt C ∧ mp_G G st xv yz) := by
  obtain ⟨hD, hC, hV, hP, hS, hM, hK, hm, hW, hT, hQ, hE, hZ, hF, hG⟩ := h
  exact ⟨hD, hC, hV, hP, hS, hM, hK, hm, hW, hT, mp_Q_norun hQ h1, hE, hZ, hF, hG⟩
theorem mp_G_R {G' : Nat → Int32 → Prop} (h : (mp_D dl dO dA dB ∧ mp_C xo xa xb xl yo ya yb yl cu ∧ mp_V st xv yv xl cu ∧ mp_P st pl ∧ mp_S st ∧ mp_M st mc xt xi yt yi ∧ mp_K st xk yk ∧ mp_K st xm ym ∧ mp_W st xw li ye tm ∧ mp_T tm tc ti T ∧ mp_Q st tk nt run qu qn ∧ mp_E st xr yr ∧ mp_Z i st xr xe xz xc yd ys yz yc ∧ mp_F st nt C ∧ mp_G G st xv yz)) (g : ∀ q v, G q v → G' q v) : (mp_D dl dO dA dB ∧ mp_C xo xa xb xl yo ya yb yl cu ∧ mp_V st xv yv xl cu ∧ mp_P st pl ∧ mp_S st ∧ mp_M st mc xt xi yt yi ∧ mp_K st xk yk ∧ mp_K st xm ym ∧ mp_W st xw li ye tm ∧ mp_T tm tc ti T ∧ mp_Q st tk nt run qu qn ∧ mp_E st xr yr ∧ mp_Z i st xr xe xz xc yd ys yz yc ∧ mp_F st nt C ∧ mp_G G' st xv yz) := by
  obtain ⟨hD, hC, hV, hP, hS, hM, hK, hm, hW, hT, hQ, hE, hZ, hF, hG⟩ := h
  exact ⟨hD, hC, hV, hP, hS, hM, hK, hm, hW, hT, hQ, hE, hZ, hF, fun q hq a b => g _ _ (hG q hq a b)⟩
theorem mp_doom_R {reason : Int32} (h : (mp_D dl dO dA dB ∧ mp_C xo xa xb xl yo ya yb yl cu ∧ mp_V st xv yv xl cu ∧ mp_P st pl ∧ mp_S st ∧ mp_M st mc xt xi yt yi ∧ mp_K st xk yk ∧ mp_K st xm ym ∧ mp_W st xw li ye tm ∧ mp_T tm tc ti T ∧ mp_Q st tk nt run qu qn ∧ mp_E st xr yr ∧ mp_Z i st xr xe xz xc yd ys yz yc ∧ mp_F st nt C ∧ mp_G G st xv yz)) (hp : p < 8) (ha : mp_al st p) (hz : yz p = 0) : ∃ d, d < 8 ∧ xc = nI d ∧ yc = nI d ∧ (mp_D dl dO dA dB ∧ mp_C xo xa xb xl yo ya yb yl cu ∧ mp_V st xv yv xl cu ∧ mp_P st pl ∧ mp_S st ∧ mp_M st mc xt xi yt yi ∧ mp_K st xk yk ∧ mp_K st xm ym ∧ mp_W st xw li ye tm ∧ mp_T tm tc ti T ∧ mp_Q st tk nt run qu qn ∧ mp_E st (upd xr p reason) yr ∧ mp_Z i st (upd xr p reason) (upd xe d (nI p)) (upd xz p 1) (nI (d + 1)) (upd yd d (nI p)) (upd ys d reason) (upd yz p 1) (nI (d + 1)) ∧ mp_F st nt C ∧ mp_G (fun q v => G q v ∧ q ≠ p) st xv (upd yz p 1)) := by
  obtain ⟨hD, hC, hV, hP, hS, hM, hK, hm, hW, hT, hQ, hE, hZ, hF, hG⟩ := h
  obtain ⟨d, hd, e1, e2, hZ'⟩ := mp_Z_doom (reason := reason) hZ hp ha hz
  refine ⟨d, hd, e1, e2, hD, hC, hV, hP, hS, hM, hK, hm, hW, hT, hQ, fun q hq z => ?_, hZ', hF, fun q hq a b => ?_⟩
  · have ne : q ≠ p := fun w => by
      subst w
      unfold mp_al at ha
      rw [z] at ha
      exact absurd ha (by decide)
    rw [pk_un ne]
    exact hE q hq z
  · by_cases w : q = p
    · subst w
      rw [pk_us] at b
      exact absurd b (by decide)
    · rw [pk_un w] at b
      exact ⟨hG q hq a b, w⟩
theorem mp_end_R (h : (mp_D dl dO dA dB ∧ mp_C xo xa xb xl yo ya yb yl cu ∧ mp_V st xv yv xl cu ∧ mp_P st pl ∧ mp_S st ∧ mp_M st mc xt xi yt yi ∧ mp_K st xk yk ∧ mp_K st xm ym ∧ mp_W st xw li ye tm ∧ mp_T tm tc ti T ∧ mp_Q st tk nt run qu qn ∧ mp_E st xr yr ∧ mp_Z i st xr xe xz xc yd ys yz yc ∧ mp_F st nt C ∧ mp_G G st xv yz)) (hi : xc ≠ nI i) : ∃ p d, p < 8 ∧ i < d ∧ d ≤ 8 ∧ xc = nI d ∧ yc = nI d ∧ xe i = nI p ∧ yd i = nI p ∧ mp_al st p ∧ xr p = ys i ∧
    ∀ (xk' yk' xm' ym' qu' : Nat → Int32) (qn' : Int32), mp_lv qu qu' qn qn' p →
      (∀ q, q < 8 → q ≠ p → xk' q = xk q &&& (((1 : Int32) <<< (nI p &&& 31)) ^^^ (-1))) → xk' p = 0 → (∀ a b, a < 8 → b < 8 → yk' (8 * a + b) = if a = p ∨ b = p then 0 else yk (8 * a + b)) →
      (∀ q, q < 8 → q ≠ p → xm' q = xm q &&& (((1 : Int32) <<< (nI p &&& 31)) ^^^ (-1))) → xm' p = 0 → (∀ a b, a < 8 → b < 8 → ym' (8 * a + b) = if a = p ∨ b = p then 0 else ym (8 * a + b)) →
      (mp_D dl dO dA dB ∧ mp_C xo xa xb xl yo ya yb yl cu ∧ mp_V (upd st p 3) xv yv xl cu ∧ mp_P (upd st p 3) pl ∧ mp_S (upd st p 3) ∧ mp_M (upd st p 3) (upd mc p 0) xt xi yt yi ∧ mp_K (upd st p 3) xk' yk' ∧ mp_K (upd st p 3) xm' ym' ∧ mp_W (upd st p 3) xw li ye tm ∧ mp_T tm tc ti T ∧ mp_Q (upd st p 3) tk nt run qu' qn' ∧ mp_E (upd st p 3) xr (upd yr p (ys i)) ∧ mp_Z (i + 1) (upd st p 3) xr xe (upd xz p 0) xc yd ys yz yc ∧ mp_F (upd st p 3) nt C ∧ mp_G G (upd st p 3) xv yz) := by
  obtain ⟨hD, hC, hV, hP, hS, hM, hK, hm, hW, hT, hQ, hE, hZ, hF, hG⟩ := h
  obtain ⟨p, d, hp, hd, hd8, c1, c2, e1, e2, ha, e3, e4, hZ'⟩ := mp_Z_end hZ hi
  have ea : ∀ q, q < 8 → mp_al (upd st p 3) q → q ≠ p ∧ mp_al st q := fun q _ z => by
    by_cases w : q = p
    · subst w
      exact absurd z mp_al_3
    · exact ⟨w, (mp_al_n w).mp z⟩
  refine ⟨p, d, hp, hd, hd8, c1, c2, e1, e2, ha, e3, fun xk' yk' xm' ym' qu' qn' hl k1 k2 k3 m1 m2 m3 => ⟨hD, hC, mp_V_st hV (fun q hq z => (ea q hq z).2), fun q hq z => ?_, mp_S_u hS (by decide), mp_M_end hM, mp_K_end hK hp k1 k2 k3, mp_K_end hm hp m1 m2 m3, mp_W_st hW (fun q hq z => ?_), hT, mp_Q_out hQ hl, fun q hq z => ?_, hZ', mp_F_keep hF hp (by decide), mp_G_st hG (fun q hq z => (ea q hq z).2)⟩⟩
  · obtain ⟨ne, z'⟩ := ea q hq z
    rw [pk_un ne]
    exact hP q hq z'
  · by_cases w : q = p
    · subst w
      rw [pk_us] at z
      exact absurd z (by decide)
    · rw [pk_un w] at z; exact z
  · by_cases w : q = p
    · subst w
      rw [pk_us]
      exact e3
    · rw [pk_un w] at z ⊢
      exact hE q hq z
theorem mp_fin_R {yz' : Nat → Int32} (h : (mp_D dl dO dA dB ∧ mp_C xo xa xb xl yo ya yb yl cu ∧ mp_V st xv yv xl cu ∧ mp_P st pl ∧ mp_S st ∧ mp_M st mc xt xi yt yi ∧ mp_K st xk yk ∧ mp_K st xm ym ∧ mp_W st xw li ye tm ∧ mp_T tm tc ti T ∧ mp_Q st tk nt run qu qn ∧ mp_E st xr yr ∧ mp_Z i st xr xe xz xc yd ys yz yc ∧ mp_F st nt C ∧ mp_G G st xv yz)) (hi : xc = nI i) (hz : ∀ q, q < 8 → yz' q = 0) : (mp_D dl dO dA dB ∧ mp_C xo xa xb xl yo ya yb yl cu ∧ mp_V st xv yv xl cu ∧ mp_P st pl ∧ mp_S st ∧ mp_M st mc xt xi yt yi ∧ mp_K st xk yk ∧ mp_K st xm ym ∧ mp_W st xw li ye tm ∧ mp_T tm tc ti T ∧ mp_Q st tk nt run qu qn ∧ mp_E st xr yr ∧ mp_Z 0 st xr xe xz 0 yd ys yz' 0 ∧ mp_F st nt C ∧ mp_G G st xv yz') := by
  obtain ⟨hD, hC, hV, hP, hS, hM, hK, hm, hW, hT, hQ, hE, hZ, hF, hG⟩ := h
  exact ⟨hD, hC, hV, hP, hS, hM, hK, hm, hW, hT, hQ, hE, mp_Z_fin hZ hi hz, hF, fun q hq a _ => hG q hq a (mp_Z_dead hZ hi hq a)⟩
theorem mp_app_R {n : Nat} {tag v : Int32} (h : (mp_D dl dO dA dB ∧ mp_C xo xa xb xl yo ya yb yl cu ∧ mp_V st xv yv xl cu ∧ mp_P st pl ∧ mp_S st ∧ mp_M st mc xt xi yt yi ∧ mp_K st xk yk ∧ mp_K st xm ym ∧ mp_W st xw li ye tm ∧ mp_T tm tc ti T ∧ mp_Q st tk nt run qu qn ∧ mp_E st xr yr ∧ mp_Z i st xr xe xz xc yd ys yz yc ∧ mp_F st nt C ∧ mp_G G st xv yz)) (hp : p < 8) (ha : mp_al st p) (hn : n < 12) (e : mc p = nI n) : (mp_D dl dO dA dB ∧ mp_C xo xa xb xl yo ya yb yl cu ∧ mp_V st xv yv xl cu ∧ mp_P st pl ∧ mp_S st ∧ mp_M st (upd mc p (nI (n + 1))) (upd xt (12 * p + n) tag) (upd xi (12 * p + n) v) (upd yt (12 * p + n) tag) (upd yi (12 * p + n) v) ∧ mp_K st xk yk ∧ mp_K st xm ym ∧ mp_W st xw li ye tm ∧ mp_T tm tc ti T ∧ mp_Q st tk nt run qu qn ∧ mp_E st xr yr ∧ mp_Z i st xr xe xz xc yd ys yz yc ∧ mp_F st nt C ∧ mp_G G st xv yz) := by
  obtain ⟨hD, hC, hV, hP, hS, hM, hK, hm, hW, hT, hQ, hE, hZ, hF, hG⟩ := h
  exact ⟨hD, hC, hV, hP, hS, mp_M_app hM hp ha hn e, hK, hm, hW, hT, hQ, hE, hZ, hF, hG⟩
theorem mp_ver (hC : mp_C xo xa xb xl yo ya yb yl cu) (hV : mp_V st xv yv xl cu) (hp : p < 8) (ha : mp_al st p) : ∃ a b, a < 8 ∧ b < 8 ∧ xv p = nI a ∧ yv p = nI b ∧ mp_CV xo xa xb xl yo ya yb yl a b := by
  obtain ⟨m, c, hm, hc, e, h⟩ := hV p hp ha
  rcases hC m hm with ⟨e1, _, _⟩ | ⟨c', hc', e', hcv, ho⟩
  · exact absurd (e.symm.trans e1) (mp_m1 c hc)
  · have ec : c = c' := by
      have w := e.symm.trans e'
      rw [nI_eq (by omega) (by omega)] at w
      exact w
    subst ec
    rcases h with ⟨h1, h2⟩ | ⟨h1, h2, h3⟩
    · exact ⟨2 * m, 2 * m + c, by omega, by omega, h1, h2, hcv⟩
    · rcases ho with ho | ho
      · exact absurd ho h3
      · exact ⟨2 * m + 1, 2 * m + 1 - c, by omega, by omega, h1, h2, ho⟩
theorem mp_make_R {m c : Nat} (h : (mp_D dl dO dA dB ∧ mp_C xo xa xb xl yo ya yb yl cu ∧ mp_V st xv yv xl cu ∧ mp_P st pl ∧ mp_S st ∧ mp_M st mc xt xi yt yi ∧ mp_K st xk yk ∧ mp_K st xm ym ∧ mp_W st xw li ye tm ∧ mp_T tm tc ti T ∧ mp_Q st tk nt run qu qn ∧ mp_E st xr yr ∧ mp_Z 0 st xr xe xz 0 yd ys yz 0 ∧ mp_F st nt C ∧ mp_G G st xv yz)) (hp : p < 8) (ha : ¬ mp_al st p) (hr : p ≠ run) (hm4 : m < 4) (hc2 : c < 2) (hcu : cu m = nI c) (hGt : ∀ q v, G q v) (hC1 : C + 1 < 2 ^ 40) :
    ∃ n, n < 8 ∧ qn = nI n ∧ (mp_D dl dO dA dB ∧ mp_C xo xa xb xl yo ya yb yl cu ∧ mp_V (upd st p 1) (upd xv p (nI (2 * m))) (upd yv p (nI (2 * m + c))) xl cu ∧ mp_P (upd st p 1) (upd pl p 0) ∧ mp_S (upd st p 1) ∧ mp_M (upd st p 1) mc xt xi yt yi ∧ mp_K (upd st p 1) xk yk ∧ mp_K (upd st p 1) xm ym ∧ mp_W (upd st p 1) xw li ye tm ∧ mp_T tm tc ti T ∧ mp_Q (upd st p 1) (vp_updL tk p nt) (nt + 1) run (upd qu n (nI p)) (nI (n + 1)) ∧ mp_E (upd st p 1) xr yr ∧ mp_Z 0 (upd st p 1) xr xe xz 0 yd ys yz 0 ∧ mp_F (upd st p 1) (nt + 1) (C + 1) ∧ mp_G G (upd st p 1) (upd xv p (nI (2 * m))) yz) := by
  obtain ⟨hD, hC, hV, hP, hS, hM, hK, hm, hW, hT, hQ, hE, hZ, hF, hG⟩ := h
  have hs1 : st p ≠ 1 := fun z => ha (Or.inl z)
  obtain ⟨n, hn, en', hQ'⟩ := mp_Q_enq (run' := run) hQ hp (Or.inl hs1) (fun q _ => ⟨Or.inl, fun w => w.elim id (fun w => w ▸ hr)⟩) (fun _ => rfl) hF.1 (by have := hF.2.1; have := hF.2.2; omega)
  have up : ∀ q, q < 8 → mp_al st q → mp_al (upd st p 1) q := fun q _ z => by
    by_cases w : q = p
    · subst w; exact absurd z ha
    · exact (mp_al_n w).mpr z
  refine ⟨n, hn, en', hD, hC, fun q hq z => ?_, fun q hq z => ?_, mp_S_u hS (by decide), mp_M_st hM up, mp_K_st hK up, mp_K_st hm up, mp_W_st hW (fun q hq z => ?_), hT, hQ', mp_E_st hE (fun q hq z => ?_), mp_Z_0 hZ, mp_F_new hF hp hC1, fun q hq a b => hGt _ _⟩
  · by_cases w : q = p
    · subst w
      rw [pk_us, pk_us]
      exact ⟨m, c, hm4, hc2, hcu, Or.inl ⟨rfl, rfl⟩⟩
    · rw [pk_un w, pk_un w]
      exact hV q hq ((mp_al_n w).mp z)
  · by_cases w : q = p
    · subst w
      rw [pk_us]
      exact ⟨0, by omega, rfl, fun z => by rw [pk_us] at z; exact absurd z (by decide)⟩
    · rw [pk_un w, pk_un w]
      exact hP q hq ((mp_al_n w).mp z)
  · by_cases w : q = p
    · subst w
      rw [pk_us] at z
      exact absurd z (by decide)
    · rw [pk_un w] at z; exact z
  · by_cases w : q = p
    · subst w
      rw [pk_us] at z
      exact absurd z (by decide)
    · rw [pk_un w] at z; exact z
theorem mp_wait_R {n : Nat} {xe' le' ye' : Int32} (h : (mp_D dl dO dA dB ∧ mp_C xo xa xb xl yo ya yb yl cu ∧ mp_V st xv yv xl cu ∧ mp_P st pl ∧ mp_S st ∧ mp_M st mc xt xi yt yi ∧ mp_K st xk yk ∧ mp_K st xm ym ∧ mp_W st xw li ye tm ∧ mp_T tm tc ti T ∧ mp_Q st tk nt p qu qn ∧ mp_E st xr yr ∧ mp_Z 0 st xr xe xz 0 yd ys yz 0 ∧ mp_F st nt C ∧ mp_G G st xv yz)) (hp : p < 8) (h1 : st p = 1) (hn : n < 24) (hw : (le' = 0 ∧ xe' = -1) ∨ (le' ≠ 0 ∧ xe' = ye' ∧ 0 ≤ ye'.toInt ∧ ye'.toInt ≤ tm.toInt + 1000)) (hC1 : C + 1 < 2 ^ 40) :
    (mp_D dl dO dA dB ∧ mp_C xo xa xb xl yo ya yb yl cu ∧ mp_V (upd st p 2) xv yv xl cu ∧ mp_P (upd st p 2) (upd pl p (nI n)) ∧ mp_S (upd st p 2) ∧ mp_M (upd st p 2) mc xt xi yt yi ∧ mp_K (upd st p 2) xk yk ∧ mp_K (upd st p 2) xm ym ∧ mp_W (upd st p 2) (upd xw p xe') (upd li p le') (upd ye p ye') tm ∧ mp_T tm tc ti T ∧ mp_Q (upd st p 2) tk nt 8 qu qn ∧ mp_E (upd st p 2) xr yr ∧ mp_Z 0 (upd st p 2) xr xe xz 0 yd ys yz 0 ∧ mp_F (upd st p 2) nt (C + 1) ∧ mp_G G (upd st p 2) xv yz) := by
  obtain ⟨hD, hC, hV, hP, hS, hM, hK, hm, hW, hT, hQ, hE, hZ, hF, hG⟩ := h
  have ha : mp_al st p := Or.inl h1
  have e : ∀ q, q < 8 → (mp_al (upd st p 2) q ↔ mp_al st q) := fun q _ => mp_al_k (Or.inr rfl) ha
  refine ⟨hD, hC, mp_V_st hV (fun q hq => (e q hq).mp), fun q hq z => ?_, mp_S_u hS (by decide), mp_M_st hM (fun q hq => (e q hq).mpr), mp_K_st hK (fun q hq => (e q hq).mpr), mp_K_st hm (fun q hq => (e q hq).mpr), fun q hq z => ?_, hT, ?_, mp_E_st hE (fun q hq z => ?_), mp_Z_0 hZ, mp_F_wait hF hp (by rw [h1]; decide) hC1, mp_G_st hG (fun q hq => (e q hq).mp)⟩
  · by_cases w : q = p
    · subst w
      rw [pk_us]
      exact ⟨n, by omega, rfl, fun _ => hn⟩
    · rw [pk_un w, pk_un w]
      exact hP q hq ((mp_al_n w).mp z)
  · by_cases w : q = p
    · subst w
      rw [pk_us, pk_us, pk_us]
      exact hw
    · rw [pk_un w] at z
      rw [pk_un w, pk_un w, pk_un w]
      exact hW q hq z
  · obtain ⟨L, e1, hq, hm1, hs, hl, h2⟩ := hQ
    refine ⟨L, e1, hq, fun q => ?_, hs, hl, fun w => absurd w (by omega)⟩
    rw [hm1 q]
    by_cases w : q = p
    · subst w
      rw [pk_us]
      exact ⟨fun z => absurd rfl z.2.2, fun z => absurd z.2.1 (by decide)⟩
    · rw [pk_un w]
      exact ⟨fun z => ⟨z.1, z.2.1, by omega⟩, fun z => ⟨z.1, z.2.1, w⟩⟩
  · by_cases w : q = p
    · subst w
      rw [pk_us] at z
      exact absurd z (by decide)
    · rw [pk_un w] at z; exact z
theorem mp_tick_R (h : (mp_D dl dO dA dB ∧ mp_C xo xa xb xl yo ya yb yl cu ∧ mp_V st xv yv xl cu ∧ mp_P st pl ∧ mp_S st ∧ mp_M st mc xt xi yt yi ∧ mp_K st xk yk ∧ mp_K st xm ym ∧ mp_W st xw li ye tm ∧ mp_T tm tc ti T ∧ mp_Q st tk nt run qu qn ∧ mp_E st xr yr ∧ mp_Z i st xr xe xz xc yd ys yz yc ∧ mp_F st nt C ∧ mp_G G st xv yz)) (hT1 : T < 1900000000) : (mp_D dl dO dA dB ∧ mp_C xo xa xb xl yo ya yb yl cu ∧ mp_V st xv yv xl cu ∧ mp_P st pl ∧ mp_S st ∧ mp_M st mc xt xi yt yi ∧ mp_K st xk yk ∧ mp_K st xm ym ∧ mp_W st xw li ye (tm + 1) ∧ mp_T (tm + 1) tc ti (T + 1) ∧ mp_Q st tk nt run qu qn ∧ mp_E st xr yr ∧ mp_Z i st xr xe xz xc yd ys yz yc ∧ mp_F st nt C ∧ mp_G G st xv yz) ∧ (tm + 1).toInt = tm.toInt + 1 := by
  obtain ⟨hD, hC, hV, hP, hS, hM, hK, hm, hW, hT, hQ, hE, hZ, hF, hG⟩ := h
  obtain ⟨a, b, c, d, e⟩ := hT
  have e1 := mp_t1 a (by omega)
  refine ⟨⟨hD, hC, hV, hP, hS, hM, hK, hm, fun q hq z => ?_, ⟨by omega, by omega, c, by omega, e⟩, hQ, hE, hZ, hF, hG⟩, e1⟩
  rcases hW q hq z with w | ⟨w1, w2, w3, w4⟩
  · exact Or.inl w
  · exact Or.inr ⟨w1, w2, w3, by omega⟩
theorem mp_place_R {n : Nat} (h : (mp_D dl dO dA dB ∧ mp_C xo xa xb xl yo ya yb yl cu ∧ mp_V st xv yv xl cu ∧ mp_P st pl ∧ mp_S st ∧ mp_M st mc xt xi yt yi ∧ mp_K st xk yk ∧ mp_K st xm ym ∧ mp_W st xw li ye tm ∧ mp_T tm tc ti T ∧ mp_Q st tk nt run qu qn ∧ mp_E st xr yr ∧ mp_Z i st xr xe xz xc yd ys yz yc ∧ mp_F st nt C ∧ mp_G G st xv yz)) (h1 : st p ≠ 2) (hn : n ≤ 24) : (mp_D dl dO dA dB ∧ mp_C xo xa xb xl yo ya yb yl cu ∧ mp_V st xv yv xl cu ∧ mp_P st (upd pl p (nI n)) ∧ mp_S st ∧ mp_M st mc xt xi yt yi ∧ mp_K st xk yk ∧ mp_K st xm ym ∧ mp_W st xw li ye tm ∧ mp_T tm tc ti T ∧ mp_Q st tk nt run qu qn ∧ mp_E st xr yr ∧ mp_Z i st xr xe xz xc yd ys yz yc ∧ mp_F st nt C ∧ mp_G G st xv yz) := by
  obtain ⟨hD, hC, hV, hP, hS, hM, hK, hm, hW, hT, hQ, hE, hZ, hF, hG⟩ := h
  refine ⟨hD, hC, hV, fun q hq z => ?_, hS, hM, hK, hm, hW, hT, hQ, hE, hZ, hF, hG⟩
  by_cases w : q = p
  · subst w
    rw [pk_us]
    exact ⟨n, hn, rfl, fun w => absurd w h1⟩
  · rw [pk_un w]
    exact hP q hq z
theorem mp_call_R {m c : Nat} (h : (mp_D dl dO dA dB ∧ mp_C xo xa xb xl yo ya yb yl cu ∧ mp_V st xv yv xl cu ∧ mp_P st pl ∧ mp_S st ∧ mp_M st mc xt xi yt yi ∧ mp_K st xk yk ∧ mp_K st xm ym ∧ mp_W st xw li ye tm ∧ mp_T tm tc ti T ∧ mp_Q st tk nt run qu qn ∧ mp_E st xr yr ∧ mp_Z i st xr xe xz xc yd ys yz yc ∧ mp_F st nt C ∧ mp_G G st xv yz)) (h1 : st p ≠ 2) (hm4 : m < 4) (hc2 : c < 2) (hcu : cu m = nI c) (hGt : ∀ q v, G q v) : (mp_D dl dO dA dB ∧ mp_C xo xa xb xl yo ya yb yl cu ∧ mp_V st (upd xv p (nI (2 * m))) (upd yv p (nI (2 * m + c))) xl cu ∧ mp_P st (upd pl p 0) ∧ mp_S st ∧ mp_M st mc xt xi yt yi ∧ mp_K st xk yk ∧ mp_K st xm ym ∧ mp_W st xw li ye tm ∧ mp_T tm tc ti T ∧ mp_Q st tk nt run qu qn ∧ mp_E st xr yr ∧ mp_Z i st xr xe xz xc yd ys yz yc ∧ mp_F st nt C ∧ mp_G G st (upd xv p (nI (2 * m))) yz) := by
  obtain ⟨hD, hC, hV, hP, hS, hM, hK, hm, hW, hT, hQ, hE, hZ, hF, hG⟩ := mp_place_R (p := p) (n := 0) h h1 (by omega)
  refine ⟨hD, hC, fun q hq z => ?_, hP, hS, hM, hK, hm, hW, hT, hQ, hE, hZ, hF, fun q _ _ _ => hGt _ _⟩
  by_cases w : q = p
  · subst w
    rw [pk_us, pk_us]
    exact ⟨m, c, hm4, hc2, hcu, Or.inl ⟨rfl, rfl⟩⟩
  · rw [pk_un w, pk_un w]
    exact hV q hq z
theorem mp_F_R {C' : Int} (h : (mp_D dl dO dA dB ∧ mp_C xo xa xb xl yo ya yb yl cu ∧ mp_V st xv yv xl cu ∧ mp_P st pl ∧ mp_S st ∧ mp_M st mc xt xi yt yi ∧ mp_K st xk yk ∧ mp_K st xm ym ∧ mp_W st xw li ye tm ∧ mp_T tm tc ti T ∧ mp_Q st tk nt run qu qn ∧ mp_E st xr yr ∧ mp_Z i st xr xe xz xc yd ys yz yc ∧ mp_F st nt C ∧ mp_G G st xv yz)) (h1 : C ≤ C') (h2 : C' < 2 ^ 40) : (mp_D dl dO dA dB ∧ mp_C xo xa xb xl yo ya yb yl cu ∧ mp_V st xv yv xl cu ∧ mp_P st pl ∧ mp_S st ∧ mp_M st mc xt xi yt yi ∧ mp_K st xk yk ∧ mp_K st xm ym ∧ mp_W st xw li ye tm ∧ mp_T tm tc ti T ∧ mp_Q st tk nt run qu qn ∧ mp_E st xr yr ∧ mp_Z i st xr xe xz xc yd ys yz yc ∧ mp_F st nt C' ∧ mp_G G st xv yz) := by
  obtain ⟨hD, hC, hV, hP, hS, hM, hK, hm, hW, hT, hQ, hE, hZ, hF, hG⟩ := h
  exact ⟨hD, hC, hV, hP, hS, hM, hK, hm, hW, hT, hQ, hE, hZ, mp_F_up hF h1 h2, hG⟩
theorem mp_T_R {T' : Int} (h : (mp_D dl dO dA dB ∧ mp_C xo xa xb xl yo ya yb yl cu ∧ mp_V st xv yv xl cu ∧ mp_P st pl ∧ mp_S st ∧ mp_M st mc xt xi yt yi ∧ mp_K st xk yk ∧ mp_K st xm ym ∧ mp_W st xw li ye tm ∧ mp_T tm tc ti T ∧ mp_Q st tk nt run qu qn ∧ mp_E st xr yr ∧ mp_Z i st xr xe xz xc yd ys yz yc ∧ mp_F st nt C ∧ mp_G G st xv yz)) (h1 : T ≤ T') : (mp_D dl dO dA dB ∧ mp_C xo xa xb xl yo ya yb yl cu ∧ mp_V st xv yv xl cu ∧ mp_P st pl ∧ mp_S st ∧ mp_M st mc xt xi yt yi ∧ mp_K st xk yk ∧ mp_K st xm ym ∧ mp_W st xw li ye tm ∧ mp_T tm tc ti T' ∧ mp_Q st tk nt run qu qn ∧ mp_E st xr yr ∧ mp_Z i st xr xe xz xc yd ys yz yc ∧ mp_F st nt C ∧ mp_G G st xv yz) := by
  obtain ⟨hD, hC, hV, hP, hS, hM, hK, hm, hW, hT, hQ, hE, hZ, hF, hG⟩ := h
  obtain ⟨a, b, c, d, e⟩ := hT
  exact ⟨hD, hC, hV, hP, hS, hM, hK, hm, hW, ⟨a, by omega, c, d, e⟩, hQ, hE, hZ, hF, hG⟩
theorem mp_jump_R {tm' : Int32} (h : (mp_D dl dO dA dB ∧ mp_C xo xa xb xl yo ya yb yl cu ∧ mp_V st xv yv xl cu ∧ mp_P st pl ∧ mp_S st ∧ mp_M st mc xt xi yt yi ∧ mp_K st xk yk ∧ mp_K st xm ym ∧ mp_W st xw li ye tm ∧ mp_T tm tc ti T ∧ mp_Q st tk nt run qu qn ∧ mp_E st xr yr ∧ mp_Z i st xr xe xz xc yd ys yz yc ∧ mp_F st nt C ∧ mp_G G st xv yz)) (h0 : tm.toInt ≤ tm'.toInt) (h1 : tm'.toInt ≤ T + 1000) : (mp_D dl dO dA dB ∧ mp_C xo xa xb xl yo ya yb yl cu ∧ mp_V st xv yv xl cu ∧ mp_P st pl ∧ mp_S st ∧ mp_M st mc xt xi yt yi ∧ mp_K st xk yk ∧ mp_K st xm ym ∧ mp_W st xw li ye tm' ∧ mp_T tm' tc ti (T + 1000) ∧ mp_Q st tk nt run qu qn ∧ mp_E st xr yr ∧ mp_Z i st xr xe xz xc yd ys yz yc ∧ mp_F st nt C ∧ mp_G G st xv yz) := by
  obtain ⟨hD, hC, hV, hP, hS, hM, hK, hm, hW, hT, hQ, hE, hZ, hF, hG⟩ := h
  obtain ⟨a, b, c, d, e⟩ := hT
  refine ⟨hD, hC, hV, hP, hS, hM, hK, hm, fun q hq z => ?_, ⟨by omega, h1, c, by omega, e⟩, hQ, hE, hZ, hF, hG⟩
  rcases hW q hq z with w | ⟨w1, w2, w3, w4⟩
  · exact Or.inl w
  · exact Or.inr ⟨w1, w2, w3, by omega⟩
end
