section
variable {dl xc tc tm xn md lo en qn yc yn : Int32} {nt : Int64} {dO dA dB xo xa xb xl st xr rg xv pl tr xk xm wt xw xt xi mc xe xz ti yo ya yb yl cu ag yv yr yt yi yk ym li ye qu yd ys yz : Nat → Int32} {tk : Nat → Int64} {run i p : Nat} {T C : Int} {G : Nat → Int32 → Prop}
theorem mp_d2 {b : Nat} (hb : b < 2 ^ 31) : nI b / 2 = nI (b / 2) := pk_div (d := 2) hb (by omega) (by omega)
theorem mp_2m1 (m : Nat) : 2 * nI m + 1 = nI (2 * m + 1) := by rw [mp_2x, nI_1]
/-! who runs old code -/
theorem mp_old2 {m : Nat} (hV : mp_V st xv yv xl cu) (hp : p < 8) (ha : mp_al st p) (hm4 : m < 4) : ∃ a b, a < 8 ∧ b < 8 ∧ xv p = nI a ∧ yv p = nI b ∧ b / 2 = a / 2 ∧ (a = 2 * m + 1 ↔ b / 2 = m ∧ nI b ≠ nI (2 * m) + cu m) ∧ (a % 2 = 0 ↔ nI b = nI (2 * (b / 2)) + cu (b / 2)) := by
  obtain ⟨mm, c, hmm, hc, e, h⟩ := hV p hp ha
  rcases h with ⟨h1, h2⟩ | ⟨h1, h2, h3⟩
  · refine ⟨2 * mm, 2 * mm + c, by omega, by omega, h1, h2, by omega, ⟨fun w => absurd w (by omega), fun w => ?_⟩, ⟨fun _ => ?_, fun _ => by omega⟩⟩
    · have e1 : mm = m := by omega
      subst e1
      rw [e, nI_add] at w
      exact absurd rfl w.2
    · have e1 : (2 * mm + c) / 2 = mm := by omega
      rw [e1, e, nI_add]
  · refine ⟨2 * mm + 1, 2 * mm + 1 - c, by omega, by omega, h1, h2, by omega, ⟨fun w => ⟨by omega, ?_⟩, fun w => by omega⟩, ⟨fun w => absurd w (by omega), fun w => ?_⟩⟩
    · have e1 : mm = m := by omega
      subst e1
      rw [e, nI_add]
      intro w
      rw [nI_eq (by omega) (by omega)] at w
      omega
    · have e1 : (2 * mm + 1 - c) / 2 = mm := by omega
      rw [e1, e, nI_add, nI_eq (by omega) (by omega)] at w
      omega
theorem my_old {m : Nat} {post : Int32 → Prop} (hS : mp_S st) (hV : mp_V st xv yv xl cu) (hp : p < 8) (hm4 : m < 4) (ht : mp_al st p → xv p = nI (2 * m + 1) → post 1) (hf : ¬ (mp_al st p ∧ xv p = nI (2 * m + 1)) → post 0) : wpY_isOld post (dl, qn, yc, tm, tc, yn, md, lo, en, yo, ya, yb, yl, cu, ag, dO, dA, dB, st, rg, pl, yv, yr, tr, yt, yi, mc, yk, ym, wt, li, ye, qu, yd, ys, yz, ti) (nI p) (nI m) := by
  have c := nI_clamp (n := p) (by omega)
  have I := vp_in_nI (n := p) (N := 8) hp (by omega)
  have cm := nI_clamp (n := m) (by omega)
  have Im := vp_in_nI (n := m) (N := 4) hm4 (by omega)
  have n2 : ¬ (2 : Int32) = 0 := by decide
  unfold wpY_isOld
  dsimp only
  rcases mp_al_of hS hp with ⟨ha, _⟩ | ⟨hd, _⟩
  · obtain ⟨a, b, ha8, hb8, e1, e2, e3, e4, _⟩ := mp_old2 hV hp ha hm4
    refine my_al_t hp ha (br_f (by decide) (And.intro I (And.intro n2 ?_)))
    rw [c, e2, cm, mp_d2 (by omega), mp_2x]
    by_cases h1 : b / 2 = m
    · refine br_t (congrArg nI h1) ⟨I, Im, ?_⟩
      by_cases h2 : nI b = nI (2 * m) + cu m
      · exact br_t h2 (hf (fun z => by
          have w := z.2
          rw [e1, nI_eq (by omega) (by omega)] at w
          exact (e4.mp w).2 h2))
      · exact br_f h2 (ht ha (by rw [e1]; exact congrArg nI (e4.mpr ⟨h1, h2⟩)))
    · exact br_f (mp_nI_inj (by omega) (by omega) h1) (hf (fun z => by
        have w := z.2
        rw [e1, nI_eq (by omega) (by omega)] at w
        exact h1 (e4.mp w).1))
  · exact my_al_f (mp_deadp hp hd) (br_t rfl (hf (fun z => hd z.1)))
theorem mx_oiu_l {m : Nat} (hS : mp_S st) (hm4 : m < 4) (w1 : Int32) (hw1 : w1 = 0 ∨ w1 = 1) (hr : w1 = 0 → ∀ q, q < 8 → mp_al st q → xv q ≠ nI (2 * m + 1)) : ∀ d q, q + d = 8 → ∀ (w : Int32), (w = 0 ∨ w = w1) → (w1 = 1 → w = 1 ∨ ∃ p, q ≤ p ∧ p < 8 ∧ mp_al st p ∧ xv p = nI (2 * m + 1)) → ∀ (post : Int32 → Prop) n, d < n → post w1 → wX_isOldInUse_4 post (nI m) dl nt xc tc tm xn md lo en dO dA dB xo xa xb xl st xr rg xv pl tr xk xm wt xw xt xi mc tk xe xz ti n w (nI q) := by
  intro d
  induction d with
  | zero =>
    intro q hq w hw he post n hn h
    have e : q = 8 := by omega
    subst e
    obtain ⟨k, rfl⟩ := mp_pos hn
    have ew : w = w1 := by
      rcases hw1 with z | z
      · rcases hw with y | y
        · rw [y, z]
        · exact y
      · rcases he z with y | ⟨p, a1, a2, _⟩
        · rw [y, z]
        · omega
    rw [ew]
    refine br_t (nI_le (b := 8) (Nat.le_refl 8) (by omega)) ⟨?_, h⟩
    rcases hw1 with z | z <;> rw [z] <;> rfl
  | succ d ih =>
    intro q hq w hw he post n hn h
    obtain ⟨k, rfl⟩ := mp_pos hn
    have c := nI_clamp (n := q) (by omega)
    have I := vp_in_nI (n := q) (N := 8) (by omega) (by omega)
    refine br_f (nI_ge (b := 8) (by omega) (by omega)) ?_
    rw [c, mp_2m1]
    rcases mp_al_of hS (p := q) (by omega) with ⟨ha, _⟩ | ⟨hd, _⟩
    · refine mx_al_t (by omega) ha (br_f (by decide) ⟨I, ?_⟩)
      by_cases hv : xv q = nI (2 * m + 1)
      · have e1 : w1 = 1 := by
          rcases hw1 with z | z
          · exact absurd hv (hr z q (by omega) ha)
          · exact z
        exact br_t hv (nm_r (nI_1 q) (ih (q + 1) (by omega) 1 (Or.inr e1.symm) (fun _ => Or.inl rfl) post k (by omega) h))
      · exact br_f hv (nm_r (nI_1 q) (ih (q + 1) (by omega) w hw (fun z => by
          rcases he z with y | ⟨p, a1, a2, a3, a4⟩
          · exact Or.inl y
          · refine Or.inr ⟨p, ?_, a2, a3, a4⟩
            by_cases y : p = q
            · subst y; exact absurd a4 hv
            · omega) post k (by omega) h))
    · refine mx_al_f (mp_deadp (by omega) hd) (br_t rfl (nm_r (nI_1 q) (ih (q + 1) (by omega) w hw (fun z => ?_) post k (by omega) h)))
      rcases he z with y | ⟨p, a1, a2, a3, a4⟩
      · exact Or.inl y
      · refine Or.inr ⟨p, ?_, a2, a3, a4⟩
        by_cases y : p = q
        · subst y; exact absurd a3 hd
        · omega
theorem my_ld20_l {m e : Nat} (hS : mp_S st) (hV : mp_V st xv yv xl cu) (hm4 : m < 4) (he : e ≤ 8) (hq : ∀ q, q < e → ¬ (mp_al st q ∧ xv q = nI (2 * m + 1))) (post : Int32 → SY → Prop) (hE : ∀ k, wY_load_20 post (nI m) dl qn yc tm tc yn md lo en yo ya yb yl cu ag dO dA dB st rg pl yv yr tr yt yi mc yk ym wt li ye qu yd ys yz ti (k + 1) (nI e)) : ∀ d q, q + d = e → ∀ n, d < n → wY_load_20 post (nI m) dl qn yc tm tc yn md lo en yo ya yb yl cu ag dO dA dB st rg pl yv yr tr yt yi mc yk ym wt li ye qu yd ys yz ti n (nI q) := by
  intro d
  induction d with
  | zero =>
    intro q h n hn
    have : q = e := by omega
    subst this
    obtain ⟨k, rfl⟩ := mp_pos hn
    exact hE k
  | succ d ih =>
    intro q h n hn
    obtain ⟨k, rfl⟩ := mp_pos hn
    exact br_f (nI_ge (b := 8) (by omega) (by omega)) (my_old hS hV (by omega) hm4 (fun a b => absurd ⟨a, b⟩ (hq q (by omega))) (fun _ => br_t rfl (nm_r (nI_1 q) (ih (q + 1) (by omega) k (by omega)))))
/-! X's tables are moved -/
def mp_ldq (f f' d : Nat → Int32) (m q : Nat) : Prop := (∀ i, q ≤ i → i < 24 → f' (48 * m + 24 + i) = f (48 * m + i) ∧ f' (48 * m + i) = d i) ∧ (∀ j, (j < 48 * m + q ∨ (48 * m + 24 ≤ j ∧ j < 48 * m + 24 + q) ∨ 48 * m + 48 ≤ j) → f' j = f j)
theorem mp_ldq_s {f f' d : Nat → Int32} {m q : Nat} (hq : q < 24) (h : mp_ldq (upd (upd f (48 * m + q + 24) (f (48 * m + q))) (48 * m + q) (d q)) f' d m (q + 1)) : mp_ldq f f' d m q := by
  obtain ⟨h1, h2⟩ := h
  refine ⟨fun i a b => ?_, fun j hj => ?_⟩
  · by_cases e : i = q
    · subst e
      rw [h2 (48 * m + 24 + i) (by omega), h2 (48 * m + i) (by omega), pk_us, pk_un (by omega), show 48 * m + 24 + i = 48 * m + i + 24 by omega, pk_us]
      exact ⟨rfl, rfl⟩
    · have w := h1 i (by omega) b
      rw [pk_un (by omega), pk_un (by omega)] at w
      exact w
  · rw [h2 j (by omega), pk_un (by omega), pk_un (by omega)]
theorem mx_ld_l {m : Nat} (hm4 : m < 4) : ∀ d q, q + d = 24 → ∀ xo xa xb : Nat → Int32, ∃ xo' xa' xb' : Nat → Int32, mp_ldq xo xo' dO m q ∧ mp_ldq xa xa' dA m q ∧ mp_ldq xb xb' dB m q ∧ ∀ (post : Int32 → SX → Prop) n, d < n → wX_load_31 post (nI (2 * m)) dl nt xc tc tm xn md lo en 1 (nI 24) dO dA dB xo' xa' xb' xl st xr rg xv pl tr xk xm wt xw xt xi mc tk xe xz ti → wX_load_31 post (nI (2 * m)) dl nt xc tc tm xn md lo en n (nI q) dO dA dB xo xa xb xl st xr rg xv pl tr xk xm wt xw xt xi mc tk xe xz ti := by
  intro d
  induction d with
  | zero =>
    intro q hq xo xa xb
    have e : q = 24 := by omega
    subst e
    refine ⟨xo, xa, xb, ⟨fun i a b => absurd b (by omega), fun j _ => rfl⟩, ⟨fun i a b => absurd b (by omega), fun j _ => rfl⟩, ⟨fun i a b => absurd b (by omega), fun j _ => rfl⟩, fun post n hn h => ?_⟩
    obtain ⟨k, rfl⟩ := mp_pos hn
    have h24 : (24 : Int32) ≤ nI 24 := nI_le (b := 24) (Nat.le_refl 24) (by omega)
    exact br_t h24 (h.1 h24)
  | succ d ih =>
    intro q hq xo xa xb
    obtain ⟨xo', xa', xb', s1, s2, s3, hX⟩ := ih (q + 1) (by omega) (upd (upd xo (48 * m + q + 24) (xo (48 * m + q))) (48 * m + q) (dO q)) (upd (upd xa (48 * m + q + 24) (xa (48 * m + q))) (48 * m + q) (dA q)) (upd (upd xb (48 * m + q + 24) (xb (48 * m + q))) (48 * m + q) (dB q))
    refine ⟨xo', xa', xb', mp_ldq_s (by omega) s1, mp_ldq_s (by omega) s2, mp_ldq_s (by omega) s3, fun post n hn h => ?_⟩
    obtain ⟨k, rfl⟩ := mp_pos hn
    have c := nI_clamp (n := q) (by omega)
    have I := vp_in_nI (n := q) (N := 24) (by omega) (by omega)
    have c1 := nI_clamp (n := 48 * m + q) (by omega)
    have I1 := vp_in_nI (n := 48 * m + q) (N := 192) (by omega) (by omega)
    have c2 := nI_clamp (n := 48 * m + q + 24) (by omega)
    have I2 := vp_in_nI (n := 48 * m + q + 24) (N := 192) (by omega) (by omega)
    refine br_f (nI_ge (b := 24) (by omega) (by omega)) (nm_r (e' := nI (48 * m + q)) (by rw [mp_x24, nI_add]; exact congrArg nI (by omega)) (nm_r (e' := nI (48 * m + q + 24)) (nI_add (48 * m + q) 24) ?_))
    rw [c, c1, c2]
    exact ⟨I1, I2, nm_e ⟨I1, I2, nm_e ⟨I1, I2, nm_e ⟨I, I1, nm_e ⟨I, I1, nm_e ⟨I, I1, nm_e (nm_r (nI_1 q) (hX post k (by omega) h))⟩⟩⟩⟩⟩⟩
theorem mx_ldv_l {m : Nat} (hm4 : m < 4) : ∀ d q, q + d = 8 → ∀ xv : Nat → Int32, ∃ xv' : Nat → Int32, (∀ j, j < 8 → xv' j = if q ≤ j ∧ xv j = nI (2 * m) then nI (2 * m + 1) else xv j) ∧ ∀ (post : Int32 → SX → Prop) n, d < n → post 1 (dl, nt, xc, tc, tm, xn, md, lo, en, dO, dA, dB, xo, xa, xb, xl, st, xr, rg, xv', pl, tr, xk, xm, wt, xw, xt, xi, mc, tk, xe, xz, ti) → wX_load_170 post (nI (2 * m)) dl nt xc tc tm xn md lo en n (nI q) dO dA dB xo xa xb xl st xr rg xv pl tr xk xm wt xw xt xi mc tk xe xz ti := by
  intro d
  induction d with
  | zero =>
    intro q hq xv
    have e : q = 8 := by omega
    subst e
    refine ⟨xv, fun j hj => by rw [if_neg (by omega)], fun post n hn h => ?_⟩
    obtain ⟨k, rfl⟩ := mp_pos hn
    exact br_t (nI_le (b := 8) (Nat.le_refl 8) (by omega)) h
  | succ d ih =>
    intro q hq xv
    have c := nI_clamp (n := q) (by omega)
    have I := vp_in_nI (n := q) (N := 8) (by omega) (by omega)
    by_cases hv : xv q = nI (2 * m)
    · obtain ⟨xv', s1, hX⟩ := ih (q + 1) (by omega) (upd xv q (nI (2 * m + 1)))
      refine ⟨xv', fun j hj => ?_, fun post n hn h => ?_⟩
      · rw [s1 j hj]
        by_cases e : j = q
        · subst e
          rw [if_neg (by omega), pk_us, if_pos ⟨Nat.le_refl j, hv⟩]
        · rw [pk_un e]
          by_cases w : q ≤ j ∧ xv j = nI (2 * m)
          · rw [if_pos ⟨by omega, w.2⟩, if_pos w]
          · rw [if_neg (fun z => w ⟨by omega, z.2⟩), if_neg w]
      · obtain ⟨k, rfl⟩ := mp_pos hn
        refine br_f (nI_ge (b := 8) (by omega) (by omega)) (And.intro I ?_)
        rw [c, nI_1]
        exact br_t hv ⟨I, nm_e (nm_r (nI_1 q) (hX post k (by omega) h))⟩
    · obtain ⟨xv', s1, hX⟩ := ih (q + 1) (by omega) xv
      refine ⟨xv', fun j hj => ?_, fun post n hn h => ?_⟩
      · rw [s1 j hj]
        by_cases w : q ≤ j ∧ xv j = nI (2 * m)
        · have : j ≠ q := fun z => hv (z ▸ w.2)
          rw [if_pos ⟨by omega, w.2⟩, if_pos w]
        · rw [if_neg (fun z => w ⟨by omega, z.2⟩), if_neg w]
      · obtain ⟨k, rfl⟩ := mp_pos hn
        refine br_f (nI_ge (b := 8) (by omega) (by omega)) (And.intro I ?_)
        rw [c]
        exact br_f hv (nm_r (nI_1 q) (hX post k (by omega) h))
/-! Y's draft is copied -/
def mp_lyq (g g' d : Nat → Int32) (v n q : Nat) : Prop := (∀ k, q ≤ k → k < n → g' (24 * v + k) = d k) ∧ (∀ j, (j < 24 * v + q ∨ 24 * v + n ≤ j) → g' j = g j)
theorem mp_lyq_s {g g' d : Nat → Int32} {v n q : Nat} (hq : q < n) (h : mp_lyq (upd g (24 * v + q) (d q)) g' d v n (q + 1)) : mp_lyq g g' d v n q := by
  obtain ⟨h1, h2⟩ := h
  refine ⟨fun k a b => ?_, fun j hj => ?_⟩
  · by_cases e : k = q
    · subst e
      rw [h2 _ (by omega), pk_us]
    · exact h1 k (by omega) b
  · rw [h2 j (by omega), pk_un (by omega)]
theorem my_ld_l {v n0 : Nat} (hv : v < 8) (hn0 : n0 ≤ 24) : ∀ d q, q + d = n0 → ∀ yo ya yb : Nat → Int32, ∃ yo' ya' yb' : Nat → Int32, mp_lyq yo yo' dO v n0 q ∧ mp_lyq ya ya' dA v n0 q ∧ mp_lyq yb yb' dB v n0 q ∧ ∀ (post : Int32 → SY → Prop) n, d < n → post 1 (0, qn, yc, tm, tc, yn, md, lo, en, yo', ya', yb', upd yl v (nI n0), cu, ag, dO, dA, dB, st, rg, pl, yv, yr, tr, yt, yi, mc, yk, ym, wt, li, ye, qu, yd, ys, yz, ti) → wY_load_96 post (nI v) (nI n0) qn yc tm tc yn md lo en n (nI q) yo ya yb yl cu ag dO dA dB st rg pl yv yr tr yt yi mc yk ym wt li ye qu yd ys yz ti := by
  intro d
  have cv := nI_clamp (n := v) (by omega)
  have Iv := vp_in_nI (n := v) (N := 8) hv (by omega)
  induction d with
  | zero =>
    intro q hq yo ya yb
    have e : q = n0 := by omega
    subst e
    refine ⟨yo, ya, yb, ⟨fun i a b => absurd b (by omega), fun j _ => rfl⟩, ⟨fun i a b => absurd b (by omega), fun j _ => rfl⟩, ⟨fun i a b => absurd b (by omega), fun j _ => rfl⟩, fun post n hn h => ?_⟩
    obtain ⟨k, rfl⟩ := mp_pos hn
    refine br_t (nI_le (Nat.le_refl q) (by omega)) (And.intro Iv ?_)
    rw [cv]
    exact nm_e h
  | succ d ih =>
    intro q hq yo ya yb
    obtain ⟨yo', ya', yb', s1, s2, s3, hY⟩ := ih (q + 1) (by omega) (upd yo (24 * v + q) (dO q)) (upd ya (24 * v + q) (dA q)) (upd yb (24 * v + q) (dB q))
    refine ⟨yo', ya', yb', mp_lyq_s (by omega) s1, mp_lyq_s (by omega) s2, mp_lyq_s (by omega) s3, fun post n hn h => ?_⟩
    obtain ⟨k, rfl⟩ := mp_pos hn
    have c := nI_clamp (n := q) (by omega)
    have I := vp_in_nI (n := q) (N := 24) (by omega) (by omega)
    have c1 := nI_clamp (n := 24 * v + q) (by omega)
    have I1 := vp_in_nI (n := 24 * v + q) (N := 192) (by omega) (by omega)
    refine br_f (nI_ge (by omega) (by omega)) (And.intro I ?_)
    rw [c, mp_24x, nI_add, c1]
    exact ⟨I1, nm_e ⟨I, I1, nm_e ⟨I, I1, nm_e (nm_r (nI_1 q) (hY post k (by omega) h))⟩⟩⟩
end
