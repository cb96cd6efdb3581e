section
variable {st st' xv yv xl cu pl mc xt xi yt yi xt' xi' yt' yi' xk yk xk' yk' xw li ye xr yr xe xz yd ys yz yz' : Nat → Int32} {xc yc tm : Int32} {nt : Int64} {G : Nat → Int32 → Prop} {p i : Nat} {C : Int}
theorem mp_Z_dead (h : mp_Z i st xr xe xz xc yd ys yz yc) (hi : xc = nI i) {q : Nat} (hq : q < 8) (ha : mp_al st q) : yz q = 0 := by
  obtain ⟨d, a, b, c, c2, c3, f, g, k, l⟩ := h
  have e : d = i := by
    rw [c, nI_eq (by omega) (by omega)] at hi
    exact hi
  by_cases z : yz q = 0
  · exact z
  · obtain ⟨j, hj, w⟩ := g q hq z
    obtain ⟨q', hq', a1, a2, a3, a4⟩ := f j hj
    rw [w, nI_eq (by omega) (by omega)] at a1
    subst a1
    exact absurd ha (a4 (by omega))
theorem mp_Z_fin (h : mp_Z i st xr xe xz xc yd ys yz yc) (hi : xc = nI i) (hz : ∀ q, q < 8 → yz' q = 0) : mp_Z 0 st xr xe xz 0 yd ys yz' 0 := by
  have hd := fun q hq ha => mp_Z_dead h hi (q := q) hq ha
  obtain ⟨d, a, b, c, c2, c3, f, g, k, l⟩ := h
  refine ⟨0, by omega, by omega, rfl, rfl, (mp_cn_0 8 (fun q hq => decide_eq_false (fun z => z (hz q hq)))).symm, fun j hj => absurd hj (by omega), fun q hq z => absurd (hz q hq) z, fun j j' _ hj => absurd hj (by omega), fun q hq => ?_⟩
  rw [l q hq]
  exact ⟨fun z => absurd (hd q hq z.2) z.1, fun z => absurd (hz q hq) z.1⟩
theorem mp_Z_none (h : mp_Z 0 st xr xe xz 0 yd ys yz yc) : yc = 0 ∧ ∀ q, q < 8 → yz q = 0 ∧ xz q = 0 := by
  obtain ⟨d, a, b, c, c2, c3, f, g, k, l⟩ := h
  have e : d = 0 := by
    have c' : nI 0 = nI d := c
    rw [nI_eq (by omega) (by omega)] at c'
    exact c'.symm
  subst e
  have z0 : ∀ q, q < 8 → yz q = 0 := fun q hq => by
    by_cases z : yz q = 0
    · exact z
    · obtain ⟨j, hj, _⟩ := g q hq z
      omega
  refine ⟨c2, fun q hq => ⟨z0 q hq, ?_⟩⟩
  by_cases z : xz q = 0
  · exact z
  · exact absurd (z0 q hq) ((l q hq).mp z).1
theorem mp_Z_0 {xr' : Nat → Int32} (h : mp_Z 0 st xr xe xz 0 yd ys yz 0) : mp_Z 0 st' xr' xe xz 0 yd ys yz 0 := by
  have hd := mp_Z_none h
  refine ⟨0, by omega, by omega, rfl, rfl, (mp_cn_0 8 (fun q hq => decide_eq_false (fun z => z (hd.2 q hq).1))).symm, fun j hj => absurd hj (by omega), fun q hq z => absurd (hd.2 q hq).1 z, fun j j' _ hj => absurd hj (by omega), fun q hq => ?_⟩
  rw [(hd.2 q hq).1, (hd.2 q hq).2]
  exact ⟨fun z => absurd rfl z, fun z => absurd rfl z.1⟩
/-! mail -/
theorem mp_M_app {n : Nat} {tag v : Int32} (h : mp_M st mc xt xi yt yi) (hp : p < 8) (ha : mp_al st p) (hn : n < 12) (e : mc p = nI n) :
    mp_M st (upd mc p (nI (n + 1))) (upd xt (12 * p + n) tag) (upd xi (12 * p + n) v) (upd yt (12 * p + n) tag) (upd yi (12 * p + n) v) := fun q hq => by
  by_cases z : q = p
  · subst z
    obtain ⟨n', a, b, c, d⟩ := h q hq
    rw [e, nI_eq (by omega) (by omega)] at b
    subst b
    refine ⟨n + 1, by omega, pk_us, fun w => absurd ha w, fun k hk => ?_⟩
    by_cases w : k = n
    · subst w
      rw [pk_us, pk_us, pk_us, pk_us]
      exact ⟨rfl, rfl⟩
    · rw [pk_un (by omega), pk_un (by omega), pk_un (by omega), pk_un (by omega)]
      exact d k (by omega)
  · obtain ⟨n', a, b, c, d⟩ := h q hq
    refine ⟨n', a, by rw [pk_un z]; exact b, c, fun k hk => ?_⟩
    rw [pk_un (by omega), pk_un (by omega), pk_un (by omega), pk_un (by omega)]
    exact d k hk
theorem mp_M_drop {n k : Nat} (h : mp_M st mc xt xi yt yi) (hp : p < 8) (ha : mp_al st p) (hk : k < n) (hn12 : n ≤ 12) (e : mc p = nI n)
    (x1 : ∀ j, j < 11 → xt' (12 * p + j) = if j < k then xt (12 * p + j) else xt (12 * p + j + 1)) (x2 : ∀ j, j < 11 → xi' (12 * p + j) = if j < k then xi (12 * p + j) else xi (12 * p + j + 1))
    (x3 : ∀ j, (j < 12 * p ∨ 12 * p + 12 ≤ j) → xt' j = xt j ∧ xi' j = xi j)
    (y1 : ∀ j, j < n - 1 → yt' (12 * p + j) = if j < k then yt (12 * p + j) else yt (12 * p + j + 1)) (y2 : ∀ j, j < n - 1 → yi' (12 * p + j) = if j < k then yi (12 * p + j) else yi (12 * p + j + 1))
    (y3 : ∀ j, (j < 12 * p ∨ 12 * p + 12 ≤ j) → yt' j = yt j ∧ yi' j = yi j) :
    mp_M st (upd mc p (nI (n - 1))) xt' xi' yt' yi' := fun q hq => by
  by_cases z : q = p
  · subst z
    obtain ⟨n', a, b, c, d⟩ := h q hq
    rw [e, nI_eq (by omega) (by omega)] at b
    subst b
    refine ⟨n - 1, by omega, pk_us, fun w => absurd ha w, fun j hj => ?_⟩
    rw [x1 j (by omega), x2 j (by omega), y1 j hj, y2 j hj]
    by_cases w : j < k
    · rw [if_pos w, if_pos w, if_pos w, if_pos w]
      exact d j (by omega)
    · rw [if_neg w, if_neg w, if_neg w, if_neg w, Nat.add_assoc]
      exact d (j + 1) (by omega)
  · obtain ⟨n', a, b, c, d⟩ := h q hq
    refine ⟨n', a, by rw [pk_un z]; exact b, c, fun j hj => ?_⟩
    have w := x3 (12 * q + j) (by omega)
    have w' := y3 (12 * q + j) (by omega)
    rw [w.1, w.2, w'.1, w'.2]
    exact d j hj
theorem mp_M_end (h : mp_M st mc xt xi yt yi) : mp_M (upd st p 3) (upd mc p 0) xt xi yt yi := fun q hq => by
  by_cases z : q = p
  · subst z
    exact ⟨0, by omega, pk_us, fun _ => rfl, fun k hk => absurd hk (by omega)⟩
  · obtain ⟨n, a, b, c, d⟩ := h q hq
    exact ⟨n, a, by rw [pk_un z]; exact b, fun w => c (fun w' => w ((mp_al_n z).mpr w')), d⟩
theorem mp_M_0 (h : mp_M st mc xt xi yt yi) (hp : p < 8) (ha : ¬ mp_al st p) : mc p = 0 := by
  obtain ⟨n, a, b, c, d⟩ := h p hp
  rw [b, c ha]; rfl
theorem mp_upd_same {f : Nat → Int32} {x : Int32} (h : f p = x) : upd f p x = f := by
  funext j
  by_cases e : j = p
  · subst e
    rw [pk_us, h]
  · rw [pk_un e]
theorem mp_M_st2 (h : mp_M st mc xt xi yt yi) (e : ∀ q, q < 8 → mp_al st q → mp_al st' q) : mp_M st' mc xt xi yt yi := mp_M_st h e
/-! links and monitors -/
theorem mp_K_end (h : mp_K st xk yk) (hp : p < 8) (hx : ∀ q, q < 8 → q ≠ p → xk' q = xk q &&& (((1 : Int32) <<< (nI p &&& 31)) ^^^ (-1))) (hx0 : xk' p = 0) (hy : ∀ a b, a < 8 → b < 8 → yk' (8 * a + b) = if a = p ∨ b = p then 0 else yk (8 * a + b)) : mp_K (upd st p 3) xk' yk' := fun q hq => by
  by_cases z : q = p
  · subst z
    refine ⟨?_, fun r hr w => ?_⟩
    · rw [hx0]
      exact mp_ac_z (fun i hi => decide_eq_false (fun z => z (by rw [hy q i hq hi, if_pos (Or.inl rfl)])))
    · rw [hy q r hq hr, if_pos (Or.inl rfl)] at w
      exact absurd rfl w
  · refine ⟨?_, fun r hr w => ?_⟩
    · rw [hx q hq z]
      refine mp_ac_c (h q hq).1 hp (fun i hi => ?_)
      show decide (yk' (8 * q + i) ≠ 0) = (decide (yk (8 * q + i) ≠ 0) && decide (i ≠ p))
      rw [hy q i hq hi]
      by_cases w : i = p
      · rw [if_pos (Or.inr w), decide_eq_false (show ¬ i ≠ p from fun v => v w), Bool.and_false]
        exact decide_eq_false (fun z => z rfl)
      · rw [if_neg (show ¬ (q = p ∨ i = p) from fun v => v.elim z w), decide_eq_true (show i ≠ p from w), Bool.and_true]
    · rw [hy q r hq hr] at w
      by_cases w' : r = p
      · rw [if_pos (Or.inr w')] at w
        exact absurd rfl w
      · rw [if_neg (by omega)] at w
        obtain ⟨a, b, c⟩ := (h q hq).2 r hr w
        exact ⟨(mp_al_n z).mpr a, (mp_al_n w').mpr b, c⟩
theorem mp_K_set {q : Nat} (h : mp_K st xk yk) (hp : p < 8) (hq : q < 8) (hpq : p ≠ q) (ap : mp_al st p) (aq : mp_al st q) : mp_K st (upd xk p (xk p ||| ((1 : Int32) <<< (nI q &&& 31)))) (upd yk (8 * p + q) 1) := fun r hr => by
  by_cases z : r = p
  · subst z
    refine ⟨?_, fun s hs w => ?_⟩
    · rw [pk_us]
      refine mp_ac_s (h r hr).1 hq (fun i hi => ?_)
      show decide (upd yk (8 * r + q) 1 (8 * r + i) ≠ 0) = (decide (yk (8 * r + i) ≠ 0) || decide (i = q))
      by_cases w : i = q
      · subst w
        rw [pk_us, decide_eq_true (show i = i from rfl), Bool.or_true]
        exact decide_eq_true (by decide)
      · rw [pk_un (by omega), decide_eq_false w, Bool.or_false]
    · by_cases w' : s = q
      · subst w'
        exact ⟨ap, aq, hpq⟩
      · rw [pk_un (by omega)] at w
        exact (h r hr).2 s hs w
  · refine ⟨?_, fun s hs w => ?_⟩
    · rw [pk_un z]
      exact mp_ac_e (h r hr).1 (fun i hi => by
        show decide (yk (8 * r + i) ≠ 0) = decide (upd yk (8 * p + q) _ (8 * r + i) ≠ 0)
        rw [pk_un (by omega)])
    · rw [pk_un (by omega)] at w
      exact (h r hr).2 s hs w
theorem mp_K_clr {q : Nat} (h : mp_K st xk yk) (hp : p < 8) (hq : q < 8) : mp_K st (upd xk p (xk p &&& (((1 : Int32) <<< (nI q &&& 31)) ^^^ (-1)))) (upd yk (8 * p + q) 0) := fun r hr => by
  by_cases z : r = p
  · subst z
    refine ⟨?_, fun s hs w => ?_⟩
    · rw [pk_us]
      refine mp_ac_c (h r hr).1 hq (fun i hi => ?_)
      show decide (upd yk (8 * r + q) 0 (8 * r + i) ≠ 0) = (decide (yk (8 * r + i) ≠ 0) && decide (i ≠ q))
      by_cases w : i = q
      · subst w
        rw [pk_us, decide_eq_false (show ¬ i ≠ i from fun v => v rfl), Bool.and_false]
        exact decide_eq_false (fun z => z rfl)
      · rw [pk_un (by omega), decide_eq_true (show i ≠ q from w), Bool.and_true]
    · by_cases w' : s = q
      · subst w'
        rw [pk_us] at w
        exact absurd rfl w
      · rw [pk_un (by omega)] at w
        exact (h r hr).2 s hs w
  · refine ⟨?_, fun s hs w => ?_⟩
    · rw [pk_un z]
      exact mp_ac_e (h r hr).1 (fun i hi => by
        show decide (yk (8 * r + i) ≠ 0) = decide (upd yk (8 * p + q) _ (8 * r + i) ≠ 0)
        rw [pk_un (by omega)])
    · rw [pk_un (by omega)] at w
      exact (h r hr).2 s hs w
theorem mp_K_clr0 {q : Nat} (h : mp_K st xk yk) (hp : p < 8) (hq : q < 8) (h0 : yk (8 * p + q) = 0) : mp_K st (upd xk p (xk p &&& (((1 : Int32) <<< (nI q &&& 31)) ^^^ (-1)))) yk := by
  have w := mp_K_clr h hp hq
  rw [mp_upd_same h0] at w
  exact w
end
