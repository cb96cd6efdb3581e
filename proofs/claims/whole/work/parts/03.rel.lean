def mp_al (st : Nat → Int32) (p : Nat) : Prop := st p = 1 ∨ st p = 2
def mp_lt (a : Int32) (n : Nat) : Prop := ∃ j : Nat, j < n ∧ a = nI j
def mp_ok (op a b : Int32) : Prop :=
  ((op = 0 ∨ op = 9 ∨ op = 10 ∨ op = 11 ∨ op = 12 ∨ op = 14 ∨ op = 17) ∧ mp_lt a 4) ∨ ((op = 1 ∨ op = 2 ∨ op = 3 ∨ op = 13) ∧ mp_lt a 4 ∧ mp_lt b 4) ∨
  (op = 4 ∧ mp_lt a 24) ∨ (op = 5 ∧ mp_lt a 4 ∧ mp_lt b 24) ∨ (op = 6 ∧ mp_lt a 4 ∧ mp_lt b 6) ∨ (op = 7 ∧ mp_lt a 256 ∧ mp_lt b 5) ∨
  (op = 8 ∧ mp_lt a 4 ∧ mp_lt b 2) ∨ (op = 15 ∧ mp_lt b 2) ∨ (op = 16 ∧ mp_lt a 4)
def mp_D (dl : Int32) (dO dA dB : Nat → Int32) : Prop := ∃ n, n ≤ 24 ∧ dl = nI n ∧ ∀ i, i < n → mp_ok (dO i) (dA i) (dB i)
def mp_CV (xo xa xb xl yo ya yb yl : Nat → Int32) (a b : Nat) : Prop := ∃ n, 0 < n ∧ n ≤ 24 ∧ xl a = nI n ∧ yl b = nI n ∧ ∀ i, i < n → xo (24 * a + i) = yo (24 * b + i) ∧ xa (24 * a + i) = ya (24 * b + i) ∧ xb (24 * a + i) = yb (24 * b + i) ∧ mp_ok (yo (24 * b + i)) (ya (24 * b + i)) (yb (24 * b + i))
def mp_C (xo xa xb xl yo ya yb yl cu : Nat → Int32) : Prop := ∀ m, m < 4 → (cu m = -1 ∧ xl (2 * m) = 0 ∧ xl (2 * m + 1) = 0) ∨ ∃ c, c < 2 ∧ cu m = nI c ∧ mp_CV xo xa xb xl yo ya yb yl (2 * m) (2 * m + c) ∧ (xl (2 * m + 1) = 0 ∨ mp_CV xo xa xb xl yo ya yb yl (2 * m + 1) (2 * m + 1 - c))
def mp_V (st xv yv xl cu : Nat → Int32) : Prop := ∀ p, p < 8 → mp_al st p → ∃ m c, m < 4 ∧ c < 2 ∧ cu m = nI c ∧ ((xv p = nI (2 * m) ∧ yv p = nI (2 * m + c)) ∨ (xv p = nI (2 * m + 1) ∧ yv p = nI (2 * m + 1 - c) ∧ xl (2 * m + 1) ≠ 0))
def mp_P (st pl : Nat → Int32) : Prop := ∀ p, p < 8 → mp_al st p → ∃ n, n ≤ 24 ∧ pl p = nI n ∧ (st p = 2 → n < 24)
def mp_S (st : Nat → Int32) : Prop := ∀ p, p < 8 → st p = 0 ∨ st p = 1 ∨ st p = 2 ∨ st p = 3
def mp_M (st mc xt xi yt yi : Nat → Int32) : Prop := ∀ p, p < 8 → ∃ n, n ≤ 12 ∧ mc p = nI n ∧ (¬ mp_al st p → n = 0) ∧ ∀ k, k < n → xt (12 * p + k) = yt (12 * p + k) ∧ xi (12 * p + k) = yi (12 * p + k)
def mp_K (st xk yk : Nat → Int32) : Prop := ∀ p, p < 8 → mp_ac (xk p) (fun q => decide (yk (8 * p + q) ≠ 0)) 8 ∧ ∀ q, q < 8 → yk (8 * p + q) ≠ 0 → mp_al st p ∧ mp_al st q ∧ p ≠ q
def mp_W (st xw li ye : Nat → Int32) (tm : Int32) : Prop := ∀ p, p < 8 → st p = 2 → (li p = 0 ∧ xw p = -1) ∨ (li p ≠ 0 ∧ xw p = ye p ∧ 0 ≤ (ye p).toInt ∧ (ye p).toInt ≤ tm.toInt + 1000)
def mp_T (tm tc : Int32) (ti : Nat → Int32) (T : Int) : Prop := 0 ≤ tm.toInt ∧ tm.toInt ≤ T ∧ 0 ≤ tc.toInt ∧ tc.toInt ≤ tm.toInt ∧ ∀ j : Nat, j < 16 → tc.toInt ≤ (j : Int) → ti j = 0
def mp_E (st xr yr : Nat → Int32) : Prop := ∀ p, p < 8 → st p = 3 → xr p = yr p
def mp_Z (i : Nat) (st xr xe xz : Nat → Int32) (xc : Int32) (yd ys yz : Nat → Int32) (yc : Int32) : Prop :=
  ∃ d, d ≤ 8 ∧ i ≤ d ∧ xc = nI d ∧ yc = nI d ∧ d = mp_cn (fun p => decide (yz p ≠ 0)) 8 ∧
    (∀ j, j < d → ∃ p, p < 8 ∧ yd j = nI p ∧ yz p ≠ 0 ∧ (i ≤ j → xe j = nI p ∧ mp_al st p ∧ xr p = ys j) ∧ (j < i → ¬ mp_al st p)) ∧
    (∀ p, p < 8 → yz p ≠ 0 → ∃ j, j < d ∧ yd j = nI p) ∧ (∀ j j', j < j' → j' < d → yd j ≠ yd j') ∧ (∀ p, p < 8 → (xz p ≠ 0 ↔ yz p ≠ 0 ∧ mp_al st p))
def mp_F (st : Nat → Int32) (nt : Int64) (C : Int) : Prop := 0 ≤ nt.toInt ∧ nt.toInt + (mp_cn (fun p => decide (st p = 2)) 8 : Nat) ≤ C ∧ C < 2 ^ 40
def mp_G (G : Nat → Int32 → Prop) (st xv yz : Nat → Int32) : Prop := ∀ q, q < 8 → mp_al st q → yz q = 0 → G q (xv q)
section
variable {st st' xv yv xl cu pl mc xt xi yt yi xk yk xw li ye xr yr xe xz yd ys yz : Nat → Int32} {xc yc tm : Int32} {nt : Int64} {G : Nat → Int32 → Prop} {p i : Nat} {C : Int}
theorem mp_al_n {q : Nat} {x : Int32} (hq : q ≠ p) : mp_al (upd st p x) q ↔ mp_al st q := by unfold mp_al; rw [pk_un hq]
theorem mp_al_1 : mp_al (upd st p 1) p := Or.inl pk_us
theorem mp_al_2 : mp_al (upd st p 2) p := Or.inr pk_us
theorem mp_al_3 : ¬ mp_al (upd st p 3) p := by
  unfold mp_al
  rw [pk_us]
  decide
theorem mp_al_k {q : Nat} {x : Int32} (hx : x = 1 ∨ x = 2) (ha : mp_al st p) : mp_al (upd st p x) q ↔ mp_al st q := by
  by_cases e : q = p
  · subst e
    have : mp_al (upd st q x) q := by unfold mp_al; rw [pk_us]; exact hx
    exact ⟨fun _ => ha, fun _ => this⟩
  · exact mp_al_n e
theorem mp_V_st (h : mp_V st xv yv xl cu) (e : ∀ q, q < 8 → mp_al st' q → mp_al st q) : mp_V st' xv yv xl cu := fun q hq ha => h q hq (e q hq ha)
theorem mp_M_st (h : mp_M st mc xt xi yt yi) (e : ∀ q, q < 8 → mp_al st q → mp_al st' q) : mp_M st' mc xt xi yt yi := fun q hq => by
  obtain ⟨n, a, b, c, d⟩ := h q hq
  exact ⟨n, a, b, fun z => c (fun w => z (e q hq w)), d⟩
theorem mp_K_st (h : mp_K st xk yk) (e : ∀ q, q < 8 → mp_al st q → mp_al st' q) : mp_K st' xk yk := fun q hq =>
  ⟨(h q hq).1, fun r hr z => by
    obtain ⟨a, b, c⟩ := (h q hq).2 r hr z
    exact ⟨e q hq a, e r hr b, c⟩⟩
theorem mp_W_st (h : mp_W st xw li ye tm) (e : ∀ q, q < 8 → st' q = 2 → st q = 2) : mp_W st' xw li ye tm := fun q hq z => h q hq (e q hq z)
theorem mp_E_st (h : mp_E st xr yr) (e : ∀ q, q < 8 → st' q = 3 → st q = 3) : mp_E st' xr yr := fun q hq z => h q hq (e q hq z)
theorem mp_S_u {x : Int32} (h : mp_S st) (hx : x = 0 ∨ x = 1 ∨ x = 2 ∨ x = 3) : mp_S (upd st p x) := fun q hq => by
  by_cases e : q = p
  · subst e
    rw [pk_us]; exact hx
  · rw [pk_un e]; exact h q hq
theorem mp_Z_st (h : mp_Z i st xr xe xz xc yd ys yz yc) (e : ∀ q, q < 8 → (mp_al st' q ↔ mp_al st q)) : mp_Z i st' xr xe xz xc yd ys yz yc := by
  obtain ⟨d, a, b, c, c2, c3, f, g, k, l⟩ := h
  refine ⟨d, a, b, c, c2, c3, fun j hj => ?_, g, k, fun p hp => ?_⟩
  · obtain ⟨p, hp, a1, a2, a3, a4⟩ := f j hj
    refine ⟨p, hp, a1, a2, fun z => ⟨(a3 z).1, (e p hp).mpr (a3 z).2.1, (a3 z).2.2⟩, fun z w => a4 z ((e p hp).mp w)⟩
  · rw [l p hp, e p hp]
theorem mp_G_st (h : mp_G G st xv yz) (e : ∀ q, q < 8 → mp_al st' q → mp_al st q) : mp_G G st' xv yz := fun q hq a b => h q hq (e q hq a) b
theorem mp_P_1 (h : mp_P st pl) (ha : mp_al st p) : mp_P (upd st p 1) pl := fun q hq a => by
  by_cases e : q = p
  · subst e
    obtain ⟨n, b, c, _⟩ := h q hq ha
    exact ⟨n, b, c, fun z => by rw [pk_us] at z; exact absurd z (by decide)⟩
  · rw [mp_al_n e] at a
    obtain ⟨n, b, c, d⟩ := h q hq a
    exact ⟨n, b, c, by rw [pk_un e]; exact d⟩
theorem mp_F_wake (h : mp_F st nt C) (hp : p < 8) (h2 : st p = 2) : mp_F (upd st p 1) (nt + 1) C := by
  obtain ⟨a, b, c⟩ := h
  have e := mp_cn_add (P := fun q => decide (upd st p 1 q = 2)) (Q := fun q => decide (st q = 2)) (p := p) (decide_eq_false (by rw [pk_us]; decide)) (decide_eq_true h2) 8 hp (fun q _ ne => by show decide (upd st p 1 q = 2) = decide (st q = 2); rw [pk_un ne])
  rw [e] at b
  have e1 := mp_nt1 a (by omega)
  exact ⟨by omega, by rw [e1]; omega, c⟩
theorem mp_F_keep {x : Int32} (h : mp_F st nt C) (hp : p < 8) (hx : x ≠ 2) : mp_F (upd st p x) nt C := by
  obtain ⟨a, b, c⟩ := h
  have e := mp_cn_mono (P := fun q => decide (upd st p x q = 2)) (Q := fun q => decide (st q = 2)) 8 (fun q _ z => by
    have z' : upd st p x q = 2 := of_decide_eq_true z
    by_cases w : q = p
    · subst w
      rw [pk_us] at z'
      exact absurd z' hx
    · rw [pk_un w] at z'; exact decide_eq_true z')
  exact ⟨a, by omega, c⟩
theorem mp_F_new (h : mp_F st nt C) (hp : p < 8) (hC : C + 1 < 2 ^ 40) : mp_F (upd st p 1) (nt + 1) (C + 1) := by
  have h1 := mp_F_keep h hp (x := 1) (by decide)
  obtain ⟨a, b, c⟩ := h1
  have e1 := mp_nt1 a (by omega)
  exact ⟨by omega, by rw [e1]; omega, hC⟩
theorem mp_F_wait (h : mp_F st nt C) (hp : p < 8) (hs : st p ≠ 2) (hC : C + 1 < 2 ^ 40) : mp_F (upd st p 2) nt (C + 1) := by
  obtain ⟨a, b, c⟩ := h
  have e := mp_cn_add (Q := fun q => decide (upd st p 2 q = 2)) (P := fun q => decide (st q = 2)) (p := p) (decide_eq_false hs) (decide_eq_true pk_us) 8 hp (fun q _ ne => by show decide (st q = 2) = decide (upd st p 2 q = 2); rw [pk_un ne])
  exact ⟨a, by rw [e]; omega, hC⟩
theorem mp_F_up {C' : Int} (h : mp_F st nt C) (h1 : C ≤ C') (h2 : C' < 2 ^ 40) : mp_F st nt C' := ⟨h.1, by have := h.2.1; omega, h2⟩
/-! marking -/
theorem mp_Z_doom {reason : Int32} (h : mp_Z i st xr xe xz xc yd ys yz yc) (hp : p < 8) (ha : mp_al st p) (hz : yz p = 0) : ∃ d, d < 8 ∧ xc = nI d ∧ yc = nI d ∧ mp_Z i st (upd xr p reason) (upd xe d (nI p)) (upd xz p 1) (nI (d + 1)) (upd yd d (nI p)) (upd ys d reason) (upd yz p 1) (nI (d + 1)) := by
  obtain ⟨d, a, b, c, c2, c3, f, g, k, l⟩ := h
  have hd : d < 8 := by
    rw [c3]
    exact mp_cn_lt (P := fun p => decide (yz p ≠ 0)) (p := p) (decide_eq_false (fun z => z hz)) 8 hp
  have hne : ∀ j, j < d → yd j ≠ nI p := fun j hj z => by
    obtain ⟨q, hq, a1, a2, _⟩ := f j hj
    rw [a1, nI_eq (by omega) (by omega)] at z
    subst z
    exact a2 hz
  refine ⟨d, hd, c, c2, d + 1, by omega, by omega, rfl, rfl, ?_, ?_, ?_, ?_, ?_⟩
  · rw [mp_cn_add (P := fun q => decide (yz q ≠ 0)) (Q := fun q => decide (upd yz p 1 q ≠ 0)) (p := p) (decide_eq_false (fun z => z hz)) (decide_eq_true (by rw [pk_us]; decide)) 8 hp (fun q _ ne => by show decide (yz q ≠ 0) = decide (upd yz p 1 q ≠ 0); rw [pk_un ne]), ← c3]
  · intro j hj
    by_cases e : j = d
    · subst e
      exact ⟨p, hp, pk_us, by rw [pk_us]; decide, fun _ => ⟨pk_us, ha, by rw [pk_us, pk_us]⟩, fun z => absurd z (by omega)⟩
    · obtain ⟨q, hq, a1, a2, a3, a4⟩ := f j (by omega)
      have ne : q ≠ p := fun z => by subst z; exact a2 hz
      exact ⟨q, hq, by rw [pk_un e]; exact a1, by rw [pk_un ne]; exact a2, fun z => by rw [pk_un e, pk_un ne, pk_un e]; exact a3 z, a4⟩
  · intro q hq z
    by_cases e : q = p
    · subst e
      exact ⟨d, by omega, pk_us⟩
    · rw [pk_un e] at z
      obtain ⟨j, hj, w⟩ := g q hq z
      exact ⟨j, by omega, by rw [pk_un (by omega)]; exact w⟩
  · intro j j' h1 h2
    by_cases e : j' = d
    · subst e
      rw [pk_us, pk_un (by omega)]
      exact hne j h1
    · rw [pk_un e, pk_un (by omega)]
      exact k j j' h1 (by omega)
  · intro q hq
    by_cases e : q = p
    · subst e
      rw [pk_us, pk_us]
      exact ⟨fun _ => ⟨by decide, ha⟩, fun _ => by decide⟩
    · rw [pk_un e, pk_un e]
      exact l q hq
theorem mp_Z_end (h : mp_Z i st xr xe xz xc yd ys yz yc) (hi : xc ≠ nI i) : ∃ p d, p < 8 ∧ i < d ∧ d ≤ 8 ∧ xc = nI d ∧ yc = nI d ∧ xe i = nI p ∧ yd i = nI p ∧ mp_al st p ∧ xr p = ys i ∧ yz p ≠ 0 ∧ mp_Z (i + 1) (upd st p 3) xr xe (upd xz p 0) xc yd ys yz yc := by
  obtain ⟨d, a, b, c, c2, c3, f, g, k, l⟩ := h
  have hd : i < d := by
    rcases Nat.lt_or_ge i d with w | w
    · exact w
    · have : i = d := by omega
      subst this
      exact absurd c hi
  obtain ⟨p, hp, a1, a2, a3, a4⟩ := f i hd
  obtain ⟨b1, b2, b3⟩ := a3 (Nat.le_refl i)
  refine ⟨p, d, hp, hd, a, c, c2, b1, a1, b2, b3, a2, d, a, hd, c, c2, c3, ?_, g, k, ?_⟩
  · intro j hj
    obtain ⟨q, hq, a1', a2', a3', a4'⟩ := f j hj
    by_cases e : q = p
    · subst e
      refine ⟨q, hq, a1', a2', fun z => ?_, fun _ => mp_al_3⟩
      exact absurd (a1.trans a1'.symm) (k i j z hj)
    · exact ⟨q, hq, a1', a2', fun z => ⟨(a3' (by omega)).1, (mp_al_n e).mpr (a3' (by omega)).2.1, (a3' (by omega)).2.2⟩, fun z => by
        rw [mp_al_n e]
        by_cases w : j = i
        · subst w
          have := (a1.symm.trans a1')
          rw [nI_eq (by omega) (by omega)] at this
          exact absurd this.symm e
        · exact a4' (by omega)⟩
  · intro q hq
    by_cases e : q = p
    · subst e
      rw [pk_us]
      exact ⟨fun z => absurd rfl z, fun z => absurd z.2 mp_al_3⟩
    · rw [pk_un e, mp_al_n e]
      exact l q hq
end
