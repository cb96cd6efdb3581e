section
variable {dl xc tc tm xn md lo en qn yc yn : Int32} {nt : Int64} {dO dA dB xo xa xb xl st xr rg xv pl tr xk xm wt xw xt xi mc xe xz ti yo ya yb yl cu ag yv yr yt yi yk ym li ye qu yd ys yz : Nat → Int32} {tk : Nat → Int64} {run i p : Nat} {T C : Int} {G : Nat → Int32 → Prop}
theorem mp_pos {d n : Nat} (h : d < n) : ∃ m, n = m + 1 := ⟨n - 1, by omega⟩
/-! X: who watches p -/
theorem mx_mons_l (hm : mp_K st xm ym) (hp : p < 8) : ∀ d q, q + d = 8 → ∀ a, mp_ac a (fun j => decide (ym (8 * j + p) ≠ 0)) q → ∃ w, mp_ac w (fun j => decide (ym (8 * j + p) ≠ 0)) 8 ∧ ∀ (post : Int32 → Prop) n, d < n → post w → wX_monitorsOn_4 post (nI p) dl nt xc tc tm xn md lo en dO dA dB xo xa xb xl st xr rg xv pl tr xk xm wt xw xt xi mc tk xe xz ti n a (nI q) := by
  intro d
  induction d with
  | zero =>
    intro q hq a ha
    have e : q = 8 := by omega
    subst e
    refine ⟨a, ha, fun post n hn h => ?_⟩
    obtain ⟨m, rfl⟩ := mp_pos hn
    exact br_t (nI_le (b := 8) (Nat.le_refl 8) (by omega)) h
  | succ d ih =>
    intro q hq a ha
    have h8 : ¬ (8 : Int32) ≤ nI q := nI_ge (b := 8) (by omega) (by omega)
    have c := nI_clamp (n := q) (by omega)
    have I := vp_in_nI (n := q) (N := 8) (by omega) (by omega)
    have hb := mp_hbg (hm q (by omega)).1 hp
    by_cases hg : ym (8 * q + p) ≠ 0
    · obtain ⟨w, hw, hX⟩ := ih (q + 1) (by omega) _ (mp_ac_t ha (by omega) (decide_eq_true hg))
      refine ⟨w, hw, fun post n hn h => ?_⟩
      obtain ⟨m, rfl⟩ := mp_pos hn
      refine br_f h8 (And.intro I ?_)
      rw [c]
      exact br_t (hb.mpr (decide_eq_true hg)) (br_f (by decide) (nm_e (nm_r (nI_1 q) (hX post m (by omega) h))))
    · obtain ⟨w, hw, hX⟩ := ih (q + 1) (by omega) a (mp_ac_f ha (decide_eq_false hg))
      refine ⟨w, hw, fun post n hn h => ?_⟩
      obtain ⟨m, rfl⟩ := mp_pos hn
      refine br_f h8 (And.intro I ?_)
      rw [c]
      exact br_f (fun z => hg (of_decide_eq_true (hb.mp z))) (br_t rfl (nm_r (nI_1 q) (hX post m (by omega) h)))
theorem mx_mons (hm : mp_K st xm ym) (hp : p < 8) : ∃ w, mp_ac w (fun j => decide (ym (8 * j + p) ≠ 0)) 8 ∧ ∀ (post : Int32 → Prop), post w → wpX_monitorsOn post (dl, nt, xc, tc, tm, xn, md, lo, en, dO, dA, dB, xo, xa, xb, xl, st, xr, rg, xv, pl, tr, xk, xm, wt, xw, xt, xi, mc, tk, xe, xz, ti) (nI p) := by
  obtain ⟨w, hw, hX⟩ := mx_mons_l (dl := dl) (nt := nt) (xc := xc) (tc := tc) (tm := tm) (xn := xn) (md := md) (lo := lo) (en := en) (dO := dO) (dA := dA) (dB := dB) (xo := xo) (xa := xa) (xb := xb) (xl := xl) (st := st) (xr := xr) (rg := rg) (xv := xv) (pl := pl) (tr := tr) (xk := xk) (xm := xm) (wt := wt) (xw := xw) (xt := xt) (xi := xi) (mc := mc) (tk := tk) (xe := xe) (xz := xz) (ti := ti) (ym := ym) hm hp 8 0 rfl 0 (mp_ac_0 _)
  exact ⟨w, hw, fun post h => by unfold wpX_monitorsOn; exact ⟨9, hX post 9 (by omega) h⟩⟩
/-! X: close -/
theorem mx_close_l (hp : p < 8) : ∀ d q, q + d = 8 → ∀ xk xm : Nat → Int32, ∃ xk' xm' : Nat → Int32, (∀ j, xk' j = if q ≤ j ∧ j < 8 then xk j &&& (((1 : Int32) <<< (nI p &&& 31)) ^^^ (-1)) else xk j) ∧ (∀ j, xm' j = if q ≤ j ∧ j < 8 then xm j &&& (((1 : Int32) <<< (nI p &&& 31)) ^^^ (-1)) else xm j) ∧ ∀ (post : SX → Prop) n, d < n → post (dl, nt, xc, tc, tm, xn, md, lo, en + 1, dO, dA, dB, xo, xa, xb, xl, st, xr, rg, xv, pl, tr, xk', xm', wt, xw, xt, xi, mc, tk, xe, xz, ti) → wX_close_37 post (nI p) dl nt xc tc tm xn md lo en n (nI q) dO dA dB xo xa xb xl st xr rg xv pl tr xk xm wt xw xt xi mc tk xe xz ti := by
  intro d
  induction d with
  | zero =>
    intro q hq xk xm
    have e : q = 8 := by omega
    subst e
    refine ⟨xk, xm, fun j => by rw [if_neg (by omega)], fun j => by rw [if_neg (by omega)], fun post n hn h => ?_⟩
    obtain ⟨m, rfl⟩ := mp_pos hn
    exact br_t (nI_le (b := 8) (Nat.le_refl 8) (by omega)) (nm_e h)
  | succ d ih =>
    intro q hq xk xm
    have h8 : ¬ (8 : Int32) ≤ nI q := nI_ge (b := 8) (by omega) (by omega)
    have c := nI_clamp (n := q) (by omega)
    have I := vp_in_nI (n := q) (N := 8) (by omega) (by omega)
    obtain ⟨xk', xm', e1, e2, hX⟩ := ih (q + 1) (by omega) (upd xk q (xk q &&& (((1 : Int32) <<< (nI p &&& 31)) ^^^ (-1)))) (upd xm q (xm q &&& (((1 : Int32) <<< (nI p &&& 31)) ^^^ (-1))))
    have key : ∀ (f g : Nat → Int32), (∀ j, g j = if q + 1 ≤ j ∧ j < 8 then upd f q (f q &&& (((1 : Int32) <<< (nI p &&& 31)) ^^^ (-1))) j &&& (((1 : Int32) <<< (nI p &&& 31)) ^^^ (-1)) else upd f q (f q &&& (((1 : Int32) <<< (nI p &&& 31)) ^^^ (-1))) j) → ∀ j, g j = if q ≤ j ∧ j < 8 then f j &&& (((1 : Int32) <<< (nI p &&& 31)) ^^^ (-1)) else f j := by
      intro f g hg j
      rw [hg j]
      by_cases w : j = q
      · subst w
        rw [if_neg (by omega), pk_us, if_pos (by omega)]
      · rw [pk_un w]
        by_cases w2 : q ≤ j ∧ j < 8
        · rw [if_pos w2, if_pos (by omega)]
        · rw [if_neg w2, if_neg (by omega)]
    refine ⟨xk', xm', key xk xk' e1, key xm xm' e2, fun post n hn h => ?_⟩
    obtain ⟨m, rfl⟩ := mp_pos hn
    refine br_f h8 (And.intro I ?_)
    rw [c]
    exact ⟨I, nm_e ⟨I, I, nm_e (nm_r (nI_1 q) (hX post m (by omega) h))⟩⟩
theorem mx_close (hp : p < 8) : ∃ xk' xm' : Nat → Int32, (∀ q, q < 8 → q ≠ p → xk' q = xk q &&& (((1 : Int32) <<< (nI p &&& 31)) ^^^ (-1))) ∧ xk' p = 0 ∧ (∀ q, q < 8 → q ≠ p → xm' q = xm q &&& (((1 : Int32) <<< (nI p &&& 31)) ^^^ (-1))) ∧ xm' p = 0 ∧ ∀ (post : SX → Prop), post (dl, nt, xc, tc, tm, xn, md, lo, en + 1, dO, dA, dB, xo, xa, xb, xl, upd st p 3, xr, rg, xv, pl, tr, xk', xm', wt, xw, xt, xi, upd mc p 0, tk, xe, upd xz p 0, ti) → wpX_close post (dl, nt, xc, tc, tm, xn, md, lo, en, dO, dA, dB, xo, xa, xb, xl, st, xr, rg, xv, pl, tr, xk, xm, wt, xw, xt, xi, mc, tk, xe, xz, ti) (nI p) := by
  have c := nI_clamp (n := p) (by omega)
  have I := vp_in_nI (n := p) (N := 8) hp (by omega)
  obtain ⟨xk', xm', e1, e2, hX⟩ := mx_close_l (p := p) (dl := dl) (nt := nt) (xc := xc) (tc := tc) (tm := tm) (xn := xn) (md := md) (lo := lo) (en := en) (dO := dO) (dA := dA) (dB := dB) (xo := xo) (xa := xa) (xb := xb) (xl := xl) (st := upd st p 3) (xr := xr) (rg := rg) (xv := xv) (pl := pl) (tr := tr) (wt := wt) (xw := xw) (xt := xt) (xi := xi) (mc := upd mc p 0) (tk := tk) (xe := xe) (xz := upd xz p 0) (ti := ti) hp 8 0 rfl (upd xk p 0) (upd xm p 0)
  have z0 : (0 : Int32) &&& (((1 : Int32) <<< (nI p &&& 31)) ^^^ (-1)) = 0 := by
    apply b_ext
    intro i hi
    rw [b_and, b_0]
    rfl
  refine ⟨xk', xm', fun q hq w => by rw [e1 q, if_pos (by omega), pk_un w], by rw [e1 p, if_pos (by omega), pk_us]; exact z0, fun q hq w => by rw [e2 q, if_pos (by omega), pk_un w], by rw [e2 p, if_pos (by omega), pk_us]; exact z0, fun post h => ?_⟩
  unfold wpX_close
  simp only [c, I, mp_b0n, forall_eq, true_implies, false_implies, not_true_eq_false, not_false_eq_true, and_true, true_and]
  exact ⟨9, hX post 9 (by omega) h⟩
/-! Y: leave -/
theorem my_lv_l {L : List Nat} (hl8 : L.length ≤ 8) (h8 : ∀ q, q ∈ L → q < 8) (hp : p < 8) : ∀ d k, k + d = L.length → ∀ qu : Nat → Int32, mp_li qu L p k → ∃ qu' : Nat → Int32, (∀ i q, (mp_fl p L)[i]? = some q → qu' i = nI q) ∧ ∀ (post : SY → Prop) n, d < n → post (dl, nI (mp_fl p L).length, yc, tm, tc, yn, md, lo, en, yo, ya, yb, yl, cu, ag, dO, dA, dB, st, rg, pl, yv, yr, tr, yt, yi, mc, yk, ym, wt, li, ye, qu', yd, ys, yz, ti) → wY_leave_4 post (nI p) dl (nI L.length) yc tm tc yn md lo en n (nI (mp_fl p (L.take k)).length) (nI k) yo ya yb yl cu ag dO dA dB st rg pl yv yr tr yt yi mc yk ym wt li ye qu yd ys yz ti := by
  intro d
  induction d with
  | zero =>
    intro k hk qu hl
    have e : k = L.length := by omega
    subst e
    have e2 : L.take L.length = L := List.take_length
    rw [e2]
    refine ⟨qu, fun i q w => hl.2 i q (by rw [e2]; exact w), fun post n hn h => ?_⟩
    obtain ⟨m, rfl⟩ := mp_pos hn
    exact br_t (nI_le (Nat.le_refl _) (by omega)) h
  | succ d ih =>
    intro k hk qu hl
    have hkl : k < L.length := by omega
    have hr : L[k]? = some L[k] := List.getElem?_eq_getElem hkl
    generalize L[k] = r at hr
    have hr8 : r < 8 := h8 r (List.mem_iff_getElem?.mpr ⟨k, hr⟩)
    have hle := mp_fl_len (p := p) (k := k) (L := L) (by omega)
    have hN : ¬ nI L.length ≤ nI k := nI_ge hkl (by omega)
    have c := nI_clamp (n := k) (by omega)
    have I := vp_in_nI (n := k) (N := 8) (by omega) (by omega)
    have eq : qu k = nI r := hl.1 k r (Nat.le_refl k) hr
    by_cases w : r = p
    · subst w
      obtain ⟨qu', e1, hY⟩ := ih (k + 1) (by omega) qu (mp_li_e hl hr)
      have e3 : mp_fl r (L.take (k + 1)) = mp_fl r (L.take k) := by rw [mp_fl_s hr, if_pos rfl]
      rw [e3] at hY
      refine ⟨qu', e1, fun post n hn h => ?_⟩
      obtain ⟨m, rfl⟩ := mp_pos hn
      refine br_f hN (And.intro I ?_)
      rw [c, eq]
      exact br_t rfl (nm_r (nI_1 k) (hY post m (by omega) h))
    · obtain ⟨hl2, el⟩ := mp_li_n hl hr w
      obtain ⟨qu', e1, hY⟩ := ih (k + 1) (by omega) _ hl2
      rw [el] at hY
      have hne : ¬ nI r = nI p := fun z => w ((nI_eq (by omega) (by omega)).mp z)
      have c2 := nI_clamp (n := (mp_fl p (L.take k)).length) (by omega)
      have I2 := vp_in_nI (n := (mp_fl p (L.take k)).length) (N := 8) (by omega) (by omega)
      refine ⟨qu', e1, fun post n hn h => ?_⟩
      obtain ⟨m, rfl⟩ := mp_pos hn
      refine br_f hN (And.intro I ?_)
      rw [c, eq, c2]
      exact br_f hne ⟨I, I2, nm_e (nm_r (nI_1 _) (nm_r (nI_1 k) (hY post m (by omega) h)))⟩
theorem my_leave {st0 : Nat → Int32} (hQ : mp_Q st0 tk nt run qu qn) (hp : p < 8) : ∃ (qu' : Nat → Int32) (qn' : Int32), mp_lv qu qu' qn qn' p ∧ ∀ (post : SY → Prop), post (dl, qn', yc, tm, tc, yn, md, lo, en, yo, ya, yb, yl, cu, ag, dO, dA, dB, st, rg, pl, yv, yr, tr, yt, yi, mc, yk, ym, wt, li, ye, qu', yd, ys, yz, ti) → wpY_leave post (dl, qn, yc, tm, tc, yn, md, lo, en, yo, ya, yb, yl, cu, ag, dO, dA, dB, st, rg, pl, yv, yr, tr, yt, yi, mc, yk, ym, wt, li, ye, qu, yd, ys, yz, ti) (nI p) := by
  obtain ⟨L, e, hq, hm, hs, hl, h2⟩ := hQ
  have h8 : ∀ q, q ∈ L → q < 8 := fun q z => ((hm q).mp z).1
  have hlen := mp_len8' (mp_nd hs) h8
  subst e
  obtain ⟨qu', e1, hY⟩ := my_lv_l (dl := dl) (yc := yc) (tm := tm) (tc := tc) (yn := yn) (md := md) (lo := lo) (en := en) (yo := yo) (ya := ya) (yb := yb) (yl := yl) (cu := cu) (ag := ag) (dO := dO) (dA := dA) (dB := dB) (st := st) (rg := rg) (pl := pl) (yv := yv) (yr := yr) (tr := tr) (yt := yt) (yi := yi) (mc := mc) (yk := yk) (ym := ym) (wt := wt) (li := li) (ye := ye) (yd := yd) (ys := ys) (yz := yz) (ti := ti) (p := p) hlen h8 hp L.length 0 (by omega) qu (mp_li_0 hq)
  exact ⟨qu', _, mp_lv_of rfl (by omega) h8 hq e1, fun post h => by unfold wpY_leave; exact ⟨L.length + 1, hY post _ (by omega) h⟩⟩
end
