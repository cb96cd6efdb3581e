def mi_K (k : Nat) : Int := if k ≤ 4000 then 100 * (k : Int) else 400000
theorem mi_K_b (k : Nat) : 0 ≤ mi_K k ∧ mi_K k ≤ 400000 := by unfold mi_K; split <;> omega
theorem mi_K_u (k : Nat) : mi_K k ≤ mi_K (k + 4) := by unfold mi_K; split <;> split <;> omega
theorem mi_K_s {k : Nat} (hk : k + 4 ≤ 2048) : mi_K (k + 4) = mi_K k + 400 := by unfold mi_K; rw [if_pos (by omega), if_pos (by omega)]; omega
/-- the relation: one queue, one set of processes, the code of both; X's and Y's tuples share what both keep alike -/
def i_Rel (k : Nat) (u : SX) (v : SY) : Prop := ∃ (dl : Int32) (nt : Int64) (tc md lo en : Int32) (dO dA dB xo xa xb xl st xr rg xv pl tr xk xm wt xw xt xi mc : Nat → Int32) (tk : Nat → Int64) (xe xz ti : Nat → Int32) (qn : Int32) (yo ya yb yl cu ag yv yr yt yi yk ym li ye qu yd ys yz : Nat → Int32) (tm xn : Int32), u = (dl, nt, 0, tc, tm, xn, md, lo, en, dO, dA, dB, xo, xa, xb, xl, st, xr, rg, xv, pl, tr, xk, xm, wt, xw, xt, xi, mc, tk, xe, xz, ti) ∧ v = (dl, qn, 0, tm, tc, xn, md, lo, en, yo, ya, yb, yl, cu, ag, dO, dA, dB, st, rg, pl, yv, yr, tr, yt, yi, mc, yk, ym, wt, li, ye, qu, yd, ys, yz, ti) ∧ (mp_D dl dO dA dB ∧ mp_C xo xa xb xl yo ya yb yl cu ∧ mp_V st xv yv xl cu ∧ mp_P st pl ∧ mp_S st ∧ mp_M st mc xt xi yt yi ∧ mp_K st xk yk ∧ mp_K st xm ym ∧ mp_W st xw li ye tm ∧ mp_T tm tc ti 1000100800 ∧ mp_Q st tk nt 8 qu qn ∧ mp_E st xr yr ∧ mp_Z 0 st xr xe xz 0 yd ys yz 0 ∧ mp_F st nt (2 * tm.toInt + mi_K k) ∧ mp_G (fun _ _ => True) st xv yz)
theorem i_up {k : Nat} {u : SX} {v : SY} (h : i_Rel k u v) : i_Rel (k + 4) u v := by
  obtain ⟨dl, nt, tc, md, lo, en, dO, dA, dB, xo, xa, xb, xl, st, xr, rg, xv, pl, tr, xk, xm, wt, xw, xt, xi, mc, tk, xe, xz, ti, qn, yo, ya, yb, yl, cu, ag, yv, yr, yt, yi, yk, ym, li, ye, qu, yd, ys, yz, tm, xn, e1, e2, hR⟩ := h
  have b := hR.2.2.2.2.2.2.2.2.2.1.2.1
  exact ⟨dl, nt, tc, md, lo, en, dO, dA, dB, xo, xa, xb, xl, st, xr, rg, xv, pl, tr, xk, xm, wt, xw, xt, xi, mc, tk, xe, xz, ti, qn, yo, ya, yb, yl, cu, ag, yv, yr, yt, yi, yk, ym, li, ye, qu, yd, ys, yz, tm, xn, e1, e2, mp_F_R hR (by have := mi_K_u k; omega) (by have := mi_K_b (k + 4); omega)⟩
section
variable {dl xc tc tm xn md lo en qn yc yn : Int32} {nt : Int64} {dO dA dB xo xa xb xl st xr rg xv pl tr xk xm wt xw xt xi mc xe xz ti yo ya yb yl cu ag yv yr yt yi yk ym li ye qu yd ys yz : Nat → Int32} {tk : Nat → Int64} {run i p : Nat} {T C : Int} {G : Nat → Int32 → Prop}
theorem mi_mk {k : Nat} (h : (mp_D dl dO dA dB ∧ mp_C xo xa xb xl yo ya yb yl cu ∧ mp_V st xv yv xl cu ∧ mp_P st pl ∧ mp_S st ∧ mp_M st mc xt xi yt yi ∧ mp_K st xk yk ∧ mp_K st xm ym ∧ mp_W st xw li ye tm ∧ mp_T tm tc ti T ∧ mp_Q st tk nt 8 qu qn ∧ mp_E st xr yr ∧ mp_Z 0 st xr xe xz 0 yd ys yz 0 ∧ mp_F st nt C ∧ mp_G (fun _ _ => True) st xv yz)) (hT1 : T ≤ 1000100800) (hC1 : C ≤ 2 * tm.toInt + mi_K k) : i_Rel k (dl, nt, 0, tc, tm, xn, md, lo, en, dO, dA, dB, xo, xa, xb, xl, st, xr, rg, xv, pl, tr, xk, xm, wt, xw, xt, xi, mc, tk, xe, xz, ti) (dl, qn, 0, tm, tc, xn, md, lo, en, yo, ya, yb, yl, cu, ag, dO, dA, dB, st, rg, pl, yv, yr, tr, yt, yi, mc, yk, ym, wt, li, ye, qu, yd, ys, yz, ti) := by
  have b := h.2.2.2.2.2.2.2.2.2.1.2.1
  exact ⟨dl, nt, tc, md, lo, en, dO, dA, dB, xo, xa, xb, xl, st, xr, rg, xv, pl, tr, xk, xm, wt, xw, xt, xi, mc, tk, xe, xz, ti, qn, yo, ya, yb, yl, cu, ag, yv, yr, yt, yi, yk, ym, li, ye, qu, yd, ys, yz, tm, xn, rfl, rfl, mp_T_R (mp_F_R h hC1 (by have := mi_K_b k; omega)) hT1⟩
theorem my_init_s {post : SY → Prop} {r n : Nat} (hr : r < 4) (h : wY_init_231 post dl qn yc tm tc yn md lo en n (nI (r + 1)) yo ya yb yl (upd cu r (-1)) ag dO dA dB st rg pl yv yr tr yt yi mc yk ym wt li ye qu yd ys yz ti) : wY_init_231 post dl qn yc tm tc yn md lo en (n + 1) (nI r) yo ya yb yl cu ag dO dA dB st rg pl yv yr tr yt yi mc yk ym wt li ye qu yd ys yz ti := by
  have c := nI_clamp (n := r) (by omega)
  have I := vp_in_nI (n := r) (N := 4) hr (by omega)
  refine br_f (nI_ge (b := 4) hr (by omega)) (And.intro I ?_)
  rw [c]
  exact nm_e (nm_r (nI_1 r) h)
end
theorem mi_na (q : Nat) : ¬ mp_al (fun _ => 0) q := by
  unfold mp_al
  show ¬ ((0 : Int32) = 1 ∨ (0 : Int32) = 2)
  decide
theorem mi_K0 : mp_K (fun _ => 0) (fun _ => 0) (fun _ => 0) := fun p _ => ⟨mp_ac_z (fun i _ => decide_eq_false (fun z => z rfl)), fun q _ z => absurd rfl z⟩
theorem i_vc0 : wpX_init (fun u => wpY_init (fun v => i_Rel 0 u v)) := by
  refine ⟨5, my_init_s (r := 0) (by omega) (my_init_s (r := 1) (by omega) (my_init_s (r := 2) (by omega) (my_init_s (r := 3) (by omega) (br_t (nI_le (b := 4) (Nat.le_refl 4) (by omega)) ?_))))⟩
  refine mi_mk (T := 1000100800) (C := 0) ?_ (by omega) (by have : mi_K 0 = 0 := rfl; have : (0 : Int32).toInt = 0 := rfl; omega)
  have n1 : ¬ (0 : Int32) = 1 := by decide
  have n2 : ¬ (0 : Int32) = 2 := by decide
  have n3 : ¬ (0 : Int32) = 3 := by decide
  have c0 : ∀ P : Nat → Bool, (∀ q, q < 8 → P q = false) → mp_cn P 8 = 0 := fun P h => mp_cn_0 8 h
  refine ⟨mp_D_0, fun m hm => Or.inl ⟨?_, rfl, rfl⟩, fun q _ ha => absurd ha (mi_na q), fun q _ ha => absurd ha (mi_na q), fun q _ => Or.inl rfl, fun q _ => ⟨0, by omega, rfl, fun _ => rfl, fun k hk => absurd hk (by omega)⟩, mi_K0, mi_K0, fun q _ z => absurd z n2, ⟨by decide, by decide, by decide, by decide, fun j _ _ => rfl⟩, ⟨[], rfl, fun i q z => absurd z (by simp), fun q => ⟨fun z => absurd z List.not_mem_nil, fun z => absurd z.2.1 n1⟩, List.Pairwise.nil, fun q z => absurd z List.not_mem_nil, fun z => absurd z (by omega)⟩, fun q _ z => absurd z n3, ⟨0, by omega, by omega, rfl, rfl, (c0 _ (fun q _ => decide_eq_false (fun z => z rfl))).symm, fun j hj => absurd hj (by omega), fun q _ z => absurd rfl z, fun j j' _ hj => absurd hj (by omega), fun q _ => ⟨fun z => absurd rfl z, fun z => absurd rfl z.1⟩⟩, ⟨by decide, ?_, by omega⟩, fun _ _ _ _ => trivial⟩
  · have h : m = 0 ∨ m = 1 ∨ m = 2 ∨ m = 3 := by omega
    rcases h with rfl | rfl | rfl | rfl <;> rfl
  · rw [c0 _ (fun q _ => decide_eq_false n2)]
    decide
