section
variable {dl xc tc tm xn md lo en qn yc yn : Int32} {nt : Int64} {dO dA dB xo xa xb xl st xr rg xv pl tr xk xm wt xw xt xi mc xe xz ti yo ya yb yl cu ag yv yr yt yi yk ym li ye qu yd ys yz : Nat → Int32} {tk : Nat → Int64} {run i p : Nat} {T C : Int} {G : Nat → Int32 → Prop}
theorem mp_D_push {n : Nat} {op a b : Int32} (h : mp_D (nI n) dO dA dB) (hn : n < 24) (ho : mp_ok op a b) : mp_D (nI (n + 1)) (upd dO n op) (upd dA n a) (upd dB n b) := by
  obtain ⟨n', h1, h2, h3⟩ := h
  rw [nI_eq (by omega) (by omega)] at h2
  subst h2
  refine ⟨n + 1, by omega, rfl, fun i hi => ?_⟩
  by_cases e : i = n
  · subst e
    rw [pk_us, pk_us, pk_us]
    exact ho
  · rw [pk_un e, pk_un e, pk_un e]
    exact h3 i (by omega)
theorem mp_D_0 : mp_D 0 dO dA dB := ⟨0, by omega, rfl, fun i hi => absurd hi (by omega)⟩
def mp_ld (f f' d : Nat → Int32) (m : Nat) : Prop := (∀ i, i < 24 → f' (48 * m + 24 + i) = f (48 * m + i) ∧ f' (48 * m + i) = d i) ∧ (∀ j, (j < 48 * m ∨ 48 * m + 48 ≤ j) → f' j = f j)
def mp_ly (g g' d : Nat → Int32) (v n : Nat) : Prop := (∀ k, k < n → g' (24 * v + k) = d k) ∧ (∀ j, (j < 24 * v ∨ 24 * v + n ≤ j) → g' j = g j)
theorem mp_CV_k {xo' xa' xb' xl' yo' ya' yb' yl' : Nat → Int32} {a b : Nat} (h : mp_CV xo xa xb xl yo ya yb yl a b) (e1 : xl' a = xl a) (e2 : yl' b = yl b)
    (e3 : ∀ i, i < 24 → xo' (24 * a + i) = xo (24 * a + i) ∧ xa' (24 * a + i) = xa (24 * a + i) ∧ xb' (24 * a + i) = xb (24 * a + i))
    (e4 : ∀ i, i < 24 → yo' (24 * b + i) = yo (24 * b + i) ∧ ya' (24 * b + i) = ya (24 * b + i) ∧ yb' (24 * b + i) = yb (24 * b + i)) : mp_CV xo' xa' xb' xl' yo' ya' yb' yl' a b := by
  obtain ⟨n, h1, h2, h3, h4, h5⟩ := h
  refine ⟨n, h1, h2, e1.trans h3, e2.trans h4, fun i hi => ?_⟩
  obtain ⟨a1, a2, a3⟩ := e3 i (by omega)
  obtain ⟨b1, b2, b3⟩ := e4 i (by omega)
  rw [a1, a2, a3, b1, b2, b3]
  exact h5 i hi
theorem mp_load_R {xo' xa' xb' yo' ya' yb' xv' : Nat → Int32} {m n c' : Nat} (h : (mp_D (nI n) dO dA dB ∧ mp_C xo xa xb xl yo ya yb yl cu ∧ mp_V st xv yv xl cu ∧ mp_P st pl ∧ mp_S st ∧ mp_M st mc xt xi yt yi ∧ mp_K st xk yk ∧ mp_K st xm ym ∧ mp_W st xw li ye tm ∧ mp_T tm tc ti T ∧ mp_Q st tk nt run qu qn ∧ mp_E st xr yr ∧ mp_Z 0 st xr xe xz 0 yd ys yz 0 ∧ mp_F st nt C ∧ mp_G G st xv yz)) (hm4 : m < 4) (hn0 : 0 < n) (hn : n ≤ 24) (hGt : ∀ q v, G q v)
    (hno : ∀ p, p < 8 → mp_al st p → xv p ≠ nI (2 * m + 1)) (hc' : (cu m = 0 ∧ c' = 1) ∨ (cu m ≠ 0 ∧ c' = 0))
    (x1 : mp_ld xo xo' dO m) (x2 : mp_ld xa xa' dA m) (x3 : mp_ld xb xb' dB m) (y1 : mp_ly yo yo' dO (2 * m + c') n) (y2 : mp_ly ya ya' dA (2 * m + c') n) (y3 : mp_ly yb yb' dB (2 * m + c') n)
    (hv : ∀ p, p < 8 → xv' p = if xv p = nI (2 * m) then nI (2 * m + 1) else xv p) :
    (mp_D 0 dO dA dB ∧ mp_C xo' xa' xb' (upd (upd xl (2 * m + 1) (xl (2 * m))) (2 * m) (nI n)) yo' ya' yb' (upd yl (2 * m + c') (nI n)) (upd cu m (nI c')) ∧ mp_V st xv' yv (upd (upd xl (2 * m + 1) (xl (2 * m))) (2 * m) (nI n)) (upd cu m (nI c')) ∧ mp_P st pl ∧ mp_S st ∧ mp_M st mc xt xi yt yi ∧ mp_K st xk yk ∧ mp_K st xm ym ∧ mp_W st xw li ye tm ∧ mp_T tm tc ti T ∧ mp_Q st tk nt run qu qn ∧ mp_E st xr yr ∧ mp_Z 0 st xr xe xz 0 yd ys yz 0 ∧ mp_F st nt C ∧ mp_G G st xv' yz) := by
  obtain ⟨hD, hC, hV, hP, hS, hM, hK, hm, hW, hT, hQ, hE, hZ, hF, hG⟩ := h
  have hc2 : c' < 2 := by omega
  have hcc : ∀ c, c < 2 → cu m = nI c → c' = 1 - c := fun c hc e => by
    rcases hc' with ⟨a, b⟩ | ⟨a, b⟩
    · have w : nI c = nI 0 := e.symm.trans a
      rw [nI_eq (by omega) (by omega)] at w
      omega
    · have : c ≠ 0 := fun z => by subst z; exact a e
      omega
  refine ⟨mp_D_0, fun m' hm' => ?_, fun q hq ha => ?_, hP, hS, hM, hK, hm, hW, hT, hQ, hE, hZ, hF, fun q _ _ _ => hGt _ _⟩
  · by_cases e : m' = m
    · subst e
      refine Or.inr ⟨c', hc2, pk_us, ⟨n, hn0, hn, pk_us, pk_us, fun i hi => ?_⟩, ?_⟩
      · obtain ⟨n', h1, h2, h3⟩ := hD
        rw [nI_eq (by omega) (by omega)] at h2
        subst h2
        rw [y1.1 i hi, y2.1 i hi, y3.1 i hi, show 24 * (2 * m') + i = 48 * m' + i by omega, (x1.1 i (by omega)).2, (x2.1 i (by omega)).2, (x3.1 i (by omega)).2]
        exact ⟨rfl, rfl, rfl, h3 i hi⟩
      · rcases hC m' hm' with ⟨e1, e2, e3⟩ | ⟨c, hc, e1, ⟨n0, a1, a2, a3, a4, a5⟩, e3⟩
        · left
          rw [pk_un (by omega), pk_us, e2]
        · right
          have ec := hcc c hc e1
          have eb : 2 * m' + 1 - c' = 2 * m' + c := by omega
          rw [eb]
          refine ⟨n0, a1, a2, by rw [pk_un (by omega), pk_us]; exact a3, by rw [pk_un (by omega)]; exact a4, fun i hi => ?_⟩
          have w := a5 i hi
          rw [show 24 * (2 * m') + i = 48 * m' + i by omega] at w
          rw [show 24 * (2 * m' + 1) + i = 48 * m' + 24 + i by omega, (x1.1 i (by omega)).1, (x2.1 i (by omega)).1, (x3.1 i (by omega)).1, y1.2 _ (by omega), y2.2 _ (by omega), y3.2 _ (by omega)]
          exact w
    · have kx : ∀ a, a ≠ 2 * m → a ≠ 2 * m + 1 → ∀ i, i < 24 → xo' (24 * a + i) = xo (24 * a + i) ∧ xa' (24 * a + i) = xa (24 * a + i) ∧ xb' (24 * a + i) = xb (24 * a + i) := fun a n1 n2 i hi => ⟨x1.2 _ (by omega), x2.2 _ (by omega), x3.2 _ (by omega)⟩
      have ky : ∀ b, b ≠ 2 * m + c' → ∀ i, i < 24 → yo' (24 * b + i) = yo (24 * b + i) ∧ ya' (24 * b + i) = ya (24 * b + i) ∧ yb' (24 * b + i) = yb (24 * b + i) := fun b n1 i hi => ⟨y1.2 _ (by omega), y2.2 _ (by omega), y3.2 _ (by omega)⟩
      rw [pk_un e, pk_un (show 2 * m' ≠ 2 * m by omega), pk_un (show 2 * m' ≠ 2 * m + 1 by omega), pk_un (show 2 * m' + 1 ≠ 2 * m by omega), pk_un (show 2 * m' + 1 ≠ 2 * m + 1 by omega)]
      rcases hC m' hm' with w | ⟨c, hc, e1, e2, e3⟩
      · exact Or.inl w
      · refine Or.inr ⟨c, hc, e1, mp_CV_k e2 (by rw [pk_un (by omega), pk_un (by omega)]) (by rw [pk_un (by omega)]) (kx _ (by omega) (by omega)) (ky _ (by omega)), ?_⟩
        rcases e3 with e3 | e3
        · exact Or.inl e3
        · exact Or.inr (mp_CV_k e3 (by rw [pk_un (by omega), pk_un (by omega)]) (by rw [pk_un (by omega)]) (kx _ (by omega) (by omega)) (ky _ (by omega)))
  · obtain ⟨mm, c, hmm, hc, e, h⟩ := hV q hq ha
    by_cases z : mm = m
    · subst z
      rcases hC mm hmm with ⟨e1, _, _⟩ | ⟨c0, hc0, e1, ⟨n0, a1, a2, a3, a4, a5⟩, e3⟩
      · exact absurd (e.symm.trans e1) (mp_m1 c hc)
      · have ec := hcc c hc e
        rcases h with ⟨h1, h2⟩ | ⟨h1, h2, h3⟩
        · refine ⟨mm, c', hmm, hc2, pk_us, Or.inr ⟨?_, ?_, ?_⟩⟩
          · rw [hv q hq, if_pos h1]
          · rw [h2]
            exact congrArg nI (by omega)
          · rw [pk_un (by omega), pk_us, a3]
            exact nI_ne0 a1 (by omega)
        · exact absurd h1 (hno q hq ha)
    · refine ⟨mm, c, hmm, hc, by rw [pk_un z]; exact e, ?_⟩
      have hk : xv q ≠ nI (2 * m) := fun w => by
        rcases h with ⟨h1, _⟩ | ⟨h1, _, _⟩
        · rw [h1, nI_eq (by omega) (by omega)] at w
          omega
        · rw [h1, nI_eq (by omega) (by omega)] at w
          omega
      rw [hv q hq, if_neg hk, pk_un (show 2 * mm + 1 ≠ 2 * m by omega), pk_un (show 2 * mm + 1 ≠ 2 * m + 1 by omega)]
      exact h
theorem mp_purge_R {m : Nat} (h : (mp_D dl dO dA dB ∧ mp_C xo xa xb xl yo ya yb yl cu ∧ mp_V st xv yv xl cu ∧ mp_P st pl ∧ mp_S st ∧ mp_M st mc xt xi yt yi ∧ mp_K st xk yk ∧ mp_K st xm ym ∧ mp_W st xw li ye tm ∧ mp_T tm tc ti T ∧ mp_Q st tk nt run qu qn ∧ mp_E st xr yr ∧ mp_Z i st xr xe xz xc yd ys yz yc ∧ mp_F st nt C ∧ mp_G G st xv yz)) (hm4 : m < 4) (hno : ∀ p, p < 8 → mp_al st p → xv p ≠ nI (2 * m + 1)) : (mp_D dl dO dA dB ∧ mp_C xo xa xb (upd xl (2 * m + 1) 0) yo ya yb yl cu ∧ mp_V st xv yv (upd xl (2 * m + 1) 0) cu ∧ mp_P st pl ∧ mp_S st ∧ mp_M st mc xt xi yt yi ∧ mp_K st xk yk ∧ mp_K st xm ym ∧ mp_W st xw li ye tm ∧ mp_T tm tc ti T ∧ mp_Q st tk nt run qu qn ∧ mp_E st xr yr ∧ mp_Z i st xr xe xz xc yd ys yz yc ∧ mp_F st nt C ∧ mp_G G st xv yz) := by
  obtain ⟨hD, hC, hV, hP, hS, hM, hK, hm, hW, hT, hQ, hE, hZ, hF, hG⟩ := h
  refine ⟨hD, fun m' hm' => ?_, fun q hq ha => ?_, hP, hS, hM, hK, hm, hW, hT, hQ, hE, hZ, hF, hG⟩
  · rw [pk_un (show 2 * m' ≠ 2 * m + 1 by omega)]
    by_cases e : m' = m
    · subst e
      rw [pk_us]
      rcases hC m' hm' with ⟨w1, w2, w3⟩ | ⟨c, hc, e1, e2, e3⟩
      · exact Or.inl ⟨w1, w2, rfl⟩
      · exact Or.inr ⟨c, hc, e1, mp_CV_k e2 (by rw [pk_un (by omega)]) rfl (fun i _ => ⟨rfl, rfl, rfl⟩) (fun i _ => ⟨rfl, rfl, rfl⟩), Or.inl rfl⟩
    · rw [pk_un (show 2 * m' + 1 ≠ 2 * m + 1 by omega)]
      rcases hC m' hm' with w | ⟨c, hc, e1, e2, e3⟩
      · exact Or.inl w
      · refine Or.inr ⟨c, hc, e1, mp_CV_k e2 (by rw [pk_un (by omega)]) rfl (fun i _ => ⟨rfl, rfl, rfl⟩) (fun i _ => ⟨rfl, rfl, rfl⟩), ?_⟩
        rcases e3 with e3 | e3
        · exact Or.inl e3
        · exact Or.inr (mp_CV_k e3 (by rw [pk_un (by omega)]) rfl (fun i _ => ⟨rfl, rfl, rfl⟩) (fun i _ => ⟨rfl, rfl, rfl⟩))
  · obtain ⟨mm, c, hmm, hc, e, h⟩ := hV q hq ha
    refine ⟨mm, c, hmm, hc, e, ?_⟩
    rcases h with h | ⟨h1, h2, h3⟩
    · exact Or.inl h
    · by_cases z : mm = m
      · subst z
        exact absurd h1 (hno q hq ha)
      · rw [pk_un (show 2 * mm + 1 ≠ 2 * m + 1 by omega)]
        exact Or.inr ⟨h1, h2, h3⟩
/-- who runs old code of m: X's version is 2m + 1, Y's is of m and not the current one -/
theorem mp_old {m : Nat} (hV : mp_V st xv yv xl cu) (hC : mp_C xo xa xb xl yo ya yb yl cu) (hp : p < 8) (ha : mp_al st p) (hm4 : m < 4) : ∃ a b, a < 8 ∧ b < 8 ∧ xv p = nI a ∧ yv p = nI b ∧ b / 2 = a / 2 ∧ (a = 2 * m + 1 ↔ b / 2 = m ∧ nI b ≠ nI (2 * m) + cu m) ∧ (a % 2 = 0 ↔ nI b = nI (2 * (b / 2)) + cu (b / 2)) := by
  obtain ⟨mm, c, hmm, hc, e, h⟩ := hV p hp ha
  rcases h with ⟨h1, h2⟩ | ⟨h1, h2, h3⟩
  · refine ⟨2 * mm, 2 * mm + c, by omega, by omega, h1, h2, by omega, ⟨fun w => absurd w (by omega), fun w => ?_⟩, ⟨fun _ => ?_, fun _ => by omega⟩⟩
    · have e1 : mm = m := by omega
      subst e1
      rw [e, nI_add] at w
      exact absurd rfl w.2
    · have e1 : (2 * mm + c) / 2 = mm := by omega
      rw [e1, e, nI_add]
  · refine ⟨2 * mm + 1, 2 * mm + 1 - c, by omega, by omega, h1, h2, by omega, ⟨fun w => ⟨by omega, ?_⟩, fun w => by omega⟩, ⟨fun w => absurd w (by omega), fun w => ?_⟩⟩
    · have e1 : mm = m := by omega
      subst e1
      rw [e, nI_add]
      intro w
      rw [nI_eq (by omega) (by omega)] at w
      omega
    · have e1 : (2 * mm + 1 - c) / 2 = mm := by omega
      rw [e1, e, nI_add, nI_eq (by omega) (by omega)] at w
      omega
end
