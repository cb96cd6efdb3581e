section
variable {dl xc tc tm xn md lo en qn yc yn : Int32} {nt : Int64} {dO dA dB xo xa xb xl st xr rg xv pl tr xk xm wt xw xt xi mc xe xz ti yo ya yb yl cu ag yv yr yt yi yk ym li ye qu yd ys yz : Nat → Int32} {tk : Nat → Int64} {run i p : Nat} {T C : Int} {G : Nat → Int32 → Prop}
theorem mp_nn {x : Int32} (h : 0 ≤ x.toInt) : ∃ j : Nat, j < 2 ^ 31 ∧ x = nI j ∧ x.toInt = (j : Int) := by
  obtain ⟨j, hj, e⟩ := nI_of (x := x) (by
    rw [Int32.lt_iff_toInt_lt, show (0 : Int32).toInt = 0 from by decide]
    omega)
  exact ⟨j, hj, e, by rw [e, nI_toInt hj]⟩
theorem mp_15 : (15 : Int32).toBitVec.toNat = 2 ^ 4 - 1 := by decide
theorem mp_7 : (7 : Int32).toBitVec.toNat = 2 ^ 3 - 1 := by decide
theorem mp_3 : (3 : Int32).toBitVec.toNat = 2 ^ 2 - 1 := by decide
theorem mp_tell_R {x : Int32} (h : (mp_D dl dO dA dB ∧ mp_C xo xa xb xl yo ya yb yl cu ∧ mp_V st xv yv xl cu ∧ mp_P st pl ∧ mp_S st ∧ mp_M st mc xt xi yt yi ∧ mp_K st xk yk ∧ mp_K st xm ym ∧ mp_W st xw li ye tm ∧ mp_T tm tc ti T ∧ mp_Q st tk nt run qu qn ∧ mp_E st xr yr ∧ mp_Z i st xr xe xz xc yd ys yz yc ∧ mp_F st nt C ∧ mp_G G st xv yz)) (ht : tc.toInt + 1 ≤ tm.toInt) (hT1 : T < 1900000000) : (mp_D dl dO dA dB ∧ mp_C xo xa xb xl yo ya yb yl cu ∧ mp_V st xv yv xl cu ∧ mp_P st pl ∧ mp_S st ∧ mp_M st mc xt xi yt yi ∧ mp_K st xk yk ∧ mp_K st xm ym ∧ mp_W st xw li ye tm ∧ mp_T tm (tc + 1) (upd ti (tc &&& 15).toNatClampNeg x) T ∧ mp_Q st tk nt run qu qn ∧ mp_E st xr yr ∧ mp_Z i st xr xe xz xc yd ys yz yc ∧ mp_F st nt C ∧ mp_G G st xv yz) := by
  obtain ⟨hD, hC, hV, hP, hS, hM, hK, hm, hW, hT, hQ, hE, hZ, hF, hG⟩ := h
  obtain ⟨a, b, c, d, e⟩ := hT
  have e1 := mp_t1 c (by omega)
  refine ⟨hD, hC, hV, hP, hS, hM, hK, hm, hW, ⟨a, b, by omega, by omega, fun j hj w => ?_⟩, hQ, hE, hZ, hF, hG⟩
  obtain ⟨t, ht2, rfl, et⟩ := mp_nn c
  rw [e1, et] at w
  rw [pk_andN (by omega) 4 mp_15, nI_clamp (by have := Nat.mod_lt t (show 0 < 2 ^ 4 by decide); omega)]
  have h16 : t % 2 ^ 4 ≠ j := by
    have : (2 : Nat) ^ 4 = 16 := rfl
    rw [this]
    omega
  rw [pk_un (Ne.symm h16)]
  exact e j hj (by omega)
theorem mp_K_R {xk' yk' xm' ym' : Nat → Int32} (h : (mp_D dl dO dA dB ∧ mp_C xo xa xb xl yo ya yb yl cu ∧ mp_V st xv yv xl cu ∧ mp_P st pl ∧ mp_S st ∧ mp_M st mc xt xi yt yi ∧ mp_K st xk yk ∧ mp_K st xm ym ∧ mp_W st xw li ye tm ∧ mp_T tm tc ti T ∧ mp_Q st tk nt run qu qn ∧ mp_E st xr yr ∧ mp_Z i st xr xe xz xc yd ys yz yc ∧ mp_F st nt C ∧ mp_G G st xv yz)) (h1 : mp_K st xk' yk') (h2 : mp_K st xm' ym') : (mp_D dl dO dA dB ∧ mp_C xo xa xb xl yo ya yb yl cu ∧ mp_V st xv yv xl cu ∧ mp_P st pl ∧ mp_S st ∧ mp_M st mc xt xi yt yi ∧ mp_K st xk' yk' ∧ mp_K st xm' ym' ∧ mp_W st xw li ye tm ∧ mp_T tm tc ti T ∧ mp_Q st tk nt run qu qn ∧ mp_E st xr yr ∧ mp_Z i st xr xe xz xc yd ys yz yc ∧ mp_F st nt C ∧ mp_G G st xv yz) := by
  obtain ⟨hD, hC, hV, hP, hS, hM, hK, hm, hW, hT, hQ, hE, hZ, hF, hG⟩ := h
  exact ⟨hD, hC, hV, hP, hS, hM, h1, h2, hW, hT, hQ, hE, hZ, hF, hG⟩
theorem mp_M_R {mc' xt' xi' yt' yi' : Nat → Int32} (h : (mp_D dl dO dA dB ∧ mp_C xo xa xb xl yo ya yb yl cu ∧ mp_V st xv yv xl cu ∧ mp_P st pl ∧ mp_S st ∧ mp_M st mc xt xi yt yi ∧ mp_K st xk yk ∧ mp_K st xm ym ∧ mp_W st xw li ye tm ∧ mp_T tm tc ti T ∧ mp_Q st tk nt run qu qn ∧ mp_E st xr yr ∧ mp_Z i st xr xe xz xc yd ys yz yc ∧ mp_F st nt C ∧ mp_G G st xv yz)) (h1 : mp_M st mc' xt' xi' yt' yi') : (mp_D dl dO dA dB ∧ mp_C xo xa xb xl yo ya yb yl cu ∧ mp_V st xv yv xl cu ∧ mp_P st pl ∧ mp_S st ∧ mp_M st mc' xt' xi' yt' yi' ∧ mp_K st xk yk ∧ mp_K st xm ym ∧ mp_W st xw li ye tm ∧ mp_T tm tc ti T ∧ mp_Q st tk nt run qu qn ∧ mp_E st xr yr ∧ mp_Z i st xr xe xz xc yd ys yz yc ∧ mp_F st nt C ∧ mp_G G st xv yz) := by
  obtain ⟨hD, hC, hV, hP, hS, hM, hK, hm, hW, hT, hQ, hE, hZ, hF, hG⟩ := h
  exact ⟨hD, hC, hV, hP, hS, h1, hK, hm, hW, hT, hQ, hE, hZ, hF, hG⟩
/-! numbers below a bound -/
theorem mp_below (x : Int32) {n : Nat} (hn : n < 2 ^ 31) : (∃ j, j < n ∧ x = nI j) ∨ (¬ (∃ j, j < n ∧ x = nI j) ∧ (x < 0 ∨ (¬ x < 0 ∧ nI n ≤ x))) := by
  rcases pk_ix x hn with h | h | h
  · refine Or.inr ⟨fun ⟨j, hj, e⟩ => ?_, Or.inl h⟩
    rw [e] at h
    exact nI_pos (by omega) h
  · refine Or.inr ⟨fun ⟨j, hj, e⟩ => ?_, Or.inr ⟨fun z => ?_, h⟩⟩
    · rw [e] at h
      exact nI_ge hj hn h
    · rw [Int32.lt_iff_toInt_lt, show (0 : Int32).toInt = 0 from by decide] at z
      rw [Int32.le_iff_toInt_le, nI_toInt hn] at h
      omega
  · exact Or.inl h
theorem mp_al_of (hS : mp_S st) (hp : p < 8) : (mp_al st p ∧ (st p = 1 ∨ (st p ≠ 1 ∧ st p = 2))) ∨ (¬ mp_al st p ∧ (st p = 0 ∨ st p = 3) ∧ st p ≠ 1 ∧ st p ≠ 2) := by
  unfold mp_al
  rcases hS p hp with h | h | h | h <;> rw [h] <;> decide
/-- the queue is empty just when none is READY -/
theorem mp_Q_head (h : mp_Q st tk nt 8 qu qn) : (qn = 0 ∧ ∀ q, q < 8 → st q ≠ 1) ∨ ∃ p n, p < 8 ∧ st p = 1 ∧ qu 0 = nI p ∧ qn = nI (n + 1) ∧ n < 8 := by
  obtain ⟨L, e, hq, hm, hs, hl, h2⟩ := h
  have h8 : ∀ q, q ∈ L → q < 8 := fun q z => ((hm q).mp z).1
  have hlen := mp_len8' (mp_nd hs) h8
  cases L with
  | nil => exact Or.inl ⟨e, fun q hq' z => absurd ((hm q).mpr ⟨hq', z, by omega⟩) List.not_mem_nil⟩
  | cons a L =>
    have w := (hm a).mp List.mem_cons_self
    exact Or.inr ⟨a, L.length, w.1, w.2.1, hq 0 a rfl, e, by
      have : (a :: L).length = L.length + 1 := rfl
      omega⟩
end
