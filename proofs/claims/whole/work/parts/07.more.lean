theorem mp_lv_of {qu qu' : Nat → Int32} {qn : Int32} {p : Nat} {L : List Nat} (e : qn = nI L.length) (hl : L.length < 2 ^ 31) (h8 : ∀ q, q ∈ L → q < 8) (hq : ∀ i q, L[i]? = some q → qu i = nI q) (h : ∀ i q, (mp_fl p L)[i]? = some q → qu' i = nI q) : mp_lv qu qu' qn (nI (mp_fl p L).length) p := by
  intro L2 e2 hl2 h82 hq2
  have el : L2.length = L.length := by
    rw [e, nI_eq hl hl2] at e2
    exact e2.symm
  have eL : L2 = L := by
    apply List.ext_getElem?
    intro i
    rcases Nat.lt_or_ge i L.length with hi | hi
    · have hi2 : i < L2.length := by omega
      have a : L[i]? = some L[i] := List.getElem?_eq_getElem hi
      have b : L2[i]? = some L2[i] := List.getElem?_eq_getElem hi2
      have w := (hq i _ a).symm.trans (hq2 i _ b)
      have c1 := h8 _ (List.getElem_mem hi)
      have c2 := h82 _ (List.getElem_mem hi2)
      rw [nI_eq (by omega) (by omega)] at w
      rw [a, b, w]
    · rw [List.getElem?_eq_none hi, List.getElem?_eq_none (by omega)]
  subst eL
  exact ⟨rfl, h⟩
def mp_li (qu : Nat → Int32) (L : List Nat) (p k : Nat) : Prop := (∀ i q, k ≤ i → L[i]? = some q → qu i = nI q) ∧ (∀ i q, (mp_fl p (L.take k))[i]? = some q → qu i = nI q)
theorem mp_li_0 {qu : Nat → Int32} {L : List Nat} {p : Nat} (h : ∀ i q, L[i]? = some q → qu i = nI q) : mp_li qu L p 0 := ⟨fun i q _ w => h i q w, fun i q w => by
  have e : mp_fl p (L.take 0) = [] := rfl
  rw [e] at w
  exact absurd w (by simp)⟩
theorem mp_fl_len {L : List Nat} {p k : Nat} (hk : k ≤ L.length) : (mp_fl p (L.take k)).length ≤ k := by
  have h := List.length_filter_le (fun q => decide (q ≠ p)) (L.take k)
  rw [List.length_take] at h
  unfold mp_fl
  omega
theorem mp_fl_s {L : List Nat} {p k q : Nat} (h : L[k]? = some q) : mp_fl p (L.take (k + 1)) = if q = p then mp_fl p (L.take k) else mp_fl p (L.take k) ++ [q] := by
  unfold mp_fl
  rw [List.take_add_one, h, List.filter_append]
  by_cases e : q = p
  · rw [if_pos e, e]
    simp
  · rw [if_neg e]
    simp [e]
theorem mp_li_e {qu : Nat → Int32} {L : List Nat} {p k : Nat} (h : mp_li qu L p k) (hk : L[k]? = some p) : mp_li qu L p (k + 1) := ⟨fun i q z w => h.1 i q (by omega) w, fun i q w => by
  rw [mp_fl_s hk, if_pos rfl] at w
  exact h.2 i q w⟩
theorem mp_li_n {qu : Nat → Int32} {L : List Nat} {p k r : Nat} (h : mp_li qu L p k) (hk : L[k]? = some r) (hr : r ≠ p) : mp_li (upd qu (mp_fl p (L.take k)).length (nI r)) L p (k + 1) ∧ (mp_fl p (L.take (k + 1))).length = (mp_fl p (L.take k)).length + 1 := by
  have hkl : k < L.length := (List.getElem?_eq_some_iff.mp hk).1
  have hle := mp_fl_len (p := p) (k := k) (L := L) (by omega)
  have e := mp_fl_s (p := p) hk
  rw [if_neg hr] at e
  refine ⟨⟨fun i q z w => ?_, fun i q w => ?_⟩, by rw [e, List.length_append]; rfl⟩
  · rw [pk_un (by omega)]
    exact h.1 i q (by omega) w
  · rw [e] at w
    by_cases hi : i < (mp_fl p (L.take k)).length
    · rw [List.getElem?_append_left hi] at w
      rw [pk_un (by omega)]
      exact h.2 i q w
    · rw [List.getElem?_append_right (by omega)] at w
      obtain ⟨hj, hj2⟩ := List.getElem?_eq_some_iff.mp w
      have hj' : i - (mp_fl p (L.take k)).length < 1 := hj
      have ei : i = (mp_fl p (L.take k)).length := by omega
      have e2 : q = r := by
        rw [← hj2]
        simp
      rw [ei, e2, pk_us]
/-- who wakes next: the waiting one with an end that is least, the least number among equals -/
def mp_ns (st xw : Nat → Int32) : Nat → Int32
  | 0 => -1
  | n + 1 => if st n = 2 ∧ xw n ≠ -1 ∧ (mp_ns st xw n = -1 ∨ xw n < xw (mp_ns st xw n).toNatClampNeg) then nI n else mp_ns st xw n
theorem mp_ns_t {st xw : Nat → Int32} {n : Nat} (h : st n = 2 ∧ xw n ≠ -1 ∧ (mp_ns st xw n = -1 ∨ xw n < xw (mp_ns st xw n).toNatClampNeg)) : mp_ns st xw (n + 1) = nI n := if_pos h
theorem mp_ns_f {st xw : Nat → Int32} {n : Nat} (h : ¬ (st n = 2 ∧ xw n ≠ -1 ∧ (mp_ns st xw n = -1 ∨ xw n < xw (mp_ns st xw n).toNatClampNeg))) : mp_ns st xw (n + 1) = mp_ns st xw n := if_neg h
theorem mp_ns_i (st xw : Nat → Int32) : ∀ n, n ≤ 8 → (mp_ns st xw n = -1 ∧ ∀ b, b < n → ¬ (st b = 2 ∧ xw b ≠ -1)) ∨ ∃ b, b < n ∧ mp_ns st xw n = nI b ∧ st b = 2 ∧ xw b ≠ -1 := by
  intro n
  induction n with
  | zero => intro _; exact Or.inl ⟨rfl, fun b hb => absurd hb (by omega)⟩
  | succ n ih =>
    intro hn
    by_cases h : st n = 2 ∧ xw n ≠ -1 ∧ (mp_ns st xw n = -1 ∨ xw n < xw (mp_ns st xw n).toNatClampNeg)
    · exact Or.inr ⟨n, by omega, mp_ns_t h, h.1, h.2.1⟩
    · rw [mp_ns_f h]
      rcases ih (by omega) with ⟨e, w⟩ | ⟨b, hb, e, w⟩
      · refine Or.inl ⟨e, fun b hb => ?_⟩
        by_cases z : b = n
        · subst z
          intro w'
          exact h ⟨w'.1, w'.2, Or.inl e⟩
        · exact w b (by omega)
      · exact Or.inr ⟨b, by omega, e, w⟩
