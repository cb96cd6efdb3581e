section
theorem pk_us {f : Nat → Int32} {k : Nat} {x : Int32} : upd f k x k = x := if_pos rfl
theorem pk_un {f : Nat → Int32} {k j : Nat} {x : Int32} (h : j ≠ k) : upd f k x j = f j := if_neg h
theorem pk_uLs {f : Nat → Int64} {k : Nat} {x : Int64} : vp_updL f k x k = x := if_pos rfl
theorem pk_uLn {f : Nat → Int64} {k j : Nat} {x : Int64} (h : j ≠ k) : vp_updL f k x j = f j := if_neg h
theorem pk_sub {a b : Nat} (h : b ≤ a) : nI a - nI b = nI (a - b) := by
  obtain ⟨c, rfl⟩ : ∃ c, a = c + b := ⟨a - b, by omega⟩
  rw [← nI_add, Int32.add_sub_cancel, Nat.add_sub_cancel]
theorem pk_m1 (n : Nat) : nI (n + 1) + (-1) = nI n := by
  rw [← nI_1, Int32.add_assoc, show (1 : Int32) + (-1) = 0 from rfl, Int32.add_zero]
theorem pk_mul (a b : Nat) : nI a * nI b = nI (a * b) := (Int32.ofNat_mul a b).symm
theorem pk_div {a d : Nat} (ha : a < 2 ^ 31) (h0 : 0 < d) (hd : d < 2 ^ 31) : nI a / nI d = nI (a / d) := by
  apply Int32.toInt_inj.mp
  rw [lg_idiv_nonneg (by rw [nI_toInt ha]; omega) (by rw [nI_toInt hd]; omega), nI_toInt ha, nI_toInt hd, nI_toInt (Nat.lt_of_le_of_lt (Nat.div_le_self a d) ha)]
  first | rfl | exact (Int.natCast_ediv _ _).symm
theorem pk_rem {a d : Nat} (ha : a < 2 ^ 31) (h0 : 0 < d) (hd : d < 2 ^ 31) : nI a - nI a / nI d * nI d = nI (a % d) := by
  rw [pk_div ha h0 hd, pk_mul, pk_sub (Nat.div_mul_le_self a d)]
  exact congrArg nI (by have := Nat.div_add_mod' a d; omega)
theorem pk_sub_toInt {a b : Nat} (ha : a < 2 ^ 30) (hb : b < 2 ^ 30) : (nI a - nI b).toInt = (a : Int) - b := by
  rw [Int32.toInt_sub, nI_toInt (by omega), nI_toInt (by omega)]
  exact Int.bmod_eq_of_le (by omega) (by omega)
theorem pk_sneg {a b : Nat} (hb : b < 2 ^ 30) (h : a < b) : nI a - nI b < 0 := by
  rw [Int32.lt_iff_toInt_lt, pk_sub_toInt (by omega) hb, show (0 : Int32).toInt = 0 from by decide]
  omega
theorem pk_ix (x : Int32) {n : Nat} (hn : n < 2 ^ 31) : x < 0 ∨ nI n ≤ x ∨ ∃ j : Nat, j < n ∧ x = nI j := by
  by_cases h : x < 0
  · exact Or.inl h
  · obtain ⟨j, hj, rfl⟩ := nI_of h
    by_cases h2 : j < n
    · exact Or.inr (Or.inr ⟨j, h2, rfl⟩)
    · exact Or.inr (Or.inl (nI_le (by omega) hj))
theorem pk_le {x y : Int32} {A B : Prop} (a b : Nat) (f : a ≤ b → A) (g : b < a → B) (hx : x = nI a := by rfl) (hy : y = nI b := by rfl) (ha : a < 2 ^ 31 := by omega) (hb : b < 2 ^ 31 := by omega) : (x ≤ y → A) ∧ (¬ x ≤ y → B) := by
  subst hx hy
  rw [nI_leI ha hb]
  exact ⟨f, fun z => g (by omega)⟩
theorem pk_lt {x y : Int32} {A B : Prop} (a b : Nat) (f : a < b → A) (g : b ≤ a → B) (hx : x = nI a := by rfl) (hy : y = nI b := by rfl) (ha : a < 2 ^ 31 := by omega) (hb : b < 2 ^ 31 := by omega) : (x < y → A) ∧ (¬ x < y → B) := by
  subst hx hy
  rw [nI_ltI ha hb]
  exact ⟨f, fun z => g (by omega)⟩
theorem pk_eq {x y : Int32} {A B : Prop} (a b : Nat) (f : a = b → A) (g : a ≠ b → B) (hx : x = nI a := by rfl) (hy : y = nI b := by rfl) (ha : a < 2 ^ 31 := by omega) (hb : b < 2 ^ 31 := by omega) : (x = y → A) ∧ (¬ x = y → B) := by
  subst hx hy
  rw [nI_eq ha hb]
  exact ⟨f, g⟩
theorem pk_in {x : Int32} (n N : Nat) (h : n < N) (hx : x = nI n := by rfl) (hN : N < 2 ^ 31 := by omega) : vp_in x N := by
  subst hx
  exact vp_in_nI h hN
theorem pk_cl {x : Int32} (n : Nat) (hx : x = nI n := by rfl) (h : n < 2 ^ 31 := by omega) : x.toNatClampNeg = n := by
  subst hx
  exact nI_clamp h
theorem pk_tn {n : Nat} (h : n < 2 ^ 32) : (nI n).toBitVec.toNat = n := Nat.mod_eq_of_lt h
theorem pk_and (x : Int32) {m : Int32} (k : Nat) (hm : m.toBitVec.toNat = 2 ^ k - 1) : x &&& m = nI (x.toBitVec.toNat % 2 ^ k) := by
  apply Int32.toBitVec_inj.mp
  apply BitVec.eq_of_toNat_eq
  rw [Int32.toBitVec_and, BitVec.toNat_and, hm, Nat.and_two_pow_sub_one_eq_mod]
  show _ = (BitVec.ofNat 32 _).toNat
  rw [BitVec.toNat_ofNat]
  exact (Nat.mod_eq_of_lt (Nat.lt_of_le_of_lt (Nat.mod_le _ _) x.toBitVec.isLt)).symm
theorem pk_andN {n : Nat} (h : n < 2 ^ 32) {m : Int32} (k : Nat) (hm : m.toBitVec.toNat = 2 ^ k - 1) : nI n &&& m = nI (n % 2 ^ k) := by
  rw [pk_and _ k hm, pk_tn h]
theorem pk_andE (x : Int32) {m : Int32} (k : Nat) (hm : m.toBitVec.toNat = 2 ^ k - 1) : ∃ j : Nat, j < 2 ^ k ∧ x &&& m = nI j := ⟨_, Nat.mod_lt _ (Nat.two_pow_pos k), pk_and x k hm⟩
theorem pk_andIn (x : Int32) {m : Int32} (k : Nat) (hm : m.toBitVec.toNat = 2 ^ k - 1) (hk : k ≤ 30) : vp_in (x &&& m) (2 ^ k) := by
  obtain ⟨j, hj, e⟩ := pk_andE x k hm
  rw [e]
  exact vp_in_nI hj (Nat.lt_of_le_of_lt (Nat.pow_le_pow_right (by decide) hk) (by decide))
/-! ===== Int32 by its bits: bt x i ===== -/
def bt (x : Int32) (i : Nat) : Bool := x.toBitVec.getLsbD i
theorem b_ext {x y : Int32} (h : ∀ i, i < 32 → bt x i = bt y i) : x = y := Int32.toBitVec_inj.mp (BitVec.eq_of_getLsbD_eq (fun i hi => h i hi))
theorem b_or (x y : Int32) (i : Nat) : bt (x ||| y) i = (bt x i || bt y i) := by unfold bt; rw [Int32.toBitVec_or, BitVec.getLsbD_or]
theorem b_and (x y : Int32) (i : Nat) : bt (x &&& y) i = (bt x i && bt y i) := by unfold bt; rw [Int32.toBitVec_and, BitVec.getLsbD_and]
theorem b_xor (x y : Int32) (i : Nat) : bt (x ^^^ y) i = (bt x i ^^ bt y i) := by unfold bt; rw [Int32.toBitVec_xor, BitVec.getLsbD_xor]
theorem b_big {x : Int32} {i : Nat} (h : 32 ≤ i) : bt x i = false := BitVec.getLsbD_of_ge _ _ h
theorem b_255 (i : Nat) : bt 255 i = decide (i < 8) := by
  rcases Nat.lt_or_ge i 32 with h | h
  · exact (by decide +kernel : ∀ i, i < 32 → bt 255 i = decide (i < 8)) i h
  · rw [b_big h, decide_eq_false (by omega)]
theorem b_65535 (i : Nat) : bt 65535 i = decide (i < 16) := by
  rcases Nat.lt_or_ge i 32 with h | h
  · exact (by decide +kernel : ∀ i, i < 32 → bt 65535 i = decide (i < 16)) i h
  · rw [b_big h, decide_eq_false (by omega)]
theorem b_m1 : ∀ i, i < 32 → bt (-1) i = true := by decide +kernel
theorem b_0 (i : Nat) : bt 0 i = false := BitVec.getLsbD_zero
theorem s_l : ∀ n, n < 32 → ((nI n &&& 31).toBitVec.smod 32).toNat = n := by decide +kernel
theorem s_u : ∀ n, n < 32 → (((nI n).toUInt32 &&& Int32.toUInt32 31).toBitVec % 32).toNat = n := by decide +kernel
theorem b_shl (n : Nat) (hn : n < 32) (x : Int32) {i : Nat} (hi : i < 32) : bt (x <<< (nI n &&& 31)) i = (decide (n ≤ i) && bt x (i - n)) := by
  unfold bt
  rw [Int32.toBitVec_shiftLeft]
  show (x.toBitVec <<< ((nI n &&& 31).toBitVec.smod 32).toNat).getLsbD i = _
  rw [s_l n hn, BitVec.getLsbD_shiftLeft]
  rcases Nat.lt_or_ge i n with h | h
  · simp [h, Nat.not_le.mpr h]
  · simp [hi, h, Nat.not_lt.mpr h]
theorem b_ushr (n : Nat) (hn : n < 32) (x : Int32) (i : Nat) : bt ((x.toUInt32 >>> ((nI n).toUInt32 &&& Int32.toUInt32 31)).toInt32) i = bt x (n + i) := by
  show (x.toUInt32 >>> ((nI n).toUInt32 &&& Int32.toUInt32 31)).toBitVec.getLsbD i = x.toUInt32.toBitVec.getLsbD (n + i)
  rw [UInt32.toBitVec_shiftRight]
  show (x.toUInt32.toBitVec >>> (((nI n).toUInt32 &&& Int32.toUInt32 31).toBitVec % 32).toNat).getLsbD i = _
  rw [s_u n hn, BitVec.getLsbD_ushiftRight]
theorem b_sshr (n : Nat) (hn : n < 32) (x : Int32) {i : Nat} (hi : i < 32) : bt (x >>> (nI n &&& 31)) i = if n + i < 32 then bt x (n + i) else bt x 31 := by
  unfold bt
  rw [Int32.toBitVec_shiftRight]
  show (x.toBitVec.sshiftRight ((nI n &&& 31).toBitVec.smod 32).toNat).getLsbD i = _
  rw [s_l n hn, BitVec.getLsbD_sshiftRight, BitVec.msb_eq_getLsbD_last]
  simp [hi]
theorem b_shl8 (x : Int32) {i : Nat} (hi : i < 32) : bt (x <<< ((8 : Int32) &&& 31)) i = (decide (8 ≤ i) && bt x (i - 8)) := b_shl 8 (by omega) x hi
theorem b_shl16 (x : Int32) {i : Nat} (hi : i < 32) : bt (x <<< ((16 : Int32) &&& 31)) i = (decide (16 ≤ i) && bt x (i - 16)) := b_shl 16 (by omega) x hi
theorem b_shl24 (x : Int32) {i : Nat} (hi : i < 32) : bt (x <<< ((24 : Int32) &&& 31)) i = (decide (24 ≤ i) && bt x (i - 24)) := b_shl 24 (by omega) x hi
theorem b_sshr8 (x : Int32) {i : Nat} (hi : i < 32) : bt (x >>> ((8 : Int32) &&& 31)) i = if 8 + i < 32 then bt x (8 + i) else bt x 31 := b_sshr 8 (by omega) x hi
end
section
/-! counts below n -/
def mp_cn (P : Nat → Bool) : Nat → Nat
  | 0 => 0
  | n + 1 => mp_cn P n + (if P n = true then 1 else 0)
theorem mp_cn_s (P : Nat → Bool) (n : Nat) : mp_cn P (n + 1) = mp_cn P n + (if P n = true then 1 else 0) := rfl
theorem mp_cn_st {P : Nat → Bool} {n : Nat} (h : P n = true) : mp_cn P (n + 1) = mp_cn P n + 1 := by rw [mp_cn_s, if_pos h]
theorem mp_cn_sf {P : Nat → Bool} {n : Nat} (h : P n = false) : mp_cn P (n + 1) = mp_cn P n := by rw [mp_cn_s, if_neg (by rw [h]; exact Bool.false_ne_true), Nat.add_zero]
theorem mp_cn_le (P : Nat → Bool) : ∀ n, mp_cn P n ≤ n := by
  intro n
  induction n with
  | zero => exact Nat.le_refl 0
  | succ n ih => rw [mp_cn_s]; split <;> omega
theorem mp_cn_ext {P Q : Nat → Bool} : ∀ n, (∀ q, q < n → P q = Q q) → mp_cn P n = mp_cn Q n := by
  intro n
  induction n with
  | zero => intro _; rfl
  | succ n ih =>
    intro h
    rw [mp_cn_s, mp_cn_s, ih (fun q hq => h q (by omega)), h n (by omega)]
theorem mp_cn_lt {P : Nat → Bool} {p : Nat} (hp : P p = false) : ∀ n, p < n → mp_cn P n < n := by
  intro n
  induction n with
  | zero => intro h; omega
  | succ n ih =>
    intro h
    by_cases e : p = n
    · subst e
      have h1 := mp_cn_le P p
      rw [mp_cn_sf hp]
      omega
    · have h1 := ih (by omega)
      rw [mp_cn_s]
      split <;> omega
theorem mp_cn_add {P Q : Nat → Bool} {p : Nat} (hp : P p = false) (hq : Q p = true) : ∀ n, p < n → (∀ q, q < n → q ≠ p → P q = Q q) → mp_cn Q n = mp_cn P n + 1 := by
  intro n
  induction n with
  | zero => intro h; omega
  | succ n ih =>
    intro h H
    by_cases e : p = n
    · subst e
      rw [mp_cn_st hq, mp_cn_sf hp, mp_cn_ext p (fun q hq => H q (by omega) (by omega))]
    · have h1 := ih (by omega) (fun q hq => H q (by omega))
      rw [mp_cn_s, mp_cn_s, h1, H n (by omega) (fun z => e z.symm)]
      omega
theorem mp_cn_mono {P Q : Nat → Bool} : ∀ n, (∀ q, q < n → P q = true → Q q = true) → mp_cn P n ≤ mp_cn Q n := by
  intro n
  induction n with
  | zero => intro _; exact Nat.le_refl 0
  | succ n ih =>
    intro h
    have h1 := ih (fun q hq => h q (by omega))
    by_cases e : P n = true
    · rw [mp_cn_st e, mp_cn_st (h n (by omega) e)]; omega
    · rw [mp_cn_sf (Bool.eq_false_iff.mpr e), mp_cn_s]; omega
theorem mp_cn_0 {P : Nat → Bool} : ∀ n, (∀ q, q < n → P q = false) → mp_cn P n = 0 := by
  intro n
  induction n with
  | zero => intro _; rfl
  | succ n ih =>
    intro h
    rw [mp_cn_sf (h n (by omega))]
    exact ih (fun q hq => h q (by omega))
theorem mp_cn_list : ∀ (L : List Nat) (P : Nat → Bool) (n : Nat), L.Nodup → (∀ q, q ∈ L → q < n) → (∀ q, q < n → (P q = true ↔ q ∈ L)) → mp_cn P n = L.length := by
  intro L
  induction L with
  | nil =>
    intro P n _ _ h
    exact mp_cn_0 n (fun q hq => Bool.eq_false_iff.mpr (fun z => absurd ((h q hq).mp z) List.not_mem_nil))
  | cons a L ih =>
    intro P n hn hl h
    have hn' := List.nodup_cons.mp hn
    have ha := hl a List.mem_cons_self
    have e := ih (fun q => P q && decide (q ≠ a)) n hn'.2 (fun q hq => hl q (List.mem_cons_of_mem a hq)) (fun q hq => by
      show (P q && decide (q ≠ a)) = true ↔ q ∈ L
      rw [Bool.and_eq_true, decide_eq_true_eq, h q hq, List.mem_cons]
      constructor
      · rintro ⟨h1 | h1, h2⟩
        · exact absurd h1 h2
        · exact h1
      · intro h1
        exact ⟨Or.inr h1, fun z => hn'.1 (z ▸ h1)⟩)
    rw [mp_cn_add (P := fun q => P q && decide (q ≠ a)) (Q := P) (p := a) (by simp) ((h a ha).mpr List.mem_cons_self) n ha (fun q _ ne => by simp [ne]), e]
    rfl
theorem mp_len8 {L : List Nat} {p : Nat} (hn : L.Nodup) (hl : ∀ q, q ∈ L → q < 8) (hp : p < 8) (hx : ¬ p ∈ L) : L.length < 8 := by
  have h1 := mp_cn_list L (fun q => decide (q ∈ L)) 8 hn hl (fun q _ => decide_eq_true_iff)
  have h2 := mp_cn_lt (P := fun q => decide (q ∈ L)) (p := p) (decide_eq_false hx) 8 hp
  omega
theorem mp_len8' {L : List Nat} (hn : L.Nodup) (hl : ∀ q, q ∈ L → q < 8) : L.length ≤ 8 := by
  have h1 := mp_cn_list L (fun q => decide (q ∈ L)) 8 hn hl (fun q _ => decide_eq_true_iff)
  have h2 := mp_cn_le (fun q => decide (q ∈ L)) 8
  omega
theorem mp_pw {R : Nat → Nat → Prop} {L : List Nat} (h : L.Pairwise R) {i j a b : Nat} (hij : i < j) (ha : L[i]? = some a) (hb : L[j]? = some b) : R a b := by
  obtain ⟨hi, rfl⟩ := List.getElem?_eq_some_iff.mp ha
  obtain ⟨hj, rfl⟩ := List.getElem?_eq_some_iff.mp hb
  exact List.pairwise_iff_getElem.mp h i j hi hj hij
/-! arithmetic of the tickets -/
theorem mp_nt1 {x : Int64} (h0 : 0 ≤ x.toInt) (h : x.toInt < 2 ^ 62) : (x + 1).toInt = x.toInt + 1 := by
  rw [Int64.toInt_add, show (1 : Int64).toInt = 1 from by decide]
  exact Int.bmod_eq_of_le (by omega) (by omega)
theorem mp_t1 {x : Int32} (h0 : 0 ≤ x.toInt) (h : x.toInt < 2000000000) : (x + 1).toInt = x.toInt + 1 := by
  rw [Int32.toInt_add, show (1 : Int32).toInt = 1 from by decide]
  exact Int.bmod_eq_of_le (by omega) (by omega)
/-! the queue: Y's row, X's tickets; run: the one whose turn it is (8: none) -/
def mp_Q (st : Nat → Int32) (tk : Nat → Int64) (nt : Int64) (run : Nat) (qu : Nat → Int32) (qn : Int32) : Prop :=
  ∃ L : List Nat, qn = nI L.length ∧ (∀ i q, L[i]? = some q → qu i = nI q) ∧ (∀ q, q ∈ L ↔ q < 8 ∧ st q = 1 ∧ q ≠ run) ∧
    L.Pairwise (fun a b => (tk a).toInt < (tk b).toInt) ∧ (∀ q, q ∈ L → (tk q).toInt < nt.toInt) ∧ (run < 8 → st run ≠ 2)
theorem mp_nd {L : List Nat} {tk : Nat → Int64} (h : L.Pairwise (fun a b => (tk a).toInt < (tk b).toInt)) : L.Nodup :=
  h.imp (fun {a b} (h : (tk a).toInt < (tk b).toInt) e => by subst e; omega)
theorem mp_Q_enq {st : Nat → Int32} {tk : Nat → Int64} {nt : Int64} {run run' p : Nat} {qu : Nat → Int32} {qn : Int32} (h : mp_Q st tk nt run qu qn) (hp : p < 8) (hx : st p ≠ 1 ∨ p = run) (hr : ∀ q, q < 8 → (q ≠ run' ↔ q ≠ run ∨ q = p)) (hr' : run' < 8 → run' = run) (h0 : 0 ≤ nt.toInt) (hb : nt.toInt < 2 ^ 62) :
    ∃ n, n < 8 ∧ qn = nI n ∧ mp_Q (upd st p 1) (vp_updL tk p nt) (nt + 1) run' (upd qu n (nI p)) (nI (n + 1)) := by
  obtain ⟨L, e, hq, hm, hs, hl, h2⟩ := h
  have hnd := mp_nd hs
  have h8 : ∀ q, q ∈ L → q < 8 := fun q z => ((hm q).mp z).1
  have hpL : ¬ p ∈ L := fun z => by
    have w := (hm p).mp z
    rcases hx with hx | hx
    · exact hx w.2.1
    · exact w.2.2 hx
  have hne : ∀ q, q ∈ L → q ≠ p := fun q z w => hpL (w ▸ z)
  refine ⟨L.length, mp_len8 hnd h8 hp hpL, e, L ++ [p], by rw [List.length_append]; rfl, ?_, ?_, ?_, ?_, ?_⟩
  · intro i q h
    by_cases hi : i < L.length
    · rw [List.getElem?_append_left hi] at h
      rw [pk_un (by omega)]
      exact hq i q h
    · rw [List.getElem?_append_right (by omega)] at h
      obtain ⟨hj, hj2⟩ := List.getElem?_eq_some_iff.mp h
      have hj' : i - L.length < 1 := hj
      have : i = L.length := by omega
      subst this
      have e2 : q = p := by
        rw [← hj2]
        simp
      rw [e2, pk_us]
  · intro q
    rw [List.mem_append, hm q, List.mem_singleton]
    by_cases z : q = p
    · subst z
      rw [pk_us]
      exact ⟨fun _ => ⟨hp, rfl, (hr q hp).mpr (Or.inr rfl)⟩, fun _ => Or.inr rfl⟩
    · rw [pk_un z]
      constructor
      · rintro (⟨a, b, c⟩ | c)
        · exact ⟨a, b, (hr q a).mpr (Or.inl c)⟩
        · exact absurd c z
      · rintro ⟨a, b, c⟩
        rcases (hr q a).mp c with c | c
        · exact Or.inl ⟨a, b, c⟩
        · exact absurd c z
  · rw [List.pairwise_append]
    refine ⟨List.Pairwise.imp_of_mem (fun {a b} ha hb (w : (tk a).toInt < (tk b).toInt) => ?_) hs, List.pairwise_singleton _ _, ?_⟩
    · rw [pk_uLn (hne a ha), pk_uLn (hne b hb)]
      exact w
    · intro a ha b hb
      rw [List.mem_singleton] at hb
      subst hb
      rw [pk_uLn (hne a ha), pk_uLs]
      exact hl a ha
  · intro q hq
    rw [mp_nt1 h0 hb]
    rw [List.mem_append, List.mem_singleton] at hq
    rcases hq with hq | hq
    · rw [pk_uLn (hne q hq)]
      have := hl q hq
      omega
    · subst hq
      rw [pk_uLs]
      omega
  · intro w
    have w2 := hr' w
    subst w2
    by_cases z : run' = p
    · rw [z, pk_us]; decide
    · rw [pk_un z]; exact h2 w
def mp_fl (p : Nat) (L : List Nat) : List Nat := L.filter (fun q => decide (q ≠ p))
theorem mp_fl_m {p q : Nat} {L : List Nat} : q ∈ mp_fl p L ↔ q ∈ L ∧ q ≠ p := by
  unfold mp_fl
  rw [List.mem_filter, decide_eq_true_eq]
/-- what leave makes of the queue's row -/
def mp_lv (qu qu' : Nat → Int32) (qn qn' : Int32) (p : Nat) : Prop :=
  ∀ L : List Nat, qn = nI L.length → L.length < 2 ^ 31 → (∀ q, q ∈ L → q < 8) → (∀ i q, L[i]? = some q → qu i = nI q) → qn' = nI (mp_fl p L).length ∧ (∀ i q, (mp_fl p L)[i]? = some q → qu' i = nI q)
theorem mp_Q_out {st : Nat → Int32} {tk : Nat → Int64} {nt : Int64} {run p : Nat} {qu qu' : Nat → Int32} {qn qn' : Int32} (h : mp_Q st tk nt run qu qn) (hl : mp_lv qu qu' qn qn' p) : mp_Q (upd st p 3) tk nt run qu' qn' := by
  obtain ⟨L, e, hq, hm, hs, hb, h2⟩ := h
  have h8 : ∀ q, q ∈ L → q < 8 := fun q z => ((hm q).mp z).1
  have hlen := mp_len8' (mp_nd hs) h8
  obtain ⟨e1, e2⟩ := hl L e (by omega) h8 hq
  refine ⟨mp_fl p L, e1, e2, ?_, hs.filter _, fun q z => hb q (mp_fl_m.mp z).1, ?_⟩
  · intro q
    rw [mp_fl_m, hm q]
    by_cases z : q = p
    · subst z
      rw [pk_us]
      exact ⟨fun w => absurd rfl w.2, fun w => absurd w.2.1 (by decide)⟩
    · rw [pk_un z]
      exact ⟨fun w => w.1, fun w => ⟨w, z⟩⟩
  · intro w
    by_cases z : run = p
    · rw [z, pk_us]; decide
    · rw [pk_un z]; exact h2 w
theorem mp_Q_run {st : Nat → Int32} {tk : Nat → Int64} {nt : Int64} {p : Nat} {qu qu' : Nat → Int32} {qn qn' : Int32} (h : mp_Q st tk nt 8 qu qn) (hl : mp_lv qu qu' qn qn' p) (h1 : st p = 1) : mp_Q st tk nt p qu' qn' := by
  obtain ⟨L, e, hq, hm, hs, hb, h2⟩ := h
  have h8 : ∀ q, q ∈ L → q < 8 := fun q z => ((hm q).mp z).1
  have hlen := mp_len8' (mp_nd hs) h8
  obtain ⟨e1, e2⟩ := hl L e (by omega) h8 hq
  refine ⟨mp_fl p L, e1, e2, ?_, hs.filter _, fun q z => hb q (mp_fl_m.mp z).1, fun _ => by rw [h1]; decide⟩
  intro q
  rw [mp_fl_m, hm q]
  exact ⟨fun w => ⟨w.1.1, w.1.2.1, w.2⟩, fun w => ⟨⟨w.1, w.2.1, by omega⟩, w.2.2⟩⟩
theorem mp_rank {st : Nat → Int32} {tk : Nat → Int64} {L : List Nat} (hm : ∀ q, q ∈ L ↔ q < 8 ∧ st q = 1 ∧ q ≠ 8) (hs : L.Pairwise (fun a b => (tk a).toInt < (tk b).toInt)) {j p : Nat} (hj : L[j]? = some p) :
    mp_cn (fun q => decide (st q = 1) && decide ((tk q).toInt < (tk p).toInt)) 8 = j := by
  have hjl : j < L.length := (List.getElem?_eq_some_iff.mp hj).1
  have e := mp_cn_list (L.take j) (fun q => decide (st q = 1) && decide ((tk q).toInt < (tk p).toInt)) 8 (mp_nd (hs.sublist (List.take_sublist j L))) (fun q z => ((hm q).mp (List.mem_of_mem_take z)).1) (fun q hq => by
    show (decide (st q = 1) && decide ((tk q).toInt < (tk p).toInt)) = true ↔ q ∈ L.take j
    rw [Bool.and_eq_true, decide_eq_true_eq, decide_eq_true_eq]
    constructor
    · rintro ⟨a, b⟩
      obtain ⟨i, hi⟩ := List.mem_iff_getElem?.mp ((hm q).mpr ⟨hq, a, by omega⟩)
      rcases Nat.lt_trichotomy i j with w | w | w
      · exact List.mem_iff_getElem?.mpr ⟨i, by rw [List.getElem?_take_of_lt w]; exact hi⟩
      · subst w
        rw [hi] at hj
        have := Option.some.inj hj
        subst this
        omega
      · have := mp_pw hs w hj hi
        omega
    · intro z
      obtain ⟨i, hi⟩ := List.mem_iff_getElem?.mp z
      have hij : i < j := by
        have := (List.getElem?_eq_some_iff.mp hi).1
        rw [List.length_take] at this
        omega
      rw [List.getElem?_take_of_lt hij] at hi
      exact ⟨((hm q).mp (List.mem_iff_getElem?.mpr ⟨i, hi⟩)).2.1, mp_pw hs hij hi hj⟩)
  rw [e, List.length_take]
  omega
/-! sets of bits -/
theorem mp_b1 : ∀ i, i < 32 → bt 1 i = decide (i = 0) := by decide +kernel
theorem mp_hbv (x : Int32) {n : Nat} (hn : n < 32) : ((x >>> (nI n &&& 31)) &&& 1) = if bt x n = true then 1 else 0 := by
  apply b_ext
  intro i hi
  rw [b_and, b_sshr n hn x hi, mp_b1 i hi]
  by_cases e : i = 0
  · subst e
    rw [if_pos (show n + 0 < 32 from hn), Nat.add_zero]
    cases bt x n <;> decide +kernel
  · rw [decide_eq_false e, Bool.and_false]
    cases bt x n
    · exact (b_0 i).symm
    · exact ((mp_b1 i hi).trans (decide_eq_false e)).symm
theorem mp_hb {x : Int32} {n : Nat} (hn : n < 32) : ((x >>> (nI n &&& 31)) &&& 1) = 1 ↔ bt x n = true := by
  rw [mp_hbv x hn]
  cases bt x n <;> decide
theorem mp_01 (x : Int32) : x &&& 1 = 1 ∨ x &&& 1 = 0 := by
  have h := mp_hbv x (n := 0) (by decide)
  have e : x >>> (nI 0 &&& 31) = x := by
    apply b_ext
    intro i hi
    rw [b_sshr 0 (by decide) x hi, Nat.zero_add, if_pos hi]
  rw [e] at h
  rw [h]
  cases bt x 0
  · exact Or.inr rfl
  · exact Or.inl rfl
theorem mp_bor (x : Int32) {n i : Nat} (hn : n < 32) (hi : i < 32) : bt (x ||| ((1 : Int32) <<< (nI n &&& 31))) i = (bt x i || decide (i = n)) := by
  rw [b_or, b_shl n hn 1 hi]
  congr 1
  by_cases h : n ≤ i
  · rw [decide_eq_true h, Bool.true_and, mp_b1 (i - n) (by omega)]
    by_cases e : i = n
    · rw [decide_eq_true (show i - n = 0 by omega), decide_eq_true e]
    · rw [decide_eq_false (show ¬ i - n = 0 by omega), decide_eq_false e]
  · rw [decide_eq_false h, Bool.false_and, decide_eq_false (by omega)]
theorem mp_bcl (x : Int32) {n i : Nat} (hn : n < 32) (hi : i < 32) : bt (x &&& (((1 : Int32) <<< (nI n &&& 31)) ^^^ (-1))) i = (bt x i && decide (i ≠ n)) := by
  rw [b_and, b_xor, b_m1 i hi, b_shl n hn 1 hi]
  congr 1
  by_cases h : n ≤ i
  · rw [decide_eq_true h, Bool.true_and, mp_b1 (i - n) (by omega)]
    by_cases e : i = n
    · rw [decide_eq_true (show i - n = 0 by omega), decide_eq_false (by omega)]; rfl
    · rw [decide_eq_false (show ¬ i - n = 0 by omega), decide_eq_true (by omega)]; rfl
  · rw [decide_eq_false h, Bool.false_and, decide_eq_true (by omega)]; rfl
def mp_ac (x : Int32) (g : Nat → Bool) (k : Nat) : Prop := ∀ i, i < 32 → bt x i = (decide (i < k) && g i)
theorem mp_ac_0 (g : Nat → Bool) : mp_ac 0 g 0 := fun i _ => by rw [b_0, decide_eq_false (by omega)]; rfl
theorem mp_ac_z {g : Nat → Bool} {k : Nat} (h : ∀ i, i < k → g i = false) : mp_ac 0 g k := fun i _ => by
  rw [b_0]
  by_cases z : i < k
  · rw [h i z, Bool.and_false]
  · rw [decide_eq_false z]; rfl
theorem mp_ac_t {x : Int32} {g : Nat → Bool} {k : Nat} (h : mp_ac x g k) (hk : k < 32) (hg : g k = true) : mp_ac (x ||| ((1 : Int32) <<< (nI k &&& 31))) g (k + 1) := fun i hi => by
  rw [mp_bor x hk hi, h i hi]
  by_cases z : i = k
  · subst z
    rw [hg, decide_eq_true (show i < i + 1 by omega), decide_eq_true rfl, Bool.or_true]; rfl
  · rw [decide_eq_false z, Bool.or_false]
    by_cases w : i < k
    · rw [decide_eq_true w, decide_eq_true (show i < k + 1 by omega)]
    · rw [decide_eq_false w, decide_eq_false (show ¬ i < k + 1 by omega)]
theorem mp_ac_f {x : Int32} {g : Nat → Bool} {k : Nat} (h : mp_ac x g k) (hg : g k = false) : mp_ac x g (k + 1) := fun i hi => by
  rw [h i hi]
  by_cases z : i = k
  · subst z
    rw [hg, Bool.and_false, Bool.and_false]
  · by_cases w : i < k
    · rw [decide_eq_true w, decide_eq_true (show i < k + 1 by omega)]
    · rw [decide_eq_false w, decide_eq_false (show ¬ i < k + 1 by omega)]
theorem mp_ac_u {x y : Int32} {g : Nat → Bool} {k : Nat} (h : mp_ac x g k) (h' : mp_ac y g k) : x = y := b_ext (fun i hi => (h i hi).trans (h' i hi).symm)
theorem mp_ac_b {x : Int32} {g : Nat → Bool} {q : Nat} (h : mp_ac x g 8) (hq : q < 8) : bt x q = g q := by rw [h q (by omega), decide_eq_true hq]; rfl
theorem mp_ac_e {x : Int32} {g g' : Nat → Bool} {k : Nat} (h : mp_ac x g k) (e : ∀ i, i < k → g i = g' i) : mp_ac x g' k := fun i hi => by
  rw [h i hi]
  by_cases w : i < k
  · rw [e i w]
  · rw [decide_eq_false w]; rfl
theorem mp_ac_s {x : Int32} {g g' : Nat → Bool} {q : Nat} (h : mp_ac x g 8) (hq : q < 8) (e : ∀ i, i < 8 → g' i = (g i || decide (i = q))) : mp_ac (x ||| ((1 : Int32) <<< (nI q &&& 31))) g' 8 := fun i hi => by
  rw [mp_bor x (by omega) hi, h i hi]
  by_cases w : i < 8
  · rw [decide_eq_true w, e i w]; rfl
  · rw [decide_eq_false w, decide_eq_false (show ¬ i = q by omega)]; rfl
theorem mp_ac_c {x : Int32} {g g' : Nat → Bool} {q : Nat} (h : mp_ac x g 8) (hq : q < 8) (e : ∀ i, i < 8 → g' i = (g i && decide (i ≠ q))) : mp_ac (x &&& (((1 : Int32) <<< (nI q &&& 31)) ^^^ (-1))) g' 8 := fun i hi => by
  rw [mp_bcl x (by omega) hi, h i hi]
  by_cases w : i < 8
  · rw [decide_eq_true w, e i w]; rfl
  · rw [decide_eq_false w]; rfl
theorem mp_hbg {x : Int32} {g : Nat → Bool} {q : Nat} (h : mp_ac x g 8) (hq : q < 8) : ((x >>> (nI q &&& 31)) &&& 1) = 1 ↔ g q = true := by rw [mp_hb (by omega), mp_ac_b h hq]
end
section
def mp_al (st : Nat → Int32) (p : Nat) : Prop := st p = 1 ∨ st p = 2
def mp_lt (a : Int32) (n : Nat) : Prop := ∃ j : Nat, j < n ∧ a = nI j
def mp_ok (op a b : Int32) : Prop :=
  ((op = 0 ∨ op = 9 ∨ op = 10 ∨ op = 11 ∨ op = 12 ∨ op = 14 ∨ op = 17) ∧ mp_lt a 4) ∨ ((op = 1 ∨ op = 2 ∨ op = 3 ∨ op = 13) ∧ mp_lt a 4 ∧ mp_lt b 4) ∨
  (op = 4 ∧ mp_lt a 24) ∨ (op = 5 ∧ mp_lt a 4 ∧ mp_lt b 24) ∨ (op = 6 ∧ mp_lt a 4 ∧ mp_lt b 6) ∨ (op = 7 ∧ mp_lt a 256 ∧ mp_lt b 5) ∨
  (op = 8 ∧ mp_lt a 4 ∧ mp_lt b 2) ∨ (op = 15 ∧ mp_lt b 2) ∨ (op = 16 ∧ mp_lt a 4)
def mp_D (dl : Int32) (dO dA dB : Nat → Int32) : Prop := ∃ n, n ≤ 24 ∧ dl = nI n ∧ ∀ i, i < n → mp_ok (dO i) (dA i) (dB i)
def mp_CV (xo xa xb xl yo ya yb yl : Nat → Int32) (a b : Nat) : Prop := ∃ n, 0 < n ∧ n ≤ 24 ∧ xl a = nI n ∧ yl b = nI n ∧ ∀ i, i < n → xo (24 * a + i) = yo (24 * b + i) ∧ xa (24 * a + i) = ya (24 * b + i) ∧ xb (24 * a + i) = yb (24 * b + i) ∧ mp_ok (yo (24 * b + i)) (ya (24 * b + i)) (yb (24 * b + i))
def mp_C (xo xa xb xl yo ya yb yl cu : Nat → Int32) : Prop := ∀ m, m < 4 → (cu m = -1 ∧ xl (2 * m) = 0 ∧ xl (2 * m + 1) = 0) ∨ ∃ c, c < 2 ∧ cu m = nI c ∧ mp_CV xo xa xb xl yo ya yb yl (2 * m) (2 * m + c) ∧ (xl (2 * m + 1) = 0 ∨ mp_CV xo xa xb xl yo ya yb yl (2 * m + 1) (2 * m + 1 - c))
def mp_V (st xv yv xl cu : Nat → Int32) : Prop := ∀ p, p < 8 → mp_al st p → ∃ m c, m < 4 ∧ c < 2 ∧ cu m = nI c ∧ ((xv p = nI (2 * m) ∧ yv p = nI (2 * m + c)) ∨ (xv p = nI (2 * m + 1) ∧ yv p = nI (2 * m + 1 - c) ∧ xl (2 * m + 1) ≠ 0))
def mp_P (st pl : Nat → Int32) : Prop := ∀ p, p < 8 → mp_al st p → ∃ n, n ≤ 24 ∧ pl p = nI n ∧ (st p = 2 → n < 24)
def mp_S (st : Nat → Int32) : Prop := ∀ p, p < 8 → st p = 0 ∨ st p = 1 ∨ st p = 2 ∨ st p = 3
def mp_M (st mc xt xi yt yi : Nat → Int32) : Prop := ∀ p, p < 8 → ∃ n, n ≤ 12 ∧ mc p = nI n ∧ (¬ mp_al st p → n = 0) ∧ ∀ k, k < n → xt (12 * p + k) = yt (12 * p + k) ∧ xi (12 * p + k) = yi (12 * p + k)
def mp_K (st xk yk : Nat → Int32) : Prop := ∀ p, p < 8 → mp_ac (xk p) (fun q => decide (yk (8 * p + q) ≠ 0)) 8 ∧ ∀ q, q < 8 → yk (8 * p + q) ≠ 0 → mp_al st p ∧ mp_al st q ∧ p ≠ q
def mp_W (st xw li ye : Nat → Int32) (tm : Int32) : Prop := ∀ p, p < 8 → st p = 2 → (li p = 0 ∧ xw p = -1) ∨ (li p ≠ 0 ∧ xw p = ye p ∧ 0 ≤ (ye p).toInt ∧ (ye p).toInt ≤ tm.toInt + 1000)
def mp_T (tm tc : Int32) (ti : Nat → Int32) (T : Int) : Prop := 0 ≤ tm.toInt ∧ tm.toInt ≤ T ∧ 0 ≤ tc.toInt ∧ tc.toInt ≤ tm.toInt ∧ ∀ j : Nat, j < 16 → tc.toInt ≤ (j : Int) → ti j = 0
def mp_E (st xr yr : Nat → Int32) : Prop := ∀ p, p < 8 → st p = 3 → xr p = yr p
def mp_Z (i : Nat) (st xr xe xz : Nat → Int32) (xc : Int32) (yd ys yz : Nat → Int32) (yc : Int32) : Prop :=
  ∃ d, d ≤ 8 ∧ i ≤ d ∧ xc = nI d ∧ yc = nI d ∧ d = mp_cn (fun p => decide (yz p ≠ 0)) 8 ∧
    (∀ j, j < d → ∃ p, p < 8 ∧ yd j = nI p ∧ yz p ≠ 0 ∧ (i ≤ j → xe j = nI p ∧ mp_al st p ∧ xr p = ys j) ∧ (j < i → ¬ mp_al st p)) ∧
    (∀ p, p < 8 → yz p ≠ 0 → ∃ j, j < d ∧ yd j = nI p) ∧ (∀ j j', j < j' → j' < d → yd j ≠ yd j') ∧ (∀ p, p < 8 → (xz p ≠ 0 ↔ yz p ≠ 0 ∧ mp_al st p))
def mp_F (st : Nat → Int32) (nt : Int64) (C : Int) : Prop := 0 ≤ nt.toInt ∧ nt.toInt + (mp_cn (fun p => decide (st p = 2)) 8 : Nat) ≤ C ∧ C < 2 ^ 40
def mp_G (G : Nat → Int32 → Prop) (st xv yz : Nat → Int32) : Prop := ∀ q, q < 8 → mp_al st q → yz q = 0 → G q (xv q)
section
variable {st st' xv yv xl cu pl mc xt xi yt yi xk yk xw li ye xr yr xe xz yd ys yz : Nat → Int32} {xc yc tm : Int32} {nt : Int64} {G : Nat → Int32 → Prop} {p i : Nat} {C : Int}
theorem mp_al_n {q : Nat} {x : Int32} (hq : q ≠ p) : mp_al (upd st p x) q ↔ mp_al st q := by unfold mp_al; rw [pk_un hq]
theorem mp_al_1 : mp_al (upd st p 1) p := Or.inl pk_us
theorem mp_al_2 : mp_al (upd st p 2) p := Or.inr pk_us
theorem mp_al_3 : ¬ mp_al (upd st p 3) p := by
  unfold mp_al
  rw [pk_us]
  decide
theorem mp_al_k {q : Nat} {x : Int32} (hx : x = 1 ∨ x = 2) (ha : mp_al st p) : mp_al (upd st p x) q ↔ mp_al st q := by
  by_cases e : q = p
  · subst e
    have : mp_al (upd st q x) q := by unfold mp_al; rw [pk_us]; exact hx
    exact ⟨fun _ => ha, fun _ => this⟩
  · exact mp_al_n e
theorem mp_V_st (h : mp_V st xv yv xl cu) (e : ∀ q, q < 8 → mp_al st' q → mp_al st q) : mp_V st' xv yv xl cu := fun q hq ha => h q hq (e q hq ha)
theorem mp_M_st (h : mp_M st mc xt xi yt yi) (e : ∀ q, q < 8 → mp_al st q → mp_al st' q) : mp_M st' mc xt xi yt yi := fun q hq => by
  obtain ⟨n, a, b, c, d⟩ := h q hq
  exact ⟨n, a, b, fun z => c (fun w => z (e q hq w)), d⟩
theorem mp_K_st (h : mp_K st xk yk) (e : ∀ q, q < 8 → mp_al st q → mp_al st' q) : mp_K st' xk yk := fun q hq =>
  ⟨(h q hq).1, fun r hr z => by
    obtain ⟨a, b, c⟩ := (h q hq).2 r hr z
    exact ⟨e q hq a, e r hr b, c⟩⟩
theorem mp_W_st (h : mp_W st xw li ye tm) (e : ∀ q, q < 8 → st' q = 2 → st q = 2) : mp_W st' xw li ye tm := fun q hq z => h q hq (e q hq z)
theorem mp_E_st (h : mp_E st xr yr) (e : ∀ q, q < 8 → st' q = 3 → st q = 3) : mp_E st' xr yr := fun q hq z => h q hq (e q hq z)
theorem mp_S_u {x : Int32} (h : mp_S st) (hx : x = 0 ∨ x = 1 ∨ x = 2 ∨ x = 3) : mp_S (upd st p x) := fun q hq => by
  by_cases e : q = p
  · subst e
    rw [pk_us]; exact hx
  · rw [pk_un e]; exact h q hq
theorem mp_Z_st (h : mp_Z i st xr xe xz xc yd ys yz yc) (e : ∀ q, q < 8 → (mp_al st' q ↔ mp_al st q)) : mp_Z i st' xr xe xz xc yd ys yz yc := by
  obtain ⟨d, a, b, c, c2, c3, f, g, k, l⟩ := h
  refine ⟨d, a, b, c, c2, c3, fun j hj => ?_, g, k, fun p hp => ?_⟩
  · obtain ⟨p, hp, a1, a2, a3, a4⟩ := f j hj
    refine ⟨p, hp, a1, a2, fun z => ⟨(a3 z).1, (e p hp).mpr (a3 z).2.1, (a3 z).2.2⟩, fun z w => a4 z ((e p hp).mp w)⟩
  · rw [l p hp, e p hp]
theorem mp_G_st (h : mp_G G st xv yz) (e : ∀ q, q < 8 → mp_al st' q → mp_al st q) : mp_G G st' xv yz := fun q hq a b => h q hq (e q hq a) b
theorem mp_P_1 (h : mp_P st pl) (ha : mp_al st p) : mp_P (upd st p 1) pl := fun q hq a => by
  by_cases e : q = p
  · subst e
    obtain ⟨n, b, c, _⟩ := h q hq ha
    exact ⟨n, b, c, fun z => by rw [pk_us] at z; exact absurd z (by decide)⟩
  · rw [mp_al_n e] at a
    obtain ⟨n, b, c, d⟩ := h q hq a
    exact ⟨n, b, c, by rw [pk_un e]; exact d⟩
theorem mp_F_wake (h : mp_F st nt C) (hp : p < 8) (h2 : st p = 2) : mp_F (upd st p 1) (nt + 1) C := by
  obtain ⟨a, b, c⟩ := h
  have e := mp_cn_add (P := fun q => decide (upd st p 1 q = 2)) (Q := fun q => decide (st q = 2)) (p := p) (decide_eq_false (by rw [pk_us]; decide)) (decide_eq_true h2) 8 hp (fun q _ ne => by show decide (upd st p 1 q = 2) = decide (st q = 2); rw [pk_un ne])
  rw [e] at b
  have e1 := mp_nt1 a (by omega)
  exact ⟨by omega, by rw [e1]; omega, c⟩
theorem mp_F_keep {x : Int32} (h : mp_F st nt C) (hp : p < 8) (hx : x ≠ 2) : mp_F (upd st p x) nt C := by
  obtain ⟨a, b, c⟩ := h
  have e := mp_cn_mono (P := fun q => decide (upd st p x q = 2)) (Q := fun q => decide (st q = 2)) 8 (fun q _ z => by
    have z' : upd st p x q = 2 := of_decide_eq_true z
    by_cases w : q = p
    · subst w
      rw [pk_us] at z'
      exact absurd z' hx
    · rw [pk_un w] at z'; exact decide_eq_true z')
  exact ⟨a, by omega, c⟩
theorem mp_F_new (h : mp_F st nt C) (hp : p < 8) (hC : C + 1 < 2 ^ 40) : mp_F (upd st p 1) (nt + 1) (C + 1) := by
  have h1 := mp_F_keep h hp (x := 1) (by decide)
  obtain ⟨a, b, c⟩ := h1
  have e1 := mp_nt1 a (by omega)
  exact ⟨by omega, by rw [e1]; omega, hC⟩
theorem mp_F_wait (h : mp_F st nt C) (hp : p < 8) (hs : st p ≠ 2) (hC : C + 1 < 2 ^ 40) : mp_F (upd st p 2) nt (C + 1) := by
  obtain ⟨a, b, c⟩ := h
  have e := mp_cn_add (Q := fun q => decide (upd st p 2 q = 2)) (P := fun q => decide (st q = 2)) (p := p) (decide_eq_false hs) (decide_eq_true pk_us) 8 hp (fun q _ ne => by show decide (st q = 2) = decide (upd st p 2 q = 2); rw [pk_un ne])
  exact ⟨a, by rw [e]; omega, hC⟩
theorem mp_F_up {C' : Int} (h : mp_F st nt C) (h1 : C ≤ C') (h2 : C' < 2 ^ 40) : mp_F st nt C' := ⟨h.1, by have := h.2.1; omega, h2⟩
/-! marking -/
theorem mp_Z_doom {reason : Int32} (h : mp_Z i st xr xe xz xc yd ys yz yc) (hp : p < 8) (ha : mp_al st p) (hz : yz p = 0) : ∃ d, d < 8 ∧ xc = nI d ∧ yc = nI d ∧ mp_Z i st (upd xr p reason) (upd xe d (nI p)) (upd xz p 1) (nI (d + 1)) (upd yd d (nI p)) (upd ys d reason) (upd yz p 1) (nI (d + 1)) := by
  obtain ⟨d, a, b, c, c2, c3, f, g, k, l⟩ := h
  have hd : d < 8 := by
    rw [c3]
    exact mp_cn_lt (P := fun p => decide (yz p ≠ 0)) (p := p) (decide_eq_false (fun z => z hz)) 8 hp
  have hne : ∀ j, j < d → yd j ≠ nI p := fun j hj z => by
    obtain ⟨q, hq, a1, a2, _⟩ := f j hj
    rw [a1, nI_eq (by omega) (by omega)] at z
    subst z
    exact a2 hz
  refine ⟨d, hd, c, c2, d + 1, by omega, by omega, rfl, rfl, ?_, ?_, ?_, ?_, ?_⟩
  · rw [mp_cn_add (P := fun q => decide (yz q ≠ 0)) (Q := fun q => decide (upd yz p 1 q ≠ 0)) (p := p) (decide_eq_false (fun z => z hz)) (decide_eq_true (by rw [pk_us]; decide)) 8 hp (fun q _ ne => by show decide (yz q ≠ 0) = decide (upd yz p 1 q ≠ 0); rw [pk_un ne]), ← c3]
  · intro j hj
    by_cases e : j = d
    · subst e
      exact ⟨p, hp, pk_us, by rw [pk_us]; decide, fun _ => ⟨pk_us, ha, by rw [pk_us, pk_us]⟩, fun z => absurd z (by omega)⟩
    · obtain ⟨q, hq, a1, a2, a3, a4⟩ := f j (by omega)
      have ne : q ≠ p := fun z => by subst z; exact a2 hz
      exact ⟨q, hq, by rw [pk_un e]; exact a1, by rw [pk_un ne]; exact a2, fun z => by rw [pk_un e, pk_un ne, pk_un e]; exact a3 z, a4⟩
  · intro q hq z
    by_cases e : q = p
    · subst e
      exact ⟨d, by omega, pk_us⟩
    · rw [pk_un e] at z
      obtain ⟨j, hj, w⟩ := g q hq z
      exact ⟨j, by omega, by rw [pk_un (by omega)]; exact w⟩
  · intro j j' h1 h2
    by_cases e : j' = d
    · subst e
      rw [pk_us, pk_un (by omega)]
      exact hne j h1
    · rw [pk_un e, pk_un (by omega)]
      exact k j j' h1 (by omega)
  · intro q hq
    by_cases e : q = p
    · subst e
      rw [pk_us, pk_us]
      exact ⟨fun _ => ⟨by decide, ha⟩, fun _ => by decide⟩
    · rw [pk_un e, pk_un e]
      exact l q hq
theorem mp_Z_end (h : mp_Z i st xr xe xz xc yd ys yz yc) (hi : xc ≠ nI i) : ∃ p d, p < 8 ∧ i < d ∧ d ≤ 8 ∧ xc = nI d ∧ yc = nI d ∧ xe i = nI p ∧ yd i = nI p ∧ mp_al st p ∧ xr p = ys i ∧ yz p ≠ 0 ∧ mp_Z (i + 1) (upd st p 3) xr xe (upd xz p 0) xc yd ys yz yc := by
  obtain ⟨d, a, b, c, c2, c3, f, g, k, l⟩ := h
  have hd : i < d := by
    rcases Nat.lt_or_ge i d with w | w
    · exact w
    · have : i = d := by omega
      subst this
      exact absurd c hi
  obtain ⟨p, hp, a1, a2, a3, a4⟩ := f i hd
  obtain ⟨b1, b2, b3⟩ := a3 (Nat.le_refl i)
  refine ⟨p, d, hp, hd, a, c, c2, b1, a1, b2, b3, a2, d, a, hd, c, c2, c3, ?_, g, k, ?_⟩
  · intro j hj
    obtain ⟨q, hq, a1', a2', a3', a4'⟩ := f j hj
    by_cases e : q = p
    · subst e
      refine ⟨q, hq, a1', a2', fun z => ?_, fun _ => mp_al_3⟩
      exact absurd (a1.trans a1'.symm) (k i j z hj)
    · exact ⟨q, hq, a1', a2', fun z => ⟨(a3' (by omega)).1, (mp_al_n e).mpr (a3' (by omega)).2.1, (a3' (by omega)).2.2⟩, fun z => by
        rw [mp_al_n e]
        by_cases w : j = i
        · subst w
          have := (a1.symm.trans a1')
          rw [nI_eq (by omega) (by omega)] at this
          exact absurd this.symm e
        · exact a4' (by omega)⟩
  · intro q hq
    by_cases e : q = p
    · subst e
      rw [pk_us]
      exact ⟨fun z => absurd rfl z, fun z => absurd z.2 mp_al_3⟩
    · rw [pk_un e, mp_al_n e]
      exact l q hq
end
end
section
section
variable {st st' xv yv xl cu pl mc xt xi yt yi xt' xi' yt' yi' xk yk xk' yk' xw li ye xr yr xe xz yd ys yz yz' : Nat → Int32} {xc yc tm : Int32} {nt : Int64} {G : Nat → Int32 → Prop} {p i : Nat} {C : Int}
theorem mp_Z_dead (h : mp_Z i st xr xe xz xc yd ys yz yc) (hi : xc = nI i) {q : Nat} (hq : q < 8) (ha : mp_al st q) : yz q = 0 := by
  obtain ⟨d, a, b, c, c2, c3, f, g, k, l⟩ := h
  have e : d = i := by
    rw [c, nI_eq (by omega) (by omega)] at hi
    exact hi
  by_cases z : yz q = 0
  · exact z
  · obtain ⟨j, hj, w⟩ := g q hq z
    obtain ⟨q', hq', a1, a2, a3, a4⟩ := f j hj
    rw [w, nI_eq (by omega) (by omega)] at a1
    subst a1
    exact absurd ha (a4 (by omega))
theorem mp_Z_fin (h : mp_Z i st xr xe xz xc yd ys yz yc) (hi : xc = nI i) (hz : ∀ q, q < 8 → yz' q = 0) : mp_Z 0 st xr xe xz 0 yd ys yz' 0 := by
  have hd := fun q hq ha => mp_Z_dead h hi (q := q) hq ha
  obtain ⟨d, a, b, c, c2, c3, f, g, k, l⟩ := h
  refine ⟨0, by omega, by omega, rfl, rfl, (mp_cn_0 8 (fun q hq => decide_eq_false (fun z => z (hz q hq)))).symm, fun j hj => absurd hj (by omega), fun q hq z => absurd (hz q hq) z, fun j j' _ hj => absurd hj (by omega), fun q hq => ?_⟩
  rw [l q hq]
  exact ⟨fun z => absurd (hd q hq z.2) z.1, fun z => absurd (hz q hq) z.1⟩
theorem mp_Z_none (h : mp_Z 0 st xr xe xz 0 yd ys yz yc) : yc = 0 ∧ ∀ q, q < 8 → yz q = 0 ∧ xz q = 0 := by
  obtain ⟨d, a, b, c, c2, c3, f, g, k, l⟩ := h
  have e : d = 0 := by
    have c' : nI 0 = nI d := c
    rw [nI_eq (by omega) (by omega)] at c'
    exact c'.symm
  subst e
  have z0 : ∀ q, q < 8 → yz q = 0 := fun q hq => by
    by_cases z : yz q = 0
    · exact z
    · obtain ⟨j, hj, _⟩ := g q hq z
      omega
  refine ⟨c2, fun q hq => ⟨z0 q hq, ?_⟩⟩
  by_cases z : xz q = 0
  · exact z
  · exact absurd (z0 q hq) ((l q hq).mp z).1
theorem mp_Z_0 {xr' : Nat → Int32} (h : mp_Z 0 st xr xe xz 0 yd ys yz 0) : mp_Z 0 st' xr' xe xz 0 yd ys yz 0 := by
  have hd := mp_Z_none h
  refine ⟨0, by omega, by omega, rfl, rfl, (mp_cn_0 8 (fun q hq => decide_eq_false (fun z => z (hd.2 q hq).1))).symm, fun j hj => absurd hj (by omega), fun q hq z => absurd (hd.2 q hq).1 z, fun j j' _ hj => absurd hj (by omega), fun q hq => ?_⟩
  rw [(hd.2 q hq).1, (hd.2 q hq).2]
  exact ⟨fun z => absurd rfl z, fun z => absurd rfl z.1⟩
/-! mail -/
theorem mp_M_app {n : Nat} {tag v : Int32} (h : mp_M st mc xt xi yt yi) (hp : p < 8) (ha : mp_al st p) (hn : n < 12) (e : mc p = nI n) :
    mp_M st (upd mc p (nI (n + 1))) (upd xt (12 * p + n) tag) (upd xi (12 * p + n) v) (upd yt (12 * p + n) tag) (upd yi (12 * p + n) v) := fun q hq => by
  by_cases z : q = p
  · subst z
    obtain ⟨n', a, b, c, d⟩ := h q hq
    rw [e, nI_eq (by omega) (by omega)] at b
    subst b
    refine ⟨n + 1, by omega, pk_us, fun w => absurd ha w, fun k hk => ?_⟩
    by_cases w : k = n
    · subst w
      rw [pk_us, pk_us, pk_us, pk_us]
      exact ⟨rfl, rfl⟩
    · rw [pk_un (by omega), pk_un (by omega), pk_un (by omega), pk_un (by omega)]
      exact d k (by omega)
  · obtain ⟨n', a, b, c, d⟩ := h q hq
    refine ⟨n', a, by rw [pk_un z]; exact b, c, fun k hk => ?_⟩
    rw [pk_un (by omega), pk_un (by omega), pk_un (by omega), pk_un (by omega)]
    exact d k hk
theorem mp_M_drop {n k : Nat} (h : mp_M st mc xt xi yt yi) (hp : p < 8) (ha : mp_al st p) (hk : k < n) (hn12 : n ≤ 12) (e : mc p = nI n)
    (x1 : ∀ j, j < 11 → xt' (12 * p + j) = if j < k then xt (12 * p + j) else xt (12 * p + j + 1)) (x2 : ∀ j, j < 11 → xi' (12 * p + j) = if j < k then xi (12 * p + j) else xi (12 * p + j + 1))
    (x3 : ∀ j, (j < 12 * p ∨ 12 * p + 12 ≤ j) → xt' j = xt j ∧ xi' j = xi j)
    (y1 : ∀ j, j < n - 1 → yt' (12 * p + j) = if j < k then yt (12 * p + j) else yt (12 * p + j + 1)) (y2 : ∀ j, j < n - 1 → yi' (12 * p + j) = if j < k then yi (12 * p + j) else yi (12 * p + j + 1))
    (y3 : ∀ j, (j < 12 * p ∨ 12 * p + 12 ≤ j) → yt' j = yt j ∧ yi' j = yi j) :
    mp_M st (upd mc p (nI (n - 1))) xt' xi' yt' yi' := fun q hq => by
  by_cases z : q = p
  · subst z
    obtain ⟨n', a, b, c, d⟩ := h q hq
    rw [e, nI_eq (by omega) (by omega)] at b
    subst b
    refine ⟨n - 1, by omega, pk_us, fun w => absurd ha w, fun j hj => ?_⟩
    rw [x1 j (by omega), x2 j (by omega), y1 j hj, y2 j hj]
    by_cases w : j < k
    · rw [if_pos w, if_pos w, if_pos w, if_pos w]
      exact d j (by omega)
    · rw [if_neg w, if_neg w, if_neg w, if_neg w, Nat.add_assoc]
      exact d (j + 1) (by omega)
  · obtain ⟨n', a, b, c, d⟩ := h q hq
    refine ⟨n', a, by rw [pk_un z]; exact b, c, fun j hj => ?_⟩
    have w := x3 (12 * q + j) (by omega)
    have w' := y3 (12 * q + j) (by omega)
    rw [w.1, w.2, w'.1, w'.2]
    exact d j hj
theorem mp_M_end (h : mp_M st mc xt xi yt yi) : mp_M (upd st p 3) (upd mc p 0) xt xi yt yi := fun q hq => by
  by_cases z : q = p
  · subst z
    exact ⟨0, by omega, pk_us, fun _ => rfl, fun k hk => absurd hk (by omega)⟩
  · obtain ⟨n, a, b, c, d⟩ := h q hq
    exact ⟨n, a, by rw [pk_un z]; exact b, fun w => c (fun w' => w ((mp_al_n z).mpr w')), d⟩
theorem mp_M_0 (h : mp_M st mc xt xi yt yi) (hp : p < 8) (ha : ¬ mp_al st p) : mc p = 0 := by
  obtain ⟨n, a, b, c, d⟩ := h p hp
  rw [b, c ha]; rfl
theorem mp_upd_same {f : Nat → Int32} {x : Int32} (h : f p = x) : upd f p x = f := by
  funext j
  by_cases e : j = p
  · subst e
    rw [pk_us, h]
  · rw [pk_un e]
theorem mp_M_st2 (h : mp_M st mc xt xi yt yi) (e : ∀ q, q < 8 → mp_al st q → mp_al st' q) : mp_M st' mc xt xi yt yi := mp_M_st h e
/-! links and monitors -/
theorem mp_K_end (h : mp_K st xk yk) (hp : p < 8) (hx : ∀ q, q < 8 → q ≠ p → xk' q = xk q &&& (((1 : Int32) <<< (nI p &&& 31)) ^^^ (-1))) (hx0 : xk' p = 0) (hy : ∀ a b, a < 8 → b < 8 → yk' (8 * a + b) = if a = p ∨ b = p then 0 else yk (8 * a + b)) : mp_K (upd st p 3) xk' yk' := fun q hq => by
  by_cases z : q = p
  · subst z
    refine ⟨?_, fun r hr w => ?_⟩
    · rw [hx0]
      exact mp_ac_z (fun i hi => decide_eq_false (fun z => z (by rw [hy q i hq hi, if_pos (Or.inl rfl)])))
    · rw [hy q r hq hr, if_pos (Or.inl rfl)] at w
      exact absurd rfl w
  · refine ⟨?_, fun r hr w => ?_⟩
    · rw [hx q hq z]
      refine mp_ac_c (h q hq).1 hp (fun i hi => ?_)
      show decide (yk' (8 * q + i) ≠ 0) = (decide (yk (8 * q + i) ≠ 0) && decide (i ≠ p))
      rw [hy q i hq hi]
      by_cases w : i = p
      · rw [if_pos (Or.inr w), decide_eq_false (show ¬ i ≠ p from fun v => v w), Bool.and_false]
        exact decide_eq_false (fun z => z rfl)
      · rw [if_neg (show ¬ (q = p ∨ i = p) from fun v => v.elim z w), decide_eq_true (show i ≠ p from w), Bool.and_true]
    · rw [hy q r hq hr] at w
      by_cases w' : r = p
      · rw [if_pos (Or.inr w')] at w
        exact absurd rfl w
      · rw [if_neg (by omega)] at w
        obtain ⟨a, b, c⟩ := (h q hq).2 r hr w
        exact ⟨(mp_al_n z).mpr a, (mp_al_n w').mpr b, c⟩
theorem mp_K_set {q : Nat} (h : mp_K st xk yk) (hp : p < 8) (hq : q < 8) (hpq : p ≠ q) (ap : mp_al st p) (aq : mp_al st q) : mp_K st (upd xk p (xk p ||| ((1 : Int32) <<< (nI q &&& 31)))) (upd yk (8 * p + q) 1) := fun r hr => by
  by_cases z : r = p
  · subst z
    refine ⟨?_, fun s hs w => ?_⟩
    · rw [pk_us]
      refine mp_ac_s (h r hr).1 hq (fun i hi => ?_)
      show decide (upd yk (8 * r + q) 1 (8 * r + i) ≠ 0) = (decide (yk (8 * r + i) ≠ 0) || decide (i = q))
      by_cases w : i = q
      · subst w
        rw [pk_us, decide_eq_true (show i = i from rfl), Bool.or_true]
        exact decide_eq_true (by decide)
      · rw [pk_un (by omega), decide_eq_false w, Bool.or_false]
    · by_cases w' : s = q
      · subst w'
        exact ⟨ap, aq, hpq⟩
      · rw [pk_un (by omega)] at w
        exact (h r hr).2 s hs w
  · refine ⟨?_, fun s hs w => ?_⟩
    · rw [pk_un z]
      exact mp_ac_e (h r hr).1 (fun i hi => by
        show decide (yk (8 * r + i) ≠ 0) = decide (upd yk (8 * p + q) _ (8 * r + i) ≠ 0)
        rw [pk_un (by omega)])
    · rw [pk_un (by omega)] at w
      exact (h r hr).2 s hs w
theorem mp_K_clr {q : Nat} (h : mp_K st xk yk) (hp : p < 8) (hq : q < 8) : mp_K st (upd xk p (xk p &&& (((1 : Int32) <<< (nI q &&& 31)) ^^^ (-1)))) (upd yk (8 * p + q) 0) := fun r hr => by
  by_cases z : r = p
  · subst z
    refine ⟨?_, fun s hs w => ?_⟩
    · rw [pk_us]
      refine mp_ac_c (h r hr).1 hq (fun i hi => ?_)
      show decide (upd yk (8 * r + q) 0 (8 * r + i) ≠ 0) = (decide (yk (8 * r + i) ≠ 0) && decide (i ≠ q))
      by_cases w : i = q
      · subst w
        rw [pk_us, decide_eq_false (show ¬ i ≠ i from fun v => v rfl), Bool.and_false]
        exact decide_eq_false (fun z => z rfl)
      · rw [pk_un (by omega), decide_eq_true (show i ≠ q from w), Bool.and_true]
    · by_cases w' : s = q
      · subst w'
        rw [pk_us] at w
        exact absurd rfl w
      · rw [pk_un (by omega)] at w
        exact (h r hr).2 s hs w
  · refine ⟨?_, fun s hs w => ?_⟩
    · rw [pk_un z]
      exact mp_ac_e (h r hr).1 (fun i hi => by
        show decide (yk (8 * r + i) ≠ 0) = decide (upd yk (8 * p + q) _ (8 * r + i) ≠ 0)
        rw [pk_un (by omega)])
    · rw [pk_un (by omega)] at w
      exact (h r hr).2 s hs w
theorem mp_K_clr0 {q : Nat} (h : mp_K st xk yk) (hp : p < 8) (hq : q < 8) (h0 : yk (8 * p + q) = 0) : mp_K st (upd xk p (xk p &&& (((1 : Int32) <<< (nI q &&& 31)) ^^^ (-1)))) yk := by
  have w := mp_K_clr h hp hq
  rw [mp_upd_same h0] at w
  exact w
end
end
section
section
variable {dl xc tc tm xn md lo en qn yc yn : Int32} {nt : Int64} {dO dA dB xo xa xb xl st xr rg xv pl tr xk xm wt xw xt xi mc xe xz ti yo ya yb yl cu ag yv yr yt yi yk ym li ye qu yd ys yz : Nat → Int32} {tk : Nat → Int64} {run i p : Nat} {T C : Int} {G : Nat → Int32 → Prop}
theorem mp_m1 : ∀ c, c < 2 → nI c ≠ -1 := by decide +kernel
theorem mp_Q_norun (h : mp_Q st tk nt p qu qn) (h1 : st p ≠ 1) : mp_Q st tk nt 8 qu qn := by
  obtain ⟨L, e, hq, hm, hs, hl, h2⟩ := h
  refine ⟨L, e, hq, fun q => ?_, hs, hl, fun w => absurd w (by omega)⟩
  rw [hm q]
  constructor
  · intro ⟨a, b, c⟩
    exact ⟨a, b, by omega⟩
  · intro ⟨a, b, c⟩
    exact ⟨a, b, fun z => h1 (z ▸ b)⟩
theorem mp_wake_R (h : (mp_D dl dO dA dB ∧ mp_C xo xa xb xl yo ya yb yl cu ∧ mp_V st xv yv xl cu ∧ mp_P st pl ∧ mp_S st ∧ mp_M st mc xt xi yt yi ∧ mp_K st xk yk ∧ mp_K st xm ym ∧ mp_W st xw li ye tm ∧ mp_T tm tc ti T ∧ mp_Q st tk nt run qu qn ∧ mp_E st xr yr ∧ mp_Z i st xr xe xz xc yd ys yz yc ∧ mp_F st nt C ∧ mp_G G st xv yz)) (hp : p < 8) (h2 : st p = 2) : ∃ n, n < 8 ∧ qn = nI n ∧ (mp_D dl dO dA dB ∧ mp_C xo xa xb xl yo ya yb yl cu ∧ mp_V (upd st p 1) xv yv xl cu ∧ mp_P (upd st p 1) pl ∧ mp_S (upd st p 1) ∧ mp_M (upd st p 1) mc xt xi yt yi ∧ mp_K (upd st p 1) xk yk ∧ mp_K (upd st p 1) xm ym ∧ mp_W (upd st p 1) xw li ye tm ∧ mp_T tm tc ti T ∧ mp_Q (upd st p 1) (vp_updL tk p nt) (nt + 1) run (upd qu n (nI p)) (nI (n + 1)) ∧ mp_E (upd st p 1) xr yr ∧ mp_Z i (upd st p 1) xr xe xz xc yd ys yz yc ∧ mp_F (upd st p 1) (nt + 1) C ∧ mp_G G (upd st p 1) xv yz) := by
  obtain ⟨hD, hC, hV, hP, hS, hM, hK, hm, hW, hT, hQ, hE, hZ, hF, hG⟩ := h
  have ha : mp_al st p := Or.inr h2
  have e : ∀ q, q < 8 → (mp_al (upd st p 1) q ↔ mp_al st q) := fun q _ => mp_al_k (Or.inl rfl) ha
  have hr : p ≠ run := fun z => by
    obtain ⟨_, _, _, _, _, _, w⟩ := hQ
    exact w (z ▸ hp) (z ▸ h2)
  obtain ⟨n, hn, en', hQ'⟩ := mp_Q_enq (run' := run) hQ hp (Or.inl (by rw [h2]; decide)) (fun q _ => ⟨Or.inl, fun w => w.elim id (fun w => w ▸ hr)⟩) (fun _ => rfl) hF.1 (by have := hF.2.1; have := hF.2.2; omega)
  refine ⟨n, hn, en', hD, hC, mp_V_st hV (fun q hq => (e q hq).mp), mp_P_1 hP ha, mp_S_u hS (by decide), mp_M_st hM (fun q hq => (e q hq).mpr), mp_K_st hK (fun q hq => (e q hq).mpr), mp_K_st hm (fun q hq => (e q hq).mpr), mp_W_st hW (fun q hq z => ?_), hT, hQ', mp_E_st hE (fun q hq z => ?_), mp_Z_st hZ e, mp_F_wake hF hp h2, mp_G_st hG (fun q hq => (e q hq).mp)⟩
  · by_cases w : q = p
    · subst w; exact h2
    · rw [pk_un w] at z; exact z
  · by_cases w : q = p
    · subst w
      rw [pk_us] at z
      exact absurd z (by decide)
    · rw [pk_un w] at z; exact z
theorem mp_back_R (h : (mp_D dl dO dA dB ∧ mp_C xo xa xb xl yo ya yb yl cu ∧ mp_V st xv yv xl cu ∧ mp_P st pl ∧ mp_S st ∧ mp_M st mc xt xi yt yi ∧ mp_K st xk yk ∧ mp_K st xm ym ∧ mp_W st xw li ye tm ∧ mp_T tm tc ti T ∧ mp_Q st tk nt p qu qn ∧ mp_E st xr yr ∧ mp_Z i st xr xe xz xc yd ys yz yc ∧ mp_F st nt C ∧ mp_G G st xv yz)) (hp : p < 8) (h1 : st p = 1) (hC : C + 1 < 2 ^ 40) : ∃ n, n < 8 ∧ qn = nI n ∧ (mp_D dl dO dA dB ∧ mp_C xo xa xb xl yo ya yb yl cu ∧ mp_V (upd st p 1) xv yv xl cu ∧ mp_P (upd st p 1) pl ∧ mp_S (upd st p 1) ∧ mp_M (upd st p 1) mc xt xi yt yi ∧ mp_K (upd st p 1) xk yk ∧ mp_K (upd st p 1) xm ym ∧ mp_W (upd st p 1) xw li ye tm ∧ mp_T tm tc ti T ∧ mp_Q (upd st p 1) (vp_updL tk p nt) (nt + 1) 8 (upd qu n (nI p)) (nI (n + 1)) ∧ mp_E (upd st p 1) xr yr ∧ mp_Z i (upd st p 1) xr xe xz xc yd ys yz yc ∧ mp_F (upd st p 1) (nt + 1) (C + 1) ∧ mp_G G (upd st p 1) xv yz) := by
  obtain ⟨hD, hC', hV, hP, hS, hM, hK, hm, hW, hT, hQ, hE, hZ, hF, hG⟩ := h
  have e0 : upd st p 1 = st := mp_upd_same h1
  obtain ⟨n, hn, en', hQ'⟩ := mp_Q_enq (run' := 8) hQ hp (Or.inr rfl) (fun q hq => ⟨fun _ => by omega, fun _ => by omega⟩) (fun w => absurd w (by omega)) hF.1 (by have := hF.2.1; have := hF.2.2; omega)
  have hF' := mp_F_new hF hp hC
  refine ⟨n, hn, en', ?_⟩
  rw [e0] at hQ' hF' ⊢
  exact ⟨hD, hC', hV, hP, hS, hM, hK, hm, hW, hT, hQ', hE, hZ, hF', hG⟩
theorem mp_run_R {qu' : Nat → Int32} {qn' : Int32} (h : (mp_D dl dO dA dB ∧ mp_C xo xa xb xl yo ya yb yl cu ∧ mp_V st xv yv xl cu ∧ mp_P st pl ∧ mp_S st ∧ mp_M st mc xt xi yt yi ∧ mp_K st xk yk ∧ mp_K st xm ym ∧ mp_W st xw li ye tm ∧ mp_T tm tc ti T ∧ mp_Q st tk nt 8 qu qn ∧ mp_E st xr yr ∧ mp_Z i st xr xe xz xc yd ys yz yc ∧ mp_F st nt C ∧ mp_G G st xv yz)) (h1 : st p = 1) (hl : mp_lv qu qu' qn qn' p) : (mp_D dl dO dA dB ∧ mp_C xo xa xb xl yo ya yb yl cu ∧ mp_V st xv yv xl cu ∧ mp_P st pl ∧ mp_S st ∧ mp_M st mc xt xi yt yi ∧ mp_K st xk yk ∧ mp_K st xm ym ∧ mp_W st xw li ye tm ∧ mp_T tm tc ti T ∧ mp_Q st tk nt p qu' qn' ∧ mp_E st xr yr ∧ mp_Z i st xr xe xz xc yd ys yz yc ∧ mp_F st nt C ∧ mp_G G st xv yz) := by
  obtain ⟨hD, hC, hV, hP, hS, hM, hK, hm, hW, hT, hQ, hE, hZ, hF, hG⟩ := h
  exact ⟨hD, hC, hV, hP, hS, hM, hK, hm, hW, hT, mp_Q_run hQ hl h1, hE, hZ, hF, hG⟩
theorem mp_norun_R (h : (mp_D dl dO dA dB ∧ mp_C xo xa xb xl yo ya yb yl cu ∧ mp_V st xv yv xl cu ∧ mp_P st pl ∧ mp_S st ∧ mp_M st mc xt xi yt yi ∧ mp_K st xk yk ∧ mp_K st xm ym ∧ mp_W st xw li ye tm ∧ mp_T tm tc ti T ∧ mp_Q st tk nt p qu qn ∧ mp_E st xr yr ∧ mp_Z i st xr xe xz xc yd ys yz yc ∧ mp_F st nt C ∧ mp_G G st xv yz)) (h1 : st p ≠ 1) : (mp_D dl dO dA dB ∧ mp_C xo xa xb xl yo ya yb yl cu ∧ mp_V st xv yv xl cu ∧ mp_P st pl ∧ mp_S st ∧ mp_M st mc xt xi yt yi ∧ mp_K st xk yk ∧ mp_K st xm ym ∧ mp_W st xw li ye tm ∧ mp_T tm tc ti T ∧ mp_Q st tk nt 8 qu qn ∧ mp_E st xr yr ∧ mp_Z i st xr xe xz xc yd ys yz yc ∧ mp_F st nt C ∧ mp_G G st xv yz) := by
  obtain ⟨hD, hC, hV, hP, hS, hM, hK, hm, hW, hT, hQ, hE, hZ, hF, hG⟩ := h
  exact ⟨hD, hC, hV, hP, hS, hM, hK, hm, hW, hT, mp_Q_norun hQ h1, hE, hZ, hF, hG⟩
theorem mp_G_R {G' : Nat → Int32 → Prop} (h : (mp_D dl dO dA dB ∧ mp_C xo xa xb xl yo ya yb yl cu ∧ mp_V st xv yv xl cu ∧ mp_P st pl ∧ mp_S st ∧ mp_M st mc xt xi yt yi ∧ mp_K st xk yk ∧ mp_K st xm ym ∧ mp_W st xw li ye tm ∧ mp_T tm tc ti T ∧ mp_Q st tk nt run qu qn ∧ mp_E st xr yr ∧ mp_Z i st xr xe xz xc yd ys yz yc ∧ mp_F st nt C ∧ mp_G G st xv yz)) (g : ∀ q v, G q v → G' q v) : (mp_D dl dO dA dB ∧ mp_C xo xa xb xl yo ya yb yl cu ∧ mp_V st xv yv xl cu ∧ mp_P st pl ∧ mp_S st ∧ mp_M st mc xt xi yt yi ∧ mp_K st xk yk ∧ mp_K st xm ym ∧ mp_W st xw li ye tm ∧ mp_T tm tc ti T ∧ mp_Q st tk nt run qu qn ∧ mp_E st xr yr ∧ mp_Z i st xr xe xz xc yd ys yz yc ∧ mp_F st nt C ∧ mp_G G' st xv yz) := by
  obtain ⟨hD, hC, hV, hP, hS, hM, hK, hm, hW, hT, hQ, hE, hZ, hF, hG⟩ := h
  exact ⟨hD, hC, hV, hP, hS, hM, hK, hm, hW, hT, hQ, hE, hZ, hF, fun q hq a b => g _ _ (hG q hq a b)⟩
theorem mp_doom_R {reason : Int32} (h : (mp_D dl dO dA dB ∧ mp_C xo xa xb xl yo ya yb yl cu ∧ mp_V st xv yv xl cu ∧ mp_P st pl ∧ mp_S st ∧ mp_M st mc xt xi yt yi ∧ mp_K st xk yk ∧ mp_K st xm ym ∧ mp_W st xw li ye tm ∧ mp_T tm tc ti T ∧ mp_Q st tk nt run qu qn ∧ mp_E st xr yr ∧ mp_Z i st xr xe xz xc yd ys yz yc ∧ mp_F st nt C ∧ mp_G G st xv yz)) (hp : p < 8) (ha : mp_al st p) (hz : yz p = 0) : ∃ d, d < 8 ∧ xc = nI d ∧ yc = nI d ∧ (mp_D dl dO dA dB ∧ mp_C xo xa xb xl yo ya yb yl cu ∧ mp_V st xv yv xl cu ∧ mp_P st pl ∧ mp_S st ∧ mp_M st mc xt xi yt yi ∧ mp_K st xk yk ∧ mp_K st xm ym ∧ mp_W st xw li ye tm ∧ mp_T tm tc ti T ∧ mp_Q st tk nt run qu qn ∧ mp_E st (upd xr p reason) yr ∧ mp_Z i st (upd xr p reason) (upd xe d (nI p)) (upd xz p 1) (nI (d + 1)) (upd yd d (nI p)) (upd ys d reason) (upd yz p 1) (nI (d + 1)) ∧ mp_F st nt C ∧ mp_G (fun q v => G q v ∧ q ≠ p) st xv (upd yz p 1)) := by
  obtain ⟨hD, hC, hV, hP, hS, hM, hK, hm, hW, hT, hQ, hE, hZ, hF, hG⟩ := h
  obtain ⟨d, hd, e1, e2, hZ'⟩ := mp_Z_doom (reason := reason) hZ hp ha hz
  refine ⟨d, hd, e1, e2, hD, hC, hV, hP, hS, hM, hK, hm, hW, hT, hQ, fun q hq z => ?_, hZ', hF, fun q hq a b => ?_⟩
  · have ne : q ≠ p := fun w => by
      subst w
      unfold mp_al at ha
      rw [z] at ha
      exact absurd ha (by decide)
    rw [pk_un ne]
    exact hE q hq z
  · by_cases w : q = p
    · subst w
      rw [pk_us] at b
      exact absurd b (by decide)
    · rw [pk_un w] at b
      exact ⟨hG q hq a b, w⟩
theorem mp_end_R (h : (mp_D dl dO dA dB ∧ mp_C xo xa xb xl yo ya yb yl cu ∧ mp_V st xv yv xl cu ∧ mp_P st pl ∧ mp_S st ∧ mp_M st mc xt xi yt yi ∧ mp_K st xk yk ∧ mp_K st xm ym ∧ mp_W st xw li ye tm ∧ mp_T tm tc ti T ∧ mp_Q st tk nt run qu qn ∧ mp_E st xr yr ∧ mp_Z i st xr xe xz xc yd ys yz yc ∧ mp_F st nt C ∧ mp_G G st xv yz)) (hi : xc ≠ nI i) : ∃ p d, p < 8 ∧ i < d ∧ d ≤ 8 ∧ xc = nI d ∧ yc = nI d ∧ xe i = nI p ∧ yd i = nI p ∧ mp_al st p ∧ xr p = ys i ∧
    ∀ (xk' yk' xm' ym' qu' : Nat → Int32) (qn' : Int32), mp_lv qu qu' qn qn' p →
      (∀ q, q < 8 → q ≠ p → xk' q = xk q &&& (((1 : Int32) <<< (nI p &&& 31)) ^^^ (-1))) → xk' p = 0 → (∀ a b, a < 8 → b < 8 → yk' (8 * a + b) = if a = p ∨ b = p then 0 else yk (8 * a + b)) →
      (∀ q, q < 8 → q ≠ p → xm' q = xm q &&& (((1 : Int32) <<< (nI p &&& 31)) ^^^ (-1))) → xm' p = 0 → (∀ a b, a < 8 → b < 8 → ym' (8 * a + b) = if a = p ∨ b = p then 0 else ym (8 * a + b)) →
      (mp_D dl dO dA dB ∧ mp_C xo xa xb xl yo ya yb yl cu ∧ mp_V (upd st p 3) xv yv xl cu ∧ mp_P (upd st p 3) pl ∧ mp_S (upd st p 3) ∧ mp_M (upd st p 3) (upd mc p 0) xt xi yt yi ∧ mp_K (upd st p 3) xk' yk' ∧ mp_K (upd st p 3) xm' ym' ∧ mp_W (upd st p 3) xw li ye tm ∧ mp_T tm tc ti T ∧ mp_Q (upd st p 3) tk nt run qu' qn' ∧ mp_E (upd st p 3) xr (upd yr p (ys i)) ∧ mp_Z (i + 1) (upd st p 3) xr xe (upd xz p 0) xc yd ys yz yc ∧ mp_F (upd st p 3) nt C ∧ mp_G G (upd st p 3) xv yz) := by
  obtain ⟨hD, hC, hV, hP, hS, hM, hK, hm, hW, hT, hQ, hE, hZ, hF, hG⟩ := h
  obtain ⟨p, d, hp, hd, hd8, c1, c2, e1, e2, ha, e3, e4, hZ'⟩ := mp_Z_end hZ hi
  have ea : ∀ q, q < 8 → mp_al (upd st p 3) q → q ≠ p ∧ mp_al st q := fun q _ z => by
    by_cases w : q = p
    · subst w
      exact absurd z mp_al_3
    · exact ⟨w, (mp_al_n w).mp z⟩
  refine ⟨p, d, hp, hd, hd8, c1, c2, e1, e2, ha, e3, fun xk' yk' xm' ym' qu' qn' hl k1 k2 k3 m1 m2 m3 => ⟨hD, hC, mp_V_st hV (fun q hq z => (ea q hq z).2), fun q hq z => ?_, mp_S_u hS (by decide), mp_M_end hM, mp_K_end hK hp k1 k2 k3, mp_K_end hm hp m1 m2 m3, mp_W_st hW (fun q hq z => ?_), hT, mp_Q_out hQ hl, fun q hq z => ?_, hZ', mp_F_keep hF hp (by decide), mp_G_st hG (fun q hq z => (ea q hq z).2)⟩⟩
  · obtain ⟨ne, z'⟩ := ea q hq z
    rw [pk_un ne]
    exact hP q hq z'
  · by_cases w : q = p
    · subst w
      rw [pk_us] at z
      exact absurd z (by decide)
    · rw [pk_un w] at z; exact z
  · by_cases w : q = p
    · subst w
      rw [pk_us]
      exact e3
    · rw [pk_un w] at z ⊢
      exact hE q hq z
theorem mp_fin_R {yz' : Nat → Int32} (h : (mp_D dl dO dA dB ∧ mp_C xo xa xb xl yo ya yb yl cu ∧ mp_V st xv yv xl cu ∧ mp_P st pl ∧ mp_S st ∧ mp_M st mc xt xi yt yi ∧ mp_K st xk yk ∧ mp_K st xm ym ∧ mp_W st xw li ye tm ∧ mp_T tm tc ti T ∧ mp_Q st tk nt run qu qn ∧ mp_E st xr yr ∧ mp_Z i st xr xe xz xc yd ys yz yc ∧ mp_F st nt C ∧ mp_G G st xv yz)) (hi : xc = nI i) (hz : ∀ q, q < 8 → yz' q = 0) : (mp_D dl dO dA dB ∧ mp_C xo xa xb xl yo ya yb yl cu ∧ mp_V st xv yv xl cu ∧ mp_P st pl ∧ mp_S st ∧ mp_M st mc xt xi yt yi ∧ mp_K st xk yk ∧ mp_K st xm ym ∧ mp_W st xw li ye tm ∧ mp_T tm tc ti T ∧ mp_Q st tk nt run qu qn ∧ mp_E st xr yr ∧ mp_Z 0 st xr xe xz 0 yd ys yz' 0 ∧ mp_F st nt C ∧ mp_G G st xv yz') := by
  obtain ⟨hD, hC, hV, hP, hS, hM, hK, hm, hW, hT, hQ, hE, hZ, hF, hG⟩ := h
  exact ⟨hD, hC, hV, hP, hS, hM, hK, hm, hW, hT, hQ, hE, mp_Z_fin hZ hi hz, hF, fun q hq a _ => hG q hq a (mp_Z_dead hZ hi hq a)⟩
theorem mp_app_R {n : Nat} {tag v : Int32} (h : (mp_D dl dO dA dB ∧ mp_C xo xa xb xl yo ya yb yl cu ∧ mp_V st xv yv xl cu ∧ mp_P st pl ∧ mp_S st ∧ mp_M st mc xt xi yt yi ∧ mp_K st xk yk ∧ mp_K st xm ym ∧ mp_W st xw li ye tm ∧ mp_T tm tc ti T ∧ mp_Q st tk nt run qu qn ∧ mp_E st xr yr ∧ mp_Z i st xr xe xz xc yd ys yz yc ∧ mp_F st nt C ∧ mp_G G st xv yz)) (hp : p < 8) (ha : mp_al st p) (hn : n < 12) (e : mc p = nI n) : (mp_D dl dO dA dB ∧ mp_C xo xa xb xl yo ya yb yl cu ∧ mp_V st xv yv xl cu ∧ mp_P st pl ∧ mp_S st ∧ mp_M st (upd mc p (nI (n + 1))) (upd xt (12 * p + n) tag) (upd xi (12 * p + n) v) (upd yt (12 * p + n) tag) (upd yi (12 * p + n) v) ∧ mp_K st xk yk ∧ mp_K st xm ym ∧ mp_W st xw li ye tm ∧ mp_T tm tc ti T ∧ mp_Q st tk nt run qu qn ∧ mp_E st xr yr ∧ mp_Z i st xr xe xz xc yd ys yz yc ∧ mp_F st nt C ∧ mp_G G st xv yz) := by
  obtain ⟨hD, hC, hV, hP, hS, hM, hK, hm, hW, hT, hQ, hE, hZ, hF, hG⟩ := h
  exact ⟨hD, hC, hV, hP, hS, mp_M_app hM hp ha hn e, hK, hm, hW, hT, hQ, hE, hZ, hF, hG⟩
theorem mp_ver (hC : mp_C xo xa xb xl yo ya yb yl cu) (hV : mp_V st xv yv xl cu) (hp : p < 8) (ha : mp_al st p) : ∃ a b, a < 8 ∧ b < 8 ∧ xv p = nI a ∧ yv p = nI b ∧ mp_CV xo xa xb xl yo ya yb yl a b := by
  obtain ⟨m, c, hm, hc, e, h⟩ := hV p hp ha
  rcases hC m hm with ⟨e1, _, _⟩ | ⟨c', hc', e', hcv, ho⟩
  · exact absurd (e.symm.trans e1) (mp_m1 c hc)
  · have ec : c = c' := by
      have w := e.symm.trans e'
      rw [nI_eq (by omega) (by omega)] at w
      exact w
    subst ec
    rcases h with ⟨h1, h2⟩ | ⟨h1, h2, h3⟩
    · exact ⟨2 * m, 2 * m + c, by omega, by omega, h1, h2, hcv⟩
    · rcases ho with ho | ho
      · exact absurd ho h3
      · exact ⟨2 * m + 1, 2 * m + 1 - c, by omega, by omega, h1, h2, ho⟩
theorem mp_make_R {m c : Nat} (h : (mp_D dl dO dA dB ∧ mp_C xo xa xb xl yo ya yb yl cu ∧ mp_V st xv yv xl cu ∧ mp_P st pl ∧ mp_S st ∧ mp_M st mc xt xi yt yi ∧ mp_K st xk yk ∧ mp_K st xm ym ∧ mp_W st xw li ye tm ∧ mp_T tm tc ti T ∧ mp_Q st tk nt run qu qn ∧ mp_E st xr yr ∧ mp_Z 0 st xr xe xz 0 yd ys yz 0 ∧ mp_F st nt C ∧ mp_G G st xv yz)) (hp : p < 8) (ha : ¬ mp_al st p) (hr : p ≠ run) (hm4 : m < 4) (hc2 : c < 2) (hcu : cu m = nI c) (hGt : ∀ q v, G q v) (hC1 : C + 1 < 2 ^ 40) :
    ∃ n, n < 8 ∧ qn = nI n ∧ (mp_D dl dO dA dB ∧ mp_C xo xa xb xl yo ya yb yl cu ∧ mp_V (upd st p 1) (upd xv p (nI (2 * m))) (upd yv p (nI (2 * m + c))) xl cu ∧ mp_P (upd st p 1) (upd pl p 0) ∧ mp_S (upd st p 1) ∧ mp_M (upd st p 1) mc xt xi yt yi ∧ mp_K (upd st p 1) xk yk ∧ mp_K (upd st p 1) xm ym ∧ mp_W (upd st p 1) xw li ye tm ∧ mp_T tm tc ti T ∧ mp_Q (upd st p 1) (vp_updL tk p nt) (nt + 1) run (upd qu n (nI p)) (nI (n + 1)) ∧ mp_E (upd st p 1) xr yr ∧ mp_Z 0 (upd st p 1) xr xe xz 0 yd ys yz 0 ∧ mp_F (upd st p 1) (nt + 1) (C + 1) ∧ mp_G G (upd st p 1) (upd xv p (nI (2 * m))) yz) := by
  obtain ⟨hD, hC, hV, hP, hS, hM, hK, hm, hW, hT, hQ, hE, hZ, hF, hG⟩ := h
  have hs1 : st p ≠ 1 := fun z => ha (Or.inl z)
  obtain ⟨n, hn, en', hQ'⟩ := mp_Q_enq (run' := run) hQ hp (Or.inl hs1) (fun q _ => ⟨Or.inl, fun w => w.elim id (fun w => w ▸ hr)⟩) (fun _ => rfl) hF.1 (by have := hF.2.1; have := hF.2.2; omega)
  have up : ∀ q, q < 8 → mp_al st q → mp_al (upd st p 1) q := fun q _ z => by
    by_cases w : q = p
    · subst w; exact absurd z ha
    · exact (mp_al_n w).mpr z
  refine ⟨n, hn, en', hD, hC, fun q hq z => ?_, fun q hq z => ?_, mp_S_u hS (by decide), mp_M_st hM up, mp_K_st hK up, mp_K_st hm up, mp_W_st hW (fun q hq z => ?_), hT, hQ', mp_E_st hE (fun q hq z => ?_), mp_Z_0 hZ, mp_F_new hF hp hC1, fun q hq a b => hGt _ _⟩
  · by_cases w : q = p
    · subst w
      rw [pk_us, pk_us]
      exact ⟨m, c, hm4, hc2, hcu, Or.inl ⟨rfl, rfl⟩⟩
    · rw [pk_un w, pk_un w]
      exact hV q hq ((mp_al_n w).mp z)
  · by_cases w : q = p
    · subst w
      rw [pk_us]
      exact ⟨0, by omega, rfl, fun z => by rw [pk_us] at z; exact absurd z (by decide)⟩
    · rw [pk_un w, pk_un w]
      exact hP q hq ((mp_al_n w).mp z)
  · by_cases w : q = p
    · subst w
      rw [pk_us] at z
      exact absurd z (by decide)
    · rw [pk_un w] at z; exact z
  · by_cases w : q = p
    · subst w
      rw [pk_us] at z
      exact absurd z (by decide)
    · rw [pk_un w] at z; exact z
theorem mp_wait_R {n : Nat} {xe' le' ye' : Int32} (h : (mp_D dl dO dA dB ∧ mp_C xo xa xb xl yo ya yb yl cu ∧ mp_V st xv yv xl cu ∧ mp_P st pl ∧ mp_S st ∧ mp_M st mc xt xi yt yi ∧ mp_K st xk yk ∧ mp_K st xm ym ∧ mp_W st xw li ye tm ∧ mp_T tm tc ti T ∧ mp_Q st tk nt p qu qn ∧ mp_E st xr yr ∧ mp_Z 0 st xr xe xz 0 yd ys yz 0 ∧ mp_F st nt C ∧ mp_G G st xv yz)) (hp : p < 8) (h1 : st p = 1) (hn : n < 24) (hw : (le' = 0 ∧ xe' = -1) ∨ (le' ≠ 0 ∧ xe' = ye' ∧ 0 ≤ ye'.toInt ∧ ye'.toInt ≤ tm.toInt + 1000)) (hC1 : C + 1 < 2 ^ 40) :
    (mp_D dl dO dA dB ∧ mp_C xo xa xb xl yo ya yb yl cu ∧ mp_V (upd st p 2) xv yv xl cu ∧ mp_P (upd st p 2) (upd pl p (nI n)) ∧ mp_S (upd st p 2) ∧ mp_M (upd st p 2) mc xt xi yt yi ∧ mp_K (upd st p 2) xk yk ∧ mp_K (upd st p 2) xm ym ∧ mp_W (upd st p 2) (upd xw p xe') (upd li p le') (upd ye p ye') tm ∧ mp_T tm tc ti T ∧ mp_Q (upd st p 2) tk nt 8 qu qn ∧ mp_E (upd st p 2) xr yr ∧ mp_Z 0 (upd st p 2) xr xe xz 0 yd ys yz 0 ∧ mp_F (upd st p 2) nt (C + 1) ∧ mp_G G (upd st p 2) xv yz) := by
  obtain ⟨hD, hC, hV, hP, hS, hM, hK, hm, hW, hT, hQ, hE, hZ, hF, hG⟩ := h
  have ha : mp_al st p := Or.inl h1
  have e : ∀ q, q < 8 → (mp_al (upd st p 2) q ↔ mp_al st q) := fun q _ => mp_al_k (Or.inr rfl) ha
  refine ⟨hD, hC, mp_V_st hV (fun q hq => (e q hq).mp), fun q hq z => ?_, mp_S_u hS (by decide), mp_M_st hM (fun q hq => (e q hq).mpr), mp_K_st hK (fun q hq => (e q hq).mpr), mp_K_st hm (fun q hq => (e q hq).mpr), fun q hq z => ?_, hT, ?_, mp_E_st hE (fun q hq z => ?_), mp_Z_0 hZ, mp_F_wait hF hp (by rw [h1]; decide) hC1, mp_G_st hG (fun q hq => (e q hq).mp)⟩
  · by_cases w : q = p
    · subst w
      rw [pk_us]
      exact ⟨n, by omega, rfl, fun _ => hn⟩
    · rw [pk_un w, pk_un w]
      exact hP q hq ((mp_al_n w).mp z)
  · by_cases w : q = p
    · subst w
      rw [pk_us, pk_us, pk_us]
      exact hw
    · rw [pk_un w] at z
      rw [pk_un w, pk_un w, pk_un w]
      exact hW q hq z
  · obtain ⟨L, e1, hq, hm1, hs, hl, h2⟩ := hQ
    refine ⟨L, e1, hq, fun q => ?_, hs, hl, fun w => absurd w (by omega)⟩
    rw [hm1 q]
    by_cases w : q = p
    · subst w
      rw [pk_us]
      exact ⟨fun z => absurd rfl z.2.2, fun z => absurd z.2.1 (by decide)⟩
    · rw [pk_un w]
      exact ⟨fun z => ⟨z.1, z.2.1, by omega⟩, fun z => ⟨z.1, z.2.1, w⟩⟩
  · by_cases w : q = p
    · subst w
      rw [pk_us] at z
      exact absurd z (by decide)
    · rw [pk_un w] at z; exact z
theorem mp_tick_R (h : (mp_D dl dO dA dB ∧ mp_C xo xa xb xl yo ya yb yl cu ∧ mp_V st xv yv xl cu ∧ mp_P st pl ∧ mp_S st ∧ mp_M st mc xt xi yt yi ∧ mp_K st xk yk ∧ mp_K st xm ym ∧ mp_W st xw li ye tm ∧ mp_T tm tc ti T ∧ mp_Q st tk nt run qu qn ∧ mp_E st xr yr ∧ mp_Z i st xr xe xz xc yd ys yz yc ∧ mp_F st nt C ∧ mp_G G st xv yz)) (hT1 : T < 1900000000) : (mp_D dl dO dA dB ∧ mp_C xo xa xb xl yo ya yb yl cu ∧ mp_V st xv yv xl cu ∧ mp_P st pl ∧ mp_S st ∧ mp_M st mc xt xi yt yi ∧ mp_K st xk yk ∧ mp_K st xm ym ∧ mp_W st xw li ye (tm + 1) ∧ mp_T (tm + 1) tc ti (T + 1) ∧ mp_Q st tk nt run qu qn ∧ mp_E st xr yr ∧ mp_Z i st xr xe xz xc yd ys yz yc ∧ mp_F st nt C ∧ mp_G G st xv yz) ∧ (tm + 1).toInt = tm.toInt + 1 := by
  obtain ⟨hD, hC, hV, hP, hS, hM, hK, hm, hW, hT, hQ, hE, hZ, hF, hG⟩ := h
  obtain ⟨a, b, c, d, e⟩ := hT
  have e1 := mp_t1 a (by omega)
  refine ⟨⟨hD, hC, hV, hP, hS, hM, hK, hm, fun q hq z => ?_, ⟨by omega, by omega, c, by omega, e⟩, hQ, hE, hZ, hF, hG⟩, e1⟩
  rcases hW q hq z with w | ⟨w1, w2, w3, w4⟩
  · exact Or.inl w
  · exact Or.inr ⟨w1, w2, w3, by omega⟩
theorem mp_place_R {n : Nat} (h : (mp_D dl dO dA dB ∧ mp_C xo xa xb xl yo ya yb yl cu ∧ mp_V st xv yv xl cu ∧ mp_P st pl ∧ mp_S st ∧ mp_M st mc xt xi yt yi ∧ mp_K st xk yk ∧ mp_K st xm ym ∧ mp_W st xw li ye tm ∧ mp_T tm tc ti T ∧ mp_Q st tk nt run qu qn ∧ mp_E st xr yr ∧ mp_Z i st xr xe xz xc yd ys yz yc ∧ mp_F st nt C ∧ mp_G G st xv yz)) (h1 : st p ≠ 2) (hn : n ≤ 24) : (mp_D dl dO dA dB ∧ mp_C xo xa xb xl yo ya yb yl cu ∧ mp_V st xv yv xl cu ∧ mp_P st (upd pl p (nI n)) ∧ mp_S st ∧ mp_M st mc xt xi yt yi ∧ mp_K st xk yk ∧ mp_K st xm ym ∧ mp_W st xw li ye tm ∧ mp_T tm tc ti T ∧ mp_Q st tk nt run qu qn ∧ mp_E st xr yr ∧ mp_Z i st xr xe xz xc yd ys yz yc ∧ mp_F st nt C ∧ mp_G G st xv yz) := by
  obtain ⟨hD, hC, hV, hP, hS, hM, hK, hm, hW, hT, hQ, hE, hZ, hF, hG⟩ := h
  refine ⟨hD, hC, hV, fun q hq z => ?_, hS, hM, hK, hm, hW, hT, hQ, hE, hZ, hF, hG⟩
  by_cases w : q = p
  · subst w
    rw [pk_us]
    exact ⟨n, hn, rfl, fun w => absurd w h1⟩
  · rw [pk_un w]
    exact hP q hq z
theorem mp_call_R {m c : Nat} (h : (mp_D dl dO dA dB ∧ mp_C xo xa xb xl yo ya yb yl cu ∧ mp_V st xv yv xl cu ∧ mp_P st pl ∧ mp_S st ∧ mp_M st mc xt xi yt yi ∧ mp_K st xk yk ∧ mp_K st xm ym ∧ mp_W st xw li ye tm ∧ mp_T tm tc ti T ∧ mp_Q st tk nt run qu qn ∧ mp_E st xr yr ∧ mp_Z i st xr xe xz xc yd ys yz yc ∧ mp_F st nt C ∧ mp_G G st xv yz)) (h1 : st p ≠ 2) (hm4 : m < 4) (hc2 : c < 2) (hcu : cu m = nI c) (hGt : ∀ q v, G q v) : (mp_D dl dO dA dB ∧ mp_C xo xa xb xl yo ya yb yl cu ∧ mp_V st (upd xv p (nI (2 * m))) (upd yv p (nI (2 * m + c))) xl cu ∧ mp_P st (upd pl p 0) ∧ mp_S st ∧ mp_M st mc xt xi yt yi ∧ mp_K st xk yk ∧ mp_K st xm ym ∧ mp_W st xw li ye tm ∧ mp_T tm tc ti T ∧ mp_Q st tk nt run qu qn ∧ mp_E st xr yr ∧ mp_Z i st xr xe xz xc yd ys yz yc ∧ mp_F st nt C ∧ mp_G G st (upd xv p (nI (2 * m))) yz) := by
  obtain ⟨hD, hC, hV, hP, hS, hM, hK, hm, hW, hT, hQ, hE, hZ, hF, hG⟩ := mp_place_R (p := p) (n := 0) h h1 (by omega)
  refine ⟨hD, hC, fun q hq z => ?_, hP, hS, hM, hK, hm, hW, hT, hQ, hE, hZ, hF, fun q _ _ _ => hGt _ _⟩
  by_cases w : q = p
  · subst w
    rw [pk_us, pk_us]
    exact ⟨m, c, hm4, hc2, hcu, Or.inl ⟨rfl, rfl⟩⟩
  · rw [pk_un w, pk_un w]
    exact hV q hq z
theorem mp_F_R {C' : Int} (h : (mp_D dl dO dA dB ∧ mp_C xo xa xb xl yo ya yb yl cu ∧ mp_V st xv yv xl cu ∧ mp_P st pl ∧ mp_S st ∧ mp_M st mc xt xi yt yi ∧ mp_K st xk yk ∧ mp_K st xm ym ∧ mp_W st xw li ye tm ∧ mp_T tm tc ti T ∧ mp_Q st tk nt run qu qn ∧ mp_E st xr yr ∧ mp_Z i st xr xe xz xc yd ys yz yc ∧ mp_F st nt C ∧ mp_G G st xv yz)) (h1 : C ≤ C') (h2 : C' < 2 ^ 40) : (mp_D dl dO dA dB ∧ mp_C xo xa xb xl yo ya yb yl cu ∧ mp_V st xv yv xl cu ∧ mp_P st pl ∧ mp_S st ∧ mp_M st mc xt xi yt yi ∧ mp_K st xk yk ∧ mp_K st xm ym ∧ mp_W st xw li ye tm ∧ mp_T tm tc ti T ∧ mp_Q st tk nt run qu qn ∧ mp_E st xr yr ∧ mp_Z i st xr xe xz xc yd ys yz yc ∧ mp_F st nt C' ∧ mp_G G st xv yz) := by
  obtain ⟨hD, hC, hV, hP, hS, hM, hK, hm, hW, hT, hQ, hE, hZ, hF, hG⟩ := h
  exact ⟨hD, hC, hV, hP, hS, hM, hK, hm, hW, hT, hQ, hE, hZ, mp_F_up hF h1 h2, hG⟩
theorem mp_T_R {T' : Int} (h : (mp_D dl dO dA dB ∧ mp_C xo xa xb xl yo ya yb yl cu ∧ mp_V st xv yv xl cu ∧ mp_P st pl ∧ mp_S st ∧ mp_M st mc xt xi yt yi ∧ mp_K st xk yk ∧ mp_K st xm ym ∧ mp_W st xw li ye tm ∧ mp_T tm tc ti T ∧ mp_Q st tk nt run qu qn ∧ mp_E st xr yr ∧ mp_Z i st xr xe xz xc yd ys yz yc ∧ mp_F st nt C ∧ mp_G G st xv yz)) (h1 : T ≤ T') : (mp_D dl dO dA dB ∧ mp_C xo xa xb xl yo ya yb yl cu ∧ mp_V st xv yv xl cu ∧ mp_P st pl ∧ mp_S st ∧ mp_M st mc xt xi yt yi ∧ mp_K st xk yk ∧ mp_K st xm ym ∧ mp_W st xw li ye tm ∧ mp_T tm tc ti T' ∧ mp_Q st tk nt run qu qn ∧ mp_E st xr yr ∧ mp_Z i st xr xe xz xc yd ys yz yc ∧ mp_F st nt C ∧ mp_G G st xv yz) := by
  obtain ⟨hD, hC, hV, hP, hS, hM, hK, hm, hW, hT, hQ, hE, hZ, hF, hG⟩ := h
  obtain ⟨a, b, c, d, e⟩ := hT
  exact ⟨hD, hC, hV, hP, hS, hM, hK, hm, hW, ⟨a, by omega, c, d, e⟩, hQ, hE, hZ, hF, hG⟩
theorem mp_jump_R {tm' : Int32} (h : (mp_D dl dO dA dB ∧ mp_C xo xa xb xl yo ya yb yl cu ∧ mp_V st xv yv xl cu ∧ mp_P st pl ∧ mp_S st ∧ mp_M st mc xt xi yt yi ∧ mp_K st xk yk ∧ mp_K st xm ym ∧ mp_W st xw li ye tm ∧ mp_T tm tc ti T ∧ mp_Q st tk nt run qu qn ∧ mp_E st xr yr ∧ mp_Z i st xr xe xz xc yd ys yz yc ∧ mp_F st nt C ∧ mp_G G st xv yz)) (h0 : tm.toInt ≤ tm'.toInt) (h1 : tm'.toInt ≤ T + 1000) : (mp_D dl dO dA dB ∧ mp_C xo xa xb xl yo ya yb yl cu ∧ mp_V st xv yv xl cu ∧ mp_P st pl ∧ mp_S st ∧ mp_M st mc xt xi yt yi ∧ mp_K st xk yk ∧ mp_K st xm ym ∧ mp_W st xw li ye tm' ∧ mp_T tm' tc ti (T + 1000) ∧ mp_Q st tk nt run qu qn ∧ mp_E st xr yr ∧ mp_Z i st xr xe xz xc yd ys yz yc ∧ mp_F st nt C ∧ mp_G G st xv yz) := by
  obtain ⟨hD, hC, hV, hP, hS, hM, hK, hm, hW, hT, hQ, hE, hZ, hF, hG⟩ := h
  obtain ⟨a, b, c, d, e⟩ := hT
  refine ⟨hD, hC, hV, hP, hS, hM, hK, hm, fun q hq z => ?_, ⟨by omega, h1, c, by omega, e⟩, hQ, hE, hZ, hF, hG⟩
  rcases hW q hq z with w | ⟨w1, w2, w3, w4⟩
  · exact Or.inl w
  · exact Or.inr ⟨w1, w2, w3, by omega⟩
end
end
section
section
variable {dl xc tc tm xn md lo en qn yc yn : Int32} {nt : Int64} {dO dA dB xo xa xb xl st xr rg xv pl tr xk xm wt xw xt xi mc xe xz ti yo ya yb yl cu ag yv yr yt yi yk ym li ye qu yd ys yz : Nat → Int32} {tk : Nat → Int64} {run i p : Nat} {T C : Int} {G : Nat → Int32 → Prop}
theorem mp_D_push {n : Nat} {op a b : Int32} (h : mp_D (nI n) dO dA dB) (hn : n < 24) (ho : mp_ok op a b) : mp_D (nI (n + 1)) (upd dO n op) (upd dA n a) (upd dB n b) := by
  obtain ⟨n', h1, h2, h3⟩ := h
  rw [nI_eq (by omega) (by omega)] at h2
  subst h2
  refine ⟨n + 1, by omega, rfl, fun i hi => ?_⟩
  by_cases e : i = n
  · subst e
    rw [pk_us, pk_us, pk_us]
    exact ho
  · rw [pk_un e, pk_un e, pk_un e]
    exact h3 i (by omega)
theorem mp_D_0 : mp_D 0 dO dA dB := ⟨0, by omega, rfl, fun i hi => absurd hi (by omega)⟩
def mp_ld (f f' d : Nat → Int32) (m : Nat) : Prop := (∀ i, i < 24 → f' (48 * m + 24 + i) = f (48 * m + i) ∧ f' (48 * m + i) = d i) ∧ (∀ j, (j < 48 * m ∨ 48 * m + 48 ≤ j) → f' j = f j)
def mp_ly (g g' d : Nat → Int32) (v n : Nat) : Prop := (∀ k, k < n → g' (24 * v + k) = d k) ∧ (∀ j, (j < 24 * v ∨ 24 * v + n ≤ j) → g' j = g j)
theorem mp_CV_k {xo' xa' xb' xl' yo' ya' yb' yl' : Nat → Int32} {a b : Nat} (h : mp_CV xo xa xb xl yo ya yb yl a b) (e1 : xl' a = xl a) (e2 : yl' b = yl b)
    (e3 : ∀ i, i < 24 → xo' (24 * a + i) = xo (24 * a + i) ∧ xa' (24 * a + i) = xa (24 * a + i) ∧ xb' (24 * a + i) = xb (24 * a + i))
    (e4 : ∀ i, i < 24 → yo' (24 * b + i) = yo (24 * b + i) ∧ ya' (24 * b + i) = ya (24 * b + i) ∧ yb' (24 * b + i) = yb (24 * b + i)) : mp_CV xo' xa' xb' xl' yo' ya' yb' yl' a b := by
  obtain ⟨n, h1, h2, h3, h4, h5⟩ := h
  refine ⟨n, h1, h2, e1.trans h3, e2.trans h4, fun i hi => ?_⟩
  obtain ⟨a1, a2, a3⟩ := e3 i (by omega)
  obtain ⟨b1, b2, b3⟩ := e4 i (by omega)
  rw [a1, a2, a3, b1, b2, b3]
  exact h5 i hi
theorem mp_load_R {xo' xa' xb' yo' ya' yb' xv' : Nat → Int32} {m n c' : Nat} (h : (mp_D (nI n) dO dA dB ∧ mp_C xo xa xb xl yo ya yb yl cu ∧ mp_V st xv yv xl cu ∧ mp_P st pl ∧ mp_S st ∧ mp_M st mc xt xi yt yi ∧ mp_K st xk yk ∧ mp_K st xm ym ∧ mp_W st xw li ye tm ∧ mp_T tm tc ti T ∧ mp_Q st tk nt run qu qn ∧ mp_E st xr yr ∧ mp_Z 0 st xr xe xz 0 yd ys yz 0 ∧ mp_F st nt C ∧ mp_G G st xv yz)) (hm4 : m < 4) (hn0 : 0 < n) (hn : n ≤ 24) (hGt : ∀ q v, G q v)
    (hno : ∀ p, p < 8 → mp_al st p → xv p ≠ nI (2 * m + 1)) (hc' : (cu m = 0 ∧ c' = 1) ∨ (cu m ≠ 0 ∧ c' = 0))
    (x1 : mp_ld xo xo' dO m) (x2 : mp_ld xa xa' dA m) (x3 : mp_ld xb xb' dB m) (y1 : mp_ly yo yo' dO (2 * m + c') n) (y2 : mp_ly ya ya' dA (2 * m + c') n) (y3 : mp_ly yb yb' dB (2 * m + c') n)
    (hv : ∀ p, p < 8 → xv' p = if xv p = nI (2 * m) then nI (2 * m + 1) else xv p) :
    (mp_D 0 dO dA dB ∧ mp_C xo' xa' xb' (upd (upd xl (2 * m + 1) (xl (2 * m))) (2 * m) (nI n)) yo' ya' yb' (upd yl (2 * m + c') (nI n)) (upd cu m (nI c')) ∧ mp_V st xv' yv (upd (upd xl (2 * m + 1) (xl (2 * m))) (2 * m) (nI n)) (upd cu m (nI c')) ∧ mp_P st pl ∧ mp_S st ∧ mp_M st mc xt xi yt yi ∧ mp_K st xk yk ∧ mp_K st xm ym ∧ mp_W st xw li ye tm ∧ mp_T tm tc ti T ∧ mp_Q st tk nt run qu qn ∧ mp_E st xr yr ∧ mp_Z 0 st xr xe xz 0 yd ys yz 0 ∧ mp_F st nt C ∧ mp_G G st xv' yz) := by
  obtain ⟨hD, hC, hV, hP, hS, hM, hK, hm, hW, hT, hQ, hE, hZ, hF, hG⟩ := h
  have hc2 : c' < 2 := by omega
  have hcc : ∀ c, c < 2 → cu m = nI c → c' = 1 - c := fun c hc e => by
    rcases hc' with ⟨a, b⟩ | ⟨a, b⟩
    · have w : nI c = nI 0 := e.symm.trans a
      rw [nI_eq (by omega) (by omega)] at w
      omega
    · have : c ≠ 0 := fun z => by subst z; exact a e
      omega
  refine ⟨mp_D_0, fun m' hm' => ?_, fun q hq ha => ?_, hP, hS, hM, hK, hm, hW, hT, hQ, hE, hZ, hF, fun q _ _ _ => hGt _ _⟩
  · by_cases e : m' = m
    · subst e
      refine Or.inr ⟨c', hc2, pk_us, ⟨n, hn0, hn, pk_us, pk_us, fun i hi => ?_⟩, ?_⟩
      · obtain ⟨n', h1, h2, h3⟩ := hD
        rw [nI_eq (by omega) (by omega)] at h2
        subst h2
        rw [y1.1 i hi, y2.1 i hi, y3.1 i hi, show 24 * (2 * m') + i = 48 * m' + i by omega, (x1.1 i (by omega)).2, (x2.1 i (by omega)).2, (x3.1 i (by omega)).2]
        exact ⟨rfl, rfl, rfl, h3 i hi⟩
      · rcases hC m' hm' with ⟨e1, e2, e3⟩ | ⟨c, hc, e1, ⟨n0, a1, a2, a3, a4, a5⟩, e3⟩
        · left
          rw [pk_un (by omega), pk_us, e2]
        · right
          have ec := hcc c hc e1
          have eb : 2 * m' + 1 - c' = 2 * m' + c := by omega
          rw [eb]
          refine ⟨n0, a1, a2, by rw [pk_un (by omega), pk_us]; exact a3, by rw [pk_un (by omega)]; exact a4, fun i hi => ?_⟩
          have w := a5 i hi
          rw [show 24 * (2 * m') + i = 48 * m' + i by omega] at w
          rw [show 24 * (2 * m' + 1) + i = 48 * m' + 24 + i by omega, (x1.1 i (by omega)).1, (x2.1 i (by omega)).1, (x3.1 i (by omega)).1, y1.2 _ (by omega), y2.2 _ (by omega), y3.2 _ (by omega)]
          exact w
    · have kx : ∀ a, a ≠ 2 * m → a ≠ 2 * m + 1 → ∀ i, i < 24 → xo' (24 * a + i) = xo (24 * a + i) ∧ xa' (24 * a + i) = xa (24 * a + i) ∧ xb' (24 * a + i) = xb (24 * a + i) := fun a n1 n2 i hi => ⟨x1.2 _ (by omega), x2.2 _ (by omega), x3.2 _ (by omega)⟩
      have ky : ∀ b, b ≠ 2 * m + c' → ∀ i, i < 24 → yo' (24 * b + i) = yo (24 * b + i) ∧ ya' (24 * b + i) = ya (24 * b + i) ∧ yb' (24 * b + i) = yb (24 * b + i) := fun b n1 i hi => ⟨y1.2 _ (by omega), y2.2 _ (by omega), y3.2 _ (by omega)⟩
      rw [pk_un e, pk_un (show 2 * m' ≠ 2 * m by omega), pk_un (show 2 * m' ≠ 2 * m + 1 by omega), pk_un (show 2 * m' + 1 ≠ 2 * m by omega), pk_un (show 2 * m' + 1 ≠ 2 * m + 1 by omega)]
      rcases hC m' hm' with w | ⟨c, hc, e1, e2, e3⟩
      · exact Or.inl w
      · refine Or.inr ⟨c, hc, e1, mp_CV_k e2 (by rw [pk_un (by omega), pk_un (by omega)]) (by rw [pk_un (by omega)]) (kx _ (by omega) (by omega)) (ky _ (by omega)), ?_⟩
        rcases e3 with e3 | e3
        · exact Or.inl e3
        · exact Or.inr (mp_CV_k e3 (by rw [pk_un (by omega), pk_un (by omega)]) (by rw [pk_un (by omega)]) (kx _ (by omega) (by omega)) (ky _ (by omega)))
  · obtain ⟨mm, c, hmm, hc, e, h⟩ := hV q hq ha
    by_cases z : mm = m
    · subst z
      rcases hC mm hmm with ⟨e1, _, _⟩ | ⟨c0, hc0, e1, ⟨n0, a1, a2, a3, a4, a5⟩, e3⟩
      · exact absurd (e.symm.trans e1) (mp_m1 c hc)
      · have ec := hcc c hc e
        rcases h with ⟨h1, h2⟩ | ⟨h1, h2, h3⟩
        · refine ⟨mm, c', hmm, hc2, pk_us, Or.inr ⟨?_, ?_, ?_⟩⟩
          · rw [hv q hq, if_pos h1]
          · rw [h2]
            exact congrArg nI (by omega)
          · rw [pk_un (by omega), pk_us, a3]
            exact nI_ne0 a1 (by omega)
        · exact absurd h1 (hno q hq ha)
    · refine ⟨mm, c, hmm, hc, by rw [pk_un z]; exact e, ?_⟩
      have hk : xv q ≠ nI (2 * m) := fun w => by
        rcases h with ⟨h1, _⟩ | ⟨h1, _, _⟩
        · rw [h1, nI_eq (by omega) (by omega)] at w
          omega
        · rw [h1, nI_eq (by omega) (by omega)] at w
          omega
      rw [hv q hq, if_neg hk, pk_un (show 2 * mm + 1 ≠ 2 * m by omega), pk_un (show 2 * mm + 1 ≠ 2 * m + 1 by omega)]
      exact h
theorem mp_purge_R {m : Nat} (h : (mp_D dl dO dA dB ∧ mp_C xo xa xb xl yo ya yb yl cu ∧ mp_V st xv yv xl cu ∧ mp_P st pl ∧ mp_S st ∧ mp_M st mc xt xi yt yi ∧ mp_K st xk yk ∧ mp_K st xm ym ∧ mp_W st xw li ye tm ∧ mp_T tm tc ti T ∧ mp_Q st tk nt run qu qn ∧ mp_E st xr yr ∧ mp_Z i st xr xe xz xc yd ys yz yc ∧ mp_F st nt C ∧ mp_G G st xv yz)) (hm4 : m < 4) (hno : ∀ p, p < 8 → mp_al st p → xv p ≠ nI (2 * m + 1)) : (mp_D dl dO dA dB ∧ mp_C xo xa xb (upd xl (2 * m + 1) 0) yo ya yb yl cu ∧ mp_V st xv yv (upd xl (2 * m + 1) 0) cu ∧ mp_P st pl ∧ mp_S st ∧ mp_M st mc xt xi yt yi ∧ mp_K st xk yk ∧ mp_K st xm ym ∧ mp_W st xw li ye tm ∧ mp_T tm tc ti T ∧ mp_Q st tk nt run qu qn ∧ mp_E st xr yr ∧ mp_Z i st xr xe xz xc yd ys yz yc ∧ mp_F st nt C ∧ mp_G G st xv yz) := by
  obtain ⟨hD, hC, hV, hP, hS, hM, hK, hm, hW, hT, hQ, hE, hZ, hF, hG⟩ := h
  refine ⟨hD, fun m' hm' => ?_, fun q hq ha => ?_, hP, hS, hM, hK, hm, hW, hT, hQ, hE, hZ, hF, hG⟩
  · rw [pk_un (show 2 * m' ≠ 2 * m + 1 by omega)]
    by_cases e : m' = m
    · subst e
      rw [pk_us]
      rcases hC m' hm' with ⟨w1, w2, w3⟩ | ⟨c, hc, e1, e2, e3⟩
      · exact Or.inl ⟨w1, w2, rfl⟩
      · exact Or.inr ⟨c, hc, e1, mp_CV_k e2 (by rw [pk_un (by omega)]) rfl (fun i _ => ⟨rfl, rfl, rfl⟩) (fun i _ => ⟨rfl, rfl, rfl⟩), Or.inl rfl⟩
    · rw [pk_un (show 2 * m' + 1 ≠ 2 * m + 1 by omega)]
      rcases hC m' hm' with w | ⟨c, hc, e1, e2, e3⟩
      · exact Or.inl w
      · refine Or.inr ⟨c, hc, e1, mp_CV_k e2 (by rw [pk_un (by omega)]) rfl (fun i _ => ⟨rfl, rfl, rfl⟩) (fun i _ => ⟨rfl, rfl, rfl⟩), ?_⟩
        rcases e3 with e3 | e3
        · exact Or.inl e3
        · exact Or.inr (mp_CV_k e3 (by rw [pk_un (by omega)]) rfl (fun i _ => ⟨rfl, rfl, rfl⟩) (fun i _ => ⟨rfl, rfl, rfl⟩))
  · obtain ⟨mm, c, hmm, hc, e, h⟩ := hV q hq ha
    refine ⟨mm, c, hmm, hc, e, ?_⟩
    rcases h with h | ⟨h1, h2, h3⟩
    · exact Or.inl h
    · by_cases z : mm = m
      · subst z
        exact absurd h1 (hno q hq ha)
      · rw [pk_un (show 2 * mm + 1 ≠ 2 * m + 1 by omega)]
        exact Or.inr ⟨h1, h2, h3⟩
/-- who runs old code of m: X's version is 2m + 1, Y's is of m and not the current one -/
theorem mp_old {m : Nat} (hV : mp_V st xv yv xl cu) (hC : mp_C xo xa xb xl yo ya yb yl cu) (hp : p < 8) (ha : mp_al st p) (hm4 : m < 4) : ∃ a b, a < 8 ∧ b < 8 ∧ xv p = nI a ∧ yv p = nI b ∧ b / 2 = a / 2 ∧ (a = 2 * m + 1 ↔ b / 2 = m ∧ nI b ≠ nI (2 * m) + cu m) ∧ (a % 2 = 0 ↔ nI b = nI (2 * (b / 2)) + cu (b / 2)) := by
  obtain ⟨mm, c, hmm, hc, e, h⟩ := hV p hp ha
  rcases h with ⟨h1, h2⟩ | ⟨h1, h2, h3⟩
  · refine ⟨2 * mm, 2 * mm + c, by omega, by omega, h1, h2, by omega, ⟨fun w => absurd w (by omega), fun w => ?_⟩, ⟨fun _ => ?_, fun _ => by omega⟩⟩
    · have e1 : mm = m := by omega
      subst e1
      rw [e, nI_add] at w
      exact absurd rfl w.2
    · have e1 : (2 * mm + c) / 2 = mm := by omega
      rw [e1, e, nI_add]
  · refine ⟨2 * mm + 1, 2 * mm + 1 - c, by omega, by omega, h1, h2, by omega, ⟨fun w => ⟨by omega, ?_⟩, fun w => by omega⟩, ⟨fun w => absurd w (by omega), fun w => ?_⟩⟩
    · have e1 : mm = m := by omega
      subst e1
      rw [e, nI_add]
      intro w
      rw [nI_eq (by omega) (by omega)] at w
      omega
    · have e1 : (2 * mm + 1 - c) / 2 = mm := by omega
      rw [e1, e, nI_add, nI_eq (by omega) (by omega)] at w
      omega
end
end
section
theorem mp_lv_of {qu qu' : Nat → Int32} {qn : Int32} {p : Nat} {L : List Nat} (e : qn = nI L.length) (hl : L.length < 2 ^ 31) (h8 : ∀ q, q ∈ L → q < 8) (hq : ∀ i q, L[i]? = some q → qu i = nI q) (h : ∀ i q, (mp_fl p L)[i]? = some q → qu' i = nI q) : mp_lv qu qu' qn (nI (mp_fl p L).length) p := by
  intro L2 e2 hl2 h82 hq2
  have el : L2.length = L.length := by
    rw [e, nI_eq hl hl2] at e2
    exact e2.symm
  have eL : L2 = L := by
    apply List.ext_getElem?
    intro i
    rcases Nat.lt_or_ge i L.length with hi | hi
    · have hi2 : i < L2.length := by omega
      have a : L[i]? = some L[i] := List.getElem?_eq_getElem hi
      have b : L2[i]? = some L2[i] := List.getElem?_eq_getElem hi2
      have w := (hq i _ a).symm.trans (hq2 i _ b)
      have c1 := h8 _ (List.getElem_mem hi)
      have c2 := h82 _ (List.getElem_mem hi2)
      rw [nI_eq (by omega) (by omega)] at w
      rw [a, b, w]
    · rw [List.getElem?_eq_none hi, List.getElem?_eq_none (by omega)]
  subst eL
  exact ⟨rfl, h⟩
def mp_li (qu : Nat → Int32) (L : List Nat) (p k : Nat) : Prop := (∀ i q, k ≤ i → L[i]? = some q → qu i = nI q) ∧ (∀ i q, (mp_fl p (L.take k))[i]? = some q → qu i = nI q)
theorem mp_li_0 {qu : Nat → Int32} {L : List Nat} {p : Nat} (h : ∀ i q, L[i]? = some q → qu i = nI q) : mp_li qu L p 0 := ⟨fun i q _ w => h i q w, fun i q w => by
  have e : mp_fl p (L.take 0) = [] := rfl
  rw [e] at w
  exact absurd w (by simp)⟩
theorem mp_fl_len {L : List Nat} {p k : Nat} (hk : k ≤ L.length) : (mp_fl p (L.take k)).length ≤ k := by
  have h := List.length_filter_le (fun q => decide (q ≠ p)) (L.take k)
  rw [List.length_take] at h
  unfold mp_fl
  omega
theorem mp_fl_s {L : List Nat} {p k q : Nat} (h : L[k]? = some q) : mp_fl p (L.take (k + 1)) = if q = p then mp_fl p (L.take k) else mp_fl p (L.take k) ++ [q] := by
  unfold mp_fl
  rw [List.take_add_one, h, List.filter_append]
  by_cases e : q = p
  · rw [if_pos e, e]
    simp
  · rw [if_neg e]
    simp [e]
theorem mp_li_e {qu : Nat → Int32} {L : List Nat} {p k : Nat} (h : mp_li qu L p k) (hk : L[k]? = some p) : mp_li qu L p (k + 1) := ⟨fun i q z w => h.1 i q (by omega) w, fun i q w => by
  rw [mp_fl_s hk, if_pos rfl] at w
  exact h.2 i q w⟩
theorem mp_li_n {qu : Nat → Int32} {L : List Nat} {p k r : Nat} (h : mp_li qu L p k) (hk : L[k]? = some r) (hr : r ≠ p) : mp_li (upd qu (mp_fl p (L.take k)).length (nI r)) L p (k + 1) ∧ (mp_fl p (L.take (k + 1))).length = (mp_fl p (L.take k)).length + 1 := by
  have hkl : k < L.length := (List.getElem?_eq_some_iff.mp hk).1
  have hle := mp_fl_len (p := p) (k := k) (L := L) (by omega)
  have e := mp_fl_s (p := p) hk
  rw [if_neg hr] at e
  refine ⟨⟨fun i q z w => ?_, fun i q w => ?_⟩, by rw [e, List.length_append]; rfl⟩
  · rw [pk_un (by omega)]
    exact h.1 i q (by omega) w
  · rw [e] at w
    by_cases hi : i < (mp_fl p (L.take k)).length
    · rw [List.getElem?_append_left hi] at w
      rw [pk_un (by omega)]
      exact h.2 i q w
    · rw [List.getElem?_append_right (by omega)] at w
      obtain ⟨hj, hj2⟩ := List.getElem?_eq_some_iff.mp w
      have hj' : i - (mp_fl p (L.take k)).length < 1 := hj
      have ei : i = (mp_fl p (L.take k)).length := by omega
      have e2 : q = r := by
        rw [← hj2]
        simp
      rw [ei, e2, pk_us]
/-- who wakes next: the waiting one with an end that is least, the least number among equals -/
def mp_ns (st xw : Nat → Int32) : Nat → Int32
  | 0 => -1
  | n + 1 => if st n = 2 ∧ xw n ≠ -1 ∧ (mp_ns st xw n = -1 ∨ xw n < xw (mp_ns st xw n).toNatClampNeg) then nI n else mp_ns st xw n
theorem mp_ns_t {st xw : Nat → Int32} {n : Nat} (h : st n = 2 ∧ xw n ≠ -1 ∧ (mp_ns st xw n = -1 ∨ xw n < xw (mp_ns st xw n).toNatClampNeg)) : mp_ns st xw (n + 1) = nI n := if_pos h
theorem mp_ns_f {st xw : Nat → Int32} {n : Nat} (h : ¬ (st n = 2 ∧ xw n ≠ -1 ∧ (mp_ns st xw n = -1 ∨ xw n < xw (mp_ns st xw n).toNatClampNeg))) : mp_ns st xw (n + 1) = mp_ns st xw n := if_neg h
theorem mp_ns_i (st xw : Nat → Int32) : ∀ n, n ≤ 8 → (mp_ns st xw n = -1 ∧ ∀ b, b < n → ¬ (st b = 2 ∧ xw b ≠ -1)) ∨ ∃ b, b < n ∧ mp_ns st xw n = nI b ∧ st b = 2 ∧ xw b ≠ -1 := by
  intro n
  induction n with
  | zero => intro _; exact Or.inl ⟨rfl, fun b hb => absurd hb (by omega)⟩
  | succ n ih =>
    intro hn
    by_cases h : st n = 2 ∧ xw n ≠ -1 ∧ (mp_ns st xw n = -1 ∨ xw n < xw (mp_ns st xw n).toNatClampNeg)
    · exact Or.inr ⟨n, by omega, mp_ns_t h, h.1, h.2.1⟩
    · rw [mp_ns_f h]
      rcases ih (by omega) with ⟨e, w⟩ | ⟨b, hb, e, w⟩
      · refine Or.inl ⟨e, fun b hb => ?_⟩
        by_cases z : b = n
        · subst z
          intro w'
          exact h ⟨w'.1, w'.2, Or.inl e⟩
        · exact w b (by omega)
      · exact Or.inr ⟨b, by omega, e, w⟩
end
section
section
variable {dl xc tc tm xn md lo en qn yc yn : Int32} {nt : Int64} {dO dA dB xo xa xb xl st xr rg xv pl tr xk xm wt xw xt xi mc xe xz ti yo ya yb yl cu ag yv yr yt yi yk ym li ye qu yd ys yz : Nat → Int32} {tk : Nat → Int64} {run i p : Nat} {T C : Int} {G : Nat → Int32 → Prop}
theorem mp_nn {x : Int32} (h : 0 ≤ x.toInt) : ∃ j : Nat, j < 2 ^ 31 ∧ x = nI j ∧ x.toInt = (j : Int) := by
  obtain ⟨j, hj, e⟩ := nI_of (x := x) (by
    rw [Int32.lt_iff_toInt_lt, show (0 : Int32).toInt = 0 from by decide]
    omega)
  exact ⟨j, hj, e, by rw [e, nI_toInt hj]⟩
theorem mp_15 : (15 : Int32).toBitVec.toNat = 2 ^ 4 - 1 := by decide
theorem mp_7 : (7 : Int32).toBitVec.toNat = 2 ^ 3 - 1 := by decide
theorem mp_3 : (3 : Int32).toBitVec.toNat = 2 ^ 2 - 1 := by decide
theorem mp_tell_R {x : Int32} (h : (mp_D dl dO dA dB ∧ mp_C xo xa xb xl yo ya yb yl cu ∧ mp_V st xv yv xl cu ∧ mp_P st pl ∧ mp_S st ∧ mp_M st mc xt xi yt yi ∧ mp_K st xk yk ∧ mp_K st xm ym ∧ mp_W st xw li ye tm ∧ mp_T tm tc ti T ∧ mp_Q st tk nt run qu qn ∧ mp_E st xr yr ∧ mp_Z i st xr xe xz xc yd ys yz yc ∧ mp_F st nt C ∧ mp_G G st xv yz)) (ht : tc.toInt + 1 ≤ tm.toInt) (hT1 : T < 1900000000) : (mp_D dl dO dA dB ∧ mp_C xo xa xb xl yo ya yb yl cu ∧ mp_V st xv yv xl cu ∧ mp_P st pl ∧ mp_S st ∧ mp_M st mc xt xi yt yi ∧ mp_K st xk yk ∧ mp_K st xm ym ∧ mp_W st xw li ye tm ∧ mp_T tm (tc + 1) (upd ti (tc &&& 15).toNatClampNeg x) T ∧ mp_Q st tk nt run qu qn ∧ mp_E st xr yr ∧ mp_Z i st xr xe xz xc yd ys yz yc ∧ mp_F st nt C ∧ mp_G G st xv yz) := by
  obtain ⟨hD, hC, hV, hP, hS, hM, hK, hm, hW, hT, hQ, hE, hZ, hF, hG⟩ := h
  obtain ⟨a, b, c, d, e⟩ := hT
  have e1 := mp_t1 c (by omega)
  refine ⟨hD, hC, hV, hP, hS, hM, hK, hm, hW, ⟨a, b, by omega, by omega, fun j hj w => ?_⟩, hQ, hE, hZ, hF, hG⟩
  obtain ⟨t, ht2, rfl, et⟩ := mp_nn c
  rw [e1, et] at w
  rw [pk_andN (by omega) 4 mp_15, nI_clamp (by have := Nat.mod_lt t (show 0 < 2 ^ 4 by decide); omega)]
  have h16 : t % 2 ^ 4 ≠ j := by
    have : (2 : Nat) ^ 4 = 16 := rfl
    rw [this]
    omega
  rw [pk_un (Ne.symm h16)]
  exact e j hj (by omega)
theorem mp_K_R {xk' yk' xm' ym' : Nat → Int32} (h : (mp_D dl dO dA dB ∧ mp_C xo xa xb xl yo ya yb yl cu ∧ mp_V st xv yv xl cu ∧ mp_P st pl ∧ mp_S st ∧ mp_M st mc xt xi yt yi ∧ mp_K st xk yk ∧ mp_K st xm ym ∧ mp_W st xw li ye tm ∧ mp_T tm tc ti T ∧ mp_Q st tk nt run qu qn ∧ mp_E st xr yr ∧ mp_Z i st xr xe xz xc yd ys yz yc ∧ mp_F st nt C ∧ mp_G G st xv yz)) (h1 : mp_K st xk' yk') (h2 : mp_K st xm' ym') : (mp_D dl dO dA dB ∧ mp_C xo xa xb xl yo ya yb yl cu ∧ mp_V st xv yv xl cu ∧ mp_P st pl ∧ mp_S st ∧ mp_M st mc xt xi yt yi ∧ mp_K st xk' yk' ∧ mp_K st xm' ym' ∧ mp_W st xw li ye tm ∧ mp_T tm tc ti T ∧ mp_Q st tk nt run qu qn ∧ mp_E st xr yr ∧ mp_Z i st xr xe xz xc yd ys yz yc ∧ mp_F st nt C ∧ mp_G G st xv yz) := by
  obtain ⟨hD, hC, hV, hP, hS, hM, hK, hm, hW, hT, hQ, hE, hZ, hF, hG⟩ := h
  exact ⟨hD, hC, hV, hP, hS, hM, h1, h2, hW, hT, hQ, hE, hZ, hF, hG⟩
theorem mp_M_R {mc' xt' xi' yt' yi' : Nat → Int32} (h : (mp_D dl dO dA dB ∧ mp_C xo xa xb xl yo ya yb yl cu ∧ mp_V st xv yv xl cu ∧ mp_P st pl ∧ mp_S st ∧ mp_M st mc xt xi yt yi ∧ mp_K st xk yk ∧ mp_K st xm ym ∧ mp_W st xw li ye tm ∧ mp_T tm tc ti T ∧ mp_Q st tk nt run qu qn ∧ mp_E st xr yr ∧ mp_Z i st xr xe xz xc yd ys yz yc ∧ mp_F st nt C ∧ mp_G G st xv yz)) (h1 : mp_M st mc' xt' xi' yt' yi') : (mp_D dl dO dA dB ∧ mp_C xo xa xb xl yo ya yb yl cu ∧ mp_V st xv yv xl cu ∧ mp_P st pl ∧ mp_S st ∧ mp_M st mc' xt' xi' yt' yi' ∧ mp_K st xk yk ∧ mp_K st xm ym ∧ mp_W st xw li ye tm ∧ mp_T tm tc ti T ∧ mp_Q st tk nt run qu qn ∧ mp_E st xr yr ∧ mp_Z i st xr xe xz xc yd ys yz yc ∧ mp_F st nt C ∧ mp_G G st xv yz) := by
  obtain ⟨hD, hC, hV, hP, hS, hM, hK, hm, hW, hT, hQ, hE, hZ, hF, hG⟩ := h
  exact ⟨hD, hC, hV, hP, hS, h1, hK, hm, hW, hT, hQ, hE, hZ, hF, hG⟩
/-! numbers below a bound -/
theorem mp_below (x : Int32) {n : Nat} (hn : n < 2 ^ 31) : (∃ j, j < n ∧ x = nI j) ∨ (¬ (∃ j, j < n ∧ x = nI j) ∧ (x < 0 ∨ (¬ x < 0 ∧ nI n ≤ x))) := by
  rcases pk_ix x hn with h | h | h
  · refine Or.inr ⟨fun ⟨j, hj, e⟩ => ?_, Or.inl h⟩
    rw [e] at h
    exact nI_pos (by omega) h
  · refine Or.inr ⟨fun ⟨j, hj, e⟩ => ?_, Or.inr ⟨fun z => ?_, h⟩⟩
    · rw [e] at h
      exact nI_ge hj hn h
    · rw [Int32.lt_iff_toInt_lt, show (0 : Int32).toInt = 0 from by decide] at z
      rw [Int32.le_iff_toInt_le, nI_toInt hn] at h
      omega
  · exact Or.inl h
theorem mp_al_of (hS : mp_S st) (hp : p < 8) : (mp_al st p ∧ (st p = 1 ∨ (st p ≠ 1 ∧ st p = 2))) ∨ (¬ mp_al st p ∧ (st p = 0 ∨ st p = 3) ∧ st p ≠ 1 ∧ st p ≠ 2) := by
  unfold mp_al
  rcases hS p hp with h | h | h | h <;> rw [h] <;> decide
/-- the queue is empty just when none is READY -/
theorem mp_Q_head (h : mp_Q st tk nt 8 qu qn) : (qn = 0 ∧ ∀ q, q < 8 → st q ≠ 1) ∨ ∃ p n, p < 8 ∧ st p = 1 ∧ qu 0 = nI p ∧ qn = nI (n + 1) ∧ n < 8 := by
  obtain ⟨L, e, hq, hm, hs, hl, h2⟩ := h
  have h8 : ∀ q, q ∈ L → q < 8 := fun q z => ((hm q).mp z).1
  have hlen := mp_len8' (mp_nd hs) h8
  cases L with
  | nil => exact Or.inl ⟨e, fun q hq' z => absurd ((hm q).mpr ⟨hq', z, by omega⟩) List.not_mem_nil⟩
  | cons a L =>
    have w := (hm a).mp List.mem_cons_self
    exact Or.inr ⟨a, L.length, w.1, w.2.1, hq 0 a rfl, e, by
      have : (a :: L).length = L.length + 1 := rfl
      omega⟩
end
end
section
section
variable {dl xc tc tm xn md lo en qn yc yn : Int32} {nt : Int64} {dO dA dB xo xa xb xl st xr rg xv pl tr xk xm wt xw xt xi mc xe xz ti yo ya yb yl cu ag yv yr yt yi yk ym li ye qu yd ys yz : Nat → Int32} {tk : Nat → Int64} {run i p : Nat} {T C : Int} {G : Nat → Int32 → Prop}
theorem mp_x2 (p : Nat) : nI p * 2 = nI (2 * p) := by rw [Nat.mul_comm]; exact pk_mul p 2
theorem mp_x4 (p : Nat) : nI p * 4 = nI (4 * p) := by rw [Nat.mul_comm]; exact pk_mul p 4
theorem mp_x12 (p : Nat) : nI p * 12 = nI (12 * p) := by rw [Nat.mul_comm]; exact pk_mul p 12
theorem mp_x24 (p : Nat) : nI p * 24 = nI (24 * p) := by rw [Nat.mul_comm]; exact pk_mul p 24
theorem mp_2x (p : Nat) : 2 * nI p = nI (2 * p) := pk_mul 2 p
theorem mp_4x (p : Nat) : 4 * nI p = nI (4 * p) := pk_mul 4 p
theorem mp_8x (p : Nat) : 8 * nI p = nI (8 * p) := pk_mul 8 p
theorem mp_12x (p : Nat) : 12 * nI p = nI (12 * p) := pk_mul 12 p
theorem mp_24x (p : Nat) : 24 * nI p = nI (24 * p) := pk_mul 24 p
theorem mp_n8 {b : Nat} (h : b < 2 ^ 31) : (8 : Int32) ≤ nI b ↔ 8 ≤ b := nI_leI (a := 8) (by omega) h
theorem mp_n4 {b : Nat} (h : b < 2 ^ 31) : (4 : Int32) ≤ nI b ↔ 4 ≤ b := nI_leI (a := 4) (by omega) h
theorem mp_n12 {b : Nat} (h : b < 2 ^ 31) : (12 : Int32) ≤ nI b ↔ 12 ≤ b := nI_leI (a := 12) (by omega) h
theorem mp_n11 {b : Nat} (h : b < 2 ^ 31) : (11 : Int32) ≤ nI b ↔ 11 ≤ b := nI_leI (a := 11) (by omega) h
theorem mp_n24 {b : Nat} (h : b < 2 ^ 31) : (24 : Int32) ≤ nI b ↔ 24 ≤ b := nI_leI (a := 24) (by omega) h
/-! is it below -/
def mp_out (x : Int32) (n : Nat) : Prop := x < 0 ∨ (¬ x < 0 ∧ nI n ≤ x)
theorem mp_bel (x : Int32) {n : Nat} (hn : n < 2 ^ 31) : (∃ j, j < n ∧ x = nI j) ∨ (mp_out x n ∧ ∀ j, j < n → x ≠ nI j) := by
  rcases mp_below x hn with h | ⟨h1, h2⟩
  · exact Or.inl h
  · exact Or.inr ⟨h2, fun j hj e => h1 ⟨j, hj, e⟩⟩
theorem mx_bel_t {post : Int32 → Prop} {j n : Nat} (hj : j < n) (hn : n < 2 ^ 31) (h : post 1) : wpX_isBelow post (nI j) (nI n) := br_f (nI_pos (by omega)) (br_f (nI_ge hj hn) h)
theorem mx_bel_f {post : Int32 → Prop} {x : Int32} {n : Nat} (hx : mp_out x n) (h : post 0) : wpX_isBelow post x (nI n) := by
  rcases hx with hx | ⟨hx, hy⟩
  · exact br_t hx h
  · exact br_f hx (br_t hy h)
theorem my_bel_t {post : Int32 → Prop} {j n : Nat} (hj : j < n) (hn : n < 2 ^ 31) (h : post 1) : wpY_among post (dl, qn, yc, tm, tc, yn, md, lo, en, yo, ya, yb, yl, cu, ag, dO, dA, dB, st, rg, pl, yv, yr, tr, yt, yi, mc, yk, ym, wt, li, ye, qu, yd, ys, yz, ti) (nI j) (nI n) := br_f (nI_pos (by omega)) (br_f (nI_ge hj hn) h)
theorem my_bel_f {post : Int32 → Prop} {x : Int32} {n : Nat} (hx : mp_out x n) (h : post 0) : wpY_among post (dl, qn, yc, tm, tc, yn, md, lo, en, yo, ya, yb, yl, cu, ag, dO, dA, dB, st, rg, pl, yv, yr, tr, yt, yi, mc, yk, ym, wt, li, ye, qu, yd, ys, yz, ti) x (nI n) := by
  rcases hx with hx | ⟨hx, hy⟩
  · exact br_t hx h
  · exact br_f hx (br_t hy h)
/-! alive -/
def mp_dead (st : Nat → Int32) (x : Int32) : Prop := mp_out x 8 ∨ ∃ p, p < 8 ∧ x = nI p ∧ st p ≠ 1 ∧ st p ≠ 2
theorem mp_alx (hS : mp_S st) (x : Int32) : (∃ p, p < 8 ∧ x = nI p ∧ mp_al st p) ∨ (mp_dead st x ∧ ∀ p, p < 8 → x = nI p → ¬ mp_al st p) := by
  rcases mp_bel x (n := 8) (by omega) with ⟨p, hp, e⟩ | ⟨h, h2⟩
  · rcases mp_al_of hS hp with ⟨ha, _⟩ | ⟨ha, _, h1, h2⟩
    · exact Or.inl ⟨p, hp, e, ha⟩
    · refine Or.inr ⟨Or.inr ⟨p, hp, e, h1, h2⟩, fun q hq eq => ?_⟩
      have : p = q := by
        rw [e, nI_eq (by omega) (by omega)] at eq
        exact eq
      exact this ▸ ha
  · exact Or.inr ⟨Or.inl h, fun q hq eq => absurd eq (h2 q hq)⟩
theorem mp_deadp (hp : p < 8) (h : ¬ mp_al st p) : mp_dead st (nI p) := Or.inr ⟨p, hp, rfl, fun z => h (Or.inl z), fun z => h (Or.inr z)⟩
theorem mx_al_t {post : Int32 → Prop} (hp : p < 8) (ha : mp_al st p) (h : post 1) : wpX_isAlive post (dl, nt, xc, tc, tm, xn, md, lo, en, dO, dA, dB, xo, xa, xb, xl, st, xr, rg, xv, pl, tr, xk, xm, wt, xw, xt, xi, mc, tk, xe, xz, ti) (nI p) := by
  unfold wpX_isAlive
  dsimp only
  have c := nI_clamp (n := p) (by omega)
  have I := vp_in_nI (n := p) (N := 8) hp (by omega)
  refine mx_bel_t (n := 8) hp (by omega) (br_f (by decide) (And.intro I ?_))
  rw [c]
  rcases ha with ha | ha
  · exact br_t ha h
  · exact br_f (by rw [ha]; decide) ⟨I, br_t ha h⟩
theorem mx_al_f {post : Int32 → Prop} {x : Int32} (hx : mp_dead st x) (h : post 0) : wpX_isAlive post (dl, nt, xc, tc, tm, xn, md, lo, en, dO, dA, dB, xo, xa, xb, xl, st, xr, rg, xv, pl, tr, xk, xm, wt, xw, xt, xi, mc, tk, xe, xz, ti) x := by
  unfold wpX_isAlive
  dsimp only
  rcases hx with hx | ⟨p, hp, rfl, h1, h2⟩
  · exact mx_bel_f (n := 8) hx (br_t rfl h)
  · have c := nI_clamp (n := p) (by omega)
    have I := vp_in_nI (n := p) (N := 8) hp (by omega)
    refine mx_bel_t (n := 8) hp (by omega) (br_f (by decide) (And.intro I ?_))
    rw [c]
    exact br_f h1 ⟨I, br_f h2 h⟩
theorem my_al_t {post : Int32 → Prop} (hp : p < 8) (ha : mp_al st p) (h : post 1) : wpY_alive post (dl, qn, yc, tm, tc, yn, md, lo, en, yo, ya, yb, yl, cu, ag, dO, dA, dB, st, rg, pl, yv, yr, tr, yt, yi, mc, yk, ym, wt, li, ye, qu, yd, ys, yz, ti) (nI p) := by
  unfold wpY_alive
  dsimp only
  have c := nI_clamp (n := p) (by omega)
  have I := vp_in_nI (n := p) (N := 8) hp (by omega)
  refine my_bel_t (n := 8) hp (by omega) (br_f (by decide) (And.intro I ?_))
  rw [c]
  rcases ha with ha | ha
  · exact br_t ha h
  · exact br_f (by rw [ha]; decide) ⟨I, br_t ha h⟩
theorem my_al_f {post : Int32 → Prop} {x : Int32} (hx : mp_dead st x) (h : post 0) : wpY_alive post (dl, qn, yc, tm, tc, yn, md, lo, en, yo, ya, yb, yl, cu, ag, dO, dA, dB, st, rg, pl, yv, yr, tr, yt, yi, mc, yk, ym, wt, li, ye, qu, yd, ys, yz, ti) x := by
  unfold wpY_alive
  dsimp only
  rcases hx with hx | ⟨p, hp, rfl, h1, h2⟩
  · exact my_bel_f (n := 8) hx (br_t rfl h)
  · have c := nI_clamp (n := p) (by omega)
    have I := vp_in_nI (n := p) (N := 8) hp (by omega)
    refine my_bel_t (n := 8) hp (by omega) (br_f (by decide) (And.intro I ?_))
    rw [c]
    exact br_f h1 ⟨I, br_f h2 h⟩
/-! to the back of the queue; marking -/
theorem mx_back {post : SX → Prop} (hp : p < 8) (h : post (dl, nt + 1, xc, tc, tm, xn, md, lo, en, dO, dA, dB, xo, xa, xb, xl, upd st p 1, xr, rg, xv, pl, tr, xk, xm, wt, xw, xt, xi, mc, vp_updL tk p nt, xe, xz, ti)) : wpX_goToBack post (dl, nt, xc, tc, tm, xn, md, lo, en, dO, dA, dB, xo, xa, xb, xl, st, xr, rg, xv, pl, tr, xk, xm, wt, xw, xt, xi, mc, tk, xe, xz, ti) (nI p) := by
  have c := nI_clamp (n := p) (by omega)
  have I := vp_in_nI (n := p) (N := 8) hp (by omega)
  unfold wpX_goToBack
  simp only [c, I, forall_eq, true_implies, false_implies, not_true_eq_false, not_false_eq_true, and_true, true_and]
  exact h
theorem my_enq {post : SY → Prop} {n : Nat} (hp : p < 8) (hn : n < 8) (h : post (dl, nI (n + 1), yc, tm, tc, yn, md, lo, en, yo, ya, yb, yl, cu, ag, dO, dA, dB, upd st p 1, rg, pl, yv, yr, tr, yt, yi, mc, yk, ym, wt, li, ye, upd qu n (nI p), yd, ys, yz, ti)) : wpY_enqueue post (dl, nI n, yc, tm, tc, yn, md, lo, en, yo, ya, yb, yl, cu, ag, dO, dA, dB, st, rg, pl, yv, yr, tr, yt, yi, mc, yk, ym, wt, li, ye, qu, yd, ys, yz, ti) (nI p) := by
  have c := nI_clamp (n := p) (by omega)
  have c2 := nI_clamp (n := n) (by omega)
  have I := vp_in_nI (n := p) (N := 8) hp (by omega)
  have I2 := vp_in_nI (n := n) (N := 8) hn (by omega)
  unfold wpY_enqueue
  simp only [c, c2, I, I2, nI_1, forall_eq, true_implies, false_implies, not_true_eq_false, not_false_eq_true, and_true, true_and]
  exact h
theorem mp_b1n : vp_nar .boolean 1 = 1 := by decide
theorem mp_b0n : vp_nar .boolean 0 = 0 := by decide
theorem mx_mark {post : SX → Prop} {reason : Int32} {d : Nat} (hp : p < 8) (hd : d < 8) (hz : xz p = 0) (h : post (dl, nt, nI (d + 1), tc, tm, xn, md, lo, en, dO, dA, dB, xo, xa, xb, xl, st, upd xr p reason, rg, xv, pl, tr, xk, xm, wt, xw, xt, xi, mc, tk, upd xe d (nI p), upd xz p 1, ti)) : wpX_markToEnd post (dl, nt, nI d, tc, tm, xn, md, lo, en, dO, dA, dB, xo, xa, xb, xl, st, xr, rg, xv, pl, tr, xk, xm, wt, xw, xt, xi, mc, tk, xe, xz, ti) (nI p) reason := by
  have c := nI_clamp (n := p) (by omega)
  have c2 := nI_clamp (n := d) (by omega)
  have I := vp_in_nI (n := p) (N := 8) hp (by omega)
  have I2 := vp_in_nI (n := d) (N := 8) hd (by omega)
  have l : nI d < 8 := nI_lt (b := 8) hd (by omega)
  unfold wpX_markToEnd
  simp only [c, c2, I, I2, nI_1, hz, l, mp_b1n, forall_eq, true_implies, false_implies, not_true_eq_false, not_false_eq_true, and_true, true_and]
  exact h
theorem mx_mark0 {post : SX → Prop} {reason : Int32} (hp : p < 8) (hz : xz p ≠ 0) (h : post (dl, nt, xc, tc, tm, xn, md, lo, en, dO, dA, dB, xo, xa, xb, xl, st, xr, rg, xv, pl, tr, xk, xm, wt, xw, xt, xi, mc, tk, xe, xz, ti)) : wpX_markToEnd post (dl, nt, xc, tc, tm, xn, md, lo, en, dO, dA, dB, xo, xa, xb, xl, st, xr, rg, xv, pl, tr, xk, xm, wt, xw, xt, xi, mc, tk, xe, xz, ti) (nI p) reason := by
  have c := nI_clamp (n := p) (by omega)
  have I := vp_in_nI (n := p) (N := 8) hp (by omega)
  unfold wpX_markToEnd
  simp only [c, I, hz, forall_eq, true_implies, false_implies, not_true_eq_false, not_false_eq_true, and_true, true_and]
  exact h
theorem my_doom {post : SY → Prop} {reason : Int32} {d : Nat} (hp : p < 8) (hd : d < 8) (hz : yz p = 0) (h : post (dl, qn, nI (d + 1), tm, tc, yn, md, lo, en, yo, ya, yb, yl, cu, ag, dO, dA, dB, st, rg, pl, yv, yr, tr, yt, yi, mc, yk, ym, wt, li, ye, qu, upd yd d (nI p), upd ys d reason, upd yz p 1, ti)) : wpY_doom post (dl, qn, nI d, tm, tc, yn, md, lo, en, yo, ya, yb, yl, cu, ag, dO, dA, dB, st, rg, pl, yv, yr, tr, yt, yi, mc, yk, ym, wt, li, ye, qu, yd, ys, yz, ti) (nI p) reason := by
  have c := nI_clamp (n := p) (by omega)
  have c2 := nI_clamp (n := d) (by omega)
  have I := vp_in_nI (n := p) (N := 8) hp (by omega)
  have I2 := vp_in_nI (n := d) (N := 8) hd (by omega)
  unfold wpY_doom
  simp only [c, c2, I, I2, nI_1, hz, mp_b1n, forall_eq, true_implies, false_implies, not_true_eq_false, not_false_eq_true, and_true, true_and]
  exact h
theorem my_doom0 {post : SY → Prop} {reason : Int32} (hp : p < 8) (hz : yz p ≠ 0) (h : post (dl, qn, yc, tm, tc, yn, md, lo, en, yo, ya, yb, yl, cu, ag, dO, dA, dB, st, rg, pl, yv, yr, tr, yt, yi, mc, yk, ym, wt, li, ye, qu, yd, ys, yz, ti)) : wpY_doom post (dl, qn, yc, tm, tc, yn, md, lo, en, yo, ya, yb, yl, cu, ag, dO, dA, dB, st, rg, pl, yv, yr, tr, yt, yi, mc, yk, ym, wt, li, ye, qu, yd, ys, yz, ti) (nI p) reason := by
  have c := nI_clamp (n := p) (by omega)
  have I := vp_in_nI (n := p) (N := 8) hp (by omega)
  unfold wpY_doom
  simp only [c, I, hz, forall_eq, true_implies, false_implies, not_true_eq_false, not_false_eq_true, and_true, true_and]
  exact h
end
end
section
section
variable {dl xc tc tm xn md lo en qn yc yn : Int32} {nt : Int64} {dO dA dB xo xa xb xl st xr rg xv pl tr xk xm wt xw xt xi mc xe xz ti yo ya yb yl cu ag yv yr yt yi yk ym li ye qu yd ys yz : Nat → Int32} {tk : Nat → Int64} {run i p : Nat} {T C : Int} {G : Nat → Int32 → Prop}
theorem mx_del0 {post : Int32 → SX → Prop} {tag v : Int32} (hp : p < 8) (hz : xz p ≠ 0) (h : post 0 (dl, nt, xc, tc, tm, xn, md, lo, en, dO, dA, dB, xo, xa, xb, xl, st, xr, rg, xv, pl, tr, xk, xm, wt, xw, xt, xi, mc, tk, xe, xz, ti)) : wpX_deliver post (dl, nt, xc, tc, tm, xn, md, lo, en, dO, dA, dB, xo, xa, xb, xl, st, xr, rg, xv, pl, tr, xk, xm, wt, xw, xt, xi, mc, tk, xe, xz, ti) (nI p) tag v := by
  have c := nI_clamp (n := p) (by omega)
  have I := vp_in_nI (n := p) (N := 8) hp (by omega)
  unfold wpX_deliver
  simp only [c, I, hz, forall_eq, true_implies, false_implies, not_true_eq_false, not_false_eq_true, and_true, true_and]
  exact h
theorem mp_Z_xz (hZ : mp_Z i st xr xe xz xc yd ys yz yc) (hp : p < 8) (ha : mp_al st p) : xz p ≠ 0 ↔ yz p ≠ 0 := by
  obtain ⟨d, _, _, _, _, _, _, _, _, l⟩ := hZ
  rw [l p hp]
  exact ⟨fun z => z.1, fun z => ⟨z, ha⟩⟩
theorem mp_deliver (h : (mp_D dl dO dA dB ∧ mp_C xo xa xb xl yo ya yb yl cu ∧ mp_V st xv yv xl cu ∧ mp_P st pl ∧ mp_S st ∧ mp_M st mc xt xi yt yi ∧ mp_K st xk yk ∧ mp_K st xm ym ∧ mp_W st xw li ye tm ∧ mp_T tm tc ti T ∧ mp_Q st tk nt run qu qn ∧ mp_E st xr yr ∧ mp_Z i st xr xe xz xc yd ys yz yc ∧ mp_F st nt C ∧ mp_G G st xv yz)) (hp : p < 8) (ha : mp_al st p) (tag v : Int32) : ∃ (r : Int32) (st' : Nat → Int32) (tk' : Nat → Int64) (nt' : Int64) (qu' : Nat → Int32) (qn' : Int32) (mc' xt' xi' yt' yi' : Nat → Int32) (lo' : Int32), (∀ post : Int32 → SX → Prop, post r (dl, nt', xc, tc, tm, xn, md, lo', en, dO, dA, dB, xo, xa, xb, xl, st', xr, rg, xv, pl, tr, xk, xm, wt, xw, xt', xi', mc', tk', xe, xz, ti) → wpX_deliver post (dl, nt, xc, tc, tm, xn, md, lo, en, dO, dA, dB, xo, xa, xb, xl, st, xr, rg, xv, pl, tr, xk, xm, wt, xw, xt, xi, mc, tk, xe, xz, ti) (nI p) tag v) ∧ (∀ post : Int32 → SY → Prop, post r (dl, qn', yc, tm, tc, yn, md, lo', en, yo, ya, yb, yl, cu, ag, dO, dA, dB, st', rg, pl, yv, yr, tr, yt', yi', mc', yk, ym, wt, li, ye, qu', yd, ys, yz, ti) → wpY_deliver post (dl, qn, yc, tm, tc, yn, md, lo, en, yo, ya, yb, yl, cu, ag, dO, dA, dB, st, rg, pl, yv, yr, tr, yt, yi, mc, yk, ym, wt, li, ye, qu, yd, ys, yz, ti) (nI p) tag v) ∧ (mp_D dl dO dA dB ∧ mp_C xo xa xb xl yo ya yb yl cu ∧ mp_V st' xv yv xl cu ∧ mp_P st' pl ∧ mp_S st' ∧ mp_M st' mc' xt' xi' yt' yi' ∧ mp_K st' xk yk ∧ mp_K st' xm ym ∧ mp_W st' xw li ye tm ∧ mp_T tm tc ti T ∧ mp_Q st' tk' nt' run qu' qn' ∧ mp_E st' xr yr ∧ mp_Z i st' xr xe xz xc yd ys yz yc ∧ mp_F st' nt' C ∧ mp_G G st' xv yz) ∧ (∀ q, q < 8 → (mp_al st' q ↔ mp_al st q)) ∧ (r = 0 ∨ r = 1) := by
  have hh := h
  obtain ⟨hD, hC, hV, hP, hS, hM, hK, hm, hW, hT, hQ, hE, hZ, hF, hG⟩ := h
  have c := nI_clamp (n := p) (by omega)
  have I := vp_in_nI (n := p) (N := 8) hp (by omega)
  have hxz := mp_Z_xz hZ hp ha
  by_cases hz : yz p = 0
  · have hx : xz p = 0 := by
      by_cases w : xz p = 0
      · exact w
      · exact absurd hz (hxz.mp w)
    obtain ⟨n, hn, en', h0, hk⟩ := hM p hp
    by_cases h12 : n = 12
    · subst h12
      have l : ¬ nI 12 < 12 := by decide
      have l2 : nI 12 = 12 := by decide
      refine ⟨0, st, tk, nt, qu, qn, mc, xt, xi, yt, yi, lo + 1, fun post hq => ?_, fun post hq => ?_, hh, fun q _ => Iff.rfl, Or.inl rfl⟩
      · unfold wpX_deliver
        simp only [c, I, hx, en', l, forall_eq, true_implies, false_implies, not_true_eq_false, not_false_eq_true, and_true, true_and]
        exact hq
      · unfold wpY_deliver
        simp only [c, I, hz, en', l2, forall_eq, true_implies, false_implies, not_true_eq_false, not_false_eq_true, and_true, true_and]
        exact hq
    · have hn' : n < 12 := by omega
      have l : nI n < 12 := nI_lt (b := 12) hn' (by omega)
      have l2 : ¬ nI n = 12 := fun z => h12 ((nI_eq (b := 12) (by omega) (by omega)).mp z)
      have c3 := nI_clamp (n := 12 * p + n) (by omega)
      have I3 := vp_in_nI (n := 12 * p + n) (N := 96) (by omega) (by omega)
      have h1 := mp_app_R (tag := tag) (v := v) hh hp ha hn' en'
      by_cases h2 : st p = 2
      · by_cases hb : ((wt p >>> (tag &&& 31)) &&& 1) = 1
        · obtain ⟨m, hm8, rfl, h3⟩ := mp_wake_R h1 hp h2
          refine ⟨1, _, _, _, _, _, _, _, _, _, _, lo, fun post hq => ?_, fun post hq => ?_, h3, fun q _ => mp_al_k (Or.inl rfl) ha, Or.inr rfl⟩
          · unfold wpX_deliver
            simp only [c, I, hx, en', l, mp_x12, nI_add, nI_1, c3, I3, h2, wpX_hasBit, hb, forall_eq, true_implies, false_implies, not_true_eq_false, not_false_eq_true, and_true, true_and]
            exact br_f (by decide) (mx_back hp hq)
          · unfold wpY_deliver
            simp only [c, I, hz, en', l2, mp_12x, nI_add, nI_1, c3, I3, h2, hb, forall_eq, true_implies, false_implies, not_true_eq_false, not_false_eq_true, and_true, true_and]
            exact my_enq hp hm8 hq
        · refine ⟨1, st, tk, nt, qu, qn, _, _, _, _, _, lo, fun post hq => ?_, fun post hq => ?_, h1, fun q _ => Iff.rfl, Or.inr rfl⟩
          · unfold wpX_deliver
            simp only [c, I, hx, en', l, mp_x12, nI_add, nI_1, c3, I3, h2, wpX_hasBit, hb, forall_eq, true_implies, false_implies, not_true_eq_false, not_false_eq_true, and_true, true_and]
            exact hq
          · unfold wpY_deliver
            simp only [c, I, hz, en', l2, mp_12x, nI_add, nI_1, c3, I3, h2, hb, forall_eq, true_implies, false_implies, not_true_eq_false, not_false_eq_true, and_true, true_and]
            exact hq
      · refine ⟨1, st, tk, nt, qu, qn, _, _, _, _, _, lo, fun post hq => ?_, fun post hq => ?_, h1, fun q _ => Iff.rfl, Or.inr rfl⟩
        · unfold wpX_deliver
          simp only [c, I, hx, en', l, mp_x12, nI_add, nI_1, c3, I3, h2, forall_eq, true_implies, false_implies, not_true_eq_false, not_false_eq_true, and_true, true_and]
          exact hq
        · unfold wpY_deliver
          simp only [c, I, hz, en', l2, mp_12x, nI_add, nI_1, c3, I3, h2, forall_eq, true_implies, false_implies, not_true_eq_false, not_false_eq_true, and_true, true_and]
          exact hq
  · have hx : xz p ≠ 0 := hxz.mpr hz
    refine ⟨0, st, tk, nt, qu, qn, mc, xt, xi, yt, yi, lo, fun post hq => mx_del0 hp hx hq, fun post hq => ?_, hh, fun q _ => Iff.rfl, Or.inl rfl⟩
    unfold wpY_deliver
    simp only [c, I, hz, forall_eq, true_implies, false_implies, not_true_eq_false, not_false_eq_true, and_true, true_and]
    exact hq
theorem mp_signal (h : (mp_D dl dO dA dB ∧ mp_C xo xa xb xl yo ya yb yl cu ∧ mp_V st xv yv xl cu ∧ mp_P st pl ∧ mp_S st ∧ mp_M st mc xt xi yt yi ∧ mp_K st xk yk ∧ mp_K st xm ym ∧ mp_W st xw li ye tm ∧ mp_T tm tc ti T ∧ mp_Q st tk nt run qu qn ∧ mp_E st xr yr ∧ mp_Z i st xr xe xz xc yd ys yz yc ∧ mp_F st nt C ∧ mp_G G st xv yz)) (hp : p < 8) (ha : mp_al st p) (fr reason : Int32) : ∃ (st' : Nat → Int32) (tk' : Nat → Int64) (nt' : Int64) (qu' : Nat → Int32) (qn' : Int32) (mc' xt' xi' yt' yi' : Nat → Int32) (lo' : Int32) (xr' xe' xz' : Nat → Int32) (xc' : Int32) (yd' ys' yz' : Nat → Int32) (yc' : Int32), (∀ post : SX → Prop, post (dl, nt', xc', tc, tm, xn, md, lo', en, dO, dA, dB, xo, xa, xb, xl, st', xr', rg, xv, pl, tr, xk, xm, wt, xw, xt', xi', mc', tk', xe', xz', ti) → wX_giveSignal_21 post fr (nI p) reason dl nt xc tc tm xn md lo en dO dA dB xo xa xb xl st xr rg xv pl tr xk xm wt xw xt xi mc tk xe xz ti) ∧ (∀ post : SY → Prop, post (dl, qn', yc', tm, tc, yn, md, lo', en, yo, ya, yb, yl, cu, ag, dO, dA, dB, st', rg, pl, yv, yr, tr, yt', yi', mc', yk, ym, wt, li, ye, qu', yd', ys', yz', ti) → wpY_signal post (dl, qn, yc, tm, tc, yn, md, lo, en, yo, ya, yb, yl, cu, ag, dO, dA, dB, st, rg, pl, yv, yr, tr, yt, yi, mc, yk, ym, wt, li, ye, qu, yd, ys, yz, ti) fr (nI p) reason) ∧ (mp_D dl dO dA dB ∧ mp_C xo xa xb xl yo ya yb yl cu ∧ mp_V st' xv yv xl cu ∧ mp_P st' pl ∧ mp_S st' ∧ mp_M st' mc' xt' xi' yt' yi' ∧ mp_K st' xk yk ∧ mp_K st' xm ym ∧ mp_W st' xw li ye tm ∧ mp_T tm tc ti T ∧ mp_Q st' tk' nt' run qu' qn' ∧ mp_E st' xr' yr ∧ mp_Z i st' xr' xe' xz' xc' yd' ys' yz' yc' ∧ mp_F st' nt' C ∧ mp_G G st' xv yz') ∧ (∀ q, q < 8 → (mp_al st' q ↔ mp_al st q)) ∧ (∀ q, q < 8 → ¬ mp_al st q → xr' q = xr q) := by
  have hh := h
  obtain ⟨hD, hC, hV, hP, hS, hM, hK, hm, hW, hT, hQ, hE, hZ, hF, hG⟩ := h
  have c := nI_clamp (n := p) (by omega)
  have I := vp_in_nI (n := p) (N := 8) hp (by omega)
  have hxz := mp_Z_xz hZ hp ha
  by_cases hz : yz p = 0
  · have hx : xz p = 0 := by
      by_cases w : xz p = 0
      · exact w
      · exact absurd hz (hxz.mp w)
    by_cases ht : tr p = 0
    · by_cases h0 : reason = 0
      · refine ⟨st, tk, nt, qu, qn, mc, xt, xi, yt, yi, lo, xr, xe, xz, xc, yd, ys, yz, yc, fun post hq => ?_, fun post hq => ?_, hh, fun q _ => Iff.rfl, fun q _ _ => rfl⟩
        · unfold wX_giveSignal_21
          simp only [c, I, ht, h0, forall_eq, true_implies, false_implies, not_true_eq_false, not_false_eq_true, and_true, true_and]
          exact hq
        · unfold wpY_signal
          dsimp only
          refine my_al_t hp ha (br_f (by decide) ?_)
          simp only [c, I, hz, ht, h0, forall_eq, true_implies, false_implies, not_true_eq_false, not_false_eq_true, and_true, true_and]
          exact hq
      · obtain ⟨d, hd, rfl, rfl, h1⟩ := mp_doom_R (reason := reason) hh hp ha hz
        have h2 := mp_G_R h1 (G' := G) (fun q v z => z.1)
        refine ⟨st, tk, nt, qu, qn, mc, xt, xi, yt, yi, lo, _, _, _, _, _, _, _, _, fun post hq => ?_, fun post hq => ?_, h2, fun q _ => Iff.rfl, fun q _ hq => pk_un (fun z => by subst z; exact hq ha)⟩
        · unfold wX_giveSignal_21
          simp only [c, I, ht, h0, forall_eq, true_implies, false_implies, not_true_eq_false, not_false_eq_true, and_true, true_and]
          exact mx_mark hp hd hx hq
        · unfold wpY_signal
          dsimp only
          refine my_al_t hp ha (br_f (by decide) ?_)
          simp only [c, I, hz, ht, h0, forall_eq, true_implies, false_implies, not_true_eq_false, not_false_eq_true, and_true, true_and]
          exact my_doom hp hd hz hq
    · obtain ⟨r, st', tk', nt', qu', qn', mc', xt', xi', yt', yi', lo', hX, hY, hR, hal, hr⟩ := mp_deliver (dl := dl) (nt := nt) (xc := xc) (tc := tc) (tm := tm) (xn := xn) (md := md) (lo := lo) (en := en) (dO := dO) (dA := dA) (dB := dB) (xo := xo) (xa := xa) (xb := xb) (xl := xl) (st := st) (xr := xr) (rg := rg) (xv := xv) (pl := pl) (tr := tr) (xk := xk) (xm := xm) (wt := wt) (xw := xw) (xt := xt) (xi := xi) (mc := mc) (tk := tk) (xe := xe) (xz := xz) (ti := ti) (qn := qn) (yc := yc) (yn := yn) (yo := yo) (ya := ya) (yb := yb) (yl := yl) (cu := cu) (ag := ag) (yv := yv) (yr := yr) (yt := yt) (yi := yi) (yk := yk) (ym := ym) (li := li) (ye := ye) (qu := qu) (yd := yd) (ys := ys) (yz := yz) hh hp ha 6 (fr + 8 * reason)
      refine ⟨st', tk', nt', qu', qn', mc', xt', xi', yt', yi', lo', xr, xe, xz, xc, yd, ys, yz, yc, fun post hq => ?_, fun post hq => ?_, hR, hal, fun q _ _ => rfl⟩
      · unfold wX_giveSignal_21
        simp only [c, I, ht, forall_eq, true_implies, false_implies, not_true_eq_false, not_false_eq_true, and_true, true_and]
        exact hX _ hq
      · unfold wpY_signal
        dsimp only
        refine my_al_t hp ha (br_f (by decide) ?_)
        simp only [c, I, hz, ht, forall_eq, true_implies, false_implies, not_true_eq_false, not_false_eq_true, and_true, true_and]
        exact hY _ hq
  · have hx : xz p ≠ 0 := hxz.mpr hz
    refine ⟨st, tk, nt, qu, qn, mc, xt, xi, yt, yi, lo, xr, xe, xz, xc, yd, ys, yz, yc, fun post hq => ?_, fun post hq => ?_, hh, fun q _ => Iff.rfl, fun q _ _ => rfl⟩
    · unfold wX_giveSignal_21
      by_cases ht : tr p = 0
      · by_cases h0 : reason = 0
        · simp only [c, I, ht, h0, forall_eq, true_implies, false_implies, not_true_eq_false, not_false_eq_true, and_true, true_and]
          exact hq
        · simp only [c, I, ht, h0, forall_eq, true_implies, false_implies, not_true_eq_false, not_false_eq_true, and_true, true_and]
          exact mx_mark0 hp hx hq
      · simp only [c, I, ht, forall_eq, true_implies, false_implies, not_true_eq_false, not_false_eq_true, and_true, true_and]
        exact mx_del0 hp hx hq
    · unfold wpY_signal
      dsimp only
      refine my_al_t hp ha (br_f (by decide) ?_)
      simp only [c, I, hz, forall_eq, true_implies, false_implies, not_true_eq_false, not_false_eq_true, and_true, true_and]
      exact hq
end
end
section
section
variable {dl xc tc tm xn md lo en qn yc yn : Int32} {nt : Int64} {dO dA dB xo xa xb xl st xr rg xv pl tr xk xm wt xw xt xi mc xe xz ti yo ya yb yl cu ag yv yr yt yi yk ym li ye qu yd ys yz : Nat → Int32} {tk : Nat → Int64} {run i p : Nat} {T C : Int} {G : Nat → Int32 → Prop}
theorem mp_pos {d n : Nat} (h : d < n) : ∃ m, n = m + 1 := ⟨n - 1, by omega⟩
/-! X: who watches p -/
theorem mx_mons_l (hm : mp_K st xm ym) (hp : p < 8) : ∀ d q, q + d = 8 → ∀ a, mp_ac a (fun j => decide (ym (8 * j + p) ≠ 0)) q → ∃ w, mp_ac w (fun j => decide (ym (8 * j + p) ≠ 0)) 8 ∧ ∀ (post : Int32 → Prop) n, d < n → post w → wX_monitorsOn_4 post (nI p) dl nt xc tc tm xn md lo en dO dA dB xo xa xb xl st xr rg xv pl tr xk xm wt xw xt xi mc tk xe xz ti n a (nI q) := by
  intro d
  induction d with
  | zero =>
    intro q hq a ha
    have e : q = 8 := by omega
    subst e
    refine ⟨a, ha, fun post n hn h => ?_⟩
    obtain ⟨m, rfl⟩ := mp_pos hn
    exact br_t (nI_le (b := 8) (Nat.le_refl 8) (by omega)) h
  | succ d ih =>
    intro q hq a ha
    have h8 : ¬ (8 : Int32) ≤ nI q := nI_ge (b := 8) (by omega) (by omega)
    have c := nI_clamp (n := q) (by omega)
    have I := vp_in_nI (n := q) (N := 8) (by omega) (by omega)
    have hb := mp_hbg (hm q (by omega)).1 hp
    by_cases hg : ym (8 * q + p) ≠ 0
    · obtain ⟨w, hw, hX⟩ := ih (q + 1) (by omega) _ (mp_ac_t ha (by omega) (decide_eq_true hg))
      refine ⟨w, hw, fun post n hn h => ?_⟩
      obtain ⟨m, rfl⟩ := mp_pos hn
      refine br_f h8 (And.intro I ?_)
      rw [c]
      exact br_t (hb.mpr (decide_eq_true hg)) (br_f (by decide) (nm_e (nm_r (nI_1 q) (hX post m (by omega) h))))
    · obtain ⟨w, hw, hX⟩ := ih (q + 1) (by omega) a (mp_ac_f ha (decide_eq_false hg))
      refine ⟨w, hw, fun post n hn h => ?_⟩
      obtain ⟨m, rfl⟩ := mp_pos hn
      refine br_f h8 (And.intro I ?_)
      rw [c]
      exact br_f (fun z => hg (of_decide_eq_true (hb.mp z))) (br_t rfl (nm_r (nI_1 q) (hX post m (by omega) h)))
theorem mx_mons (hm : mp_K st xm ym) (hp : p < 8) : ∃ w, mp_ac w (fun j => decide (ym (8 * j + p) ≠ 0)) 8 ∧ ∀ (post : Int32 → Prop), post w → wpX_monitorsOn post (dl, nt, xc, tc, tm, xn, md, lo, en, dO, dA, dB, xo, xa, xb, xl, st, xr, rg, xv, pl, tr, xk, xm, wt, xw, xt, xi, mc, tk, xe, xz, ti) (nI p) := by
  obtain ⟨w, hw, hX⟩ := mx_mons_l (dl := dl) (nt := nt) (xc := xc) (tc := tc) (tm := tm) (xn := xn) (md := md) (lo := lo) (en := en) (dO := dO) (dA := dA) (dB := dB) (xo := xo) (xa := xa) (xb := xb) (xl := xl) (st := st) (xr := xr) (rg := rg) (xv := xv) (pl := pl) (tr := tr) (xk := xk) (xm := xm) (wt := wt) (xw := xw) (xt := xt) (xi := xi) (mc := mc) (tk := tk) (xe := xe) (xz := xz) (ti := ti) (ym := ym) hm hp 8 0 rfl 0 (mp_ac_0 _)
  exact ⟨w, hw, fun post h => by unfold wpX_monitorsOn; exact ⟨9, hX post 9 (by omega) h⟩⟩
/-! X: close -/
theorem mx_close_l (hp : p < 8) : ∀ d q, q + d = 8 → ∀ xk xm : Nat → Int32, ∃ xk' xm' : Nat → Int32, (∀ j, xk' j = if q ≤ j ∧ j < 8 then xk j &&& (((1 : Int32) <<< (nI p &&& 31)) ^^^ (-1)) else xk j) ∧ (∀ j, xm' j = if q ≤ j ∧ j < 8 then xm j &&& (((1 : Int32) <<< (nI p &&& 31)) ^^^ (-1)) else xm j) ∧ ∀ (post : SX → Prop) n, d < n → post (dl, nt, xc, tc, tm, xn, md, lo, en + 1, dO, dA, dB, xo, xa, xb, xl, st, xr, rg, xv, pl, tr, xk', xm', wt, xw, xt, xi, mc, tk, xe, xz, ti) → wX_close_37 post (nI p) dl nt xc tc tm xn md lo en n (nI q) dO dA dB xo xa xb xl st xr rg xv pl tr xk xm wt xw xt xi mc tk xe xz ti := by
  intro d
  induction d with
  | zero =>
    intro q hq xk xm
    have e : q = 8 := by omega
    subst e
    refine ⟨xk, xm, fun j => by rw [if_neg (by omega)], fun j => by rw [if_neg (by omega)], fun post n hn h => ?_⟩
    obtain ⟨m, rfl⟩ := mp_pos hn
    exact br_t (nI_le (b := 8) (Nat.le_refl 8) (by omega)) (nm_e h)
  | succ d ih =>
    intro q hq xk xm
    have h8 : ¬ (8 : Int32) ≤ nI q := nI_ge (b := 8) (by omega) (by omega)
    have c := nI_clamp (n := q) (by omega)
    have I := vp_in_nI (n := q) (N := 8) (by omega) (by omega)
    obtain ⟨xk', xm', e1, e2, hX⟩ := ih (q + 1) (by omega) (upd xk q (xk q &&& (((1 : Int32) <<< (nI p &&& 31)) ^^^ (-1)))) (upd xm q (xm q &&& (((1 : Int32) <<< (nI p &&& 31)) ^^^ (-1))))
    have key : ∀ (f g : Nat → Int32), (∀ j, g j = if q + 1 ≤ j ∧ j < 8 then upd f q (f q &&& (((1 : Int32) <<< (nI p &&& 31)) ^^^ (-1))) j &&& (((1 : Int32) <<< (nI p &&& 31)) ^^^ (-1)) else upd f q (f q &&& (((1 : Int32) <<< (nI p &&& 31)) ^^^ (-1))) j) → ∀ j, g j = if q ≤ j ∧ j < 8 then f j &&& (((1 : Int32) <<< (nI p &&& 31)) ^^^ (-1)) else f j := by
      intro f g hg j
      rw [hg j]
      by_cases w : j = q
      · subst w
        rw [if_neg (by omega), pk_us, if_pos (by omega)]
      · rw [pk_un w]
        by_cases w2 : q ≤ j ∧ j < 8
        · rw [if_pos w2, if_pos (by omega)]
        · rw [if_neg w2, if_neg (by omega)]
    refine ⟨xk', xm', key xk xk' e1, key xm xm' e2, fun post n hn h => ?_⟩
    obtain ⟨m, rfl⟩ := mp_pos hn
    refine br_f h8 (And.intro I ?_)
    rw [c]
    exact ⟨I, nm_e ⟨I, I, nm_e (nm_r (nI_1 q) (hX post m (by omega) h))⟩⟩
theorem mx_close (hp : p < 8) : ∃ xk' xm' : Nat → Int32, (∀ q, q < 8 → q ≠ p → xk' q = xk q &&& (((1 : Int32) <<< (nI p &&& 31)) ^^^ (-1))) ∧ xk' p = 0 ∧ (∀ q, q < 8 → q ≠ p → xm' q = xm q &&& (((1 : Int32) <<< (nI p &&& 31)) ^^^ (-1))) ∧ xm' p = 0 ∧ ∀ (post : SX → Prop), post (dl, nt, xc, tc, tm, xn, md, lo, en + 1, dO, dA, dB, xo, xa, xb, xl, upd st p 3, xr, rg, xv, pl, tr, xk', xm', wt, xw, xt, xi, upd mc p 0, tk, xe, upd xz p 0, ti) → wpX_close post (dl, nt, xc, tc, tm, xn, md, lo, en, dO, dA, dB, xo, xa, xb, xl, st, xr, rg, xv, pl, tr, xk, xm, wt, xw, xt, xi, mc, tk, xe, xz, ti) (nI p) := by
  have c := nI_clamp (n := p) (by omega)
  have I := vp_in_nI (n := p) (N := 8) hp (by omega)
  obtain ⟨xk', xm', e1, e2, hX⟩ := mx_close_l (p := p) (dl := dl) (nt := nt) (xc := xc) (tc := tc) (tm := tm) (xn := xn) (md := md) (lo := lo) (en := en) (dO := dO) (dA := dA) (dB := dB) (xo := xo) (xa := xa) (xb := xb) (xl := xl) (st := upd st p 3) (xr := xr) (rg := rg) (xv := xv) (pl := pl) (tr := tr) (wt := wt) (xw := xw) (xt := xt) (xi := xi) (mc := upd mc p 0) (tk := tk) (xe := xe) (xz := upd xz p 0) (ti := ti) hp 8 0 rfl (upd xk p 0) (upd xm p 0)
  have z0 : (0 : Int32) &&& (((1 : Int32) <<< (nI p &&& 31)) ^^^ (-1)) = 0 := by
    apply b_ext
    intro i hi
    rw [b_and, b_0]
    rfl
  refine ⟨xk', xm', fun q hq w => by rw [e1 q, if_pos (by omega), pk_un w], by rw [e1 p, if_pos (by omega), pk_us]; exact z0, fun q hq w => by rw [e2 q, if_pos (by omega), pk_un w], by rw [e2 p, if_pos (by omega), pk_us]; exact z0, fun post h => ?_⟩
  unfold wpX_close
  simp only [c, I, mp_b0n, forall_eq, true_implies, false_implies, not_true_eq_false, not_false_eq_true, and_true, true_and]
  exact ⟨9, hX post 9 (by omega) h⟩
/-! Y: leave -/
theorem my_lv_l {L : List Nat} (hl8 : L.length ≤ 8) (h8 : ∀ q, q ∈ L → q < 8) (hp : p < 8) : ∀ d k, k + d = L.length → ∀ qu : Nat → Int32, mp_li qu L p k → ∃ qu' : Nat → Int32, (∀ i q, (mp_fl p L)[i]? = some q → qu' i = nI q) ∧ ∀ (post : SY → Prop) n, d < n → post (dl, nI (mp_fl p L).length, yc, tm, tc, yn, md, lo, en, yo, ya, yb, yl, cu, ag, dO, dA, dB, st, rg, pl, yv, yr, tr, yt, yi, mc, yk, ym, wt, li, ye, qu', yd, ys, yz, ti) → wY_leave_4 post (nI p) dl (nI L.length) yc tm tc yn md lo en n (nI (mp_fl p (L.take k)).length) (nI k) yo ya yb yl cu ag dO dA dB st rg pl yv yr tr yt yi mc yk ym wt li ye qu yd ys yz ti := by
  intro d
  induction d with
  | zero =>
    intro k hk qu hl
    have e : k = L.length := by omega
    subst e
    have e2 : L.take L.length = L := List.take_length
    rw [e2]
    refine ⟨qu, fun i q w => hl.2 i q (by rw [e2]; exact w), fun post n hn h => ?_⟩
    obtain ⟨m, rfl⟩ := mp_pos hn
    exact br_t (nI_le (Nat.le_refl _) (by omega)) h
  | succ d ih =>
    intro k hk qu hl
    have hkl : k < L.length := by omega
    have hr : L[k]? = some L[k] := List.getElem?_eq_getElem hkl
    generalize L[k] = r at hr
    have hr8 : r < 8 := h8 r (List.mem_iff_getElem?.mpr ⟨k, hr⟩)
    have hle := mp_fl_len (p := p) (k := k) (L := L) (by omega)
    have hN : ¬ nI L.length ≤ nI k := nI_ge hkl (by omega)
    have c := nI_clamp (n := k) (by omega)
    have I := vp_in_nI (n := k) (N := 8) (by omega) (by omega)
    have eq : qu k = nI r := hl.1 k r (Nat.le_refl k) hr
    by_cases w : r = p
    · subst w
      obtain ⟨qu', e1, hY⟩ := ih (k + 1) (by omega) qu (mp_li_e hl hr)
      have e3 : mp_fl r (L.take (k + 1)) = mp_fl r (L.take k) := by rw [mp_fl_s hr, if_pos rfl]
      rw [e3] at hY
      refine ⟨qu', e1, fun post n hn h => ?_⟩
      obtain ⟨m, rfl⟩ := mp_pos hn
      refine br_f hN (And.intro I ?_)
      rw [c, eq]
      exact br_t rfl (nm_r (nI_1 k) (hY post m (by omega) h))
    · obtain ⟨hl2, el⟩ := mp_li_n hl hr w
      obtain ⟨qu', e1, hY⟩ := ih (k + 1) (by omega) _ hl2
      rw [el] at hY
      have hne : ¬ nI r = nI p := fun z => w ((nI_eq (by omega) (by omega)).mp z)
      have c2 := nI_clamp (n := (mp_fl p (L.take k)).length) (by omega)
      have I2 := vp_in_nI (n := (mp_fl p (L.take k)).length) (N := 8) (by omega) (by omega)
      refine ⟨qu', e1, fun post n hn h => ?_⟩
      obtain ⟨m, rfl⟩ := mp_pos hn
      refine br_f hN (And.intro I ?_)
      rw [c, eq, c2]
      exact br_f hne ⟨I, I2, nm_e (nm_r (nI_1 _) (nm_r (nI_1 k) (hY post m (by omega) h)))⟩
theorem my_leave {st0 : Nat → Int32} (hQ : mp_Q st0 tk nt run qu qn) (hp : p < 8) : ∃ (qu' : Nat → Int32) (qn' : Int32), mp_lv qu qu' qn qn' p ∧ ∀ (post : SY → Prop), post (dl, qn', yc, tm, tc, yn, md, lo, en, yo, ya, yb, yl, cu, ag, dO, dA, dB, st, rg, pl, yv, yr, tr, yt, yi, mc, yk, ym, wt, li, ye, qu', yd, ys, yz, ti) → wpY_leave post (dl, qn, yc, tm, tc, yn, md, lo, en, yo, ya, yb, yl, cu, ag, dO, dA, dB, st, rg, pl, yv, yr, tr, yt, yi, mc, yk, ym, wt, li, ye, qu, yd, ys, yz, ti) (nI p) := by
  obtain ⟨L, e, hq, hm, hs, hl, h2⟩ := hQ
  have h8 : ∀ q, q ∈ L → q < 8 := fun q z => ((hm q).mp z).1
  have hlen := mp_len8' (mp_nd hs) h8
  subst e
  obtain ⟨qu', e1, hY⟩ := my_lv_l (dl := dl) (yc := yc) (tm := tm) (tc := tc) (yn := yn) (md := md) (lo := lo) (en := en) (yo := yo) (ya := ya) (yb := yb) (yl := yl) (cu := cu) (ag := ag) (dO := dO) (dA := dA) (dB := dB) (st := st) (rg := rg) (pl := pl) (yv := yv) (yr := yr) (tr := tr) (yt := yt) (yi := yi) (mc := mc) (yk := yk) (ym := ym) (wt := wt) (li := li) (ye := ye) (yd := yd) (ys := ys) (yz := yz) (ti := ti) (p := p) hlen h8 hp L.length 0 (by omega) qu (mp_li_0 hq)
  exact ⟨qu', _, mp_lv_of rfl (by omega) h8 hq e1, fun post h => by unfold wpY_leave; exact ⟨L.length + 1, hY post _ (by omega) h⟩⟩
end
end
section
section
variable {dl xc tc tm xn md lo en qn yc yn : Int32} {nt : Int64} {dO dA dB xo xa xb xl st xr rg xv pl tr xk xm wt xw xt xi mc xe xz ti yo ya yb yl cu ag yv yr yt yi yk ym li ye qu yd ys yz : Nat → Int32} {tk : Nat → Int64} {run i p : Nat} {T C : Int} {G : Nat → Int32 → Prop}
/-! the watchers get their messages -/
theorem mp_delloop {f : Nat} {lk reason : Int32} {g : Nat → Bool} (hf : f < 8) (hlk : mp_ac lk g 8) (er : xr f = reason) : ∀ d q, q + d = 8 → ∀ (st : Nat → Int32) (tk : Nat → Int64) (nt : Int64) (qu : Nat → Int32) (qn : Int32) (mc xt xi yt yi : Nat → Int32) (lo : Int32), (mp_D dl dO dA dB ∧ mp_C xo xa xb xl yo ya yb yl cu ∧ mp_V st xv yv xl cu ∧ mp_P st pl ∧ mp_S st ∧ mp_M st mc xt xi yt yi ∧ mp_K st xk yk ∧ mp_K st xm ym ∧ mp_W st xw li ye tm ∧ mp_T tm tc ti T ∧ mp_Q st tk nt run qu qn ∧ mp_E st xr yr ∧ mp_Z i st xr xe xz xc yd ys yz yc ∧ mp_F st nt C ∧ mp_G G st xv yz) → (∀ j, j < 8 → g j = true → mp_al st j) → ∃ (st' : Nat → Int32) (tk' : Nat → Int64) (nt' : Int64) (qu' : Nat → Int32) (qn' : Int32) (mc' xt' xi' yt' yi' : Nat → Int32) (lo' : Int32),
    (∀ post J x1 n, d < n → J (x1 + 1) dl nt' xc tc tm xn md lo' en dO dA dB xo xa xb xl st' xr rg xv pl tr xk xm wt xw xt' xi' mc' tk' xe xz ti → wX_finishEndings_87 post J x1 (nI f) lk n (nI q) dl nt xc tc tm xn md lo en dO dA dB xo xa xb xl st xr rg xv pl tr xk xm wt xw xt xi mc tk xe xz ti) ∧ (∀ post n, d < n → post (dl, qn', yc, tm, tc, yn, md, lo', en, yo, ya, yb, yl, cu, ag, dO, dA, dB, st', rg, pl, yv, yr, tr, yt', yi', mc', yk, ym, wt, li, ye, qu', yd, ys, yz, ti) → wY_end_192 post (nI f) reason lk n (nI q) dl qn yc tm tc yn md lo en yo ya yb yl cu ag dO dA dB st rg pl yv yr tr yt yi mc yk ym wt li ye qu yd ys yz ti) ∧ (mp_D dl dO dA dB ∧ mp_C xo xa xb xl yo ya yb yl cu ∧ mp_V st' xv yv xl cu ∧ mp_P st' pl ∧ mp_S st' ∧ mp_M st' mc' xt' xi' yt' yi' ∧ mp_K st' xk yk ∧ mp_K st' xm ym ∧ mp_W st' xw li ye tm ∧ mp_T tm tc ti T ∧ mp_Q st' tk' nt' run qu' qn' ∧ mp_E st' xr yr ∧ mp_Z i st' xr xe xz xc yd ys yz yc ∧ mp_F st' nt' C ∧ mp_G G st' xv yz) ∧ (∀ q, q < 8 → (mp_al st' q ↔ mp_al st q)) := by
  intro d
  induction d with
  | zero =>
    intro q hq st tk nt qu qn mc xt xi yt yi lo h hg
    have e : q = 8 := by omega
    subst e
    refine ⟨st, tk, nt, qu, qn, mc, xt, xi, yt, yi, lo, fun post J x1 n hn hJ => ?_, fun post n hn hJ => ?_, h, fun q _ => Iff.rfl⟩
    · obtain ⟨m, rfl⟩ := mp_pos hn
      exact br_t (nI_le (b := 8) (Nat.le_refl 8) (by omega)) (nm_e hJ)
    · obtain ⟨m, rfl⟩ := mp_pos hn
      exact br_t (nI_le (b := 8) (Nat.le_refl 8) (by omega)) hJ
  | succ d ih =>
    intro q hq st tk nt qu qn mc xt xi yt yi lo h hg
    have h8 : ¬ (8 : Int32) ≤ nI q := nI_ge (b := 8) (by omega) (by omega)
    have cf := nI_clamp (n := f) (by omega)
    have If := vp_in_nI (n := f) (N := 8) hf (by omega)
    have hb := mp_hbg hlk (q := q) (by omega)
    by_cases hgq : g q = true
    · have ha := hg q (by omega) hgq
      obtain ⟨r, st', tk', nt', qu', qn', mc', xt', xi', yt', yi', lo', hX, hY, hR, hal, hr⟩ := mp_deliver (dl := dl) (nt := nt) (xc := xc) (tc := tc) (tm := tm) (xn := xn) (md := md) (lo := lo) (en := en) (dO := dO) (dA := dA) (dB := dB) (xo := xo) (xa := xa) (xb := xb) (xl := xl) (st := st) (xr := xr) (rg := rg) (xv := xv) (pl := pl) (tr := tr) (xk := xk) (xm := xm) (wt := wt) (xw := xw) (xt := xt) (xi := xi) (mc := mc) (tk := tk) (xe := xe) (xz := xz) (ti := ti) (qn := qn) (yc := yc) (yn := yn) (yo := yo) (ya := ya) (yb := yb) (yl := yl) (cu := cu) (ag := ag) (yv := yv) (yr := yr) (yt := yt) (yi := yi) (yk := yk) (ym := ym) (li := li) (ye := ye) (qu := qu) (yd := yd) (ys := ys) (yz := yz) h (p := q) (by omega) ha 7 (nI f + 8 * reason)
      obtain ⟨st'', tk'', nt'', qu'', qn'', mc'', xt'', xi'', yt'', yi'', lo'', hX2, hY2, hR2, hal2⟩ := ih (q + 1) (by omega) st' tk' nt' qu' qn' mc' xt' xi' yt' yi' lo' hR (fun j hj w => (hal j hj).mpr (hg j hj w))
      refine ⟨st'', tk'', nt'', qu'', qn'', mc'', xt'', xi'', yt'', yi'', lo'', fun post J x1 n hn hJ => ?_, fun post n hn hJ => ?_, hR2, fun j hj => (hal2 j hj).trans (hal j hj)⟩
      · obtain ⟨m, rfl⟩ := mp_pos hn
        refine br_f h8 (br_t (hb.mpr hgq) (br_f (by decide) (And.intro If ?_)))
        rw [cf, er]
        exact hX _ (nm_r (nI_1 q) (hX2 post J x1 m (by omega) hJ))
      · obtain ⟨m, rfl⟩ := mp_pos hn
        exact br_f h8 (br_t (hb.mpr hgq) (my_al_t (by omega) ha (br_f (by decide) (hY _ (nm_r (nI_1 q) (hY2 post m (by omega) hJ))))))
    · obtain ⟨st'', tk'', nt'', qu'', qn'', mc'', xt'', xi'', yt'', yi'', lo'', hX2, hY2, hR2, hal2⟩ := ih (q + 1) (by omega) st tk nt qu qn mc xt xi yt yi lo h hg
      refine ⟨st'', tk'', nt'', qu'', qn'', mc'', xt'', xi'', yt'', yi'', lo'', fun post J x1 n hn hJ => ?_, fun post n hn hJ => ?_, hR2, hal2⟩
      · obtain ⟨m, rfl⟩ := mp_pos hn
        exact br_f h8 (br_f (fun z => hgq (hb.mp z)) (br_t rfl (nm_r (nI_1 q) (hX2 post J x1 m (by omega) hJ))))
      · obtain ⟨m, rfl⟩ := mp_pos hn
        exact br_f h8 (br_f (fun z => hgq (hb.mp z)) (nm_r (nI_1 q) (hY2 post m (by omega) hJ)))
/-! the linked get their signals -/
theorem mp_sigloop {f : Nat} {lk reason : Int32} {g : Nat → Bool} (hf : f < 8) (hlk : mp_ac lk g 8) : ∀ d q, q + d = 8 → ∀ (st : Nat → Int32) (tk : Nat → Int64) (nt : Int64) (qu : Nat → Int32) (qn : Int32) (mc xt xi yt yi : Nat → Int32) (lo : Int32) (xr xe xz : Nat → Int32) (xc : Int32) (yd ys yz : Nat → Int32) (yc : Int32), (mp_D dl dO dA dB ∧ mp_C xo xa xb xl yo ya yb yl cu ∧ mp_V st xv yv xl cu ∧ mp_P st pl ∧ mp_S st ∧ mp_M st mc xt xi yt yi ∧ mp_K st xk yk ∧ mp_K st xm ym ∧ mp_W st xw li ye tm ∧ mp_T tm tc ti T ∧ mp_Q st tk nt run qu qn ∧ mp_E st xr yr ∧ mp_Z i st xr xe xz xc yd ys yz yc ∧ mp_F st nt C ∧ mp_G G st xv yz) → (∀ j, j < 8 → g j = true → mp_al st j) → ¬ mp_al st f → xr f = reason → ∃ (st' : Nat → Int32) (tk' : Nat → Int64) (nt' : Int64) (qu' : Nat → Int32) (qn' : Int32) (mc' xt' xi' yt' yi' : Nat → Int32) (lo' : Int32) (xr' xe' xz' : Nat → Int32) (xc' : Int32) (yd' ys' yz' : Nat → Int32) (yc' : Int32),
    (∀ post J x1 x4 n, d < n → (∃ m, wX_finishEndings_87 post J x1 (nI f) x4 m 0 dl nt' xc' tc tm xn md lo' en dO dA dB xo xa xb xl st' xr' rg xv pl tr xk xm wt xw xt' xi' mc' tk' xe' xz' ti) → wX_finishEndings_48 post J x1 (nI f) lk x4 n (nI q) dl nt xc tc tm xn md lo en dO dA dB xo xa xb xl st xr rg xv pl tr xk xm wt xw xt xi mc tk xe xz ti) ∧ (∀ post x4 n, d < n → (∃ m, wY_end_192 post (nI f) reason x4 m 0 dl qn' yc' tm tc yn md lo' en yo ya yb yl cu ag dO dA dB st' rg pl yv yr tr yt' yi' mc' yk ym wt li ye qu' yd' ys' yz' ti) → wY_end_158 post (nI f) reason lk x4 n (nI q) dl qn yc tm tc yn md lo en yo ya yb yl cu ag dO dA dB st rg pl yv yr tr yt yi mc yk ym wt li ye qu yd ys yz ti) ∧ (mp_D dl dO dA dB ∧ mp_C xo xa xb xl yo ya yb yl cu ∧ mp_V st' xv yv xl cu ∧ mp_P st' pl ∧ mp_S st' ∧ mp_M st' mc' xt' xi' yt' yi' ∧ mp_K st' xk yk ∧ mp_K st' xm ym ∧ mp_W st' xw li ye tm ∧ mp_T tm tc ti T ∧ mp_Q st' tk' nt' run qu' qn' ∧ mp_E st' xr' yr ∧ mp_Z i st' xr' xe' xz' xc' yd' ys' yz' yc' ∧ mp_F st' nt' C ∧ mp_G G st' xv yz') ∧ (∀ q, q < 8 → (mp_al st' q ↔ mp_al st q)) ∧ xr' f = reason := by
  intro d
  induction d with
  | zero =>
    intro q hq st tk nt qu qn mc xt xi yt yi lo xr xe xz xc yd ys yz yc h hg hd er
    have e : q = 8 := by omega
    subst e
    refine ⟨st, tk, nt, qu, qn, mc, xt, xi, yt, yi, lo, xr, xe, xz, xc, yd, ys, yz, yc, fun post J x1 x4 n hn hJ => ?_, fun post x4 n hn hJ => ?_, h, fun q _ => Iff.rfl, er⟩
    · obtain ⟨m, rfl⟩ := mp_pos hn
      exact br_t (nI_le (b := 8) (Nat.le_refl 8) (by omega)) hJ
    · obtain ⟨m, rfl⟩ := mp_pos hn
      exact br_t (nI_le (b := 8) (Nat.le_refl 8) (by omega)) hJ
  | succ d ih =>
    intro q hq st tk nt qu qn mc xt xi yt yi lo xr xe xz xc yd ys yz yc h hg hd er
    have h8 : ¬ (8 : Int32) ≤ nI q := nI_ge (b := 8) (by omega) (by omega)
    have cf := nI_clamp (n := f) (by omega)
    have If := vp_in_nI (n := f) (N := 8) hf (by omega)
    have hb := mp_hbg hlk (q := q) (by omega)
    by_cases hgq : g q = true
    · have ha := hg q (by omega) hgq
      obtain ⟨st', tk', nt', qu', qn', mc', xt', xi', yt', yi', lo', xr', xe', xz', xc', yd', ys', yz', yc', hX, hY, hR, hal, hxr⟩ := mp_signal (dl := dl) (nt := nt) (xc := xc) (tc := tc) (tm := tm) (xn := xn) (md := md) (lo := lo) (en := en) (dO := dO) (dA := dA) (dB := dB) (xo := xo) (xa := xa) (xb := xb) (xl := xl) (st := st) (xr := xr) (rg := rg) (xv := xv) (pl := pl) (tr := tr) (xk := xk) (xm := xm) (wt := wt) (xw := xw) (xt := xt) (xi := xi) (mc := mc) (tk := tk) (xe := xe) (xz := xz) (ti := ti) (qn := qn) (yc := yc) (yn := yn) (yo := yo) (ya := ya) (yb := yb) (yl := yl) (cu := cu) (ag := ag) (yv := yv) (yr := yr) (yt := yt) (yi := yi) (yk := yk) (ym := ym) (li := li) (ye := ye) (qu := qu) (yd := yd) (ys := ys) (yz := yz) h (p := q) (by omega) ha (nI f) reason
      obtain ⟨st'', tk'', nt'', qu'', qn'', mc'', xt'', xi'', yt'', yi'', lo'', xr'', xe'', xz'', xc'', yd'', ys'', yz'', yc'', hX2, hY2, hR2, hal2, er2⟩ := ih (q + 1) (by omega) st' tk' nt' qu' qn' mc' xt' xi' yt' yi' lo' xr' xe' xz' xc' yd' ys' yz' yc' hR (fun j hj w => (hal j hj).mpr (hg j hj w)) (fun w => hd ((hal f hf).mp w)) ((hxr f hf hd).trans er)
      refine ⟨st'', tk'', nt'', qu'', qn'', mc'', xt'', xi'', yt'', yi'', lo'', xr'', xe'', xz'', xc'', yd'', ys'', yz'', yc'', fun post J x1 x4 n hn hJ => ?_, fun post x4 n hn hJ => ?_, hR2, fun j hj => (hal2 j hj).trans (hal j hj), er2⟩
      · obtain ⟨m, rfl⟩ := mp_pos hn
        refine br_f h8 (br_t (hb.mpr hgq) (br_f (by decide) (And.intro If ?_)))
        rw [cf, er]
        exact br_t rfl (hX _ (nm_r (nI_1 q) (hX2 post J x1 x4 m (by omega) hJ)))
      · obtain ⟨m, rfl⟩ := mp_pos hn
        exact br_f h8 (br_t (hb.mpr hgq) (hY _ (nm_r (nI_1 q) (hY2 post x4 m (by omega) hJ))))
    · obtain ⟨st'', tk'', nt'', qu'', qn'', mc'', xt'', xi'', yt'', yi'', lo'', xr'', xe'', xz'', xc'', yd'', ys'', yz'', yc'', hX2, hY2, hR2, hal2, er2⟩ := ih (q + 1) (by omega) st tk nt qu qn mc xt xi yt yi lo xr xe xz xc yd ys yz yc h hg hd er
      refine ⟨st'', tk'', nt'', qu'', qn'', mc'', xt'', xi'', yt'', yi'', lo'', xr'', xe'', xz'', xc'', yd'', ys'', yz'', yc'', fun post J x1 x4 n hn hJ => ?_, fun post x4 n hn hJ => ?_, hR2, hal2, er2⟩
      · obtain ⟨m, rfl⟩ := mp_pos hn
        exact br_f h8 (br_f (fun z => hgq (hb.mp z)) (br_t rfl (nm_r (nI_1 q) (hX2 post J x1 x4 m (by omega) hJ))))
      · obtain ⟨m, rfl⟩ := mp_pos hn
        exact br_f h8 (br_f (fun z => hgq (hb.mp z)) (nm_r (nI_1 q) (hY2 post x4 m (by omega) hJ)))
/-! Y: the ties are cut -/
theorem mp_cut {f : Nat → Int32} {q : Nat} (hp : p < 8) (hq : q < 8) {f' : Nat → Int32} (h : ∀ a b, a < 8 → b < 8 → f' (8 * a + b) = if (a = p ∧ q + 1 ≤ b) ∨ (b = p ∧ q + 1 ≤ a) then 0 else upd (upd f (8 * p + q) 0) (8 * q + p) 0 (8 * a + b)) : ∀ a b, a < 8 → b < 8 → f' (8 * a + b) = if (a = p ∧ q ≤ b) ∨ (b = p ∧ q ≤ a) then 0 else f (8 * a + b) := by
  intro a b ha hb
  rw [h a b ha hb]
  by_cases w : (a = p ∧ q + 1 ≤ b) ∨ (b = p ∧ q + 1 ≤ a)
  · rw [if_pos w, if_pos (by omega)]
  · rw [if_neg w]
    by_cases w1 : a = q ∧ b = p
    · rw [w1.1, w1.2, pk_us, if_pos (by omega)]
    · rw [pk_un (by omega)]
      by_cases w2 : a = p ∧ b = q
      · rw [w2.1, w2.2, pk_us, if_pos (by omega)]
      · rw [pk_un (by omega), if_neg (by omega)]
theorem my_end_l {reason : Int32} (hp : p < 8) : ∀ d q, q + d = 8 → ∀ (t e : Int32) (yk ym : Nat → Int32) (gt ge : Nat → Bool), mp_ac t gt q → mp_ac e ge q → (∀ j, q ≤ j → j < 8 → gt j = decide (yk (8 * p + j) ≠ 0) ∧ ge j = decide (ym (8 * j + p) ≠ 0)) → ∃ (t' e' : Int32) (yk' ym' : Nat → Int32),
    mp_ac t' gt 8 ∧ mp_ac e' ge 8 ∧ (∀ a b, a < 8 → b < 8 → yk' (8 * a + b) = if (a = p ∧ q ≤ b) ∨ (b = p ∧ q ≤ a) then 0 else yk (8 * a + b)) ∧ (∀ a b, a < 8 → b < 8 → ym' (8 * a + b) = if (a = p ∧ q ≤ b) ∨ (b = p ∧ q ≤ a) then 0 else ym (8 * a + b)) ∧
    ∀ (post : SY → Prop) n, d < n → wY_end_8 post (nI p) reason dl qn yc tm tc yn md lo en 1 t' e' (nI 8) yo ya yb yl cu ag dO dA dB st rg pl yv yr tr yt yi mc yk' ym' wt li ye qu yd ys yz ti → wY_end_8 post (nI p) reason dl qn yc tm tc yn md lo en n t e (nI q) yo ya yb yl cu ag dO dA dB st rg pl yv yr tr yt yi mc yk ym wt li ye qu yd ys yz ti := by
  intro d
  induction d with
  | zero =>
    intro q hq t e yk ym gt ge ht he hg
    have e8 : q = 8 := by omega
    subst e8
    refine ⟨t, e, yk, ym, ht, he, fun a b ha hb => by rw [if_neg (by omega)], fun a b ha hb => by rw [if_neg (by omega)], fun post n hn h => ?_⟩
    obtain ⟨m, rfl⟩ := mp_pos hn
    have h8 : (8 : Int32) ≤ nI 8 := nI_le (b := 8) (Nat.le_refl 8) (by omega)
    exact br_t h8 (h.1 h8)
  | succ d ih =>
    intro q hq t e yk ym gt ge ht he hg
    have h8 : ¬ (8 : Int32) ≤ nI q := nI_ge (b := 8) (by omega) (by omega)
    have a1 : 8 * nI p + nI q = nI (8 * p + q) := by rw [mp_8x, nI_add]
    have a2 : 8 * nI q + nI p = nI (8 * q + p) := by rw [mp_8x, nI_add]
    have c1 := nI_clamp (n := 8 * p + q) (by omega)
    have c2 := nI_clamp (n := 8 * q + p) (by omega)
    have I1 := vp_in_nI (n := 8 * p + q) (N := 64) (by omega) (by omega)
    have I2 := vp_in_nI (n := 8 * q + p) (N := 64) (by omega) (by omega)
    obtain ⟨g1, g2⟩ := hg q (Nat.le_refl q) (by omega)
    have hg' : ∀ j, q + 1 ≤ j → j < 8 → gt j = decide (upd (upd yk (8 * p + q) 0) (8 * q + p) 0 (8 * p + j) ≠ 0) ∧ ge j = decide (upd (upd ym (8 * p + q) 0) (8 * q + p) 0 (8 * j + p) ≠ 0) := fun j hj hj8 => by
      rw [pk_un (by omega), pk_un (by omega), pk_un (by omega), pk_un (by omega)]
      exact hg j (by omega) hj8
    have fin : ∀ (t1 e1 : Int32), mp_ac t1 gt (q + 1) → mp_ac e1 ge (q + 1) → ∃ (t' e' : Int32) (yk' ym' : Nat → Int32),
        mp_ac t' gt 8 ∧ mp_ac e' ge 8 ∧ (∀ a b, a < 8 → b < 8 → yk' (8 * a + b) = if (a = p ∧ q ≤ b) ∨ (b = p ∧ q ≤ a) then 0 else yk (8 * a + b)) ∧ (∀ a b, a < 8 → b < 8 → ym' (8 * a + b) = if (a = p ∧ q ≤ b) ∨ (b = p ∧ q ≤ a) then 0 else ym (8 * a + b)) ∧
        ∀ (post : SY → Prop) n, d < n → wY_end_8 post (nI p) reason dl qn yc tm tc yn md lo en 1 t' e' (nI 8) yo ya yb yl cu ag dO dA dB st rg pl yv yr tr yt yi mc yk' ym' wt li ye qu yd ys yz ti → wY_end_61 post (wY_end_8 post (nI p) reason dl qn yc tm tc yn md lo en n) (nI p) reason t1 e1 (nI q) dl qn yc tm tc yn md lo en yo ya yb yl cu ag dO dA dB st rg pl yv yr tr yt yi mc yk ym wt li ye qu yd ys yz ti := fun t1 e1 ht1 he1 => by
      obtain ⟨t', e', yk', ym', b1, b2, b3, b4, hY⟩ := ih (q + 1) (by omega) t1 e1 _ _ gt ge ht1 he1 hg'
      refine ⟨t', e', yk', ym', b1, b2, mp_cut hp (by omega) b3, mp_cut hp (by omega) b4, fun post n hn h => ?_⟩
      unfold wY_end_61
      rw [a1, a2, c1, c2, mp_b0n]
      exact ⟨I1, nm_e ⟨I2, nm_e ⟨I1, nm_e ⟨I2, nm_e (nm_r (nI_1 q) (hY post n hn h))⟩⟩⟩⟩
    have t1 : ∃ t1, mp_ac t1 gt (q + 1) ∧ ∀ (P : Int32 → Prop), P t1 → (yk (8 * p + q) = 0 → P t) ∧ (¬ yk (8 * p + q) = 0 → P (t ||| ((1 : Int32) <<< (nI q &&& 31)))) := by
      by_cases z : yk (8 * p + q) = 0
      · exact ⟨t, mp_ac_f ht (g1.trans (decide_eq_false (fun w => w z))), fun P hP => br_t z hP⟩
      · exact ⟨_, mp_ac_t ht (by omega) (g1.trans (decide_eq_true z)), fun P hP => br_f z hP⟩
    have e1 : ∃ e1, mp_ac e1 ge (q + 1) ∧ ∀ (P : Int32 → Prop), P e1 → (ym (8 * q + p) = 0 → P e) ∧ (¬ ym (8 * q + p) = 0 → P (e ||| ((1 : Int32) <<< (nI q &&& 31)))) := by
      by_cases z : ym (8 * q + p) = 0
      · exact ⟨e, mp_ac_f he (g2.trans (decide_eq_false (fun w => w z))), fun P hP => br_t z hP⟩
      · exact ⟨_, mp_ac_t he (by omega) (g2.trans (decide_eq_true z)), fun P hP => br_f z hP⟩
    obtain ⟨t1, ht1, hPt⟩ := t1
    obtain ⟨e1, he1, hPe⟩ := e1
    obtain ⟨t', e', yk', ym', b1, b2, b3, b4, hY⟩ := fin t1 e1 ht1 he1
    refine ⟨t', e', yk', ym', b1, b2, b3, b4, fun post n hn h => ?_⟩
    obtain ⟨m, rfl⟩ := mp_pos hn
    have w61 := hY post m (by omega) h
    have w37 : wY_end_37 post (wY_end_8 post (nI p) reason dl qn yc tm tc yn md lo en m) (nI p) reason t1 e (nI q) dl qn yc tm tc yn md lo en yo ya yb yl cu ag dO dA dB st rg pl yv yr tr yt yi mc yk ym wt li ye qu yd ys yz ti := by
      unfold wY_end_37
      rw [a2, c2]
      refine ⟨I2, ?_⟩
      have w := hPe (fun z => wY_end_61 post (wY_end_8 post (nI p) reason dl qn yc tm tc yn md lo en m) (nI p) reason t1 z (nI q) dl qn yc tm tc yn md lo en yo ya yb yl cu ag dO dA dB st rg pl yv yr tr yt yi mc yk ym wt li ye qu yd ys yz ti) w61
      exact ⟨w.1, fun z => nm_e (w.2 z)⟩
    refine br_f h8 ?_
    rw [a1, c1]
    refine ⟨I1, ?_⟩
    have w := hPt (fun z => wY_end_37 post (wY_end_8 post (nI p) reason dl qn yc tm tc yn md lo en m) (nI p) reason z e (nI q) dl qn yc tm tc yn md lo en yo ya yb yl cu ag dO dA dB st rg pl yv yr tr yt yi mc yk ym wt li ye qu yd ys yz ti) w37
    exact ⟨w.1, fun z => nm_e (w.2 z)⟩
end
end
section
section
variable {dl xc tc tm xn md lo en qn yc yn : Int32} {nt : Int64} {dO dA dB xo xa xb xl st xr rg xv pl tr xk xm wt xw xt xi mc xe xz ti yo ya yb yl cu ag yv yr yt yi yk ym li ye qu yd ys yz : Nat → Int32} {tk : Nat → Int64} {run i p : Nat} {T C : Int} {G : Nat → Int32 → Prop}
theorem mp_endstep (h : (mp_D dl dO dA dB ∧ mp_C xo xa xb xl yo ya yb yl cu ∧ mp_V st xv yv xl cu ∧ mp_P st pl ∧ mp_S st ∧ mp_M st mc xt xi yt yi ∧ mp_K st xk yk ∧ mp_K st xm ym ∧ mp_W st xw li ye tm ∧ mp_T tm tc ti T ∧ mp_Q st tk nt run qu qn ∧ mp_E st xr yr ∧ mp_Z i st xr xe xz xc yd ys yz yc ∧ mp_F st nt C ∧ mp_G G st xv yz)) (hi : xc ≠ nI i) : ∃ (st' : Nat → Int32) (tk' : Nat → Int64) (nt' : Int64) (qu' : Nat → Int32) (qn' : Int32) (mc' xt' xi' yt' yi' : Nat → Int32) (lo' : Int32) (xr' xe' xz' : Nat → Int32) (xc' : Int32) (yd' ys' yz' : Nat → Int32) (yc' : Int32) (xk' yk' xm' ym' yr' : Nat → Int32) (en' : Int32), (∀ (post : SX → Prop) n, wX_finishEndings_2 post n (nI (i + 1)) dl nt' xc' tc tm xn md lo' en' dO dA dB xo xa xb xl st' xr' rg xv pl tr xk' xm' wt xw xt' xi' mc' tk' xe' xz' ti → wX_finishEndings_2 post (n + 1) (nI i) dl nt xc tc tm xn md lo en dO dA dB xo xa xb xl st xr rg xv pl tr xk xm wt xw xt xi mc tk xe xz ti) ∧ (∀ (post : SY → Prop) n, wY_settle_2 post n (nI (i + 1)) dl qn' yc' tm tc yn md lo' en' yo ya yb yl cu ag dO dA dB st' rg pl yv yr' tr yt' yi' mc' yk' ym' wt li ye qu' yd' ys' yz' ti → wY_settle_2 post (n + 1) (nI i) dl qn yc tm tc yn md lo en yo ya yb yl cu ag dO dA dB st rg pl yv yr tr yt yi mc yk ym wt li ye qu yd ys yz ti) ∧ (mp_D dl dO dA dB ∧ mp_C xo xa xb xl yo ya yb yl cu ∧ mp_V st' xv yv xl cu ∧ mp_P st' pl ∧ mp_S st' ∧ mp_M st' mc' xt' xi' yt' yi' ∧ mp_K st' xk' yk' ∧ mp_K st' xm' ym' ∧ mp_W st' xw li ye tm ∧ mp_T tm tc ti T ∧ mp_Q st' tk' nt' run qu' qn' ∧ mp_E st' xr' yr' ∧ mp_Z (i + 1) st' xr' xe' xz' xc' yd' ys' yz' yc' ∧ mp_F st' nt' C ∧ mp_G G st' xv yz') := by
  have hh := h
  obtain ⟨hD, hC, hV, hP, hS, hM, hK, hm, hW, hT, hQ, hE, hZ, hF, hG⟩ := h
  obtain ⟨p, d, hp, hid, hd8, rfl, rfl, e1, e2, ha, e3, hstep⟩ := mp_end_R hh hi
  have ci := nI_clamp (n := i) (by omega)
  have Ii := vp_in_nI (n := i) (N := 8) (by omega) (by omega)
  have cp := nI_clamp (n := p) (by omega)
  have Ip := vp_in_nI (n := p) (N := 8) hp (by omega)
  obtain ⟨w, hw, hmons⟩ := mx_mons (dl := dl) (nt := nt) (xc := nI d) (tc := tc) (tm := tm) (xn := xn) (md := md) (lo := lo) (en := en) (dO := dO) (dA := dA) (dB := dB) (xo := xo) (xa := xa) (xb := xb) (xl := xl) (st := st) (xr := xr) (rg := rg) (xv := xv) (pl := pl) (tr := tr) (xk := xk) (xm := xm) (wt := wt) (xw := xw) (xt := xt) (xi := xi) (mc := mc) (tk := tk) (xe := xe) (xz := xz) (ti := ti) (ym := ym) hm hp
  obtain ⟨xk', xm', k1, k2, m1, m2, hclose⟩ := mx_close (dl := dl) (nt := nt) (xc := nI d) (tc := tc) (tm := tm) (xn := xn) (md := md) (lo := lo) (en := en) (dO := dO) (dA := dA) (dB := dB) (xo := xo) (xa := xa) (xb := xb) (xl := xl) (st := st) (xr := xr) (rg := rg) (xv := xv) (pl := pl) (tr := tr) (xk := xk) (xm := xm) (wt := wt) (xw := xw) (xt := xt) (xi := xi) (mc := mc) (tk := tk) (xe := xe) (xz := xz) (ti := ti) hp
  obtain ⟨t', e', yk', ym', b1, b2, b3, b4, hY8⟩ := my_end_l (reason := ys i) (dl := dl) (qn := qn) (yc := nI d) (tm := tm) (tc := tc) (yn := yn) (md := md) (lo := lo) (en := en) (yo := yo) (ya := ya) (yb := yb) (yl := yl) (cu := cu) (ag := ag) (dO := dO) (dA := dA) (dB := dB) (st := st) (rg := rg) (pl := pl) (yv := yv) (yr := yr) (tr := tr) (yt := yt) (yi := yi) (mc := mc) (wt := wt) (li := li) (ye := ye) (qu := qu) (yd := yd) (ys := ys) (yz := yz) (ti := ti) hp 8 0 rfl 0 0 yk ym (fun j => decide (yk (8 * p + j) ≠ 0)) (fun j => decide (ym (8 * j + p) ≠ 0)) (mp_ac_0 _) (mp_ac_0 _) (fun j _ _ => ⟨rfl, rfl⟩)
  have et : xk p = t' := mp_ac_u (hK p hp).1 b1
  have ee : w = e' := mp_ac_u hw b2
  subst et
  subst ee
  obtain ⟨qu', qn', hlv, hleave⟩ := my_leave (tk := tk) (nt := nt) (run := run) (dl := dl) (qn := qn) (yc := nI d) (tm := tm) (tc := tc) (yn := yn) (md := md) (lo := lo) (en := en) (yo := yo) (ya := ya) (yb := yb) (yl := yl) (cu := cu) (ag := ag) (dO := dO) (dA := dA) (dB := dB) (st := upd st p 3) (rg := rg) (pl := pl) (yv := yv) (yr := upd yr p (ys i)) (tr := tr) (yt := yt) (yi := yi) (mc := upd mc p 0) (yk := yk') (ym := ym') (wt := wt) (li := li) (ye := ye) (qu := qu) (yd := yd) (ys := ys) (yz := yz) (ti := ti) hQ hp
  have kk : ∀ (f f' : Nat → Int32), (∀ a b, a < 8 → b < 8 → f' (8 * a + b) = if (a = p ∧ 0 ≤ b) ∨ (b = p ∧ 0 ≤ a) then 0 else f (8 * a + b)) → ∀ a b, a < 8 → b < 8 → f' (8 * a + b) = if a = p ∨ b = p then 0 else f (8 * a + b) := by
    intro f f' hf a b ha hb
    rw [hf a b ha hb]
    by_cases z : a = p ∨ b = p
    · rw [if_pos (by omega), if_pos z]
    · rw [if_neg (by omega), if_neg z]
  have hR1 := hstep xk' yk' xm' ym' qu' qn' hlv k1 k2 (kk yk yk' b3) m1 m2 (kk ym ym' b4)
  obtain ⟨st', tk', nt', qu', qn', mc', xt', xi', yt', yi', lo', xr', xe', xz', xc', yd', ys', yz', yc', hXs, hYs, hRs, hals, ers⟩ := mp_sigloop (run := run) (i := i + 1) (T := T) (C := C) (G := G) (dl := dl) (tc := tc) (tm := tm) (xn := xn) (md := md) (en := en + 1) (dO := dO) (dA := dA) (dB := dB) (xo := xo) (xa := xa) (xb := xb) (xl := xl) (rg := rg) (xv := xv) (pl := pl) (tr := tr) (xk := xk') (xm := xm') (wt := wt) (xw := xw) (ti := ti) (yn := yn) (yo := yo) (ya := ya) (yb := yb) (yl := yl) (cu := cu) (ag := ag) (yv := yv) (yr := upd yr p (ys i)) (yk := yk') (ym := ym') (li := li) (ye := ye) (f := p) hp b1 8 0 rfl (upd st p 3) tk nt qu' qn' (upd mc p 0) xt xi yt yi lo xr xe (upd xz p 0) (nI d) yd ys yz (nI d) hR1 (fun j hj z => by
    obtain ⟨_, w1, w2⟩ := (hK p hp).2 j hj (of_decide_eq_true z)
    exact (mp_al_n (Ne.symm w2)).mpr w1) mp_al_3 e3
  obtain ⟨st'', tk'', nt'', qu'', qn'', mc'', xt'', xi'', yt'', yi'', lo'', hXd, hYd, hRd, hald⟩ := mp_delloop (run := run) (i := i + 1) (T := T) (C := C) (G := G) (dl := dl) (xc := xc') (tc := tc) (tm := tm) (xn := xn) (md := md) (en := en + 1) (dO := dO) (dA := dA) (dB := dB) (xo := xo) (xa := xa) (xb := xb) (xl := xl) (xr := xr') (rg := rg) (xv := xv) (pl := pl) (tr := tr) (xk := xk') (xm := xm') (wt := wt) (xw := xw) (xe := xe') (xz := xz') (ti := ti) (yc := yc') (yn := yn) (yo := yo) (ya := ya) (yb := yb) (yl := yl) (cu := cu) (ag := ag) (yv := yv) (yr := upd yr p (ys i)) (yk := yk') (ym := ym') (li := li) (ye := ye) (yd := yd') (ys := ys') (yz := yz') (f := p) hp b2 ers 8 0 rfl st' tk' nt' qu' qn' mc' xt' xi' yt' yi' lo' hRs (fun j hj z => by
    obtain ⟨w1, _, w2⟩ := (hm j hj).2 p hp (of_decide_eq_true z)
    exact (hals j hj).mpr ((mp_al_n w2).mpr w1))
  refine ⟨st'', tk'', nt'', qu'', qn'', mc'', xt'', xi'', yt'', yi'', lo'', xr', xe', xz', xc', yd', ys', yz', yc', xk', yk', xm', ym', upd yr p (ys i), en + 1, fun post n hq => ?_, fun post n hq => ?_, hRd⟩
  · refine br_f (nI_ge (b := 8) (by omega) (by omega)) (br_t (nI_lt hid (by omega)) (And.intro Ii ?_))
    rw [ci, e1]
    refine nm_e ⟨Ip, ?_⟩
    rw [cp]
    exact nm_e (hmons _ (hclose _ ⟨9, hXs _ _ _ _ 9 (by omega) ⟨9, hXd _ _ _ 9 (by omega) (by rw [nI_1]; exact hq)⟩⟩))
  · refine br_f (nI_ge hid (by omega)) (And.intro Ii (And.intro Ii ?_))
    rw [ci, e2]
    unfold wpY_end
    refine ⟨9, hY8 _ 9 (by omega) (br_t (nI_le (b := 8) (Nat.le_refl 8) (by omega)) (And.intro Ip ?_))⟩
    rw [cp]
    exact nm_e ⟨Ip, nm_e ⟨Ip, nm_e (hleave _ (nm_e ⟨9, hYs _ _ 9 (by omega) ⟨9, hYd _ 9 (by omega) (nm_r (nI_1 i) hq)⟩⟩))⟩⟩
theorem my_clear {d : Nat} (hd8 : d ≤ 8) (hyd : ∀ j, j < d → ∃ q, q < 8 ∧ yd j = nI q) : ∀ e k, k + e = d → ∀ yz : Nat → Int32, (∀ q, q < 8 → yz q ≠ 0 → ∃ j, k ≤ j ∧ j < d ∧ yd j = nI q) → ∃ yz' : Nat → Int32, (∀ q, q < 8 → yz' q = 0) ∧ ∀ (post : SY → Prop) n, e < n → post (dl, qn, 0, tm, tc, yn, md, lo, en, yo, ya, yb, yl, cu, ag, dO, dA, dB, st, rg, pl, yv, yr, tr, yt, yi, mc, yk, ym, wt, li, ye, qu, yd, ys, yz', ti) → wY_settle_34 post dl qn (nI d) tm tc yn md lo en n (nI k) yo ya yb yl cu ag dO dA dB st rg pl yv yr tr yt yi mc yk ym wt li ye qu yd ys yz ti := by
  intro e
  induction e with
  | zero =>
    intro k hk yz hz
    have e8 : k = d := by omega
    subst e8
    refine ⟨yz, fun q hq => ?_, fun post n hn h => ?_⟩
    · by_cases z : yz q = 0
      · exact z
      · obtain ⟨j, h1, h2, _⟩ := hz q hq z
        omega
    · obtain ⟨m, rfl⟩ := mp_pos hn
      exact br_t (nI_le (Nat.le_refl k) (by omega)) h
  | succ e ih =>
    intro k hk yz hz
    obtain ⟨q0, hq0, eq0⟩ := hyd k (by omega)
    have ck := nI_clamp (n := k) (by omega)
    have Ik := vp_in_nI (n := k) (N := 8) (by omega) (by omega)
    have cq := nI_clamp (n := q0) (by omega)
    have Iq := vp_in_nI (n := q0) (N := 8) hq0 (by omega)
    obtain ⟨yz', h1, hY⟩ := ih (k + 1) (by omega) (upd yz q0 0) (fun q hq z => by
      by_cases w : q = q0
      · subst w
        rw [pk_us] at z
        exact absurd rfl z
      · rw [pk_un w] at z
        obtain ⟨j, a1, a2, a3⟩ := hz q hq z
        refine ⟨j, ?_, a2, a3⟩
        by_cases w2 : j = k
        · subst w2
          rw [eq0, nI_eq (by omega) (by omega)] at a3
          exact absurd a3.symm w
        · omega)
    refine ⟨yz', h1, fun post n hn h => ?_⟩
    obtain ⟨m, rfl⟩ := mp_pos hn
    refine br_f (nI_ge (by omega) (by omega)) (And.intro Ik ?_)
    rw [ck, eq0, cq, mp_b0n]
    exact ⟨Iq, nm_e (nm_r (nI_1 k) (hY post m (by omega) h))⟩
theorem mp_settle_x (h : (mp_D dl dO dA dB ∧ mp_C xo xa xb xl yo ya yb yl cu ∧ mp_V st xv yv xl cu ∧ mp_P st pl ∧ mp_S st ∧ mp_M st mc xt xi yt yi ∧ mp_K st xk yk ∧ mp_K st xm ym ∧ mp_W st xw li ye tm ∧ mp_T tm tc ti T ∧ mp_Q st tk nt run qu qn ∧ mp_E st xr yr ∧ mp_Z i st xr xe xz xc yd ys yz yc ∧ mp_F st nt C ∧ mp_G G st xv yz)) (hx : xc = nI i) : ∃ yz' : Nat → Int32, (∀ (post : SX → Prop) n, post (dl, nt, 0, tc, tm, xn, md, lo, en, dO, dA, dB, xo, xa, xb, xl, st, xr, rg, xv, pl, tr, xk, xm, wt, xw, xt, xi, mc, tk, xe, xz, ti) → wX_finishEndings_2 post (n + 1) (nI i) dl nt xc tc tm xn md lo en dO dA dB xo xa xb xl st xr rg xv pl tr xk xm wt xw xt xi mc tk xe xz ti) ∧ (∀ (post : SY → Prop) n, post (dl, qn, 0, tm, tc, yn, md, lo, en, yo, ya, yb, yl, cu, ag, dO, dA, dB, st, rg, pl, yv, yr, tr, yt, yi, mc, yk, ym, wt, li, ye, qu, yd, ys, yz', ti) → wY_settle_2 post (n + 1) (nI i) dl qn yc tm tc yn md lo en yo ya yb yl cu ag dO dA dB st rg pl yv yr tr yt yi mc yk ym wt li ye qu yd ys yz ti) ∧ (mp_D dl dO dA dB ∧ mp_C xo xa xb xl yo ya yb yl cu ∧ mp_V st xv yv xl cu ∧ mp_P st pl ∧ mp_S st ∧ mp_M st mc xt xi yt yi ∧ mp_K st xk yk ∧ mp_K st xm ym ∧ mp_W st xw li ye tm ∧ mp_T tm tc ti T ∧ mp_Q st tk nt run qu qn ∧ mp_E st xr yr ∧ mp_Z 0 st xr xe xz 0 yd ys yz' 0 ∧ mp_F st nt C ∧ mp_G G st xv yz') := by
  have hh := h
  obtain ⟨hD, hC, hV, hP, hS, hM, hK, hm, hW, hT, hQ, hE, hZ, hF, hG⟩ := h
  obtain ⟨d, a, b, c1, c2, c3, f, g, k, l⟩ := hZ
  have ed : d = i := by
    rw [c1, nI_eq (by omega) (by omega)] at hx
    exact hx
  subst ed
  subst c2
  subst hx
  obtain ⟨yz', h1, hY⟩ := my_clear (dl := dl) (qn := qn) (tm := tm) (tc := tc) (yn := yn) (md := md) (lo := lo) (en := en) (yo := yo) (ya := ya) (yb := yb) (yl := yl) (cu := cu) (ag := ag) (dO := dO) (dA := dA) (dB := dB) (st := st) (rg := rg) (pl := pl) (yv := yv) (yr := yr) (tr := tr) (yt := yt) (yi := yi) (mc := mc) (yk := yk) (ym := ym) (wt := wt) (li := li) (ye := ye) (qu := qu) (yd := yd) (ys := ys) (ti := ti) a (fun j hj => by
    obtain ⟨q, hq, w, _⟩ := f j hj
    exact ⟨q, hq, w⟩) d 0 (by omega) yz (fun q hq z => by
    obtain ⟨j, hj, w⟩ := g q hq z
    exact ⟨j, by omega, hj, w⟩)
  refine ⟨yz', fun post n hq => ?_, fun post n hq => ?_, mp_fin_R hh rfl h1⟩
  · by_cases e8 : d = 8
    · subst e8
      exact br_t (nI_le (b := 8) (Nat.le_refl 8) (by omega)) hq
    · exact br_f (nI_ge (b := 8) (by omega) (by omega)) (br_f (nI_nlt (Nat.le_refl d) (by omega)) hq)
  · exact br_t (nI_le (Nat.le_refl d) (by omega)) ⟨d + 1, hY post _ (by omega) hq⟩
theorem mp_settle_i : ∀ m i, 8 - i ≤ m → ∀ (st : Nat → Int32) (tk : Nat → Int64) (nt : Int64) (qu : Nat → Int32) (qn : Int32) (mc xt xi yt yi : Nat → Int32) (lo : Int32) (xr xe xz : Nat → Int32) (xc : Int32) (yd ys yz : Nat → Int32) (yc : Int32) (xk yk xm ym yr : Nat → Int32) (en : Int32), (mp_D dl dO dA dB ∧ mp_C xo xa xb xl yo ya yb yl cu ∧ mp_V st xv yv xl cu ∧ mp_P st pl ∧ mp_S st ∧ mp_M st mc xt xi yt yi ∧ mp_K st xk yk ∧ mp_K st xm ym ∧ mp_W st xw li ye tm ∧ mp_T tm tc ti T ∧ mp_Q st tk nt run qu qn ∧ mp_E st xr yr ∧ mp_Z i st xr xe xz xc yd ys yz yc ∧ mp_F st nt C ∧ mp_G G st xv yz) → ∃ (st' : Nat → Int32) (tk' : Nat → Int64) (nt' : Int64) (qu' : Nat → Int32) (qn' : Int32) (mc' xt' xi' yt' yi' : Nat → Int32) (lo' : Int32) (xr' xe' xz' : Nat → Int32) (xc' : Int32) (yd' ys' yz' : Nat → Int32) (yc' : Int32) (xk' yk' xm' ym' yr' : Nat → Int32) (en' : Int32), (∀ (post : SX → Prop) n, m < n → post (dl, nt', 0, tc, tm, xn, md, lo', en', dO, dA, dB, xo, xa, xb, xl, st', xr', rg, xv, pl, tr, xk', xm', wt, xw, xt', xi', mc', tk', xe', xz', ti) → wX_finishEndings_2 post n (nI i) dl nt xc tc tm xn md lo en dO dA dB xo xa xb xl st xr rg xv pl tr xk xm wt xw xt xi mc tk xe xz ti) ∧ (∀ (post : SY → Prop) n, m < n → post (dl, qn', 0, tm, tc, yn, md, lo', en', yo, ya, yb, yl, cu, ag, dO, dA, dB, st', rg, pl, yv, yr', tr, yt', yi', mc', yk', ym', wt, li, ye, qu', yd', ys', yz', ti) → wY_settle_2 post n (nI i) dl qn yc tm tc yn md lo en yo ya yb yl cu ag dO dA dB st rg pl yv yr tr yt yi mc yk ym wt li ye qu yd ys yz ti) ∧ (mp_D dl dO dA dB ∧ mp_C xo xa xb xl yo ya yb yl cu ∧ mp_V st' xv yv xl cu ∧ mp_P st' pl ∧ mp_S st' ∧ mp_M st' mc' xt' xi' yt' yi' ∧ mp_K st' xk' yk' ∧ mp_K st' xm' ym' ∧ mp_W st' xw li ye tm ∧ mp_T tm tc ti T ∧ mp_Q st' tk' nt' run qu' qn' ∧ mp_E st' xr' yr' ∧ mp_Z 0 st' xr' xe' xz' 0 yd' ys' yz' 0 ∧ mp_F st' nt' C ∧ mp_G G st' xv yz') := by
  intro m
  induction m with
  | zero =>
    intro i hi st tk nt qu qn mc xt xi yt yi lo xr xe xz xc yd ys yz yc xk yk xm ym yr en h
    have hx : xc = nI i := by
      obtain ⟨hD, hC, hV, hP, hS, hM, hK, hm, hW, hT, hQ, hE, hZ, hF, hG⟩ := h
      obtain ⟨d, a, b, c1, c2, c3, f, g, k, l⟩ := hZ
      rw [c1]
      exact congrArg nI (by omega)
    obtain ⟨yz', hX, hY, hR⟩ := mp_settle_x (dl := dl) (nt := nt) (xc := xc) (tc := tc) (tm := tm) (xn := xn) (md := md) (lo := lo) (en := en) (dO := dO) (dA := dA) (dB := dB) (xo := xo) (xa := xa) (xb := xb) (xl := xl) (st := st) (xr := xr) (rg := rg) (xv := xv) (pl := pl) (tr := tr) (xk := xk) (xm := xm) (wt := wt) (xw := xw) (xt := xt) (xi := xi) (mc := mc) (tk := tk) (xe := xe) (xz := xz) (ti := ti) (qn := qn) (yc := yc) (yn := yn) (yo := yo) (ya := ya) (yb := yb) (yl := yl) (cu := cu) (ag := ag) (yv := yv) (yr := yr) (yt := yt) (yi := yi) (yk := yk) (ym := ym) (li := li) (ye := ye) (qu := qu) (yd := yd) (ys := ys) (yz := yz) h hx
    refine ⟨st, tk, nt, qu, qn, mc, xt, xi, yt, yi, lo, xr, xe, xz, 0, yd, ys, yz', 0, xk, yk, xm, ym, yr, en, fun post n hn hq => ?_, fun post n hn hq => ?_, hR⟩
    · obtain ⟨m, rfl⟩ := mp_pos hn
      exact hX post m hq
    · obtain ⟨m, rfl⟩ := mp_pos hn
      exact hY post m hq
  | succ m ih =>
    intro i hi st tk nt qu qn mc xt xi yt yi lo xr xe xz xc yd ys yz yc xk yk xm ym yr en h
    by_cases hx : xc = nI i
    · obtain ⟨yz', hX, hY, hR⟩ := mp_settle_x (dl := dl) (nt := nt) (xc := xc) (tc := tc) (tm := tm) (xn := xn) (md := md) (lo := lo) (en := en) (dO := dO) (dA := dA) (dB := dB) (xo := xo) (xa := xa) (xb := xb) (xl := xl) (st := st) (xr := xr) (rg := rg) (xv := xv) (pl := pl) (tr := tr) (xk := xk) (xm := xm) (wt := wt) (xw := xw) (xt := xt) (xi := xi) (mc := mc) (tk := tk) (xe := xe) (xz := xz) (ti := ti) (qn := qn) (yc := yc) (yn := yn) (yo := yo) (ya := ya) (yb := yb) (yl := yl) (cu := cu) (ag := ag) (yv := yv) (yr := yr) (yt := yt) (yi := yi) (yk := yk) (ym := ym) (li := li) (ye := ye) (qu := qu) (yd := yd) (ys := ys) (yz := yz) h hx
      refine ⟨st, tk, nt, qu, qn, mc, xt, xi, yt, yi, lo, xr, xe, xz, 0, yd, ys, yz', 0, xk, yk, xm, ym, yr, en, fun post n hn hq => ?_, fun post n hn hq => ?_, hR⟩
      · obtain ⟨m, rfl⟩ := mp_pos hn
        exact hX post m hq
      · obtain ⟨m, rfl⟩ := mp_pos hn
        exact hY post m hq
    · obtain ⟨st', tk', nt', qu', qn', mc', xt', xi', yt', yi', lo', xr', xe', xz', xc', yd', ys', yz', yc', xk', yk', xm', ym', yr', en', hX, hY, hR⟩ := mp_endstep (dl := dl) (nt := nt) (xc := xc) (tc := tc) (tm := tm) (xn := xn) (md := md) (lo := lo) (en := en) (dO := dO) (dA := dA) (dB := dB) (xo := xo) (xa := xa) (xb := xb) (xl := xl) (st := st) (xr := xr) (rg := rg) (xv := xv) (pl := pl) (tr := tr) (xk := xk) (xm := xm) (wt := wt) (xw := xw) (xt := xt) (xi := xi) (mc := mc) (tk := tk) (xe := xe) (xz := xz) (ti := ti) (qn := qn) (yc := yc) (yn := yn) (yo := yo) (ya := ya) (yb := yb) (yl := yl) (cu := cu) (ag := ag) (yv := yv) (yr := yr) (yt := yt) (yi := yi) (yk := yk) (ym := ym) (li := li) (ye := ye) (qu := qu) (yd := yd) (ys := ys) (yz := yz) h hx
      obtain ⟨st'', tk'', nt'', qu'', qn'', mc'', xt'', xi'', yt'', yi'', lo'', xr'', xe'', xz'', xc'', yd'', ys'', yz'', yc'', xk'', yk'', xm'', ym'', yr'', en'', hX2, hY2, hR2⟩ := ih (i + 1) (by omega) st' tk' nt' qu' qn' mc' xt' xi' yt' yi' lo' xr' xe' xz' xc' yd' ys' yz' yc' xk' yk' xm' ym' yr' en' hR
      refine ⟨st'', tk'', nt'', qu'', qn'', mc'', xt'', xi'', yt'', yi'', lo'', xr'', xe'', xz'', xc'', yd'', ys'', yz'', yc'', xk'', yk'', xm'', ym'', yr'', en'', fun post n hn hq => ?_, fun post n hn hq => ?_, hR2⟩
      · obtain ⟨k, rfl⟩ := mp_pos hn
        exact hX post k (hX2 post k (by omega) hq)
      · obtain ⟨k, rfl⟩ := mp_pos hn
        exact hY post k (hY2 post k (by omega) hq)
theorem mp_settle (h : (mp_D dl dO dA dB ∧ mp_C xo xa xb xl yo ya yb yl cu ∧ mp_V st xv yv xl cu ∧ mp_P st pl ∧ mp_S st ∧ mp_M st mc xt xi yt yi ∧ mp_K st xk yk ∧ mp_K st xm ym ∧ mp_W st xw li ye tm ∧ mp_T tm tc ti T ∧ mp_Q st tk nt run qu qn ∧ mp_E st xr yr ∧ mp_Z 0 st xr xe xz xc yd ys yz yc ∧ mp_F st nt C ∧ mp_G G st xv yz)) : ∃ (st' : Nat → Int32) (tk' : Nat → Int64) (nt' : Int64) (qu' : Nat → Int32) (qn' : Int32) (mc' xt' xi' yt' yi' : Nat → Int32) (lo' : Int32) (xr' xe' xz' : Nat → Int32) (xc' : Int32) (yd' ys' yz' : Nat → Int32) (yc' : Int32) (xk' yk' xm' ym' yr' : Nat → Int32) (en' : Int32), (∀ (post : SX → Prop), post (dl, nt', 0, tc, tm, xn, md, lo', en', dO, dA, dB, xo, xa, xb, xl, st', xr', rg, xv, pl, tr, xk', xm', wt, xw, xt', xi', mc', tk', xe', xz', ti) → wpX_finishEndings post (dl, nt, xc, tc, tm, xn, md, lo, en, dO, dA, dB, xo, xa, xb, xl, st, xr, rg, xv, pl, tr, xk, xm, wt, xw, xt, xi, mc, tk, xe, xz, ti)) ∧ (∀ (post : SY → Prop), post (dl, qn', 0, tm, tc, yn, md, lo', en', yo, ya, yb, yl, cu, ag, dO, dA, dB, st', rg, pl, yv, yr', tr, yt', yi', mc', yk', ym', wt, li, ye, qu', yd', ys', yz', ti) → wpY_settle post (dl, qn, yc, tm, tc, yn, md, lo, en, yo, ya, yb, yl, cu, ag, dO, dA, dB, st, rg, pl, yv, yr, tr, yt, yi, mc, yk, ym, wt, li, ye, qu, yd, ys, yz, ti)) ∧ (mp_D dl dO dA dB ∧ mp_C xo xa xb xl yo ya yb yl cu ∧ mp_V st' xv yv xl cu ∧ mp_P st' pl ∧ mp_S st' ∧ mp_M st' mc' xt' xi' yt' yi' ∧ mp_K st' xk' yk' ∧ mp_K st' xm' ym' ∧ mp_W st' xw li ye tm ∧ mp_T tm tc ti T ∧ mp_Q st' tk' nt' run qu' qn' ∧ mp_E st' xr' yr' ∧ mp_Z 0 st' xr' xe' xz' 0 yd' ys' yz' 0 ∧ mp_F st' nt' C ∧ mp_G G st' xv yz') := by
  obtain ⟨st', tk', nt', qu', qn', mc', xt', xi', yt', yi', lo', xr', xe', xz', xc', yd', ys', yz', yc', xk', yk', xm', ym', yr', en', hX, hY, hR⟩ := mp_settle_i (dl := dl) (tc := tc) (tm := tm) (xn := xn) (md := md) (dO := dO) (dA := dA) (dB := dB) (xo := xo) (xa := xa) (xb := xb) (xl := xl) (rg := rg) (xv := xv) (pl := pl) (tr := tr) (wt := wt) (xw := xw) (ti := ti) (yn := yn) (yo := yo) (ya := ya) (yb := yb) (yl := yl) (cu := cu) (ag := ag) (yv := yv) (li := li) (ye := ye) 8 0 (by omega) st tk nt qu qn mc xt xi yt yi lo xr xe xz xc yd ys yz yc xk yk xm ym yr en h
  exact ⟨st', tk', nt', qu', qn', mc', xt', xi', yt', yi', lo', xr', xe', xz', xc', yd', ys', yz', yc', xk', yk', xm', ym', yr', en', fun post hq => by unfold wpX_finishEndings; exact ⟨9, hX post 9 (by omega) hq⟩, fun post hq => by unfold wpY_settle; exact ⟨9, hY post 9 (by omega) hq⟩, hR⟩
theorem mx_fin0 {post : SX → Prop} (h : post (dl, nt, 0, tc, tm, xn, md, lo, en, dO, dA, dB, xo, xa, xb, xl, st, xr, rg, xv, pl, tr, xk, xm, wt, xw, xt, xi, mc, tk, xe, xz, ti)) : wpX_finishEndings post (dl, nt, 0, tc, tm, xn, md, lo, en, dO, dA, dB, xo, xa, xb, xl, st, xr, rg, xv, pl, tr, xk, xm, wt, xw, xt, xi, mc, tk, xe, xz, ti) := by
  unfold wpX_finishEndings
  exact ⟨1, br_f (by decide) (br_f (by decide) h)⟩
end
end
section
section
variable {dl xc tc tm xn md lo en qn yc yn : Int32} {nt : Int64} {dO dA dB xo xa xb xl st xr rg xv pl tr xk xm wt xw xt xi mc xe xz ti yo ya yb yl cu ag yv yr yt yi yk ym li ye qu yd ys yz : Nat → Int32} {tk : Nat → Int64} {run i p : Nat} {T C : Int} {G : Nat → Int32 → Prop}
theorem mp_least (hS : mp_S st) : ∀ n, n ≤ 8 → (∀ q, q < n → mp_al st q) ∨ ∃ p, p < n ∧ ¬ mp_al st p ∧ ∀ q, q < p → mp_al st q := by
  intro n
  induction n with
  | zero => intro _; exact Or.inl (fun q hq => absurd hq (by omega))
  | succ n ih =>
    intro hn
    rcases ih (by omega) with h | ⟨p, hp, h1, h2⟩
    · rcases mp_al_of hS (p := n) (by omega) with ⟨ha, _⟩ | ⟨ha, _⟩
      · exact Or.inl (fun q hq => by
          by_cases e : q = n
          · subst e; exact ha
          · exact h q (by omega))
      · exact Or.inr ⟨n, by omega, ha, h⟩
    · exact Or.inr ⟨p, by omega, h1, h2⟩
theorem mp_al_s (ha : mp_al st p) : ¬ st p = 0 ∧ ¬ st p = 3 := by
  unfold mp_al at ha
  rcases ha with h | h <;> rw [h] <;> decide
theorem mx_least_l {e : Nat} (he : e ≤ 8) (hq : ∀ q, q < e → mp_al st q) (post : Int32 → Prop) (hE : ∀ m, wX_leastNotAlive_2 post dl nt xc tc tm xn md lo en dO dA dB xo xa xb xl st xr rg xv pl tr xk xm wt xw xt xi mc tk xe xz ti (m + 1) (nI e)) : ∀ d q, q + d = e → ∀ n, d < n → wX_leastNotAlive_2 post dl nt xc tc tm xn md lo en dO dA dB xo xa xb xl st xr rg xv pl tr xk xm wt xw xt xi mc tk xe xz ti n (nI q) := by
  intro d
  induction d with
  | zero =>
    intro q h n hn
    have : q = e := by omega
    subst this
    obtain ⟨m, rfl⟩ := mp_pos hn
    exact hE m
  | succ d ih =>
    intro q h n hn
    obtain ⟨m, rfl⟩ := mp_pos hn
    have c := nI_clamp (n := q) (by omega)
    have I := vp_in_nI (n := q) (N := 8) (by omega) (by omega)
    obtain ⟨s0, s3⟩ := mp_al_s (hq q (by omega))
    refine br_f (nI_ge (b := 8) (by omega) (by omega)) (And.intro I ?_)
    rw [c]
    exact br_f s0 ⟨I, br_f s3 (nm_r (nI_1 q) (ih (q + 1) (by omega) m (by omega)))⟩
theorem my_make_l {e : Nat} {x1 x2 : Int32} (he : e ≤ 8) (hq : ∀ q, q < e → mp_al st q) (post : Int32 → SY → Prop) (hE : ∀ m, wY_make_13 post x1 x2 dl qn yc tm tc yn md lo en yo ya yb yl cu ag dO dA dB st rg pl yv yr tr yt yi mc yk ym wt li ye qu yd ys yz ti (m + 1) (nI e)) : ∀ d q, q + d = e → ∀ n, d < n → wY_make_13 post x1 x2 dl qn yc tm tc yn md lo en yo ya yb yl cu ag dO dA dB st rg pl yv yr tr yt yi mc yk ym wt li ye qu yd ys yz ti n (nI q) := by
  intro d
  induction d with
  | zero =>
    intro q h n hn
    have : q = e := by omega
    subst this
    obtain ⟨m, rfl⟩ := mp_pos hn
    exact hE m
  | succ d ih =>
    intro q h n hn
    obtain ⟨m, rfl⟩ := mp_pos hn
    exact br_f (nI_ge (b := 8) (by omega) (by omega)) (my_al_t (by omega) (hq q (by omega)) (br_f (by decide) (nm_r (nI_1 q) (ih (q + 1) (by omega) m (by omega)))))
theorem mp_rgeq (v : Int32) : upd (upd (upd (upd (upd rg (4 * p + 0) 0) (4 * p + 1) 0) (4 * p + 2) 0) (4 * p + 3) 0) (4 * p) v = upd (upd (upd (upd rg (4 * p + 0) v) (4 * p + 1) 0) (4 * p + 2) 0) (4 * p + 3) 0 := by
  funext j
  by_cases h0 : j = 4 * p
  · subst h0
    rw [pk_us, pk_un (by omega), pk_un (by omega), pk_un (by omega)]
    exact pk_us.symm
  · rw [pk_un h0]
    by_cases h3 : j = 4 * p + 3
    · subst h3
      rw [pk_us, pk_us]
    · rw [pk_un h3, pk_un h3]
      by_cases h2 : j = 4 * p + 2
      · subst h2
        rw [pk_us, pk_us]
      · rw [pk_un h2, pk_un h2]
        by_cases h1 : j = 4 * p + 1
        · subst h1
          rw [pk_us, pk_us]
        · rw [pk_un h1, pk_un h1, Nat.add_zero, pk_un h0, pk_un h0]
theorem mx_mk_s {post : Int32 → SX → Prop} {x1 x2 : Int32} {r n : Nat} (hp : p < 8) (hr : r < 4) (h : wX_makeProcess_26 post x1 x2 (nI p) dl nt xc tc tm xn md lo en n (nI (r + 1)) dO dA dB xo xa xb xl st xr (upd rg (4 * p + r) 0) xv pl tr xk xm wt xw xt xi mc tk xe xz ti) : wX_makeProcess_26 post x1 x2 (nI p) dl nt xc tc tm xn md lo en (n + 1) (nI r) dO dA dB xo xa xb xl st xr rg xv pl tr xk xm wt xw xt xi mc tk xe xz ti := by
  have c := nI_clamp (n := 4 * p + r) (by omega)
  have I := vp_in_nI (n := 4 * p + r) (N := 32) (by omega) (by omega)
  have a : nI p * 4 + nI r = nI (4 * p + r) := by rw [mp_x4, nI_add]
  refine br_f (nI_ge (b := 4) hr (by omega)) ?_
  rw [a, c]
  exact ⟨I, nm_e (nm_r (nI_1 r) h)⟩
theorem mx_mk {post : Int32 → SX → Prop} {v : Int32} {m : Nat} (hp : p < 8) (hm : m < 4) (h : post (nI p) (dl, nt + 1, xc, tc, tm, xn, md + 1, lo, en, dO, dA, dB, xo, xa, xb, xl, upd st p 1, xr, upd (upd (upd (upd rg (4 * p + 0) v) (4 * p + 1) 0) (4 * p + 2) 0) (4 * p + 3) 0, upd xv p (nI (2 * m)), upd pl p 0, upd tr p 0, xk, xm, wt, xw, xt, xi, mc, vp_updL tk p nt, xe, xz, ti)) : ∃ n, wX_makeProcess_26 post (nI m) v (nI p) dl nt xc tc tm xn md lo en n 0 dO dA dB xo xa xb xl st xr rg xv pl tr xk xm wt xw xt xi mc tk xe xz ti := by
  have c := nI_clamp (n := p) (by omega)
  have I := vp_in_nI (n := p) (N := 8) hp (by omega)
  have c4 := nI_clamp (n := 4 * p) (by omega)
  have I4 := vp_in_nI (n := 4 * p) (N := 32) (by omega) (by omega)
  rw [← mp_rgeq] at h
  refine ⟨5, mx_mk_s (r := 0) hp (by omega) (mx_mk_s (r := 1) hp (by omega) (mx_mk_s (r := 2) hp (by omega) (mx_mk_s (r := 3) hp (by omega) (br_t (nI_le (b := 4) (Nat.le_refl 4) (by omega)) ?_))))⟩
  rw [mp_x4, mp_2x, c, c4, mp_b0n]
  exact ⟨I4, nm_e ⟨I, nm_e ⟨I, nm_e ⟨I, nm_e (nm_e (mx_back hp h))⟩⟩⟩⟩
theorem my_mk_s {post : Int32 → SY → Prop} {x1 v : Int32} {r n : Nat} (hp : p < 8) (hr : r < 4) (hr0 : 0 < r) (h : wY_make_44 post x1 v (nI p) dl qn yc tm tc yn md lo en n (nI (r + 1)) yo ya yb yl cu ag dO dA dB st (upd rg (4 * p + r) 0) pl yv yr tr yt yi mc yk ym wt li ye qu yd ys yz ti) : wY_make_44 post x1 v (nI p) dl qn yc tm tc yn md lo en (n + 1) (nI r) yo ya yb yl cu ag dO dA dB st rg pl yv yr tr yt yi mc yk ym wt li ye qu yd ys yz ti := by
  have c := nI_clamp (n := 4 * p + r) (by omega)
  have I := vp_in_nI (n := 4 * p + r) (N := 32) (by omega) (by omega)
  have a : 4 * nI p + nI r = nI (4 * p + r) := by rw [mp_4x, nI_add]
  refine br_f (nI_ge (b := 4) hr (by omega)) ?_
  rw [a, c]
  exact br_f (nI_ne0 hr0 (by omega)) ⟨I, nm_e (nm_r (nI_1 r) h)⟩
theorem my_mk {post : Int32 → SY → Prop} {v : Int32} {m cc n : Nat} (hp : p < 8) (hm : m < 4) (hc : cc < 2) (ec : cu m = nI cc) (hn : n < 8) (h : post (nI p) (dl, nI (n + 1), yc, tm, tc, yn, md + 1, lo, en, yo, ya, yb, yl, cu, ag, dO, dA, dB, upd st p 1, upd (upd (upd (upd rg (4 * p + 0) v) (4 * p + 1) 0) (4 * p + 2) 0) (4 * p + 3) 0, upd pl p 0, upd yv p (nI (2 * m + cc)), yr, upd tr p 0, yt, yi, upd mc p 0, yk, ym, wt, li, ye, upd qu n (nI p), yd, ys, yz, ti)) : ∃ k, wY_make_44 post (nI m) v (nI p) dl (nI n) yc tm tc yn md lo en k 0 yo ya yb yl cu ag dO dA dB st rg pl yv yr tr yt yi mc yk ym wt li ye qu yd ys yz ti := by
  have c := nI_clamp (n := p) (by omega)
  have I := vp_in_nI (n := p) (N := 8) hp (by omega)
  have cm := nI_clamp (n := m) (by omega)
  have Im := vp_in_nI (n := m) (N := 4) hm (by omega)
  have c4 := nI_clamp (n := 4 * p + 0) (by omega)
  have I4 := vp_in_nI (n := 4 * p + 0) (N := 32) (by omega) (by omega)
  have a : 4 * nI p + 0 = nI (4 * p + 0) := by rw [mp_4x]; exact nI_add (4 * p) 0
  have a1 : (0 : Int32) + 1 = nI (0 + 1) := rfl
  have w3 : wY_make_44 post (nI m) v (nI p) dl (nI n) yc tm tc yn md lo en 4 (nI (0 + 1)) yo ya yb yl cu ag dO dA dB st (upd rg (4 * p + 0) v) pl yv yr tr yt yi mc yk ym wt li ye qu yd ys yz ti := by
    refine my_mk_s (r := 1) hp (by omega) (by omega) (my_mk_s (r := 2) hp (by omega) (by omega) (my_mk_s (r := 3) hp (by omega) (by omega) (br_t (nI_le (b := 4) (Nat.le_refl 4) (by omega)) ?_)))
    rw [c, cm, ec, mp_2x, nI_add, mp_b0n]
    exact ⟨I, nm_e ⟨Im, I, nm_e ⟨I, nm_e ⟨I, nm_e (nm_e (my_enq hp hn h))⟩⟩⟩⟩
  refine ⟨5, br_f (by decide) (br_t rfl ?_)⟩
  rw [a, c4, a1]
  exact ⟨I4, nm_e (nm_e w3)⟩
theorem mp_make {m : Nat} (h : (mp_D dl dO dA dB ∧ mp_C xo xa xb xl yo ya yb yl cu ∧ mp_V st xv yv xl cu ∧ mp_P st pl ∧ mp_S st ∧ mp_M st mc xt xi yt yi ∧ mp_K st xk yk ∧ mp_K st xm ym ∧ mp_W st xw li ye tm ∧ mp_T tm tc ti T ∧ mp_Q st tk nt run qu qn ∧ mp_E st xr yr ∧ mp_Z 0 st xr xe xz 0 yd ys yz 0 ∧ mp_F st nt C ∧ mp_G G st xv yz)) (hm4 : m < 4) (v : Int32) (hr : run < 8 → mp_al st run) (hGt : ∀ q v, G q v) (hC1 : C + 1 < 2 ^ 40) : ∃ (r : Int32) (st' : Nat → Int32) (tk' : Nat → Int64) (nt' : Int64) (qu' : Nat → Int32) (qn' : Int32) (rg' pl' xv' yv' tr' : Nat → Int32) (md' : Int32), (∀ (post : Int32 → SX → Prop), post r (dl, nt', 0, tc, tm, xn, md', lo, en, dO, dA, dB, xo, xa, xb, xl, st', xr, rg', xv', pl', tr', xk, xm, wt, xw, xt, xi, mc, tk', xe, xz, ti) → wpX_makeProcess post (dl, nt, 0, tc, tm, xn, md, lo, en, dO, dA, dB, xo, xa, xb, xl, st, xr, rg, xv, pl, tr, xk, xm, wt, xw, xt, xi, mc, tk, xe, xz, ti) (nI m) v) ∧ (∀ (post : Int32 → SY → Prop), post r (dl, qn', 0, tm, tc, yn, md', lo, en, yo, ya, yb, yl, cu, ag, dO, dA, dB, st', rg', pl', yv', yr, tr', yt, yi, mc, yk, ym, wt, li, ye, qu', yd, ys, yz, ti) → wpY_make post (dl, qn, 0, tm, tc, yn, md, lo, en, yo, ya, yb, yl, cu, ag, dO, dA, dB, st, rg, pl, yv, yr, tr, yt, yi, mc, yk, ym, wt, li, ye, qu, yd, ys, yz, ti) (nI m) v) ∧ (mp_D dl dO dA dB ∧ mp_C xo xa xb xl yo ya yb yl cu ∧ mp_V st' xv' yv' xl cu ∧ mp_P st' pl' ∧ mp_S st' ∧ mp_M st' mc xt xi yt yi ∧ mp_K st' xk yk ∧ mp_K st' xm ym ∧ mp_W st' xw li ye tm ∧ mp_T tm tc ti T ∧ mp_Q st' tk' nt' run qu' qn' ∧ mp_E st' xr yr ∧ mp_Z 0 st' xr xe xz 0 yd ys yz 0 ∧ mp_F st' nt' (C + 1) ∧ mp_G G st' xv' yz) ∧ (r = -1 ∨ ∃ c, c < 8 ∧ r = nI c ∧ mp_al st' c) ∧ (∀ q, q < 8 → mp_al st q → mp_al st' q ∧ st' q = st q) := by
  have hh := h
  obtain ⟨hD, hC, hV, hP, hS, hM, hK, hm, hW, hT, hQ, hE, hZ, hF, hG⟩ := h
  have cm := nI_clamp (n := m) (by omega)
  have Im := vp_in_nI (n := m) (N := 4) hm4 (by omega)
  have c2 := nI_clamp (n := 2 * m) (by omega)
  have I2 := vp_in_nI (n := 2 * m) (N := 8) (by omega) (by omega)
  have hup := mp_F_R hh (C' := C + 1) (by omega) hC1
  rcases mp_least hS 8 (Nat.le_refl 8) with hall | ⟨p, hp, hdead, hlow⟩
  · refine ⟨-1, st, tk, nt, qu, qn, rg, pl, xv, yv, tr, md, fun post hq => ?_, fun post hq => ?_, hup, Or.inl rfl, fun q _ w => ⟨w, rfl⟩⟩
    · unfold wpX_makeProcess
      dsimp only
      unfold wpX_leastNotAlive
      refine ⟨9, mx_least_l (Nat.le_refl 8) hall _ (fun m => br_t (nI_le (b := 8) (Nat.le_refl 8) (by omega)) (br_t rfl hq)) 8 0 rfl 9 (by omega)⟩
    · unfold wpY_make
      dsimp only
      rw [cm]
      refine ⟨Im, br_c (fun _ => ⟨9, my_make_l (Nat.le_refl 8) hall _ (fun m => br_t (nI_le (b := 8) (Nat.le_refl 8) (by omega)) (br_t rfl hq)) 8 0 rfl 9 (by omega)⟩) (fun _ => hq)⟩
  · have ml := nI_ge (b := 8) hp (by omega)
    have hpn : ¬ nI p = -1 := fun z => by
      have w : (nI p).toInt = (-1 : Int32).toInt := congrArg Int32.toInt z
      rw [nI_toInt (by omega), show (-1 : Int32).toInt = -1 from by decide] at w
      omega
    have cp := nI_clamp (n := p) (by omega)
    have Ip := vp_in_nI (n := p) (N := 8) hp (by omega)
    have hs03 : st p = 0 ∨ st p = 3 := by
      rcases mp_al_of hS hp with ⟨w, _⟩ | ⟨_, w, _⟩
      · exact absurd w hdead
      · exact w
    have hX : ∀ post : Int32 → Prop, post (nI p) → wpX_leastNotAlive post (dl, nt, 0, tc, tm, xn, md, lo, en, dO, dA, dB, xo, xa, xb, xl, st, xr, rg, xv, pl, tr, xk, xm, wt, xw, xt, xi, mc, tk, xe, xz, ti) := fun post hq => by
      unfold wpX_leastNotAlive
      refine ⟨9, mx_least_l (by omega) hlow _ (fun m => br_f ml (And.intro Ip ?_)) p 0 (by omega) 9 (by omega)⟩
      rw [cp]
      rcases hs03 with w | w
      · exact br_t w hq
      · exact br_f (by rw [w]; decide) ⟨Ip, br_t w hq⟩
    rcases hC m hm4 with ⟨e1, e2, e3⟩ | ⟨cc, hcc, e1, hcv, _⟩
    · refine ⟨-1, st, tk, nt, qu, qn, rg, pl, xv, yv, tr, md, fun post hq => by
        unfold wpX_makeProcess
        dsimp only
        refine hX _ (br_f hpn ?_)
        rw [mp_2x, c2]
        exact ⟨I2, br_t e2 hq⟩, fun post hq => ?_, hup, Or.inl rfl, fun q _ w => ⟨w, rfl⟩⟩
      · unfold wpY_make
        dsimp only
        rw [cm, e1]
        exact ⟨Im, br_f (by decide) hq⟩
    · obtain ⟨n0, a1, a2, a3, a4, a5⟩ := hcv
      have ne0 : ¬ xl (2 * m) = 0 := by rw [a3]; exact nI_ne0 a1 (by omega)
      have prn : p ≠ run := fun z => hdead (z ▸ hr (z ▸ hp))
      obtain ⟨n, hn, rfl, hR⟩ := mp_make_R hh hp hdead prn hm4 hcc e1 hGt hC1
      have em : upd mc p 0 = mc := mp_upd_same (mp_M_0 hM hp hdead)
      refine ⟨nI p, _, _, _, _, _, upd (upd (upd (upd rg (4 * p + 0) v) (4 * p + 1) 0) (4 * p + 2) 0) (4 * p + 3) 0, _, _, _, upd tr p 0, md + 1, fun post hq => by
        unfold wpX_makeProcess
        dsimp only
        refine hX _ (br_f hpn ?_)
        rw [mp_2x, c2]
        exact ⟨I2, br_f ne0 (mx_mk hp hm4 hq)⟩, fun post hq => ?_, hR, Or.inr ⟨p, hp, rfl, mp_al_1⟩, fun q _ w => ?_⟩
      · unfold wpY_make
        dsimp only
        rw [cm, e1]
        refine ⟨Im, br_t (nI_pos' (by omega)) ⟨9, my_make_l (by omega) hlow _ (fun m => br_f ml (my_al_f (mp_deadp hp hdead) (br_t rfl (br_f (fun z => absurd ((nI_eq (b := 8) (by omega) (by omega)).mp z) (by omega)) (my_mk hp hm4 hcc e1 hn ?_))))) p 0 (by omega) 9 (by omega)⟩⟩
        rw [em]
        exact hq
      · have ne : q ≠ p := fun z => hdead (z ▸ w)
        exact ⟨(mp_al_n ne).mpr w, pk_un ne⟩
end
end
section
section
variable {dl xc tc tm xn md lo en qn yc yn : Int32} {nt : Int64} {dO dA dB xo xa xb xl st xr rg xv pl tr xk xm wt xw xt xi mc xe xz ti yo ya yb yl cu ag yv yr yt yi yk ym li ye qu yd ys yz : Nat → Int32} {tk : Nat → Int64} {run i p : Nat} {T C : Int} {G : Nat → Int32 → Prop}
theorem mp_neg1 {b : Nat} (h : b < 2 ^ 31) : ¬ nI b = -1 := fun z => by
  have w : (nI b).toInt = (-1 : Int32).toInt := congrArg Int32.toInt z
  rw [nI_toInt h, show (-1 : Int32).toInt = -1 from by decide] at w
  omega
theorem mp_nle (a b : Int32) : ¬ a ≤ b ↔ b < a := Int32.not_le
/-! who wakes next -/
theorem mx_ns_l : ∀ d q, q + d = 8 → ∀ (post : Int32 → Prop) n, d < n → post (mp_ns st xw 8) → wX_nextSleeper_4 post dl nt xc tc tm xn md lo en dO dA dB xo xa xb xl st xr rg xv pl tr xk xm wt xw xt xi mc tk xe xz ti n (mp_ns st xw q) (nI q) := by
  intro d
  induction d with
  | zero =>
    intro q hq post n hn h
    have e : q = 8 := by omega
    subst e
    obtain ⟨m, rfl⟩ := mp_pos hn
    exact br_t (nI_le (b := 8) (Nat.le_refl 8) (by omega)) h
  | succ d ih =>
    intro q hq post n hn h
    obtain ⟨m, rfl⟩ := mp_pos hn
    have c := nI_clamp (n := q) (by omega)
    have I := vp_in_nI (n := q) (N := 8) (by omega) (by omega)
    have ihh := ih (q + 1) (by omega) post m (by omega) h
    refine br_f (nI_ge (b := 8) (by omega) (by omega)) (And.intro I ?_)
    rw [c]
    by_cases h2 : st q = 2
    · by_cases hw : xw q = -1
      · rw [mp_ns_f (fun z => z.2.1 hw)] at ihh
        exact br_t h2 ⟨I, br_t hw (nm_r (nI_1 q) ihh)⟩
      · rcases mp_ns_i st xw q (by omega) with ⟨e, _⟩ | ⟨b, hb, e, _⟩
        · rw [mp_ns_t ⟨h2, hw, Or.inl e⟩] at ihh
          exact br_t h2 ⟨I, br_f hw (br_t e (nm_r (nI_1 q) ihh))⟩
        · have cb := nI_clamp (n := b) (by omega)
          have Ib := vp_in_nI (n := b) (N := 8) (by omega) (by omega)
          have nb := mp_neg1 (b := b) (by omega)
          refine br_t h2 ⟨I, br_f hw ?_⟩
          by_cases hl : xw b ≤ xw q
          · rw [mp_ns_f (fun z => by
              rw [e, cb] at z
              rcases z.2.2 with z | z
              · exact nb z
              · exact (mp_nle _ _).mpr z hl)] at ihh
            rw [e] at ihh ⊢
            rw [cb]
            exact br_f nb ⟨I, Ib, br_t hl (nm_r (nI_1 q) ihh)⟩
          · rw [mp_ns_t ⟨h2, hw, Or.inr (by rw [e, cb]; exact (mp_nle _ _).mp hl)⟩] at ihh
            rw [e, cb]
            exact br_f nb ⟨I, Ib, br_f hl (nm_r (nI_1 q) ihh)⟩
    · rw [mp_ns_f (fun z => h2 z.1)] at ihh
      exact br_f h2 (nm_r (nI_1 q) ihh)
theorem mx_ns {post : Int32 → Prop} (h : post (mp_ns st xw 8)) : wpX_nextSleeper post (dl, nt, xc, tc, tm, xn, md, lo, en, dO, dA, dB, xo, xa, xb, xl, st, xr, rg, xv, pl, tr, xk, xm, wt, xw, xt, xi, mc, tk, xe, xz, ti) := by
  unfold wpX_nextSleeper
  exact ⟨9, mx_ns_l 8 0 rfl post 9 (by omega) h⟩
theorem my_ns_l {tm0 : Int32} (hW : mp_W st xw li ye tm0) : ∀ d q, q + d = 8 → ∀ (post : Int32 → Prop) n, d < n → post (mp_ns st xw 8) → wY_soonest_4 post dl qn yc tm tc yn md lo en yo ya yb yl cu ag dO dA dB st rg pl yv yr tr yt yi mc yk ym wt li ye qu yd ys yz ti n (mp_ns st xw q) (nI q) := by
  intro d
  induction d with
  | zero =>
    intro q hq post n hn h
    have e : q = 8 := by omega
    subst e
    obtain ⟨m, rfl⟩ := mp_pos hn
    exact br_t (nI_le (b := 8) (Nat.le_refl 8) (by omega)) h
  | succ d ih =>
    intro q hq post n hn h
    obtain ⟨m, rfl⟩ := mp_pos hn
    have c := nI_clamp (n := q) (by omega)
    have I := vp_in_nI (n := q) (N := 8) (by omega) (by omega)
    have ihh := ih (q + 1) (by omega) post m (by omega) h
    refine br_f (nI_ge (b := 8) (by omega) (by omega)) (And.intro I ?_)
    rw [c]
    by_cases h2 : st q = 2
    · have neg : ∀ x : Int32, 0 ≤ x.toInt → x ≠ -1 := fun x hx z => by
        rw [z, show (-1 : Int32).toInt = -1 from by decide] at hx
        omega
      rcases hW q (by omega) h2 with ⟨l0, w1⟩ | ⟨l1, w1, w2, w3⟩
      · rw [mp_ns_f (fun z => z.2.1 w1)] at ihh
        exact br_t h2 ⟨I, br_t l0 (nm_r (nI_1 q) ihh)⟩
      · have hw : xw q ≠ -1 := by rw [w1]; exact neg _ w2
        rcases mp_ns_i st xw q (by omega) with ⟨e, _⟩ | ⟨b, hb, e, b2, bw⟩
        · rw [mp_ns_t ⟨h2, hw, Or.inl e⟩] at ihh
          exact br_t h2 ⟨I, br_f l1 (br_t (by rw [e]; decide) (nm_r (nI_1 q) ihh))⟩
        · have cb := nI_clamp (n := b) (by omega)
          have Ib := vp_in_nI (n := b) (N := 8) (by omega) (by omega)
          have nb := mp_neg1 (b := b) (by omega)
          have eb : xw b = ye b := by
            rcases hW b (by omega) b2 with ⟨_, w⟩ | ⟨_, w, _⟩
            · exact absurd w bw
            · exact w
          refine br_t h2 ⟨I, br_f l1 ?_⟩
          by_cases hl : xw b ≤ xw q
          · rw [mp_ns_f (fun z => by
              rw [e, cb] at z
              rcases z.2.2 with z | z
              · exact nb z
              · exact (mp_nle _ _).mpr z hl)] at ihh
            rw [e] at ihh ⊢
            rw [cb]
            exact br_f (nI_pos (by omega)) ⟨I, Ib, br_t (by rw [← eb, ← w1]; exact hl) (nm_r (nI_1 q) ihh)⟩
          · rw [mp_ns_t ⟨h2, hw, Or.inr (by rw [e, cb]; exact (mp_nle _ _).mp hl)⟩] at ihh
            rw [e, cb]
            exact br_f (nI_pos (by omega)) ⟨I, Ib, br_f (by rw [← eb, ← w1]; exact hl) (nm_r (nI_1 q) ihh)⟩
    · rw [mp_ns_f (fun z => h2 z.1)] at ihh
      exact br_f h2 (nm_r (nI_1 q) ihh)
theorem my_ns {post : Int32 → Prop} {tm0 : Int32} (hW : mp_W st xw li ye tm0) (h : post (mp_ns st xw 8)) : wpY_soonest post (dl, qn, yc, tm, tc, yn, md, lo, en, yo, ya, yb, yl, cu, ag, dO, dA, dB, st, rg, pl, yv, yr, tr, yt, yi, mc, yk, ym, wt, li, ye, qu, yd, ys, yz, ti) := by
  unfold wpY_soonest
  exact ⟨9, my_ns_l hW 8 0 rfl post 9 (by omega) h⟩
/-! waking -/
theorem mp_wake1 (h : (mp_D dl dO dA dB ∧ mp_C xo xa xb xl yo ya yb yl cu ∧ mp_V st xv yv xl cu ∧ mp_P st pl ∧ mp_S st ∧ mp_M st mc xt xi yt yi ∧ mp_K st xk yk ∧ mp_K st xm ym ∧ mp_W st xw li ye tm ∧ mp_T tm tc ti T ∧ mp_Q st tk nt run qu qn ∧ mp_E st xr yr ∧ mp_Z i st xr xe xz xc yd ys yz yc ∧ mp_F st nt C ∧ mp_G G st xv yz)) (hp : p < 8) (h2 : st p = 2) : ∃ n pn, n < 8 ∧ qn = nI n ∧ pn < 24 ∧ pl p = nI pn ∧ (mp_D dl dO dA dB ∧ mp_C xo xa xb xl yo ya yb yl cu ∧ mp_V (upd st p 1) xv yv xl cu ∧ mp_P (upd st p 1) (upd pl p (nI (pn + 1))) ∧ mp_S (upd st p 1) ∧ mp_M (upd st p 1) mc xt xi yt yi ∧ mp_K (upd st p 1) xk yk ∧ mp_K (upd st p 1) xm ym ∧ mp_W (upd st p 1) xw li ye tm ∧ mp_T tm tc ti T ∧ mp_Q (upd st p 1) (vp_updL tk p nt) (nt + 1) run (upd qu n (nI p)) (nI (n + 1)) ∧ mp_E (upd st p 1) xr yr ∧ mp_Z i (upd st p 1) xr xe xz xc yd ys yz yc ∧ mp_F (upd st p 1) (nt + 1) C ∧ mp_G G (upd st p 1) xv yz) := by
  obtain ⟨pn, _, e1, e2⟩ := h.2.2.2.1 p hp (Or.inr h2)
  obtain ⟨n, hn, e, hR⟩ := mp_wake_R h hp h2
  exact ⟨n, pn, hn, e, e2 h2, e1, mp_place_R (p := p) hR (by rw [pk_us]; decide) (by have := e2 h2; omega)⟩
theorem mp_wake_i : ∀ w i0, ∀ (st : Nat → Int32) (tk : Nat → Int64) (nt : Int64) (qu : Nat → Int32) (qn : Int32) (rg pl : Nat → Int32), mp_cn (fun p => decide (st p = 2)) 8 ≤ w → i0 + w ≤ 8 → (mp_D dl dO dA dB ∧ mp_C xo xa xb xl yo ya yb yl cu ∧ mp_V st xv yv xl cu ∧ mp_P st pl ∧ mp_S st ∧ mp_M st mc xt xi yt yi ∧ mp_K st xk yk ∧ mp_K st xm ym ∧ mp_W st xw li ye tm ∧ mp_T tm tc ti T ∧ mp_Q st tk nt run qu qn ∧ mp_E st xr yr ∧ mp_Z i st xr xe xz xc yd ys yz yc ∧ mp_F st nt C ∧ mp_G G st xv yz) → ∃ (st' : Nat → Int32) (tk' : Nat → Int64) (nt' : Int64) (qu' : Nat → Int32) (qn' : Int32) (rg' pl' : Nat → Int32), (∀ (post : SX → Prop) n, w < n → post (dl, nt', xc, tc, tm, xn, md, lo, en, dO, dA, dB, xo, xa, xb, xl, st', xr, rg', xv, pl', tr, xk, xm, wt, xw, xt, xi, mc, tk', xe, xz, ti) → wX_wakeSleepers_2 post n (nI i0) dl nt xc tc tm xn md lo en dO dA dB xo xa xb xl st xr rg xv pl tr xk xm wt xw xt xi mc tk xe xz ti) ∧ (∀ (post : SY → Prop) n, w < n → post (dl, qn', yc, tm, tc, yn, md, lo, en, yo, ya, yb, yl, cu, ag, dO, dA, dB, st', rg', pl', yv, yr, tr, yt, yi, mc, yk, ym, wt, li, ye, qu', yd, ys, yz, ti) → wY_wake_5 post n (mp_ns st xw 8) dl qn yc tm tc yn md lo en yo ya yb yl cu ag dO dA dB st rg pl yv yr tr yt yi mc yk ym wt li ye qu yd ys yz ti) ∧ (mp_D dl dO dA dB ∧ mp_C xo xa xb xl yo ya yb yl cu ∧ mp_V st' xv yv xl cu ∧ mp_P st' pl' ∧ mp_S st' ∧ mp_M st' mc xt xi yt yi ∧ mp_K st' xk yk ∧ mp_K st' xm ym ∧ mp_W st' xw li ye tm ∧ mp_T tm tc ti T ∧ mp_Q st' tk' nt' run qu' qn' ∧ mp_E st' xr yr ∧ mp_Z i st' xr xe xz xc yd ys yz yc ∧ mp_F st' nt' C ∧ mp_G G st' xv yz) ∧ (∀ q, q < 8 → st q = 1 → st' q = 1) ∧ (∀ q, q < 8 → mp_ns st xw 8 = nI q → xw q ≤ tm → st' q = 1) ∧ (∀ q, q < 8 → mp_ns st' xw 8 = nI q → ¬ xw q ≤ tm) := by
  intro w
  induction w with
  | zero =>
    intro i0 st tk nt qu qn rg pl hw hi h
    have hno : ∀ q, q < 8 → st q ≠ 2 := fun q hq z => by
      have := mp_cn_add (P := fun _ => false) (Q := fun p => decide (p = q)) (p := q) rfl (decide_eq_true rfl) 8 hq (fun r _ ne => (decide_eq_false ne).symm)
      have m := mp_cn_mono (P := fun p => decide (p = q)) (Q := fun p => decide (st p = 2)) 8 (fun r _ e => decide_eq_true (by rw [of_decide_eq_true e]; exact z))
      omega
    have e : mp_ns st xw 8 = -1 := by
      rcases mp_ns_i st xw 8 (Nat.le_refl 8) with ⟨e, _⟩ | ⟨b, hb, _, b2, _⟩
      · exact e
      · exact absurd b2 (hno b hb)
    refine ⟨st, tk, nt, qu, qn, rg, pl, fun post n hn hq => ?_, fun post n hn hq => ?_, h, fun q _ z => z, fun q hq z _ => absurd (z.symm.trans e) (mp_neg1 (by omega)), fun q hq z => absurd (z.symm.trans e) (mp_neg1 (by omega))⟩
    · obtain ⟨m, rfl⟩ := mp_pos hn
      exact br_c (fun _ => hq) (fun _ => mx_ns (br_t e hq))
    · obtain ⟨m, rfl⟩ := mp_pos hn
      rw [e]
      exact br_t (by decide) hq
  | succ w ih =>
    intro i0 st tk nt qu qn rg pl hw hi h
    have h8 : ¬ (8 : Int32) ≤ nI i0 := nI_ge (b := 8) (by omega) (by omega)
    rcases mp_ns_i st xw 8 (Nat.le_refl 8) with ⟨e, _⟩ | ⟨p, hp, e, h2, hxw⟩
    · refine ⟨st, tk, nt, qu, qn, rg, pl, fun post n hn hq => ?_, fun post n hn hq => ?_, h, fun q _ z => z, fun q hq z _ => absurd (z.symm.trans e) (mp_neg1 (by omega)), fun q hq z => absurd (z.symm.trans e) (mp_neg1 (by omega))⟩
      · obtain ⟨m, rfl⟩ := mp_pos hn
        exact br_f h8 (mx_ns (br_t e hq))
      · obtain ⟨m, rfl⟩ := mp_pos hn
        rw [e]
        exact br_t (by decide) hq
    · have hh := h
      obtain ⟨hD, hC, hV, hP, hS, hM, hK, hm, hW, hT, hQ, hE, hZ, hF, hG⟩ := h
      have cp := nI_clamp (n := p) (by omega)
      have Ip := vp_in_nI (n := p) (N := 8) hp (by omega)
      have np := mp_neg1 (b := p) (by omega)
      have ey : xw p = ye p := by
        rcases hW p hp h2 with ⟨_, z⟩ | ⟨_, z, _⟩
        · exact absurd z hxw
        · exact z
      by_cases hle : xw p ≤ tm
      · obtain ⟨n0, pn, hn0, rfl, hpn, epl, hR⟩ := mp_wake1 hh hp h2
        have hcn : mp_cn (fun q => decide (upd st p 1 q = 2)) 8 ≤ w := by
          have e9 := mp_cn_add (P := fun q => decide (upd st p 1 q = 2)) (Q := fun q => decide (st q = 2)) (p := p) (decide_eq_false (by rw [pk_us]; decide)) (decide_eq_true h2) 8 hp (fun q _ ne => by show decide (upd st p 1 q = 2) = decide (st q = 2); rw [pk_un ne])
          omega
        obtain ⟨st'', tk'', nt'', qu'', qn'', rg'', pl'', hX2, hY2, hR2, hk1, hk2, hk3⟩ := ih (i0 + 1) (upd st p 1) (vp_updL tk p nt) (nt + 1) (upd qu n0 (nI p)) (nI (n0 + 1)) (upd rg (4 * p + 1) (-1)) (upd pl p (nI (pn + 1))) hcn (by omega) hR
        have c4 := nI_clamp (n := 4 * p + 1) (by omega)
        have I4 := vp_in_nI (n := 4 * p + 1) (N := 32) (by omega) (by omega)
        have hp1 : st'' p = 1 := hk1 p hp pk_us
        refine ⟨st'', tk'', nt'', qu'', qn'', rg'', pl'', fun post n hn hq => ?_, fun post n hn hq => ?_, hR2, fun q hq z => ?_, fun q hq z _ => ?_, hk3⟩
        · obtain ⟨m, rfl⟩ := mp_pos hn
          refine br_f h8 (mx_ns ?_)
          rw [e, mp_x4, nI_1, c4, cp, epl, nI_1]
          exact br_f np ⟨Ip, br_t hle ⟨I4, nm_e ⟨Ip, Ip, nm_e (mx_back hp (nm_r (nI_1 i0) (hX2 post m (by omega) hq)))⟩⟩⟩
        · obtain ⟨m, rfl⟩ := mp_pos hn
          rw [e]
          refine br_f (nI_pos (by omega)) (And.intro Ip ?_)
          rw [cp, mp_4x, nI_1, c4, epl, nI_1]
          exact br_f (by rw [← ey]; exact fun z => (mp_nle _ _).mpr z hle) ⟨I4, nm_e ⟨Ip, Ip, nm_e (my_enq hp hn0 (my_ns hR.2.2.2.2.2.2.2.2.1 (hY2 post m (by omega) hq)))⟩⟩
        · by_cases w1 : q = p
          · subst w1; exact hp1
          · exact hk1 q hq (by rw [pk_un w1]; exact z)
        · rw [e, nI_eq (by omega) (by omega)] at z
          subst z
          exact hp1
      · refine ⟨st, tk, nt, qu, qn, rg, pl, fun post n hn hq => ?_, fun post n hn hq => ?_, hh, fun q _ z => z, fun q hq z z2 => ?_, fun q hq z => ?_⟩
        · obtain ⟨m, rfl⟩ := mp_pos hn
          refine br_f h8 (mx_ns ?_)
          rw [e, cp]
          exact br_f np ⟨Ip, br_f hle hq⟩
        · obtain ⟨m, rfl⟩ := mp_pos hn
          rw [e]
          refine br_f (nI_pos (by omega)) (And.intro Ip ?_)
          rw [cp]
          exact br_t (by rw [← ey]; exact (mp_nle _ _).mp hle) hq
        · rw [e, nI_eq (by omega) (by omega)] at z
          subst z
          exact absurd z2 hle
        · rw [e, nI_eq (by omega) (by omega)] at z
          subst z
          exact hle
theorem mp_wake (h : (mp_D dl dO dA dB ∧ mp_C xo xa xb xl yo ya yb yl cu ∧ mp_V st xv yv xl cu ∧ mp_P st pl ∧ mp_S st ∧ mp_M st mc xt xi yt yi ∧ mp_K st xk yk ∧ mp_K st xm ym ∧ mp_W st xw li ye tm ∧ mp_T tm tc ti T ∧ mp_Q st tk nt run qu qn ∧ mp_E st xr yr ∧ mp_Z i st xr xe xz xc yd ys yz yc ∧ mp_F st nt C ∧ mp_G G st xv yz)) : ∃ (st' : Nat → Int32) (tk' : Nat → Int64) (nt' : Int64) (qu' : Nat → Int32) (qn' : Int32) (rg' pl' : Nat → Int32), (∀ (post : SX → Prop), post (dl, nt', xc, tc, tm, xn, md, lo, en, dO, dA, dB, xo, xa, xb, xl, st', xr, rg', xv, pl', tr, xk, xm, wt, xw, xt, xi, mc, tk', xe, xz, ti) → wpX_wakeSleepers post (dl, nt, xc, tc, tm, xn, md, lo, en, dO, dA, dB, xo, xa, xb, xl, st, xr, rg, xv, pl, tr, xk, xm, wt, xw, xt, xi, mc, tk, xe, xz, ti)) ∧ (∀ (post : SY → Prop), post (dl, qn', yc, tm, tc, yn, md, lo, en, yo, ya, yb, yl, cu, ag, dO, dA, dB, st', rg', pl', yv, yr, tr, yt, yi, mc, yk, ym, wt, li, ye, qu', yd, ys, yz, ti) → wpY_wake post (dl, qn, yc, tm, tc, yn, md, lo, en, yo, ya, yb, yl, cu, ag, dO, dA, dB, st, rg, pl, yv, yr, tr, yt, yi, mc, yk, ym, wt, li, ye, qu, yd, ys, yz, ti)) ∧ (mp_D dl dO dA dB ∧ mp_C xo xa xb xl yo ya yb yl cu ∧ mp_V st' xv yv xl cu ∧ mp_P st' pl' ∧ mp_S st' ∧ mp_M st' mc xt xi yt yi ∧ mp_K st' xk yk ∧ mp_K st' xm ym ∧ mp_W st' xw li ye tm ∧ mp_T tm tc ti T ∧ mp_Q st' tk' nt' run qu' qn' ∧ mp_E st' xr yr ∧ mp_Z i st' xr xe xz xc yd ys yz yc ∧ mp_F st' nt' C ∧ mp_G G st' xv yz) ∧ (∀ q, q < 8 → st q = 1 → st' q = 1) ∧ (∀ q, q < 8 → mp_ns st xw 8 = nI q → xw q ≤ tm → st' q = 1) ∧ (∀ q, q < 8 → mp_ns st' xw 8 = nI q → ¬ xw q ≤ tm) := by
  obtain ⟨st', tk', nt', qu', qn', rg', pl', hX, hY, hR, k1, k2, k3⟩ := mp_wake_i (dl := dl) (xc := xc) (tc := tc) (tm := tm) (xn := xn) (md := md) (lo := lo) (en := en) (dO := dO) (dA := dA) (dB := dB) (xo := xo) (xa := xa) (xb := xb) (xl := xl) (xr := xr) (xv := xv) (tr := tr) (xk := xk) (xm := xm) (wt := wt) (xw := xw) (xt := xt) (xi := xi) (mc := mc) (xe := xe) (xz := xz) (ti := ti) (yc := yc) (yn := yn) (yo := yo) (ya := ya) (yb := yb) (yl := yl) (cu := cu) (ag := ag) (yv := yv) (yr := yr) (yt := yt) (yi := yi) (yk := yk) (ym := ym) (li := li) (ye := ye) (yd := yd) (ys := ys) (yz := yz) 8 0 st tk nt qu qn rg pl (mp_cn_le _ 8) (by omega) h
  exact ⟨st', tk', nt', qu', qn', rg', pl', fun post hq => by unfold wpX_wakeSleepers; exact ⟨9, hX post 9 (by omega) hq⟩, fun post hq => by unfold wpY_wake; dsimp only; exact my_ns h.2.2.2.2.2.2.2.2.1 ⟨9, hY post 9 (by omega) hq⟩, hR, k1, k2, k3⟩
end
end
section
section
variable {dl xc tc tm xn md lo en qn yc yn : Int32} {nt : Int64} {dO dA dB xo xa xb xl st xr rg xv pl tr xk xm wt xw xt xi mc xe xz ti yo ya yb yl cu ag yv yr yt yi yk ym li ye qu yd ys yz : Nat → Int32} {tk : Nat → Int64} {run i p : Nat} {T C : Int} {G : Nat → Int32 → Prop}
theorem mp_4a (p a : Nat) : 4 * nI p + nI a = nI (4 * p + a) := by rw [mp_4x, nI_add]
def mp_RR (p : Nat) (T C : Int) (tm xn yn : Int32) (u : SX) (v : SY) : Prop := ∃ (dl : Int32) (nt : Int64) (tc md lo en : Int32) (dO dA dB xo xa xb xl st xr rg xv pl tr xk xm wt xw xt xi mc : Nat → Int32) (tk : Nat → Int64) (xe xz ti : Nat → Int32) (qn : Int32) (yo ya yb yl cu ag yv yr yt yi yk ym li ye qu yd ys yz : Nat → Int32), u = (dl, nt, 0, tc, tm, xn, md, lo, en, dO, dA, dB, xo, xa, xb, xl, st, xr, rg, xv, pl, tr, xk, xm, wt, xw, xt, xi, mc, tk, xe, xz, ti) ∧ v = (dl, qn, 0, tm, tc, yn, md, lo, en, yo, ya, yb, yl, cu, ag, dO, dA, dB, st, rg, pl, yv, yr, tr, yt, yi, mc, yk, ym, wt, li, ye, qu, yd, ys, yz, ti) ∧ (st p = 1 → (mp_D dl dO dA dB ∧ mp_C xo xa xb xl yo ya yb yl cu ∧ mp_V st xv yv xl cu ∧ mp_P st pl ∧ mp_S st ∧ mp_M st mc xt xi yt yi ∧ mp_K st xk yk ∧ mp_K st xm ym ∧ mp_W st xw li ye tm ∧ mp_T tm tc ti T ∧ mp_Q st tk nt p qu qn ∧ mp_E st xr yr ∧ mp_Z 0 st xr xe xz 0 yd ys yz 0 ∧ mp_F st nt C ∧ mp_G (fun _ _ => True) st xv yz)) ∧ (st p ≠ 1 → (mp_D dl dO dA dB ∧ mp_C xo xa xb xl yo ya yb yl cu ∧ mp_V st xv yv xl cu ∧ mp_P st pl ∧ mp_S st ∧ mp_M st mc xt xi yt yi ∧ mp_K st xk yk ∧ mp_K st xm ym ∧ mp_W st xw li ye tm ∧ mp_T tm tc ti T ∧ mp_Q st tk nt 8 qu qn ∧ mp_E st xr yr ∧ mp_Z 0 st xr xe xz 0 yd ys yz 0 ∧ mp_F st nt C ∧ mp_G (fun _ _ => True) st xv yz))
theorem mp_RR_1 (h1 : st p = 1) (h : (mp_D dl dO dA dB ∧ mp_C xo xa xb xl yo ya yb yl cu ∧ mp_V st xv yv xl cu ∧ mp_P st pl ∧ mp_S st ∧ mp_M st mc xt xi yt yi ∧ mp_K st xk yk ∧ mp_K st xm ym ∧ mp_W st xw li ye tm ∧ mp_T tm tc ti T ∧ mp_Q st tk nt p qu qn ∧ mp_E st xr yr ∧ mp_Z 0 st xr xe xz 0 yd ys yz 0 ∧ mp_F st nt C ∧ mp_G (fun _ _ => True) st xv yz)) : mp_RR p T C tm xn yn (dl, nt, 0, tc, tm, xn, md, lo, en, dO, dA, dB, xo, xa, xb, xl, st, xr, rg, xv, pl, tr, xk, xm, wt, xw, xt, xi, mc, tk, xe, xz, ti) (dl, qn, 0, tm, tc, yn, md, lo, en, yo, ya, yb, yl, cu, ag, dO, dA, dB, st, rg, pl, yv, yr, tr, yt, yi, mc, yk, ym, wt, li, ye, qu, yd, ys, yz, ti) := ⟨dl, nt, tc, md, lo, en, dO, dA, dB, xo, xa, xb, xl, st, xr, rg, xv, pl, tr, xk, xm, wt, xw, xt, xi, mc, tk, xe, xz, ti, qn, yo, ya, yb, yl, cu, ag, yv, yr, yt, yi, yk, ym, li, ye, qu, yd, ys, yz, rfl, rfl, fun _ => h, fun z => absurd h1 z⟩
theorem mp_RR_2 (h1 : st p ≠ 1) (h : (mp_D dl dO dA dB ∧ mp_C xo xa xb xl yo ya yb yl cu ∧ mp_V st xv yv xl cu ∧ mp_P st pl ∧ mp_S st ∧ mp_M st mc xt xi yt yi ∧ mp_K st xk yk ∧ mp_K st xm ym ∧ mp_W st xw li ye tm ∧ mp_T tm tc ti T ∧ mp_Q st tk nt 8 qu qn ∧ mp_E st xr yr ∧ mp_Z 0 st xr xe xz 0 yd ys yz 0 ∧ mp_F st nt C ∧ mp_G (fun _ _ => True) st xv yz)) : mp_RR p T C tm xn yn (dl, nt, 0, tc, tm, xn, md, lo, en, dO, dA, dB, xo, xa, xb, xl, st, xr, rg, xv, pl, tr, xk, xm, wt, xw, xt, xi, mc, tk, xe, xz, ti) (dl, qn, 0, tm, tc, yn, md, lo, en, yo, ya, yb, yl, cu, ag, dO, dA, dB, st, rg, pl, yv, yr, tr, yt, yi, mc, yk, ym, wt, li, ye, qu, yd, ys, yz, ti) := ⟨dl, nt, tc, md, lo, en, dO, dA, dB, xo, xa, xb, xl, st, xr, rg, xv, pl, tr, xk, xm, wt, xw, xt, xi, mc, tk, xe, xz, ti, qn, yo, ya, yb, yl, cu, ag, yv, yr, yt, yi, yk, ym, li, ye, qu, yd, ys, yz, rfl, rfl, fun z => absurd z h1, fun _ => h⟩
theorem mp_RR_s (h : (mp_D dl dO dA dB ∧ mp_C xo xa xb xl yo ya yb yl cu ∧ mp_V st xv yv xl cu ∧ mp_P st pl ∧ mp_S st ∧ mp_M st mc xt xi yt yi ∧ mp_K st xk yk ∧ mp_K st xm ym ∧ mp_W st xw li ye tm ∧ mp_T tm tc ti T ∧ mp_Q st tk nt p qu qn ∧ mp_E st xr yr ∧ mp_Z 0 st xr xe xz 0 yd ys yz 0 ∧ mp_F st nt C ∧ mp_G (fun _ _ => True) st xv yz)) : mp_RR p T C tm xn yn (dl, nt, 0, tc, tm, xn, md, lo, en, dO, dA, dB, xo, xa, xb, xl, st, xr, rg, xv, pl, tr, xk, xm, wt, xw, xt, xi, mc, tk, xe, xz, ti) (dl, qn, 0, tm, tc, yn, md, lo, en, yo, ya, yb, yl, cu, ag, dO, dA, dB, st, rg, pl, yv, yr, tr, yt, yi, mc, yk, ym, wt, li, ye, qu, yd, ys, yz, ti) := ⟨dl, nt, tc, md, lo, en, dO, dA, dB, xo, xa, xb, xl, st, xr, rg, xv, pl, tr, xk, xm, wt, xw, xt, xi, mc, tk, xe, xz, ti, qn, yo, ya, yb, yl, cu, ag, yv, yr, yt, yi, yk, ym, li, ye, qu, yd, ys, yz, rfl, rfl, fun _ => h, fun z => mp_norun_R h z⟩
def mx_cd (u : SX) : (Nat → Int32) × (Nat → Int32) × (Nat → Int32) := match u with
  | (dl, nt, xc, tc, tm, xn, md, lo, en, dO, dA, dB, xo, xa, xb, xl, st, xr, rg, xv, pl, tr, xk, xm, wt, xw, xt, xi, mc, tk, xe, xz, ti) => (xo, xa, xb)
def my_disp (post : SY → Prop) (v : SY) (p op a b : Int32) : Prop := ((op < 6 ∨ op = 9) ∧ wpY_simple post v p op a b) ∨ (¬ op < 6 ∧ ¬ op = 9 ∧ op = 7 ∧ wpY_receive post v p a b) ∨ (¬ op < 6 ∧ ¬ op = 9 ∧ ¬ op = 7 ∧ 13 ≤ op ∧ wpY_last post v p op a b) ∨ (¬ op < 6 ∧ ¬ op = 9 ∧ ¬ op = 7 ∧ ¬ 13 ≤ op ∧ wpY_others post v p op a b)
def mp_OP (p : Nat) (op a b : Int32) (T C : Int) (tm xn yn : Int32) (u : SX) (v : SY) : Prop := ∃ (u1 u2 u3 : SX) (v3 : SY), (∀ post : SX → Prop, post u1 → wpX_doAlone post u (nI p) op a b) ∧ (∀ post : SX → Prop, post u2 → wpX_doWithOthers post u1 (nI p) op a b) ∧ (∀ post : SX → Prop, post u3 → wpX_finishEndings post u2) ∧ (∀ post : SY → Prop, post v3 → my_disp post v (nI p) op a b) ∧ mx_cd u1 = mx_cd u ∧ mp_RR p T C tm xn yn u3 v3
/-- what stands alone and marks none -/
theorem mp_op_a {op a b : Int32} {u' : SX} {v' : SY} (hA : ∀ post : SX → Prop, post u' → wpX_doAlone post (dl, nt, 0, tc, tm, xn, md, lo, en, dO, dA, dB, xo, xa, xb, xl, st, xr, rg, xv, pl, tr, xk, xm, wt, xw, xt, xi, mc, tk, xe, xz, ti) (nI p) op a b) (hB : ∀ post : SX → Prop, post u' → wpX_doWithOthers post u' (nI p) op a b) (hF : ∀ post : SX → Prop, post u' → wpX_finishEndings post u') (hY : ∀ post : SY → Prop, post v' → my_disp post (dl, qn, 0, tm, tc, yn, md, lo, en, yo, ya, yb, yl, cu, ag, dO, dA, dB, st, rg, pl, yv, yr, tr, yt, yi, mc, yk, ym, wt, li, ye, qu, yd, ys, yz, ti) (nI p) op a b) (hc : mx_cd u' = (xo, xa, xb)) (hR : mp_RR p T C tm xn yn u' v') : mp_OP p op a b T C tm xn yn (dl, nt, 0, tc, tm, xn, md, lo, en, dO, dA, dB, xo, xa, xb, xl, st, xr, rg, xv, pl, tr, xk, xm, wt, xw, xt, xi, mc, tk, xe, xz, ti) (dl, qn, 0, tm, tc, yn, md, lo, en, yo, ya, yb, yl, cu, ag, dO, dA, dB, st, rg, pl, yv, yr, tr, yt, yi, mc, yk, ym, wt, li, ye, qu, yd, ys, yz, ti) := ⟨u', u', u', v', hA, hB, hF, hY, hc, hR⟩
theorem mp_op0 {a b : Int32} (h : (mp_D dl dO dA dB ∧ mp_C xo xa xb xl yo ya yb yl cu ∧ mp_V st xv yv xl cu ∧ mp_P st pl ∧ mp_S st ∧ mp_M st mc xt xi yt yi ∧ mp_K st xk yk ∧ mp_K st xm ym ∧ mp_W st xw li ye tm ∧ mp_T tm tc ti T ∧ mp_Q st tk nt p qu qn ∧ mp_E st xr yr ∧ mp_Z 0 st xr xe xz 0 yd ys yz 0 ∧ mp_F st nt C ∧ mp_G (fun _ _ => True) st xv yz)) (hp : p < 8) (h1 : st p = 1) (ha : mp_lt a 4) : mp_OP p 0 a b T C tm xn yn (dl, nt, 0, tc, tm, xn, md, lo, en, dO, dA, dB, xo, xa, xb, xl, st, xr, rg, xv, pl, tr, xk, xm, wt, xw, xt, xi, mc, tk, xe, xz, ti) (dl, qn, 0, tm, tc, yn, md, lo, en, yo, ya, yb, yl, cu, ag, dO, dA, dB, st, rg, pl, yv, yr, tr, yt, yi, mc, yk, ym, wt, li, ye, qu, yd, ys, yz, ti) := by
  obtain ⟨j, hj, rfl⟩ := ha
  have c := nI_clamp (n := 4 * p + j) (by omega)
  have I := vp_in_nI (n := 4 * p + j) (N := 32) (by omega) (by omega)
  refine mp_op_a (u' := (dl, nt, 0, tc, tm, xn, md, lo, en, dO, dA, dB, xo, xa, xb, xl, st, xr, upd rg (4 * p + j) b, xv, pl, tr, xk, xm, wt, xw, xt, xi, mc, tk, xe, xz, ti)) (v' := (dl, qn, 0, tm, tc, yn, md, lo, en, yo, ya, yb, yl, cu, ag, dO, dA, dB, st, upd rg (4 * p + j) b, pl, yv, yr, tr, yt, yi, mc, yk, ym, wt, li, ye, qu, yd, ys, yz, ti)) (fun post hq => ?_) (fun post hq => ?_) (fun post hq => mx_fin0 hq) (fun post hq => Or.inl ⟨by decide, ?_⟩) rfl (mp_RR_1 h1 h)
  · refine nm_r (mp_x4 p) (br_f (by decide) (br_f (by decide) (br_t rfl ?_)))
    rw [nI_add, c]
    exact ⟨I, nm_e hq⟩
  · refine nm_r (mp_x4 p) (br_t (by decide) ?_)
    exact hq
  · refine nm_r (mp_4a p _) (br_f (by decide) (br_f (by decide) (br_t rfl ?_)))
    rw [c]
    exact ⟨I, nm_e hq⟩
theorem mp_op1 {a b : Int32} (h : (mp_D dl dO dA dB ∧ mp_C xo xa xb xl yo ya yb yl cu ∧ mp_V st xv yv xl cu ∧ mp_P st pl ∧ mp_S st ∧ mp_M st mc xt xi yt yi ∧ mp_K st xk yk ∧ mp_K st xm ym ∧ mp_W st xw li ye tm ∧ mp_T tm tc ti T ∧ mp_Q st tk nt p qu qn ∧ mp_E st xr yr ∧ mp_Z 0 st xr xe xz 0 yd ys yz 0 ∧ mp_F st nt C ∧ mp_G (fun _ _ => True) st xv yz)) (hp : p < 8) (h1 : st p = 1) (ha : mp_lt a 4) (hb : mp_lt b 4) : mp_OP p 1 a b T C tm xn yn (dl, nt, 0, tc, tm, xn, md, lo, en, dO, dA, dB, xo, xa, xb, xl, st, xr, rg, xv, pl, tr, xk, xm, wt, xw, xt, xi, mc, tk, xe, xz, ti) (dl, qn, 0, tm, tc, yn, md, lo, en, yo, ya, yb, yl, cu, ag, dO, dA, dB, st, rg, pl, yv, yr, tr, yt, yi, mc, yk, ym, wt, li, ye, qu, yd, ys, yz, ti) := by
  obtain ⟨j, hj, rfl⟩ := ha
  obtain ⟨k, hk, rfl⟩ := hb
  have c := nI_clamp (n := 4 * p + j) (by omega)
  have I := vp_in_nI (n := 4 * p + j) (N := 32) (by omega) (by omega)
  have c2 := nI_clamp (n := 4 * p + k) (by omega)
  have I2 := vp_in_nI (n := 4 * p + k) (N := 32) (by omega) (by omega)
  refine mp_op_a (u' := (dl, nt, 0, tc, tm, xn, md, lo, en, dO, dA, dB, xo, xa, xb, xl, st, xr, upd rg (4 * p + j) (rg (4 * p + j) + rg (4 * p + k)), xv, pl, tr, xk, xm, wt, xw, xt, xi, mc, tk, xe, xz, ti)) (v' := (dl, qn, 0, tm, tc, yn, md, lo, en, yo, ya, yb, yl, cu, ag, dO, dA, dB, st, upd rg (4 * p + j) (rg (4 * p + j) + rg (4 * p + k)), pl, yv, yr, tr, yt, yi, mc, yk, ym, wt, li, ye, qu, yd, ys, yz, ti)) (fun post hq => ?_) (fun post hq => ?_) (fun post hq => mx_fin0 hq) (fun post hq => Or.inl ⟨by decide, ?_⟩) rfl (mp_RR_1 h1 h)
  · refine nm_r (mp_x4 p) (br_f (by decide) (br_f (by decide) (br_f (by decide) (br_t rfl ?_))))
    rw [nI_add, nI_add, c, c2]
    exact ⟨I, I2, I, nm_e hq⟩
  · refine nm_r (mp_x4 p) (br_t (by decide) ?_)
    exact hq
  · refine nm_r (mp_4a p _) (br_f (by decide) (br_f (by decide) (br_f (by decide) (br_t rfl ?_))))
    rw [mp_4a, c, c2]
    exact ⟨I, I2, I, nm_e hq⟩
theorem mp_op2 {a b : Int32} (h : (mp_D dl dO dA dB ∧ mp_C xo xa xb xl yo ya yb yl cu ∧ mp_V st xv yv xl cu ∧ mp_P st pl ∧ mp_S st ∧ mp_M st mc xt xi yt yi ∧ mp_K st xk yk ∧ mp_K st xm ym ∧ mp_W st xw li ye tm ∧ mp_T tm tc ti T ∧ mp_Q st tk nt p qu qn ∧ mp_E st xr yr ∧ mp_Z 0 st xr xe xz 0 yd ys yz 0 ∧ mp_F st nt C ∧ mp_G (fun _ _ => True) st xv yz)) (hp : p < 8) (h1 : st p = 1) (ha : mp_lt a 4) (hb : mp_lt b 4) : mp_OP p 2 a b T C tm xn yn (dl, nt, 0, tc, tm, xn, md, lo, en, dO, dA, dB, xo, xa, xb, xl, st, xr, rg, xv, pl, tr, xk, xm, wt, xw, xt, xi, mc, tk, xe, xz, ti) (dl, qn, 0, tm, tc, yn, md, lo, en, yo, ya, yb, yl, cu, ag, dO, dA, dB, st, rg, pl, yv, yr, tr, yt, yi, mc, yk, ym, wt, li, ye, qu, yd, ys, yz, ti) := by
  obtain ⟨j, hj, rfl⟩ := ha
  obtain ⟨k, hk, rfl⟩ := hb
  have c := nI_clamp (n := 4 * p + j) (by omega)
  have I := vp_in_nI (n := 4 * p + j) (N := 32) (by omega) (by omega)
  have c2 := nI_clamp (n := 4 * p + k) (by omega)
  have I2 := vp_in_nI (n := 4 * p + k) (N := 32) (by omega) (by omega)
  refine mp_op_a (u' := (dl, nt, 0, tc, tm, xn, md, lo, en, dO, dA, dB, xo, xa, xb, xl, st, xr, upd rg (4 * p + j) (rg (4 * p + j) - rg (4 * p + k)), xv, pl, tr, xk, xm, wt, xw, xt, xi, mc, tk, xe, xz, ti)) (v' := (dl, qn, 0, tm, tc, yn, md, lo, en, yo, ya, yb, yl, cu, ag, dO, dA, dB, st, upd rg (4 * p + j) (rg (4 * p + j) - rg (4 * p + k)), pl, yv, yr, tr, yt, yi, mc, yk, ym, wt, li, ye, qu, yd, ys, yz, ti)) (fun post hq => ?_) (fun post hq => ?_) (fun post hq => mx_fin0 hq) (fun post hq => Or.inl ⟨by decide, ?_⟩) rfl (mp_RR_1 h1 h)
  · refine nm_r (mp_x4 p) (br_f (by decide) (br_f (by decide) (br_f (by decide) (br_f (by decide) (br_t rfl ?_)))))
    rw [nI_add, nI_add, c, c2]
    exact ⟨I, I2, I, nm_e hq⟩
  · refine nm_r (mp_x4 p) (br_t (by decide) ?_)
    exact hq
  · refine nm_r (mp_4a p _) (br_f (by decide) (br_f (by decide) (br_f (by decide) (br_f (by decide) (br_t rfl ?_)))))
    rw [mp_4a, c, c2]
    exact ⟨I, I2, I, nm_e hq⟩
theorem mp_op3 {a b : Int32} (h : (mp_D dl dO dA dB ∧ mp_C xo xa xb xl yo ya yb yl cu ∧ mp_V st xv yv xl cu ∧ mp_P st pl ∧ mp_S st ∧ mp_M st mc xt xi yt yi ∧ mp_K st xk yk ∧ mp_K st xm ym ∧ mp_W st xw li ye tm ∧ mp_T tm tc ti T ∧ mp_Q st tk nt p qu qn ∧ mp_E st xr yr ∧ mp_Z 0 st xr xe xz 0 yd ys yz 0 ∧ mp_F st nt C ∧ mp_G (fun _ _ => True) st xv yz)) (hp : p < 8) (h1 : st p = 1) (ha : mp_lt a 4) (hb : mp_lt b 4) : mp_OP p 3 a b T C tm xn yn (dl, nt, 0, tc, tm, xn, md, lo, en, dO, dA, dB, xo, xa, xb, xl, st, xr, rg, xv, pl, tr, xk, xm, wt, xw, xt, xi, mc, tk, xe, xz, ti) (dl, qn, 0, tm, tc, yn, md, lo, en, yo, ya, yb, yl, cu, ag, dO, dA, dB, st, rg, pl, yv, yr, tr, yt, yi, mc, yk, ym, wt, li, ye, qu, yd, ys, yz, ti) := by
  obtain ⟨j, hj, rfl⟩ := ha
  obtain ⟨k, hk, rfl⟩ := hb
  have c := nI_clamp (n := 4 * p + j) (by omega)
  have I := vp_in_nI (n := 4 * p + j) (N := 32) (by omega) (by omega)
  have c2 := nI_clamp (n := 4 * p + k) (by omega)
  have I2 := vp_in_nI (n := 4 * p + k) (N := 32) (by omega) (by omega)
  refine mp_op_a (u' := (dl, nt, 0, tc, tm, xn, md, lo, en, dO, dA, dB, xo, xa, xb, xl, st, xr, upd rg (4 * p + j) (rg (4 * p + k)), xv, pl, tr, xk, xm, wt, xw, xt, xi, mc, tk, xe, xz, ti)) (v' := (dl, qn, 0, tm, tc, yn, md, lo, en, yo, ya, yb, yl, cu, ag, dO, dA, dB, st, upd rg (4 * p + j) (rg (4 * p + k)), pl, yv, yr, tr, yt, yi, mc, yk, ym, wt, li, ye, qu, yd, ys, yz, ti)) (fun post hq => ?_) (fun post hq => ?_) (fun post hq => mx_fin0 hq) (fun post hq => Or.inl ⟨by decide, ?_⟩) rfl (mp_RR_1 h1 h)
  · refine nm_r (mp_x4 p) (br_f (by decide) (br_f (by decide) (br_f (by decide) (br_f (by decide) (br_f (by decide) (br_t rfl ?_))))))
    rw [nI_add, nI_add, c, c2]
    exact ⟨I2, I, nm_e hq⟩
  · refine nm_r (mp_x4 p) (br_t (by decide) ?_)
    exact hq
  · refine nm_r (mp_4a p _) (br_f (by decide) (br_f (by decide) (br_f (by decide) (br_f (by decide) (br_f (by decide) (br_t rfl ?_))))))
    rw [mp_4a, c, c2]
    exact ⟨I2, I, nm_e hq⟩
theorem mp_op4 {a b : Int32} (h : (mp_D dl dO dA dB ∧ mp_C xo xa xb xl yo ya yb yl cu ∧ mp_V st xv yv xl cu ∧ mp_P st pl ∧ mp_S st ∧ mp_M st mc xt xi yt yi ∧ mp_K st xk yk ∧ mp_K st xm ym ∧ mp_W st xw li ye tm ∧ mp_T tm tc ti T ∧ mp_Q st tk nt p qu qn ∧ mp_E st xr yr ∧ mp_Z 0 st xr xe xz 0 yd ys yz 0 ∧ mp_F st nt C ∧ mp_G (fun _ _ => True) st xv yz)) (hp : p < 8) (h1 : st p = 1) (ha : mp_lt a 24) : mp_OP p 4 a b T C tm xn yn (dl, nt, 0, tc, tm, xn, md, lo, en, dO, dA, dB, xo, xa, xb, xl, st, xr, rg, xv, pl, tr, xk, xm, wt, xw, xt, xi, mc, tk, xe, xz, ti) (dl, qn, 0, tm, tc, yn, md, lo, en, yo, ya, yb, yl, cu, ag, dO, dA, dB, st, rg, pl, yv, yr, tr, yt, yi, mc, yk, ym, wt, li, ye, qu, yd, ys, yz, ti) := by
  obtain ⟨j, hj, rfl⟩ := ha
  have c := nI_clamp (n := p) (by omega)
  have I := vp_in_nI (n := p) (N := 8) (by omega) (by omega)
  refine mp_op_a (u' := (dl, nt, 0, tc, tm, xn, md, lo, en, dO, dA, dB, xo, xa, xb, xl, st, xr, rg, xv, upd pl p (nI j), tr, xk, xm, wt, xw, xt, xi, mc, tk, xe, xz, ti)) (v' := (dl, qn, 0, tm, tc, yn, md, lo, en, yo, ya, yb, yl, cu, ag, dO, dA, dB, st, rg, upd pl p (nI j), yv, yr, tr, yt, yi, mc, yk, ym, wt, li, ye, qu, yd, ys, yz, ti)) (fun post hq => ?_) (fun post hq => ?_) (fun post hq => mx_fin0 hq) (fun post hq => Or.inl ⟨by decide, ?_⟩) rfl (mp_RR_1 h1 (mp_place_R h (by rw [h1]; decide) (by omega)))
  · refine nm_r (mp_x4 p) (br_f (by decide) (br_f (by decide) (br_f (by decide) (br_f (by decide) (br_f (by decide) (br_f (by decide) (br_t rfl ?_)))))))
    rw [c]
    exact ⟨I, nm_e hq⟩
  · refine nm_r (mp_x4 p) (br_t (by decide) ?_)
    exact hq
  · refine nm_r (mp_4a p _) (br_f (by decide) (br_f (by decide) (br_f (by decide) (br_f (by decide) (br_f (by decide) (br_f (by decide) (br_t rfl ?_)))))))
    rw [c]
    exact ⟨I, nm_e hq⟩
theorem mp_op5 {a b : Int32} (h : (mp_D dl dO dA dB ∧ mp_C xo xa xb xl yo ya yb yl cu ∧ mp_V st xv yv xl cu ∧ mp_P st pl ∧ mp_S st ∧ mp_M st mc xt xi yt yi ∧ mp_K st xk yk ∧ mp_K st xm ym ∧ mp_W st xw li ye tm ∧ mp_T tm tc ti T ∧ mp_Q st tk nt p qu qn ∧ mp_E st xr yr ∧ mp_Z 0 st xr xe xz 0 yd ys yz 0 ∧ mp_F st nt C ∧ mp_G (fun _ _ => True) st xv yz)) (hp : p < 8) (h1 : st p = 1) (ha : mp_lt a 4) (hb : mp_lt b 24) : mp_OP p 5 a b T C tm xn yn (dl, nt, 0, tc, tm, xn, md, lo, en, dO, dA, dB, xo, xa, xb, xl, st, xr, rg, xv, pl, tr, xk, xm, wt, xw, xt, xi, mc, tk, xe, xz, ti) (dl, qn, 0, tm, tc, yn, md, lo, en, yo, ya, yb, yl, cu, ag, dO, dA, dB, st, rg, pl, yv, yr, tr, yt, yi, mc, yk, ym, wt, li, ye, qu, yd, ys, yz, ti) := by
  obtain ⟨j, hj, rfl⟩ := ha
  obtain ⟨k, hk, rfl⟩ := hb
  have c := nI_clamp (n := p) (by omega)
  have I := vp_in_nI (n := p) (N := 8) (by omega) (by omega)
  have c2 := nI_clamp (n := 4 * p + j) (by omega)
  have I2 := vp_in_nI (n := 4 * p + j) (N := 32) (by omega) (by omega)
  by_cases hz : rg (4 * p + j) = 0
  · refine mp_op_a (u' := (dl, nt, 0, tc, tm, xn, md, lo, en, dO, dA, dB, xo, xa, xb, xl, st, xr, rg, xv, upd pl p (nI k), tr, xk, xm, wt, xw, xt, xi, mc, tk, xe, xz, ti)) (v' := (dl, qn, 0, tm, tc, yn, md, lo, en, yo, ya, yb, yl, cu, ag, dO, dA, dB, st, rg, upd pl p (nI k), yv, yr, tr, yt, yi, mc, yk, ym, wt, li, ye, qu, yd, ys, yz, ti)) (fun post hq => ?_) (fun post hq => ?_) (fun post hq => mx_fin0 hq) (fun post hq => Or.inl ⟨by decide, ?_⟩) rfl (mp_RR_1 h1 (mp_place_R h (by rw [h1]; decide) (by omega)))
    · refine nm_r (mp_x4 p) (br_f (by decide) (br_f (by decide) (br_f (by decide) (br_f (by decide) (br_f (by decide) (br_f (by decide) (br_f (by decide) (br_t rfl ?_))))))))
      rw [nI_add, c, c2]
      exact ⟨I2, br_t hz ⟨I, nm_e hq⟩⟩
    · refine nm_r (mp_x4 p) (br_t (by decide) ?_)
      exact hq
    · refine nm_r (mp_4a p _) (br_f (by decide) (br_f (by decide) (br_f (by decide) (br_f (by decide) (br_f (by decide) (br_f (by decide) (br_f (by decide) (br_t rfl ?_))))))))
      rw [c, c2]
      exact ⟨I2, br_t hz ⟨I, nm_e hq⟩⟩
  · refine mp_op_a (u' := (dl, nt, 0, tc, tm, xn, md, lo, en, dO, dA, dB, xo, xa, xb, xl, st, xr, rg, xv, pl, tr, xk, xm, wt, xw, xt, xi, mc, tk, xe, xz, ti)) (v' := (dl, qn, 0, tm, tc, yn, md, lo, en, yo, ya, yb, yl, cu, ag, dO, dA, dB, st, rg, pl, yv, yr, tr, yt, yi, mc, yk, ym, wt, li, ye, qu, yd, ys, yz, ti)) (fun post hq => ?_) (fun post hq => ?_) (fun post hq => mx_fin0 hq) (fun post hq => Or.inl ⟨by decide, ?_⟩) rfl (mp_RR_1 h1 h)
    · refine nm_r (mp_x4 p) (br_f (by decide) (br_f (by decide) (br_f (by decide) (br_f (by decide) (br_f (by decide) (br_f (by decide) (br_f (by decide) (br_t rfl ?_))))))))
      rw [nI_add, c, c2]
      exact ⟨I2, br_f hz ⟨I, I, nm_r (mp_upd_same rfl) hq⟩⟩
    · refine nm_r (mp_x4 p) (br_t (by decide) ?_)
      exact hq
    · refine nm_r (mp_4a p _) (br_f (by decide) (br_f (by decide) (br_f (by decide) (br_f (by decide) (br_f (by decide) (br_f (by decide) (br_f (by decide) (br_t rfl ?_))))))))
      rw [c2]
      exact ⟨I2, br_f hz hq⟩
theorem mp_op9 {a b : Int32} (h : (mp_D dl dO dA dB ∧ mp_C xo xa xb xl yo ya yb yl cu ∧ mp_V st xv yv xl cu ∧ mp_P st pl ∧ mp_S st ∧ mp_M st mc xt xi yt yi ∧ mp_K st xk yk ∧ mp_K st xm ym ∧ mp_W st xw li ye tm ∧ mp_T tm tc ti T ∧ mp_Q st tk nt p qu qn ∧ mp_E st xr yr ∧ mp_Z 0 st xr xe xz 0 yd ys yz 0 ∧ mp_F st nt C ∧ mp_G (fun _ _ => True) st xv yz)) (hp : p < 8) (h1 : st p = 1) (ha : mp_lt a 4) : mp_OP p 9 a b T C tm xn yn (dl, nt, 0, tc, tm, xn, md, lo, en, dO, dA, dB, xo, xa, xb, xl, st, xr, rg, xv, pl, tr, xk, xm, wt, xw, xt, xi, mc, tk, xe, xz, ti) (dl, qn, 0, tm, tc, yn, md, lo, en, yo, ya, yb, yl, cu, ag, dO, dA, dB, st, rg, pl, yv, yr, tr, yt, yi, mc, yk, ym, wt, li, ye, qu, yd, ys, yz, ti) := by
  obtain ⟨j, hj, rfl⟩ := ha
  have c := nI_clamp (n := 4 * p + j) (by omega)
  have I := vp_in_nI (n := 4 * p + j) (N := 32) (by omega) (by omega)
  refine mp_op_a (u' := (dl, nt, 0, tc, tm, xn, md, lo, en, dO, dA, dB, xo, xa, xb, xl, st, xr, upd rg (4 * p + j) (nI p), xv, pl, tr, xk, xm, wt, xw, xt, xi, mc, tk, xe, xz, ti)) (v' := (dl, qn, 0, tm, tc, yn, md, lo, en, yo, ya, yb, yl, cu, ag, dO, dA, dB, st, upd rg (4 * p + j) (nI p), pl, yv, yr, tr, yt, yi, mc, yk, ym, wt, li, ye, qu, yd, ys, yz, ti)) (fun post hq => ?_) (fun post hq => ?_) (fun post hq => mx_fin0 hq) (fun post hq => Or.inl ⟨by decide, ?_⟩) rfl (mp_RR_1 h1 h)
  · refine nm_r (mp_x4 p) (br_f (by decide) (br_f (by decide) (br_f (by decide) (br_f (by decide) (br_f (by decide) (br_f (by decide) (br_f (by decide) (br_f (by decide) (br_f (by decide) (br_f (by decide) (br_f (by decide) (br_t rfl ?_))))))))))))
    rw [nI_add, c]
    exact ⟨I, nm_e hq⟩
  · refine nm_r (mp_x4 p) (br_f (by decide) (br_f (by decide) (br_f (by decide) (br_f (by decide) (br_f (by decide) (br_t rfl ?_))))))
    exact hq
  · refine nm_r (mp_4a p _) (br_f (by decide) (br_t (by decide) ?_))
    rw [c]
    exact ⟨I, nm_e hq⟩
end
end
section
section
variable {dl xc tc tm xn md lo en qn yc yn : Int32} {nt : Int64} {dO dA dB xo xa xb xl st xr rg xv pl tr xk xm wt xw xt xi mc xe xz ti yo ya yb yl cu ag yv yr yt yi yk ym li ye qu yd ys yz : Nat → Int32} {tk : Nat → Int64} {run i p : Nat} {T C : Int} {G : Nat → Int32 → Prop}
theorem mp_doom_0 {reason : Int32} (h : (mp_D dl dO dA dB ∧ mp_C xo xa xb xl yo ya yb yl cu ∧ mp_V st xv yv xl cu ∧ mp_P st pl ∧ mp_S st ∧ mp_M st mc xt xi yt yi ∧ mp_K st xk yk ∧ mp_K st xm ym ∧ mp_W st xw li ye tm ∧ mp_T tm tc ti T ∧ mp_Q st tk nt run qu qn ∧ mp_E st xr yr ∧ mp_Z 0 st xr xe xz 0 yd ys yz 0 ∧ mp_F st nt C ∧ mp_G G st xv yz)) (hp : p < 8) (ha : mp_al st p) : xz p = 0 ∧ yz p = 0 ∧ (mp_D dl dO dA dB ∧ mp_C xo xa xb xl yo ya yb yl cu ∧ mp_V st xv yv xl cu ∧ mp_P st pl ∧ mp_S st ∧ mp_M st mc xt xi yt yi ∧ mp_K st xk yk ∧ mp_K st xm ym ∧ mp_W st xw li ye tm ∧ mp_T tm tc ti T ∧ mp_Q st tk nt run qu qn ∧ mp_E st (upd xr p reason) yr ∧ mp_Z 0 st (upd xr p reason) (upd xe 0 (nI p)) (upd xz p 1) (nI (0 + 1)) (upd yd 0 (nI p)) (upd ys 0 reason) (upd yz p 1) (nI (0 + 1)) ∧ mp_F st nt C ∧ mp_G (fun q v => G q v ∧ q ≠ p) st xv (upd yz p 1)) := by
  have hz := (mp_Z_none h.2.2.2.2.2.2.2.2.2.2.2.2.1).2 p hp
  obtain ⟨d, hd, e1, e2, hR⟩ := mp_doom_R (reason := reason) h hp ha hz.1
  have e : d = 0 := by
    have w : nI 0 = nI d := e1
    rw [nI_eq (by omega) (by omega)] at w
    exact w.symm
  subst e
  exact ⟨hz.2, hz.1, hR⟩
theorem mp_strike {q : Nat} (h : (mp_D dl dO dA dB ∧ mp_C xo xa xb xl yo ya yb yl cu ∧ mp_V st xv yv xl cu ∧ mp_P st pl ∧ mp_S st ∧ mp_M st mc xt xi yt yi ∧ mp_K st xk yk ∧ mp_K st xm ym ∧ mp_W st xw li ye tm ∧ mp_T tm tc ti T ∧ mp_Q st tk nt run qu qn ∧ mp_E st xr yr ∧ mp_Z 0 st xr xe xz 0 yd ys yz 0 ∧ mp_F st nt C ∧ mp_G G st xv yz)) (hq : q < 8) (haq : mp_al st q) (fr reason : Int32) : ∃ (st' : Nat → Int32) (tk' : Nat → Int64) (nt' : Int64) (qu' : Nat → Int32) (qn' : Int32) (mc' xt' xi' yt' yi' : Nat → Int32) (lo' : Int32) (xr' xe' xz' : Nat → Int32) (xc' : Int32) (yd' ys' yz' : Nat → Int32) (yc' : Int32) (st'' : Nat → Int32) (tk'' : Nat → Int64) (nt'' : Int64) (qu'' : Nat → Int32) (qn'' : Int32) (mc'' xt'' xi'' yt'' yi'' : Nat → Int32) (lo'' : Int32) (xr'' xe'' xz'' : Nat → Int32) (xc'' : Int32) (yd'' ys'' yz'' : Nat → Int32) (yc'' : Int32) (xk'' yk'' xm'' ym'' yr'' : Nat → Int32) (en'' : Int32), (∀ post : SX → Prop, post (dl, nt', xc', tc, tm, xn, md, lo', en, dO, dA, dB, xo, xa, xb, xl, st', xr', rg, xv, pl, tr, xk, xm, wt, xw, xt', xi', mc', tk', xe', xz', ti) → wpX_giveSignal post (dl, nt, 0, tc, tm, xn, md, lo, en, dO, dA, dB, xo, xa, xb, xl, st, xr, rg, xv, pl, tr, xk, xm, wt, xw, xt, xi, mc, tk, xe, xz, ti) fr (nI q) reason 1) ∧ (∀ post : SX → Prop, post (dl, nt'', 0, tc, tm, xn, md, lo'', en'', dO, dA, dB, xo, xa, xb, xl, st'', xr'', rg, xv, pl, tr, xk'', xm'', wt, xw, xt'', xi'', mc'', tk'', xe'', xz'', ti) → wpX_finishEndings post (dl, nt', xc', tc, tm, xn, md, lo', en, dO, dA, dB, xo, xa, xb, xl, st', xr', rg, xv, pl, tr, xk, xm, wt, xw, xt', xi', mc', tk', xe', xz', ti)) ∧ (∀ post : SY → Prop, post (dl, qn'', 0, tm, tc, yn, md, lo'', en'', yo, ya, yb, yl, cu, ag, dO, dA, dB, st'', rg, pl, yv, yr'', tr, yt'', yi'', mc'', yk'', ym'', wt, li, ye, qu'', yd'', ys'', yz'', ti) → wpY_strike post (dl, qn, 0, tm, tc, yn, md, lo, en, yo, ya, yb, yl, cu, ag, dO, dA, dB, st, rg, pl, yv, yr, tr, yt, yi, mc, yk, ym, wt, li, ye, qu, yd, ys, yz, ti) fr (nI q) reason) ∧ (mp_D dl dO dA dB ∧ mp_C xo xa xb xl yo ya yb yl cu ∧ mp_V st'' xv yv xl cu ∧ mp_P st'' pl ∧ mp_S st'' ∧ mp_M st'' mc'' xt'' xi'' yt'' yi'' ∧ mp_K st'' xk'' yk'' ∧ mp_K st'' xm'' ym'' ∧ mp_W st'' xw li ye tm ∧ mp_T tm tc ti T ∧ mp_Q st'' tk'' nt'' run qu'' qn'' ∧ mp_E st'' xr'' yr'' ∧ mp_Z 0 st'' xr'' xe'' xz'' 0 yd'' ys'' yz'' 0 ∧ mp_F st'' nt'' C ∧ mp_G G st'' xv yz'') := by
  by_cases h9 : reason = 9
  · obtain ⟨hx, hy, h1⟩ := mp_doom_0 (reason := 8) h hq haq
    have h2 := mp_G_R h1 (G' := G) (fun q v z => z.1)
    obtain ⟨st'', tk'', nt'', qu'', qn'', mc'', xt'', xi'', yt'', yi'', lo'', xr'', xe'', xz'', xc'', yd'', ys'', yz'', yc'', xk'', yk'', xm'', ym'', yr'', en'', hX, hY, hR⟩ := mp_settle (dl := dl) (nt := nt) (xc := nI (0 + 1)) (tc := tc) (tm := tm) (xn := xn) (md := md) (lo := lo) (en := en) (dO := dO) (dA := dA) (dB := dB) (xo := xo) (xa := xa) (xb := xb) (xl := xl) (st := st) (xr := upd xr q 8) (rg := rg) (xv := xv) (pl := pl) (tr := tr) (xk := xk) (xm := xm) (wt := wt) (xw := xw) (xt := xt) (xi := xi) (mc := mc) (tk := tk) (xe := upd xe 0 (nI q)) (xz := upd xz q 1) (ti := ti) (qn := qn) (yc := nI (0 + 1)) (yn := yn) (yo := yo) (ya := ya) (yb := yb) (yl := yl) (cu := cu) (ag := ag) (yv := yv) (yr := yr) (yt := yt) (yi := yi) (yk := yk) (ym := ym) (li := li) (ye := ye) (qu := qu) (yd := upd yd 0 (nI q)) (ys := upd ys 0 8) (yz := upd yz q 1) h2
    refine ⟨st, tk, nt, qu, qn, mc, xt, xi, yt, yi, lo, upd xr q 8, upd xe 0 (nI q), upd xz q 1, nI (0 + 1), upd yd 0 (nI q), upd ys 0 8, upd yz q 1, nI (0 + 1), st'', tk'', nt'', qu'', qn'', mc'', xt'', xi'', yt'', yi'', lo'', xr'', xe'', xz'', xc'', yd'', ys'', yz'', yc'', xk'', yk'', xm'', ym'', yr'', en'', fun post hq' => ?_, hX, fun post hq' => ?_, hR⟩
    · exact br_f (by decide) (br_t h9 (mx_mark (d := 0) hq (by omega) hx hq'))
    · exact br_t h9 (my_doom (d := 0) hq (by omega) hy (hY _ hq'))
  · obtain ⟨st', tk', nt', qu', qn', mc', xt', xi', yt', yi', lo', xr', xe', xz', xc', yd', ys', yz', yc', hX1, hY1, hR1, _, _⟩ := mp_signal (dl := dl) (nt := nt) (xc := 0) (tc := tc) (tm := tm) (xn := xn) (md := md) (lo := lo) (en := en) (dO := dO) (dA := dA) (dB := dB) (xo := xo) (xa := xa) (xb := xb) (xl := xl) (st := st) (xr := xr) (rg := rg) (xv := xv) (pl := pl) (tr := tr) (xk := xk) (xm := xm) (wt := wt) (xw := xw) (xt := xt) (xi := xi) (mc := mc) (tk := tk) (xe := xe) (xz := xz) (ti := ti) (qn := qn) (yc := 0) (yn := yn) (yo := yo) (ya := ya) (yb := yb) (yl := yl) (cu := cu) (ag := ag) (yv := yv) (yr := yr) (yt := yt) (yi := yi) (yk := yk) (ym := ym) (li := li) (ye := ye) (qu := qu) (yd := yd) (ys := ys) (yz := yz) h hq haq fr reason
    obtain ⟨st'', tk'', nt'', qu'', qn'', mc'', xt'', xi'', yt'', yi'', lo'', xr'', xe'', xz'', xc'', yd'', ys'', yz'', yc'', xk'', yk'', xm'', ym'', yr'', en'', hX, hY, hR⟩ := mp_settle (dl := dl) (nt := nt') (xc := xc') (tc := tc) (tm := tm) (xn := xn) (md := md) (lo := lo') (en := en) (dO := dO) (dA := dA) (dB := dB) (xo := xo) (xa := xa) (xb := xb) (xl := xl) (st := st') (xr := xr') (rg := rg) (xv := xv) (pl := pl) (tr := tr) (xk := xk) (xm := xm) (wt := wt) (xw := xw) (xt := xt') (xi := xi') (mc := mc') (tk := tk') (xe := xe') (xz := xz') (ti := ti) (qn := qn') (yc := yc') (yn := yn) (yo := yo) (ya := ya) (yb := yb) (yl := yl) (cu := cu) (ag := ag) (yv := yv) (yr := yr) (yt := yt') (yi := yi') (yk := yk) (ym := ym) (li := li) (ye := ye) (qu := qu') (yd := yd') (ys := ys') (yz := yz') hR1
    refine ⟨st', tk', nt', qu', qn', mc', xt', xi', yt', yi', lo', xr', xe', xz', xc', yd', ys', yz', yc', st'', tk'', nt'', qu'', qn'', mc'', xt'', xi'', yt'', yi'', lo'', xr'', xe'', xz'', xc'', yd'', ys'', yz'', yc'', xk'', yk'', xm'', ym'', yr'', en'', fun post hq' => ?_, hX, fun post hq' => ?_, hR⟩
    · exact br_f (by decide) (br_f h9 (hX1 _ hq'))
    · exact br_f h9 (hY1 _ (hY _ hq'))
theorem mp_op13 {a b : Int32} (h : (mp_D dl dO dA dB ∧ mp_C xo xa xb xl yo ya yb yl cu ∧ mp_V st xv yv xl cu ∧ mp_P st pl ∧ mp_S st ∧ mp_M st mc xt xi yt yi ∧ mp_K st xk yk ∧ mp_K st xm ym ∧ mp_W st xw li ye tm ∧ mp_T tm tc ti T ∧ mp_Q st tk nt p qu qn ∧ mp_E st xr yr ∧ mp_Z 0 st xr xe xz 0 yd ys yz 0 ∧ mp_F st nt C ∧ mp_G (fun _ _ => True) st xv yz)) (hp : p < 8) (h1 : st p = 1) (ha : mp_lt a 4) (hb : mp_lt b 4) : mp_OP p 13 a b T C tm xn yn (dl, nt, 0, tc, tm, xn, md, lo, en, dO, dA, dB, xo, xa, xb, xl, st, xr, rg, xv, pl, tr, xk, xm, wt, xw, xt, xi, mc, tk, xe, xz, ti) (dl, qn, 0, tm, tc, yn, md, lo, en, yo, ya, yb, yl, cu, ag, dO, dA, dB, st, rg, pl, yv, yr, tr, yt, yi, mc, yk, ym, wt, li, ye, qu, yd, ys, yz, ti) := by
  obtain ⟨j, hj, rfl⟩ := ha
  obtain ⟨k, hk, rfl⟩ := hb
  have c := nI_clamp (n := 4 * p + j) (by omega)
  have I := vp_in_nI (n := 4 * p + j) (N := 32) (by omega) (by omega)
  have c2 := nI_clamp (n := 4 * p + k) (by omega)
  have I2 := vp_in_nI (n := 4 * p + k) (N := 32) (by omega) (by omega)
  have a3 : nI j &&& 3 = nI j := by
    rw [pk_andN (by omega) 2 mp_3]
    exact congrArg nI (Nat.mod_eq_of_lt hj)
  rcases mp_alx h.2.2.2.2.1 (rg (4 * p + j)) with ⟨q, hq, eq, haq⟩ | ⟨hd, _⟩
  · obtain ⟨st', tk', nt', qu', qn', mc', xt', xi', yt', yi', lo', xr', xe', xz', xc', yd', ys', yz', yc', st'', tk'', nt'', qu'', qn'', mc'', xt'', xi'', yt'', yi'', lo'', xr'', xe'', xz'', xc'', yd'', ys'', yz'', yc'', xk'', yk'', xm'', ym'', yr'', en'', hX1, hX2, hY, hR⟩ := mp_strike (dl := dl) (nt := nt) (tc := tc) (tm := tm) (xn := xn) (md := md) (lo := lo) (en := en) (dO := dO) (dA := dA) (dB := dB) (xo := xo) (xa := xa) (xb := xb) (xl := xl) (st := st) (xr := xr) (rg := rg) (xv := xv) (pl := pl) (tr := tr) (xk := xk) (xm := xm) (wt := wt) (xw := xw) (xt := xt) (xi := xi) (mc := mc) (tk := tk) (xe := xe) (xz := xz) (ti := ti) (qn := qn) (yn := yn) (yo := yo) (ya := ya) (yb := yb) (yl := yl) (cu := cu) (ag := ag) (yv := yv) (yr := yr) (yt := yt) (yi := yi) (yk := yk) (ym := ym) (li := li) (ye := ye) (qu := qu) (yd := yd) (ys := ys) (yz := yz) (run := p) (T := T) (C := C) (G := fun _ _ => True) h hq haq (nI p) (rg (4 * p + k))
    refine ⟨(dl, nt, 0, tc, tm, xn, md, lo, en, dO, dA, dB, xo, xa, xb, xl, st, xr, rg, xv, pl, tr, xk, xm, wt, xw, xt, xi, mc, tk, xe, xz, ti), (dl, nt', xc', tc, tm, xn, md, lo', en, dO, dA, dB, xo, xa, xb, xl, st', xr', rg, xv, pl, tr, xk, xm, wt, xw, xt', xi', mc', tk', xe', xz', ti), (dl, nt'', 0, tc, tm, xn, md, lo'', en'', dO, dA, dB, xo, xa, xb, xl, st'', xr'', rg, xv, pl, tr, xk'', xm'', wt, xw, xt'', xi'', mc'', tk'', xe'', xz'', ti), (dl, qn'', 0, tm, tc, yn, md, lo'', en'', yo, ya, yb, yl, cu, ag, dO, dA, dB, st'', rg, pl, yv, yr'', tr, yt'', yi'', mc'', yk'', ym'', wt, li, ye, qu'', yd'', ys'', yz'', ti), fun post hq' => ?_, fun post hq' => ?_, hX2, fun post hq' => Or.inr (Or.inr (Or.inl ⟨by decide, by decide, by decide, by decide, ?_⟩)), rfl, mp_RR_s hR⟩
    · refine nm_r (mp_x4 p) (br_f (by decide) (br_f (by decide) (br_f (by decide) (br_f (by decide) (br_f (by decide) (br_f (by decide) (br_f (by decide) (br_f (by decide) (br_f (by decide) (br_f (by decide) (br_f (by decide) (br_f (by decide) (br_f (by decide) (br_f (by decide) (br_f (by decide) (br_t rfl ?_))))))))))))))))
      exact hq'
    · refine nm_r (mp_x4 p) (br_f (by decide) (br_f (by decide) (br_f (by decide) (br_f (by decide) (br_f (by decide) (br_f (by decide) (br_f (by decide) (br_f (by decide) (br_f (by decide) (br_t rfl ?_))))))))))
      rw [nI_add, nI_add, c, c2, eq]
      exact ⟨I, mx_al_t hq haq (br_f (by decide) ⟨I, I2, hX1 _ hq'⟩)⟩
    · unfold wpY_last
      dsimp only
      rw [a3, mp_4a, mp_4a, c, c2]
      refine ⟨I, nm_r eq (br_f (by decide) (br_f (by decide) (br_t rfl ?_)))⟩
      exact my_al_t hq haq (br_f (by decide) ⟨I2, hY _ hq'⟩)
  · refine mp_op_a (u' := (dl, nt, 0, tc, tm, xn, md, lo, en, dO, dA, dB, xo, xa, xb, xl, st, xr, rg, xv, pl, tr, xk, xm, wt, xw, xt, xi, mc, tk, xe, xz, ti)) (v' := (dl, qn, 0, tm, tc, yn, md, lo, en, yo, ya, yb, yl, cu, ag, dO, dA, dB, st, rg, pl, yv, yr, tr, yt, yi, mc, yk, ym, wt, li, ye, qu, yd, ys, yz, ti)) (fun post hq => ?_) (fun post hq => ?_) (fun post hq => mx_fin0 hq) (fun post hq => Or.inr (Or.inr (Or.inl ⟨by decide, by decide, by decide, by decide, ?_⟩))) rfl (mp_RR_1 h1 h)
    · refine nm_r (mp_x4 p) (br_f (by decide) (br_f (by decide) (br_f (by decide) (br_f (by decide) (br_f (by decide) (br_f (by decide) (br_f (by decide) (br_f (by decide) (br_f (by decide) (br_f (by decide) (br_f (by decide) (br_f (by decide) (br_f (by decide) (br_f (by decide) (br_f (by decide) (br_t rfl ?_))))))))))))))))
      exact hq
    · refine nm_r (mp_x4 p) (br_f (by decide) (br_f (by decide) (br_f (by decide) (br_f (by decide) (br_f (by decide) (br_f (by decide) (br_f (by decide) (br_f (by decide) (br_f (by decide) (br_t rfl ?_))))))))))
      rw [nI_add, c]
      exact ⟨I, mx_al_f hd (br_t rfl hq)⟩
    · unfold wpY_last
      dsimp only
      rw [a3, mp_4a, c]
      refine ⟨I, nm_e (br_f (by decide) (br_f (by decide) (br_t rfl ?_)))⟩
      exact my_al_f hd (br_t rfl hq)
theorem mp_op14 {a b : Int32} (h : (mp_D dl dO dA dB ∧ mp_C xo xa xb xl yo ya yb yl cu ∧ mp_V st xv yv xl cu ∧ mp_P st pl ∧ mp_S st ∧ mp_M st mc xt xi yt yi ∧ mp_K st xk yk ∧ mp_K st xm ym ∧ mp_W st xw li ye tm ∧ mp_T tm tc ti T ∧ mp_Q st tk nt p qu qn ∧ mp_E st xr yr ∧ mp_Z 0 st xr xe xz 0 yd ys yz 0 ∧ mp_F st nt C ∧ mp_G (fun _ _ => True) st xv yz)) (hp : p < 8) (h1 : st p = 1) (ha : mp_lt a 4) : mp_OP p 14 a b T C tm xn yn (dl, nt, 0, tc, tm, xn, md, lo, en, dO, dA, dB, xo, xa, xb, xl, st, xr, rg, xv, pl, tr, xk, xm, wt, xw, xt, xi, mc, tk, xe, xz, ti) (dl, qn, 0, tm, tc, yn, md, lo, en, yo, ya, yb, yl, cu, ag, dO, dA, dB, st, rg, pl, yv, yr, tr, yt, yi, mc, yk, ym, wt, li, ye, qu, yd, ys, yz, ti) := by
  obtain ⟨j, hj, rfl⟩ := ha
  have c := nI_clamp (n := 4 * p + j) (by omega)
  have I := vp_in_nI (n := 4 * p + j) (N := 32) (by omega) (by omega)
  have a3 : nI j &&& 3 = nI j := by
    rw [pk_andN (by omega) 2 mp_3]
    exact congrArg nI (Nat.mod_eq_of_lt hj)
  obtain ⟨hx, hy, h2⟩ := mp_doom_0 (reason := rg (4 * p + j)) h hp (Or.inl h1)
  have h3 := mp_G_R h2 (G' := fun _ _ => True) (fun q v z => z.1)
  obtain ⟨st'', tk'', nt'', qu'', qn'', mc'', xt'', xi'', yt'', yi'', lo'', xr'', xe'', xz'', xc'', yd'', ys'', yz'', yc'', xk'', yk'', xm'', ym'', yr'', en'', hX, hY, hR⟩ := mp_settle (dl := dl) (nt := nt) (xc := nI (0 + 1)) (tc := tc) (tm := tm) (xn := xn) (md := md) (lo := lo) (en := en) (dO := dO) (dA := dA) (dB := dB) (xo := xo) (xa := xa) (xb := xb) (xl := xl) (st := st) (xr := upd xr p (rg (4 * p + j))) (rg := rg) (xv := xv) (pl := pl) (tr := tr) (xk := xk) (xm := xm) (wt := wt) (xw := xw) (xt := xt) (xi := xi) (mc := mc) (tk := tk) (xe := upd xe 0 (nI p)) (xz := upd xz p 1) (ti := ti) (qn := qn) (yc := nI (0 + 1)) (yn := yn) (yo := yo) (ya := ya) (yb := yb) (yl := yl) (cu := cu) (ag := ag) (yv := yv) (yr := yr) (yt := yt) (yi := yi) (yk := yk) (ym := ym) (li := li) (ye := ye) (qu := qu) (yd := upd yd 0 (nI p)) (ys := upd ys 0 (rg (4 * p + j))) (yz := upd yz p 1) h3
  refine ⟨(dl, nt, nI (0 + 1), tc, tm, xn, md, lo, en, dO, dA, dB, xo, xa, xb, xl, st, upd xr p (rg (4 * p + j)), rg, xv, pl, tr, xk, xm, wt, xw, xt, xi, mc, tk, upd xe 0 (nI p), upd xz p 1, ti), (dl, nt, nI (0 + 1), tc, tm, xn, md, lo, en, dO, dA, dB, xo, xa, xb, xl, st, upd xr p (rg (4 * p + j)), rg, xv, pl, tr, xk, xm, wt, xw, xt, xi, mc, tk, upd xe 0 (nI p), upd xz p 1, ti), (dl, nt'', 0, tc, tm, xn, md, lo'', en'', dO, dA, dB, xo, xa, xb, xl, st'', xr'', rg, xv, pl, tr, xk'', xm'', wt, xw, xt'', xi'', mc'', tk'', xe'', xz'', ti), (dl, qn'', 0, tm, tc, yn, md, lo'', en'', yo, ya, yb, yl, cu, ag, dO, dA, dB, st'', rg, pl, yv, yr'', tr, yt'', yi'', mc'', yk'', ym'', wt, li, ye, qu'', yd'', ys'', yz'', ti), fun post hq' => ?_, fun post hq' => ?_, hX, fun post hq' => Or.inr (Or.inr (Or.inl ⟨by decide, by decide, by decide, by decide, ?_⟩)), rfl, mp_RR_s hR⟩
  · refine nm_r (mp_x4 p) (br_f (by decide) (br_f (by decide) (br_f (by decide) (br_f (by decide) (br_f (by decide) (br_f (by decide) (br_f (by decide) (br_f (by decide) (br_f (by decide) (br_f (by decide) (br_f (by decide) (br_f (by decide) (br_f (by decide) (br_f (by decide) (br_f (by decide) (br_f (by decide) (br_t rfl ?_)))))))))))))))))
    rw [nI_add, c]
    exact ⟨I, mx_mark (d := 0) hp (by omega) hx hq'⟩
  · refine nm_r (mp_x4 p) (br_f (by decide) (br_t (by decide) ?_))
    exact hq'
  · unfold wpY_last
    dsimp only
    rw [a3, mp_4a, c]
    refine ⟨I, nm_e (br_f (by decide) (br_f (by decide) (br_f (by decide) (br_t rfl ?_))))⟩
    exact my_doom (d := 0) hp (by omega) hy (hY _ hq')
theorem mp_op15 {a b : Int32} (h : (mp_D dl dO dA dB ∧ mp_C xo xa xb xl yo ya yb yl cu ∧ mp_V st xv yv xl cu ∧ mp_P st pl ∧ mp_S st ∧ mp_M st mc xt xi yt yi ∧ mp_K st xk yk ∧ mp_K st xm ym ∧ mp_W st xw li ye tm ∧ mp_T tm tc ti T ∧ mp_Q st tk nt p qu qn ∧ mp_E st xr yr ∧ mp_Z 0 st xr xe xz 0 yd ys yz 0 ∧ mp_F st nt C ∧ mp_G (fun _ _ => True) st xv yz)) (hp : p < 8) (h1 : st p = 1) (hb : mp_lt b 2) : mp_OP p 15 a b T C tm xn yn (dl, nt, 0, tc, tm, xn, md, lo, en, dO, dA, dB, xo, xa, xb, xl, st, xr, rg, xv, pl, tr, xk, xm, wt, xw, xt, xi, mc, tk, xe, xz, ti) (dl, qn, 0, tm, tc, yn, md, lo, en, yo, ya, yb, yl, cu, ag, dO, dA, dB, st, rg, pl, yv, yr, tr, yt, yi, mc, yk, ym, wt, li, ye, qu, yd, ys, yz, ti) := by
  obtain ⟨a3, ha3, e3⟩ := pk_andE a 2 mp_3
  have c := nI_clamp (n := 4 * p + a3) (by omega)
  have I := vp_in_nI (n := 4 * p + a3) (N := 32) (by omega) (by omega)
  have cp := nI_clamp (n := p) (by omega)
  have Ip := vp_in_nI (n := p) (N := 8) (by omega) (by omega)
  by_cases hb1 : b = 1
  · refine mp_op_a (u' := (dl, nt, 0, tc, tm, xn, md, lo, en, dO, dA, dB, xo, xa, xb, xl, st, xr, rg, xv, pl, upd tr p 1, xk, xm, wt, xw, xt, xi, mc, tk, xe, xz, ti)) (v' := (dl, qn, 0, tm, tc, yn, md, lo, en, yo, ya, yb, yl, cu, ag, dO, dA, dB, st, rg, pl, yv, yr, upd tr p 1, yt, yi, mc, yk, ym, wt, li, ye, qu, yd, ys, yz, ti)) (fun post hq => ?_) (fun post hq => ?_) (fun post hq => mx_fin0 hq) (fun post hq => Or.inr (Or.inr (Or.inl ⟨by decide, by decide, by decide, by decide, ?_⟩))) rfl (mp_RR_1 h1 h)
    · refine nm_r (mp_x4 p) (br_f (by decide) (br_f (by decide) (br_f (by decide) (br_f (by decide) (br_f (by decide) (br_f (by decide) (br_f (by decide) (br_f (by decide) (br_f (by decide) (br_f (by decide) (br_f (by decide) (br_f (by decide) (br_f (by decide) (br_f (by decide) (br_f (by decide) (br_f (by decide) (br_f (by decide) (br_t rfl ?_))))))))))))))))))
      rw [cp, mp_b1n]
      exact br_t hb1 ⟨Ip, nm_e hq⟩
    · refine nm_r (mp_x4 p) (br_f (by decide) (br_t (by decide) ?_))
      exact hq
    · unfold wpY_last
      dsimp only
      rw [e3, mp_4a, c, cp, mp_b1n]
      refine ⟨I, nm_e (br_f (by decide) (br_f (by decide) (br_f (by decide) (br_f (by decide) (br_t rfl ?_)))))⟩
      exact br_t hb1 ⟨Ip, nm_e hq⟩
  · refine mp_op_a (u' := (dl, nt, 0, tc, tm, xn, md, lo, en, dO, dA, dB, xo, xa, xb, xl, st, xr, rg, xv, pl, upd tr p 0, xk, xm, wt, xw, xt, xi, mc, tk, xe, xz, ti)) (v' := (dl, qn, 0, tm, tc, yn, md, lo, en, yo, ya, yb, yl, cu, ag, dO, dA, dB, st, rg, pl, yv, yr, upd tr p 0, yt, yi, mc, yk, ym, wt, li, ye, qu, yd, ys, yz, ti)) (fun post hq => ?_) (fun post hq => ?_) (fun post hq => mx_fin0 hq) (fun post hq => Or.inr (Or.inr (Or.inl ⟨by decide, by decide, by decide, by decide, ?_⟩))) rfl (mp_RR_1 h1 h)
    · refine nm_r (mp_x4 p) (br_f (by decide) (br_f (by decide) (br_f (by decide) (br_f (by decide) (br_f (by decide) (br_f (by decide) (br_f (by decide) (br_f (by decide) (br_f (by decide) (br_f (by decide) (br_f (by decide) (br_f (by decide) (br_f (by decide) (br_f (by decide) (br_f (by decide) (br_f (by decide) (br_f (by decide) (br_t rfl ?_))))))))))))))))))
      rw [cp, mp_b0n]
      exact br_f hb1 ⟨Ip, nm_e hq⟩
    · refine nm_r (mp_x4 p) (br_f (by decide) (br_t (by decide) ?_))
      exact hq
    · unfold wpY_last
      dsimp only
      rw [e3, mp_4a, c, cp, mp_b0n]
      refine ⟨I, nm_e (br_f (by decide) (br_f (by decide) (br_f (by decide) (br_f (by decide) (br_t rfl ?_)))))⟩
      exact br_f hb1 ⟨Ip, nm_e hq⟩
theorem mp_op16 {a b : Int32} (h : (mp_D dl dO dA dB ∧ mp_C xo xa xb xl yo ya yb yl cu ∧ mp_V st xv yv xl cu ∧ mp_P st pl ∧ mp_S st ∧ mp_M st mc xt xi yt yi ∧ mp_K st xk yk ∧ mp_K st xm ym ∧ mp_W st xw li ye tm ∧ mp_T tm tc ti T ∧ mp_Q st tk nt p qu qn ∧ mp_E st xr yr ∧ mp_Z 0 st xr xe xz 0 yd ys yz 0 ∧ mp_F st nt C ∧ mp_G (fun _ _ => True) st xv yz)) (hp : p < 8) (h1 : st p = 1) (ha : mp_lt a 4) : mp_OP p 16 a b T C tm xn yn (dl, nt, 0, tc, tm, xn, md, lo, en, dO, dA, dB, xo, xa, xb, xl, st, xr, rg, xv, pl, tr, xk, xm, wt, xw, xt, xi, mc, tk, xe, xz, ti) (dl, qn, 0, tm, tc, yn, md, lo, en, yo, ya, yb, yl, cu, ag, dO, dA, dB, st, rg, pl, yv, yr, tr, yt, yi, mc, yk, ym, wt, li, ye, qu, yd, ys, yz, ti) := by
  obtain ⟨m, hm4, rfl⟩ := ha
  have c := nI_clamp (n := 4 * p + m) (by omega)
  have I := vp_in_nI (n := 4 * p + m) (N := 32) (by omega) (by omega)
  have cp := nI_clamp (n := p) (by omega)
  have Ip := vp_in_nI (n := p) (N := 8) (by omega) (by omega)
  have cm := nI_clamp (n := m) (by omega)
  have Im := vp_in_nI (n := m) (N := 4) (by omega) (by omega)
  have c2 := nI_clamp (n := 2 * m) (by omega)
  have I2 := vp_in_nI (n := 2 * m) (N := 8) (by omega) (by omega)
  have a3 : nI m &&& 3 = nI m := by
    rw [pk_andN (by omega) 2 mp_3]
    exact congrArg nI (Nat.mod_eq_of_lt hm4)
  rcases h.2.1 m hm4 with ⟨e1, e2, e3⟩ | ⟨cc, hcc, e1, hcv, _⟩
  · obtain ⟨hx, hy, h2⟩ := mp_doom_0 (reason := 6) h hp (Or.inl h1)
    have h3 := mp_G_R h2 (G' := fun _ _ => True) (fun q v z => z.1)
    obtain ⟨st'', tk'', nt'', qu'', qn'', mc'', xt'', xi'', yt'', yi'', lo'', xr'', xe'', xz'', xc'', yd'', ys'', yz'', yc'', xk'', yk'', xm'', ym'', yr'', en'', hX, hY, hR⟩ := mp_settle (dl := dl) (nt := nt) (xc := nI (0 + 1)) (tc := tc) (tm := tm) (xn := xn) (md := md) (lo := lo) (en := en) (dO := dO) (dA := dA) (dB := dB) (xo := xo) (xa := xa) (xb := xb) (xl := xl) (st := st) (xr := upd xr p 6) (rg := rg) (xv := xv) (pl := pl) (tr := tr) (xk := xk) (xm := xm) (wt := wt) (xw := xw) (xt := xt) (xi := xi) (mc := mc) (tk := tk) (xe := upd xe 0 (nI p)) (xz := upd xz p 1) (ti := ti) (qn := qn) (yc := nI (0 + 1)) (yn := yn) (yo := yo) (ya := ya) (yb := yb) (yl := yl) (cu := cu) (ag := ag) (yv := yv) (yr := yr) (yt := yt) (yi := yi) (yk := yk) (ym := ym) (li := li) (ye := ye) (qu := qu) (yd := upd yd 0 (nI p)) (ys := upd ys 0 6) (yz := upd yz p 1) h3
    refine ⟨(dl, nt, nI (0 + 1), tc, tm, xn, md, lo, en, dO, dA, dB, xo, xa, xb, xl, st, upd xr p 6, rg, xv, pl, tr, xk, xm, wt, xw, xt, xi, mc, tk, upd xe 0 (nI p), upd xz p 1, ti), (dl, nt, nI (0 + 1), tc, tm, xn, md, lo, en, dO, dA, dB, xo, xa, xb, xl, st, upd xr p 6, rg, xv, pl, tr, xk, xm, wt, xw, xt, xi, mc, tk, upd xe 0 (nI p), upd xz p 1, ti), (dl, nt'', 0, tc, tm, xn, md, lo'', en'', dO, dA, dB, xo, xa, xb, xl, st'', xr'', rg, xv, pl, tr, xk'', xm'', wt, xw, xt'', xi'', mc'', tk'', xe'', xz'', ti), (dl, qn'', 0, tm, tc, yn, md, lo'', en'', yo, ya, yb, yl, cu, ag, dO, dA, dB, st'', rg, pl, yv, yr'', tr, yt'', yi'', mc'', yk'', ym'', wt, li, ye, qu'', yd'', ys'', yz'', ti), fun post hq' => ?_, fun post hq' => ?_, hX, fun post hq' => Or.inr (Or.inr (Or.inl ⟨by decide, by decide, by decide, by decide, ?_⟩)), rfl, mp_RR_s hR⟩
    · refine nm_r (mp_x4 p) (br_f (by decide) (br_f (by decide) (br_f (by decide) (br_f (by decide) (br_f (by decide) (br_f (by decide) (br_f (by decide) (br_f (by decide) (br_f (by decide) (br_f (by decide) (br_f (by decide) (br_f (by decide) (br_f (by decide) (br_f (by decide) (br_f (by decide) (br_f (by decide) (br_f (by decide) (br_f (by decide) (br_t rfl ?_)))))))))))))))))))
      unfold wpX_callModule
      dsimp only
      rw [mp_2x, c2]
      exact ⟨I2, br_t e2 (mx_mark (d := 0) hp (by omega) hx hq')⟩
    · refine nm_r (mp_x4 p) (br_f (by decide) (br_t (by decide) ?_))
      exact hq'
    · unfold wpY_last
      dsimp only
      rw [a3, mp_4a, c, cm, e1]
      refine ⟨I, nm_e (br_f (by decide) (br_f (by decide) (br_f (by decide) (br_f (by decide) (br_f (by decide) (br_t rfl ?_))))))⟩
      exact ⟨Im, br_t (by decide) (my_doom (d := 0) hp (by omega) hy (hY _ hq'))⟩
  · obtain ⟨n0, a1, a2, b3, a4, a5⟩ := hcv
    have ne0 : ¬ xl (2 * m) = 0 := by rw [b3]; exact nI_ne0 a1 (by omega)
    refine mp_op_a (u' := (dl, nt, 0, tc, tm, xn, md, lo, en, dO, dA, dB, xo, xa, xb, xl, st, xr, rg, upd xv p (nI (2 * m)), upd pl p 0, tr, xk, xm, wt, xw, xt, xi, mc, tk, xe, xz, ti)) (v' := (dl, qn, 0, tm, tc, yn, md, lo, en, yo, ya, yb, yl, cu, ag, dO, dA, dB, st, rg, upd pl p 0, upd yv p (nI (2 * m + cc)), yr, tr, yt, yi, mc, yk, ym, wt, li, ye, qu, yd, ys, yz, ti)) (fun post hq => ?_) (fun post hq => ?_) (fun post hq => mx_fin0 hq) (fun post hq => Or.inr (Or.inr (Or.inl ⟨by decide, by decide, by decide, by decide, ?_⟩))) rfl (mp_RR_1 h1 (mp_call_R h (by rw [h1]; decide) hm4 hcc e1 (fun _ _ => trivial)))
    · refine nm_r (mp_x4 p) (br_f (by decide) (br_f (by decide) (br_f (by decide) (br_f (by decide) (br_f (by decide) (br_f (by decide) (br_f (by decide) (br_f (by decide) (br_f (by decide) (br_f (by decide) (br_f (by decide) (br_f (by decide) (br_f (by decide) (br_f (by decide) (br_f (by decide) (br_f (by decide) (br_f (by decide) (br_f (by decide) (br_t rfl ?_)))))))))))))))))))
      unfold wpX_callModule
      dsimp only
      rw [mp_2x, c2, cp]
      exact ⟨I2, br_f ne0 ⟨Ip, nm_e ⟨Ip, nm_e hq⟩⟩⟩
    · refine nm_r (mp_x4 p) (br_f (by decide) (br_t (by decide) ?_))
      exact hq
    · unfold wpY_last
      dsimp only
      rw [a3, mp_4a, c, cm, e1, cp, mp_2x, nI_add]
      refine ⟨I, nm_e (br_f (by decide) (br_f (by decide) (br_f (by decide) (br_f (by decide) (br_f (by decide) (br_t rfl ?_))))))⟩
      exact ⟨Im, br_f (nI_pos (by omega)) ⟨Im, Ip, nm_e ⟨Ip, nm_e hq⟩⟩⟩
theorem mp_op17 {a b : Int32} (h : (mp_D dl dO dA dB ∧ mp_C xo xa xb xl yo ya yb yl cu ∧ mp_V st xv yv xl cu ∧ mp_P st pl ∧ mp_S st ∧ mp_M st mc xt xi yt yi ∧ mp_K st xk yk ∧ mp_K st xm ym ∧ mp_W st xw li ye tm ∧ mp_T tm tc ti T ∧ mp_Q st tk nt p qu qn ∧ mp_E st xr yr ∧ mp_Z 0 st xr xe xz 0 yd ys yz 0 ∧ mp_F st nt C ∧ mp_G (fun _ _ => True) st xv yz)) (hp : p < 8) (h1 : st p = 1) (ha : mp_lt a 4) (ht : tc.toInt + 1 ≤ tm.toInt) (hT1 : T < 1900000000) : mp_OP p 17 a b T C tm xn yn (dl, nt, 0, tc, tm, xn, md, lo, en, dO, dA, dB, xo, xa, xb, xl, st, xr, rg, xv, pl, tr, xk, xm, wt, xw, xt, xi, mc, tk, xe, xz, ti) (dl, qn, 0, tm, tc, yn, md, lo, en, yo, ya, yb, yl, cu, ag, dO, dA, dB, st, rg, pl, yv, yr, tr, yt, yi, mc, yk, ym, wt, li, ye, qu, yd, ys, yz, ti) := by
  obtain ⟨j, hj, rfl⟩ := ha
  have c := nI_clamp (n := 4 * p + j) (by omega)
  have I := vp_in_nI (n := 4 * p + j) (N := 32) (by omega) (by omega)
  have a3 : nI j &&& 3 = nI j := by
    rw [pk_andN (by omega) 2 mp_3]
    exact congrArg nI (Nat.mod_eq_of_lt hj)
  have I15 : vp_in (tc &&& 15) 16 := pk_andIn tc 4 mp_15 (by omega)
  refine mp_op_a (u' := (dl, nt, 0, tc + 1, tm, xn, md, lo, en, dO, dA, dB, xo, xa, xb, xl, st, xr, rg, xv, pl, tr, xk, xm, wt, xw, xt, xi, mc, tk, xe, xz, upd ti (tc &&& 15).toNatClampNeg (rg (4 * p + j)))) (v' := (dl, qn, 0, tm, tc + 1, yn, md, lo, en, yo, ya, yb, yl, cu, ag, dO, dA, dB, st, rg, pl, yv, yr, tr, yt, yi, mc, yk, ym, wt, li, ye, qu, yd, ys, yz, upd ti (tc &&& 15).toNatClampNeg (rg (4 * p + j)))) (fun post hq => ?_) (fun post hq => ?_) (fun post hq => mx_fin0 hq) (fun post hq => Or.inr (Or.inr (Or.inl ⟨by decide, by decide, by decide, by decide, ?_⟩))) rfl (mp_RR_1 h1 (mp_tell_R h ht hT1))
  · refine nm_r (mp_x4 p) (br_f (by decide) (br_f (by decide) (br_f (by decide) (br_f (by decide) (br_f (by decide) (br_f (by decide) (br_f (by decide) (br_f (by decide) (br_f (by decide) (br_f (by decide) (br_f (by decide) (br_f (by decide) (br_f (by decide) (br_f (by decide) (br_f (by decide) (br_f (by decide) (br_f (by decide) (br_f (by decide) (br_f (by decide) (br_t rfl ?_))))))))))))))))))))
    unfold wpX_toldPlace
    dsimp only
    rw [nI_add, c]
    exact ⟨I, I15, nm_e (nm_e hq)⟩
  · refine nm_r (mp_x4 p) (br_f (by decide) (br_t (by decide) ?_))
    exact hq
  · unfold wpY_last
    dsimp only
    rw [a3, mp_4a, c]
    refine ⟨I, nm_e (br_f (by decide) (br_t (by decide) ?_))⟩
    exact ⟨I15, nm_e (nm_e hq)⟩
end
end
section
section
variable {dl xc tc tm xn md lo en qn yc yn : Int32} {nt : Int64} {dO dA dB xo xa xb xl st xr rg xv pl tr xk xm wt xw xt xi mc xe xz ti yo ya yb yl cu ag yv yr yt yi yk ym li ye qu yd ys yz : Nat → Int32} {tk : Nat → Int64} {run i p : Nat} {T C : Int} {G : Nat → Int32 → Prop}
theorem mp_nI_inj {a b : Nat} (ha : a < 2 ^ 31) (hb : b < 2 ^ 31) (h : a ≠ b) : ¬ nI a = nI b := fun z => h ((nI_eq ha hb).mp z)
theorem mp_link {q : Nat} (hK : mp_K st xk yk) (hp : p < 8) (hq : q < 8) (ap : mp_al st p) (aq : mp_al st q) : ∃ xk' yk' : Nat → Int32, (∀ post : SX → Prop, post (dl, nt, xc, tc, tm, xn, md, lo, en, dO, dA, dB, xo, xa, xb, xl, st, xr, rg, xv, pl, tr, xk', xm, wt, xw, xt, xi, mc, tk, xe, xz, ti) → wpX_link post (dl, nt, xc, tc, tm, xn, md, lo, en, dO, dA, dB, xo, xa, xb, xl, st, xr, rg, xv, pl, tr, xk, xm, wt, xw, xt, xi, mc, tk, xe, xz, ti) (nI p) (nI q)) ∧ (∀ post : SY → Prop, post (dl, qn, yc, tm, tc, yn, md, lo, en, yo, ya, yb, yl, cu, ag, dO, dA, dB, st, rg, pl, yv, yr, tr, yt, yi, mc, yk', ym, wt, li, ye, qu, yd, ys, yz, ti) → wpY_link post (dl, qn, yc, tm, tc, yn, md, lo, en, yo, ya, yb, yl, cu, ag, dO, dA, dB, st, rg, pl, yv, yr, tr, yt, yi, mc, yk, ym, wt, li, ye, qu, yd, ys, yz, ti) (nI p) (nI q) 1) ∧ mp_K st xk' yk' := by
  by_cases e : p = q
  · subst e
    exact ⟨xk, yk, fun post h => br_t rfl h, fun post h => br_t rfl h, hK⟩
  · have cp := nI_clamp (n := p) (by omega)
    have Ip := vp_in_nI (n := p) (N := 8) hp (by omega)
    have cq := nI_clamp (n := q) (by omega)
    have Iq := vp_in_nI (n := q) (N := 8) hq (by omega)
    have c1 := nI_clamp (n := 8 * p + q) (by omega)
    have c2 := nI_clamp (n := 8 * q + p) (by omega)
    have I1 := vp_in_nI (n := 8 * p + q) (N := 64) (by omega) (by omega)
    have I2 := vp_in_nI (n := 8 * q + p) (N := 64) (by omega) (by omega)
    have ne := mp_nI_inj (a := p) (b := q) (by omega) (by omega) e
    have h1 := mp_K_set hK hp hq e ap aq
    have h2 := mp_K_set h1 hq hp (Ne.symm e) aq ap
    refine ⟨_, _, fun post h => br_f ne ?_, fun post h => br_f ne ?_, h2⟩
    · rw [cp, cq]
      exact ⟨Ip, Ip, nm_e ⟨Iq, Iq, nm_e h⟩⟩
    · rw [mp_8x, nI_add, mp_8x, nI_add, c1, c2, mp_b1n]
      exact ⟨I1, nm_e ⟨I2, nm_e h⟩⟩
theorem mx_unl {post : SX → Prop} {q : Nat} (hp : p < 8) (hq : q < 8) (h : post (dl, nt, xc, tc, tm, xn, md, lo, en, dO, dA, dB, xo, xa, xb, xl, st, xr, rg, xv, pl, tr, upd (upd xk p (xk p &&& (((1 : Int32) <<< (nI q &&& 31)) ^^^ (-1)))) q (upd xk p (xk p &&& (((1 : Int32) <<< (nI q &&& 31)) ^^^ (-1))) q &&& (((1 : Int32) <<< (nI p &&& 31)) ^^^ (-1))), xm, wt, xw, xt, xi, mc, tk, xe, xz, ti)) : wpX_unlink post (dl, nt, xc, tc, tm, xn, md, lo, en, dO, dA, dB, xo, xa, xb, xl, st, xr, rg, xv, pl, tr, xk, xm, wt, xw, xt, xi, mc, tk, xe, xz, ti) (nI p) (nI q) := by
  have cp := nI_clamp (n := p) (by omega)
  have Ip := vp_in_nI (n := p) (N := 8) hp (by omega)
  have cq := nI_clamp (n := q) (by omega)
  have Iq := vp_in_nI (n := q) (N := 8) hq (by omega)
  unfold wpX_unlink
  dsimp only
  refine mx_bel_t (n := 8) hq (by omega) (br_f (by decide) (And.intro Ip ?_))
  rw [cp, cq]
  exact ⟨Ip, nm_e ⟨Iq, Iq, nm_e h⟩⟩
theorem mp_op6 {a b : Int32} (h : (mp_D dl dO dA dB ∧ mp_C xo xa xb xl yo ya yb yl cu ∧ mp_V st xv yv xl cu ∧ mp_P st pl ∧ mp_S st ∧ mp_M st mc xt xi yt yi ∧ mp_K st xk yk ∧ mp_K st xm ym ∧ mp_W st xw li ye tm ∧ mp_T tm tc ti T ∧ mp_Q st tk nt p qu qn ∧ mp_E st xr yr ∧ mp_Z 0 st xr xe xz 0 yd ys yz 0 ∧ mp_F st nt C ∧ mp_G (fun _ _ => True) st xv yz)) (hp : p < 8) (h1 : st p = 1) (ha : mp_lt a 4) : mp_OP p 6 a b T C tm xn yn (dl, nt, 0, tc, tm, xn, md, lo, en, dO, dA, dB, xo, xa, xb, xl, st, xr, rg, xv, pl, tr, xk, xm, wt, xw, xt, xi, mc, tk, xe, xz, ti) (dl, qn, 0, tm, tc, yn, md, lo, en, yo, ya, yb, yl, cu, ag, dO, dA, dB, st, rg, pl, yv, yr, tr, yt, yi, mc, yk, ym, wt, li, ye, qu, yd, ys, yz, ti) := by
  obtain ⟨j, hj, rfl⟩ := ha
  have c := nI_clamp (n := 4 * p + j) (by omega)
  have I := vp_in_nI (n := 4 * p + j) (N := 32) (by omega) (by omega)
  have c4 := nI_clamp (n := 4 * p) (by omega)
  have I4 := vp_in_nI (n := 4 * p) (N := 32) (by omega) (by omega)
  rcases mp_alx h.2.2.2.2.1 (rg (4 * p + j)) with ⟨q, hq, eq, haq⟩ | ⟨hd, _⟩
  · obtain ⟨r, st', tk', nt', qu', qn', mc', xt', xi', yt', yi', lo', hX, hY, hR, _, _⟩ := mp_deliver (dl := dl) (nt := nt) (xc := 0) (tc := tc) (tm := tm) (xn := xn) (md := md) (lo := lo) (en := en) (dO := dO) (dA := dA) (dB := dB) (xo := xo) (xa := xa) (xb := xb) (xl := xl) (st := st) (xr := xr) (rg := rg) (xv := xv) (pl := pl) (tr := tr) (xk := xk) (xm := xm) (wt := wt) (xw := xw) (xt := xt) (xi := xi) (mc := mc) (tk := tk) (xe := xe) (xz := xz) (ti := ti) (qn := qn) (yc := 0) (yn := yn) (yo := yo) (ya := ya) (yb := yb) (yl := yl) (cu := cu) (ag := ag) (yv := yv) (yr := yr) (yt := yt) (yi := yi) (yk := yk) (ym := ym) (li := li) (ye := ye) (qu := qu) (yd := yd) (ys := ys) (yz := yz) h hq haq b (rg (4 * p))
    refine ⟨(dl, nt, 0, tc, tm, xn, md, lo, en, dO, dA, dB, xo, xa, xb, xl, st, xr, rg, xv, pl, tr, xk, xm, wt, xw, xt, xi, mc, tk, xe, xz, ti), (dl, nt', 0, tc, tm, xn, md, lo', en, dO, dA, dB, xo, xa, xb, xl, st', xr, rg, xv, pl, tr, xk, xm, wt, xw, xt', xi', mc', tk', xe, xz, ti), (dl, nt', 0, tc, tm, xn, md, lo', en, dO, dA, dB, xo, xa, xb, xl, st', xr, rg, xv, pl, tr, xk, xm, wt, xw, xt', xi', mc', tk', xe, xz, ti), (dl, qn', 0, tm, tc, yn, md, lo', en, yo, ya, yb, yl, cu, ag, dO, dA, dB, st', rg, pl, yv, yr, tr, yt', yi', mc', yk, ym, wt, li, ye, qu', yd, ys, yz, ti), fun post hq' => ?_, fun post hq' => ?_, fun post hq' => mx_fin0 hq', fun post hq' => Or.inr (Or.inr (Or.inr ⟨by decide, by decide, by decide, by decide, ?_⟩)), rfl, mp_RR_s hR⟩
    · refine nm_r (mp_x4 p) (br_f (by decide) (br_f (by decide) (br_f (by decide) (br_f (by decide) (br_f (by decide) (br_f (by decide) (br_f (by decide) (br_f (by decide) (br_t rfl ?_)))))))))
      exact hq'
    · refine nm_r (mp_x4 p) (br_f (by decide) (br_f (by decide) (br_t rfl ?_)))
      rw [nI_add, c, c4, eq]
      refine ⟨I, I4, ?_⟩
      unfold wpX_sendTo
      dsimp only
      exact mx_al_t hq haq (br_f (by decide) (hX _ hq'))
    · refine br_f (by decide) ?_
      rw [mp_4a, c, eq]
      refine ⟨I, ?_⟩
      unfold wY_others_20
      refine my_al_t hq haq (br_f (by decide) (br_f (by decide) (br_t rfl ?_)))
      rw [mp_4x, c4]
      exact br_f (by decide) ⟨I4, hY _ hq'⟩
  · refine ⟨(dl, nt, 0, tc, tm, xn, md, lo, en, dO, dA, dB, xo, xa, xb, xl, st, xr, rg, xv, pl, tr, xk, xm, wt, xw, xt, xi, mc, tk, xe, xz, ti), (dl, nt, 0, tc, tm, xn, md, lo + 1, en, dO, dA, dB, xo, xa, xb, xl, st, xr, rg, xv, pl, tr, xk, xm, wt, xw, xt, xi, mc, tk, xe, xz, ti), (dl, nt, 0, tc, tm, xn, md, lo + 1, en, dO, dA, dB, xo, xa, xb, xl, st, xr, rg, xv, pl, tr, xk, xm, wt, xw, xt, xi, mc, tk, xe, xz, ti), (dl, qn, 0, tm, tc, yn, md, lo + 1, en, yo, ya, yb, yl, cu, ag, dO, dA, dB, st, rg, pl, yv, yr, tr, yt, yi, mc, yk, ym, wt, li, ye, qu, yd, ys, yz, ti), fun post hq' => ?_, fun post hq' => ?_, fun post hq' => mx_fin0 hq', fun post hq' => Or.inr (Or.inr (Or.inr ⟨by decide, by decide, by decide, by decide, ?_⟩)), rfl, mp_RR_1 h1 h⟩
    · refine nm_r (mp_x4 p) (br_f (by decide) (br_f (by decide) (br_f (by decide) (br_f (by decide) (br_f (by decide) (br_f (by decide) (br_f (by decide) (br_f (by decide) (br_t rfl ?_)))))))))
      exact hq'
    · refine nm_r (mp_x4 p) (br_f (by decide) (br_f (by decide) (br_t rfl ?_)))
      rw [nI_add, c, c4]
      refine ⟨I, I4, ?_⟩
      unfold wpX_sendTo
      dsimp only
      exact mx_al_f hd (br_t rfl (nm_e hq'))
    · refine br_f (by decide) ?_
      rw [mp_4a, c]
      refine ⟨I, ?_⟩
      unfold wY_others_20
      refine my_al_f hd (br_f (by decide) (br_f (by decide) (br_t rfl ?_)))
      exact br_t rfl (nm_e hq')
theorem mp_op10 {a b : Int32} (h : (mp_D dl dO dA dB ∧ mp_C xo xa xb xl yo ya yb yl cu ∧ mp_V st xv yv xl cu ∧ mp_P st pl ∧ mp_S st ∧ mp_M st mc xt xi yt yi ∧ mp_K st xk yk ∧ mp_K st xm ym ∧ mp_W st xw li ye tm ∧ mp_T tm tc ti T ∧ mp_Q st tk nt p qu qn ∧ mp_E st xr yr ∧ mp_Z 0 st xr xe xz 0 yd ys yz 0 ∧ mp_F st nt C ∧ mp_G (fun _ _ => True) st xv yz)) (hp : p < 8) (h1 : st p = 1) (ha : mp_lt a 4) : mp_OP p 10 a b T C tm xn yn (dl, nt, 0, tc, tm, xn, md, lo, en, dO, dA, dB, xo, xa, xb, xl, st, xr, rg, xv, pl, tr, xk, xm, wt, xw, xt, xi, mc, tk, xe, xz, ti) (dl, qn, 0, tm, tc, yn, md, lo, en, yo, ya, yb, yl, cu, ag, dO, dA, dB, st, rg, pl, yv, yr, tr, yt, yi, mc, yk, ym, wt, li, ye, qu, yd, ys, yz, ti) := by
  obtain ⟨j, hj, rfl⟩ := ha
  have c := nI_clamp (n := 4 * p + j) (by omega)
  have I := vp_in_nI (n := 4 * p + j) (N := 32) (by omega) (by omega)
  rcases mp_alx h.2.2.2.2.1 (rg (4 * p + j)) with ⟨q, hq, eq, haq⟩ | ⟨hd, _⟩
  · obtain ⟨xk', yk', hX, hY, hk⟩ := mp_link (dl := dl) (nt := nt) (xc := 0) (tc := tc) (tm := tm) (xn := xn) (md := md) (lo := lo) (en := en) (dO := dO) (dA := dA) (dB := dB) (xo := xo) (xa := xa) (xb := xb) (xl := xl) (st := st) (xr := xr) (rg := rg) (xv := xv) (pl := pl) (tr := tr) (xk := xk) (xm := xm) (wt := wt) (xw := xw) (xt := xt) (xi := xi) (mc := mc) (tk := tk) (xe := xe) (xz := xz) (ti := ti) (qn := qn) (yc := 0) (yn := yn) (yo := yo) (ya := ya) (yb := yb) (yl := yl) (cu := cu) (ag := ag) (yv := yv) (yr := yr) (yt := yt) (yi := yi) (yk := yk) (ym := ym) (li := li) (ye := ye) (qu := qu) (yd := yd) (ys := ys) (yz := yz) h.2.2.2.2.2.2.1 hp hq (Or.inl h1) haq
    refine ⟨(dl, nt, 0, tc, tm, xn, md, lo, en, dO, dA, dB, xo, xa, xb, xl, st, xr, rg, xv, pl, tr, xk, xm, wt, xw, xt, xi, mc, tk, xe, xz, ti), (dl, nt, 0, tc, tm, xn, md, lo, en, dO, dA, dB, xo, xa, xb, xl, st, xr, rg, xv, pl, tr, xk', xm, wt, xw, xt, xi, mc, tk, xe, xz, ti), (dl, nt, 0, tc, tm, xn, md, lo, en, dO, dA, dB, xo, xa, xb, xl, st, xr, rg, xv, pl, tr, xk', xm, wt, xw, xt, xi, mc, tk, xe, xz, ti), (dl, qn, 0, tm, tc, yn, md, lo, en, yo, ya, yb, yl, cu, ag, dO, dA, dB, st, rg, pl, yv, yr, tr, yt, yi, mc, yk', ym, wt, li, ye, qu, yd, ys, yz, ti), fun post hq' => ?_, fun post hq' => ?_, fun post hq' => mx_fin0 hq', fun post hq' => Or.inr (Or.inr (Or.inr ⟨by decide, by decide, by decide, by decide, ?_⟩)), rfl, mp_RR_1 h1 (mp_K_R h hk h.2.2.2.2.2.2.2.1)⟩
    · refine nm_r (mp_x4 p) (br_f (by decide) (br_f (by decide) (br_f (by decide) (br_f (by decide) (br_f (by decide) (br_f (by decide) (br_f (by decide) (br_f (by decide) (br_f (by decide) (br_f (by decide) (br_f (by decide) (br_f (by decide) (br_t rfl ?_)))))))))))))
      exact hq'
    · refine nm_r (mp_x4 p) (br_f (by decide) (br_f (by decide) (br_f (by decide) (br_f (by decide) (br_f (by decide) (br_f (by decide) (br_t rfl ?_)))))))
      rw [nI_add, c, eq]
      exact ⟨I, mx_al_t hq haq (br_f (by decide) ⟨I, hX _ hq'⟩)⟩
    · refine br_f (by decide) ?_
      rw [mp_4a, c, eq]
      refine ⟨I, ?_⟩
      unfold wY_others_20
      refine my_al_t hq haq (br_f (by decide) (br_f (by decide) (br_f (by decide) (br_f (by decide) (br_f (by decide) (br_f (by decide) (br_t rfl ?_)))))))
      exact br_f (by decide) (hY _ hq')
  · obtain ⟨st', tk', nt', qu', qn', mc', xt', xi', yt', yi', lo', xr', xe', xz', xc', yd', ys', yz', yc', hX1, hY1, hR1, _, _⟩ := mp_signal (dl := dl) (nt := nt) (xc := 0) (tc := tc) (tm := tm) (xn := xn) (md := md) (lo := lo) (en := en) (dO := dO) (dA := dA) (dB := dB) (xo := xo) (xa := xa) (xb := xb) (xl := xl) (st := st) (xr := xr) (rg := rg) (xv := xv) (pl := pl) (tr := tr) (xk := xk) (xm := xm) (wt := wt) (xw := xw) (xt := xt) (xi := xi) (mc := mc) (tk := tk) (xe := xe) (xz := xz) (ti := ti) (qn := qn) (yc := 0) (yn := yn) (yo := yo) (ya := ya) (yb := yb) (yl := yl) (cu := cu) (ag := ag) (yv := yv) (yr := yr) (yt := yt) (yi := yi) (yk := yk) (ym := ym) (li := li) (ye := ye) (qu := qu) (yd := yd) (ys := ys) (yz := yz) h hp (Or.inl h1) (nI p) 7
    obtain ⟨st'', tk'', nt'', qu'', qn'', mc'', xt'', xi'', yt'', yi'', lo'', xr'', xe'', xz'', xc'', yd'', ys'', yz'', yc'', xk'', yk'', xm'', ym'', yr'', en'', hX, hY, hR⟩ := mp_settle (dl := dl) (nt := nt') (xc := xc') (tc := tc) (tm := tm) (xn := xn) (md := md) (lo := lo') (en := en) (dO := dO) (dA := dA) (dB := dB) (xo := xo) (xa := xa) (xb := xb) (xl := xl) (st := st') (xr := xr') (rg := rg) (xv := xv) (pl := pl) (tr := tr) (xk := xk) (xm := xm) (wt := wt) (xw := xw) (xt := xt') (xi := xi') (mc := mc') (tk := tk') (xe := xe') (xz := xz') (ti := ti) (qn := qn') (yc := yc') (yn := yn) (yo := yo) (ya := ya) (yb := yb) (yl := yl) (cu := cu) (ag := ag) (yv := yv) (yr := yr) (yt := yt') (yi := yi') (yk := yk) (ym := ym) (li := li) (ye := ye) (qu := qu') (yd := yd') (ys := ys') (yz := yz') hR1
    refine ⟨(dl, nt, 0, tc, tm, xn, md, lo, en, dO, dA, dB, xo, xa, xb, xl, st, xr, rg, xv, pl, tr, xk, xm, wt, xw, xt, xi, mc, tk, xe, xz, ti), (dl, nt', xc', tc, tm, xn, md, lo', en, dO, dA, dB, xo, xa, xb, xl, st', xr', rg, xv, pl, tr, xk, xm, wt, xw, xt', xi', mc', tk', xe', xz', ti), (dl, nt'', 0, tc, tm, xn, md, lo'', en'', dO, dA, dB, xo, xa, xb, xl, st'', xr'', rg, xv, pl, tr, xk'', xm'', wt, xw, xt'', xi'', mc'', tk'', xe'', xz'', ti), (dl, qn'', 0, tm, tc, yn, md, lo'', en'', yo, ya, yb, yl, cu, ag, dO, dA, dB, st'', rg, pl, yv, yr'', tr, yt'', yi'', mc'', yk'', ym'', wt, li, ye, qu'', yd'', ys'', yz'', ti), fun post hq' => ?_, fun post hq' => ?_, hX, fun post hq' => Or.inr (Or.inr (Or.inr ⟨by decide, by decide, by decide, by decide, ?_⟩)), rfl, mp_RR_s hR⟩
    · refine nm_r (mp_x4 p) (br_f (by decide) (br_f (by decide) (br_f (by decide) (br_f (by decide) (br_f (by decide) (br_f (by decide) (br_f (by decide) (br_f (by decide) (br_f (by decide) (br_f (by decide) (br_f (by decide) (br_f (by decide) (br_t rfl ?_)))))))))))))
      exact hq'
    · refine nm_r (mp_x4 p) (br_f (by decide) (br_f (by decide) (br_f (by decide) (br_f (by decide) (br_f (by decide) (br_f (by decide) (br_t rfl ?_)))))))
      rw [nI_add, c]
      exact ⟨I, mx_al_f hd (br_t rfl (br_t rfl (hX1 _ hq')))⟩
    · refine br_f (by decide) ?_
      rw [mp_4a, c]
      refine ⟨I, ?_⟩
      unfold wY_others_20
      refine my_al_f hd (br_f (by decide) (br_f (by decide) (br_f (by decide) (br_f (by decide) (br_f (by decide) (br_f (by decide) (br_t rfl ?_)))))))
      exact br_t rfl (hY1 _ (hY _ hq'))
theorem mp_op11 {a b : Int32} (h : (mp_D dl dO dA dB ∧ mp_C xo xa xb xl yo ya yb yl cu ∧ mp_V st xv yv xl cu ∧ mp_P st pl ∧ mp_S st ∧ mp_M st mc xt xi yt yi ∧ mp_K st xk yk ∧ mp_K st xm ym ∧ mp_W st xw li ye tm ∧ mp_T tm tc ti T ∧ mp_Q st tk nt p qu qn ∧ mp_E st xr yr ∧ mp_Z 0 st xr xe xz 0 yd ys yz 0 ∧ mp_F st nt C ∧ mp_G (fun _ _ => True) st xv yz)) (hp : p < 8) (h1 : st p = 1) (ha : mp_lt a 4) : mp_OP p 11 a b T C tm xn yn (dl, nt, 0, tc, tm, xn, md, lo, en, dO, dA, dB, xo, xa, xb, xl, st, xr, rg, xv, pl, tr, xk, xm, wt, xw, xt, xi, mc, tk, xe, xz, ti) (dl, qn, 0, tm, tc, yn, md, lo, en, yo, ya, yb, yl, cu, ag, dO, dA, dB, st, rg, pl, yv, yr, tr, yt, yi, mc, yk, ym, wt, li, ye, qu, yd, ys, yz, ti) := by
  obtain ⟨j, hj, rfl⟩ := ha
  have c := nI_clamp (n := 4 * p + j) (by omega)
  have I := vp_in_nI (n := 4 * p + j) (N := 32) (by omega) (by omega)
  have hK := h.2.2.2.2.2.2.1
  have zz : ∀ q, q < 8 → (¬ mp_al st q ∨ q = p) → yk (8 * p + q) = 0 ∧ yk (8 * q + p) = 0 := fun q hq w => by
    constructor
    · by_cases z : yk (8 * p + q) = 0
      · exact z
      · obtain ⟨_, w1, w2⟩ := (hK p hp).2 q hq z
        rcases w with w | w
        · exact absurd w1 w
        · exact absurd w.symm w2
    · by_cases z : yk (8 * q + p) = 0
      · exact z
      · obtain ⟨w1, _, w2⟩ := (hK q hq).2 p hp z
        rcases w with w | w
        · exact absurd w1 w
        · exact absurd w w2
  rcases mp_alx h.2.2.2.2.1 (rg (4 * p + j)) with ⟨q, hq, eq, haq⟩ | ⟨hd, hd2⟩
  · by_cases e : q = p
    · obtain ⟨z1, z2⟩ := zz q hq (Or.inr e)
      have k1 := mp_K_clr0 hK hp hq z1
      have k2 := mp_K_clr0 k1 hq hp z2
      refine ⟨(dl, nt, 0, tc, tm, xn, md, lo, en, dO, dA, dB, xo, xa, xb, xl, st, xr, rg, xv, pl, tr, xk, xm, wt, xw, xt, xi, mc, tk, xe, xz, ti), _, _, (dl, qn, 0, tm, tc, yn, md, lo, en, yo, ya, yb, yl, cu, ag, dO, dA, dB, st, rg, pl, yv, yr, tr, yt, yi, mc, yk, ym, wt, li, ye, qu, yd, ys, yz, ti), fun post hq' => ?_, fun post hq' => ?_, fun post hq' => mx_fin0 hq', fun post hq' => Or.inr (Or.inr (Or.inr ⟨by decide, by decide, by decide, by decide, ?_⟩)), rfl, mp_RR_1 h1 (mp_K_R h k2 h.2.2.2.2.2.2.2.1)⟩
      · refine nm_r (mp_x4 p) (br_f (by decide) (br_f (by decide) (br_f (by decide) (br_f (by decide) (br_f (by decide) (br_f (by decide) (br_f (by decide) (br_f (by decide) (br_f (by decide) (br_f (by decide) (br_f (by decide) (br_f (by decide) (br_f (by decide) (br_t rfl ?_))))))))))))))
        exact hq'
      · refine nm_r (mp_x4 p) (br_f (by decide) (br_f (by decide) (br_f (by decide) (br_f (by decide) (br_f (by decide) (br_f (by decide) (br_f (by decide) (br_t rfl ?_))))))))
        rw [nI_add, c, eq]
        exact ⟨I, mx_unl hp hq hq'⟩
      · refine br_f (by decide) ?_
        rw [mp_4a, c, eq]
        refine ⟨I, ?_⟩
        unfold wY_others_20
        refine my_al_t hq haq (br_f (by decide) (br_f (by decide) (br_f (by decide) (br_f (by decide) (br_f (by decide) (br_f (by decide) (br_f (by decide) (br_t rfl ?_))))))))
        exact br_f (by decide) (br_t (congrArg nI e.symm) hq')
    · have k1 := mp_K_clr hK hp hq
      have k2 := mp_K_clr k1 hq hp
      have ne := mp_nI_inj (a := p) (b := q) (by omega) (by omega) (Ne.symm e)
      have c1 := nI_clamp (n := 8 * p + q) (by omega)
      have c2 := nI_clamp (n := 8 * q + p) (by omega)
      have I1 := vp_in_nI (n := 8 * p + q) (N := 64) (by omega) (by omega)
      have I2 := vp_in_nI (n := 8 * q + p) (N := 64) (by omega) (by omega)
      refine ⟨(dl, nt, 0, tc, tm, xn, md, lo, en, dO, dA, dB, xo, xa, xb, xl, st, xr, rg, xv, pl, tr, xk, xm, wt, xw, xt, xi, mc, tk, xe, xz, ti), _, _, (dl, qn, 0, tm, tc, yn, md, lo, en, yo, ya, yb, yl, cu, ag, dO, dA, dB, st, rg, pl, yv, yr, tr, yt, yi, mc, upd (upd yk (8 * p + q) 0) (8 * q + p) 0, ym, wt, li, ye, qu, yd, ys, yz, ti), fun post hq' => ?_, fun post hq' => ?_, fun post hq' => mx_fin0 hq', fun post hq' => Or.inr (Or.inr (Or.inr ⟨by decide, by decide, by decide, by decide, ?_⟩)), rfl, mp_RR_1 h1 (mp_K_R h k2 h.2.2.2.2.2.2.2.1)⟩
      · refine nm_r (mp_x4 p) (br_f (by decide) (br_f (by decide) (br_f (by decide) (br_f (by decide) (br_f (by decide) (br_f (by decide) (br_f (by decide) (br_f (by decide) (br_f (by decide) (br_f (by decide) (br_f (by decide) (br_f (by decide) (br_f (by decide) (br_t rfl ?_))))))))))))))
        exact hq'
      · refine nm_r (mp_x4 p) (br_f (by decide) (br_f (by decide) (br_f (by decide) (br_f (by decide) (br_f (by decide) (br_f (by decide) (br_f (by decide) (br_t rfl ?_))))))))
        rw [nI_add, c, eq]
        exact ⟨I, mx_unl hp hq hq'⟩
      · refine br_f (by decide) ?_
        rw [mp_4a, c, eq]
        refine ⟨I, ?_⟩
        unfold wY_others_20
        refine my_al_t hq haq (br_f (by decide) (br_f (by decide) (br_f (by decide) (br_f (by decide) (br_f (by decide) (br_f (by decide) (br_f (by decide) (br_t rfl ?_))))))))
        refine br_f (by decide) (br_f ne ?_)
        rw [mp_8x, nI_add, mp_8x, nI_add, c1, c2, mp_b0n]
        exact ⟨I1, nm_e ⟨I2, nm_e hq'⟩⟩
  · have hY : ∀ post : SY → Prop, post (dl, qn, 0, tm, tc, yn, md, lo, en, yo, ya, yb, yl, cu, ag, dO, dA, dB, st, rg, pl, yv, yr, tr, yt, yi, mc, yk, ym, wt, li, ye, qu, yd, ys, yz, ti) → my_disp post (dl, qn, 0, tm, tc, yn, md, lo, en, yo, ya, yb, yl, cu, ag, dO, dA, dB, st, rg, pl, yv, yr, tr, yt, yi, mc, yk, ym, wt, li, ye, qu, yd, ys, yz, ti) (nI p) 11 (nI j) b := fun post hq' => Or.inr (Or.inr (Or.inr ⟨by decide, by decide, by decide, by decide, by
      refine br_f (by decide) ?_
      rw [mp_4a, c]
      refine ⟨I, ?_⟩
      unfold wY_others_20
      refine my_al_f hd (br_f (by decide) (br_f (by decide) (br_f (by decide) (br_f (by decide) (br_f (by decide) (br_f (by decide) (br_f (by decide) (br_t rfl ?_))))))))
      exact br_t rfl hq'⟩))
    rcases mp_bel (rg (4 * p + j)) (n := 8) (by omega) with ⟨q, hq, eq⟩ | ⟨ho, _⟩
    · obtain ⟨z1, z2⟩ := zz q hq (Or.inl (hd2 q hq eq))
      have k1 := mp_K_clr0 hK hp hq z1
      have k2 := mp_K_clr0 k1 hq hp z2
      refine ⟨(dl, nt, 0, tc, tm, xn, md, lo, en, dO, dA, dB, xo, xa, xb, xl, st, xr, rg, xv, pl, tr, xk, xm, wt, xw, xt, xi, mc, tk, xe, xz, ti), _, _, (dl, qn, 0, tm, tc, yn, md, lo, en, yo, ya, yb, yl, cu, ag, dO, dA, dB, st, rg, pl, yv, yr, tr, yt, yi, mc, yk, ym, wt, li, ye, qu, yd, ys, yz, ti), fun post hq' => ?_, fun post hq' => ?_, fun post hq' => mx_fin0 hq', hY, rfl, mp_RR_1 h1 (mp_K_R h k2 h.2.2.2.2.2.2.2.1)⟩
      · refine nm_r (mp_x4 p) (br_f (by decide) (br_f (by decide) (br_f (by decide) (br_f (by decide) (br_f (by decide) (br_f (by decide) (br_f (by decide) (br_f (by decide) (br_f (by decide) (br_f (by decide) (br_f (by decide) (br_f (by decide) (br_f (by decide) (br_t rfl ?_))))))))))))))
        exact hq'
      · refine nm_r (mp_x4 p) (br_f (by decide) (br_f (by decide) (br_f (by decide) (br_f (by decide) (br_f (by decide) (br_f (by decide) (br_f (by decide) (br_t rfl ?_))))))))
        rw [nI_add, c, eq]
        exact ⟨I, mx_unl hp hq hq'⟩
    · refine ⟨(dl, nt, 0, tc, tm, xn, md, lo, en, dO, dA, dB, xo, xa, xb, xl, st, xr, rg, xv, pl, tr, xk, xm, wt, xw, xt, xi, mc, tk, xe, xz, ti), (dl, nt, 0, tc, tm, xn, md, lo, en, dO, dA, dB, xo, xa, xb, xl, st, xr, rg, xv, pl, tr, xk, xm, wt, xw, xt, xi, mc, tk, xe, xz, ti), (dl, nt, 0, tc, tm, xn, md, lo, en, dO, dA, dB, xo, xa, xb, xl, st, xr, rg, xv, pl, tr, xk, xm, wt, xw, xt, xi, mc, tk, xe, xz, ti), (dl, qn, 0, tm, tc, yn, md, lo, en, yo, ya, yb, yl, cu, ag, dO, dA, dB, st, rg, pl, yv, yr, tr, yt, yi, mc, yk, ym, wt, li, ye, qu, yd, ys, yz, ti), fun post hq' => ?_, fun post hq' => ?_, fun post hq' => mx_fin0 hq', hY, rfl, mp_RR_1 h1 h⟩
      · refine nm_r (mp_x4 p) (br_f (by decide) (br_f (by decide) (br_f (by decide) (br_f (by decide) (br_f (by decide) (br_f (by decide) (br_f (by decide) (br_f (by decide) (br_f (by decide) (br_f (by decide) (br_f (by decide) (br_f (by decide) (br_f (by decide) (br_t rfl ?_))))))))))))))
        exact hq'
      · refine nm_r (mp_x4 p) (br_f (by decide) (br_f (by decide) (br_f (by decide) (br_f (by decide) (br_f (by decide) (br_f (by decide) (br_f (by decide) (br_t rfl ?_))))))))
        rw [nI_add, c]
        refine ⟨I, ?_⟩
        unfold wpX_unlink
        dsimp only
        exact mx_bel_f (n := 8) ho (br_t rfl hq')
theorem mp_op12 {a b : Int32} (h : (mp_D dl dO dA dB ∧ mp_C xo xa xb xl yo ya yb yl cu ∧ mp_V st xv yv xl cu ∧ mp_P st pl ∧ mp_S st ∧ mp_M st mc xt xi yt yi ∧ mp_K st xk yk ∧ mp_K st xm ym ∧ mp_W st xw li ye tm ∧ mp_T tm tc ti T ∧ mp_Q st tk nt p qu qn ∧ mp_E st xr yr ∧ mp_Z 0 st xr xe xz 0 yd ys yz 0 ∧ mp_F st nt C ∧ mp_G (fun _ _ => True) st xv yz)) (hp : p < 8) (h1 : st p = 1) (ha : mp_lt a 4) : mp_OP p 12 a b T C tm xn yn (dl, nt, 0, tc, tm, xn, md, lo, en, dO, dA, dB, xo, xa, xb, xl, st, xr, rg, xv, pl, tr, xk, xm, wt, xw, xt, xi, mc, tk, xe, xz, ti) (dl, qn, 0, tm, tc, yn, md, lo, en, yo, ya, yb, yl, cu, ag, dO, dA, dB, st, rg, pl, yv, yr, tr, yt, yi, mc, yk, ym, wt, li, ye, qu, yd, ys, yz, ti) := by
  obtain ⟨j, hj, rfl⟩ := ha
  have c := nI_clamp (n := 4 * p + j) (by omega)
  have I := vp_in_nI (n := 4 * p + j) (N := 32) (by omega) (by omega)
  have cp := nI_clamp (n := p) (by omega)
  have Ip := vp_in_nI (n := p) (N := 8) hp (by omega)
  rcases mp_alx h.2.2.2.2.1 (rg (4 * p + j)) with ⟨q, hq, eq, haq⟩ | ⟨hd, _⟩
  · by_cases e : q = p
    · have eq' : rg (4 * p + j) = nI p := by rw [eq, e]
      have haq' : mp_al st p := Or.inl h1
      refine ⟨(dl, nt, 0, tc, tm, xn, md, lo, en, dO, dA, dB, xo, xa, xb, xl, st, xr, rg, xv, pl, tr, xk, xm, wt, xw, xt, xi, mc, tk, xe, xz, ti), (dl, nt, 0, tc, tm, xn, md, lo, en, dO, dA, dB, xo, xa, xb, xl, st, xr, rg, xv, pl, tr, xk, xm, wt, xw, xt, xi, mc, tk, xe, xz, ti), (dl, nt, 0, tc, tm, xn, md, lo, en, dO, dA, dB, xo, xa, xb, xl, st, xr, rg, xv, pl, tr, xk, xm, wt, xw, xt, xi, mc, tk, xe, xz, ti), (dl, qn, 0, tm, tc, yn, md, lo, en, yo, ya, yb, yl, cu, ag, dO, dA, dB, st, rg, pl, yv, yr, tr, yt, yi, mc, yk, ym, wt, li, ye, qu, yd, ys, yz, ti), fun post hq' => ?_, fun post hq' => ?_, fun post hq' => mx_fin0 hq', fun post hq' => Or.inr (Or.inr (Or.inr ⟨by decide, by decide, by decide, by decide, ?_⟩)), rfl, mp_RR_1 h1 h⟩
      · refine nm_r (mp_x4 p) (br_f (by decide) (br_f (by decide) (br_f (by decide) (br_f (by decide) (br_f (by decide) (br_f (by decide) (br_f (by decide) (br_f (by decide) (br_f (by decide) (br_f (by decide) (br_f (by decide) (br_f (by decide) (br_f (by decide) (br_f (by decide) (br_t rfl ?_)))))))))))))))
        exact hq'
      · refine nm_r (mp_x4 p) (br_f (by decide) (br_f (by decide) (br_f (by decide) (br_f (by decide) (br_f (by decide) (br_f (by decide) (br_f (by decide) (br_f (by decide) (br_t rfl ?_)))))))))
        rw [nI_add, c, eq']
        refine ⟨I, ?_⟩
        unfold wpX_monitor
        dsimp only
        exact mx_al_t hp haq' (br_f (by decide) (br_t rfl hq'))
      · refine br_f (by decide) ?_
        rw [mp_4a, c, eq']
        refine ⟨I, ?_⟩
        unfold wY_others_20
        refine my_al_t hp haq' (br_f (by decide) (br_t (by decide) ?_))
        exact br_f (by decide) (br_t rfl (br_f (by decide) hq'))
    · have k1 := mp_K_set h.2.2.2.2.2.2.2.1 hp hq (Ne.symm e) (Or.inl h1) haq
      have ne := mp_nI_inj (a := q) (b := p) (by omega) (by omega) e
      have c1 := nI_clamp (n := 8 * p + q) (by omega)
      have I1 := vp_in_nI (n := 8 * p + q) (N := 64) (by omega) (by omega)
      refine ⟨(dl, nt, 0, tc, tm, xn, md, lo, en, dO, dA, dB, xo, xa, xb, xl, st, xr, rg, xv, pl, tr, xk, xm, wt, xw, xt, xi, mc, tk, xe, xz, ti), _, _, (dl, qn, 0, tm, tc, yn, md, lo, en, yo, ya, yb, yl, cu, ag, dO, dA, dB, st, rg, pl, yv, yr, tr, yt, yi, mc, yk, upd ym (8 * p + q) 1, wt, li, ye, qu, yd, ys, yz, ti), fun post hq' => ?_, fun post hq' => ?_, fun post hq' => mx_fin0 hq', fun post hq' => Or.inr (Or.inr (Or.inr ⟨by decide, by decide, by decide, by decide, ?_⟩)), rfl, mp_RR_1 h1 (mp_K_R h h.2.2.2.2.2.2.1 k1)⟩
      · refine nm_r (mp_x4 p) (br_f (by decide) (br_f (by decide) (br_f (by decide) (br_f (by decide) (br_f (by decide) (br_f (by decide) (br_f (by decide) (br_f (by decide) (br_f (by decide) (br_f (by decide) (br_f (by decide) (br_f (by decide) (br_f (by decide) (br_f (by decide) (br_t rfl ?_)))))))))))))))
        exact hq'
      · refine nm_r (mp_x4 p) (br_f (by decide) (br_f (by decide) (br_f (by decide) (br_f (by decide) (br_f (by decide) (br_f (by decide) (br_f (by decide) (br_f (by decide) (br_t rfl ?_)))))))))
        rw [nI_add, c, eq]
        refine ⟨I, ?_⟩
        unfold wpX_monitor
        dsimp only
        refine mx_al_t hq haq (br_f (by decide) (br_f ne ?_))
        rw [cp]
        exact ⟨Ip, Ip, nm_e hq'⟩
      · refine br_f (by decide) ?_
        rw [mp_4a, c, eq]
        refine ⟨I, ?_⟩
        unfold wY_others_20
        refine my_al_t hq haq (br_f (by decide) (br_t (by decide) ?_))
        refine br_f (by decide) (br_f ne ?_)
        rw [mp_8x, nI_add, c1, mp_b1n]
        exact ⟨I1, nm_e (br_f (by decide) hq')⟩
  · obtain ⟨r, st', tk', nt', qu', qn', mc', xt', xi', yt', yi', lo', hX, hY, hR, _, _⟩ := mp_deliver (dl := dl) (nt := nt) (xc := 0) (tc := tc) (tm := tm) (xn := xn) (md := md) (lo := lo) (en := en) (dO := dO) (dA := dA) (dB := dB) (xo := xo) (xa := xa) (xb := xb) (xl := xl) (st := st) (xr := xr) (rg := rg) (xv := xv) (pl := pl) (tr := tr) (xk := xk) (xm := xm) (wt := wt) (xw := xw) (xt := xt) (xi := xi) (mc := mc) (tk := tk) (xe := xe) (xz := xz) (ti := ti) (qn := qn) (yc := 0) (yn := yn) (yo := yo) (ya := ya) (yb := yb) (yl := yl) (cu := cu) (ag := ag) (yv := yv) (yr := yr) (yt := yt) (yi := yi) (yk := yk) (ym := ym) (li := li) (ye := ye) (qu := qu) (yd := yd) (ys := ys) (yz := yz) h hp (Or.inl h1) 7 (56 + (rg (4 * p + j) &&& 7))
    refine ⟨(dl, nt, 0, tc, tm, xn, md, lo, en, dO, dA, dB, xo, xa, xb, xl, st, xr, rg, xv, pl, tr, xk, xm, wt, xw, xt, xi, mc, tk, xe, xz, ti), (dl, nt', 0, tc, tm, xn, md, lo', en, dO, dA, dB, xo, xa, xb, xl, st', xr, rg, xv, pl, tr, xk, xm, wt, xw, xt', xi', mc', tk', xe, xz, ti), (dl, nt', 0, tc, tm, xn, md, lo', en, dO, dA, dB, xo, xa, xb, xl, st', xr, rg, xv, pl, tr, xk, xm, wt, xw, xt', xi', mc', tk', xe, xz, ti), (dl, qn', 0, tm, tc, yn, md, lo', en, yo, ya, yb, yl, cu, ag, dO, dA, dB, st', rg, pl, yv, yr, tr, yt', yi', mc', yk, ym, wt, li, ye, qu', yd, ys, yz, ti), fun post hq' => ?_, fun post hq' => ?_, fun post hq' => mx_fin0 hq', fun post hq' => Or.inr (Or.inr (Or.inr ⟨by decide, by decide, by decide, by decide, ?_⟩)), rfl, mp_RR_s hR⟩
    · refine nm_r (mp_x4 p) (br_f (by decide) (br_f (by decide) (br_f (by decide) (br_f (by decide) (br_f (by decide) (br_f (by decide) (br_f (by decide) (br_f (by decide) (br_f (by decide) (br_f (by decide) (br_f (by decide) (br_f (by decide) (br_f (by decide) (br_f (by decide) (br_t rfl ?_)))))))))))))))
      exact hq'
    · refine nm_r (mp_x4 p) (br_f (by decide) (br_f (by decide) (br_f (by decide) (br_f (by decide) (br_f (by decide) (br_f (by decide) (br_f (by decide) (br_f (by decide) (br_t rfl ?_)))))))))
      rw [nI_add, c]
      refine ⟨I, ?_⟩
      unfold wpX_monitor
      dsimp only
      exact mx_al_f hd (br_t rfl (hX _ hq'))
    · refine br_f (by decide) ?_
      rw [mp_4a, c]
      refine ⟨I, ?_⟩
      unfold wY_others_20
      refine my_al_f hd (br_f (by decide) (br_t (by decide) ?_))
      exact br_t rfl (br_t rfl (hY _ hq'))
end
end
section
section
variable {dl xc tc tm xn md lo en qn yc yn : Int32} {nt : Int64} {dO dA dB xo xa xb xl st xr rg xv pl tr xk xm wt xw xt xi mc xe xz ti yo ya yb yl cu ag yv yr yt yi yk ym li ye qu yd ys yz : Nat → Int32} {tk : Nat → Int64} {run i p : Nat} {T C : Int} {G : Nat → Int32 → Prop}
theorem mp_op8 {a b : Int32} (h : (mp_D dl dO dA dB ∧ mp_C xo xa xb xl yo ya yb yl cu ∧ mp_V st xv yv xl cu ∧ mp_P st pl ∧ mp_S st ∧ mp_M st mc xt xi yt yi ∧ mp_K st xk yk ∧ mp_K st xm ym ∧ mp_W st xw li ye tm ∧ mp_T tm tc ti T ∧ mp_Q st tk nt p qu qn ∧ mp_E st xr yr ∧ mp_Z 0 st xr xe xz 0 yd ys yz 0 ∧ mp_F st nt C ∧ mp_G (fun _ _ => True) st xv yz)) (hp : p < 8) (h1 : st p = 1) (ha : mp_lt a 4) (hC1 : C + 1 < 2 ^ 40) : mp_OP p 8 a b T (C + 1) tm xn yn (dl, nt, 0, tc, tm, xn, md, lo, en, dO, dA, dB, xo, xa, xb, xl, st, xr, rg, xv, pl, tr, xk, xm, wt, xw, xt, xi, mc, tk, xe, xz, ti) (dl, qn, 0, tm, tc, yn, md, lo, en, yo, ya, yb, yl, cu, ag, dO, dA, dB, st, rg, pl, yv, yr, tr, yt, yi, mc, yk, ym, wt, li, ye, qu, yd, ys, yz, ti) := by
  obtain ⟨m, hm4, rfl⟩ := ha
  have c4 := nI_clamp (n := 4 * p) (by omega)
  have I4 := vp_in_nI (n := 4 * p) (N := 32) (by omega) (by omega)
  have c41 := nI_clamp (n := 4 * p + 1) (by omega)
  have I41 := vp_in_nI (n := 4 * p + 1) (N := 32) (by omega) (by omega)
  obtain ⟨r, st', tk', nt', qu', qn', rg', pl', xv', yv', tr', md', hX, hY, hR, hr, hk⟩ := mp_make (dl := dl) (nt := nt) (tc := tc) (tm := tm) (xn := xn) (md := md) (lo := lo) (en := en) (dO := dO) (dA := dA) (dB := dB) (xo := xo) (xa := xa) (xb := xb) (xl := xl) (st := st) (xr := xr) (rg := rg) (xv := xv) (pl := pl) (tr := tr) (xk := xk) (xm := xm) (wt := wt) (xw := xw) (xt := xt) (xi := xi) (mc := mc) (tk := tk) (xe := xe) (xz := xz) (ti := ti) (qn := qn) (yn := yn) (yo := yo) (ya := ya) (yb := yb) (yl := yl) (cu := cu) (ag := ag) (yv := yv) (yr := yr) (yt := yt) (yi := yi) (yk := yk) (ym := ym) (li := li) (ye := ye) (qu := qu) (yd := yd) (ys := ys) (yz := yz) h hm4 (rg (4 * p)) (fun _ => Or.inl h1) (fun _ _ => trivial) hC1
  obtain ⟨ap, ep⟩ := hk p hp (Or.inl h1)
  have h1' : st' p = 1 := ep.trans h1
  have hal : ∀ (post : SY → Prop), (∀ r3 : Int32, post (dl, qn, 0, tm, tc, yn, md, lo, en, yo, ya, yb, yl, cu, ag, dO, dA, dB, st, rg, pl, yv, yr, tr, yt, yi, mc, yk, ym, wt, li, ye, qu, yd, ys, yz, ti) → True) → True := fun _ _ => trivial
  have hA : ∀ post : SX → Prop, post (dl, nt, 0, tc, tm, xn, md, lo, en, dO, dA, dB, xo, xa, xb, xl, st, xr, rg, xv, pl, tr, xk, xm, wt, xw, xt, xi, mc, tk, xe, xz, ti) → wpX_doAlone post (dl, nt, 0, tc, tm, xn, md, lo, en, dO, dA, dB, xo, xa, xb, xl, st, xr, rg, xv, pl, tr, xk, xm, wt, xw, xt, xi, mc, tk, xe, xz, ti) (nI p) 8 (nI m) b := fun post hq' => by
    refine nm_r (mp_x4 p) (br_f (by decide) (br_f (by decide) (br_f (by decide) (br_f (by decide) (br_f (by decide) (br_f (by decide) (br_f (by decide) (br_f (by decide) (br_f (by decide) (br_f (by decide) (br_t rfl ?_)))))))))))
    exact hq'
  have hal0 : ∀ Q : Int32 → Prop, (∀ r3, Q r3) → wpY_alive Q (dl, qn, 0, tm, tc, yn, md, lo, en, yo, ya, yb, yl, cu, ag, dO, dA, dB, st, rg, pl, yv, yr, tr, yt, yi, mc, yk, ym, wt, li, ye, qu, yd, ys, yz, ti) 0 := fun Q hQ => by
    rcases mp_alx h.2.2.2.2.1 0 with ⟨q, hq, eq, haq⟩ | ⟨hd, _⟩
    · rw [eq]
      exact my_al_t hq haq (hQ 1)
    · exact my_al_f hd (hQ 0)
  by_cases hl : b = 1 ∧ r ≠ -1
  · obtain ⟨hb1, hrn⟩ := hl
    rcases hr with hr | ⟨cq, hcq, er, ac⟩
    · exact absurd hr hrn
    · obtain ⟨xk', yk', hXl, hYl, hK'⟩ := mp_link (dl := dl) (nt := nt') (xc := 0) (tc := tc) (tm := tm) (xn := xn) (md := md') (lo := lo) (en := en) (dO := dO) (dA := dA) (dB := dB) (xo := xo) (xa := xa) (xb := xb) (xl := xl) (st := st') (xr := xr) (rg := upd rg' (4 * p + 1) r) (xv := xv') (pl := pl') (tr := tr') (xk := xk) (xm := xm) (wt := wt) (xw := xw) (xt := xt) (xi := xi) (mc := mc) (tk := tk') (xe := xe) (xz := xz) (ti := ti) (qn := qn') (yc := 0) (yn := yn) (yo := yo) (ya := ya) (yb := yb) (yl := yl) (cu := cu) (ag := ag) (yv := yv') (yr := yr) (yt := yt) (yi := yi) (yk := yk) (ym := ym) (li := li) (ye := ye) (qu := qu') (yd := yd) (ys := ys) (yz := yz) hR.2.2.2.2.2.2.1 hp hcq ap ac
      refine ⟨(dl, nt, 0, tc, tm, xn, md, lo, en, dO, dA, dB, xo, xa, xb, xl, st, xr, rg, xv, pl, tr, xk, xm, wt, xw, xt, xi, mc, tk, xe, xz, ti), (dl, nt', 0, tc, tm, xn, md', lo, en, dO, dA, dB, xo, xa, xb, xl, st', xr, upd rg' (4 * p + 1) r, xv', pl', tr', xk', xm, wt, xw, xt, xi, mc, tk', xe, xz, ti), (dl, nt', 0, tc, tm, xn, md', lo, en, dO, dA, dB, xo, xa, xb, xl, st', xr, upd rg' (4 * p + 1) r, xv', pl', tr', xk', xm, wt, xw, xt, xi, mc, tk', xe, xz, ti), (dl, qn', 0, tm, tc, yn, md', lo, en, yo, ya, yb, yl, cu, ag, dO, dA, dB, st', upd rg' (4 * p + 1) r, pl', yv', yr, tr', yt, yi, mc, yk', ym, wt, li, ye, qu', yd, ys, yz, ti), hA, fun post hq' => ?_, fun post hq' => mx_fin0 hq', fun post hq' => Or.inr (Or.inr (Or.inr ⟨by decide, by decide, by decide, by decide, ?_⟩)), rfl, mp_RR_1 h1' (mp_K_R hR hK' hR.2.2.2.2.2.2.2.1)⟩
      · refine nm_r (mp_x4 p) (br_f (by decide) (br_f (by decide) (br_f (by decide) (br_f (by decide) (br_t rfl ?_)))))
        refine br_t hb1 ?_
        unfold wX_doWithOthers_91 wpX_spawnFrom
        dsimp only
        rw [mp_x4, nI_1, c4, c41]
        refine ⟨I4, hX _ ⟨I41, nm_e (br_f (by decide) (br_f hrn ?_))⟩⟩
        subst er
        exact hXl _ hq'
      · refine br_t rfl ?_
        unfold wY_others_20
        refine hal0 _ (fun r3 => (br_f (by decide) (br_f (by decide) (br_f (by decide) (br_f (by decide) (br_t rfl ?_))))))
        rw [mp_4x, nI_1, c4, c41]
        refine ⟨I4, hY _ ⟨I41, nm_e (br_f ?_ (br_t hb1 ?_))⟩⟩
        · rw [er]
          exact nI_pos (by omega)
        · subst er
          exact hYl _ hq'
  · refine ⟨(dl, nt, 0, tc, tm, xn, md, lo, en, dO, dA, dB, xo, xa, xb, xl, st, xr, rg, xv, pl, tr, xk, xm, wt, xw, xt, xi, mc, tk, xe, xz, ti), (dl, nt', 0, tc, tm, xn, md', lo, en, dO, dA, dB, xo, xa, xb, xl, st', xr, upd rg' (4 * p + 1) r, xv', pl', tr', xk, xm, wt, xw, xt, xi, mc, tk', xe, xz, ti), (dl, nt', 0, tc, tm, xn, md', lo, en, dO, dA, dB, xo, xa, xb, xl, st', xr, upd rg' (4 * p + 1) r, xv', pl', tr', xk, xm, wt, xw, xt, xi, mc, tk', xe, xz, ti), (dl, qn', 0, tm, tc, yn, md', lo, en, yo, ya, yb, yl, cu, ag, dO, dA, dB, st', upd rg' (4 * p + 1) r, pl', yv', yr, tr', yt, yi, mc, yk, ym, wt, li, ye, qu', yd, ys, yz, ti), hA, fun post hq' => ?_, fun post hq' => mx_fin0 hq', fun post hq' => Or.inr (Or.inr (Or.inr ⟨by decide, by decide, by decide, by decide, ?_⟩)), rfl, mp_RR_1 h1' hR⟩
    · refine nm_r (mp_x4 p) (br_f (by decide) (br_f (by decide) (br_f (by decide) (br_f (by decide) (br_t rfl ?_)))))
      by_cases hb1 : b = 1
      · have hrn : r = -1 := by
          by_cases z : r = -1
          · exact z
          · exact absurd ⟨hb1, z⟩ hl
        refine br_t hb1 ?_
        unfold wX_doWithOthers_91 wpX_spawnFrom
        dsimp only
        rw [mp_x4, nI_1, c4, c41]
        exact ⟨I4, hX _ ⟨I41, nm_e (br_f (by decide) (br_t hrn hq'))⟩⟩
      · refine br_f hb1 ?_
        unfold wX_doWithOthers_91 wpX_spawnFrom
        dsimp only
        rw [mp_x4, nI_1, c4, c41]
        exact ⟨I4, hX _ ⟨I41, nm_e (br_t rfl hq')⟩⟩
    · refine br_t rfl ?_
      unfold wY_others_20
      refine hal0 _ (fun r3 => (br_f (by decide) (br_f (by decide) (br_f (by decide) (br_f (by decide) (br_t rfl ?_))))))
      rw [mp_4x, nI_1, c4, c41]
      refine ⟨I4, hY _ ⟨I41, nm_e ?_⟩⟩
      rcases hr with hr | ⟨cq, hcq, er, ac⟩
      · exact br_t (by rw [hr]; decide) hq'
      · refine br_f (by rw [er]; exact nI_pos (by omega)) (br_f (fun hb1 => hl ⟨hb1, ?_⟩) hq')
        rw [er]
        exact mp_neg1 (by omega)
/-! RECEIVE: the first message with a tag -/
def mp_tb (tg : Int32) (xt : Nat → Int32) (p k : Nat) : Prop := ((tg >>> (xt (12 * p + k) &&& 31)) &&& 1) = 1
theorem mp_first (B : Nat → Prop) : ∀ n, (∀ k, k < n → ¬ B k) ∨ ∃ k, k < n ∧ B k ∧ ∀ j, j < k → ¬ B j := by
  intro n
  induction n with
  | zero => exact Or.inl (fun k hk => absurd hk (by omega))
  | succ n ih =>
    rcases ih with h | ⟨k, hk, h1, h2⟩
    · rcases Classical.em (B n) with w | w
      · exact Or.inr ⟨n, by omega, w, h⟩
      · exact Or.inl (fun k hk => by
          by_cases e : k = n
          · subst e; exact w
          · exact h k (by omega))
    · exact Or.inr ⟨k, by omega, h1, h2⟩
theorem mx_ft_l {e n0 : Nat} {tg : Int32} (hp : p < 8) (he : e ≤ 12) (hn0 : n0 ≤ 12) (em : mc p = nI n0) (hb : ∀ k, k < e → k < n0 → ¬ mp_tb tg xt p k) (post : Int32 → Prop) (hE : ∀ m, wX_firstWithTag_2 post (nI p) tg dl nt xc tc tm xn md lo en dO dA dB xo xa xb xl st xr rg xv pl tr xk xm wt xw xt xi mc tk xe xz ti (m + 1) (nI e)) : ∀ d q, q + d = e → ∀ n, d < n → wX_firstWithTag_2 post (nI p) tg dl nt xc tc tm xn md lo en dO dA dB xo xa xb xl st xr rg xv pl tr xk xm wt xw xt xi mc tk xe xz ti n (nI q) := by
  intro d
  induction d with
  | zero =>
    intro q h n hn
    have : q = e := by omega
    subst this
    obtain ⟨m, rfl⟩ := mp_pos hn
    exact hE m
  | succ d ih =>
    intro q h n hn
    obtain ⟨m, rfl⟩ := mp_pos hn
    have c := nI_clamp (n := p) (by omega)
    have I := vp_in_nI (n := p) (N := 8) hp (by omega)
    have c2 := nI_clamp (n := 12 * p + q) (by omega)
    have I2 := vp_in_nI (n := 12 * p + q) (N := 96) (by omega) (by omega)
    have ihh := ih (q + 1) (by omega) m (by omega)
    refine br_f (nI_ge (b := 12) (by omega) (by omega)) (And.intro I ?_)
    rw [c, em, mp_x12, nI_add, c2]
    by_cases w : n0 ≤ q
    · exact br_t (nI_le w (by omega)) (nm_r (nI_1 q) ihh)
    · exact br_f (nI_ge (by omega) (by omega)) ⟨I2, br_f (hb q (by omega) (by omega)) (br_t rfl (nm_r (nI_1 q) ihh))⟩
theorem mp_tb0 {tg x : Int32} (h : ¬ ((tg >>> (x &&& 31)) &&& 1) = 1) : ((tg >>> (x &&& 31)) &&& 1) = 0 := by
  rcases mp_01 (tg >>> (x &&& 31)) with w | w
  · exact absurd w h
  · exact w
theorem my_ft_l {e n0 : Nat} {tg lim : Int32} (hp : p < 8) (he : e ≤ n0) (hn0 : n0 ≤ 12) (em : mc p = nI n0) (hb : ∀ k, k < e → ¬ mp_tb tg yt p k) (post : SY → Prop) (hE : ∀ m, wY_receive_3 post (nI p) tg lim dl qn yc tm tc yn md lo en yo ya yb yl cu ag dO dA dB st rg pl yv yr tr yt yi mc yk ym wt li ye qu yd ys yz ti (m + 1) (nI e)) : ∀ d q, q + d = e → ∀ n, d < n → wY_receive_3 post (nI p) tg lim dl qn yc tm tc yn md lo en yo ya yb yl cu ag dO dA dB st rg pl yv yr tr yt yi mc yk ym wt li ye qu yd ys yz ti n (nI q) := by
  intro d
  induction d with
  | zero =>
    intro q h n hn
    have : q = e := by omega
    subst this
    obtain ⟨m, rfl⟩ := mp_pos hn
    exact hE m
  | succ d ih =>
    intro q h n hn
    obtain ⟨m, rfl⟩ := mp_pos hn
    have c := nI_clamp (n := p) (by omega)
    have I := vp_in_nI (n := p) (N := 8) hp (by omega)
    have c2 := nI_clamp (n := 12 * p + q) (by omega)
    have I2 := vp_in_nI (n := 12 * p + q) (N := 96) (by omega) (by omega)
    have ihh := ih (q + 1) (by omega) m (by omega)
    refine And.intro I ?_
    rw [c, em, mp_12x, nI_add, c2]
    exact br_f (nI_ge (by omega) (by omega)) ⟨I2, br_t (mp_tb0 (hb q (by omega))) (nm_r (nI_1 q) ihh)⟩
/-! RECEIVE: the message is taken out -/
theorem mx_drop_l {k : Nat} (hp : p < 8) (hk : k < 12) : ∀ d q, q + d = 11 → ∀ xt xi : Nat → Int32, ∃ xt' xi' : Nat → Int32, (∀ j, q ≤ j → j < 11 → xt' (12 * p + j) = (if j < k then xt (12 * p + j) else xt (12 * p + j + 1)) ∧ xi' (12 * p + j) = (if j < k then xi (12 * p + j) else xi (12 * p + j + 1))) ∧ (∀ j, (j < 12 * p + q ∨ 12 * p + 11 ≤ j) → xt' j = xt j ∧ xi' j = xi j) ∧ ∀ (post : SX → Prop) n, d < n → post (dl, nt, xc, tc, tm, xn, md, lo, en, dO, dA, dB, xo, xa, xb, xl, st, xr, rg, xv, pl, tr, xk, xm, wt, xw, xt', xi', mc, tk, xe, xz, ti) → wX_dropMessage_12 post (nI p) (nI k) dl nt xc tc tm xn md lo en n (nI q) dO dA dB xo xa xb xl st xr rg xv pl tr xk xm wt xw xt xi mc tk xe xz ti := by
  intro d
  induction d with
  | zero =>
    intro q hq xt xi
    have e : q = 11 := by omega
    subst e
    refine ⟨xt, xi, fun j h1 h2 => absurd h2 (by omega), fun j _ => ⟨rfl, rfl⟩, fun post n hn h => ?_⟩
    obtain ⟨m, rfl⟩ := mp_pos hn
    exact br_t (nI_le (b := 11) (Nat.le_refl 11) (by omega)) h
  | succ d ih =>
    intro q hq xt xi
    have h11 : ¬ (11 : Int32) ≤ nI q := nI_ge (b := 11) (by omega) (by omega)
    by_cases w : q < k
    · obtain ⟨xt', xi', a1, a2, hX⟩ := ih (q + 1) (by omega) xt xi
      refine ⟨xt', xi', fun j h1 h2 => ?_, fun j hj => a2 j (by omega), fun post n hn h => ?_⟩
      · by_cases e : j = q
        · subst e
          rw [if_pos w, if_pos w]
          exact a2 _ (by omega)
        · exact a1 j (by omega) h2
      · obtain ⟨m, rfl⟩ := mp_pos hn
        exact br_f h11 (br_t (nI_lt w (by omega)) (nm_r (nI_1 q) (hX post m (by omega) h)))
    · obtain ⟨xt', xi', a1, a2, hX⟩ := ih (q + 1) (by omega) (upd xt (12 * p + q) (xt (12 * p + q + 1))) (upd xi (12 * p + q) (xi (12 * p + q + 1)))
      have c1 := nI_clamp (n := 12 * p + q) (by omega)
      have I1 := vp_in_nI (n := 12 * p + q) (N := 96) (by omega) (by omega)
      have c2 := nI_clamp (n := 12 * p + q + 1) (by omega)
      have I2 := vp_in_nI (n := 12 * p + q + 1) (N := 96) (by omega) (by omega)
      refine ⟨xt', xi', fun j h1 h2 => ?_, fun j hj => ?_, fun post n hn h => ?_⟩
      · by_cases e : j = q
        · subst e
          have v := a2 (12 * p + j) (by omega)
          rw [v.1, v.2, pk_us, pk_us, if_neg w, if_neg w]
          exact ⟨rfl, rfl⟩
        · have v := a1 j (by omega) h2
          rw [pk_un (by omega), pk_un (by omega), pk_un (by omega), pk_un (by omega)] at v
          exact v
      · have v := a2 j (by omega)
        rw [v.1, v.2, pk_un (by omega), pk_un (by omega)]
        exact ⟨rfl, rfl⟩
      · obtain ⟨m, rfl⟩ := mp_pos hn
        refine br_f h11 (br_f (nI_nlt (by omega) (by omega)) (nm_r (e' := nI (12 * p + q)) (by rw [mp_x12, nI_add]) ?_))
        rw [nI_1, c1, c2]
        exact ⟨I2, I1, nm_e ⟨I2, I1, nm_e (nm_r (nI_1 q) (hX post m (by omega) h))⟩⟩
theorem my_drop_l {n1 : Nat} (hp : p < 8) (hn1 : n1 < 12) (em : mc p = nI n1) : ∀ d s, s + d = n1 → ∀ yt yi : Nat → Int32, ∃ yt' yi' : Nat → Int32, (∀ j, s ≤ j → j < n1 → yt' (12 * p + j) = yt (12 * p + j + 1) ∧ yi' (12 * p + j) = yi (12 * p + j + 1)) ∧ (∀ j, (j < 12 * p + s ∨ 12 * p + n1 ≤ j) → yt' j = yt j ∧ yi' j = yi j) ∧ ∀ (post : SY → Prop) n, d < n → post (dl, qn, yc, tm, tc, yn, md, lo, en, yo, ya, yb, yl, cu, ag, dO, dA, dB, st, rg, pl, yv, yr, tr, yt', yi', mc, yk, ym, wt, li, ye, qu, yd, ys, yz, ti) → wY_receive_111 post (nI p) dl qn yc tm tc yn md lo en n (nI (12 * p + s)) yo ya yb yl cu ag dO dA dB st rg pl yv yr tr yt yi mc yk ym wt li ye qu yd ys yz ti := by
  intro d
  have c := nI_clamp (n := p) (by omega)
  have I := vp_in_nI (n := p) (N := 8) hp (by omega)
  induction d with
  | zero =>
    intro s hs yt yi
    have e : s = n1 := by omega
    subst e
    refine ⟨yt, yi, fun j h1 h2 => absurd h2 (by omega), fun j _ => ⟨rfl, rfl⟩, fun post n hn h => ?_⟩
    obtain ⟨m, rfl⟩ := mp_pos hn
    refine And.intro I ?_
    rw [c, em, mp_12x, nI_add]
    exact br_t (nI_le (Nat.le_refl _) (by omega)) h
  | succ d ih =>
    intro s hs yt yi
    obtain ⟨yt', yi', a1, a2, hY⟩ := ih (s + 1) (by omega) (upd yt (12 * p + s) (yt (12 * p + s + 1))) (upd yi (12 * p + s) (yi (12 * p + s + 1)))
    have c1 := nI_clamp (n := 12 * p + s) (by omega)
    have I1 := vp_in_nI (n := 12 * p + s) (N := 96) (by omega) (by omega)
    have c2 := nI_clamp (n := 12 * p + s + 1) (by omega)
    have I2 := vp_in_nI (n := 12 * p + s + 1) (N := 96) (by omega) (by omega)
    refine ⟨yt', yi', fun j h1 h2 => ?_, fun j hj => ?_, fun post n hn h => ?_⟩
    · by_cases e : j = s
      · subst e
        have v := a2 (12 * p + j) (by omega)
        rw [v.1, v.2, pk_us, pk_us]
        exact ⟨rfl, rfl⟩
      · have v := a1 j (by omega) h2
        rw [pk_un (by omega), pk_un (by omega)] at v
        exact v
    · have v := a2 j (by omega)
      rw [v.1, v.2, pk_un (by omega), pk_un (by omega)]
      exact ⟨rfl, rfl⟩
    · obtain ⟨m, rfl⟩ := mp_pos hn
      refine And.intro I ?_
      rw [c, em, mp_12x, nI_add, nI_1, c1, c2]
      exact br_f (nI_ge (by omega) (by omega)) ⟨I2, I1, nm_e ⟨I2, I1, nm_e (nm_r (e' := nI (12 * p + (s + 1))) rfl (hY post m (by omega) h))⟩⟩
end
end
section
section
variable {dl xc tc tm xn md lo en qn yc yn : Int32} {nt : Int64} {dO dA dB xo xa xb xl st xr rg xv pl tr xk xm wt xw xt xi mc xe xz ti yo ya yb yl cu ag yv yr yt yi yk ym li ye qu yd ys yz : Nat → Int32} {tk : Nat → Int64} {run i p : Nat} {T C : Int} {G : Nat → Int32 → Prop}
theorem mx_wait {post : SX → Prop} {tg e : Int32} {pn : Nat} (hp : p < 8) (hpl : pl p = nI (pn + 1)) (h : post (dl, nt, xc, tc, tm, xn, md, lo, en, dO, dA, dB, xo, xa, xb, xl, upd st p 2, xr, rg, xv, upd pl p (nI pn), tr, xk, xm, upd wt p tg, upd xw p e, xt, xi, mc, tk, xe, xz, ti)) : wpX_waitUntil post (dl, nt, xc, tc, tm, xn, md, lo, en, dO, dA, dB, xo, xa, xb, xl, st, xr, rg, xv, pl, tr, xk, xm, wt, xw, xt, xi, mc, tk, xe, xz, ti) (nI p) tg e := by
  have c := nI_clamp (n := p) (by omega)
  have I := vp_in_nI (n := p) (N := 8) hp (by omega)
  unfold wpX_waitUntil
  dsimp only
  rw [c, hpl, nI_pred]
  exact ⟨I, nm_e ⟨I, nm_e ⟨I, nm_e ⟨I, I, nm_e h⟩⟩⟩⟩
theorem mp_addt {x y : Int32} {T : Int} (h0 : 0 ≤ x.toInt) (hT : x.toInt ≤ T) (hT1 : T < 1900000000) (h1 : 0 ≤ y.toInt) (h2 : y.toInt ≤ 1000) : (x + y).toInt = x.toInt + y.toInt := by
  rw [Int32.toInt_add]
  exact Int.bmod_eq_of_le (by omega) (by omega)
theorem my_210 {post : SY → Prop} {tg e x5 : Int32} {pn l : Nat} {z : Int32} (hp : p < 8) (hl : l < 5) (hpl : pl p = nI (pn + 1)) (hz : (l = 4 ∧ z = 0) ∨ (l < 4 ∧ z = 1)) (he : (x5 ≤ 1000 ∧ e = tm + x5) ∨ (¬ x5 ≤ 1000 ∧ e = tm + 1000)) (h : post (dl, qn, yc, tm, tc, yn, md, lo, en, yo, ya, yb, yl, cu, ag, dO, dA, dB, upd st p 2, rg, upd pl p (nI pn), yv, yr, tr, yt, yi, mc, yk, ym, upd wt p tg, upd li p z, upd ye p e, qu, yd, ys, yz, ti)) : wY_receive_210 post (nI p) tg (nI l) x5 dl qn yc tm tc yn md lo en yo ya yb yl cu ag dO dA dB st rg pl yv yr tr yt yi mc yk ym wt li ye qu yd ys yz ti := by
  have c := nI_clamp (n := p) (by omega)
  have I := vp_in_nI (n := p) (N := 8) hp (by omega)
  have w249 : ∀ z0, vp_nar .boolean z0 = z → wY_receive_249 post (nI p) x5 z0 (nI p) dl qn yc tm tc yn md lo en yo ya yb yl cu ag dO dA dB (upd st p 2) rg (upd pl p (nI pn)) yv yr tr yt yi mc yk ym (upd wt p tg) li ye qu yd ys yz ti := fun z0 ez => by
    unfold wY_receive_249
    rw [c, ez]
    rcases he with ⟨h1, rfl⟩ | ⟨h1, rfl⟩
    · exact ⟨I, nm_e (br_t h1 ⟨I, nm_e h⟩)⟩
    · exact ⟨I, nm_e (br_f h1 ⟨I, nm_e h⟩)⟩
  unfold wY_receive_210
  rw [c, hpl, nI_pred]
  refine ⟨I, I, nm_e ⟨I, nm_e ⟨I, nm_e ?_⟩⟩⟩
  rcases hz with ⟨e4, rfl⟩ | ⟨e4, rfl⟩
  · exact br_t (nI_le (a := 4) (by omega) (by omega)) (w249 0 mp_b0n)
  · exact br_f (nI_ge (b := 4) e4 (by omega)) (w249 1 mp_b1n)
theorem mx_ft_some {k n0 : Nat} {tg : Int32} {post : Int32 → Prop} (hp : p < 8) (hn0 : n0 ≤ 12) (em : mc p = nI n0) (hk : k < n0) (hB : mp_tb tg xt p k) (hlow : ∀ j, j < k → ¬ mp_tb tg xt p j) (h : post (nI k)) : wpX_firstWithTag post (dl, nt, xc, tc, tm, xn, md, lo, en, dO, dA, dB, xo, xa, xb, xl, st, xr, rg, xv, pl, tr, xk, xm, wt, xw, xt, xi, mc, tk, xe, xz, ti) (nI p) tg := by
  have c := nI_clamp (n := p) (by omega)
  have I := vp_in_nI (n := p) (N := 8) hp (by omega)
  have c2 := nI_clamp (n := 12 * p + k) (by omega)
  have I2 := vp_in_nI (n := 12 * p + k) (N := 96) (by omega) (by omega)
  unfold wpX_firstWithTag
  refine ⟨13, mx_ft_l hp (e := k) (by omega) hn0 em (fun j hj _ => hlow j hj) post (fun m => ?_) k 0 (by omega) 13 (by omega)⟩
  refine br_f (nI_ge (b := 12) (by omega) (by omega)) (And.intro I ?_)
  rw [c, em, mp_x12, nI_add, c2]
  exact br_f (nI_ge hk (by omega)) ⟨I2, br_t hB (br_f (by decide) h)⟩
theorem mx_ft_none {n0 : Nat} {tg : Int32} {post : Int32 → Prop} (hp : p < 8) (hn0 : n0 ≤ 12) (em : mc p = nI n0) (hlow : ∀ j, j < n0 → ¬ mp_tb tg xt p j) (h : post (-1)) : wpX_firstWithTag post (dl, nt, xc, tc, tm, xn, md, lo, en, dO, dA, dB, xo, xa, xb, xl, st, xr, rg, xv, pl, tr, xk, xm, wt, xw, xt, xi, mc, tk, xe, xz, ti) (nI p) tg := by
  unfold wpX_firstWithTag
  exact ⟨13, mx_ft_l hp (e := 12) (by omega) hn0 em (fun j _ hj => hlow j hj) post (fun m => br_t (nI_le (b := 12) (Nat.le_refl 12) (by omega)) h) 12 0 (by omega) 13 (by omega)⟩
theorem mp_op7 {a b : Int32} {pn : Nat} (h : (mp_D dl dO dA dB ∧ mp_C xo xa xb xl yo ya yb yl cu ∧ mp_V st xv yv xl cu ∧ mp_P st pl ∧ mp_S st ∧ mp_M st mc xt xi yt yi ∧ mp_K st xk yk ∧ mp_K st xm ym ∧ mp_W st xw li ye tm ∧ mp_T tm tc ti T ∧ mp_Q st tk nt p qu qn ∧ mp_E st xr yr ∧ mp_Z 0 st xr xe xz 0 yd ys yz 0 ∧ mp_F st nt C ∧ mp_G (fun _ _ => True) st xv yz)) (hp : p < 8) (h1 : st p = 1) (hb : mp_lt b 5) (hpl : pl p = nI (pn + 1)) (hpn : pn < 24) (hT1 : T < 1900000000) (hC1 : C + 1 < 2 ^ 40) : mp_OP p 7 a b T (C + 1) tm xn yn (dl, nt, 0, tc, tm, xn, md, lo, en, dO, dA, dB, xo, xa, xb, xl, st, xr, rg, xv, pl, tr, xk, xm, wt, xw, xt, xi, mc, tk, xe, xz, ti) (dl, qn, 0, tm, tc, yn, md, lo, en, yo, ya, yb, yl, cu, ag, dO, dA, dB, st, rg, pl, yv, yr, tr, yt, yi, mc, yk, ym, wt, li, ye, qu, yd, ys, yz, ti) := by
  have hh := h
  obtain ⟨hD, hC, hV, hP, hS, hM, hK, hm, hW, hT, hQ, hE, hZ, hF, hG⟩ := h
  obtain ⟨l, hl, rfl⟩ := hb
  obtain ⟨n0, hn0, em, _, hk⟩ := hM p hp
  have hup := mp_F_R hh (C' := C + 1) (by omega) hC1
  have c := nI_clamp (n := p) (by omega)
  have I := vp_in_nI (n := p) (N := 8) hp (by omega)
  have c4 := nI_clamp (n := 4 * p) (by omega)
  have I4 := vp_in_nI (n := 4 * p) (N := 32) (by omega) (by omega)
  have c41 := nI_clamp (n := 4 * p + 1) (by omega)
  have I41 := vp_in_nI (n := 4 * p + 1) (N := 32) (by omega) (by omega)
  have hBeq : ∀ k, k < n0 → (mp_tb a xt p k ↔ mp_tb a yt p k) := fun k hk' => by
    unfold mp_tb
    rw [(hk k hk').1]
  rcases mp_first (mp_tb a xt p) n0 with hnone | ⟨k, hk0, hB, hlow⟩
  · have hnoneY : ∀ k, k < n0 → ¬ mp_tb a yt p k := fun k hk' z => hnone k hk' ((hBeq k hk').mpr z)
    have hY0 : ∀ post : SY → Prop, wY_receive_39 post (nI p) a (nI l) (nI n0) dl qn 0 tm tc yn md lo en yo ya yb yl cu ag dO dA dB st rg pl yv yr tr yt yi mc yk ym wt li ye qu yd ys yz ti → my_disp post (dl, qn, 0, tm, tc, yn, md, lo, en, yo, ya, yb, yl, cu, ag, dO, dA, dB, st, rg, pl, yv, yr, tr, yt, yi, mc, yk, ym, wt, li, ye, qu, yd, ys, yz, ti) (nI p) 7 a (nI l) := fun post w => Or.inr (Or.inl ⟨by decide, by decide, rfl, by
      unfold wpY_receive
      refine ⟨n0 + 1, my_ft_l hp (e := n0) (Nat.le_refl n0) hn0 em hnoneY post (fun m => And.intro I ?_) n0 0 (by omega) (n0 + 1) (by omega)⟩
      rw [c, em]
      exact br_t (nI_le (Nat.le_refl n0) (by omega)) w⟩)
    by_cases h4 : l = 4
    · subst h4
      refine mp_op_a (u' := (dl, nt, 0, tc, tm, xn, md, lo, en, dO, dA, dB, xo, xa, xb, xl, upd st p 2, xr, rg, xv, upd pl p (nI pn), tr, xk, xm, upd wt p a, upd xw p (-1), xt, xi, mc, tk, xe, xz, ti)) (v' := (dl, qn, 0, tm, tc, yn, md, lo, en, yo, ya, yb, yl, cu, ag, dO, dA, dB, upd st p 2, rg, upd pl p (nI pn), yv, yr, tr, yt, yi, mc, yk, ym, upd wt p a, upd li p 0, upd ye p (tm + 0), qu, yd, ys, yz, ti)) (fun post hq => ?_) (fun post hq => ?_) (fun post hq => mx_fin0 hq) (fun post hq => hY0 post ?_) rfl (mp_RR_2 (by rw [pk_us]; decide) (mp_wait_R hh hp h1 hpn (Or.inl ⟨rfl, rfl⟩) hC1))
      · refine nm_r (mp_x4 p) (br_f (by decide) (br_f (by decide) (br_f (by decide) (br_f (by decide) (br_f (by decide) (br_f (by decide) (br_f (by decide) (br_f (by decide) (br_f (by decide) (br_t rfl ?_))))))))))
        unfold wpX_receive
        dsimp only
        refine mx_ft_none hp hn0 em hnone (nm_e (br_t rfl (br_t rfl ?_)))
        exact mx_wait hp hpl hq
      · refine nm_r (mp_x4 p) (br_f (by decide) (br_f (by decide) (br_f (by decide) (br_t rfl ?_))))
        exact hq
      · unfold wY_receive_39
        rw [c, em]
        refine ⟨I, br_t (nI_le (Nat.le_refl n0) (by omega)) (br_t (nI_le (b := 4) (Nat.le_refl 4) (by omega)) ?_)⟩
        exact br_t (nI_le (b := 4) (Nat.le_refl 4) (by omega)) (my_210 hp (by omega) hpl (Or.inl ⟨rfl, rfl⟩) (Or.inl ⟨by decide, rfl⟩) hq)
    · have hl4 : l < 4 := by omega
      have ne4 : ¬ nI l = 4 := mp_nI_inj (b := 4) (by omega) (by omega) h4
      have ge4 : ¬ (4 : Int32) ≤ nI l := nI_ge (b := 4) hl4 (by omega)
      have cl := nI_clamp (n := 4 * p + l) (by omega)
      have Il := vp_in_nI (n := 4 * p + l) (N := 32) (by omega) (by omega)
      obtain ⟨t0, t1, _, _, _⟩ := hT
      have i0 : (0 : Int32).toInt = 0 := by decide
      have i1 : (1 : Int32).toInt = 1 := by decide
      have ik : (1000 : Int32).toInt = 1000 := by decide
      by_cases hw : rg (4 * p + l) ≤ 0
      · have hw1 : ¬ (1 : Int32) ≤ rg (4 * p + l) := fun z => by
          rw [Int32.le_iff_toInt_le, i1] at z
          rw [Int32.le_iff_toInt_le, i0] at hw
          omega
        refine mp_op_a (u' := (dl, nt, 0, tc, tm, xn, md, lo, en, dO, dA, dB, xo, xa, xb, xl, st, xr, upd rg (4 * p + 1) (-1), xv, pl, tr, xk, xm, wt, xw, xt, xi, mc, tk, xe, xz, ti)) (v' := (dl, qn, 0, tm, tc, yn, md, lo, en, yo, ya, yb, yl, cu, ag, dO, dA, dB, st, upd rg (4 * p + 1) (-1), pl, yv, yr, tr, yt, yi, mc, yk, ym, wt, li, ye, qu, yd, ys, yz, ti)) (fun post hq => ?_) (fun post hq => ?_) (fun post hq => mx_fin0 hq) (fun post hq => hY0 post ?_) rfl (mp_RR_1 h1 hup)
        · refine nm_r (mp_x4 p) (br_f (by decide) (br_f (by decide) (br_f (by decide) (br_f (by decide) (br_f (by decide) (br_f (by decide) (br_f (by decide) (br_f (by decide) (br_f (by decide) (br_t rfl ?_))))))))))
          unfold wpX_receive
          dsimp only
          refine mx_ft_none hp hn0 em hnone (nm_r (mp_x4 p) (br_t rfl (br_f ne4 ?_)))
          rw [nI_add, nI_1, cl, c41]
          exact ⟨Il, br_t hw ⟨I41, nm_e hq⟩⟩
        · refine nm_r (mp_x4 p) (br_f (by decide) (br_f (by decide) (br_f (by decide) (br_t rfl ?_))))
          exact hq
        · unfold wY_receive_39
          rw [c, em, mp_4a, cl]
          refine ⟨I, br_t (nI_le (Nat.le_refl n0) (by omega)) (br_f ge4 ⟨Il, br_f ge4 (br_f hw1 ?_)⟩)⟩
          rw [mp_4x, nI_1, c41]
          exact ⟨I41, nm_e hq⟩
      · have hw1 : (1 : Int32) ≤ rg (4 * p + l) := by
          rw [Int32.le_iff_toInt_le, i1]
          rw [Int32.le_iff_toInt_le, i0] at hw
          omega
        have hw1' : 1 ≤ (rg (4 * p + l)).toInt := by
          rw [Int32.le_iff_toInt_le, i1] at hw1
          exact hw1
        by_cases hk1 : (1000 : Int32) ≤ rg (4 * p + l)
        · have es := mp_addt (y := 1000) t0 t1 hT1 (by rw [ik]; omega) (by rw [ik]; omega)
          have he : (rg (4 * p + l) ≤ 1000 ∧ tm + 1000 = tm + rg (4 * p + l)) ∨ (¬ rg (4 * p + l) ≤ 1000 ∧ tm + 1000 = tm + 1000) := by
            by_cases z : rg (4 * p + l) ≤ 1000
            · have ez : rg (4 * p + l) = 1000 := Int32.toInt_inj.mp (by
                rw [Int32.le_iff_toInt_le, ik] at z hk1
                rw [ik]
                omega)
              exact Or.inl ⟨z, by rw [ez]⟩
            · exact Or.inr ⟨z, rfl⟩
          refine mp_op_a (u' := (dl, nt, 0, tc, tm, xn, md, lo, en, dO, dA, dB, xo, xa, xb, xl, upd st p 2, xr, rg, xv, upd pl p (nI pn), tr, xk, xm, upd wt p a, upd xw p (tm + 1000), xt, xi, mc, tk, xe, xz, ti)) (v' := (dl, qn, 0, tm, tc, yn, md, lo, en, yo, ya, yb, yl, cu, ag, dO, dA, dB, upd st p 2, rg, upd pl p (nI pn), yv, yr, tr, yt, yi, mc, yk, ym, upd wt p a, upd li p 1, upd ye p (tm + 1000), qu, yd, ys, yz, ti)) (fun post hq => ?_) (fun post hq => ?_) (fun post hq => mx_fin0 hq) (fun post hq => hY0 post ?_) rfl (mp_RR_2 (by rw [pk_us]; decide) (mp_wait_R hh hp h1 hpn (Or.inr ⟨by decide, rfl, by rw [es, ik]; omega, by rw [es, ik]; omega⟩) hC1))
          · refine nm_r (mp_x4 p) (br_f (by decide) (br_f (by decide) (br_f (by decide) (br_f (by decide) (br_f (by decide) (br_f (by decide) (br_f (by decide) (br_f (by decide) (br_f (by decide) (br_t rfl ?_))))))))))
            unfold wpX_receive
            dsimp only
            refine mx_ft_none hp hn0 em hnone (nm_r (mp_x4 p) (br_t rfl (br_f ne4 ?_)))
            rw [nI_add, cl]
            refine ⟨Il, br_f hw ⟨Il, br_t hk1 ?_⟩⟩
            unfold wX_receive_126
            exact mx_wait hp hpl hq
          · refine nm_r (mp_x4 p) (br_f (by decide) (br_f (by decide) (br_f (by decide) (br_t rfl ?_))))
            exact hq
          · unfold wY_receive_39
            rw [c, em, mp_4a, cl]
            exact ⟨I, br_t (nI_le (Nat.le_refl n0) (by omega)) (br_f ge4 ⟨Il, br_f ge4 (br_t hw1 (my_210 hp (by omega) hpl (Or.inr ⟨hl4, rfl⟩) he hq))⟩)⟩
        · have hk2 : (rg (4 * p + l)).toInt < 1000 := by
            rw [Int32.le_iff_toInt_le, ik] at hk1
            omega
          have es := mp_addt (y := rg (4 * p + l)) t0 t1 hT1 (by omega) (by omega)
          have hle : rg (4 * p + l) ≤ 1000 := by
            rw [Int32.le_iff_toInt_le, ik]
            omega
          refine mp_op_a (u' := (dl, nt, 0, tc, tm, xn, md, lo, en, dO, dA, dB, xo, xa, xb, xl, upd st p 2, xr, rg, xv, upd pl p (nI pn), tr, xk, xm, upd wt p a, upd xw p (tm + rg (4 * p + l)), xt, xi, mc, tk, xe, xz, ti)) (v' := (dl, qn, 0, tm, tc, yn, md, lo, en, yo, ya, yb, yl, cu, ag, dO, dA, dB, upd st p 2, rg, upd pl p (nI pn), yv, yr, tr, yt, yi, mc, yk, ym, upd wt p a, upd li p 1, upd ye p (tm + rg (4 * p + l)), qu, yd, ys, yz, ti)) (fun post hq => ?_) (fun post hq => ?_) (fun post hq => mx_fin0 hq) (fun post hq => hY0 post ?_) rfl (mp_RR_2 (by rw [pk_us]; decide) (mp_wait_R hh hp h1 hpn (Or.inr ⟨by decide, rfl, by rw [es]; omega, by rw [es]; omega⟩) hC1))
          · refine nm_r (mp_x4 p) (br_f (by decide) (br_f (by decide) (br_f (by decide) (br_f (by decide) (br_f (by decide) (br_f (by decide) (br_f (by decide) (br_f (by decide) (br_f (by decide) (br_t rfl ?_))))))))))
            unfold wpX_receive
            dsimp only
            refine mx_ft_none hp hn0 em hnone (nm_r (mp_x4 p) (br_t rfl (br_f ne4 ?_)))
            rw [nI_add, cl]
            refine ⟨Il, br_f hw ⟨Il, br_f hk1 ⟨Il, ?_⟩⟩⟩
            unfold wX_receive_126
            exact mx_wait hp hpl hq
          · refine nm_r (mp_x4 p) (br_f (by decide) (br_f (by decide) (br_f (by decide) (br_t rfl ?_))))
            exact hq
          · unfold wY_receive_39
            rw [c, em, mp_4a, cl]
            exact ⟨I, br_t (nI_le (Nat.le_refl n0) (by omega)) (br_f ge4 ⟨Il, br_f ge4 (br_t hw1 (my_210 hp (by omega) hpl (Or.inr ⟨hl4, rfl⟩) (Or.inl ⟨hle, rfl⟩) hq))⟩)⟩
  · obtain ⟨n1, rfl⟩ : ∃ n1, n0 = n1 + 1 := ⟨n0 - 1, by omega⟩
    obtain ⟨et, ei⟩ := hk k hk0
    have ck := nI_clamp (n := 12 * p + k) (by omega)
    have Ik := vp_in_nI (n := 12 * p + k) (N := 96) (by omega) (by omega)
    obtain ⟨xt', xi', a1, a2, hXd⟩ := mx_drop_l (dl := dl) (nt := nt) (xc := 0) (tc := tc) (tm := tm) (xn := xn) (md := md) (lo := lo) (en := en) (dO := dO) (dA := dA) (dB := dB) (xo := xo) (xa := xa) (xb := xb) (xl := xl) (st := st) (xr := xr) (rg := upd (upd rg (4 * p) (yi (12 * p + k))) (4 * p + 1) (yt (12 * p + k))) (xv := xv) (pl := pl) (tr := tr) (xk := xk) (xm := xm) (wt := wt) (xw := xw) (mc := upd mc p (nI n1)) (tk := tk) (xe := xe) (xz := xz) (ti := ti) hp (k := k) (by omega) 11 0 rfl xt xi
    obtain ⟨yt', yi', b1, b2, hYd⟩ := my_drop_l (dl := dl) (qn := qn) (yc := 0) (tm := tm) (tc := tc) (yn := yn) (md := md) (lo := lo) (en := en) (yo := yo) (ya := ya) (yb := yb) (yl := yl) (cu := cu) (ag := ag) (dO := dO) (dA := dA) (dB := dB) (st := st) (rg := upd (upd rg (4 * p) (yi (12 * p + k))) (4 * p + 1) (yt (12 * p + k))) (pl := pl) (yv := yv) (yr := yr) (tr := tr) (mc := upd mc p (nI n1)) (yk := yk) (ym := ym) (wt := wt) (li := li) (ye := ye) (qu := qu) (yd := yd) (ys := ys) (yz := yz) (ti := ti) hp (n1 := n1) (by omega) pk_us (n1 - k) k (by omega) yt yi
    have hM' := mp_M_drop (xt' := xt') (xi' := xi') (yt' := yt') (yi' := yi') hM hp (Or.inl h1) hk0 hn0 em (fun j hj => (a1 j (by omega) hj).1) (fun j hj => (a1 j (by omega) hj).2) (fun j hj => a2 j (by omega)) (fun j hj => by
      by_cases z : j < k
      · rw [if_pos z]; exact (b2 _ (by omega)).1
      · rw [if_neg z]; exact (b1 j (by omega) (by omega)).1) (fun j hj => by
      by_cases z : j < k
      · rw [if_pos z]; exact (b2 _ (by omega)).2
      · rw [if_neg z]; exact (b1 j (by omega) (by omega)).2) (fun j hj => b2 j (by omega))
    refine mp_op_a (u' := (dl, nt, 0, tc, tm, xn, md, lo, en, dO, dA, dB, xo, xa, xb, xl, st, xr, upd (upd rg (4 * p) (yi (12 * p + k))) (4 * p + 1) (yt (12 * p + k)), xv, pl, tr, xk, xm, wt, xw, xt', xi', upd mc p (nI n1), tk, xe, xz, ti)) (v' := (dl, qn, 0, tm, tc, yn, md, lo, en, yo, ya, yb, yl, cu, ag, dO, dA, dB, st, upd (upd rg (4 * p) (yi (12 * p + k))) (4 * p + 1) (yt (12 * p + k)), pl, yv, yr, tr, yt', yi', upd mc p (nI n1), yk, ym, wt, li, ye, qu, yd, ys, yz, ti)) (fun post hq => ?_) (fun post hq => ?_) (fun post hq => mx_fin0 hq) (fun post hq => Or.inr (Or.inl ⟨by decide, by decide, rfl, ?_⟩)) rfl (mp_RR_1 h1 (mp_M_R hup hM'))
    · refine nm_r (mp_x4 p) (br_f (by decide) (br_f (by decide) (br_f (by decide) (br_f (by decide) (br_f (by decide) (br_f (by decide) (br_f (by decide) (br_f (by decide) (br_f (by decide) (br_t rfl ?_))))))))))
      unfold wpX_receive
      dsimp only
      refine mx_ft_some hp hn0 em hk0 hB hlow (nm_r (mp_x4 p) (br_f (mp_neg1 (by omega)) ?_))
      rw [mp_x12, nI_add, nI_1, ck, c4, c41, et, ei]
      refine ⟨Ik, I4, nm_e ⟨Ik, I41, nm_e ?_⟩⟩
      unfold wpX_dropMessage
      dsimp only
      rw [c, em, nI_pred]
      exact ⟨I, I, nm_e ⟨12, hXd _ 12 (by omega) hq⟩⟩
    · refine nm_r (mp_x4 p) (br_f (by decide) (br_f (by decide) (br_f (by decide) (br_t rfl ?_))))
      exact hq
    · unfold wpY_receive
      refine ⟨13, my_ft_l hp (e := k) (by omega) hn0 em (fun j hj z => hlow j hj ((hBeq j (by omega)).mpr z)) post (fun m => And.intro I ?_) k 0 (by omega) 13 (by omega)⟩
      rw [c, em, mp_12x, nI_add, ck]
      refine br_f (nI_ge hk0 (by omega)) ⟨Ik, br_f (fun z => ?_) ?_⟩
      · have w : ((a >>> (yt (12 * p + k) &&& 31)) &&& 1) = 1 := (hBeq k hk0).mp hB
        rw [w] at z
        exact absurd z (by decide)
      · unfold wY_receive_39
        rw [c, em, mp_12x, nI_add, ck, mp_4x, nI_1, c4, c41, nI_pred]
        exact ⟨I, br_f (nI_ge hk0 (by omega)) ⟨Ik, I4, nm_e ⟨Ik, I41, nm_e ⟨I, I, nm_e (nm_e ⟨n1 - k + 1, hYd _ _ (by omega) hq⟩)⟩⟩⟩⟩
end
end
section
section
variable {dl xc tc tm xn md lo en qn yc yn : Int32} {nt : Int64} {dO dA dB xo xa xb xl st xr rg xv pl tr xk xm wt xw xt xi mc xe xz ti yo ya yb yl cu ag yv yr yt yi yk ym li ye qu yd ys yz : Nat → Int32} {tk : Nat → Int64} {run i p : Nat} {T C : Int} {G : Nat → Int32 → Prop}
theorem mp_RR_up {C' : Int} {u : SX} {v : SY} (h : mp_RR p T C tm xn yn u v) (h1 : C ≤ C') (h2 : C' < 2 ^ 40) : mp_RR p T C' tm xn yn u v := by
  obtain ⟨dl, nt, tc, md, lo, en, dO, dA, dB, xo, xa, xb, xl, st, xr, rg, xv, pl, tr, xk, xm, wt, xw, xt, xi, mc, tk, xe, xz, ti, qn, yo, ya, yb, yl, cu, ag, yv, yr, yt, yi, yk, ym, li, ye, qu, yd, ys, yz, e1, e2, a, b⟩ := h
  exact ⟨dl, nt, tc, md, lo, en, dO, dA, dB, xo, xa, xb, xl, st, xr, rg, xv, pl, tr, xk, xm, wt, xw, xt, xi, mc, tk, xe, xz, ti, qn, yo, ya, yb, yl, cu, ag, yv, yr, yt, yi, yk, ym, li, ye, qu, yd, ys, yz, e1, e2, fun z => mp_F_R (a z) h1 h2, fun z => mp_F_R (b z) h1 h2⟩
theorem mp_OP_up {C' : Int} {op a b : Int32} {u : SX} {v : SY} (h : mp_OP p op a b T C tm xn yn u v) (h1 : C ≤ C') (h2 : C' < 2 ^ 40) : mp_OP p op a b T C' tm xn yn u v := by
  obtain ⟨u1, u2, u3, v3, a1, a2, a3, a4, a5, a6⟩ := h
  exact ⟨u1, u2, u3, v3, a1, a2, a3, a4, a5, mp_RR_up a6 h1 h2⟩
theorem mp_op {op a b : Int32} {pn : Nat} (h : (mp_D dl dO dA dB ∧ mp_C xo xa xb xl yo ya yb yl cu ∧ mp_V st xv yv xl cu ∧ mp_P st pl ∧ mp_S st ∧ mp_M st mc xt xi yt yi ∧ mp_K st xk yk ∧ mp_K st xm ym ∧ mp_W st xw li ye tm ∧ mp_T tm tc ti T ∧ mp_Q st tk nt p qu qn ∧ mp_E st xr yr ∧ mp_Z 0 st xr xe xz 0 yd ys yz 0 ∧ mp_F st nt C ∧ mp_G (fun _ _ => True) st xv yz)) (hp : p < 8) (h1 : st p = 1) (hok : mp_ok op a b) (hpl : pl p = nI (pn + 1)) (hpn : pn < 24) (ht : tc.toInt + 1 ≤ tm.toInt) (hT1 : T < 1900000000) (hC1 : C + 1 < 2 ^ 40) : mp_OP p op a b T (C + 1) tm xn yn (dl, nt, 0, tc, tm, xn, md, lo, en, dO, dA, dB, xo, xa, xb, xl, st, xr, rg, xv, pl, tr, xk, xm, wt, xw, xt, xi, mc, tk, xe, xz, ti) (dl, qn, 0, tm, tc, yn, md, lo, en, yo, ya, yb, yl, cu, ag, dO, dA, dB, st, rg, pl, yv, yr, tr, yt, yi, mc, yk, ym, wt, li, ye, qu, yd, ys, yz, ti) := by
  have up : ∀ {op a b}, mp_OP p op a b T C tm xn yn (dl, nt, 0, tc, tm, xn, md, lo, en, dO, dA, dB, xo, xa, xb, xl, st, xr, rg, xv, pl, tr, xk, xm, wt, xw, xt, xi, mc, tk, xe, xz, ti) (dl, qn, 0, tm, tc, yn, md, lo, en, yo, ya, yb, yl, cu, ag, dO, dA, dB, st, rg, pl, yv, yr, tr, yt, yi, mc, yk, ym, wt, li, ye, qu, yd, ys, yz, ti) → mp_OP p op a b T (C + 1) tm xn yn (dl, nt, 0, tc, tm, xn, md, lo, en, dO, dA, dB, xo, xa, xb, xl, st, xr, rg, xv, pl, tr, xk, xm, wt, xw, xt, xi, mc, tk, xe, xz, ti) (dl, qn, 0, tm, tc, yn, md, lo, en, yo, ya, yb, yl, cu, ag, dO, dA, dB, st, rg, pl, yv, yr, tr, yt, yi, mc, yk, ym, wt, li, ye, qu, yd, ys, yz, ti) := fun w => mp_OP_up w (by omega) hC1
  rcases hok with ⟨ho, ha⟩ | ⟨ho, ha, hb⟩ | ⟨rfl, ha⟩ | ⟨rfl, ha, hb⟩ | ⟨rfl, ha, hb⟩ | ⟨rfl, ha, hb⟩ | ⟨rfl, ha, hb⟩ | ⟨rfl, hb⟩ | ⟨rfl, ha⟩
  · rcases ho with rfl | rfl | rfl | rfl | rfl | rfl | rfl
    · exact up (mp_op0 h hp h1 ha)
    · exact up (mp_op9 h hp h1 ha)
    · exact up (mp_op10 h hp h1 ha)
    · exact up (mp_op11 h hp h1 ha)
    · exact up (mp_op12 h hp h1 ha)
    · exact up (mp_op14 h hp h1 ha)
    · exact up (mp_op17 h hp h1 ha ht hT1)
  · rcases ho with rfl | rfl | rfl | rfl
    · exact up (mp_op1 h hp h1 ha hb)
    · exact up (mp_op2 h hp h1 ha hb)
    · exact up (mp_op3 h hp h1 ha hb)
    · exact up (mp_op13 h hp h1 ha hb)
  · exact up (mp_op4 h hp h1 ha)
  · exact up (mp_op5 h hp h1 ha hb)
  · exact up (mp_op6 h hp h1 ha)
  · exact mp_op7 h hp h1 hb hpl hpn hT1 hC1
  · exact mp_op8 h hp h1 ha hC1
  · exact up (mp_op15 h hp h1 hb)
  · exact up (mp_op16 h hp h1 ha)
/-! has it a next instruction -/
theorem mp_next (h : (mp_D dl dO dA dB ∧ mp_C xo xa xb xl yo ya yb yl cu ∧ mp_V st xv yv xl cu ∧ mp_P st pl ∧ mp_S st ∧ mp_M st mc xt xi yt yi ∧ mp_K st xk yk ∧ mp_K st xm ym ∧ mp_W st xw li ye tm ∧ mp_T tm tc ti T ∧ mp_Q st tk nt run qu qn ∧ mp_E st xr yr ∧ mp_Z i st xr xe xz xc yd ys yz yc ∧ mp_F st nt C ∧ mp_G G st xv yz)) (hp : p < 8) (ha : mp_al st p) : ∃ a b n pn, a < 8 ∧ b < 8 ∧ n ≤ 24 ∧ pn ≤ 24 ∧ xv p = nI a ∧ yv p = nI b ∧ xl a = nI n ∧ yl b = nI n ∧ pl p = nI pn ∧ ∀ i, i < n → xo (24 * a + i) = yo (24 * b + i) ∧ xa (24 * a + i) = ya (24 * b + i) ∧ xb (24 * a + i) = yb (24 * b + i) ∧ mp_ok (yo (24 * b + i)) (ya (24 * b + i)) (yb (24 * b + i)) := by
  obtain ⟨a, b, ha8, hb8, e1, e2, n, hn0, hn, e3, e4, rows⟩ := mp_ver h.2.1 h.2.2.1 hp ha
  obtain ⟨pn, hpn, e5, _⟩ := h.2.2.2.1 p hp ha
  exact ⟨a, b, n, pn, ha8, hb8, hn, hpn, e1, e2, e3, e4, e5, rows⟩
theorem mx_next_t {post : Int32 → Prop} {a n pn : Nat} (hp : p < 8) (ha : a < 8) (hn : n ≤ 24) (e1 : xv p = nI a) (e3 : xl a = nI n) (e5 : pl p = nI pn) (hlt : pn < n) (h : post 1) : wpX_hasNext post (dl, nt, xc, tc, tm, xn, md, lo, en, dO, dA, dB, xo, xa, xb, xl, st, xr, rg, xv, pl, tr, xk, xm, wt, xw, xt, xi, mc, tk, xe, xz, ti) (nI p) := by
  have c := nI_clamp (n := p) (by omega)
  have I := vp_in_nI (n := p) (N := 8) hp (by omega)
  have ca := nI_clamp (n := a) (by omega)
  have Ia := vp_in_nI (n := a) (N := 8) ha (by omega)
  unfold wpX_hasNext
  dsimp only
  rw [c, e1, ca, e3, e5]
  exact ⟨I, I, Ia, br_f (nI_ge hlt (by omega)) h⟩
theorem mx_next_f {post : Int32 → Prop} {a n pn : Nat} (hp : p < 8) (ha : a < 8) (hpn : pn ≤ 24) (e1 : xv p = nI a) (e3 : xl a = nI n) (e5 : pl p = nI pn) (hlt : n ≤ pn) (h : post 0) : wpX_hasNext post (dl, nt, xc, tc, tm, xn, md, lo, en, dO, dA, dB, xo, xa, xb, xl, st, xr, rg, xv, pl, tr, xk, xm, wt, xw, xt, xi, mc, tk, xe, xz, ti) (nI p) := by
  have c := nI_clamp (n := p) (by omega)
  have I := vp_in_nI (n := p) (N := 8) hp (by omega)
  have ca := nI_clamp (n := a) (by omega)
  have Ia := vp_in_nI (n := a) (N := 8) ha (by omega)
  unfold wpX_hasNext
  dsimp only
  rw [c, e1, ca, e3, e5]
  exact ⟨I, I, Ia, br_t (nI_le hlt (by omega)) h⟩
theorem my_stands_t {post : Int32 → SY → Prop} {b n pn : Nat} (hp : p < 8) (hb : b < 8) (hn : n ≤ 24) (e1 : yv p = nI b) (e3 : yl b = nI n) (e5 : pl p = nI pn) (hlt : pn < n) (h : post 1 (dl, qn, yc, tm, tc, yn, md, lo, en, yo, ya, yb, yl, cu, ag, dO, dA, dB, st, rg, pl, yv, yr, tr, yt, yi, mc, yk, ym, wt, li, ye, qu, yd, ys, yz, ti)) : wpY_stands post (dl, qn, yc, tm, tc, yn, md, lo, en, yo, ya, yb, yl, cu, ag, dO, dA, dB, st, rg, pl, yv, yr, tr, yt, yi, mc, yk, ym, wt, li, ye, qu, yd, ys, yz, ti) (nI p) := by
  have c := nI_clamp (n := p) (by omega)
  have I := vp_in_nI (n := p) (N := 8) hp (by omega)
  have ca := nI_clamp (n := b) (by omega)
  have Ia := vp_in_nI (n := b) (N := 8) hb (by omega)
  unfold wpY_stands
  dsimp only
  rw [c, e1, ca, e3, e5]
  exact ⟨I, I, Ia, br_f (nI_ge hlt (by omega)) h⟩
/-! nothing left to do: it ends with 0 -/
theorem mp_nonext {a b n pn : Nat} (h : (mp_D dl dO dA dB ∧ mp_C xo xa xb xl yo ya yb yl cu ∧ mp_V st xv yv xl cu ∧ mp_P st pl ∧ mp_S st ∧ mp_M st mc xt xi yt yi ∧ mp_K st xk yk ∧ mp_K st xm ym ∧ mp_W st xw li ye tm ∧ mp_T tm tc ti T ∧ mp_Q st tk nt p qu qn ∧ mp_E st xr yr ∧ mp_Z 0 st xr xe xz 0 yd ys yz 0 ∧ mp_F st nt C ∧ mp_G (fun _ _ => True) st xv yz)) (hp : p < 8) (h1 : st p = 1) (ha : a < 8) (hb : b < 8) (hpn : pn ≤ 24) (e1 : xv p = nI a) (e2 : yv p = nI b) (e3 : xl a = nI n) (e4 : yl b = nI n) (e5 : pl p = nI pn) (hlt : n ≤ pn) : ∃ (st' : Nat → Int32) (tk' : Nat → Int64) (nt' : Int64) (qu' : Nat → Int32) (qn' : Int32) (mc' xt' xi' yt' yi' : Nat → Int32) (lo' : Int32) (xr' xe' xz' : Nat → Int32) (xc' : Int32) (yd' ys' yz' : Nat → Int32) (yc' : Int32) (xk' yk' xm' ym' yr' : Nat → Int32) (en' : Int32), (∀ (post : SX → Prop) J k, post (dl, nt', 0, tc, tm, xn, md, lo', en', dO, dA, dB, xo, xa, xb, xl, st', xr', rg, xv, pl, tr, xk', xm', wt, xw, xt', xi', mc', tk', xe', xz', ti) → wX_takeTurn_103 post J (nI p) k dl nt 0 tc tm xn md lo en dO dA dB xo xa xb xl st xr rg xv pl tr xk xm wt xw xt xi mc tk xe xz ti) ∧ (∀ (post : Int32 → SY → Prop), post 0 (dl, qn', 0, tm, tc, yn, md, lo', en', yo, ya, yb, yl, cu, ag, dO, dA, dB, st', rg, pl, yv, yr', tr, yt', yi', mc', yk', ym', wt, li, ye, qu', yd', ys', yz', ti) → wpY_stands post (dl, qn, 0, tm, tc, yn, md, lo, en, yo, ya, yb, yl, cu, ag, dO, dA, dB, st, rg, pl, yv, yr, tr, yt, yi, mc, yk, ym, wt, li, ye, qu, yd, ys, yz, ti) (nI p)) ∧ st' p ≠ 1 ∧ (mp_D dl dO dA dB ∧ mp_C xo xa xb xl yo ya yb yl cu ∧ mp_V st' xv yv xl cu ∧ mp_P st' pl ∧ mp_S st' ∧ mp_M st' mc' xt' xi' yt' yi' ∧ mp_K st' xk' yk' ∧ mp_K st' xm' ym' ∧ mp_W st' xw li ye tm ∧ mp_T tm tc ti T ∧ mp_Q st' tk' nt' 8 qu' qn' ∧ mp_E st' xr' yr' ∧ mp_Z 0 st' xr' xe' xz' 0 yd' ys' yz' 0 ∧ mp_F st' nt' C ∧ mp_G (fun _ _ => True) st' xv yz') := by
  have c := nI_clamp (n := p) (by omega)
  have I := vp_in_nI (n := p) (N := 8) hp (by omega)
  have cb := nI_clamp (n := b) (by omega)
  have Ib := vp_in_nI (n := b) (N := 8) hb (by omega)
  obtain ⟨hx, hy, h2⟩ := mp_doom_0 (reason := 0) h hp (Or.inl h1)
  obtain ⟨st', tk', nt', qu', qn', mc', xt', xi', yt', yi', lo', xr', xe', xz', xc', yd', ys', yz', yc', xk', yk', xm', ym', yr', en', hX, hY, hR⟩ := mp_settle (dl := dl) (nt := nt) (xc := nI (0 + 1)) (tc := tc) (tm := tm) (xn := xn) (md := md) (lo := lo) (en := en) (dO := dO) (dA := dA) (dB := dB) (xo := xo) (xa := xa) (xb := xb) (xl := xl) (st := st) (xr := upd xr p 0) (rg := rg) (xv := xv) (pl := pl) (tr := tr) (xk := xk) (xm := xm) (wt := wt) (xw := xw) (xt := xt) (xi := xi) (mc := mc) (tk := tk) (xe := upd xe 0 (nI p)) (xz := upd xz p 1) (ti := ti) (qn := qn) (yc := nI (0 + 1)) (yn := yn) (yo := yo) (ya := ya) (yb := yb) (yl := yl) (cu := cu) (ag := ag) (yv := yv) (yr := yr) (yt := yt) (yi := yi) (yk := yk) (ym := ym) (li := li) (ye := ye) (qu := qu) (yd := upd yd 0 (nI p)) (ys := upd ys 0 0) (yz := upd yz p 1) h2
  have hz := mp_Z_none hR.2.2.2.2.2.2.2.2.2.2.2.2.1
  have hs : st' p ≠ 1 := fun z => (hR.2.2.2.2.2.2.2.2.2.2.2.2.2.2 p hp (Or.inl z) (hz.2 p hp).1).2 rfl
  refine ⟨st', tk', nt', qu', qn', mc', xt', xi', yt', yi', lo', xr', xe', xz', xc', yd', ys', yz', yc', xk', yk', xm', ym', yr', en', fun post J k hq => ?_, fun post hq => ?_, hs, mp_norun_R (mp_G_R hR (fun _ _ _ => trivial)) hs⟩
  · unfold wX_takeTurn_103
    rw [c]
    refine ⟨I, br_t h1 (mx_next_f hp ha hpn e1 e3 e5 hlt (br_t rfl (mx_mark (d := 0) hp (by omega) hx (hX _ ?_))))⟩
    unfold wX_takeTurn_131
    rw [c]
    exact ⟨I, br_f hs hq⟩
  · unfold wpY_stands
    dsimp only
    rw [c, e2, cb, e4, e5]
    exact ⟨I, I, Ib, br_t (nI_le hlt (by omega)) (my_doom (d := 0) hp (by omega) hy (hY _ hq))⟩
/-! one instruction -/
theorem my_sel1 {post : SY → Prop} {v : SY} {q op a b : Int32} (h : op < 6 ∨ op = 9) (w : my_disp post v q op a b) : wpY_simple post v q op a b := by
  rcases w with ⟨_, w⟩ | ⟨a1, a2, _⟩ | ⟨a1, a2, _⟩ | ⟨a1, a2, _⟩
  · exact w
  all_goals exact absurd h (fun z => z.elim a1 a2)
theorem my_sel2 {post : SY → Prop} {v : SY} {q op a b : Int32} (h1 : ¬ op < 6) (h2 : ¬ op = 9) (h3 : op = 7) (w : my_disp post v q op a b) : wpY_receive post v q a b := by
  rcases w with ⟨z, _⟩ | ⟨_, _, _, w⟩ | ⟨_, _, a3, _⟩ | ⟨_, _, a3, _⟩
  · exact absurd z (fun z => z.elim h1 h2)
  · exact w
  · exact absurd h3 a3
  · exact absurd h3 a3
theorem my_sel3 {post : SY → Prop} {v : SY} {q op a b : Int32} (h1 : ¬ op < 6) (h2 : ¬ op = 9) (h3 : ¬ op = 7) (h4 : 13 ≤ op) (w : my_disp post v q op a b) : wpY_last post v q op a b := by
  rcases w with ⟨z, _⟩ | ⟨_, _, a3, _⟩ | ⟨_, _, _, _, w⟩ | ⟨_, _, _, a4, _⟩
  · exact absurd z (fun z => z.elim h1 h2)
  · exact absurd a3 h3
  · exact w
  · exact absurd h4 a4
theorem my_sel4 {post : SY → Prop} {v : SY} {q op a b : Int32} (h1 : ¬ op < 6) (h2 : ¬ op = 9) (h3 : ¬ op = 7) (h4 : ¬ 13 ≤ op) (w : my_disp post v q op a b) : wpY_others post v q op a b := by
  rcases w with ⟨z, _⟩ | ⟨_, _, a3, _⟩ | ⟨_, _, _, a4, _⟩ | ⟨_, _, _, _, w⟩
  · exact absurd z (fun z => z.elim h1 h2)
  · exact absurd a3 h3
  · exact absurd a4 h4
  · exact w
theorem mp_instr {a b n pn : Nat} (h : (mp_D dl dO dA dB ∧ mp_C xo xa xb xl yo ya yb yl cu ∧ mp_V st xv yv xl cu ∧ mp_P st pl ∧ mp_S st ∧ mp_M st mc xt xi yt yi ∧ mp_K st xk yk ∧ mp_K st xm ym ∧ mp_W st xw li ye tm ∧ mp_T tm tc ti T ∧ mp_Q st tk nt p qu qn ∧ mp_E st xr yr ∧ mp_Z 0 st xr xe xz 0 yd ys yz 0 ∧ mp_F st nt C ∧ mp_G (fun _ _ => True) st xv yz)) (hp : p < 8) (h1 : st p = 1) (ha : a < 8) (hb : b < 8) (hn : n ≤ 24) (e1 : xv p = nI a) (e2 : yv p = nI b) (e3 : xl a = nI n) (e5 : pl p = nI pn) (hlt : pn < n) (rows : ∀ i, i < n → xo (24 * a + i) = yo (24 * b + i) ∧ xa (24 * a + i) = ya (24 * b + i) ∧ xb (24 * a + i) = yb (24 * b + i) ∧ mp_ok (yo (24 * b + i)) (ya (24 * b + i)) (yb (24 * b + i))) (hT1 : T + 1 < 1900000000) (hC1 : C + 1 < 2 ^ 40) :
    ∃ (dl' : Int32) (nt' : Int64) (tc' md' lo' en' : Int32) (dO' dA' dB' xo' xa' xb' xl' st' xr' rg' xv' pl' tr' xk' xm' wt' xw' xt' xi' mc' : Nat → Int32) (tk' : Nat → Int64) (xe' xz' ti' : Nat → Int32) (qn' : Int32) (yo' ya' yb' yl' cu' ag' yv' yr' yt' yi' yk' ym' li' ye' qu' yd' ys' yz' : Nat → Int32), (∀ (post : SX → Prop) m k, k < 8 → wX_takeTurn_103 post (wX_takeTurn_2 post (nI p) m) (nI p) (nI k) dl' nt' 0 tc' (tm + 1) xn md' lo' en' dO' dA' dB' xo' xa' xb' xl' st' xr' rg' xv' pl' tr' xk' xm' wt' xw' xt' xi' mc' tk' xe' xz' ti' → wX_takeTurn_2 post (nI p) (m + 1) (nI k) dl nt 0 tc tm xn md lo en dO dA dB xo xa xb xl st xr rg xv pl tr xk xm wt xw xt xi mc tk xe xz ti) ∧ (∀ (post : SY → Prop), post (dl', qn', 0, tm + 1, tc', yn, md', lo', en', yo', ya', yb', yl', cu', ag', dO', dA', dB', st', rg', pl', yv', yr', tr', yt', yi', mc', yk', ym', wt', li', ye', qu', yd', ys', yz', ti') → wpY_instruction post (dl, qn, 0, tm, tc, yn, md, lo, en, yo, ya, yb, yl, cu, ag, dO, dA, dB, st, rg, pl, yv, yr, tr, yt, yi, mc, yk, ym, wt, li, ye, qu, yd, ys, yz, ti) (nI p)) ∧ (st' p = 1 → (mp_D dl' dO' dA' dB' ∧ mp_C xo' xa' xb' xl' yo' ya' yb' yl' cu' ∧ mp_V st' xv' yv' xl' cu' ∧ mp_P st' pl' ∧ mp_S st' ∧ mp_M st' mc' xt' xi' yt' yi' ∧ mp_K st' xk' yk' ∧ mp_K st' xm' ym' ∧ mp_W st' xw' li' ye' (tm + 1) ∧ mp_T (tm + 1) tc' ti' (T + 1) ∧ mp_Q st' tk' nt' p qu' qn' ∧ mp_E st' xr' yr' ∧ mp_Z 0 st' xr' xe' xz' 0 yd' ys' yz' 0 ∧ mp_F st' nt' (C + 1) ∧ mp_G (fun _ _ => True) st' xv' yz')) ∧ (st' p ≠ 1 → (mp_D dl' dO' dA' dB' ∧ mp_C xo' xa' xb' xl' yo' ya' yb' yl' cu' ∧ mp_V st' xv' yv' xl' cu' ∧ mp_P st' pl' ∧ mp_S st' ∧ mp_M st' mc' xt' xi' yt' yi' ∧ mp_K st' xk' yk' ∧ mp_K st' xm' ym' ∧ mp_W st' xw' li' ye' (tm + 1) ∧ mp_T (tm + 1) tc' ti' (T + 1) ∧ mp_Q st' tk' nt' 8 qu' qn' ∧ mp_E st' xr' yr' ∧ mp_Z 0 st' xr' xe' xz' 0 yd' ys' yz' 0 ∧ mp_F st' nt' (C + 1) ∧ mp_G (fun _ _ => True) st' xv' yz')) ∧ (tm + 1).toInt = tm.toInt + 1 := by
  obtain ⟨hR1, et⟩ := mp_tick_R h (by omega)
  have hR2 := mp_place_R (p := p) (n := pn + 1) hR1 (by rw [h1]; decide) (by omega)
  obtain ⟨r1, r2, r3, hok⟩ := rows pn hlt
  have htc : tc.toInt + 1 ≤ (tm + 1).toInt := by
    have := h.2.2.2.2.2.2.2.2.2.1.2.2.2.1
    omega
  obtain ⟨u1, u2, u3, v3, hA, hB, hFi, hY, hcd, hRR⟩ := mp_op (dl := dl) (nt := nt) (tc := tc) (tm := tm + 1) (xn := xn) (md := md) (lo := lo) (en := en) (dO := dO) (dA := dA) (dB := dB) (xo := xo) (xa := xa) (xb := xb) (xl := xl) (st := st) (xr := xr) (rg := rg) (xv := xv) (pl := upd pl p (nI (pn + 1))) (tr := tr) (xk := xk) (xm := xm) (wt := wt) (xw := xw) (xt := xt) (xi := xi) (mc := mc) (tk := tk) (xe := xe) (xz := xz) (ti := ti) (qn := qn) (yn := yn) (yo := yo) (ya := ya) (yb := yb) (yl := yl) (cu := cu) (ag := ag) (yv := yv) (yr := yr) (yt := yt) (yi := yi) (yk := yk) (ym := ym) (li := li) (ye := ye) (qu := qu) (yd := yd) (ys := ys) (yz := yz) (pn := pn) hR2 hp h1 hok pk_us (by omega) htc (by omega) hC1
  obtain ⟨dl', nt', tc', md', lo', en', dO', dA', dB', xo', xa', xb', xl', st', xr', rg', xv', pl', tr', xk', xm', wt', xw', xt', xi', mc', tk', xe', xz', ti', qn', yo', ya', yb', yl', cu', ag', yv', yr', yt', yi', yk', ym', li', ye', qu', yd', ys', yz', rfl, rfl, q1, q2⟩ := hRR
  obtain ⟨dls1, nts1, xcs1, tcs1, tms1, xns1, mds1, los1, ens1, dOs1, dAs1, dBs1, xos1, xas1, xbs1, xls1, sts1, xrs1, rgs1, xvs1, pls1, trs1, xks1, xms1, wts1, xws1, xts1, xis1, mcs1, tks1, xes1, xzs1, tis1⟩ := u1
  obtain ⟨dls2, nts2, xcs2, tcs2, tms2, xns2, mds2, los2, ens2, dOs2, dAs2, dBs2, xos2, xas2, xbs2, xls2, sts2, xrs2, rgs2, xvs2, pls2, trs2, xks2, xms2, wts2, xws2, xts2, xis2, mcs2, tks2, xes2, xzs2, tis2⟩ := u2
  have hcd' : (xos1, xas1, xbs1) = (xo, xa, xb) := hcd
  simp only [Prod.mk.injEq] at hcd'
  obtain ⟨rfl, rfl, rfl⟩ := hcd'
  have c := nI_clamp (n := p) (by omega)
  have I := vp_in_nI (n := p) (N := 8) hp (by omega)
  have cx := nI_clamp (n := 24 * a + pn) (by omega)
  have Ix := vp_in_nI (n := 24 * a + pn) (N := 192) (by omega) (by omega)
  have cy := nI_clamp (n := 24 * b + pn) (by omega)
  have Iy := vp_in_nI (n := 24 * b + pn) (N := 192) (by omega) (by omega)
  refine ⟨dl', nt', tc', md', lo', en', dO', dA', dB', xo', xa', xb', xl', st', xr', rg', xv', pl', tr', xk', xm', wt', xw', xt', xi', mc', tk', xe', xz', ti', qn', yo', ya', yb', yl', cu', ag', yv', yr', yt', yi', yk', ym', li', ye', qu', yd', ys', yz', fun post m k hk hq => ?_, fun post hq => ?_, q1, q2, et⟩
  · refine br_f (nI_ge (b := 8) hk (by omega)) (mx_next_t hp ha hn e1 e3 e5 hlt (br_f (by decide) (And.intro I (And.intro I ?_))))
    rw [c, e1, e5, mp_x24, nI_add, nI_1]
    refine nm_e (nm_e ⟨I, I, nm_e ⟨Ix, Ix, Ix, ?_⟩⟩)
    rw [cx, r1, r2, r3]
    refine hA _ ⟨Ix, Ix, Ix, ?_⟩
    rw [r1, r2, r3]
    exact hB _ (hFi _ hq)
  · unfold wpY_instruction
    dsimp only
    rw [c, e2, e5, mp_24x, nI_add, nI_1]
    refine ⟨I, I, nm_e ⟨Iy, nm_e ⟨Iy, nm_e (nm_e ⟨I, I, nm_e ⟨Iy, ?_⟩⟩)⟩⟩⟩
    rw [cy]
    refine br_c (fun g1 => ⟨Iy, ?_⟩) (fun g1 => ⟨Iy, br_c (fun g2 => ⟨Iy, ?_⟩) (fun g2 => ⟨Iy, br_c (fun g3 => ?_) (fun g3 => ⟨Iy, br_c (fun g4 => ⟨Iy, ?_⟩) (fun g4 => ⟨Iy, ?_⟩)⟩)⟩)⟩)
    · rw [cy]
      exact my_sel1 (Or.inl g1) (hY _ hq)
    · rw [cy]
      exact my_sel1 (Or.inr g2) (hY _ hq)
    · exact my_sel2 g1 g2 g3 (hY _ hq)
    · exact my_sel3 g1 g2 g3 g4 (hY _ hq)
    · exact my_sel4 g1 g2 g3 g4 (hY _ hq)
end
end
section
section
variable {dl xc tc tm xn md lo en qn yc yn : Int32} {nt : Int64} {dO dA dB xo xa xb xl st xr rg xv pl tr xk xm wt xw xt xi mc xe xz ti yo ya yb yl cu ag yv yr yt yi yk ym li ye qu yd ys yz : Nat → Int32} {tk : Nat → Int64} {run i p : Nat} {T C : Int} {G : Nat → Int32 → Prop}
theorem my_66_0 {post : Int32 → SY → Prop} {x1 x3 : Int32} {m : Nat} (h : post 1 (dl, qn, yc, tm, tc, yn, md, lo, en, yo, ya, yb, yl, cu, ag, dO, dA, dB, st, rg, pl, yv, yr, tr, yt, yi, mc, yk, ym, wt, li, ye, qu, yd, ys, yz, ti)) : wY_turn_66 post x1 (m + 1) 0 x3 dl qn yc tm tc yn md lo en yo ya yb yl cu ag dO dA dB st rg pl yv yr tr yt yi mc yk ym wt li ye qu yd ys yz ti := br_c (fun _ => br_t rfl h) (fun _ => br_t rfl (br_t rfl h))
theorem my_66_n {post : Int32 → SY → Prop} {x3 : Int32} {m : Nat} (hp : p < 8) (h1 : st p ≠ 1) (h : post 1 (dl, qn, yc, tm, tc, yn, md, lo, en, yo, ya, yb, yl, cu, ag, dO, dA, dB, st, rg, pl, yv, yr, tr, yt, yi, mc, yk, ym, wt, li, ye, qu, yd, ys, yz, ti)) : wY_turn_66 post (nI p) (m + 1) 1 x3 dl qn yc tm tc yn md lo en yo ya yb yl cu ag dO dA dB st rg pl yv yr tr yt yi mc yk ym wt li ye qu yd ys yz ti := by
  have c := nI_clamp (n := p) (by omega)
  have I := vp_in_nI (n := p) (N := 8) hp (by omega)
  have w : wY_turn_113 post (nI p) 1 dl qn yc tm tc yn md lo en yo ya yb yl cu ag dO dA dB st rg pl yv yr tr yt yi mc yk ym wt li ye qu yd ys yz ti := by
    unfold wY_turn_113
    rw [c]
    exact br_f (by decide) ⟨I, br_f h1 h⟩
  refine br_c (fun _ => w) (fun _ => br_f (by decide) (And.intro I ?_))
  rw [c]
  exact br_f h1 w
theorem mp_turn_l {K : Int} (hp : p < 8) (hK0 : 0 ≤ K) (hK1 : K < 2 ^ 32) : ∀ d k : Nat, k + d = 8 → ∀ (T : Int) (tm : Int32) (dl : Int32) (nt : Int64) (tc md lo en : Int32) (dO dA dB xo xa xb xl st xr rg xv pl tr xk xm wt xw xt xi mc : Nat → Int32) (tk : Nat → Int64) (xe xz ti : Nat → Int32) (qn : Int32) (yo ya yb yl cu ag yv yr yt yi yk ym li ye qu yd ys yz : Nat → Int32), T + (d : Int) < 1900000000 → (mp_D dl dO dA dB ∧ mp_C xo xa xb xl yo ya yb yl cu ∧ mp_V st xv yv xl cu ∧ mp_P st pl ∧ mp_S st ∧ mp_M st mc xt xi yt yi ∧ mp_K st xk yk ∧ mp_K st xm ym ∧ mp_W st xw li ye tm ∧ mp_T tm tc ti T ∧ mp_Q st tk nt p qu qn ∧ mp_E st xr yr ∧ mp_Z 0 st xr xe xz 0 yd ys yz 0 ∧ mp_F st nt (2 * tm.toInt + K) ∧ mp_G (fun _ _ => True) st xv yz) → st p = 1 → (∃ a n pn, xv p = nI a ∧ a < 8 ∧ xl a = nI n ∧ n ≤ 24 ∧ pl p = nI pn ∧ pn < n) → ∃ (tm' : Int32) (dl' : Int32) (nt' : Int64) (tc' md' lo' en' : Int32) (dO' dA' dB' xo' xa' xb' xl' st' xr' rg' xv' pl' tr' xk' xm' wt' xw' xt' xi' mc' : Nat → Int32) (tk' : Nat → Int64) (xe' xz' ti' : Nat → Int32) (qn' : Int32) (yo' ya' yb' yl' cu' ag' yv' yr' yt' yi' yk' ym' li' ye' qu' yd' ys' yz' : Nat → Int32), (∀ (post : SX → Prop) n, d < n → post (dl', nt', 0, tc', tm', xn, md', lo', en', dO', dA', dB', xo', xa', xb', xl', st', xr', rg', xv', pl', tr', xk', xm', wt', xw', xt', xi', mc', tk', xe', xz', ti') → wX_takeTurn_2 post (nI p) n (nI k) dl nt 0 tc tm xn md lo en dO dA dB xo xa xb xl st xr rg xv pl tr xk xm wt xw xt xi mc tk xe xz ti) ∧ (∀ (post : Int32 → SY → Prop) n, d + 1 < n → post 1 (dl', qn', 0, tm', tc', yn, md', lo', en', yo', ya', yb', yl', cu', ag', dO', dA', dB', st', rg', pl', yv', yr', tr', yt', yi', mc', yk', ym', wt', li', ye', qu', yd', ys', yz', ti') → wY_turn_66 post (nI p) n 1 (nI k) dl qn 0 tm tc yn md lo en yo ya yb yl cu ag dO dA dB st rg pl yv yr tr yt yi mc yk ym wt li ye qu yd ys yz ti) ∧ (mp_D dl' dO' dA' dB' ∧ mp_C xo' xa' xb' xl' yo' ya' yb' yl' cu' ∧ mp_V st' xv' yv' xl' cu' ∧ mp_P st' pl' ∧ mp_S st' ∧ mp_M st' mc' xt' xi' yt' yi' ∧ mp_K st' xk' yk' ∧ mp_K st' xm' ym' ∧ mp_W st' xw' li' ye' tm' ∧ mp_T tm' tc' ti' (T + (d : Int)) ∧ mp_Q st' tk' nt' 8 qu' qn' ∧ mp_E st' xr' yr' ∧ mp_Z 0 st' xr' xe' xz' 0 yd' ys' yz' 0 ∧ mp_F st' nt' (2 * tm'.toInt + K + 1) ∧ mp_G (fun _ _ => True) st' xv' yz') := by
  intro d
  have c := nI_clamp (n := p) (by omega)
  have I := vp_in_nI (n := p) (N := 8) hp (by omega)
  induction d with
  | zero =>
    intro k hk T tm dl nt tc md lo en dO dA dB xo xa xb xl st xr rg xv pl tr xk xm wt xw xt xi mc tk xe xz ti qn yo ya yb yl cu ag yv yr yt yi yk ym li ye qu yd ys yz hT1 h h1 _
    have e : k = 8 := by omega
    subst e
    have hTt := h.2.2.2.2.2.2.2.2.2.1
    obtain ⟨t0, t1, _, _, _⟩ := hTt
    obtain ⟨n0, hn0, rfl, hR⟩ := mp_back_R h hp h1 (by omega)
    refine ⟨tm, dl, nt + 1, tc, md, lo, en, dO, dA, dB, xo, xa, xb, xl, upd st p 1, xr, rg, xv, pl, tr, xk, xm, wt, xw, xt, xi, mc, vp_updL tk p nt, xe, xz, ti, nI (n0 + 1), yo, ya, yb, yl, cu, ag, yv, yr, yt, yi, yk, ym, li, ye, upd qu n0 (nI p), yd, ys, yz, fun post n hn hq => ?_, fun post n hn hq => ?_, mp_T_R hR (by omega)⟩
    · obtain ⟨m, rfl⟩ := mp_pos hn
      exact br_t (nI_le (b := 8) (Nat.le_refl 8) (by omega)) (mx_back hp hq)
    · obtain ⟨m, rfl⟩ := mp_pos hn
      refine br_t (nI_le (b := 8) (Nat.le_refl 8) (by omega)) (br_f (by decide) (And.intro I ?_))
      rw [c]
      exact br_t h1 (my_enq hp hn0 hq)
  | succ d ih =>
    intro k hk T tm dl nt tc md lo en dO dA dB xo xa xb xl st xr rg xv pl tr xk xm wt xw xt xi mc tk xe xz ti qn yo ya yb yl cu ag yv yr yt yi yk ym li ye qu yd ys yz hT1 h h1 hnx
    obtain ⟨t0, t1, _, _, _⟩ := h.2.2.2.2.2.2.2.2.2.1
    obtain ⟨a, b, n, pn, ha8, hb8, hn24, hpn, e1, e2, e3, e4, e5, rows⟩ := mp_next h hp (Or.inl h1)
    have hlt : pn < n := by
      obtain ⟨a', n', pn', w1, w2, w3, w4, w5, w6⟩ := hnx
      have q1 : a = a' := by
        rw [e1, nI_eq (by omega) (by omega)] at w1
        exact w1
      subst q1
      have q2 : n = n' := by
        rw [e3, nI_eq (by omega) (by omega)] at w3
        exact w3
      have q3 : pn = pn' := by
        rw [e5, nI_eq (by omega) (by omega)] at w5
        exact w5
      omega
    obtain ⟨dl', nt', tc', md', lo', en', dO', dA', dB', xo', xa', xb', xl', st', xr', rg', xv', pl', tr', xk', xm', wt', xw', xt', xi', mc', tk', xe', xz', ti', qn', yo', ya', yb', yl', cu', ag', yv', yr', yt', yi', yk', ym', li', ye', qu', yd', ys', yz', hX, hY, q1, q2, et⟩ := mp_instr (dl := dl) (nt := nt) (tc := tc) (tm := tm) (xn := xn) (md := md) (lo := lo) (en := en) (dO := dO) (dA := dA) (dB := dB) (xo := xo) (xa := xa) (xb := xb) (xl := xl) (st := st) (xr := xr) (rg := rg) (xv := xv) (pl := pl) (tr := tr) (xk := xk) (xm := xm) (wt := wt) (xw := xw) (xt := xt) (xi := xi) (mc := mc) (tk := tk) (xe := xe) (xz := xz) (ti := ti) (qn := qn) (yn := yn) (yo := yo) (ya := ya) (yb := yb) (yl := yl) (cu := cu) (ag := ag) (yv := yv) (yr := yr) (yt := yt) (yi := yi) (yk := yk) (ym := ym) (li := li) (ye := ye) (qu := qu) (yd := yd) (ys := ys) (yz := yz) h hp h1 ha8 hb8 hn24 e1 e2 e3 e5 hlt rows (by omega) (by omega)
    by_cases h1' : st' p = 1
    · have hR := mp_F_R (q1 h1') (C' := 2 * (tm + 1).toInt + K) (by omega) (by omega)
      obtain ⟨a', b', n', pn', ha8', hb8', hn24', hpn', e1', e2', e3', e4', e5', _⟩ := mp_next hR hp (Or.inl h1')
      by_cases hlt' : pn' < n'
      · obtain ⟨tm'', dl'', nt'', tc'', md'', lo'', en'', dO'', dA'', dB'', xo'', xa'', xb'', xl'', st'', xr'', rg'', xv'', pl'', tr'', xk'', xm'', wt'', xw'', xt'', xi'', mc'', tk'', xe'', xz'', ti'', qn'', yo'', ya'', yb'', yl'', cu'', ag'', yv'', yr'', yt'', yi'', yk'', ym'', li'', ye'', qu'', yd'', ys'', yz'', hX2, hY2, hR2⟩ := ih (k + 1) (by omega) (T + 1) (tm + 1) dl' nt' tc' md' lo' en' dO' dA' dB' xo' xa' xb' xl' st' xr' rg' xv' pl' tr' xk' xm' wt' xw' xt' xi' mc' tk' xe' xz' ti' qn' yo' ya' yb' yl' cu' ag' yv' yr' yt' yi' yk' ym' li' ye' qu' yd' ys' yz' (by omega) hR h1' ⟨a', n', pn', e1', ha8', e3', hn24', e5', hlt'⟩
        refine ⟨tm'', dl'', nt'', tc'', md'', lo'', en'', dO'', dA'', dB'', xo'', xa'', xb'', xl'', st'', xr'', rg'', xv'', pl'', tr'', xk'', xm'', wt'', xw'', xt'', xi'', mc'', tk'', xe'', xz'', ti'', qn'', yo'', ya'', yb'', yl'', cu'', ag'', yv'', yr'', yt'', yi'', yk'', ym'', li'', ye'', qu'', yd'', ys'', yz'', fun post n hn hq => ?_, fun post n hn hq => ?_, mp_T_R hR2 (by omega)⟩
        · obtain ⟨m, rfl⟩ := mp_pos hn
          refine hX post m k (by omega) ?_
          unfold wX_takeTurn_103
          rw [c]
          refine ⟨I, br_t h1' (mx_next_t hp ha8' hn24' e1' e3' e5' hlt' (br_f (by decide) ?_))⟩
          unfold wX_takeTurn_131
          rw [c]
          exact ⟨I, br_t h1' (nm_r (nI_1 k) (hX2 post m (by omega) hq))⟩
        · obtain ⟨m, rfl⟩ := mp_pos hn
          refine br_f (nI_ge (b := 8) (by omega) (by omega)) (br_f (by decide) (And.intro I ?_))
          rw [c]
          exact br_t h1 (hY _ ⟨I, br_t h1' (my_stands_t hp hb8' hn24' e2' e4' e5' hlt' (nm_r (nI_1 k) (hY2 post m (by omega) hq)))⟩)
      · obtain ⟨st'', tk'', nt'', qu'', qn'', mc'', xt'', xi'', yt'', yi'', lo'', xr'', xe'', xz'', xc'', yd'', ys'', yz'', yc'', xk'', yk'', xm'', ym'', yr'', en'', hX2, hY2, hs, hR2⟩ := mp_nonext (dl := dl') (nt := nt') (tc := tc') (tm := tm + 1) (xn := xn) (md := md') (lo := lo') (en := en') (dO := dO') (dA := dA') (dB := dB') (xo := xo') (xa := xa') (xb := xb') (xl := xl') (st := st') (xr := xr') (rg := rg') (xv := xv') (pl := pl') (tr := tr') (xk := xk') (xm := xm') (wt := wt') (xw := xw') (xt := xt') (xi := xi') (mc := mc') (tk := tk') (xe := xe') (xz := xz') (ti := ti') (qn := qn') (yn := yn) (yo := yo') (ya := ya') (yb := yb') (yl := yl') (cu := cu') (ag := ag') (yv := yv') (yr := yr') (yt := yt') (yi := yi') (yk := yk') (ym := ym') (li := li') (ye := ye') (qu := qu') (yd := yd') (ys := ys') (yz := yz') hR hp h1' ha8' hb8' hpn' e1' e2' e3' e4' e5' (by omega)
        refine ⟨tm + 1, dl', nt'', tc', md', lo'', en'', dO', dA', dB', xo', xa', xb', xl', st'', xr'', rg', xv', pl', tr', xk'', xm'', wt', xw', xt'', xi'', mc'', tk'', xe'', xz'', ti', qn'', yo', ya', yb', yl', cu', ag', yv', yr'', yt'', yi'', yk'', ym'', li', ye', qu'', yd'', ys'', yz'', fun post n hn hq => ?_, fun post n hn hq => ?_, mp_T_R (mp_F_R hR2 (by omega) (by omega)) (by omega)⟩
        · obtain ⟨m, rfl⟩ := mp_pos hn
          exact hX post m k (by omega) (hX2 post _ _ hq)
        · obtain ⟨m, rfl⟩ := mp_pos hn
          obtain ⟨m', rfl⟩ : ∃ m', m = m' + 1 := ⟨m - 1, by omega⟩
          refine br_f (nI_ge (b := 8) (by omega) (by omega)) (br_f (by decide) (And.intro I ?_))
          rw [c]
          exact br_t h1 (hY _ ⟨I, br_t h1' (hY2 _ (nm_e (my_66_0 hq)))⟩)
    · have hR := q2 h1'
      refine ⟨tm + 1, dl', nt', tc', md', lo', en', dO', dA', dB', xo', xa', xb', xl', st', xr', rg', xv', pl', tr', xk', xm', wt', xw', xt', xi', mc', tk', xe', xz', ti', qn', yo', ya', yb', yl', cu', ag', yv', yr', yt', yi', yk', ym', li', ye', qu', yd', ys', yz', fun post n hn hq => ?_, fun post n hn hq => ?_, mp_T_R (mp_F_R hR (by omega) (by omega)) (by omega)⟩
      · obtain ⟨m, rfl⟩ := mp_pos hn
        refine hX post m k (by omega) ?_
        unfold wX_takeTurn_103
        rw [c]
        refine ⟨I, br_f h1' ?_⟩
        unfold wX_takeTurn_131
        rw [c]
        exact ⟨I, br_f h1' hq⟩
      · obtain ⟨m, rfl⟩ := mp_pos hn
        obtain ⟨m', rfl⟩ : ∃ m', m = m' + 1 := ⟨m - 1, by omega⟩
        refine br_f (nI_ge (b := 8) (by omega) (by omega)) (br_f (by decide) (And.intro I ?_))
        rw [c]
        exact br_t h1 (hY _ ⟨I, br_f h1' (nm_e (my_66_n hp h1' hq))⟩)
def my_l66 (post : Int32 → SY → Prop) (q r : Int32) (v : SY) : Prop := match v with
  | (dl, qn, yc, tm, tc, yn, md, lo, en, yo, ya, yb, yl, cu, ag, dO, dA, dB, st, rg, pl, yv, yr, tr, yt, yi, mc, yk, ym, wt, li, ye, qu, yd, ys, yz, ti) => ∃ n66 : Nat, wY_turn_66 post q n66 r 0 dl qn yc tm tc yn md lo en yo ya yb yl cu ag dO dA dB st rg pl yv yr tr yt yi mc yk ym wt li ye qu yd ys yz ti
theorem mp_turn {K : Int} (h : (mp_D dl dO dA dB ∧ mp_C xo xa xb xl yo ya yb yl cu ∧ mp_V st xv yv xl cu ∧ mp_P st pl ∧ mp_S st ∧ mp_M st mc xt xi yt yi ∧ mp_K st xk yk ∧ mp_K st xm ym ∧ mp_W st xw li ye tm ∧ mp_T tm tc ti T ∧ mp_Q st tk nt p qu qn ∧ mp_E st xr yr ∧ mp_Z 0 st xr xe xz 0 yd ys yz 0 ∧ mp_F st nt (2 * tm.toInt + K) ∧ mp_G (fun _ _ => True) st xv yz)) (hp : p < 8) (h1 : st p = 1) (hK0 : 0 ≤ K) (hK1 : K < 2 ^ 32) (hT1 : T + 8 < 1900000000) : ∃ (tm' : Int32) (dl' : Int32) (nt' : Int64) (tc' md' lo' en' : Int32) (dO' dA' dB' xo' xa' xb' xl' st' xr' rg' xv' pl' tr' xk' xm' wt' xw' xt' xi' mc' : Nat → Int32) (tk' : Nat → Int64) (xe' xz' ti' : Nat → Int32) (qn' : Int32) (yo' ya' yb' yl' cu' ag' yv' yr' yt' yi' yk' ym' li' ye' qu' yd' ys' yz' : Nat → Int32), (∀ (post : SX → Prop), post (dl', nt', 0, tc', tm', xn, md', lo', en', dO', dA', dB', xo', xa', xb', xl', st', xr', rg', xv', pl', tr', xk', xm', wt', xw', xt', xi', mc', tk', xe', xz', ti') → wpX_takeTurn post (dl, nt, 0, tc, tm, xn, md, lo, en, dO, dA, dB, xo, xa, xb, xl, st, xr, rg, xv, pl, tr, xk, xm, wt, xw, xt, xi, mc, tk, xe, xz, ti) (nI p)) ∧ (∀ (post : Int32 → SY → Prop), post 1 (dl', qn', 0, tm', tc', yn, md', lo', en', yo', ya', yb', yl', cu', ag', dO', dA', dB', st', rg', pl', yv', yr', tr', yt', yi', mc', yk', ym', wt', li', ye', qu', yd', ys', yz', ti') → wpY_stands (fun r v => my_l66 post (nI p) r v) (dl, qn, 0, tm, tc, yn, md, lo, en, yo, ya, yb, yl, cu, ag, dO, dA, dB, st, rg, pl, yv, yr, tr, yt, yi, mc, yk, ym, wt, li, ye, qu, yd, ys, yz, ti) (nI p)) ∧ (mp_D dl' dO' dA' dB' ∧ mp_C xo' xa' xb' xl' yo' ya' yb' yl' cu' ∧ mp_V st' xv' yv' xl' cu' ∧ mp_P st' pl' ∧ mp_S st' ∧ mp_M st' mc' xt' xi' yt' yi' ∧ mp_K st' xk' yk' ∧ mp_K st' xm' ym' ∧ mp_W st' xw' li' ye' tm' ∧ mp_T tm' tc' ti' (T + 8) ∧ mp_Q st' tk' nt' 8 qu' qn' ∧ mp_E st' xr' yr' ∧ mp_Z 0 st' xr' xe' xz' 0 yd' ys' yz' 0 ∧ mp_F st' nt' (2 * tm'.toInt + K + 1) ∧ mp_G (fun _ _ => True) st' xv' yz') := by
  obtain ⟨t0, t1, _, _, _⟩ := h.2.2.2.2.2.2.2.2.2.1
  obtain ⟨a, b, n, pn, ha8, hb8, hn24, hpn, e1, e2, e3, e4, e5, rows⟩ := mp_next h hp (Or.inl h1)
  by_cases hlt : pn < n
  · obtain ⟨tm', dl', nt', tc', md', lo', en', dO', dA', dB', xo', xa', xb', xl', st', xr', rg', xv', pl', tr', xk', xm', wt', xw', xt', xi', mc', tk', xe', xz', ti', qn', yo', ya', yb', yl', cu', ag', yv', yr', yt', yi', yk', ym', li', ye', qu', yd', ys', yz', hX, hY, hR⟩ := mp_turn_l (xn := xn) (yn := yn) hp hK0 hK1 8 0 (by omega) T tm dl nt tc md lo en dO dA dB xo xa xb xl st xr rg xv pl tr xk xm wt xw xt xi mc tk xe xz ti qn yo ya yb yl cu ag yv yr yt yi yk ym li ye qu yd ys yz (by omega) h h1 ⟨a, n, pn, e1, ha8, e3, hn24, e5, hlt⟩
    refine ⟨tm', dl', nt', tc', md', lo', en', dO', dA', dB', xo', xa', xb', xl', st', xr', rg', xv', pl', tr', xk', xm', wt', xw', xt', xi', mc', tk', xe', xz', ti', qn', yo', ya', yb', yl', cu', ag', yv', yr', yt', yi', yk', ym', li', ye', qu', yd', ys', yz', fun post hq => ?_, fun post hq => ?_, mp_T_R hR (by omega)⟩
    · unfold wpX_takeTurn
      exact ⟨9, hX post 9 (by omega) hq⟩
    · exact my_stands_t hp hb8 hn24 e2 e4 e5 hlt ⟨10, hY post 10 (by omega) hq⟩
  · obtain ⟨st', tk', nt', qu', qn', mc', xt', xi', yt', yi', lo', xr', xe', xz', xc', yd', ys', yz', yc', xk', yk', xm', ym', yr', en', hX2, hY2, hs, hR2⟩ := mp_nonext (dl := dl) (nt := nt) (tc := tc) (tm := tm) (xn := xn) (md := md) (lo := lo) (en := en) (dO := dO) (dA := dA) (dB := dB) (xo := xo) (xa := xa) (xb := xb) (xl := xl) (st := st) (xr := xr) (rg := rg) (xv := xv) (pl := pl) (tr := tr) (xk := xk) (xm := xm) (wt := wt) (xw := xw) (xt := xt) (xi := xi) (mc := mc) (tk := tk) (xe := xe) (xz := xz) (ti := ti) (qn := qn) (yn := yn) (yo := yo) (ya := ya) (yb := yb) (yl := yl) (cu := cu) (ag := ag) (yv := yv) (yr := yr) (yt := yt) (yi := yi) (yk := yk) (ym := ym) (li := li) (ye := ye) (qu := qu) (yd := yd) (ys := ys) (yz := yz) h hp h1 ha8 hb8 hpn e1 e2 e3 e4 e5 (by omega)
    refine ⟨tm, dl, nt', tc, md, lo', en', dO, dA, dB, xo, xa, xb, xl, st', xr', rg, xv, pl, tr, xk', xm', wt, xw, xt', xi', mc', tk', xe', xz', ti, qn', yo, ya, yb, yl, cu, ag, yv, yr', yt', yi', yk', ym', li, ye, qu', yd', ys', yz', fun post hq => ?_, fun post hq => ?_, mp_T_R (mp_F_R hR2 (by omega) (by omega)) (by omega)⟩
    · unfold wpX_takeTurn
      exact ⟨1, br_f (by decide) (mx_next_f hp ha8 hpn e1 e3 e5 (by omega) (br_t rfl (hX2 post _ _ hq)))⟩
    · exact hY2 _ ⟨1, my_66_0 hq⟩
end
end
section
section
variable {dl xc tc tm xn md lo en qn yc yn : Int32} {nt : Int64} {dO dA dB xo xa xb xl st xr rg xv pl tr xk xm wt xw xt xi mc xe xz ti yo ya yb yl cu ag yv yr yt yi yk ym li ye qu yd ys yz : Nat → Int32} {tk : Nat → Int64} {run i p : Nat} {T C : Int} {G : Nat → Int32 → Prop}
def mp_rk (st : Nat → Int32) (tk : Nat → Int64) (p : Nat) : Nat → Bool := fun q => decide (st q = 1) && decide ((tk q).toInt < (tk p).toInt)
theorem mx_rb_l (hp : p < 8) : ∀ d q, q + d = 8 → ∀ (post : Int32 → Prop) n, d < n → post (nI (mp_cn (mp_rk st tk p) 8)) → wX_readyBefore_4 post (nI p) dl nt xc tc tm xn md lo en dO dA dB xo xa xb xl st xr rg xv pl tr xk xm wt xw xt xi mc tk xe xz ti n (nI (mp_cn (mp_rk st tk p) q)) (nI q) := by
  intro d
  have cp := nI_clamp (n := p) (by omega)
  have Ip := vp_in_nI (n := p) (N := 8) hp (by omega)
  induction d with
  | zero =>
    intro q hq post n hn h
    have e : q = 8 := by omega
    subst e
    obtain ⟨m, rfl⟩ := mp_pos hn
    exact br_t (nI_le (b := 8) (Nat.le_refl 8) (by omega)) h
  | succ d ih =>
    intro q hq post n hn h
    obtain ⟨m, rfl⟩ := mp_pos hn
    have c := nI_clamp (n := q) (by omega)
    have I := vp_in_nI (n := q) (N := 8) (by omega) (by omega)
    have ihh := ih (q + 1) (by omega) post m (by omega) h
    refine br_f (nI_ge (b := 8) (by omega) (by omega)) (And.intro I ?_)
    rw [c, cp]
    by_cases h1 : st q = 1
    · by_cases hl : tk p ≤ tk q
      · rw [mp_cn_sf (show mp_rk st tk p q = false by
          unfold mp_rk
          rw [Int64.le_iff_toInt_le] at hl
          rw [decide_eq_false (show ¬ (tk q).toInt < (tk p).toInt by omega), Bool.and_false])] at ihh
        exact br_t h1 ⟨I, Ip, br_t hl (nm_r (nI_1 q) ihh)⟩
      · rw [mp_cn_st (show mp_rk st tk p q = true by
          unfold mp_rk
          rw [Int64.le_iff_toInt_le] at hl
          rw [decide_eq_true h1, decide_eq_true (show (tk q).toInt < (tk p).toInt by omega)]; rfl)] at ihh
        exact br_t h1 ⟨I, Ip, br_f hl (nm_r (nI_1 _) (nm_r (nI_1 q) ihh))⟩
    · rw [mp_cn_sf (show mp_rk st tk p q = false by
        unfold mp_rk
        rw [decide_eq_false h1, Bool.false_and])] at ihh
      exact br_f h1 (nm_r (nI_1 q) ihh)
theorem mx_rb {post : Int32 → Prop} (hp : p < 8) (h : post (nI (mp_cn (mp_rk st tk p) 8))) : wpX_readyBefore post (dl, nt, xc, tc, tm, xn, md, lo, en, dO, dA, dB, xo, xa, xb, xl, st, xr, rg, xv, pl, tr, xk, xm, wt, xw, xt, xi, mc, tk, xe, xz, ti) (nI p) := by
  unfold wpX_readyBefore
  exact ⟨9, mx_rb_l hp 8 0 rfl post 9 (by omega) h⟩
theorem mx_ready_l {x1 : Int32} {e : Nat} (he : e ≤ 8) (hq : ∀ q, q < e → st q = 1 → nI (mp_cn (mp_rk st tk q) 8) ≠ x1) (post : Int32 → Prop) (hE : ∀ m, wX_ready_2 post x1 dl nt xc tc tm xn md lo en dO dA dB xo xa xb xl st xr rg xv pl tr xk xm wt xw xt xi mc tk xe xz ti (m + 1) (nI e)) : ∀ d q, q + d = e → ∀ n, d < n → wX_ready_2 post x1 dl nt xc tc tm xn md lo en dO dA dB xo xa xb xl st xr rg xv pl tr xk xm wt xw xt xi mc tk xe xz ti n (nI q) := by
  intro d
  induction d with
  | zero =>
    intro q h n hn
    have : q = e := by omega
    subst this
    obtain ⟨m, rfl⟩ := mp_pos hn
    exact hE m
  | succ d ih =>
    intro q h n hn
    obtain ⟨m, rfl⟩ := mp_pos hn
    have c := nI_clamp (n := q) (by omega)
    have I := vp_in_nI (n := q) (N := 8) (by omega) (by omega)
    have ihh := ih (q + 1) (by omega) m (by omega)
    refine br_f (nI_ge (b := 8) (by omega) (by omega)) (And.intro I ?_)
    rw [c]
    by_cases h1 : st q = 1
    · exact br_t h1 (mx_rb (by omega) (br_f (hq q (by omega) h1) (nm_r (nI_1 q) ihh)))
    · exact br_f h1 (nm_r (nI_1 q) ihh)
theorem mx_ready (hQ : mp_Q st tk nt 8 qu qn) (x1 : Int32) : ∃ (r : Int32) (n : Nat), qn = nI n ∧ n ≤ 8 ∧ (∀ post : Int32 → Prop, post r → wpX_ready post (dl, nt, xc, tc, tm, xn, md, lo, en, dO, dA, dB, xo, xa, xb, xl, st, xr, rg, xv, pl, tr, xk, xm, wt, xw, xt, xi, mc, tk, xe, xz, ti) x1) ∧ ((∃ j p, j < n ∧ x1 = nI j ∧ p < 8 ∧ qu j = nI p ∧ r = nI p ∧ st p = 1) ∨ ((∀ j, j < n → x1 ≠ nI j) ∧ r = -1)) := by
  obtain ⟨L, e, hq, hm, hs, hl, h2⟩ := hQ
  have h8 : ∀ q, q ∈ L → q < 8 := fun q z => ((hm q).mp z).1
  have hlen := mp_len8' (mp_nd hs) h8
  have rank : ∀ q, q < 8 → st q = 1 → ∃ j, j < L.length ∧ L[j]? = some q ∧ mp_cn (mp_rk st tk q) 8 = j := fun q hq8 h1 => by
    obtain ⟨j, hj⟩ := List.mem_iff_getElem?.mp ((hm q).mpr ⟨hq8, h1, by omega⟩)
    exact ⟨j, (List.getElem?_eq_some_iff.mp hj).1, hj, mp_rank hm hs hj⟩
  rcases mp_bel x1 (n := L.length) (by omega) with ⟨j, hj, ex⟩ | ⟨_, hno⟩
  · have hp0 : L[j]? = some L[j] := List.getElem?_eq_getElem hj
    generalize L[j] = p0 at hp0
    have hm0 := (hm p0).mp (List.mem_iff_getElem?.mpr ⟨j, hp0⟩)
    have hr0 : mp_cn (mp_rk st tk p0) 8 = j := mp_rank hm hs hp0
    have c := nI_clamp (n := p0) (by omega)
    have I := vp_in_nI (n := p0) (N := 8) hm0.1 (by omega)
    refine ⟨nI p0, L.length, e, hlen, fun post hq' => ?_, Or.inl ⟨j, p0, hj, ex, hm0.1, hq j p0 hp0, rfl, hm0.2.1⟩⟩
    unfold wpX_ready
    refine ⟨9, mx_ready_l (e := p0) (by omega) (fun q hq2 h1 z => ?_) post (fun m => br_f (nI_ge (b := 8) hm0.1 (by omega)) (And.intro I ?_)) p0 0 (by omega) 9 (by omega)⟩
    · obtain ⟨j2, hj2, hg, er⟩ := rank q (by omega) h1
      rw [er, ex, nI_eq (by omega) (by omega)] at z
      subst z
      rw [hp0] at hg
      have := Option.some.inj hg
      omega
    · rw [c]
      exact br_t hm0.2.1 (mx_rb hm0.1 (br_t (by rw [hr0, ex]) hq'))
  · refine ⟨-1, L.length, e, hlen, fun post hq' => ?_, Or.inr ⟨hno, rfl⟩⟩
    unfold wpX_ready
    refine ⟨9, mx_ready_l (e := 8) (by omega) (fun q hq2 h1 z => ?_) post (fun m => br_t (nI_le (b := 8) (Nat.le_refl 8) (by omega)) hq') 8 0 (by omega) 9 (by omega)⟩
    obtain ⟨j2, hj2, hg, er⟩ := rank q hq2 h1
    rw [er] at z
    exact hno j2 hj2 z.symm
/-! a turn begins -/
theorem mp_head (h : (mp_D dl dO dA dB ∧ mp_C xo xa xb xl yo ya yb yl cu ∧ mp_V st xv yv xl cu ∧ mp_P st pl ∧ mp_S st ∧ mp_M st mc xt xi yt yi ∧ mp_K st xk yk ∧ mp_K st xm ym ∧ mp_W st xw li ye tm ∧ mp_T tm tc ti T ∧ mp_Q st tk nt 8 qu qn ∧ mp_E st xr yr ∧ mp_Z 0 st xr xe xz 0 yd ys yz 0 ∧ mp_F st nt C ∧ mp_G (fun _ _ => True) st xv yz)) : (qn = 0 ∧ (∀ q, q < 8 → st q ≠ 1) ∧ (∀ post : Int32 → Prop, post (-1) → wpX_ready post (dl, nt, 0, tc, tm, xn, md, lo, en, dO, dA, dB, xo, xa, xb, xl, st, xr, rg, xv, pl, tr, xk, xm, wt, xw, xt, xi, mc, tk, xe, xz, ti) 0)) ∨ ∃ p qu' qn', p < 8 ∧ st p = 1 ∧ ¬ qn = 0 ∧ (∀ post : Int32 → Prop, post (nI p) → wpX_ready post (dl, nt, 0, tc, tm, xn, md, lo, en, dO, dA, dB, xo, xa, xb, xl, st, xr, rg, xv, pl, tr, xk, xm, wt, xw, xt, xi, mc, tk, xe, xz, ti) 0) ∧ (∀ post : Int32 → SY → Prop, wpY_stands (fun r v => my_l66 post (nI p) r v) (dl, qn', 0, tm, tc, yn + 1, md, lo, en, yo, ya, yb, yl, cu, ag, dO, dA, dB, st, rg, pl, yv, yr, tr, yt, yi, mc, yk, ym, wt, li, ye, qu', yd, ys, yz, ti) (nI p) → wY_turn_36 post dl qn 0 tm tc yn md lo en yo ya yb yl cu ag dO dA dB st rg pl yv yr tr yt yi mc yk ym wt li ye qu yd ys yz ti) ∧ (mp_D dl dO dA dB ∧ mp_C xo xa xb xl yo ya yb yl cu ∧ mp_V st xv yv xl cu ∧ mp_P st pl ∧ mp_S st ∧ mp_M st mc xt xi yt yi ∧ mp_K st xk yk ∧ mp_K st xm ym ∧ mp_W st xw li ye tm ∧ mp_T tm tc ti T ∧ mp_Q st tk nt p qu' qn' ∧ mp_E st xr yr ∧ mp_Z 0 st xr xe xz 0 yd ys yz 0 ∧ mp_F st nt C ∧ mp_G (fun _ _ => True) st xv yz) := by
  have hQ := h.2.2.2.2.2.2.2.2.2.2.1
  obtain ⟨r, n, en', hn8, hX, hc⟩ := mx_ready (dl := dl) (nt := nt) (xc := 0) (tc := tc) (tm := tm) (xn := xn) (md := md) (lo := lo) (en := en) (dO := dO) (dA := dA) (dB := dB) (xo := xo) (xa := xa) (xb := xb) (xl := xl) (st := st) (xr := xr) (rg := rg) (xv := xv) (pl := pl) (tr := tr) (xk := xk) (xm := xm) (wt := wt) (xw := xw) (xt := xt) (xi := xi) (mc := mc) (tk := tk) (xe := xe) (xz := xz) (ti := ti) (qu := qu) (qn := qn) hQ 0
  rcases hc with ⟨j, p, hj, ex, hp, eq, er, h1⟩ | ⟨hno, er⟩
  · right
    have ej : j = 0 := by
      have w : nI 0 = nI j := ex
      rw [nI_eq (by omega) (by omega)] at w
      exact w.symm
    subst ej
    subst er
    obtain ⟨qu', qn', hlv, hleave⟩ := my_leave (tk := tk) (nt := nt) (run := 8) (dl := dl) (qn := qn) (yc := 0) (tm := tm) (tc := tc) (yn := yn + 1) (md := md) (lo := lo) (en := en) (yo := yo) (ya := ya) (yb := yb) (yl := yl) (cu := cu) (ag := ag) (dO := dO) (dA := dA) (dB := dB) (st := st) (rg := rg) (pl := pl) (yv := yv) (yr := yr) (tr := tr) (yt := yt) (yi := yi) (mc := mc) (yk := yk) (ym := ym) (wt := wt) (li := li) (ye := ye) (qu := qu) (yd := yd) (ys := ys) (yz := yz) (ti := ti) hQ hp
    refine ⟨p, qu', qn', hp, h1, ?_, hX, fun post w => ?_, mp_run_R h h1 hlv⟩
    · rw [en']
      exact nI_ne0 (by omega) (by omega)
    · unfold wY_turn_36
      refine nm_e (nm_r eq (hleave _ ?_))
      exact w
  · left
    have hq0 : n = 0 := by
      rcases Nat.eq_zero_or_pos n with w | w
      · exact w
      · exact absurd rfl (hno 0 w)
    subst hq0
    subst er
    rcases mp_Q_head hQ with ⟨a, b⟩ | ⟨p, m, _, _, _, em, _⟩
    · exact ⟨a, b, hX⟩
    · rw [en', nI_eq (by omega) (by omega)] at em
      omega
end
end
section
section
variable {dl xc tc tm xn md lo en qn yc yn : Int32} {nt : Int64} {dO dA dB xo xa xb xl st xr rg xv pl tr xk xm wt xw xt xi mc xe xz ti yo ya yb yl cu ag yv yr yt yi yk ym li ye qu yd ys yz : Nat → Int32} {tk : Nat → Int64} {run i p : Nat} {T C : Int} {G : Nat → Int32 → Prop}
theorem mp_fullturn {K : Int} (h : (mp_D dl dO dA dB ∧ mp_C xo xa xb xl yo ya yb yl cu ∧ mp_V st xv yv xl cu ∧ mp_P st pl ∧ mp_S st ∧ mp_M st mc xt xi yt yi ∧ mp_K st xk yk ∧ mp_K st xm ym ∧ mp_W st xw li ye tm ∧ mp_T tm tc ti T ∧ mp_Q st tk nt 8 qu qn ∧ mp_E st xr yr ∧ mp_Z 0 st xr xe xz 0 yd ys yz 0 ∧ mp_F st nt (2 * tm.toInt + K) ∧ mp_G (fun _ _ => True) st xv yz)) (hK0 : 0 ≤ K) (hK1 : K < 2 ^ 32) (hT1 : T + 1008 < 1900000000) :
    (∃ (tm''' : Int32) (dl''' : Int32) (nt''' : Int64) (tc''' md''' lo''' en''' : Int32) (dO''' dA''' dB''' xo''' xa''' xb''' xl''' st''' xr''' rg''' xv''' pl''' tr''' xk''' xm''' wt''' xw''' xt''' xi''' mc''' : Nat → Int32) (tk''' : Nat → Int64) (xe''' xz''' ti''' : Nat → Int32) (qn''' : Int32) (yo''' ya''' yb''' yl''' cu''' ag''' yv''' yr''' yt''' yi''' yk''' ym''' li''' ye''' qu''' yd''' ys''' yz''' : Nat → Int32), (∀ (post : Int32 → SX → Prop), post (-1) (dl''', nt''', 0, tc''', tm''', xn, md''', lo''', en''', dO''', dA''', dB''', xo''', xa''', xb''', xl''', st''', xr''', rg''', xv''', pl''', tr''', xk''', xm''', wt''', xw''', xt''', xi''', mc''', tk''', xe''', xz''', ti''') → wpX_startTurn post (dl, nt, 0, tc, tm, xn, md, lo, en, dO, dA, dB, xo, xa, xb, xl, st, xr, rg, xv, pl, tr, xk, xm, wt, xw, xt, xi, mc, tk, xe, xz, ti)) ∧ (∀ (post : Int32 → SY → Prop), post 0 (dl''', qn''', 0, tm''', tc''', yn, md''', lo''', en''', yo''', ya''', yb''', yl''', cu''', ag''', dO''', dA''', dB''', st''', rg''', pl''', yv''', yr''', tr''', yt''', yi''', mc''', yk''', ym''', wt''', li''', ye''', qu''', yd''', ys''', yz''', ti''') → wpY_turn post (dl, qn, 0, tm, tc, yn, md, lo, en, yo, ya, yb, yl, cu, ag, dO, dA, dB, st, rg, pl, yv, yr, tr, yt, yi, mc, yk, ym, wt, li, ye, qu, yd, ys, yz, ti)) ∧ (mp_D dl''' dO''' dA''' dB''' ∧ mp_C xo''' xa''' xb''' xl''' yo''' ya''' yb''' yl''' cu''' ∧ mp_V st''' xv''' yv''' xl''' cu''' ∧ mp_P st''' pl''' ∧ mp_S st''' ∧ mp_M st''' mc''' xt''' xi''' yt''' yi''' ∧ mp_K st''' xk''' yk''' ∧ mp_K st''' xm''' ym''' ∧ mp_W st''' xw''' li''' ye''' tm''' ∧ mp_T tm''' tc''' ti''' (T + 1008) ∧ mp_Q st''' tk''' nt''' 8 qu''' qn''' ∧ mp_E st''' xr''' yr''' ∧ mp_Z 0 st''' xr''' xe''' xz''' 0 yd''' ys''' yz''' 0 ∧ mp_F st''' nt''' (2 * tm'''.toInt + K + 1) ∧ mp_G (fun _ _ => True) st''' xv''' yz''')) ∨
    (∃ (r : Int32) (u1 : SX) (tm''' : Int32) (dl''' : Int32) (nt''' : Int64) (tc''' md''' lo''' en''' : Int32) (dO''' dA''' dB''' xo''' xa''' xb''' xl''' st''' xr''' rg''' xv''' pl''' tr''' xk''' xm''' wt''' xw''' xt''' xi''' mc''' : Nat → Int32) (tk''' : Nat → Int64) (xe''' xz''' ti''' : Nat → Int32) (qn''' : Int32) (yo''' ya''' yb''' yl''' cu''' ag''' yv''' yr''' yt''' yi''' yk''' ym''' li''' ye''' qu''' yd''' ys''' yz''' : Nat → Int32), ¬ r = -1 ∧ (∀ (post : Int32 → SX → Prop), post r u1 → wpX_startTurn post (dl, nt, 0, tc, tm, xn, md, lo, en, dO, dA, dB, xo, xa, xb, xl, st, xr, rg, xv, pl, tr, xk, xm, wt, xw, xt, xi, mc, tk, xe, xz, ti)) ∧ (∀ (post : SX → Prop), post (dl''', nt''', 0, tc''', tm''', xn, md''', lo''', en''', dO''', dA''', dB''', xo''', xa''', xb''', xl''', st''', xr''', rg''', xv''', pl''', tr''', xk''', xm''', wt''', xw''', xt''', xi''', mc''', tk''', xe''', xz''', ti''') → wpX_takeTurn post u1 r) ∧ (∀ (post : Int32 → SY → Prop), post 1 (dl''', qn''', 0, tm''', tc''', yn + 1, md''', lo''', en''', yo''', ya''', yb''', yl''', cu''', ag''', dO''', dA''', dB''', st''', rg''', pl''', yv''', yr''', tr''', yt''', yi''', mc''', yk''', ym''', wt''', li''', ye''', qu''', yd''', ys''', yz''', ti''') → wpY_turn post (dl, qn, 0, tm, tc, yn, md, lo, en, yo, ya, yb, yl, cu, ag, dO, dA, dB, st, rg, pl, yv, yr, tr, yt, yi, mc, yk, ym, wt, li, ye, qu, yd, ys, yz, ti)) ∧ (mp_D dl''' dO''' dA''' dB''' ∧ mp_C xo''' xa''' xb''' xl''' yo''' ya''' yb''' yl''' cu''' ∧ mp_V st''' xv''' yv''' xl''' cu''' ∧ mp_P st''' pl''' ∧ mp_S st''' ∧ mp_M st''' mc''' xt''' xi''' yt''' yi''' ∧ mp_K st''' xk''' yk''' ∧ mp_K st''' xm''' ym''' ∧ mp_W st''' xw''' li''' ye''' tm''' ∧ mp_T tm''' tc''' ti''' (T + 1008) ∧ mp_Q st''' tk''' nt''' 8 qu''' qn''' ∧ mp_E st''' xr''' yr''' ∧ mp_Z 0 st''' xr''' xe''' xz''' 0 yd''' ys''' yz''' 0 ∧ mp_F st''' nt''' (2 * tm'''.toInt + K + 1) ∧ mp_G (fun _ _ => True) st''' xv''' yz''')) := by
  obtain ⟨st', tk', nt', qu', qn', rg', pl', hX1, hY1, hR1, _, k2, k3⟩ := mp_wake (dl := dl) (nt := nt) (xc := 0) (tc := tc) (tm := tm) (xn := xn) (md := md) (lo := lo) (en := en) (dO := dO) (dA := dA) (dB := dB) (xo := xo) (xa := xa) (xb := xb) (xl := xl) (st := st) (xr := xr) (rg := rg) (xv := xv) (pl := pl) (tr := tr) (xk := xk) (xm := xm) (wt := wt) (xw := xw) (xt := xt) (xi := xi) (mc := mc) (tk := tk) (xe := xe) (xz := xz) (ti := ti) (qn := qn) (yc := 0) (yn := yn) (yo := yo) (ya := ya) (yb := yb) (yl := yl) (cu := cu) (ag := ag) (yv := yv) (yr := yr) (yt := yt) (yi := yi) (yk := yk) (ym := ym) (li := li) (ye := ye) (qu := qu) (yd := yd) (ys := ys) (yz := yz) h
  have hW1 := hR1.2.2.2.2.2.2.2.2.1
  obtain ⟨t0, t1, _, _, _⟩ := h.2.2.2.2.2.2.2.2.2.1
  rcases mp_head (dl := dl) (nt := nt') (tc := tc) (tm := tm) (xn := xn) (md := md) (lo := lo) (en := en) (dO := dO) (dA := dA) (dB := dB) (xo := xo) (xa := xa) (xb := xb) (xl := xl) (st := st') (xr := xr) (rg := rg') (xv := xv) (pl := pl') (tr := tr) (xk := xk) (xm := xm) (wt := wt) (xw := xw) (xt := xt) (xi := xi) (mc := mc) (tk := tk') (xe := xe) (xz := xz) (ti := ti) (qn := qn') (yn := yn) (yo := yo) (ya := ya) (yb := yb) (yl := yl) (cu := cu) (ag := ag) (yv := yv) (yr := yr) (yt := yt) (yi := yi) (yk := yk) (ym := ym) (li := li) (ye := ye) (qu := qu') (yd := yd) (ys := ys) (yz := yz) hR1 with ⟨q0, hno, hXr⟩ | ⟨p, qu2, qn2, hp, h1, hq0, hXr, hY36, hR3⟩
  · rcases mp_ns_i st' xw 8 (Nat.le_refl 8) with ⟨e, _⟩ | ⟨s, hs, e, s2, sxw⟩
    · left
      refine ⟨tm, dl, nt', tc, md, lo, en, dO, dA, dB, xo, xa, xb, xl, st', xr, rg', xv, pl', tr, xk, xm, wt, xw, xt, xi, mc, tk', xe, xz, ti, qn', yo, ya, yb, yl, cu, ag, yv, yr, yt, yi, yk, ym, li, ye, qu', yd, ys, yz, fun post hq => ?_, fun post hq => ?_, mp_T_R (mp_F_R hR1 (by omega) (by omega)) (by omega)⟩
      · unfold wpX_startTurn
        dsimp only
        exact hX1 _ (hXr _ (br_t rfl (mx_ns (br_t e hq))))
      · unfold wpY_turn
        dsimp only
        refine hY1 _ (br_t q0 (my_ns hW1 ?_))
        rw [e]
        exact br_f (by decide) hq
    · right
      have cs := nI_clamp (n := s) (by omega)
      have Is := vp_in_nI (n := s) (N := 8) hs (by omega)
      obtain ⟨l1, w1, w2, w3⟩ : li s ≠ 0 ∧ xw s = ye s ∧ 0 ≤ (ye s).toInt ∧ (ye s).toInt ≤ tm.toInt + 1000 := by
        rcases hW1 s hs s2 with ⟨_, z⟩ | z
        · exact absurd z sxw
        · exact z
      have hlt : tm.toInt ≤ (ye s).toInt := by
        have z := k3 s hs e
        rw [w1, Int32.le_iff_toInt_le] at z
        omega
      have hJ := mp_jump_R (tm' := ye s) hR1 hlt (by omega)
      obtain ⟨st'', tk'', nt'', qu'', qn'', rg'', pl'', hX2, hY2, hR2, _, k2', _⟩ := mp_wake (dl := dl) (nt := nt') (xc := 0) (tc := tc) (tm := ye s) (xn := xn) (md := md) (lo := lo) (en := en) (dO := dO) (dA := dA) (dB := dB) (xo := xo) (xa := xa) (xb := xb) (xl := xl) (st := st') (xr := xr) (rg := rg') (xv := xv) (pl := pl') (tr := tr) (xk := xk) (xm := xm) (wt := wt) (xw := xw) (xt := xt) (xi := xi) (mc := mc) (tk := tk') (xe := xe) (xz := xz) (ti := ti) (qn := qn') (yc := 0) (yn := yn) (yo := yo) (ya := ya) (yb := yb) (yl := yl) (cu := cu) (ag := ag) (yv := yv) (yr := yr) (yt := yt) (yi := yi) (yk := yk) (ym := ym) (li := li) (ye := ye) (qu := qu') (yd := yd) (ys := ys) (yz := yz) hJ
      have hs1 : st'' s = 1 := k2' s hs e (by rw [w1]; exact Int32.le_refl _)
      rcases mp_head (dl := dl) (nt := nt'') (tc := tc) (tm := ye s) (xn := xn) (md := md) (lo := lo) (en := en) (dO := dO) (dA := dA) (dB := dB) (xo := xo) (xa := xa) (xb := xb) (xl := xl) (st := st'') (xr := xr) (rg := rg'') (xv := xv) (pl := pl'') (tr := tr) (xk := xk) (xm := xm) (wt := wt) (xw := xw) (xt := xt) (xi := xi) (mc := mc) (tk := tk'') (xe := xe) (xz := xz) (ti := ti) (qn := qn'') (yn := yn) (yo := yo) (ya := ya) (yb := yb) (yl := yl) (cu := cu) (ag := ag) (yv := yv) (yr := yr) (yt := yt) (yi := yi) (yk := yk) (ym := ym) (li := li) (ye := ye) (qu := qu'') (yd := yd) (ys := ys) (yz := yz) hR2 with ⟨_, hno2, _⟩ | ⟨p, qu3, qn3, hp, h1, _, hXr2, hY36, hR3⟩
      · exact absurd hs1 (hno2 s hs)
      · have hR4 := mp_F_R hR3 (C' := 2 * (ye s).toInt + K) (by omega) (by omega)
        obtain ⟨tm''', dl''', nt''', tc''', md''', lo''', en''', dO''', dA''', dB''', xo''', xa''', xb''', xl''', st''', xr''', rg''', xv''', pl''', tr''', xk''', xm''', wt''', xw''', xt''', xi''', mc''', tk''', xe''', xz''', ti''', qn''', yo''', ya''', yb''', yl''', cu''', ag''', yv''', yr''', yt''', yi''', yk''', ym''', li''', ye''', qu''', yd''', ys''', yz''', hXt, hYt, hRt⟩ := mp_turn (dl := dl) (nt := nt'') (tc := tc) (tm := ye s) (xn := xn) (md := md) (lo := lo) (en := en) (dO := dO) (dA := dA) (dB := dB) (xo := xo) (xa := xa) (xb := xb) (xl := xl) (st := st'') (xr := xr) (rg := rg'') (xv := xv) (pl := pl'') (tr := tr) (xk := xk) (xm := xm) (wt := wt) (xw := xw) (xt := xt) (xi := xi) (mc := mc) (tk := tk'') (xe := xe) (xz := xz) (ti := ti) (qn := qn3) (yn := yn + 1) (yo := yo) (ya := ya) (yb := yb) (yl := yl) (cu := cu) (ag := ag) (yv := yv) (yr := yr) (yt := yt) (yi := yi) (yk := yk) (ym := ym) (li := li) (ye := ye) (qu := qu3) (yd := yd) (ys := ys) (yz := yz) hR4 hp h1 hK0 hK1 (by omega)
        refine ⟨nI p, (dl, nt'', 0, tc, ye s, xn, md, lo, en, dO, dA, dB, xo, xa, xb, xl, st'', xr, rg'', xv, pl'', tr, xk, xm, wt, xw, xt, xi, mc, tk'', xe, xz, ti), tm''', dl''', nt''', tc''', md''', lo''', en''', dO''', dA''', dB''', xo''', xa''', xb''', xl''', st''', xr''', rg''', xv''', pl''', tr''', xk''', xm''', wt''', xw''', xt''', xi''', mc''', tk''', xe''', xz''', ti''', qn''', yo''', ya''', yb''', yl''', cu''', ag''', yv''', yr''', yt''', yi''', yk''', ym''', li''', ye''', qu''', yd''', ys''', yz''', mp_neg1 (by omega), fun post hq => ?_, hXt, fun post hq => ?_, mp_T_R hRt (by omega)⟩
        · unfold wpX_startTurn
          dsimp only
          refine hX1 _ (hXr _ (br_t rfl (mx_ns ?_)))
          rw [e, cs]
          exact br_f (mp_neg1 (by omega)) ⟨Is, nm_r w1 (hX2 _ (hXr2 _ hq))⟩
        · unfold wpY_turn
          dsimp only
          refine hY1 _ (br_t q0 (my_ns hW1 ?_))
          rw [e, cs]
          exact br_t (nI_pos' (by omega)) ⟨Is, nm_e (hY2 _ (hY36 _ (hYt _ hq)))⟩
  · right
    obtain ⟨tm''', dl''', nt''', tc''', md''', lo''', en''', dO''', dA''', dB''', xo''', xa''', xb''', xl''', st''', xr''', rg''', xv''', pl''', tr''', xk''', xm''', wt''', xw''', xt''', xi''', mc''', tk''', xe''', xz''', ti''', qn''', yo''', ya''', yb''', yl''', cu''', ag''', yv''', yr''', yt''', yi''', yk''', ym''', li''', ye''', qu''', yd''', ys''', yz''', hXt, hYt, hRt⟩ := mp_turn (dl := dl) (nt := nt') (tc := tc) (tm := tm) (xn := xn) (md := md) (lo := lo) (en := en) (dO := dO) (dA := dA) (dB := dB) (xo := xo) (xa := xa) (xb := xb) (xl := xl) (st := st') (xr := xr) (rg := rg') (xv := xv) (pl := pl') (tr := tr) (xk := xk) (xm := xm) (wt := wt) (xw := xw) (xt := xt) (xi := xi) (mc := mc) (tk := tk') (xe := xe) (xz := xz) (ti := ti) (qn := qn2) (yn := yn + 1) (yo := yo) (ya := ya) (yb := yb) (yl := yl) (cu := cu) (ag := ag) (yv := yv) (yr := yr) (yt := yt) (yi := yi) (yk := yk) (ym := ym) (li := li) (ye := ye) (qu := qu2) (yd := yd) (ys := ys) (yz := yz) hR3 hp h1 hK0 hK1 (by omega)
    refine ⟨nI p, (dl, nt', 0, tc, tm, xn, md, lo, en, dO, dA, dB, xo, xa, xb, xl, st', xr, rg', xv, pl', tr, xk, xm, wt, xw, xt, xi, mc, tk', xe, xz, ti), tm''', dl''', nt''', tc''', md''', lo''', en''', dO''', dA''', dB''', xo''', xa''', xb''', xl''', st''', xr''', rg''', xv''', pl''', tr''', xk''', xm''', wt''', xw''', xt''', xi''', mc''', tk''', xe''', xz''', ti''', qn''', yo''', ya''', yb''', yl''', cu''', ag''', yv''', yr''', yt''', yi''', yk''', ym''', li''', ye''', qu''', yd''', ys''', yz''', mp_neg1 (by omega), fun post hq => ?_, hXt, fun post hq => ?_, mp_T_R hRt (by omega)⟩
    · unfold wpX_startTurn
      dsimp only
      exact hX1 _ (hXr _ (br_f (mp_neg1 (by omega)) hq))
    · unfold wpY_turn
      dsimp only
      exact hY1 _ (br_f hq0 (hY36 _ (hYt _ hq)))
theorem mp_run_l {K : Int} {N : Nat} (hN : N ≤ 100) (hK0 : 0 ≤ K) (hK1 : K < 2 ^ 31) : ∀ d j : Nat, j + d = N → ∀ (tm : Int32) (dl : Int32) (nt : Int64) (tc md lo en : Int32) (dO dA dB xo xa xb xl st xr rg xv pl tr xk xm wt xw xt xi mc : Nat → Int32) (tk : Nat → Int64) (xe xz ti : Nat → Int32) (qn : Int32) (yo ya yb yl cu ag yv yr yt yi yk ym li ye qu yd ys yz : Nat → Int32), (mp_D dl dO dA dB ∧ mp_C xo xa xb xl yo ya yb yl cu ∧ mp_V st xv yv xl cu ∧ mp_P st pl ∧ mp_S st ∧ mp_M st mc xt xi yt yi ∧ mp_K st xk yk ∧ mp_K st xm ym ∧ mp_W st xw li ye tm ∧ mp_T tm tc ti (1000000000 + 1008 * (j : Int)) ∧ mp_Q st tk nt 8 qu qn ∧ mp_E st xr yr ∧ mp_Z 0 st xr xe xz 0 yd ys yz 0 ∧ mp_F st nt (2 * tm.toInt + (K + (j : Int))) ∧ mp_G (fun _ _ => True) st xv yz) → ∃ (r tm' : Int32) (dl' : Int32) (nt' : Int64) (tc' md' lo' en' : Int32) (dO' dA' dB' xo' xa' xb' xl' st' xr' rg' xv' pl' tr' xk' xm' wt' xw' xt' xi' mc' : Nat → Int32) (tk' : Nat → Int64) (xe' xz' ti' : Nat → Int32) (qn' : Int32) (yo' ya' yb' yl' cu' ag' yv' yr' yt' yi' yk' ym' li' ye' qu' yd' ys' yz' : Nat → Int32), (∀ (post : Int32 → SX → Prop) n, d < n → post r (dl', nt', 0, tc', tm', xn + r, md', lo', en', dO', dA', dB', xo', xa', xb', xl', st', xr', rg', xv', pl', tr', xk', xm', wt', xw', xt', xi', mc', tk', xe', xz', ti') → wX_run_26 post (nI N) n (nI j) (nI j) dl nt 0 tc tm xn md lo en dO dA dB xo xa xb xl st xr rg xv pl tr xk xm wt xw xt xi mc tk xe xz ti) ∧ (∀ (post : Int32 → SY → Prop) n, d + 1 < n → post r (dl', qn', 0, tm', tc', xn + r, md', lo', en', yo', ya', yb', yl', cu', ag', dO', dA', dB', st', rg', pl', yv', yr', tr', yt', yi', mc', yk', ym', wt', li', ye', qu', yd', ys', yz', ti') → wY_run_26 post (nI N) n (nI j) 1 dl qn 0 tm tc (xn + nI j) md lo en yo ya yb yl cu ag dO dA dB st rg pl yv yr tr yt yi mc yk ym wt li ye qu yd ys yz ti) ∧ (mp_D dl' dO' dA' dB' ∧ mp_C xo' xa' xb' xl' yo' ya' yb' yl' cu' ∧ mp_V st' xv' yv' xl' cu' ∧ mp_P st' pl' ∧ mp_S st' ∧ mp_M st' mc' xt' xi' yt' yi' ∧ mp_K st' xk' yk' ∧ mp_K st' xm' ym' ∧ mp_W st' xw' li' ye' tm' ∧ mp_T tm' tc' ti' (1000000000 + 1008 * (N : Int)) ∧ mp_Q st' tk' nt' 8 qu' qn' ∧ mp_E st' xr' yr' ∧ mp_Z 0 st' xr' xe' xz' 0 yd' ys' yz' 0 ∧ mp_F st' nt' (2 * tm'.toInt + (K + (N : Int))) ∧ mp_G (fun _ _ => True) st' xv' yz') := by
  intro d
  induction d with
  | zero =>
    intro j hj tm dl nt tc md lo en dO dA dB xo xa xb xl st xr rg xv pl tr xk xm wt xw xt xi mc tk xe xz ti qn yo ya yb yl cu ag yv yr yt yi yk ym li ye qu yd ys yz h
    have e : j = N := by omega
    subst e
    refine ⟨nI j, tm, dl, nt, tc, md, lo, en, dO, dA, dB, xo, xa, xb, xl, st, xr, rg, xv, pl, tr, xk, xm, wt, xw, xt, xi, mc, tk, xe, xz, ti, qn, yo, ya, yb, yl, cu, ag, yv, yr, yt, yi, yk, ym, li, ye, qu, yd, ys, yz, fun post n hn hq => ?_, fun post n hn hq => ?_, h⟩
    · obtain ⟨m, rfl⟩ := mp_pos hn
      exact br_t (nI_le (Nat.le_refl j) (by omega)) (nm_e hq)
    · obtain ⟨m, rfl⟩ := mp_pos hn
      exact br_f (by decide) (br_t (nI_le (Nat.le_refl j) (by omega)) hq)
  | succ d ih =>
    intro j hj tm dl nt tc md lo en dO dA dB xo xa xb xl st xr rg xv pl tr xk xm wt xw xt xi mc tk xe xz ti qn yo ya yb yl cu ag yv yr yt yi yk ym li ye qu yd ys yz h
    obtain ⟨t0, t1, _, _, _⟩ := h.2.2.2.2.2.2.2.2.2.1
    have hN2 : ¬ nI N ≤ nI j := nI_ge (by omega) (by omega)
    have ey : xn + nI j + 1 = xn + nI (j + 1) := by rw [Int32.add_assoc, nI_1]
    rcases mp_fullturn (dl := dl) (nt := nt) (tc := tc) (tm := tm) (xn := xn) (md := md) (lo := lo) (en := en) (dO := dO) (dA := dA) (dB := dB) (xo := xo) (xa := xa) (xb := xb) (xl := xl) (st := st) (xr := xr) (rg := rg) (xv := xv) (pl := pl) (tr := tr) (xk := xk) (xm := xm) (wt := wt) (xw := xw) (xt := xt) (xi := xi) (mc := mc) (tk := tk) (xe := xe) (xz := xz) (ti := ti) (qn := qn) (yn := xn + nI j) (yo := yo) (ya := ya) (yb := yb) (yl := yl) (cu := cu) (ag := ag) (yv := yv) (yr := yr) (yt := yt) (yi := yi) (yk := yk) (ym := ym) (li := li) (ye := ye) (qu := qu) (yd := yd) (ys := ys) (yz := yz) h (by omega) (by omega) (by omega) with ⟨tm3, dl''', nt''', tc''', md''', lo''', en''', dO''', dA''', dB''', xo''', xa''', xb''', xl''', st''', xr''', rg''', xv''', pl''', tr''', xk''', xm''', wt''', xw''', xt''', xi''', mc''', tk''', xe''', xz''', ti''', qn''', yo''', ya''', yb''', yl''', cu''', ag''', yv''', yr''', yt''', yi''', yk''', ym''', li''', ye''', qu''', yd''', ys''', yz''', hX, hY, hR⟩ | ⟨r, u1, tm3, dl''', nt''', tc''', md''', lo''', en''', dO''', dA''', dB''', xo''', xa''', xb''', xl''', st''', xr''', rg''', xv''', pl''', tr''', xk''', xm''', wt''', xw''', xt''', xi''', mc''', tk''', xe''', xz''', ti''', qn''', yo''', ya''', yb''', yl''', cu''', ag''', yv''', yr''', yt''', yi''', yk''', ym''', li''', ye''', qu''', yd''', ys''', yz''', hr, hX1, hX2, hY, hR⟩
    · have b3 := hR.2.2.2.2.2.2.2.2.2.1.2.1
      refine ⟨nI j, tm3, dl''', nt''', tc''', md''', lo''', en''', dO''', dA''', dB''', xo''', xa''', xb''', xl''', st''', xr''', rg''', xv''', pl''', tr''', xk''', xm''', wt''', xw''', xt''', xi''', mc''', tk''', xe''', xz''', ti''', qn''', yo''', ya''', yb''', yl''', cu''', ag''', yv''', yr''', yt''', yi''', yk''', ym''', li''', ye''', qu''', yd''', ys''', yz''', fun post n hn hq => ?_, fun post n hn hq => ?_, mp_T_R (mp_F_R hR (by omega) (by omega)) (by omega)⟩
      · obtain ⟨m, rfl⟩ := mp_pos hn
        exact br_f hN2 (hX _ (br_t rfl (nm_e hq)))
      · obtain ⟨m, rfl⟩ := mp_pos hn
        obtain ⟨m', rfl⟩ : ∃ m', m = m' + 1 := ⟨m - 1, by omega⟩
        exact br_f (by decide) (br_f hN2 (hY _ (br_t rfl (br_t rfl hq))))
    · have b3 := hR.2.2.2.2.2.2.2.2.2.1.2.1
      rw [ey] at hY
      have hR2 := mp_T_R (T' := 1000000000 + 1008 * ((j + 1 : Nat) : Int)) (mp_F_R hR (C' := 2 * tm3.toInt + (K + ((j + 1 : Nat) : Int))) (by omega) (by omega)) (by omega)
      obtain ⟨r2, tm4, dl', nt', tc', md', lo', en', dO', dA', dB', xo', xa', xb', xl', st', xr', rg', xv', pl', tr', xk', xm', wt', xw', xt', xi', mc', tk', xe', xz', ti', qn', yo', ya', yb', yl', cu', ag', yv', yr', yt', yi', yk', ym', li', ye', qu', yd', ys', yz', hX3, hY3, hR3⟩ := ih (j + 1) (by omega) tm3 dl''' nt''' tc''' md''' lo''' en''' dO''' dA''' dB''' xo''' xa''' xb''' xl''' st''' xr''' rg''' xv''' pl''' tr''' xk''' xm''' wt''' xw''' xt''' xi''' mc''' tk''' xe''' xz''' ti''' qn''' yo''' ya''' yb''' yl''' cu''' ag''' yv''' yr''' yt''' yi''' yk''' ym''' li''' ye''' qu''' yd''' ys''' yz''' hR2
      refine ⟨r2, tm4, dl', nt', tc', md', lo', en', dO', dA', dB', xo', xa', xb', xl', st', xr', rg', xv', pl', tr', xk', xm', wt', xw', xt', xi', mc', tk', xe', xz', ti', qn', yo', ya', yb', yl', cu', ag', yv', yr', yt', yi', yk', ym', li', ye', qu', yd', ys', yz', fun post n hn hq => ?_, fun post n hn hq => ?_, hR3⟩
      · obtain ⟨m, rfl⟩ := mp_pos hn
        refine br_f hN2 (hX1 _ ?_)
        obtain ⟨dls1, nts1, xcs1, tcs1, tms1, xns1, mds1, los1, ens1, dOs1, dAs1, dBs1, xos1, xas1, xbs1, xls1, sts1, xrs1, rgs1, xvs1, pls1, trs1, xks1, xms1, wts1, xws1, xts1, xis1, mcs1, tks1, xes1, xzs1, tis1⟩ := u1
        exact br_f hr (hX2 _ (nm_r (nI_1 j) (nm_r (nI_1 j) (hX3 post m (by omega) hq))))
      · obtain ⟨m, rfl⟩ := mp_pos hn
        exact br_f (by decide) (br_f hN2 (hY _ (br_f (by decide) (nm_r (nI_1 j) (hY3 post m (by omega) hq)))))
end
end
section
section
variable {dl xc tc tm xn md lo en qn yc yn : Int32} {nt : Int64} {dO dA dB xo xa xb xl st xr rg xv pl tr xk xm wt xw xt xi mc xe xz ti yo ya yb yl cu ag yv yr yt yi yk ym li ye qu yd ys yz : Nat → Int32} {tk : Nat → Int64} {run i p : Nat} {T C : Int} {G : Nat → Int32 → Prop}
theorem mp_d2 {b : Nat} (hb : b < 2 ^ 31) : nI b / 2 = nI (b / 2) := pk_div (d := 2) hb (by omega) (by omega)
theorem mp_2m1 (m : Nat) : 2 * nI m + 1 = nI (2 * m + 1) := by rw [mp_2x, nI_1]
/-! who runs old code -/
theorem mp_old2 {m : Nat} (hV : mp_V st xv yv xl cu) (hp : p < 8) (ha : mp_al st p) (hm4 : m < 4) : ∃ a b, a < 8 ∧ b < 8 ∧ xv p = nI a ∧ yv p = nI b ∧ b / 2 = a / 2 ∧ (a = 2 * m + 1 ↔ b / 2 = m ∧ nI b ≠ nI (2 * m) + cu m) ∧ (a % 2 = 0 ↔ nI b = nI (2 * (b / 2)) + cu (b / 2)) := by
  obtain ⟨mm, c, hmm, hc, e, h⟩ := hV p hp ha
  rcases h with ⟨h1, h2⟩ | ⟨h1, h2, h3⟩
  · refine ⟨2 * mm, 2 * mm + c, by omega, by omega, h1, h2, by omega, ⟨fun w => absurd w (by omega), fun w => ?_⟩, ⟨fun _ => ?_, fun _ => by omega⟩⟩
    · have e1 : mm = m := by omega
      subst e1
      rw [e, nI_add] at w
      exact absurd rfl w.2
    · have e1 : (2 * mm + c) / 2 = mm := by omega
      rw [e1, e, nI_add]
  · refine ⟨2 * mm + 1, 2 * mm + 1 - c, by omega, by omega, h1, h2, by omega, ⟨fun w => ⟨by omega, ?_⟩, fun w => by omega⟩, ⟨fun w => absurd w (by omega), fun w => ?_⟩⟩
    · have e1 : mm = m := by omega
      subst e1
      rw [e, nI_add]
      intro w
      rw [nI_eq (by omega) (by omega)] at w
      omega
    · have e1 : (2 * mm + 1 - c) / 2 = mm := by omega
      rw [e1, e, nI_add, nI_eq (by omega) (by omega)] at w
      omega
theorem my_old {m : Nat} {post : Int32 → Prop} (hS : mp_S st) (hV : mp_V st xv yv xl cu) (hp : p < 8) (hm4 : m < 4) (ht : mp_al st p → xv p = nI (2 * m + 1) → post 1) (hf : ¬ (mp_al st p ∧ xv p = nI (2 * m + 1)) → post 0) : wpY_isOld post (dl, qn, yc, tm, tc, yn, md, lo, en, yo, ya, yb, yl, cu, ag, dO, dA, dB, st, rg, pl, yv, yr, tr, yt, yi, mc, yk, ym, wt, li, ye, qu, yd, ys, yz, ti) (nI p) (nI m) := by
  have c := nI_clamp (n := p) (by omega)
  have I := vp_in_nI (n := p) (N := 8) hp (by omega)
  have cm := nI_clamp (n := m) (by omega)
  have Im := vp_in_nI (n := m) (N := 4) hm4 (by omega)
  have n2 : ¬ (2 : Int32) = 0 := by decide
  unfold wpY_isOld
  dsimp only
  rcases mp_al_of hS hp with ⟨ha, _⟩ | ⟨hd, _⟩
  · obtain ⟨a, b, ha8, hb8, e1, e2, e3, e4, _⟩ := mp_old2 hV hp ha hm4
    refine my_al_t hp ha (br_f (by decide) (And.intro I (And.intro n2 ?_)))
    rw [c, e2, cm, mp_d2 (by omega), mp_2x]
    by_cases h1 : b / 2 = m
    · refine br_t (congrArg nI h1) ⟨I, Im, ?_⟩
      by_cases h2 : nI b = nI (2 * m) + cu m
      · exact br_t h2 (hf (fun z => by
          have w := z.2
          rw [e1, nI_eq (by omega) (by omega)] at w
          exact (e4.mp w).2 h2))
      · exact br_f h2 (ht ha (by rw [e1]; exact congrArg nI (e4.mpr ⟨h1, h2⟩)))
    · exact br_f (mp_nI_inj (by omega) (by omega) h1) (hf (fun z => by
        have w := z.2
        rw [e1, nI_eq (by omega) (by omega)] at w
        exact h1 (e4.mp w).1))
  · exact my_al_f (mp_deadp hp hd) (br_t rfl (hf (fun z => hd z.1)))
theorem mx_oiu_l {m : Nat} (hS : mp_S st) (hm4 : m < 4) (w1 : Int32) (hw1 : w1 = 0 ∨ w1 = 1) (hr : w1 = 0 → ∀ q, q < 8 → mp_al st q → xv q ≠ nI (2 * m + 1)) : ∀ d q, q + d = 8 → ∀ (w : Int32), (w = 0 ∨ w = w1) → (w1 = 1 → w = 1 ∨ ∃ p, q ≤ p ∧ p < 8 ∧ mp_al st p ∧ xv p = nI (2 * m + 1)) → ∀ (post : Int32 → Prop) n, d < n → post w1 → wX_isOldInUse_4 post (nI m) dl nt xc tc tm xn md lo en dO dA dB xo xa xb xl st xr rg xv pl tr xk xm wt xw xt xi mc tk xe xz ti n w (nI q) := by
  intro d
  induction d with
  | zero =>
    intro q hq w hw he post n hn h
    have e : q = 8 := by omega
    subst e
    obtain ⟨k, rfl⟩ := mp_pos hn
    have ew : w = w1 := by
      rcases hw1 with z | z
      · rcases hw with y | y
        · rw [y, z]
        · exact y
      · rcases he z with y | ⟨p, a1, a2, _⟩
        · rw [y, z]
        · omega
    rw [ew]
    refine br_t (nI_le (b := 8) (Nat.le_refl 8) (by omega)) ⟨?_, h⟩
    rcases hw1 with z | z <;> rw [z] <;> rfl
  | succ d ih =>
    intro q hq w hw he post n hn h
    obtain ⟨k, rfl⟩ := mp_pos hn
    have c := nI_clamp (n := q) (by omega)
    have I := vp_in_nI (n := q) (N := 8) (by omega) (by omega)
    refine br_f (nI_ge (b := 8) (by omega) (by omega)) ?_
    rw [c, mp_2m1]
    rcases mp_al_of hS (p := q) (by omega) with ⟨ha, _⟩ | ⟨hd, _⟩
    · refine mx_al_t (by omega) ha (br_f (by decide) ⟨I, ?_⟩)
      by_cases hv : xv q = nI (2 * m + 1)
      · have e1 : w1 = 1 := by
          rcases hw1 with z | z
          · exact absurd hv (hr z q (by omega) ha)
          · exact z
        exact br_t hv (nm_r (nI_1 q) (ih (q + 1) (by omega) 1 (Or.inr e1.symm) (fun _ => Or.inl rfl) post k (by omega) h))
      · exact br_f hv (nm_r (nI_1 q) (ih (q + 1) (by omega) w hw (fun z => by
          rcases he z with y | ⟨p, a1, a2, a3, a4⟩
          · exact Or.inl y
          · refine Or.inr ⟨p, ?_, a2, a3, a4⟩
            by_cases y : p = q
            · subst y; exact absurd a4 hv
            · omega) post k (by omega) h))
    · refine mx_al_f (mp_deadp (by omega) hd) (br_t rfl (nm_r (nI_1 q) (ih (q + 1) (by omega) w hw (fun z => ?_) post k (by omega) h)))
      rcases he z with y | ⟨p, a1, a2, a3, a4⟩
      · exact Or.inl y
      · refine Or.inr ⟨p, ?_, a2, a3, a4⟩
        by_cases y : p = q
        · subst y; exact absurd a3 hd
        · omega
theorem my_ld20_l {m e : Nat} (hS : mp_S st) (hV : mp_V st xv yv xl cu) (hm4 : m < 4) (he : e ≤ 8) (hq : ∀ q, q < e → ¬ (mp_al st q ∧ xv q = nI (2 * m + 1))) (post : Int32 → SY → Prop) (hE : ∀ k, wY_load_20 post (nI m) dl qn yc tm tc yn md lo en yo ya yb yl cu ag dO dA dB st rg pl yv yr tr yt yi mc yk ym wt li ye qu yd ys yz ti (k + 1) (nI e)) : ∀ d q, q + d = e → ∀ n, d < n → wY_load_20 post (nI m) dl qn yc tm tc yn md lo en yo ya yb yl cu ag dO dA dB st rg pl yv yr tr yt yi mc yk ym wt li ye qu yd ys yz ti n (nI q) := by
  intro d
  induction d with
  | zero =>
    intro q h n hn
    have : q = e := by omega
    subst this
    obtain ⟨k, rfl⟩ := mp_pos hn
    exact hE k
  | succ d ih =>
    intro q h n hn
    obtain ⟨k, rfl⟩ := mp_pos hn
    exact br_f (nI_ge (b := 8) (by omega) (by omega)) (my_old hS hV (by omega) hm4 (fun a b => absurd ⟨a, b⟩ (hq q (by omega))) (fun _ => br_t rfl (nm_r (nI_1 q) (ih (q + 1) (by omega) k (by omega)))))
/-! X's tables are moved -/
def mp_ldq (f f' d : Nat → Int32) (m q : Nat) : Prop := (∀ i, q ≤ i → i < 24 → f' (48 * m + 24 + i) = f (48 * m + i) ∧ f' (48 * m + i) = d i) ∧ (∀ j, (j < 48 * m + q ∨ (48 * m + 24 ≤ j ∧ j < 48 * m + 24 + q) ∨ 48 * m + 48 ≤ j) → f' j = f j)
theorem mp_ldq_s {f f' d : Nat → Int32} {m q : Nat} (hq : q < 24) (h : mp_ldq (upd (upd f (48 * m + q + 24) (f (48 * m + q))) (48 * m + q) (d q)) f' d m (q + 1)) : mp_ldq f f' d m q := by
  obtain ⟨h1, h2⟩ := h
  refine ⟨fun i a b => ?_, fun j hj => ?_⟩
  · by_cases e : i = q
    · subst e
      rw [h2 (48 * m + 24 + i) (by omega), h2 (48 * m + i) (by omega), pk_us, pk_un (by omega), show 48 * m + 24 + i = 48 * m + i + 24 by omega, pk_us]
      exact ⟨rfl, rfl⟩
    · have w := h1 i (by omega) b
      rw [pk_un (by omega), pk_un (by omega)] at w
      exact w
  · rw [h2 j (by omega), pk_un (by omega), pk_un (by omega)]
theorem mx_ld_l {m : Nat} (hm4 : m < 4) : ∀ d q, q + d = 24 → ∀ xo xa xb : Nat → Int32, ∃ xo' xa' xb' : Nat → Int32, mp_ldq xo xo' dO m q ∧ mp_ldq xa xa' dA m q ∧ mp_ldq xb xb' dB m q ∧ ∀ (post : Int32 → SX → Prop) n, d < n → wX_load_31 post (nI (2 * m)) dl nt xc tc tm xn md lo en 1 (nI 24) dO dA dB xo' xa' xb' xl st xr rg xv pl tr xk xm wt xw xt xi mc tk xe xz ti → wX_load_31 post (nI (2 * m)) dl nt xc tc tm xn md lo en n (nI q) dO dA dB xo xa xb xl st xr rg xv pl tr xk xm wt xw xt xi mc tk xe xz ti := by
  intro d
  induction d with
  | zero =>
    intro q hq xo xa xb
    have e : q = 24 := by omega
    subst e
    refine ⟨xo, xa, xb, ⟨fun i a b => absurd b (by omega), fun j _ => rfl⟩, ⟨fun i a b => absurd b (by omega), fun j _ => rfl⟩, ⟨fun i a b => absurd b (by omega), fun j _ => rfl⟩, fun post n hn h => ?_⟩
    obtain ⟨k, rfl⟩ := mp_pos hn
    have h24 : (24 : Int32) ≤ nI 24 := nI_le (b := 24) (Nat.le_refl 24) (by omega)
    exact br_t h24 (h.1 h24)
  | succ d ih =>
    intro q hq xo xa xb
    obtain ⟨xo', xa', xb', s1, s2, s3, hX⟩ := ih (q + 1) (by omega) (upd (upd xo (48 * m + q + 24) (xo (48 * m + q))) (48 * m + q) (dO q)) (upd (upd xa (48 * m + q + 24) (xa (48 * m + q))) (48 * m + q) (dA q)) (upd (upd xb (48 * m + q + 24) (xb (48 * m + q))) (48 * m + q) (dB q))
    refine ⟨xo', xa', xb', mp_ldq_s (by omega) s1, mp_ldq_s (by omega) s2, mp_ldq_s (by omega) s3, fun post n hn h => ?_⟩
    obtain ⟨k, rfl⟩ := mp_pos hn
    have c := nI_clamp (n := q) (by omega)
    have I := vp_in_nI (n := q) (N := 24) (by omega) (by omega)
    have c1 := nI_clamp (n := 48 * m + q) (by omega)
    have I1 := vp_in_nI (n := 48 * m + q) (N := 192) (by omega) (by omega)
    have c2 := nI_clamp (n := 48 * m + q + 24) (by omega)
    have I2 := vp_in_nI (n := 48 * m + q + 24) (N := 192) (by omega) (by omega)
    refine br_f (nI_ge (b := 24) (by omega) (by omega)) (nm_r (e' := nI (48 * m + q)) (by rw [mp_x24, nI_add]; exact congrArg nI (by omega)) (nm_r (e' := nI (48 * m + q + 24)) (nI_add (48 * m + q) 24) ?_))
    rw [c, c1, c2]
    exact ⟨I1, I2, nm_e ⟨I1, I2, nm_e ⟨I1, I2, nm_e ⟨I, I1, nm_e ⟨I, I1, nm_e ⟨I, I1, nm_e (nm_r (nI_1 q) (hX post k (by omega) h))⟩⟩⟩⟩⟩⟩
theorem mx_ldv_l {m : Nat} (hm4 : m < 4) : ∀ d q, q + d = 8 → ∀ xv : Nat → Int32, ∃ xv' : Nat → Int32, (∀ j, j < 8 → xv' j = if q ≤ j ∧ xv j = nI (2 * m) then nI (2 * m + 1) else xv j) ∧ ∀ (post : Int32 → SX → Prop) n, d < n → post 1 (dl, nt, xc, tc, tm, xn, md, lo, en, dO, dA, dB, xo, xa, xb, xl, st, xr, rg, xv', pl, tr, xk, xm, wt, xw, xt, xi, mc, tk, xe, xz, ti) → wX_load_170 post (nI (2 * m)) dl nt xc tc tm xn md lo en n (nI q) dO dA dB xo xa xb xl st xr rg xv pl tr xk xm wt xw xt xi mc tk xe xz ti := by
  intro d
  induction d with
  | zero =>
    intro q hq xv
    have e : q = 8 := by omega
    subst e
    refine ⟨xv, fun j hj => by rw [if_neg (by omega)], fun post n hn h => ?_⟩
    obtain ⟨k, rfl⟩ := mp_pos hn
    exact br_t (nI_le (b := 8) (Nat.le_refl 8) (by omega)) h
  | succ d ih =>
    intro q hq xv
    have c := nI_clamp (n := q) (by omega)
    have I := vp_in_nI (n := q) (N := 8) (by omega) (by omega)
    by_cases hv : xv q = nI (2 * m)
    · obtain ⟨xv', s1, hX⟩ := ih (q + 1) (by omega) (upd xv q (nI (2 * m + 1)))
      refine ⟨xv', fun j hj => ?_, fun post n hn h => ?_⟩
      · rw [s1 j hj]
        by_cases e : j = q
        · subst e
          rw [if_neg (by omega), pk_us, if_pos ⟨Nat.le_refl j, hv⟩]
        · rw [pk_un e]
          by_cases w : q ≤ j ∧ xv j = nI (2 * m)
          · rw [if_pos ⟨by omega, w.2⟩, if_pos w]
          · rw [if_neg (fun z => w ⟨by omega, z.2⟩), if_neg w]
      · obtain ⟨k, rfl⟩ := mp_pos hn
        refine br_f (nI_ge (b := 8) (by omega) (by omega)) (And.intro I ?_)
        rw [c, nI_1]
        exact br_t hv ⟨I, nm_e (nm_r (nI_1 q) (hX post k (by omega) h))⟩
    · obtain ⟨xv', s1, hX⟩ := ih (q + 1) (by omega) xv
      refine ⟨xv', fun j hj => ?_, fun post n hn h => ?_⟩
      · rw [s1 j hj]
        by_cases w : q ≤ j ∧ xv j = nI (2 * m)
        · have : j ≠ q := fun z => hv (z ▸ w.2)
          rw [if_pos ⟨by omega, w.2⟩, if_pos w]
        · rw [if_neg (fun z => w ⟨by omega, z.2⟩), if_neg w]
      · obtain ⟨k, rfl⟩ := mp_pos hn
        refine br_f (nI_ge (b := 8) (by omega) (by omega)) (And.intro I ?_)
        rw [c]
        exact br_f hv (nm_r (nI_1 q) (hX post k (by omega) h))
/-! Y's draft is copied -/
def mp_lyq (g g' d : Nat → Int32) (v n q : Nat) : Prop := (∀ k, q ≤ k → k < n → g' (24 * v + k) = d k) ∧ (∀ j, (j < 24 * v + q ∨ 24 * v + n ≤ j) → g' j = g j)
theorem mp_lyq_s {g g' d : Nat → Int32} {v n q : Nat} (hq : q < n) (h : mp_lyq (upd g (24 * v + q) (d q)) g' d v n (q + 1)) : mp_lyq g g' d v n q := by
  obtain ⟨h1, h2⟩ := h
  refine ⟨fun k a b => ?_, fun j hj => ?_⟩
  · by_cases e : k = q
    · subst e
      rw [h2 _ (by omega), pk_us]
    · exact h1 k (by omega) b
  · rw [h2 j (by omega), pk_un (by omega)]
theorem my_ld_l {v n0 : Nat} (hv : v < 8) (hn0 : n0 ≤ 24) : ∀ d q, q + d = n0 → ∀ yo ya yb : Nat → Int32, ∃ yo' ya' yb' : Nat → Int32, mp_lyq yo yo' dO v n0 q ∧ mp_lyq ya ya' dA v n0 q ∧ mp_lyq yb yb' dB v n0 q ∧ ∀ (post : Int32 → SY → Prop) n, d < n → post 1 (0, qn, yc, tm, tc, yn, md, lo, en, yo', ya', yb', upd yl v (nI n0), cu, ag, dO, dA, dB, st, rg, pl, yv, yr, tr, yt, yi, mc, yk, ym, wt, li, ye, qu, yd, ys, yz, ti) → wY_load_96 post (nI v) (nI n0) qn yc tm tc yn md lo en n (nI q) yo ya yb yl cu ag dO dA dB st rg pl yv yr tr yt yi mc yk ym wt li ye qu yd ys yz ti := by
  intro d
  have cv := nI_clamp (n := v) (by omega)
  have Iv := vp_in_nI (n := v) (N := 8) hv (by omega)
  induction d with
  | zero =>
    intro q hq yo ya yb
    have e : q = n0 := by omega
    subst e
    refine ⟨yo, ya, yb, ⟨fun i a b => absurd b (by omega), fun j _ => rfl⟩, ⟨fun i a b => absurd b (by omega), fun j _ => rfl⟩, ⟨fun i a b => absurd b (by omega), fun j _ => rfl⟩, fun post n hn h => ?_⟩
    obtain ⟨k, rfl⟩ := mp_pos hn
    refine br_t (nI_le (Nat.le_refl q) (by omega)) (And.intro Iv ?_)
    rw [cv]
    exact nm_e h
  | succ d ih =>
    intro q hq yo ya yb
    obtain ⟨yo', ya', yb', s1, s2, s3, hY⟩ := ih (q + 1) (by omega) (upd yo (24 * v + q) (dO q)) (upd ya (24 * v + q) (dA q)) (upd yb (24 * v + q) (dB q))
    refine ⟨yo', ya', yb', mp_lyq_s (by omega) s1, mp_lyq_s (by omega) s2, mp_lyq_s (by omega) s3, fun post n hn h => ?_⟩
    obtain ⟨k, rfl⟩ := mp_pos hn
    have c := nI_clamp (n := q) (by omega)
    have I := vp_in_nI (n := q) (N := 24) (by omega) (by omega)
    have c1 := nI_clamp (n := 24 * v + q) (by omega)
    have I1 := vp_in_nI (n := 24 * v + q) (N := 192) (by omega) (by omega)
    refine br_f (nI_ge (by omega) (by omega)) (And.intro I ?_)
    rw [c, mp_24x, nI_add, c1]
    exact ⟨I1, nm_e ⟨I, I1, nm_e ⟨I, I1, nm_e (nm_r (nI_1 q) (hY post k (by omega) h))⟩⟩⟩
end
end
section
section
variable {dl xc tc tm xn md lo en qn yc yn : Int32} {nt : Int64} {dO dA dB xo xa xb xl st xr rg xv pl tr xk xm wt xw xt xi mc xe xz ti yo ya yb yl cu ag yv yr yt yi yk ym li ye qu yd ys yz : Nat → Int32} {tk : Nat → Int64} {run i p : Nat} {T C : Int} {G : Nat → Int32 → Prop}
theorem mx_n_t {post : Int32 → Prop} {x : Int32} {n : Nat} (hn : n < 2 ^ 31) (hx : mp_lt x n) (h : post 1) : wpX_isBelow (fun r => (narrow .boolean (.int r) = .int r ∧ (post r))) x (nI n) := by
  obtain ⟨j, hj, rfl⟩ := hx
  exact mx_bel_t hj hn ⟨rfl, h⟩
theorem mx_n_f {post : Int32 → Prop} {x : Int32} {n : Nat} (hx : mp_out x n) (h : post 0) : wpX_isBelow (fun r => (narrow .boolean (.int r) = .int r ∧ (post r))) x (nI n) := mx_bel_f hx ⟨rfl, h⟩
theorem mx_2_t {post : Int32 → Prop} {x y : Int32} {n m : Nat} (hn : n < 2 ^ 31) (hm : m < 2 ^ 31) (hx : mp_lt x n) (hy : mp_lt y m) (h : post 1) : wpX_isBelow (fun r_7 => (((r_7 = 0 → (post 0)) ∧ (¬ r_7 = 0 → (wpX_isBelow (fun r_9 => (((r_9 = 0 → (post 0)) ∧ (¬ r_9 = 0 → (post 1))))) y (nI m)))))) x (nI n) := by
  obtain ⟨j, hj, rfl⟩ := hx
  obtain ⟨k, hk, rfl⟩ := hy
  exact mx_bel_t hj hn (br_f (by decide) (mx_bel_t hk hm (br_f (by decide) h)))
theorem mx_2_fa {post : Int32 → Prop} {x y : Int32} {n m : Nat} (hx : mp_out x n) (h : post 0) : wpX_isBelow (fun r_7 => (((r_7 = 0 → (post 0)) ∧ (¬ r_7 = 0 → (wpX_isBelow (fun r_9 => (((r_9 = 0 → (post 0)) ∧ (¬ r_9 = 0 → (post 1))))) y (nI m)))))) x (nI n) := mx_bel_f hx (br_t rfl h)
theorem mx_2_fb {post : Int32 → Prop} {x y : Int32} {n m : Nat} (hn : n < 2 ^ 31) (hx : mp_lt x n) (hy : mp_out y m) (h : post 0) : wpX_isBelow (fun r_7 => (((r_7 = 0 → (post 0)) ∧ (¬ r_7 = 0 → (wpX_isBelow (fun r_9 => (((r_9 = 0 → (post 0)) ∧ (¬ r_9 = 0 → (post 1))))) y (nI m)))))) x (nI n) := by
  obtain ⟨j, hj, rfl⟩ := hx
  exact mx_bel_t hj hn (br_f (by decide) (mx_bel_f hy (br_t rfl h)))
theorem my_n_t {post : Int32 → Prop} {x : Int32} {n : Nat} (hn : n < 2 ^ 31) (hx : mp_lt x n) (h : post 1) : wpY_among (fun r => (narrow .boolean (.int r) = .int r ∧ (post r))) (dl, qn, yc, tm, tc, yn, md, lo, en, yo, ya, yb, yl, cu, ag, dO, dA, dB, st, rg, pl, yv, yr, tr, yt, yi, mc, yk, ym, wt, li, ye, qu, yd, ys, yz, ti) x (nI n) := by
  obtain ⟨j, hj, rfl⟩ := hx
  exact my_bel_t hj hn ⟨rfl, h⟩
theorem my_n_f {post : Int32 → Prop} {x : Int32} {n : Nat} (hx : mp_out x n) (h : post 0) : wpY_among (fun r => (narrow .boolean (.int r) = .int r ∧ (post r))) (dl, qn, yc, tm, tc, yn, md, lo, en, yo, ya, yb, yl, cu, ag, dO, dA, dB, st, rg, pl, yv, yr, tr, yt, yi, mc, yk, ym, wt, li, ye, qu, yd, ys, yz, ti) x (nI n) := my_bel_f hx ⟨rfl, h⟩
theorem my_b_t {post : Int32 → Prop} {x : Int32} {n : Nat} (hn : n < 2 ^ 31) (hx : mp_lt x n) (h : post 1) : wpY_among (fun r => (((r = 0 → (post 0)) ∧ (¬ r = 0 → (post 1))))) (dl, qn, yc, tm, tc, yn, md, lo, en, yo, ya, yb, yl, cu, ag, dO, dA, dB, st, rg, pl, yv, yr, tr, yt, yi, mc, yk, ym, wt, li, ye, qu, yd, ys, yz, ti) x (nI n) := by
  obtain ⟨j, hj, rfl⟩ := hx
  exact my_bel_t hj hn (br_f (by decide) h)
theorem my_b_f {post : Int32 → Prop} {x : Int32} {n : Nat} (hx : mp_out x n) (h : post 0) : wpY_among (fun r => (((r = 0 → (post 0)) ∧ (¬ r = 0 → (post 1))))) (dl, qn, yc, tm, tc, yn, md, lo, en, yo, ya, yb, yl, cu, ag, dO, dA, dB, st, rg, pl, yv, yr, tr, yt, yi, mc, yk, ym, wt, li, ye, qu, yd, ys, yz, ti) x (nI n) := my_bel_f hx (br_t rfl h)
theorem mp_blt (x : Int32) {n : Nat} (hn : n < 2 ^ 31) : mp_lt x n ∨ mp_out x n := by
  rcases mp_bel x hn with h | h
  · exact Or.inl h
  · exact Or.inr h.1
def mp_ins (op a b : Int32) (v : SY) : Prop := (mp_ok op a b ∧ (∀ post : Int32 → Prop, post 1 → wpX_isInstruction post op a b) ∧ (∀ post : Int32 → Prop, post 1 → wpY_first post v op a) ∧ (∀ post : Int32 → Prop, post 1 → wpY_second post v op b)) ∨ ((∀ post : Int32 → Prop, post 0 → wpX_isInstruction post op a b) ∧ ((∀ post : Int32 → Prop, post 0 → wpY_first post v op a) ∨ ((∀ post : Int32 → Prop, post 1 → wpY_first post v op a) ∧ (∀ post : Int32 → Prop, post 0 → wpY_second post v op b))))
theorem mp_ins0 (a b : Int32) : mp_ins 0 a b (dl, qn, yc, tm, tc, yn, md, lo, en, yo, ya, yb, yl, cu, ag, dO, dA, dB, st, rg, pl, yv, yr, tr, yt, yi, mc, yk, ym, wt, li, ye, qu, yd, ys, yz, ti) := by
  rcases mp_blt a (n := 4) (by omega) with ha | ha
  · exact Or.inl ⟨Or.inl ⟨by decide, ha⟩, fun post h => (br_f (by decide) (br_f (by decide) (br_t rfl (by unfold wX_isInstruction_88; exact mx_n_t (n := 4) (by omega) ha h)))), fun post h => (br_f (by decide) (br_f (by decide) (br_f (by decide) (br_f (by decide) (br_f (by decide) (my_b_t (n := 4) (by omega) ha h)))))), fun post h => br_t (by decide) h⟩
  · exact Or.inr ⟨fun post h => (br_f (by decide) (br_f (by decide) (br_t rfl (by unfold wX_isInstruction_88; exact mx_n_f (n := 4) ha h)))), Or.inl (fun post h => (br_f (by decide) (br_f (by decide) (br_f (by decide) (br_f (by decide) (br_f (by decide) (my_b_f (n := 4) ha h)))))))⟩
theorem mp_ins1 (a b : Int32) : mp_ins 1 a b (dl, qn, yc, tm, tc, yn, md, lo, en, yo, ya, yb, yl, cu, ag, dO, dA, dB, st, rg, pl, yv, yr, tr, yt, yi, mc, yk, ym, wt, li, ye, qu, yd, ys, yz, ti) := by
  rcases mp_blt a (n := 4) (by omega) with ha | ha
  · rcases mp_blt b (n := 4) (by omega) with hb | hb
    · exact Or.inl ⟨Or.inr (Or.inl ⟨by decide, ha, hb⟩), fun post h => (br_f (by decide) (br_f (by decide) (br_f (by decide) (br_t rfl (by unfold wX_isInstruction_94; exact mx_2_t (n := 4) (m := 4) (by omega) (by omega) ha hb h))))), fun post h => (br_f (by decide) (br_f (by decide) (br_f (by decide) (br_f (by decide) (br_f (by decide) (my_b_t (n := 4) (by omega) ha h)))))), fun post h => (br_f (by decide) (br_f (by decide) (br_t rfl (by unfold wY_second_76; exact my_n_t (n := 4) (by omega) hb h))))⟩
    · exact Or.inr ⟨fun post h => (br_f (by decide) (br_f (by decide) (br_f (by decide) (br_t rfl (by unfold wX_isInstruction_94; exact mx_2_fb (n := 4) (m := 4) (by omega) ha hb h))))), Or.inr ⟨fun post h => (br_f (by decide) (br_f (by decide) (br_f (by decide) (br_f (by decide) (br_f (by decide) (my_b_t (n := 4) (by omega) ha h)))))), fun post h => (br_f (by decide) (br_f (by decide) (br_t rfl (by unfold wY_second_76; exact my_n_f (n := 4) hb h))))⟩⟩
  · exact Or.inr ⟨fun post h => (br_f (by decide) (br_f (by decide) (br_f (by decide) (br_t rfl (by unfold wX_isInstruction_94; exact mx_2_fa (n := 4) (m := 4) ha h))))), Or.inl (fun post h => (br_f (by decide) (br_f (by decide) (br_f (by decide) (br_f (by decide) (br_f (by decide) (my_b_f (n := 4) ha h)))))))⟩
theorem mp_ins2 (a b : Int32) : mp_ins 2 a b (dl, qn, yc, tm, tc, yn, md, lo, en, yo, ya, yb, yl, cu, ag, dO, dA, dB, st, rg, pl, yv, yr, tr, yt, yi, mc, yk, ym, wt, li, ye, qu, yd, ys, yz, ti) := by
  rcases mp_blt a (n := 4) (by omega) with ha | ha
  · rcases mp_blt b (n := 4) (by omega) with hb | hb
    · exact Or.inl ⟨Or.inr (Or.inl ⟨by decide, ha, hb⟩), fun post h => (br_f (by decide) (br_f (by decide) (br_f (by decide) (br_f (by decide) (br_t rfl (by unfold wX_isInstruction_94; exact mx_2_t (n := 4) (m := 4) (by omega) (by omega) ha hb h)))))), fun post h => (br_f (by decide) (br_f (by decide) (br_f (by decide) (br_f (by decide) (br_f (by decide) (my_b_t (n := 4) (by omega) ha h)))))), fun post h => (br_f (by decide) (br_f (by decide) (br_f (by decide) (br_t rfl (by unfold wY_second_76; exact my_n_t (n := 4) (by omega) hb h)))))⟩
    · exact Or.inr ⟨fun post h => (br_f (by decide) (br_f (by decide) (br_f (by decide) (br_f (by decide) (br_t rfl (by unfold wX_isInstruction_94; exact mx_2_fb (n := 4) (m := 4) (by omega) ha hb h)))))), Or.inr ⟨fun post h => (br_f (by decide) (br_f (by decide) (br_f (by decide) (br_f (by decide) (br_f (by decide) (my_b_t (n := 4) (by omega) ha h)))))), fun post h => (br_f (by decide) (br_f (by decide) (br_f (by decide) (br_t rfl (by unfold wY_second_76; exact my_n_f (n := 4) hb h)))))⟩⟩
  · exact Or.inr ⟨fun post h => (br_f (by decide) (br_f (by decide) (br_f (by decide) (br_f (by decide) (br_t rfl (by unfold wX_isInstruction_94; exact mx_2_fa (n := 4) (m := 4) ha h)))))), Or.inl (fun post h => (br_f (by decide) (br_f (by decide) (br_f (by decide) (br_f (by decide) (br_f (by decide) (my_b_f (n := 4) ha h)))))))⟩
theorem mp_ins3 (a b : Int32) : mp_ins 3 a b (dl, qn, yc, tm, tc, yn, md, lo, en, yo, ya, yb, yl, cu, ag, dO, dA, dB, st, rg, pl, yv, yr, tr, yt, yi, mc, yk, ym, wt, li, ye, qu, yd, ys, yz, ti) := by
  rcases mp_blt a (n := 4) (by omega) with ha | ha
  · rcases mp_blt b (n := 4) (by omega) with hb | hb
    · exact Or.inl ⟨Or.inr (Or.inl ⟨by decide, ha, hb⟩), fun post h => (br_f (by decide) (br_f (by decide) (br_f (by decide) (br_f (by decide) (br_f (by decide) (br_t rfl (by unfold wX_isInstruction_94; exact mx_2_t (n := 4) (m := 4) (by omega) (by omega) ha hb h))))))), fun post h => (br_f (by decide) (br_f (by decide) (br_f (by decide) (br_f (by decide) (br_f (by decide) (my_b_t (n := 4) (by omega) ha h)))))), fun post h => (br_f (by decide) (br_f (by decide) (br_f (by decide) (br_f (by decide) (br_t rfl (by unfold wY_second_76; exact my_n_t (n := 4) (by omega) hb h))))))⟩
    · exact Or.inr ⟨fun post h => (br_f (by decide) (br_f (by decide) (br_f (by decide) (br_f (by decide) (br_f (by decide) (br_t rfl (by unfold wX_isInstruction_94; exact mx_2_fb (n := 4) (m := 4) (by omega) ha hb h))))))), Or.inr ⟨fun post h => (br_f (by decide) (br_f (by decide) (br_f (by decide) (br_f (by decide) (br_f (by decide) (my_b_t (n := 4) (by omega) ha h)))))), fun post h => (br_f (by decide) (br_f (by decide) (br_f (by decide) (br_f (by decide) (br_t rfl (by unfold wY_second_76; exact my_n_f (n := 4) hb h))))))⟩⟩
  · exact Or.inr ⟨fun post h => (br_f (by decide) (br_f (by decide) (br_f (by decide) (br_f (by decide) (br_f (by decide) (br_t rfl (by unfold wX_isInstruction_94; exact mx_2_fa (n := 4) (m := 4) ha h))))))), Or.inl (fun post h => (br_f (by decide) (br_f (by decide) (br_f (by decide) (br_f (by decide) (br_f (by decide) (my_b_f (n := 4) ha h)))))))⟩
theorem mp_ins4 (a b : Int32) : mp_ins 4 a b (dl, qn, yc, tm, tc, yn, md, lo, en, yo, ya, yb, yl, cu, ag, dO, dA, dB, st, rg, pl, yv, yr, tr, yt, yi, mc, yk, ym, wt, li, ye, qu, yd, ys, yz, ti) := by
  rcases mp_blt a (n := 24) (by omega) with ha | ha
  · exact Or.inl ⟨Or.inr (Or.inr (Or.inl ⟨rfl, ha⟩)), fun post h => (br_f (by decide) (br_f (by decide) (br_f (by decide) (br_f (by decide) (br_f (by decide) (br_f (by decide) (br_t rfl (by exact mx_n_t (n := 24) (by omega) ha h)))))))), fun post h => (br_t rfl (my_n_t (n := 24) (by omega) ha h)), fun post h => (br_f (by decide) (br_f (by decide) (br_f (by decide) (br_f (by decide) (br_f (by decide) (br_t rfl h))))))⟩
  · exact Or.inr ⟨fun post h => (br_f (by decide) (br_f (by decide) (br_f (by decide) (br_f (by decide) (br_f (by decide) (br_f (by decide) (br_t rfl (by exact mx_n_f (n := 24) ha h)))))))), Or.inl (fun post h => (br_t rfl (my_n_f (n := 24) ha h)))⟩
theorem mp_ins5 (a b : Int32) : mp_ins 5 a b (dl, qn, yc, tm, tc, yn, md, lo, en, yo, ya, yb, yl, cu, ag, dO, dA, dB, st, rg, pl, yv, yr, tr, yt, yi, mc, yk, ym, wt, li, ye, qu, yd, ys, yz, ti) := by
  rcases mp_blt a (n := 4) (by omega) with ha | ha
  · rcases mp_blt b (n := 24) (by omega) with hb | hb
    · exact Or.inl ⟨Or.inr (Or.inr (Or.inr (Or.inl ⟨rfl, ha, hb⟩))), fun post h => (br_f (by decide) (br_f (by decide) (br_f (by decide) (br_f (by decide) (br_f (by decide) (br_f (by decide) (br_f (by decide) (br_t rfl (by exact mx_2_t (n := 4) (m := 24) (by omega) (by omega) ha hb h))))))))), fun post h => (br_f (by decide) (br_f (by decide) (br_f (by decide) (br_f (by decide) (br_f (by decide) (my_b_t (n := 4) (by omega) ha h)))))), fun post h => (br_f (by decide) (br_f (by decide) (br_f (by decide) (br_f (by decide) (br_f (by decide) (br_f (by decide) (br_t rfl (by exact my_n_t (n := 24) (by omega) hb h))))))))⟩
    · exact Or.inr ⟨fun post h => (br_f (by decide) (br_f (by decide) (br_f (by decide) (br_f (by decide) (br_f (by decide) (br_f (by decide) (br_f (by decide) (br_t rfl (by exact mx_2_fb (n := 4) (m := 24) (by omega) ha hb h))))))))), Or.inr ⟨fun post h => (br_f (by decide) (br_f (by decide) (br_f (by decide) (br_f (by decide) (br_f (by decide) (my_b_t (n := 4) (by omega) ha h)))))), fun post h => (br_f (by decide) (br_f (by decide) (br_f (by decide) (br_f (by decide) (br_f (by decide) (br_f (by decide) (br_t rfl (by exact my_n_f (n := 24) hb h))))))))⟩⟩
  · exact Or.inr ⟨fun post h => (br_f (by decide) (br_f (by decide) (br_f (by decide) (br_f (by decide) (br_f (by decide) (br_f (by decide) (br_f (by decide) (br_t rfl (by exact mx_2_fa (n := 4) (m := 24) ha h))))))))), Or.inl (fun post h => (br_f (by decide) (br_f (by decide) (br_f (by decide) (br_f (by decide) (br_f (by decide) (my_b_f (n := 4) ha h)))))))⟩
theorem mp_ins6 (a b : Int32) : mp_ins 6 a b (dl, qn, yc, tm, tc, yn, md, lo, en, yo, ya, yb, yl, cu, ag, dO, dA, dB, st, rg, pl, yv, yr, tr, yt, yi, mc, yk, ym, wt, li, ye, qu, yd, ys, yz, ti) := by
  rcases mp_blt a (n := 4) (by omega) with ha | ha
  · rcases mp_blt b (n := 6) (by omega) with hb | hb
    · exact Or.inl ⟨Or.inr (Or.inr (Or.inr (Or.inr (Or.inl ⟨rfl, ha, hb⟩)))), fun post h => (br_f (by decide) (br_f (by decide) (br_f (by decide) (br_f (by decide) (br_f (by decide) (br_f (by decide) (br_f (by decide) (br_f (by decide) (br_t rfl (by exact mx_2_t (n := 4) (m := 6) (by omega) (by omega) ha hb h)))))))))), fun post h => (br_f (by decide) (br_f (by decide) (br_f (by decide) (br_f (by decide) (br_f (by decide) (my_b_t (n := 4) (by omega) ha h)))))), fun post h => (br_f (by decide) (br_f (by decide) (br_f (by decide) (br_f (by decide) (br_f (by decide) (br_f (by decide) (br_f (by decide) (br_t rfl (by exact my_n_t (n := 6) (by omega) hb h)))))))))⟩
    · exact Or.inr ⟨fun post h => (br_f (by decide) (br_f (by decide) (br_f (by decide) (br_f (by decide) (br_f (by decide) (br_f (by decide) (br_f (by decide) (br_f (by decide) (br_t rfl (by exact mx_2_fb (n := 4) (m := 6) (by omega) ha hb h)))))))))), Or.inr ⟨fun post h => (br_f (by decide) (br_f (by decide) (br_f (by decide) (br_f (by decide) (br_f (by decide) (my_b_t (n := 4) (by omega) ha h)))))), fun post h => (br_f (by decide) (br_f (by decide) (br_f (by decide) (br_f (by decide) (br_f (by decide) (br_f (by decide) (br_f (by decide) (br_t rfl (by exact my_n_f (n := 6) hb h)))))))))⟩⟩
  · exact Or.inr ⟨fun post h => (br_f (by decide) (br_f (by decide) (br_f (by decide) (br_f (by decide) (br_f (by decide) (br_f (by decide) (br_f (by decide) (br_f (by decide) (br_t rfl (by exact mx_2_fa (n := 4) (m := 6) ha h)))))))))), Or.inl (fun post h => (br_f (by decide) (br_f (by decide) (br_f (by decide) (br_f (by decide) (br_f (by decide) (my_b_f (n := 4) ha h)))))))⟩
theorem mp_ins7 (a b : Int32) : mp_ins 7 a b (dl, qn, yc, tm, tc, yn, md, lo, en, yo, ya, yb, yl, cu, ag, dO, dA, dB, st, rg, pl, yv, yr, tr, yt, yi, mc, yk, ym, wt, li, ye, qu, yd, ys, yz, ti) := by
  rcases mp_blt a (n := 256) (by omega) with ha | ha
  · rcases mp_blt b (n := 5) (by omega) with hb | hb
    · exact Or.inl ⟨Or.inr (Or.inr (Or.inr (Or.inr (Or.inr (Or.inl ⟨rfl, ha, hb⟩))))), fun post h => (br_f (by decide) (br_f (by decide) (br_f (by decide) (br_f (by decide) (br_f (by decide) (br_f (by decide) (br_f (by decide) (br_f (by decide) (br_f (by decide) (br_t rfl (by exact mx_2_t (n := 256) (m := 5) (by omega) (by omega) ha hb h))))))))))), fun post h => (br_f (by decide) (br_t rfl (my_n_t (n := 256) (by omega) ha h))), fun post h => (br_f (by decide) (br_f (by decide) (br_f (by decide) (br_f (by decide) (br_f (by decide) (br_f (by decide) (br_f (by decide) (br_f (by decide) (br_t rfl (by exact my_n_t (n := 5) (by omega) hb h))))))))))⟩
    · exact Or.inr ⟨fun post h => (br_f (by decide) (br_f (by decide) (br_f (by decide) (br_f (by decide) (br_f (by decide) (br_f (by decide) (br_f (by decide) (br_f (by decide) (br_f (by decide) (br_t rfl (by exact mx_2_fb (n := 256) (m := 5) (by omega) ha hb h))))))))))), Or.inr ⟨fun post h => (br_f (by decide) (br_t rfl (my_n_t (n := 256) (by omega) ha h))), fun post h => (br_f (by decide) (br_f (by decide) (br_f (by decide) (br_f (by decide) (br_f (by decide) (br_f (by decide) (br_f (by decide) (br_f (by decide) (br_t rfl (by exact my_n_f (n := 5) hb h))))))))))⟩⟩
  · exact Or.inr ⟨fun post h => (br_f (by decide) (br_f (by decide) (br_f (by decide) (br_f (by decide) (br_f (by decide) (br_f (by decide) (br_f (by decide) (br_f (by decide) (br_f (by decide) (br_t rfl (by exact mx_2_fa (n := 256) (m := 5) ha h))))))))))), Or.inl (fun post h => (br_f (by decide) (br_t rfl (my_n_f (n := 256) ha h))))⟩
theorem mp_ins8 (a b : Int32) : mp_ins 8 a b (dl, qn, yc, tm, tc, yn, md, lo, en, yo, ya, yb, yl, cu, ag, dO, dA, dB, st, rg, pl, yv, yr, tr, yt, yi, mc, yk, ym, wt, li, ye, qu, yd, ys, yz, ti) := by
  rcases mp_blt a (n := 4) (by omega) with ha | ha
  · rcases mp_blt b (n := 2) (by omega) with hb | hb
    · exact Or.inl ⟨Or.inr (Or.inr (Or.inr (Or.inr (Or.inr (Or.inr (Or.inl ⟨rfl, ha, hb⟩)))))), fun post h => (br_f (by decide) (br_f (by decide) (br_f (by decide) (br_f (by decide) (br_f (by decide) (br_f (by decide) (br_f (by decide) (br_f (by decide) (br_f (by decide) (br_f (by decide) (br_t rfl (by exact mx_2_t (n := 4) (m := 2) (by omega) (by omega) ha hb h)))))))))))), fun post h => (br_f (by decide) (br_f (by decide) (br_t rfl (by unfold wY_first_40; exact my_n_t (n := 4) (by omega) ha h)))), fun post h => (br_f (by decide) (br_f (by decide) (br_f (by decide) (br_f (by decide) (br_f (by decide) (br_f (by decide) (br_f (by decide) (br_f (by decide) (br_f (by decide) (br_t rfl (by unfold wY_second_106; exact my_n_t (n := 2) (by omega) hb h)))))))))))⟩
    · exact Or.inr ⟨fun post h => (br_f (by decide) (br_f (by decide) (br_f (by decide) (br_f (by decide) (br_f (by decide) (br_f (by decide) (br_f (by decide) (br_f (by decide) (br_f (by decide) (br_f (by decide) (br_t rfl (by exact mx_2_fb (n := 4) (m := 2) (by omega) ha hb h)))))))))))), Or.inr ⟨fun post h => (br_f (by decide) (br_f (by decide) (br_t rfl (by unfold wY_first_40; exact my_n_t (n := 4) (by omega) ha h)))), fun post h => (br_f (by decide) (br_f (by decide) (br_f (by decide) (br_f (by decide) (br_f (by decide) (br_f (by decide) (br_f (by decide) (br_f (by decide) (br_f (by decide) (br_t rfl (by unfold wY_second_106; exact my_n_f (n := 2) hb h)))))))))))⟩⟩
  · exact Or.inr ⟨fun post h => (br_f (by decide) (br_f (by decide) (br_f (by decide) (br_f (by decide) (br_f (by decide) (br_f (by decide) (br_f (by decide) (br_f (by decide) (br_f (by decide) (br_f (by decide) (br_t rfl (by exact mx_2_fa (n := 4) (m := 2) ha h)))))))))))), Or.inl (fun post h => (br_f (by decide) (br_f (by decide) (br_t rfl (by unfold wY_first_40; exact my_n_f (n := 4) ha h)))))⟩
theorem mp_ins9 (a b : Int32) : mp_ins 9 a b (dl, qn, yc, tm, tc, yn, md, lo, en, yo, ya, yb, yl, cu, ag, dO, dA, dB, st, rg, pl, yv, yr, tr, yt, yi, mc, yk, ym, wt, li, ye, qu, yd, ys, yz, ti) := by
  rcases mp_blt a (n := 4) (by omega) with ha | ha
  · exact Or.inl ⟨Or.inl ⟨by decide, ha⟩, fun post h => (br_f (by decide) (br_f (by decide) (br_f (by decide) (br_f (by decide) (br_f (by decide) (br_f (by decide) (br_f (by decide) (br_f (by decide) (br_f (by decide) (br_f (by decide) (br_f (by decide) (br_t rfl (by unfold wX_isInstruction_88; exact mx_n_t (n := 4) (by omega) ha h))))))))))))), fun post h => (br_f (by decide) (br_f (by decide) (br_f (by decide) (br_f (by decide) (br_f (by decide) (my_b_t (n := 4) (by omega) ha h)))))), fun post h => (br_f (by decide) (br_f (by decide) (br_f (by decide) (br_f (by decide) (br_f (by decide) (br_f (by decide) (br_f (by decide) (br_f (by decide) (br_f (by decide) (br_f (by decide) (br_t rfl h)))))))))))⟩
  · exact Or.inr ⟨fun post h => (br_f (by decide) (br_f (by decide) (br_f (by decide) (br_f (by decide) (br_f (by decide) (br_f (by decide) (br_f (by decide) (br_f (by decide) (br_f (by decide) (br_f (by decide) (br_f (by decide) (br_t rfl (by unfold wX_isInstruction_88; exact mx_n_f (n := 4) ha h))))))))))))), Or.inl (fun post h => (br_f (by decide) (br_f (by decide) (br_f (by decide) (br_f (by decide) (br_f (by decide) (my_b_f (n := 4) ha h)))))))⟩
theorem mp_ins10 (a b : Int32) : mp_ins 10 a b (dl, qn, yc, tm, tc, yn, md, lo, en, yo, ya, yb, yl, cu, ag, dO, dA, dB, st, rg, pl, yv, yr, tr, yt, yi, mc, yk, ym, wt, li, ye, qu, yd, ys, yz, ti) := by
  rcases mp_blt a (n := 4) (by omega) with ha | ha
  · exact Or.inl ⟨Or.inl ⟨by decide, ha⟩, fun post h => (br_f (by decide) (br_f (by decide) (br_f (by decide) (br_f (by decide) (br_f (by decide) (br_f (by decide) (br_f (by decide) (br_f (by decide) (br_f (by decide) (br_f (by decide) (br_f (by decide) (br_f (by decide) (br_t rfl (by unfold wX_isInstruction_88; exact mx_n_t (n := 4) (by omega) ha h)))))))))))))), fun post h => (br_f (by decide) (br_f (by decide) (br_f (by decide) (br_f (by decide) (br_f (by decide) (my_b_t (n := 4) (by omega) ha h)))))), fun post h => (br_f (by decide) (br_f (by decide) (br_f (by decide) (br_f (by decide) (br_f (by decide) (br_f (by decide) (br_f (by decide) (br_f (by decide) (br_f (by decide) (br_f (by decide) (br_f (by decide) (br_t rfl h))))))))))))⟩
  · exact Or.inr ⟨fun post h => (br_f (by decide) (br_f (by decide) (br_f (by decide) (br_f (by decide) (br_f (by decide) (br_f (by decide) (br_f (by decide) (br_f (by decide) (br_f (by decide) (br_f (by decide) (br_f (by decide) (br_f (by decide) (br_t rfl (by unfold wX_isInstruction_88; exact mx_n_f (n := 4) ha h)))))))))))))), Or.inl (fun post h => (br_f (by decide) (br_f (by decide) (br_f (by decide) (br_f (by decide) (br_f (by decide) (my_b_f (n := 4) ha h)))))))⟩
theorem mp_ins11 (a b : Int32) : mp_ins 11 a b (dl, qn, yc, tm, tc, yn, md, lo, en, yo, ya, yb, yl, cu, ag, dO, dA, dB, st, rg, pl, yv, yr, tr, yt, yi, mc, yk, ym, wt, li, ye, qu, yd, ys, yz, ti) := by
  rcases mp_blt a (n := 4) (by omega) with ha | ha
  · exact Or.inl ⟨Or.inl ⟨by decide, ha⟩, fun post h => (br_f (by decide) (br_f (by decide) (br_f (by decide) (br_f (by decide) (br_f (by decide) (br_f (by decide) (br_f (by decide) (br_f (by decide) (br_f (by decide) (br_f (by decide) (br_f (by decide) (br_f (by decide) (br_f (by decide) (br_t rfl (by unfold wX_isInstruction_88; exact mx_n_t (n := 4) (by omega) ha h))))))))))))))), fun post h => (br_f (by decide) (br_f (by decide) (br_f (by decide) (br_f (by decide) (br_f (by decide) (my_b_t (n := 4) (by omega) ha h)))))), fun post h => (br_f (by decide) (br_f (by decide) (br_f (by decide) (br_f (by decide) (br_f (by decide) (br_f (by decide) (br_f (by decide) (br_f (by decide) (br_f (by decide) (br_f (by decide) (br_f (by decide) (br_f (by decide) (br_t rfl h)))))))))))))⟩
  · exact Or.inr ⟨fun post h => (br_f (by decide) (br_f (by decide) (br_f (by decide) (br_f (by decide) (br_f (by decide) (br_f (by decide) (br_f (by decide) (br_f (by decide) (br_f (by decide) (br_f (by decide) (br_f (by decide) (br_f (by decide) (br_f (by decide) (br_t rfl (by unfold wX_isInstruction_88; exact mx_n_f (n := 4) ha h))))))))))))))), Or.inl (fun post h => (br_f (by decide) (br_f (by decide) (br_f (by decide) (br_f (by decide) (br_f (by decide) (my_b_f (n := 4) ha h)))))))⟩
theorem mp_ins12 (a b : Int32) : mp_ins 12 a b (dl, qn, yc, tm, tc, yn, md, lo, en, yo, ya, yb, yl, cu, ag, dO, dA, dB, st, rg, pl, yv, yr, tr, yt, yi, mc, yk, ym, wt, li, ye, qu, yd, ys, yz, ti) := by
  rcases mp_blt a (n := 4) (by omega) with ha | ha
  · exact Or.inl ⟨Or.inl ⟨by decide, ha⟩, fun post h => (br_f (by decide) (br_f (by decide) (br_f (by decide) (br_f (by decide) (br_f (by decide) (br_f (by decide) (br_f (by decide) (br_f (by decide) (br_f (by decide) (br_f (by decide) (br_f (by decide) (br_f (by decide) (br_f (by decide) (br_f (by decide) (br_t rfl (by unfold wX_isInstruction_88; exact mx_n_t (n := 4) (by omega) ha h)))))))))))))))), fun post h => (br_f (by decide) (br_f (by decide) (br_f (by decide) (br_f (by decide) (br_f (by decide) (my_b_t (n := 4) (by omega) ha h)))))), fun post h => (br_f (by decide) (br_f (by decide) (br_f (by decide) (br_f (by decide) (br_f (by decide) (br_f (by decide) (br_f (by decide) (br_f (by decide) (br_f (by decide) (br_f (by decide) (br_f (by decide) (br_f (by decide) (br_f (by decide) (br_t rfl h))))))))))))))⟩
  · exact Or.inr ⟨fun post h => (br_f (by decide) (br_f (by decide) (br_f (by decide) (br_f (by decide) (br_f (by decide) (br_f (by decide) (br_f (by decide) (br_f (by decide) (br_f (by decide) (br_f (by decide) (br_f (by decide) (br_f (by decide) (br_f (by decide) (br_f (by decide) (br_t rfl (by unfold wX_isInstruction_88; exact mx_n_f (n := 4) ha h)))))))))))))))), Or.inl (fun post h => (br_f (by decide) (br_f (by decide) (br_f (by decide) (br_f (by decide) (br_f (by decide) (my_b_f (n := 4) ha h)))))))⟩
theorem mp_ins13 (a b : Int32) : mp_ins 13 a b (dl, qn, yc, tm, tc, yn, md, lo, en, yo, ya, yb, yl, cu, ag, dO, dA, dB, st, rg, pl, yv, yr, tr, yt, yi, mc, yk, ym, wt, li, ye, qu, yd, ys, yz, ti) := by
  rcases mp_blt a (n := 4) (by omega) with ha | ha
  · rcases mp_blt b (n := 4) (by omega) with hb | hb
    · exact Or.inl ⟨Or.inr (Or.inl ⟨by decide, ha, hb⟩), fun post h => (br_f (by decide) (br_f (by decide) (br_f (by decide) (br_f (by decide) (br_f (by decide) (br_f (by decide) (br_f (by decide) (br_f (by decide) (br_f (by decide) (br_f (by decide) (br_f (by decide) (br_f (by decide) (br_f (by decide) (br_f (by decide) (br_f (by decide) (br_t rfl (by unfold wX_isInstruction_94; exact mx_2_t (n := 4) (m := 4) (by omega) (by omega) ha hb h))))))))))))))))), fun post h => (br_f (by decide) (br_f (by decide) (br_f (by decide) (br_f (by decide) (br_f (by decide) (my_b_t (n := 4) (by omega) ha h)))))), fun post h => (br_f (by decide) (br_f (by decide) (br_f (by decide) (br_f (by decide) (br_f (by decide) (br_f (by decide) (br_f (by decide) (br_f (by decide) (br_f (by decide) (br_f (by decide) (br_f (by decide) (br_f (by decide) (br_f (by decide) (br_f (by decide) (br_t rfl (by unfold wY_second_76; exact my_n_t (n := 4) (by omega) hb h))))))))))))))))⟩
    · exact Or.inr ⟨fun post h => (br_f (by decide) (br_f (by decide) (br_f (by decide) (br_f (by decide) (br_f (by decide) (br_f (by decide) (br_f (by decide) (br_f (by decide) (br_f (by decide) (br_f (by decide) (br_f (by decide) (br_f (by decide) (br_f (by decide) (br_f (by decide) (br_f (by decide) (br_t rfl (by unfold wX_isInstruction_94; exact mx_2_fb (n := 4) (m := 4) (by omega) ha hb h))))))))))))))))), Or.inr ⟨fun post h => (br_f (by decide) (br_f (by decide) (br_f (by decide) (br_f (by decide) (br_f (by decide) (my_b_t (n := 4) (by omega) ha h)))))), fun post h => (br_f (by decide) (br_f (by decide) (br_f (by decide) (br_f (by decide) (br_f (by decide) (br_f (by decide) (br_f (by decide) (br_f (by decide) (br_f (by decide) (br_f (by decide) (br_f (by decide) (br_f (by decide) (br_f (by decide) (br_f (by decide) (br_t rfl (by unfold wY_second_76; exact my_n_f (n := 4) hb h))))))))))))))))⟩⟩
  · exact Or.inr ⟨fun post h => (br_f (by decide) (br_f (by decide) (br_f (by decide) (br_f (by decide) (br_f (by decide) (br_f (by decide) (br_f (by decide) (br_f (by decide) (br_f (by decide) (br_f (by decide) (br_f (by decide) (br_f (by decide) (br_f (by decide) (br_f (by decide) (br_f (by decide) (br_t rfl (by unfold wX_isInstruction_94; exact mx_2_fa (n := 4) (m := 4) ha h))))))))))))))))), Or.inl (fun post h => (br_f (by decide) (br_f (by decide) (br_f (by decide) (br_f (by decide) (br_f (by decide) (my_b_f (n := 4) ha h)))))))⟩
theorem mp_ins14 (a b : Int32) : mp_ins 14 a b (dl, qn, yc, tm, tc, yn, md, lo, en, yo, ya, yb, yl, cu, ag, dO, dA, dB, st, rg, pl, yv, yr, tr, yt, yi, mc, yk, ym, wt, li, ye, qu, yd, ys, yz, ti) := by
  rcases mp_blt a (n := 4) (by omega) with ha | ha
  · exact Or.inl ⟨Or.inl ⟨by decide, ha⟩, fun post h => (br_f (by decide) (br_f (by decide) (br_f (by decide) (br_f (by decide) (br_f (by decide) (br_f (by decide) (br_f (by decide) (br_f (by decide) (br_f (by decide) (br_f (by decide) (br_f (by decide) (br_f (by decide) (br_f (by decide) (br_f (by decide) (br_f (by decide) (br_f (by decide) (br_t rfl (by unfold wX_isInstruction_88; exact mx_n_t (n := 4) (by omega) ha h)))))))))))))))))), fun post h => (br_f (by decide) (br_f (by decide) (br_f (by decide) (br_f (by decide) (br_f (by decide) (my_b_t (n := 4) (by omega) ha h)))))), fun post h => (br_f (by decide) (br_f (by decide) (br_f (by decide) (br_f (by decide) (br_f (by decide) (br_f (by decide) (br_f (by decide) (br_f (by decide) (br_f (by decide) (br_f (by decide) (br_f (by decide) (br_f (by decide) (br_f (by decide) (br_f (by decide) (br_f (by decide) (br_t rfl h))))))))))))))))⟩
  · exact Or.inr ⟨fun post h => (br_f (by decide) (br_f (by decide) (br_f (by decide) (br_f (by decide) (br_f (by decide) (br_f (by decide) (br_f (by decide) (br_f (by decide) (br_f (by decide) (br_f (by decide) (br_f (by decide) (br_f (by decide) (br_f (by decide) (br_f (by decide) (br_f (by decide) (br_f (by decide) (br_t rfl (by unfold wX_isInstruction_88; exact mx_n_f (n := 4) ha h)))))))))))))))))), Or.inl (fun post h => (br_f (by decide) (br_f (by decide) (br_f (by decide) (br_f (by decide) (br_f (by decide) (my_b_f (n := 4) ha h)))))))⟩
theorem mp_ins15 (a b : Int32) : mp_ins 15 a b (dl, qn, yc, tm, tc, yn, md, lo, en, yo, ya, yb, yl, cu, ag, dO, dA, dB, st, rg, pl, yv, yr, tr, yt, yi, mc, yk, ym, wt, li, ye, qu, yd, ys, yz, ti) := by
  rcases mp_blt b (n := 2) (by omega) with hb | hb
  · exact Or.inl ⟨Or.inr (Or.inr (Or.inr (Or.inr (Or.inr (Or.inr (Or.inr (Or.inl ⟨rfl, hb⟩))))))), fun post h => (br_f (by decide) (br_f (by decide) (br_f (by decide) (br_f (by decide) (br_f (by decide) (br_f (by decide) (br_f (by decide) (br_f (by decide) (br_f (by decide) (br_f (by decide) (br_f (by decide) (br_f (by decide) (br_f (by decide) (br_f (by decide) (br_f (by decide) (br_f (by decide) (br_f (by decide) (br_t rfl (by exact mx_n_t (n := 2) (by omega) hb h))))))))))))))))))), fun post h => (br_f (by decide) (br_f (by decide) (br_f (by decide) (br_f (by decide) (br_t rfl h))))), fun post h => (br_f (by decide) (br_f (by decide) (br_f (by decide) (br_f (by decide) (br_f (by decide) (br_f (by decide) (br_f (by decide) (br_f (by decide) (br_f (by decide) (br_f (by decide) (br_f (by decide) (br_f (by decide) (br_f (by decide) (br_f (by decide) (br_f (by decide) (br_f (by decide) (br_t rfl (by unfold wY_second_106; exact my_n_t (n := 2) (by omega) hb h))))))))))))))))))⟩
  · exact Or.inr ⟨fun post h => (br_f (by decide) (br_f (by decide) (br_f (by decide) (br_f (by decide) (br_f (by decide) (br_f (by decide) (br_f (by decide) (br_f (by decide) (br_f (by decide) (br_f (by decide) (br_f (by decide) (br_f (by decide) (br_f (by decide) (br_f (by decide) (br_f (by decide) (br_f (by decide) (br_f (by decide) (br_t rfl (by exact mx_n_f (n := 2) hb h))))))))))))))))))), Or.inr ⟨fun post h => (br_f (by decide) (br_f (by decide) (br_f (by decide) (br_f (by decide) (br_t rfl h))))), fun post h => (br_f (by decide) (br_f (by decide) (br_f (by decide) (br_f (by decide) (br_f (by decide) (br_f (by decide) (br_f (by decide) (br_f (by decide) (br_f (by decide) (br_f (by decide) (br_f (by decide) (br_f (by decide) (br_f (by decide) (br_f (by decide) (br_f (by decide) (br_f (by decide) (br_t rfl (by unfold wY_second_106; exact my_n_f (n := 2) hb h))))))))))))))))))⟩⟩
theorem mp_ins16 (a b : Int32) : mp_ins 16 a b (dl, qn, yc, tm, tc, yn, md, lo, en, yo, ya, yb, yl, cu, ag, dO, dA, dB, st, rg, pl, yv, yr, tr, yt, yi, mc, yk, ym, wt, li, ye, qu, yd, ys, yz, ti) := by
  rcases mp_blt a (n := 4) (by omega) with ha | ha
  · exact Or.inl ⟨Or.inr (Or.inr (Or.inr (Or.inr (Or.inr (Or.inr (Or.inr (Or.inr (⟨rfl, ha⟩)))))))), fun post h => (br_f (by decide) (br_f (by decide) (br_f (by decide) (br_f (by decide) (br_f (by decide) (br_f (by decide) (br_f (by decide) (br_f (by decide) (br_f (by decide) (br_f (by decide) (br_f (by decide) (br_f (by decide) (br_f (by decide) (br_f (by decide) (br_f (by decide) (br_f (by decide) (br_f (by decide) (br_f (by decide) (br_t rfl (by exact mx_n_t (n := 4) (by omega) ha h)))))))))))))))))))), fun post h => (br_f (by decide) (br_f (by decide) (br_f (by decide) (br_t rfl (by unfold wY_first_40; exact my_n_t (n := 4) (by omega) ha h))))), fun post h => br_f (by decide) (br_t (by decide) h)⟩
  · exact Or.inr ⟨fun post h => (br_f (by decide) (br_f (by decide) (br_f (by decide) (br_f (by decide) (br_f (by decide) (br_f (by decide) (br_f (by decide) (br_f (by decide) (br_f (by decide) (br_f (by decide) (br_f (by decide) (br_f (by decide) (br_f (by decide) (br_f (by decide) (br_f (by decide) (br_f (by decide) (br_f (by decide) (br_f (by decide) (br_t rfl (by exact mx_n_f (n := 4) ha h)))))))))))))))))))), Or.inl (fun post h => (br_f (by decide) (br_f (by decide) (br_f (by decide) (br_t rfl (by unfold wY_first_40; exact my_n_f (n := 4) ha h))))))⟩
theorem mp_ins17 (a b : Int32) : mp_ins 17 a b (dl, qn, yc, tm, tc, yn, md, lo, en, yo, ya, yb, yl, cu, ag, dO, dA, dB, st, rg, pl, yv, yr, tr, yt, yi, mc, yk, ym, wt, li, ye, qu, yd, ys, yz, ti) := by
  rcases mp_blt a (n := 4) (by omega) with ha | ha
  · exact Or.inl ⟨Or.inl ⟨by decide, ha⟩, fun post h => (br_f (by decide) (br_f (by decide) (br_f (by decide) (br_f (by decide) (br_f (by decide) (br_f (by decide) (br_f (by decide) (br_f (by decide) (br_f (by decide) (br_f (by decide) (br_f (by decide) (br_f (by decide) (br_f (by decide) (br_f (by decide) (br_f (by decide) (br_f (by decide) (br_f (by decide) (br_f (by decide) (br_f (by decide) (br_t rfl (by unfold wX_isInstruction_88; exact mx_n_t (n := 4) (by omega) ha h))))))))))))))))))))), fun post h => (br_f (by decide) (br_f (by decide) (br_f (by decide) (br_f (by decide) (br_f (by decide) (my_b_t (n := 4) (by omega) ha h)))))), fun post h => br_f (by decide) (br_t (by decide) h)⟩
  · exact Or.inr ⟨fun post h => (br_f (by decide) (br_f (by decide) (br_f (by decide) (br_f (by decide) (br_f (by decide) (br_f (by decide) (br_f (by decide) (br_f (by decide) (br_f (by decide) (br_f (by decide) (br_f (by decide) (br_f (by decide) (br_f (by decide) (br_f (by decide) (br_f (by decide) (br_f (by decide) (br_f (by decide) (br_f (by decide) (br_f (by decide) (br_t rfl (by unfold wX_isInstruction_88; exact mx_n_f (n := 4) ha h))))))))))))))))))))), Or.inl (fun post h => (br_f (by decide) (br_f (by decide) (br_f (by decide) (br_f (by decide) (br_f (by decide) (my_b_f (n := 4) ha h)))))))⟩
theorem mp_insA {o : Nat} (ho : o < 18) (a b : Int32) : mp_ins (nI o) a b (dl, qn, yc, tm, tc, yn, md, lo, en, yo, ya, yb, yl, cu, ag, dO, dA, dB, st, rg, pl, yv, yr, tr, yt, yi, mc, yk, ym, wt, li, ye, qu, yd, ys, yz, ti) := by
  have h : o = 0 ∨ o = 1 ∨ o = 2 ∨ o = 3 ∨ o = 4 ∨ o = 5 ∨ o = 6 ∨ o = 7 ∨ o = 8 ∨ o = 9 ∨ o = 10 ∨ o = 11 ∨ o = 12 ∨ o = 13 ∨ o = 14 ∨ o = 15 ∨ o = 16 ∨ o = 17 := by omega
  rcases h with rfl | rfl | rfl | rfl | rfl | rfl | rfl | rfl | rfl | rfl | rfl | rfl | rfl | rfl | rfl | rfl | rfl | rfl
  · exact mp_ins0 a b
  · exact mp_ins1 a b
  · exact mp_ins2 a b
  · exact mp_ins3 a b
  · exact mp_ins4 a b
  · exact mp_ins5 a b
  · exact mp_ins6 a b
  · exact mp_ins7 a b
  · exact mp_ins8 a b
  · exact mp_ins9 a b
  · exact mp_ins10 a b
  · exact mp_ins11 a b
  · exact mp_ins12 a b
  · exact mp_ins13 a b
  · exact mp_ins14 a b
  · exact mp_ins15 a b
  · exact mp_ins16 a b
  · exact mp_ins17 a b
end
end
section
section
variable {dl xc tc tm xn md lo en qn yc yn : Int32} {nt : Int64} {dO dA dB xo xa xb xl st xr rg xv pl tr xk xm wt xw xt xi mc xe xz ti yo ya yb yl cu ag yv yr yt yi yk ym li ye qu yd ys yz : Nat → Int32} {tk : Nat → Int64} {run i p : Nat} {T C : Int} {G : Nat → Int32 → Prop}
/-! load -/
theorem mp_load {m n : Nat} (h : (mp_D (nI n) dO dA dB ∧ mp_C xo xa xb xl yo ya yb yl cu ∧ mp_V st xv yv xl cu ∧ mp_P st pl ∧ mp_S st ∧ mp_M st mc xt xi yt yi ∧ mp_K st xk yk ∧ mp_K st xm ym ∧ mp_W st xw li ye tm ∧ mp_T tm tc ti T ∧ mp_Q st tk nt 8 qu qn ∧ mp_E st xr yr ∧ mp_Z 0 st xr xe xz 0 yd ys yz 0 ∧ mp_F st nt C ∧ mp_G (fun _ _ => True) st xv yz)) (hm4 : m < 4) (hn0 : 0 < n) (hn : n ≤ 24) : ∃ (r : Int32) (dl' : Int32) (xo' xa' xb' yo' ya' yb' xl' yl' cu' xv' ag' : Nat → Int32), (∀ post : Int32 → SX → Prop, post r (dl', nt, 0, tc, tm, xn, md, lo, en, dO, dA, dB, xo', xa', xb', xl', st, xr, rg, xv', pl, tr, xk, xm, wt, xw, xt, xi, mc, tk, xe, xz, ti) → wpX_load post (nI n, nt, 0, tc, tm, xn, md, lo, en, dO, dA, dB, xo, xa, xb, xl, st, xr, rg, xv, pl, tr, xk, xm, wt, xw, xt, xi, mc, tk, xe, xz, ti) (nI m)) ∧ (∀ post : Int32 → SY → Prop, post r (dl', qn, 0, tm, tc, yn, md, lo, en, yo', ya', yb', yl', cu', ag', dO, dA, dB, st, rg, pl, yv, yr, tr, yt, yi, mc, yk, ym, wt, li, ye, qu, yd, ys, yz, ti) → wpY_load post (nI n, qn, 0, tm, tc, yn, md, lo, en, yo, ya, yb, yl, cu, ag, dO, dA, dB, st, rg, pl, yv, yr, tr, yt, yi, mc, yk, ym, wt, li, ye, qu, yd, ys, yz, ti) (nI m)) ∧ (mp_D dl' dO dA dB ∧ mp_C xo' xa' xb' xl' yo' ya' yb' yl' cu' ∧ mp_V st xv' yv xl' cu' ∧ mp_P st pl ∧ mp_S st ∧ mp_M st mc xt xi yt yi ∧ mp_K st xk yk ∧ mp_K st xm ym ∧ mp_W st xw li ye tm ∧ mp_T tm tc ti T ∧ mp_Q st tk nt 8 qu qn ∧ mp_E st xr yr ∧ mp_Z 0 st xr xe xz 0 yd ys yz 0 ∧ mp_F st nt C ∧ mp_G (fun _ _ => True) st xv' yz) := by
  have hh := h
  obtain ⟨hD, hC, hV, hP, hS, hM, hK, hm, hW, hT, hQ, hE, hZ, hF, hG⟩ := h
  have dn0 : ¬ nI n = 0 := nI_ne0 hn0 (by omega)
  have cm := nI_clamp (n := m) (by omega)
  have Im := vp_in_nI (n := m) (N := 4) hm4 (by omega)
  rcases mp_first (fun q => mp_al st q ∧ xv q = nI (2 * m + 1)) 8 with hno | ⟨q0, hq0, hB, hlow⟩
  · obtain ⟨c', hc', cz⟩ : ∃ c', ((cu m = 0 ∧ c' = 1) ∨ (cu m ≠ 0 ∧ c' = 0)) ∧ c' < 2 := by
      by_cases z : cu m = 0
      · exact ⟨1, Or.inl ⟨z, rfl⟩, by omega⟩
      · exact ⟨0, Or.inr ⟨z, rfl⟩, by omega⟩
    have c2 := nI_clamp (n := 2 * m) (by omega)
    have I2 := vp_in_nI (n := 2 * m) (N := 8) (by omega) (by omega)
    have c3 := nI_clamp (n := 2 * m + 1) (by omega)
    have I3 := vp_in_nI (n := 2 * m + 1) (N := 8) (by omega) (by omega)
    obtain ⟨xo', xa', xb', s1, s2, s3, hX31⟩ := mx_ld_l (dl := nI n) (nt := nt) (xc := 0) (tc := tc) (tm := tm) (xn := xn) (md := md) (lo := lo) (en := en) (dO := dO) (dA := dA) (dB := dB) (xl := xl) (st := st) (xr := xr) (rg := rg) (xv := xv) (pl := pl) (tr := tr) (xk := xk) (xm := xm) (wt := wt) (xw := xw) (xt := xt) (xi := xi) (mc := mc) (tk := tk) (xe := xe) (xz := xz) (ti := ti) hm4 24 0 rfl xo xa xb
    obtain ⟨xv', sv, hX170⟩ := mx_ldv_l (dl := 0) (nt := nt) (xc := 0) (tc := tc) (tm := tm) (xn := xn) (md := md) (lo := lo) (en := en) (dO := dO) (dA := dA) (dB := dB) (xo := xo') (xa := xa') (xb := xb') (xl := upd (upd xl (2 * m + 1) (xl (2 * m))) (2 * m) (nI n)) (st := st) (xr := xr) (rg := rg) (pl := pl) (tr := tr) (xk := xk) (xm := xm) (wt := wt) (xw := xw) (xt := xt) (xi := xi) (mc := mc) (tk := tk) (xe := xe) (xz := xz) (ti := ti) hm4 8 0 rfl xv
    obtain ⟨ag', hY62⟩ : ∃ ag' : Nat → Int32, ∀ post : Int32 → SY → Prop, wY_load_82 post (nI m) (nI c') (nI m) (nI n) qn 0 tm tc yn md lo en yo ya yb yl cu ag' dO dA dB st rg pl yv yr tr yt yi mc yk ym wt li ye qu yd ys yz ti → ∀ k, wY_load_20 post (nI m) (nI n) qn 0 tm tc yn md lo en yo ya yb yl cu ag dO dA dB st rg pl yv yr tr yt yi mc yk ym wt li ye qu yd ys yz ti (k + 1) (nI 8) := by
      have w62 : ∀ (post : Int32 → SY → Prop) (z0 : Int32), wY_load_82 post (nI m) (nI c') (nI m) (nI n) qn 0 tm tc yn md lo en yo ya yb yl cu (upd ag m (vp_nar .boolean z0)) dO dA dB st rg pl yv yr tr yt yi mc yk ym wt li ye qu yd ys yz ti → wY_load_62 post (nI m) z0 (nI m) (nI n) qn 0 tm tc yn md lo en yo ya yb yl cu ag dO dA dB st rg pl yv yr tr yt yi mc yk ym wt li ye qu yd ys yz ti := fun post z0 w => by
        unfold wY_load_62
        rw [cm]
        refine ⟨Im, nm_e ⟨Im, ?_⟩⟩
        rcases hc' with ⟨z, rfl⟩ | ⟨z, rfl⟩
        · exact br_t z w
        · exact br_f z w
      by_cases neg : cu m < 0
      · refine ⟨upd ag m (vp_nar .boolean 0), fun post w k => br_t (nI_le (b := 8) (Nat.le_refl 8) (by omega)) (And.intro Im ?_)⟩
        rw [cm]
        exact br_t neg (w62 post 0 w)
      · refine ⟨upd ag m (vp_nar .boolean 1), fun post w k => br_t (nI_le (b := 8) (Nat.le_refl 8) (by omega)) (And.intro Im ?_)⟩
        rw [cm]
        exact br_f neg (w62 post 1 w)
    obtain ⟨yo', ya', yb', t1, t2, t3, hY96⟩ := my_ld_l (v := 2 * m + c') (qn := qn) (yc := 0) (tm := tm) (tc := tc) (yn := yn) (md := md) (lo := lo) (en := en) (yl := yl) (cu := upd cu m (nI c')) (ag := ag') (dO := dO) (dA := dA) (dB := dB) (st := st) (rg := rg) (pl := pl) (yv := yv) (yr := yr) (tr := tr) (yt := yt) (yi := yi) (mc := mc) (yk := yk) (ym := ym) (wt := wt) (li := li) (ye := ye) (qu := qu) (yd := yd) (ys := ys) (yz := yz) (ti := ti) (by omega) hn n 0 (by omega) yo ya yb
    have toLd : ∀ f f' d : Nat → Int32, mp_ldq f f' d m 0 → mp_ld f f' d m := fun f f' d w => ⟨fun i hi => w.1 i (by omega) hi, fun j hj => w.2 j (by omega)⟩
    have toLy : ∀ f f' d : Nat → Int32, mp_lyq f f' d (2 * m + c') n 0 → mp_ly f f' d (2 * m + c') n := fun f f' d w => ⟨fun k hk => w.1 k (by omega) hk, fun j hj => w.2 j (by omega)⟩
    have hR := mp_load_R (xv' := xv') hh hm4 hn0 hn (fun _ _ => trivial) (fun q hq ha z => hno q hq ⟨ha, z⟩) hc' (toLd _ _ _ s1) (toLd _ _ _ s2) (toLd _ _ _ s3) (toLy _ _ _ t1) (toLy _ _ _ t2) (toLy _ _ _ t3) (fun q hq => by
      rw [sv q hq]
      by_cases z : xv q = nI (2 * m)
      · rw [if_pos ⟨by omega, z⟩, if_pos z]
      · rw [if_neg (fun y => z y.2), if_neg z])
    refine ⟨1, 0, xo', xa', xb', yo', ya', yb', _, _, _, xv', ag', fun post hq => ?_, fun post hq => ?_, hR⟩
    · unfold wpX_load
      dsimp only
      refine mx_bel_t (n := 4) hm4 (by omega) (br_f (by decide) (br_f dn0 ?_))
      unfold wpX_isOldInUse
      refine ⟨9, mx_oiu_l hS hm4 0 (Or.inl rfl) (fun _ q hq ha z => hno q hq ⟨ha, z⟩) 8 0 rfl 0 (Or.inl rfl) (fun z => absurd z (by decide)) _ 9 (by omega) (br_t rfl (nm_r (mp_2x m) ⟨25, hX31 _ 25 (by omega) (br_t (nI_le (b := 24) (Nat.le_refl 24) (by omega)) (And.intro I2 ?_))⟩))⟩
      rw [nI_1, c2, c3]
      exact ⟨I3, nm_e ⟨I2, nm_e ⟨9, hX170 _ 9 (by omega) hq⟩⟩⟩
    · unfold wpY_load
      dsimp only
      refine my_bel_t (n := 4) hm4 (by omega) (br_f (by decide) (br_f dn0 ⟨9, my_ld20_l (xv := xv) (xl := xl) hS hV hm4 (e := 8) (by omega) hno _ (hY62 _ ?_) 8 0 rfl 9 (by omega)⟩))
      unfold wY_load_82
      rw [cm]
      exact ⟨Im, nm_e ⟨Im, nm_r (e' := nI (2 * m + c')) (by rw [pk_us, mp_2x, nI_add]) ⟨n + 1, hY96 _ _ (by omega) hq⟩⟩⟩
  · refine ⟨0, nI n, xo, xa, xb, yo, ya, yb, xl, yl, cu, xv, ag, fun post hq => ?_, fun post hq => ?_, hh⟩
    · unfold wpX_load
      dsimp only
      refine mx_bel_t (n := 4) hm4 (by omega) (br_f (by decide) (br_f dn0 ?_))
      unfold wpX_isOldInUse
      exact ⟨9, mx_oiu_l hS hm4 1 (Or.inr rfl) (fun z => absurd z (by decide)) 8 0 rfl 0 (Or.inl rfl) (fun _ => Or.inr ⟨q0, by omega, hq0, hB.1, hB.2⟩) _ 9 (by omega) (br_f (by decide) hq)⟩
    · unfold wpY_load
      dsimp only
      exact my_bel_t (n := 4) hm4 (by omega) (br_f (by decide) (br_f dn0 ⟨9, my_ld20_l (xv := xv) (xl := xl) hS hV hm4 (e := q0) (by omega) hlow _ (fun k => br_f (nI_ge (b := 8) hq0 (by omega)) (my_old hS hV hq0 hm4 (fun _ _ => br_f (by decide) hq) (fun z => absurd hB z))) q0 0 (by omega) 9 (by omega)⟩))
/-! purge -/
theorem mp_purge_l {m : Nat} (hm4 : m < 4) : ∀ d q, q + d = 8 → ∀ (cnt : Int32) (st : Nat → Int32) (tk : Nat → Int64) (nt : Int64) (qu : Nat → Int32) (qn : Int32) (mc xt xi yt yi : Nat → Int32) (lo : Int32) (xr xe xz : Nat → Int32) (xc : Int32) (yd ys yz : Nat → Int32) (yc : Int32) (xk yk xm ym yr : Nat → Int32) (en : Int32), (mp_D dl dO dA dB ∧ mp_C xo xa xb xl yo ya yb yl cu ∧ mp_V st xv yv xl cu ∧ mp_P st pl ∧ mp_S st ∧ mp_M st mc xt xi yt yi ∧ mp_K st xk yk ∧ mp_K st xm ym ∧ mp_W st xw li ye tm ∧ mp_T tm tc ti T ∧ mp_Q st tk nt 8 qu qn ∧ mp_E st xr yr ∧ mp_Z 0 st xr xe xz 0 yd ys yz 0 ∧ mp_F st nt C ∧ mp_G (fun r v => r < q → v ≠ nI (2 * m + 1)) st xv yz) → ∃ (cnt' : Int32) (ag' : Nat → Int32) (st' : Nat → Int32) (tk' : Nat → Int64) (nt' : Int64) (qu' : Nat → Int32) (qn' : Int32) (mc' xt' xi' yt' yi' : Nat → Int32) (lo' : Int32) (xr' xe' xz' : Nat → Int32) (xc' : Int32) (yd' ys' yz' : Nat → Int32) (yc' : Int32) (xk' yk' xm' ym' yr' : Nat → Int32) (en' : Int32), (∀ (post : Int32 → SX → Prop) n, d < n → post cnt' (dl, nt', 0, tc, tm, xn, md, lo', en', dO, dA, dB, xo, xa, xb, upd xl (2 * m + 1) 0, st', xr', rg, xv, pl, tr, xk', xm', wt, xw, xt', xi', mc', tk', xe', xz', ti) → wX_purge_21 post (nI (2 * m + 1)) n cnt (nI q) dl nt 0 tc tm xn md lo en dO dA dB xo xa xb xl st xr rg xv pl tr xk xm wt xw xt xi mc tk xe xz ti) ∧ (∀ (post : Int32 → SY → Prop) n, d < n → post cnt' (dl, qn', 0, tm, tc, yn, md, lo', en', yo, ya, yb, yl, cu, ag', dO, dA, dB, st', rg, pl, yv, yr', tr, yt', yi', mc', yk', ym', wt, li, ye, qu', yd', ys', yz', ti) → wY_purge_15 post (nI m) n cnt (nI q) dl qn 0 tm tc yn md lo en yo ya yb yl cu ag dO dA dB st rg pl yv yr tr yt yi mc yk ym wt li ye qu yd ys yz ti) ∧ (mp_D dl dO dA dB ∧ mp_C xo xa xb (upd xl (2 * m + 1) 0) yo ya yb yl cu ∧ mp_V st' xv yv (upd xl (2 * m + 1) 0) cu ∧ mp_P st' pl ∧ mp_S st' ∧ mp_M st' mc' xt' xi' yt' yi' ∧ mp_K st' xk' yk' ∧ mp_K st' xm' ym' ∧ mp_W st' xw li ye tm ∧ mp_T tm tc ti T ∧ mp_Q st' tk' nt' 8 qu' qn' ∧ mp_E st' xr' yr' ∧ mp_Z 0 st' xr' xe' xz' 0 yd' ys' yz' 0 ∧ mp_F st' nt' C ∧ mp_G (fun _ _ => True) st' xv yz') := by
  intro d
  have cm := nI_clamp (n := m) (by omega)
  have Im := vp_in_nI (n := m) (N := 4) hm4 (by omega)
  have c3 := nI_clamp (n := 2 * m + 1) (by omega)
  have I3 := vp_in_nI (n := 2 * m + 1) (N := 8) (by omega) (by omega)
  induction d with
  | zero =>
    intro q hq cnt st tk nt qu qn mc xt xi yt yi lo xr xe xz xc yd ys yz yc xk yk xm ym yr en h
    have e : q = 8 := by omega
    subst e
    have hz := mp_Z_none h.2.2.2.2.2.2.2.2.2.2.2.2.1
    have hR := mp_purge_R (mp_G_R h (G' := fun _ _ => True) (fun _ _ _ => trivial)) hm4 (fun p hp ha => h.2.2.2.2.2.2.2.2.2.2.2.2.2.2 p hp ha (hz.2 p hp).1 hp)
    refine ⟨cnt, upd ag m 0, st, tk, nt, qu, qn, mc, xt, xi, yt, yi, lo, xr, xe, xz, 0, yd, ys, yz, 0, xk, yk, xm, ym, yr, en, fun post n hn hq' => ?_, fun post n hn hq' => ?_, hR⟩
    · obtain ⟨k, rfl⟩ := mp_pos hn
      refine br_t (nI_le (b := 8) (Nat.le_refl 8) (by omega)) (And.intro I3 ?_)
      rw [c3]
      exact nm_e hq'
    · obtain ⟨k, rfl⟩ := mp_pos hn
      refine br_t (nI_le (b := 8) (Nat.le_refl 8) (by omega)) (And.intro Im ?_)
      rw [cm, mp_b0n]
      exact nm_e hq'
  | succ d ih =>
    intro q hq cnt st tk nt qu qn mc xt xi yt yi lo xr xe xz xc yd ys yz yc xk yk xm ym yr en h
    have hS := h.2.2.2.2.1
    have hV := h.2.2.1
    have h8 : ¬ (8 : Int32) ≤ nI q := nI_ge (b := 8) (by omega) (by omega)
    have c := nI_clamp (n := q) (by omega)
    have I := vp_in_nI (n := q) (N := 8) (by omega) (by omega)
    by_cases hB : mp_al st q ∧ xv q = nI (2 * m + 1)
    · obtain ⟨ha, hv⟩ := hB
      obtain ⟨hx, hy, h1⟩ := mp_doom_0 (reason := 8) h (by omega) ha
      obtain ⟨st', tk', nt', qu', qn', mc', xt', xi', yt', yi', lo', xr', xe', xz', xc', yd', ys', yz', yc', xk', yk', xm', ym', yr', en', hX, hY, hR⟩ := mp_settle (dl := dl) (nt := nt) (xc := nI (0 + 1)) (tc := tc) (tm := tm) (xn := xn) (md := md) (lo := lo) (en := en) (dO := dO) (dA := dA) (dB := dB) (xo := xo) (xa := xa) (xb := xb) (xl := xl) (st := st) (xr := upd xr q 8) (rg := rg) (xv := xv) (pl := pl) (tr := tr) (xk := xk) (xm := xm) (wt := wt) (xw := xw) (xt := xt) (xi := xi) (mc := mc) (tk := tk) (xe := upd xe 0 (nI q)) (xz := upd xz q 1) (ti := ti) (qn := qn) (yc := nI (0 + 1)) (yn := yn) (yo := yo) (ya := ya) (yb := yb) (yl := yl) (cu := cu) (ag := ag) (yv := yv) (yr := yr) (yt := yt) (yi := yi) (yk := yk) (ym := ym) (li := li) (ye := ye) (qu := qu) (yd := upd yd 0 (nI q)) (ys := upd ys 0 8) (yz := upd yz q 1) h1
      have hR2 := mp_G_R hR (G' := fun r v => r < q + 1 → v ≠ nI (2 * m + 1)) (fun r v z w => by
        by_cases y : r = q
        · exact absurd y z.2
        · exact z.1 (by omega))
      obtain ⟨cnt', ag', st'', tk'', nt'', qu'', qn'', mc'', xt'', xi'', yt'', yi'', lo'', xr'', xe'', xz'', xc'', yd'', ys'', yz'', yc'', xk'', yk'', xm'', ym'', yr'', en'', hX2, hY2, hR3⟩ := ih (q + 1) (by omega) (cnt + 1) st' tk' nt' qu' qn' mc' xt' xi' yt' yi' lo' xr' xe' xz' 0 yd' ys' yz' 0 xk' yk' xm' ym' yr' en' hR2
      refine ⟨cnt', ag', st'', tk'', nt'', qu'', qn'', mc'', xt'', xi'', yt'', yi'', lo'', xr'', xe'', xz'', xc'', yd'', ys'', yz'', yc'', xk'', yk'', xm'', ym'', yr'', en'', fun post n hn hq' => ?_, fun post n hn hq' => ?_, hR3⟩
      · obtain ⟨k, rfl⟩ := mp_pos hn
        refine br_f h8 (mx_al_t (by omega) ha (br_f (by decide) (And.intro I ?_)))
        rw [c]
        exact br_t hv (mx_mark (d := 0) (by omega) (by omega) hx (hX _ (nm_e (nm_r (nI_1 q) (hX2 post k (by omega) hq')))))
      · obtain ⟨k, rfl⟩ := mp_pos hn
        exact br_f h8 (my_old hS hV (by omega) hm4 (fun _ _ => br_f (by decide) (my_doom (d := 0) (by omega) (by omega) hy (hY _ (nm_e (nm_r (nI_1 q) (hY2 post k (by omega) hq')))))) (fun z => absurd ⟨ha, hv⟩ z))
    · have hR2 : (mp_D dl dO dA dB ∧ mp_C xo xa xb xl yo ya yb yl cu ∧ mp_V st xv yv xl cu ∧ mp_P st pl ∧ mp_S st ∧ mp_M st mc xt xi yt yi ∧ mp_K st xk yk ∧ mp_K st xm ym ∧ mp_W st xw li ye tm ∧ mp_T tm tc ti T ∧ mp_Q st tk nt 8 qu qn ∧ mp_E st xr yr ∧ mp_Z 0 st xr xe xz 0 yd ys yz 0 ∧ mp_F st nt C ∧ mp_G (fun r v => r < q + 1 → v ≠ nI (2 * m + 1)) st xv yz) := by
        obtain ⟨hD, hC, hV, hP, hS, hM, hK, hm, hW, hT, hQ, hE, hZ, hF, hG⟩ := h
        refine ⟨hD, hC, hV, hP, hS, hM, hK, hm, hW, hT, hQ, hE, hZ, hF, fun r hr a b z => ?_⟩
        by_cases y : r = q
        · subst y
          exact fun w => hB ⟨a, w⟩
        · exact hG r hr a b (by omega)
      obtain ⟨cnt', ag', st'', tk'', nt'', qu'', qn'', mc'', xt'', xi'', yt'', yi'', lo'', xr'', xe'', xz'', xc'', yd'', ys'', yz'', yc'', xk'', yk'', xm'', ym'', yr'', en'', hX2, hY2, hR3⟩ := ih (q + 1) (by omega) cnt st tk nt qu qn mc xt xi yt yi lo xr xe xz xc yd ys yz yc xk yk xm ym yr en hR2
      refine ⟨cnt', ag', st'', tk'', nt'', qu'', qn'', mc'', xt'', xi'', yt'', yi'', lo'', xr'', xe'', xz'', xc'', yd'', ys'', yz'', yc'', xk'', yk'', xm'', ym'', yr'', en'', fun post n hn hq' => ?_, fun post n hn hq' => ?_, hR3⟩
      · obtain ⟨k, rfl⟩ := mp_pos hn
        refine br_f h8 ?_
        rcases mp_al_of hS (p := q) (by omega) with ⟨ha, _⟩ | ⟨hd, _⟩
        · refine mx_al_t (by omega) ha (br_f (by decide) (And.intro I ?_))
          rw [c]
          exact br_f (fun w => hB ⟨ha, w⟩) (nm_r (nI_1 q) (hX2 post k (by omega) hq'))
        · exact mx_al_f (mp_deadp (by omega) hd) (br_t rfl (nm_r (nI_1 q) (hX2 post k (by omega) hq')))
      · obtain ⟨k, rfl⟩ := mp_pos hn
        exact br_f h8 (my_old hS hV (by omega) hm4 (fun a b => absurd ⟨a, b⟩ hB) (fun _ => br_t rfl (nm_r (nI_1 q) (hY2 post k (by omega) hq'))))
/-! Y: a row of booleans as a set of bits -/
theorem my_set_l (hp : p < 8) (w1 : Int32) (f : Nat → Int32) (hf : (w1 = 0 ∧ f = ym) ∨ (¬ w1 = 0 ∧ f = yk)) : ∀ d q, q + d = 8 → ∀ a, mp_ac a (fun j => decide (f (8 * p + j) ≠ 0)) q → ∃ w, mp_ac w (fun j => decide (f (8 * p + j) ≠ 0)) 8 ∧ ∀ (post : Int32 → Prop) n, d < n → post w → wY_set_5 post w1 (nI p) dl qn yc tm tc yn md lo en yo ya yb yl cu ag dO dA dB st rg pl yv yr tr yt yi mc yk ym wt li ye qu yd ys yz ti n a (nI q) := by
  intro d
  induction d with
  | zero =>
    intro q hq a ha
    have e : q = 8 := by omega
    subst e
    refine ⟨a, ha, fun post n hn h => ?_⟩
    obtain ⟨m, rfl⟩ := mp_pos hn
    exact br_t (nI_le (b := 8) (Nat.le_refl 8) (by omega)) h
  | succ d ih =>
    intro q hq a ha
    have h8 : ¬ (8 : Int32) ≤ nI q := nI_ge (b := 8) (by omega) (by omega)
    have c := nI_clamp (n := 8 * p + q) (by omega)
    have I := vp_in_nI (n := 8 * p + q) (N := 64) (by omega) (by omega)
    by_cases hg : f (8 * p + q) = 0
    · obtain ⟨w, hw, hY⟩ := ih (q + 1) (by omega) a (mp_ac_f ha (decide_eq_false (fun z => z hg)))
      refine ⟨w, hw, fun post n hn h => ?_⟩
      obtain ⟨m, rfl⟩ := mp_pos hn
      refine br_f h8 ?_
      rw [mp_8x, nI_add, c]
      rcases hf with ⟨z, rfl⟩ | ⟨z, rfl⟩
      · exact br_t z ⟨I, br_t hg (nm_r (nI_1 q) (hY post m (by omega) h))⟩
      · exact br_f z ⟨I, br_t hg (nm_r (nI_1 q) (hY post m (by omega) h))⟩
    · obtain ⟨w, hw, hY⟩ := ih (q + 1) (by omega) _ (mp_ac_t ha (by omega) (decide_eq_true hg))
      refine ⟨w, hw, fun post n hn h => ?_⟩
      obtain ⟨m, rfl⟩ := mp_pos hn
      refine br_f h8 ?_
      rw [mp_8x, nI_add, c]
      rcases hf with ⟨z, rfl⟩ | ⟨z, rfl⟩
      · exact br_t z ⟨I, br_f hg (nm_e (nm_r (nI_1 q) (hY post m (by omega) h)))⟩
      · exact br_f z ⟨I, br_f hg (nm_e (nm_r (nI_1 q) (hY post m (by omega) h)))⟩
theorem my_set {xs : Nat → Int32} {f : Nat → Int32} (hp : p < 8) (w1 : Int32) (hf : (w1 = 0 ∧ f = ym) ∨ (¬ w1 = 0 ∧ f = yk)) (hK : mp_K st xs f) {post : Int32 → Prop} (h : post (xs p)) : wpY_set post (dl, qn, yc, tm, tc, yn, md, lo, en, yo, ya, yb, yl, cu, ag, dO, dA, dB, st, rg, pl, yv, yr, tr, yt, yi, mc, yk, ym, wt, li, ye, qu, yd, ys, yz, ti) w1 (nI p) := by
  obtain ⟨w, hw, hY⟩ := my_set_l (dl := dl) (qn := qn) (yc := yc) (tm := tm) (tc := tc) (yn := yn) (md := md) (lo := lo) (en := en) (yo := yo) (ya := ya) (yb := yb) (yl := yl) (cu := cu) (ag := ag) (dO := dO) (dA := dA) (dB := dB) (st := st) (rg := rg) (pl := pl) (yv := yv) (yr := yr) (tr := tr) (yt := yt) (yi := yi) (mc := mc) (yk := yk) (ym := ym) (wt := wt) (li := li) (ye := ye) (qu := qu) (yd := yd) (ys := ys) (yz := yz) (ti := ti) hp w1 f hf 8 0 rfl 0 (mp_ac_0 _)
  have e : xs p = w := mp_ac_u (hK p hp).1 hw
  unfold wpY_set
  exact ⟨9, hY post 9 (by omega) (by rw [← e]; exact h)⟩
end
end
section
def mi_K (k : Nat) : Int := if k ≤ 4000 then 100 * (k : Int) else 400000
theorem mi_K_b (k : Nat) : 0 ≤ mi_K k ∧ mi_K k ≤ 400000 := by unfold mi_K; split <;> omega
theorem mi_K_u (k : Nat) : mi_K k ≤ mi_K (k + 4) := by unfold mi_K; split <;> split <;> omega
theorem mi_K_s {k : Nat} (hk : k + 4 ≤ 2048) : mi_K (k + 4) = mi_K k + 400 := by unfold mi_K; rw [if_pos (by omega), if_pos (by omega)]; omega
/-- the relation: one queue, one set of processes, the code of both; X's and Y's tuples share what both keep alike -/
def i_Rel (k : Nat) (u : SX) (v : SY) : Prop := ∃ (dl : Int32) (nt : Int64) (tc md lo en : Int32) (dO dA dB xo xa xb xl st xr rg xv pl tr xk xm wt xw xt xi mc : Nat → Int32) (tk : Nat → Int64) (xe xz ti : Nat → Int32) (qn : Int32) (yo ya yb yl cu ag yv yr yt yi yk ym li ye qu yd ys yz : Nat → Int32) (tm xn : Int32), u = (dl, nt, 0, tc, tm, xn, md, lo, en, dO, dA, dB, xo, xa, xb, xl, st, xr, rg, xv, pl, tr, xk, xm, wt, xw, xt, xi, mc, tk, xe, xz, ti) ∧ v = (dl, qn, 0, tm, tc, xn, md, lo, en, yo, ya, yb, yl, cu, ag, dO, dA, dB, st, rg, pl, yv, yr, tr, yt, yi, mc, yk, ym, wt, li, ye, qu, yd, ys, yz, ti) ∧ (mp_D dl dO dA dB ∧ mp_C xo xa xb xl yo ya yb yl cu ∧ mp_V st xv yv xl cu ∧ mp_P st pl ∧ mp_S st ∧ mp_M st mc xt xi yt yi ∧ mp_K st xk yk ∧ mp_K st xm ym ∧ mp_W st xw li ye tm ∧ mp_T tm tc ti 1000100800 ∧ mp_Q st tk nt 8 qu qn ∧ mp_E st xr yr ∧ mp_Z 0 st xr xe xz 0 yd ys yz 0 ∧ mp_F st nt (2 * tm.toInt + mi_K k) ∧ mp_G (fun _ _ => True) st xv yz)
theorem i_up {k : Nat} {u : SX} {v : SY} (h : i_Rel k u v) : i_Rel (k + 4) u v := by
  obtain ⟨dl, nt, tc, md, lo, en, dO, dA, dB, xo, xa, xb, xl, st, xr, rg, xv, pl, tr, xk, xm, wt, xw, xt, xi, mc, tk, xe, xz, ti, qn, yo, ya, yb, yl, cu, ag, yv, yr, yt, yi, yk, ym, li, ye, qu, yd, ys, yz, tm, xn, e1, e2, hR⟩ := h
  have b := hR.2.2.2.2.2.2.2.2.2.1.2.1
  exact ⟨dl, nt, tc, md, lo, en, dO, dA, dB, xo, xa, xb, xl, st, xr, rg, xv, pl, tr, xk, xm, wt, xw, xt, xi, mc, tk, xe, xz, ti, qn, yo, ya, yb, yl, cu, ag, yv, yr, yt, yi, yk, ym, li, ye, qu, yd, ys, yz, tm, xn, e1, e2, mp_F_R hR (by have := mi_K_u k; omega) (by have := mi_K_b (k + 4); omega)⟩
section
variable {dl xc tc tm xn md lo en qn yc yn : Int32} {nt : Int64} {dO dA dB xo xa xb xl st xr rg xv pl tr xk xm wt xw xt xi mc xe xz ti yo ya yb yl cu ag yv yr yt yi yk ym li ye qu yd ys yz : Nat → Int32} {tk : Nat → Int64} {run i p : Nat} {T C : Int} {G : Nat → Int32 → Prop}
theorem mi_mk {k : Nat} (h : (mp_D dl dO dA dB ∧ mp_C xo xa xb xl yo ya yb yl cu ∧ mp_V st xv yv xl cu ∧ mp_P st pl ∧ mp_S st ∧ mp_M st mc xt xi yt yi ∧ mp_K st xk yk ∧ mp_K st xm ym ∧ mp_W st xw li ye tm ∧ mp_T tm tc ti T ∧ mp_Q st tk nt 8 qu qn ∧ mp_E st xr yr ∧ mp_Z 0 st xr xe xz 0 yd ys yz 0 ∧ mp_F st nt C ∧ mp_G (fun _ _ => True) st xv yz)) (hT1 : T ≤ 1000100800) (hC1 : C ≤ 2 * tm.toInt + mi_K k) : i_Rel k (dl, nt, 0, tc, tm, xn, md, lo, en, dO, dA, dB, xo, xa, xb, xl, st, xr, rg, xv, pl, tr, xk, xm, wt, xw, xt, xi, mc, tk, xe, xz, ti) (dl, qn, 0, tm, tc, xn, md, lo, en, yo, ya, yb, yl, cu, ag, dO, dA, dB, st, rg, pl, yv, yr, tr, yt, yi, mc, yk, ym, wt, li, ye, qu, yd, ys, yz, ti) := by
  have b := h.2.2.2.2.2.2.2.2.2.1.2.1
  exact ⟨dl, nt, tc, md, lo, en, dO, dA, dB, xo, xa, xb, xl, st, xr, rg, xv, pl, tr, xk, xm, wt, xw, xt, xi, mc, tk, xe, xz, ti, qn, yo, ya, yb, yl, cu, ag, yv, yr, yt, yi, yk, ym, li, ye, qu, yd, ys, yz, tm, xn, rfl, rfl, mp_T_R (mp_F_R h hC1 (by have := mi_K_b k; omega)) hT1⟩
theorem my_init_s {post : SY → Prop} {r n : Nat} (hr : r < 4) (h : wY_init_231 post dl qn yc tm tc yn md lo en n (nI (r + 1)) yo ya yb yl (upd cu r (-1)) ag dO dA dB st rg pl yv yr tr yt yi mc yk ym wt li ye qu yd ys yz ti) : wY_init_231 post dl qn yc tm tc yn md lo en (n + 1) (nI r) yo ya yb yl cu ag dO dA dB st rg pl yv yr tr yt yi mc yk ym wt li ye qu yd ys yz ti := by
  have c := nI_clamp (n := r) (by omega)
  have I := vp_in_nI (n := r) (N := 4) hr (by omega)
  refine br_f (nI_ge (b := 4) hr (by omega)) (And.intro I ?_)
  rw [c]
  exact nm_e (nm_r (nI_1 r) h)
end
theorem mi_na (q : Nat) : ¬ mp_al (fun _ => 0) q := by
  unfold mp_al
  show ¬ ((0 : Int32) = 1 ∨ (0 : Int32) = 2)
  decide
theorem mi_K0 : mp_K (fun _ => 0) (fun _ => 0) (fun _ => 0) := fun p _ => ⟨mp_ac_z (fun i _ => decide_eq_false (fun z => z rfl)), fun q _ z => absurd rfl z⟩
theorem i_vc0 : wpX_init (fun u => wpY_init (fun v => i_Rel 0 u v)) := by
  refine ⟨5, my_init_s (r := 0) (by omega) (my_init_s (r := 1) (by omega) (my_init_s (r := 2) (by omega) (my_init_s (r := 3) (by omega) (br_t (nI_le (b := 4) (Nat.le_refl 4) (by omega)) ?_))))⟩
  refine mi_mk (T := 1000100800) (C := 0) ?_ (by omega) (by have : mi_K 0 = 0 := rfl; have : (0 : Int32).toInt = 0 := rfl; omega)
  have n1 : ¬ (0 : Int32) = 1 := by decide
  have n2 : ¬ (0 : Int32) = 2 := by decide
  have n3 : ¬ (0 : Int32) = 3 := by decide
  have c0 : ∀ P : Nat → Bool, (∀ q, q < 8 → P q = false) → mp_cn P 8 = 0 := fun P h => mp_cn_0 8 h
  refine ⟨mp_D_0, fun m hm => Or.inl ⟨?_, rfl, rfl⟩, fun q _ ha => absurd ha (mi_na q), fun q _ ha => absurd ha (mi_na q), fun q _ => Or.inl rfl, fun q _ => ⟨0, by omega, rfl, fun _ => rfl, fun k hk => absurd hk (by omega)⟩, mi_K0, mi_K0, fun q _ z => absurd z n2, ⟨by decide, by decide, by decide, by decide, fun j _ _ => rfl⟩, ⟨[], rfl, fun i q z => absurd z (by simp), fun q => ⟨fun z => absurd z List.not_mem_nil, fun z => absurd z.2.1 n1⟩, List.Pairwise.nil, fun q z => absurd z List.not_mem_nil, fun z => absurd z (by omega)⟩, fun q _ z => absurd z n3, ⟨0, by omega, by omega, rfl, rfl, (c0 _ (fun q _ => decide_eq_false (fun z => z rfl))).symm, fun j hj => absurd hj (by omega), fun q _ z => absurd rfl z, fun j j' _ hj => absurd hj (by omega), fun q _ => ⟨fun z => absurd rfl z, fun z => absurd rfl z.1⟩⟩, ⟨by decide, ?_, by omega⟩, fun _ _ _ _ => trivial⟩
  · have h : m = 0 ∨ m = 1 ∨ m = 2 ∨ m = 3 := by omega
    rcases h with rfl | rfl | rfl | rfl <;> rfl
  · rw [c0 _ (fun q _ => decide_eq_false n2)]
    decide
end
section
section
variable {dl xc tc tm xn md lo en qn yc yn : Int32} {nt : Int64} {dO dA dB xo xa xb xl st xr rg xv pl tr xk xm wt xw xt xi mc xe xz ti yo ya yb yl cu ag yv yr yt yi yk ym li ye qu yd ys yz : Nat → Int32} {tk : Nat → Int64} {run i p : Nat} {T C : Int} {G : Nat → Int32 → Prop}
theorem i_vc_state {k : Nat} {u : SX} {v : SY} (I : i_Rel k u v) (hk : k + 4 ≤ 2048) (v1 : Int32) : wpX_state (fun r => wpY_state (fun r' => r' = r ∧ i_Rel (k + 4) u v) v v1) u v1 := by
  have J := i_up I
  obtain ⟨dl, nt, tc, md, lo, en, dO, dA, dB, xo, xa, xb, xl, st, xr, rg, xv, pl, tr, xk, xm, wt, xw, xt, xi, mc, tk, xe, xz, ti, qn, yo, ya, yb, yl, cu, ag, yv, yr, yt, yi, yk, ym, li, ye, qu, yd, ys, yz, tm, xn, rfl, rfl, hR⟩ := I
  rcases mp_bel v1 (n := 8) (by omega) with ⟨j, hj, rfl⟩ | ⟨ho, _⟩
  · have c := nI_clamp (n := j) (by omega)
    have Ij := vp_in_nI (n := j) (N := 8) hj (by omega)
    unfold wpX_state
    dsimp only
    refine mx_bel_t (n := 8) hj (by omega) (br_f (by decide) ⟨Ij, ?_⟩)
    unfold wpY_state
    dsimp only
    exact my_bel_t (n := 8) hj (by omega) (br_f (by decide) ⟨Ij, rfl, J⟩)
  · unfold wpX_state
    dsimp only
    refine mx_bel_f (n := 8) ho (br_t rfl ?_)
    unfold wpY_state
    dsimp only
    exact my_bel_f (n := 8) ho (br_t rfl ⟨rfl, J⟩)
theorem i_vc_register {k : Nat} {u : SX} {v : SY} (I : i_Rel k u v) (hk : k + 4 ≤ 2048) (v1 : Int32) (v2 : Int32) : wpX_register (fun r => wpY_register (fun r' => r' = r ∧ i_Rel (k + 4) u v) v v1 v2) u v1 v2 := by
  have J := i_up I
  obtain ⟨dl, nt, tc, md, lo, en, dO, dA, dB, xo, xa, xb, xl, st, xr, rg, xv, pl, tr, xk, xm, wt, xw, xt, xi, mc, tk, xe, xz, ti, qn, yo, ya, yb, yl, cu, ag, yv, yr, yt, yi, yk, ym, li, ye, qu, yd, ys, yz, tm, xn, rfl, rfl, hR⟩ := I
  have H : ∃ r : Int32, (∀ post : Int32 → Prop, post r → wpX_register post (dl, nt, 0, tc, tm, xn, md, lo, en, dO, dA, dB, xo, xa, xb, xl, st, xr, rg, xv, pl, tr, xk, xm, wt, xw, xt, xi, mc, tk, xe, xz, ti) v1 v2) ∧ (∀ post : Int32 → Prop, post r → wpY_register post (dl, qn, 0, tm, tc, xn, md, lo, en, yo, ya, yb, yl, cu, ag, dO, dA, dB, st, rg, pl, yv, yr, tr, yt, yi, mc, yk, ym, wt, li, ye, qu, yd, ys, yz, ti) v1 v2) := by
    rcases mp_bel v1 (n := 8) (by omega) with ⟨j, hj, rfl⟩ | ⟨ho, _⟩
    · rcases mp_bel v2 (n := 4) (by omega) with ⟨l, hl, rfl⟩ | ⟨ho, _⟩
      · have c := nI_clamp (n := j) (by omega)
        have Ij := vp_in_nI (n := j) (N := 8) hj (by omega)
        have c2 := nI_clamp (n := 4 * j + l) (by omega)
        have I2 := vp_in_nI (n := 4 * j + l) (N := 32) (by omega) (by omega)
        by_cases h0 : st j = 0
        · refine ⟨0, fun post h => ?_, fun post h => ?_⟩
          · unfold wpX_register
            dsimp only
            refine mx_bel_t (n := 8) hj (by omega) (br_f (by decide) (mx_bel_t (n := 4) hl (by omega) (br_f (by decide) ⟨Ij, ?_⟩)))
            rw [c]
            exact br_t h0 h
          · unfold wpY_register
            dsimp only
            refine my_bel_t (n := 8) hj (by omega) (br_f (by decide) (my_bel_t (n := 4) hl (by omega) (br_f (by decide) ⟨Ij, ?_⟩)))
            rw [c]
            exact br_t h0 h
        · refine ⟨rg (4 * j + l), fun post h => ?_, fun post h => ?_⟩
          · unfold wpX_register
            dsimp only
            refine mx_bel_t (n := 8) hj (by omega) (br_f (by decide) (mx_bel_t (n := 4) hl (by omega) (br_f (by decide) ⟨Ij, ?_⟩)))
            rw [c, mp_x4, nI_add, c2]
            exact br_f h0 ⟨I2, h⟩
          · unfold wpY_register
            dsimp only
            refine my_bel_t (n := 8) hj (by omega) (br_f (by decide) (my_bel_t (n := 4) hl (by omega) (br_f (by decide) ⟨Ij, ?_⟩)))
            rw [c, mp_4x, nI_add, c2]
            exact br_f h0 ⟨I2, h⟩
      · refine ⟨0, fun post h => ?_, fun post h => ?_⟩
        · unfold wpX_register
          dsimp only
          exact mx_bel_t (n := 8) hj (by omega) (br_f (by decide) (mx_bel_f (n := 4) ho (br_t rfl h)))
        · unfold wpY_register
          dsimp only
          exact my_bel_t (n := 8) hj (by omega) (br_f (by decide) (my_bel_f (n := 4) ho (br_t rfl h)))
    · refine ⟨0, fun post h => ?_, fun post h => ?_⟩
      · unfold wpX_register
        dsimp only
        exact mx_bel_f (n := 8) ho (br_t rfl h)
      · unfold wpY_register
        dsimp only
        exact my_bel_f (n := 8) ho (br_t rfl h)
  obtain ⟨r, hX, hY⟩ := H
  exact hX _ (hY _ ⟨rfl, J⟩)
theorem i_vc_message {k : Nat} {u : SX} {v : SY} (I : i_Rel k u v) (hk : k + 4 ≤ 2048) (v1 : Int32) (v2 : Int32) (v3 : Int32) : wpX_message (fun r => wpY_message (fun r' => r' = r ∧ i_Rel (k + 4) u v) v v1 v2 v3) u v1 v2 v3 := by
  have J := i_up I
  obtain ⟨dl, nt, tc, md, lo, en, dO, dA, dB, xo, xa, xb, xl, st, xr, rg, xv, pl, tr, xk, xm, wt, xw, xt, xi, mc, tk, xe, xz, ti, qn, yo, ya, yb, yl, cu, ag, yv, yr, yt, yi, yk, ym, li, ye, qu, yd, ys, yz, tm, xn, rfl, rfl, hR⟩ := I
  have H : ∃ r : Int64, (∀ post : Int64 → Prop, post r → wpX_message post (dl, nt, 0, tc, tm, xn, md, lo, en, dO, dA, dB, xo, xa, xb, xl, st, xr, rg, xv, pl, tr, xk, xm, wt, xw, xt, xi, mc, tk, xe, xz, ti) v1 v2 v3) ∧ (∀ post : Int64 → Prop, post r → wpY_message post (dl, qn, 0, tm, tc, xn, md, lo, en, yo, ya, yb, yl, cu, ag, dO, dA, dB, st, rg, pl, yv, yr, tr, yt, yi, mc, yk, ym, wt, li, ye, qu, yd, ys, yz, ti) v1 v2 v3) := by
    rcases mp_alx hR.2.2.2.2.1 v1 with ⟨p, hp, rfl, ha⟩ | ⟨hd, _⟩
    · obtain ⟨n, hn, em, _, hkk⟩ := hR.2.2.2.2.2.1 p hp
      have c := nI_clamp (n := p) (by omega)
      have Ip := vp_in_nI (n := p) (N := 8) hp (by omega)
      rcases mp_bel v2 (n := n) (by omega) with ⟨l, hl, rfl⟩ | ⟨ho, _⟩
      · have c2 := nI_clamp (n := 12 * p + l) (by omega)
        have I2 := vp_in_nI (n := 12 * p + l) (N := 96) (by omega) (by omega)
        obtain ⟨et, ei⟩ := hkk l hl
        have hX : ∀ post : Int64 → Prop, (((v3 = 0 → (vp_in (nI (12 * p + l)) 96 ∧ (post ((yt (12 * p + l)).toInt64)))) ∧ (¬ v3 = 0 → (((v3 = 1 → (vp_in (nI (12 * p + l)) 96 ∧ (post ((yi (12 * p + l)).toInt64)))) ∧ (¬ v3 = 1 → (post 10000000000))))))) → wpX_message post (dl, nt, 0, tc, tm, xn, md, lo, en, dO, dA, dB, xo, xa, xb, xl, st, xr, rg, xv, pl, tr, xk, xm, wt, xw, xt, xi, mc, tk, xe, xz, ti) (nI p) (nI l) v3 := fun post h => by
          unfold wpX_message
          dsimp only
          refine mx_al_t hp ha (br_f (by decide) ⟨Ip, ?_⟩)
          rw [c, em]
          refine mx_bel_t hl (by omega) (br_f (by decide) (nm_r (e' := nI (12 * p + l)) (by rw [mp_x12, nI_add]) ?_))
          rw [c2, et, ei]
          exact h
        have hY : ∀ (post : Int64 → Prop) (r : Int32), (wpY_among (fun r_80 => (((r_80 = 0 → (post 10000000000)) ∧ (¬ r_80 = 0 → (((v3 = 0 → (vp_in (nI (12 * p + l)) 96 ∧ (post ((yt (12 * p + l)).toInt64)))) ∧ (¬ v3 = 0 → (vp_in (nI (12 * p + l)) 96 ∧ (post ((yi (12 * p + l)).toInt64)))))))))) (dl, qn, 0, tm, tc, xn, md, lo, en, yo, ya, yb, yl, cu, ag, dO, dA, dB, st, rg, pl, yv, yr, tr, yt, yi, mc, yk, ym, wt, li, ye, qu, yd, ys, yz, ti) v3 2) → wpY_message post (dl, qn, 0, tm, tc, xn, md, lo, en, yo, ya, yb, yl, cu, ag, dO, dA, dB, st, rg, pl, yv, yr, tr, yt, yi, mc, yk, ym, wt, li, ye, qu, yd, ys, yz, ti) (nI p) (nI l) v3 := fun post r h => by
          unfold wpY_message
          dsimp only
          refine my_al_t hp ha (br_f (by decide) ⟨Ip, ?_⟩)
          rw [c, em]
          refine my_bel_t hl (by omega) (br_f (by decide) ?_)
          rw [mp_12x, nI_add, c2]
          exact h
        by_cases h0 : v3 = 0
        · subst h0
          exact ⟨_, fun post h => hX post (br_t rfl ⟨I2, h⟩), fun post h => hY post 0 (my_bel_t (j := 0) (n := 2) (by omega) (by omega) (br_f (by decide) (br_t rfl ⟨I2, h⟩)))⟩
        · by_cases h1 : v3 = 1
          · subst h1
            exact ⟨_, fun post h => hX post (br_f h0 (br_t rfl ⟨I2, h⟩)), fun post h => hY post 0 (my_bel_t (j := 1) (n := 2) (by omega) (by omega) (br_f (by decide) (br_f h0 ⟨I2, h⟩)))⟩
          · refine ⟨10000000000, fun post h => hX post (br_f h0 (br_f h1 h)), fun post h => hY post 0 ?_⟩
            rcases mp_bel v3 (n := 2) (by omega) with ⟨l3, hl3, e3⟩ | ⟨ho, _⟩
            · have : l3 = 0 ∨ l3 = 1 := by omega
              rcases this with rfl | rfl
              · exact absurd e3 h0
              · exact absurd e3 h1
            · exact my_bel_f (n := 2) ho (br_t rfl h)
      · refine ⟨10000000000, fun post h => ?_, fun post h => ?_⟩
        · unfold wpX_message
          dsimp only
          refine mx_al_t hp ha (br_f (by decide) ⟨Ip, ?_⟩)
          rw [c, em]
          exact mx_bel_f ho (br_t rfl h)
        · unfold wpY_message
          dsimp only
          refine my_al_t hp ha (br_f (by decide) ⟨Ip, ?_⟩)
          rw [c, em]
          exact my_bel_f ho (br_t rfl h)
    · refine ⟨10000000000, fun post h => ?_, fun post h => ?_⟩
      · unfold wpX_message
        dsimp only
        exact mx_al_f hd (br_t rfl h)
      · unfold wpY_message
        dsimp only
        exact my_al_f hd (br_t rfl h)
  obtain ⟨r, hX, hY⟩ := H
  exact hX _ (hY _ ⟨rfl, J⟩)
theorem i_vc_ready {k : Nat} {u : SX} {v : SY} (I : i_Rel k u v) (hk : k + 4 ≤ 2048) (v1 : Int32) : wpX_ready (fun r => wpY_ready (fun r' => r' = r ∧ i_Rel (k + 4) u v) v v1) u v1 := by
  have J := i_up I
  obtain ⟨dl, nt, tc, md, lo, en, dO, dA, dB, xo, xa, xb, xl, st, xr, rg, xv, pl, tr, xk, xm, wt, xw, xt, xi, mc, tk, xe, xz, ti, qn, yo, ya, yb, yl, cu, ag, yv, yr, yt, yi, yk, ym, li, ye, qu, yd, ys, yz, tm, xn, rfl, rfl, hR⟩ := I
  obtain ⟨r, n, en', hn8, hX, hc⟩ := mx_ready (dl := dl) (nt := nt) (xc := 0) (tc := tc) (tm := tm) (xn := xn) (md := md) (lo := lo) (en := en) (dO := dO) (dA := dA) (dB := dB) (xo := xo) (xa := xa) (xb := xb) (xl := xl) (st := st) (xr := xr) (rg := rg) (xv := xv) (pl := pl) (tr := tr) (xk := xk) (xm := xm) (wt := wt) (xw := xw) (xt := xt) (xi := xi) (mc := mc) (tk := tk) (xe := xe) (xz := xz) (ti := ti) (qu := qu) (qn := qn) hR.2.2.2.2.2.2.2.2.2.2.1 v1
  refine hX _ ?_
  subst en'
  unfold wpY_ready
  dsimp only
  rcases hc with ⟨j, p, hj, ex, hp, eq, er, h1⟩ | ⟨hno, er⟩
  · subst ex
    have c := nI_clamp (n := j) (by omega)
    refine my_bel_t hj (by omega) (br_f (by decide) ⟨vp_in_nI (by omega) (by omega), ?_⟩)
    rw [c]
    exact ⟨by rw [eq, er], J⟩
  · rcases mp_bel v1 (n := n) (by omega) with ⟨j, hj, e⟩ | ⟨ho, _⟩
    · exact absurd e (hno j hj)
    · exact my_bel_f ho (br_t rfl ⟨er.symm, J⟩)
theorem mp_toix {t j : Nat} (h : t ≤ j) (hj : j < 16) : ((nI t - 1) - nI j) &&& 15 = nI (15 + t - j) := by
  rw [pk_and _ 4 mp_15]
  apply congrArg nI
  have e : ((nI t - 1) - nI j).toBitVec.toNat = (2 ^ 32 - j + ((2 ^ 32 - 1 + t) % 2 ^ 32)) % 2 ^ 32 := by
    rw [Int32.toBitVec_sub, BitVec.toNat_sub, Int32.toBitVec_sub, BitVec.toNat_sub, pk_tn (by omega), pk_tn (by omega)]
    rfl
  rw [e]
  omega
theorem i_vc_told {k : Nat} {u : SX} {v : SY} (I : i_Rel k u v) (hk : k + 4 ≤ 2048) (v1 : Int32) : wpX_told (fun r => wpY_told (fun r' => r' = r ∧ i_Rel (k + 4) u v) v v1) u v1 := by
  have J := i_up I
  obtain ⟨dl, nt, tc, md, lo, en, dO, dA, dB, xo, xa, xb, xl, st, xr, rg, xv, pl, tr, xk, xm, wt, xw, xt, xi, mc, tk, xe, xz, ti, qn, yo, ya, yb, yl, cu, ag, yv, yr, yt, yi, yk, ym, li, ye, qu, yd, ys, yz, tm, xn, rfl, rfl, hR⟩ := I
  rcases mp_bel v1 (n := 16) (by omega) with ⟨j, hj, rfl⟩ | ⟨ho, _⟩
  · obtain ⟨a, b, cc, d, e⟩ := hR.2.2.2.2.2.2.2.2.2.1
    obtain ⟨t, ht, rfl, et⟩ := mp_nn cc
    have I15 : vp_in (((nI t - 1) - nI j) &&& 15) 16 := pk_andIn _ 4 mp_15 (by omega)
    unfold wpX_told
    dsimp only
    refine mx_bel_t (n := 16) hj (by omega) (br_f (by decide) ?_)
    unfold wpX_toldPlace
    refine ⟨I15, ?_⟩
    unfold wpY_told
    dsimp only
    refine my_bel_t (n := 16) hj (by omega) (br_f (by decide) ?_)
    by_cases w : t ≤ j
    · refine br_t (nI_le w (by omega)) ⟨?_, J⟩
      rw [mp_toix w hj, nI_clamp (by omega)]
      exact (e (15 + t - j) (by omega) (by omega)).symm
    · exact br_f (nI_ge (by omega) ht) ⟨I15, rfl, J⟩
  · unfold wpX_told
    dsimp only
    refine mx_bel_f (n := 16) ho (br_t rfl ?_)
    unfold wpY_told
    dsimp only
    exact my_bel_f (n := 16) ho (br_t rfl ⟨rfl, J⟩)
theorem i_vc_count {k : Nat} {u : SX} {v : SY} (I : i_Rel k u v) (hk : k + 4 ≤ 2048) (v1 : Int32) : wpX_count (fun r => wpY_count (fun r' => r' = r ∧ i_Rel (k + 4) u v) v v1) u v1 := by
  have J := i_up I
  obtain ⟨dl, nt, tc, md, lo, en, dO, dA, dB, xo, xa, xb, xl, st, xr, rg, xv, pl, tr, xk, xm, wt, xw, xt, xi, mc, tk, xe, xz, ti, qn, yo, ya, yb, yl, cu, ag, yv, yr, yt, yi, yk, ym, li, ye, qu, yd, ys, yz, tm, xn, rfl, rfl, hR⟩ := I
  rcases pk_ix v1 (n := 6) (by omega) with h | h | ⟨j, hj, rfl⟩
  · exact br_t h (br_t h ⟨rfl, J⟩)
  · have h0 : ¬ v1 < 0 := fun z => by
      rw [Int32.lt_iff_toInt_lt, show (0 : Int32).toInt = 0 from by decide] at z
      rw [Int32.le_iff_toInt_le, nI_toInt (by omega)] at h
      omega
    have h5 : (5 : Int32) < v1 := by
      rw [Int32.le_iff_toInt_le, nI_toInt (by omega)] at h
      rw [Int32.lt_iff_toInt_lt, show (5 : Int32).toInt = 5 from by decide]
      omega
    exact br_f h0 (br_t h5 (br_f h0 (br_t h5 ⟨rfl, J⟩)))
  · have h : j = 0 ∨ j = 1 ∨ j = 2 ∨ j = 3 ∨ j = 4 ∨ j = 5 := by omega
    rcases h with rfl | rfl | rfl | rfl | rfl | rfl
    · exact br_f (by decide) (br_f (by decide) (br_t rfl (br_f (by decide) (br_f (by decide) (br_t rfl ⟨rfl, J⟩)))))
    · exact br_f (by decide) (br_f (by decide) (br_f (by decide) (br_t rfl (br_f (by decide) (br_f (by decide) (br_f (by decide) (br_t rfl ⟨rfl, J⟩)))))))
    · exact br_f (by decide) (br_f (by decide) (br_f (by decide) (br_f (by decide) (br_t rfl (br_f (by decide) (br_f (by decide) (br_f (by decide) (br_f (by decide) (br_t rfl ⟨rfl, J⟩)))))))))
    · exact br_f (by decide) (br_f (by decide) (br_f (by decide) (br_f (by decide) (br_f (by decide) (br_t rfl (br_f (by decide) (br_f (by decide) (br_f (by decide) (br_f (by decide) (br_f (by decide) (br_t rfl ⟨rfl, J⟩)))))))))))
    · exact br_f (by decide) (br_f (by decide) (br_f (by decide) (br_f (by decide) (br_f (by decide) (br_f (by decide) (br_t rfl (br_f (by decide) (br_f (by decide) (br_f (by decide) (br_f (by decide) (br_f (by decide) (br_f (by decide) (br_t rfl ⟨rfl, J⟩)))))))))))))
    · exact br_f (by decide) (br_f (by decide) (br_f (by decide) (br_f (by decide) (br_f (by decide) (br_f (by decide) (br_f (by decide) (br_t rfl (br_f (by decide) (br_f (by decide) (br_f (by decide) (br_f (by decide) (br_f (by decide) (br_f (by decide) (br_f (by decide) (br_t rfl ⟨rfl, J⟩)))))))))))))))
end
end
section
section
variable {dl xc tc tm xn md lo en qn yc yn : Int32} {nt : Int64} {dO dA dB xo xa xb xl st xr rg xv pl tr xk xm wt xw xt xi mc xe xz ti yo ya yb yl cu ag yv yr yt yi yk ym li ye qu yd ys yz : Nat → Int32} {tk : Nat → Int64} {run i p : Nat} {T C : Int} {G : Nat → Int32 → Prop}
theorem i_vc_wipe {k : Nat} {u : SX} {v : SY} (I : i_Rel k u v) (hk : k + 4 ≤ 2048) : wpX_wipe (fun r u' => wpY_wipe (fun r' v' => r' = r ∧ i_Rel (k + 4) u' v') v) u := by
  obtain ⟨dl, nt, tc, md, lo, en, dO, dA, dB, xo, xa, xb, xl, st, xr, rg, xv, pl, tr, xk, xm, wt, xw, xt, xi, mc, tk, xe, xz, ti, qn, yo, ya, yb, yl, cu, ag, yv, yr, yt, yi, yk, ym, li, ye, qu, yd, ys, yz, tm, xn, rfl, rfl, hR⟩ := i_up I
  exact ⟨rfl, mi_mk ⟨mp_D_0, hR.2⟩ (by omega) (by omega)⟩
theorem i_vc_code {k : Nat} {u : SX} {v : SY} (I : i_Rel k u v) (hk : k + 4 ≤ 2048) (v1 : Int32) (v2 : Int32) (v3 : Int32) : wpX_code (fun r u' => wpY_code (fun r' v' => r' = r ∧ i_Rel (k + 4) u' v') v v1 v2 v3) u v1 v2 v3 := by
  have J := i_up I
  obtain ⟨dl, nt, tc, md, lo, en, dO, dA, dB, xo, xa, xb, xl, st, xr, rg, xv, pl, tr, xk, xm, wt, xw, xt, xi, mc, tk, xe, xz, ti, qn, yo, ya, yb, yl, cu, ag, yv, yr, yt, yi, yk, ym, li, ye, qu, yd, ys, yz, tm, xn, rfl, rfl, hR⟩ := J
  have J : i_Rel (k + 4) (dl, nt, 0, tc, tm, xn, md, lo, en, dO, dA, dB, xo, xa, xb, xl, st, xr, rg, xv, pl, tr, xk, xm, wt, xw, xt, xi, mc, tk, xe, xz, ti) (dl, qn, 0, tm, tc, xn, md, lo, en, yo, ya, yb, yl, cu, ag, dO, dA, dB, st, rg, pl, yv, yr, tr, yt, yi, mc, yk, ym, wt, li, ye, qu, yd, ys, yz, ti) := mi_mk hR (by omega) (by omega)
  obtain ⟨n, hn, rfl, hok⟩ := hR.1
  by_cases h24 : n = 24
  · subst h24
    exact br_t (nI_le (b := 24) (Nat.le_refl 24) (by omega)) (br_t rfl ⟨rfl, J⟩)
  · have hn' : n < 24 := by omega
    have c := nI_clamp (n := n) (by omega)
    have In := vp_in_nI (n := n) (N := 24) hn' (by omega)
    have ge : ¬ (24 : Int32) ≤ nI n := nI_ge (b := 24) hn' (by omega)
    have ne : ¬ nI n = 24 := mp_nI_inj (b := 24) (by omega) (by omega) h24
    rcases mp_bel v1 (n := 18) (by omega) with ⟨o, ho, rfl⟩ | ⟨ho, _⟩
    · rcases mp_insA (dl := nI n) (qn := qn) (yc := 0) (tm := tm) (tc := tc) (yn := xn) (md := md) (lo := lo) (en := en) (yo := yo) (ya := ya) (yb := yb) (yl := yl) (cu := cu) (ag := ag) (dO := dO) (dA := dA) (dB := dB) (st := st) (rg := rg) (pl := pl) (yv := yv) (yr := yr) (tr := tr) (yt := yt) (yi := yi) (mc := mc) (yk := yk) (ym := ym) (wt := wt) (li := li) (ye := ye) (qu := qu) (yd := yd) (ys := ys) (yz := yz) (ti := ti) ho v2 v3 with ⟨w, hX, hY1, hY2⟩ | ⟨hX, hY⟩
      · have JJ : i_Rel (k + 4) (nI (n + 1), nt, 0, tc, tm, xn, md, lo, en, upd dO n (nI o), upd dA n v2, upd dB n v3, xo, xa, xb, xl, st, xr, rg, xv, pl, tr, xk, xm, wt, xw, xt, xi, mc, tk, xe, xz, ti) (nI (n + 1), qn, 0, tm, tc, xn, md, lo, en, yo, ya, yb, yl, cu, ag, upd dO n (nI o), upd dA n v2, upd dB n v3, st, rg, pl, yv, yr, tr, yt, yi, mc, yk, ym, wt, li, ye, qu, yd, ys, yz, ti) := mi_mk ⟨mp_D_push hR.1 hn' w, hR.2⟩ (by omega) (by omega)
        refine br_f ge (hX _ (br_f (by decide) (And.intro In ?_)))
        rw [c, nI_1]
        refine nm_e ⟨In, nm_e ⟨In, nm_e (nm_e ?_)⟩⟩
        refine br_f ne (my_bel_t (n := 18) ho (by omega) (br_f (by decide) (hY1 _ (br_f (by decide) (hY2 _ (br_f (by decide) (And.intro In ?_)))))))
        rw [c, nI_1]
        exact nm_e ⟨In, nm_e ⟨In, nm_e (nm_e ⟨rfl, JJ⟩)⟩⟩
      · refine br_f ge (hX _ (br_t rfl (br_f ne (my_bel_t (n := 18) ho (by omega) (br_f (by decide) ?_)))))
        rcases hY with hY | ⟨hY1, hY2⟩
        · exact hY _ (br_t rfl ⟨rfl, J⟩)
        · exact hY1 _ (br_f (by decide) (hY2 _ (br_t rfl ⟨rfl, J⟩)))
    · refine br_f ge ?_
      have hX : ∀ post : Int32 → Prop, post 0 → wpX_isInstruction post v1 v2 v3 := fun post h => by
        rcases ho with ho | ⟨h0, h18⟩
        · exact br_t ho h
        · refine br_f h0 (br_t ?_ h)
          rw [Int32.le_iff_toInt_le, nI_toInt (by omega)] at h18
          rw [Int32.lt_iff_toInt_lt, show (17 : Int32).toInt = 17 from by decide]
          omega
      exact hX _ (br_t rfl (br_f ne (my_bel_f (n := 18) ho (br_t rfl ⟨rfl, J⟩))))
theorem i_vc_load {k : Nat} {u : SX} {v : SY} (I : i_Rel k u v) (hk : k + 4 ≤ 2048) (v1 : Int32) : wpX_load (fun r u' => wpY_load (fun r' v' => r' = r ∧ i_Rel (k + 4) u' v') v v1) u v1 := by
  obtain ⟨dl, nt, tc, md, lo, en, dO, dA, dB, xo, xa, xb, xl, st, xr, rg, xv, pl, tr, xk, xm, wt, xw, xt, xi, mc, tk, xe, xz, ti, qn, yo, ya, yb, yl, cu, ag, yv, yr, yt, yi, yk, ym, li, ye, qu, yd, ys, yz, tm, xn, rfl, rfl, hR⟩ := i_up I
  have J : i_Rel (k + 4) (dl, nt, 0, tc, tm, xn, md, lo, en, dO, dA, dB, xo, xa, xb, xl, st, xr, rg, xv, pl, tr, xk, xm, wt, xw, xt, xi, mc, tk, xe, xz, ti) (dl, qn, 0, tm, tc, xn, md, lo, en, yo, ya, yb, yl, cu, ag, dO, dA, dB, st, rg, pl, yv, yr, tr, yt, yi, mc, yk, ym, wt, li, ye, qu, yd, ys, yz, ti) := mi_mk hR (by omega) (by omega)
  rcases mp_bel v1 (n := 4) (by omega) with ⟨m, hm4, rfl⟩ | ⟨ho, _⟩
  · obtain ⟨n, hn, rfl, hok⟩ := hR.1
    by_cases h0 : n = 0
    · subst h0
      unfold wpX_load
      dsimp only
      refine mx_bel_t (n := 4) hm4 (by omega) (br_f (by decide) (br_t rfl ?_))
      unfold wpY_load
      dsimp only
      exact my_bel_t (n := 4) hm4 (by omega) (br_f (by decide) (br_t rfl ⟨rfl, J⟩))
    · obtain ⟨r, dl', xo', xa', xb', yo', ya', yb', xl', yl', cu', xv', ag', hX, hY, hR2⟩ := mp_load (nt := nt) (tc := tc) (tm := tm) (xn := xn) (md := md) (lo := lo) (en := en) (dO := dO) (dA := dA) (dB := dB) (xo := xo) (xa := xa) (xb := xb) (xl := xl) (st := st) (xr := xr) (rg := rg) (xv := xv) (pl := pl) (tr := tr) (xk := xk) (xm := xm) (wt := wt) (xw := xw) (xt := xt) (xi := xi) (mc := mc) (tk := tk) (xe := xe) (xz := xz) (ti := ti) (qn := qn) (yn := xn) (yo := yo) (ya := ya) (yb := yb) (yl := yl) (cu := cu) (ag := ag) (yv := yv) (yr := yr) (yt := yt) (yi := yi) (yk := yk) (ym := ym) (li := li) (ye := ye) (qu := qu) (yd := yd) (ys := ys) (yz := yz) hR hm4 (by omega) hn
      exact hX _ (hY _ ⟨rfl, mi_mk hR2 (by omega) (by omega)⟩)
  · unfold wpX_load
    dsimp only
    refine mx_bel_f (n := 4) ho (br_t rfl ?_)
    unfold wpY_load
    dsimp only
    exact my_bel_f (n := 4) ho (br_t rfl ⟨rfl, J⟩)
theorem i_vc_purge {k : Nat} {u : SX} {v : SY} (I : i_Rel k u v) (hk : k + 4 ≤ 2048) (v1 : Int32) : wpX_purge (fun r u' => wpY_purge (fun r' v' => r' = r ∧ i_Rel (k + 4) u' v') v v1) u v1 := by
  obtain ⟨dl, nt, tc, md, lo, en, dO, dA, dB, xo, xa, xb, xl, st, xr, rg, xv, pl, tr, xk, xm, wt, xw, xt, xi, mc, tk, xe, xz, ti, qn, yo, ya, yb, yl, cu, ag, yv, yr, yt, yi, yk, ym, li, ye, qu, yd, ys, yz, tm, xn, rfl, rfl, hR⟩ := i_up I
  have J : i_Rel (k + 4) (dl, nt, 0, tc, tm, xn, md, lo, en, dO, dA, dB, xo, xa, xb, xl, st, xr, rg, xv, pl, tr, xk, xm, wt, xw, xt, xi, mc, tk, xe, xz, ti) (dl, qn, 0, tm, tc, xn, md, lo, en, yo, ya, yb, yl, cu, ag, dO, dA, dB, st, rg, pl, yv, yr, tr, yt, yi, mc, yk, ym, wt, li, ye, qu, yd, ys, yz, ti) := mi_mk hR (by omega) (by omega)
  rcases mp_bel v1 (n := 4) (by omega) with ⟨m, hm4, rfl⟩ | ⟨ho, _⟩
  · have h0 := mp_G_R hR (G' := fun r v => r < 0 → v ≠ nI (2 * m + 1)) (fun r v _ z => absurd z (by omega))
    obtain ⟨cnt', ag', st', tk', nt', qu', qn', mc', xt', xi', yt', yi', lo', xr', xe', xz', xc', yd', ys', yz', yc', xk', yk', xm', ym', yr', en', hX, hY, hR2⟩ := mp_purge_l (dl := dl) (tc := tc) (tm := tm) (xn := xn) (md := md) (dO := dO) (dA := dA) (dB := dB) (xo := xo) (xa := xa) (xb := xb) (xl := xl) (rg := rg) (xv := xv) (pl := pl) (tr := tr) (wt := wt) (xw := xw) (ti := ti) (yn := xn) (yo := yo) (ya := ya) (yb := yb) (yl := yl) (cu := cu) (ag := ag) (yv := yv) (li := li) (ye := ye) hm4 8 0 rfl 0 st tk nt qu qn mc xt xi yt yi lo xr xe xz 0 yd ys yz 0 xk yk xm ym yr en h0
    unfold wpX_purge
    dsimp only
    refine mx_bel_t (n := 4) hm4 (by omega) (br_f (by decide) (nm_r (mp_2m1 m) ⟨9, hX _ 9 (by omega) ?_⟩))
    unfold wpY_purge
    dsimp only
    exact my_bel_t (n := 4) hm4 (by omega) (br_f (by decide) ⟨9, hY _ 9 (by omega) ⟨rfl, mi_mk hR2 (by omega) (by omega)⟩⟩)
  · unfold wpX_purge
    dsimp only
    refine mx_bel_f (n := 4) ho (br_t rfl ?_)
    unfold wpY_purge
    dsimp only
    exact my_bel_f (n := 4) ho (br_t rfl ⟨rfl, J⟩)
theorem i_vc_spawn {k : Nat} {u : SX} {v : SY} (I : i_Rel k u v) (hk : k + 4 ≤ 2048) (v1 : Int32) (v2 : Int32) : wpX_spawn (fun r u' => wpY_spawn (fun r' v' => r' = r ∧ i_Rel (k + 4) u' v') v v1 v2) u v1 v2 := by
  have eK := mi_K_s hk
  have bK := mi_K_b k
  obtain ⟨dl, nt, tc, md, lo, en, dO, dA, dB, xo, xa, xb, xl, st, xr, rg, xv, pl, tr, xk, xm, wt, xw, xt, xi, mc, tk, xe, xz, ti, qn, yo, ya, yb, yl, cu, ag, yv, yr, yt, yi, yk, ym, li, ye, qu, yd, ys, yz, tm, xn, rfl, rfl, hR⟩ := I
  have b := hR.2.2.2.2.2.2.2.2.2.1.2.1
  rcases mp_bel v1 (n := 4) (by omega) with ⟨m, hm4, rfl⟩ | ⟨ho, _⟩
  · obtain ⟨r, st', tk', nt', qu', qn', rg', pl', xv', yv', tr', md', hX, hY, hR2, _, _⟩ := mp_make (dl := dl) (nt := nt) (tc := tc) (tm := tm) (xn := xn) (md := md) (lo := lo) (en := en) (dO := dO) (dA := dA) (dB := dB) (xo := xo) (xa := xa) (xb := xb) (xl := xl) (st := st) (xr := xr) (rg := rg) (xv := xv) (pl := pl) (tr := tr) (xk := xk) (xm := xm) (wt := wt) (xw := xw) (xt := xt) (xi := xi) (mc := mc) (tk := tk) (xe := xe) (xz := xz) (ti := ti) (qn := qn) (yn := xn) (yo := yo) (ya := ya) (yb := yb) (yl := yl) (cu := cu) (ag := ag) (yv := yv) (yr := yr) (yt := yt) (yi := yi) (yk := yk) (ym := ym) (li := li) (ye := ye) (qu := qu) (yd := yd) (ys := ys) (yz := yz) hR hm4 v2 (fun z => absurd z (by omega)) (fun _ _ => trivial) (by omega)
    unfold wpX_spawn
    dsimp only
    refine mx_bel_t (n := 4) hm4 (by omega) (br_f (by decide) (hX _ ?_))
    unfold wpY_spawn
    dsimp only
    exact my_bel_t (n := 4) hm4 (by omega) (br_f (by decide) (hY _ ⟨rfl, mi_mk hR2 (by omega) (by omega)⟩))
  · unfold wpX_spawn
    dsimp only
    refine mx_bel_f (n := 4) ho (br_t rfl ?_)
    unfold wpY_spawn
    dsimp only
    exact my_bel_f (n := 4) ho (br_t rfl ⟨rfl, mi_mk hR (by omega) (by omega)⟩)
theorem i_vc_send {k : Nat} {u : SX} {v : SY} (I : i_Rel k u v) (hk : k + 4 ≤ 2048) (v1 : Int32) (v2 : Int32) (v3 : Int32) : wpX_send (fun r u' => wpY_send (fun r' v' => r' = r ∧ i_Rel (k + 4) u' v') v v1 v2 v3) u v1 v2 v3 := by
  obtain ⟨dl, nt, tc, md, lo, en, dO, dA, dB, xo, xa, xb, xl, st, xr, rg, xv, pl, tr, xk, xm, wt, xw, xt, xi, mc, tk, xe, xz, ti, qn, yo, ya, yb, yl, cu, ag, yv, yr, yt, yi, yk, ym, li, ye, qu, yd, ys, yz, tm, xn, rfl, rfl, hR⟩ := i_up I
  have J : i_Rel (k + 4) (dl, nt, 0, tc, tm, xn, md, lo, en, dO, dA, dB, xo, xa, xb, xl, st, xr, rg, xv, pl, tr, xk, xm, wt, xw, xt, xi, mc, tk, xe, xz, ti) (dl, qn, 0, tm, tc, xn, md, lo, en, yo, ya, yb, yl, cu, ag, dO, dA, dB, st, rg, pl, yv, yr, tr, yt, yi, mc, yk, ym, wt, li, ye, qu, yd, ys, yz, ti) := mi_mk hR (by omega) (by omega)
  unfold wpX_send
  dsimp only
  rcases mp_alx hR.2.2.2.2.1 v1 with ⟨p, hp, rfl, ha⟩ | ⟨hd, _⟩
  · rcases mp_bel v2 (n := 6) (by omega) with ⟨l, hl, rfl⟩ | ⟨ho, _⟩
    · obtain ⟨r, st', tk', nt', qu', qn', mc', xt', xi', yt', yi', lo', hX, hY, hR2, _, hr⟩ := mp_deliver (dl := dl) (nt := nt) (xc := 0) (tc := tc) (tm := tm) (xn := xn) (md := md) (lo := lo) (en := en) (dO := dO) (dA := dA) (dB := dB) (xo := xo) (xa := xa) (xb := xb) (xl := xl) (st := st) (xr := xr) (rg := rg) (xv := xv) (pl := pl) (tr := tr) (xk := xk) (xm := xm) (wt := wt) (xw := xw) (xt := xt) (xi := xi) (mc := mc) (tk := tk) (xe := xe) (xz := xz) (ti := ti) (qn := qn) (yc := 0) (yn := xn) (yo := yo) (ya := ya) (yb := yb) (yl := yl) (cu := cu) (ag := ag) (yv := yv) (yr := yr) (yt := yt) (yi := yi) (yk := yk) (ym := ym) (li := li) (ye := ye) (qu := qu) (yd := yd) (ys := ys) (yz := yz) hR hp ha (nI l) v3
      refine mx_al_t hp ha (br_f (by decide) (mx_bel_t (n := 6) hl (by omega) (br_f (by decide) (hX _ ?_))))
      rcases hr with rfl | rfl
      · refine br_t rfl ?_
        unfold wpY_send
        dsimp only
        exact my_al_t hp ha (br_f (by decide) (my_bel_t (n := 6) hl (by omega) (br_f (by decide) (hY _ (br_t rfl ⟨rfl, mi_mk hR2 (by omega) (by omega)⟩)))))
      · refine br_f (by decide) ?_
        unfold wpY_send
        dsimp only
        exact my_al_t hp ha (br_f (by decide) (my_bel_t (n := 6) hl (by omega) (br_f (by decide) (hY _ (br_f (by decide) ⟨rfl, mi_mk hR2 (by omega) (by omega)⟩)))))
    · refine mx_al_t hp ha (br_f (by decide) (mx_bel_f (n := 6) ho (br_t rfl ?_)))
      unfold wpY_send
      dsimp only
      exact my_al_t hp ha (br_f (by decide) (my_bel_f (n := 6) ho (br_t rfl ⟨rfl, J⟩)))
  · refine mx_al_f hd (br_t rfl ?_)
    unfold wpY_send
    dsimp only
    exact my_al_f hd (br_t rfl ⟨rfl, J⟩)
theorem i_vc_exit {k : Nat} {u : SX} {v : SY} (I : i_Rel k u v) (hk : k + 4 ≤ 2048) (v1 : Int32) (v2 : Int32) : wpX_exit (fun r u' => wpY_exit (fun r' v' => r' = r ∧ i_Rel (k + 4) u' v') v v1 v2) u v1 v2 := by
  obtain ⟨dl, nt, tc, md, lo, en, dO, dA, dB, xo, xa, xb, xl, st, xr, rg, xv, pl, tr, xk, xm, wt, xw, xt, xi, mc, tk, xe, xz, ti, qn, yo, ya, yb, yl, cu, ag, yv, yr, yt, yi, yk, ym, li, ye, qu, yd, ys, yz, tm, xn, rfl, rfl, hR⟩ := i_up I
  have J : i_Rel (k + 4) (dl, nt, 0, tc, tm, xn, md, lo, en, dO, dA, dB, xo, xa, xb, xl, st, xr, rg, xv, pl, tr, xk, xm, wt, xw, xt, xi, mc, tk, xe, xz, ti) (dl, qn, 0, tm, tc, xn, md, lo, en, yo, ya, yb, yl, cu, ag, dO, dA, dB, st, rg, pl, yv, yr, tr, yt, yi, mc, yk, ym, wt, li, ye, qu, yd, ys, yz, ti) := mi_mk hR (by omega) (by omega)
  unfold wpX_exit
  dsimp only
  rcases mp_alx hR.2.2.2.2.1 v1 with ⟨p, hp, rfl, ha⟩ | ⟨hd, _⟩
  · obtain ⟨st', tk', nt', qu', qn', mc', xt', xi', yt', yi', lo', xr', xe', xz', xc', yd', ys', yz', yc', st'', tk'', nt'', qu'', qn'', mc'', xt'', xi'', yt'', yi'', lo'', xr'', xe'', xz'', xc'', yd'', ys'', yz'', yc'', xk'', yk'', xm'', ym'', yr'', en'', hX1, hX2, hY, hR2⟩ := mp_strike (dl := dl) (nt := nt) (tc := tc) (tm := tm) (xn := xn) (md := md) (lo := lo) (en := en) (dO := dO) (dA := dA) (dB := dB) (xo := xo) (xa := xa) (xb := xb) (xl := xl) (st := st) (xr := xr) (rg := rg) (xv := xv) (pl := pl) (tr := tr) (xk := xk) (xm := xm) (wt := wt) (xw := xw) (xt := xt) (xi := xi) (mc := mc) (tk := tk) (xe := xe) (xz := xz) (ti := ti) (qn := qn) (yn := xn) (yo := yo) (ya := ya) (yb := yb) (yl := yl) (cu := cu) (ag := ag) (yv := yv) (yr := yr) (yt := yt) (yi := yi) (yk := yk) (ym := ym) (li := li) (ye := ye) (qu := qu) (yd := yd) (ys := ys) (yz := yz) hR hp ha (nI p) v2
    refine mx_al_t hp ha (br_f (by decide) (hX1 _ (hX2 _ ?_)))
    unfold wpY_exit
    dsimp only
    exact my_al_t hp ha (br_f (by decide) (hY _ ⟨rfl, mi_mk hR2 (by omega) (by omega)⟩))
  · refine mx_al_f hd (br_t rfl ?_)
    unfold wpY_exit
    dsimp only
    exact my_al_f hd (br_t rfl ⟨rfl, J⟩)
theorem i_vc_run {k : Nat} {u : SX} {v : SY} (I : i_Rel k u v) (hk : k + 4 ≤ 2048) (v1 : Int32) : wpX_run (fun r u' => wpY_run (fun r' v' => r' = r ∧ i_Rel (k + 4) u' v') v v1) u v1 := by
  have eK := mi_K_s hk
  have bK := mi_K_b k
  obtain ⟨dl, nt, tc, md, lo, en, dO, dA, dB, xo, xa, xb, xl, st, xr, rg, xv, pl, tr, xk, xm, wt, xw, xt, xi, mc, tk, xe, xz, ti, qn, yo, ya, yb, yl, cu, ag, yv, yr, yt, yi, yk, ym, li, ye, qu, yd, ys, yz, tm, xn, rfl, rfl, hR⟩ := I
  have J : i_Rel (k + 4) (dl, nt, 0, tc, tm, xn, md, lo, en, dO, dA, dB, xo, xa, xb, xl, st, xr, rg, xv, pl, tr, xk, xm, wt, xw, xt, xi, mc, tk, xe, xz, ti) (dl, qn, 0, tm, tc, xn, md, lo, en, yo, ya, yb, yl, cu, ag, dO, dA, dB, st, rg, pl, yv, yr, tr, yt, yi, mc, yk, ym, wt, li, ye, qu, yd, ys, yz, ti) := mi_mk hR (by omega) (by omega)
  by_cases h1 : v1 < 1
  · exact br_t h1 (br_t h1 ⟨rfl, J⟩)
  · by_cases h2 : (100 : Int32) < v1
    · exact br_f h1 (br_t h2 (br_f h1 (br_t h2 ⟨rfl, J⟩)))
    · by_cases h3 : tm ≤ 1000000000
      · have hv0 : 0 ≤ v1.toInt := by
          rw [Int32.lt_iff_toInt_lt, show (1 : Int32).toInt = 1 from by decide] at h1
          omega
        obtain ⟨N, _, rfl, eN⟩ := mp_nn hv0
        have hN : N ≤ 100 := by
          rw [Int32.lt_iff_toInt_lt, eN, show (100 : Int32).toInt = 100 from by decide] at h2
          omega
        have ht : tm.toInt ≤ 1000000000 := by
          rw [Int32.le_iff_toInt_le, show (1000000000 : Int32).toInt = 1000000000 from by decide] at h3
          exact h3
        have hR1 : (mp_D dl dO dA dB ∧ mp_C xo xa xb xl yo ya yb yl cu ∧ mp_V st xv yv xl cu ∧ mp_P st pl ∧ mp_S st ∧ mp_M st mc xt xi yt yi ∧ mp_K st xk yk ∧ mp_K st xm ym ∧ mp_W st xw li ye tm ∧ mp_T tm tc ti (1000000000 + 1008 * ((0 : Nat) : Int)) ∧ mp_Q st tk nt 8 qu qn ∧ mp_E st xr yr ∧ mp_Z 0 st xr xe xz 0 yd ys yz 0 ∧ mp_F st nt (2 * tm.toInt + (mi_K k + ((0 : Nat) : Int))) ∧ mp_G (fun _ _ => True) st xv yz) := by
          have hR0 := mp_F_R hR (C' := 2 * tm.toInt + (mi_K k + ((0 : Nat) : Int))) (by omega) (by omega)
          obtain ⟨hD, hC, hV, hP, hS, hM, hK, hm, hW, hT, hQ, hE, hZ, hF, hG⟩ := hR0
          obtain ⟨a, b, c, d, e⟩ := hT
          exact ⟨hD, hC, hV, hP, hS, hM, hK, hm, hW, ⟨a, by omega, c, d, e⟩, hQ, hE, hZ, hF, hG⟩
        obtain ⟨r, tm', dl', nt', tc', md', lo', en', dO', dA', dB', xo', xa', xb', xl', st', xr', rg', xv', pl', tr', xk', xm', wt', xw', xt', xi', mc', tk', xe', xz', ti', qn', yo', ya', yb', yl', cu', ag', yv', yr', yt', yi', yk', ym', li', ye', qu', yd', ys', yz', hX, hY, hR2⟩ := mp_run_l (xn := xn) hN (by omega) (by omega) N 0 (by omega) tm dl nt tc md lo en dO dA dB xo xa xb xl st xr rg xv pl tr xk xm wt xw xt xi mc tk xe xz ti qn yo ya yb yl cu ag yv yr yt yi yk ym li ye qu yd ys yz hR1
        have e0 : xn + nI 0 = xn := by
          rw [nI_0]
          exact Int32.add_zero xn
        rw [e0] at hY
        refine br_f h1 (br_f h2 (br_t h3 ⟨N + 1, hX _ _ (by omega) ?_⟩))
        exact br_f h1 (br_f h2 (br_t h3 ⟨N + 2, hY _ _ (by omega) ⟨rfl, mi_mk hR2 (by omega) (by omega)⟩⟩))
      · exact br_f h1 (br_f h2 (br_f h3 (br_f h1 (br_f h2 (br_f h3 ⟨rfl, J⟩)))))
end
end
section
section
variable {dl xc tc tm xn md lo en qn yc yn : Int32} {nt : Int64} {dO dA dB xo xa xb xl st xr rg xv pl tr xk xm wt xw xt xi mc xe xz ti yo ya yb yl cu ag yv yr yt yi yk ym li ye qu yd ys yz : Nat → Int32} {tk : Nat → Int64} {run i p : Nat} {T C : Int} {G : Nat → Int32 → Prop}
theorem mp_proc (hR : (mp_D dl dO dA dB ∧ mp_C xo xa xb xl yo ya yb yl cu ∧ mp_V st xv yv xl cu ∧ mp_P st pl ∧ mp_S st ∧ mp_M st mc xt xi yt yi ∧ mp_K st xk yk ∧ mp_K st xm ym ∧ mp_W st xw li ye tm ∧ mp_T tm tc ti T ∧ mp_Q st tk nt 8 qu qn ∧ mp_E st xr yr ∧ mp_Z 0 st xr xe xz 0 yd ys yz 0 ∧ mp_F st nt C ∧ mp_G (fun _ _ => True) st xv yz)) (v1 v2 : Int32) : ∃ r : Int32, (∀ post : Int32 → Prop, post r → wpX_process post (dl, nt, 0, tc, tm, xn, md, lo, en, dO, dA, dB, xo, xa, xb, xl, st, xr, rg, xv, pl, tr, xk, xm, wt, xw, xt, xi, mc, tk, xe, xz, ti) v1 v2) ∧ (∀ post : Int32 → Prop, post r → wpY_process post (dl, qn, 0, tm, tc, yn, md, lo, en, yo, ya, yb, yl, cu, ag, dO, dA, dB, st, rg, pl, yv, yr, tr, yt, yi, mc, yk, ym, wt, li, ye, qu, yd, ys, yz, ti) v1 v2) := by
  have hh := hR
  obtain ⟨hD, hC, hV, hP, hS, hM, hK, hm, hW, hT, hQ, hE, hZ, hF, hG⟩ := hh
  by_cases h8 : v2 = 8
  · subst h8
    rcases mp_alx hS v1 with ⟨p, hp, rfl, ha⟩ | ⟨hd, hd2⟩
    · have c := nI_clamp (n := p) (by omega)
      have Ip := vp_in_nI (n := p) (N := 8) hp (by omega)
      refine ⟨-1, fun post h => ?_, fun post h => ?_⟩
      · unfold wpX_process
        dsimp only
        exact mx_al_t hp ha (br_f (by decide) (br_f (by decide) (br_t (by decide) h)))
      · refine br_t rfl (my_bel_t (n := 8) hp (by omega) (br_f (by decide) ⟨Ip, ?_⟩))
        rw [c]
        exact br_f (mp_al_s ha).2 h
    · rcases mp_bel v1 (n := 8) (by omega) with ⟨j, hj, rfl⟩ | ⟨ho, _⟩
      · have c := nI_clamp (n := j) (by omega)
        have Ij := vp_in_nI (n := j) (N := 8) hj (by omega)
        by_cases h3 : st j = 3
        · have er := hE j hj h3
          refine ⟨yr j, fun post h => ?_, fun post h => ?_⟩
          · unfold wpX_process
            dsimp only
            refine mx_al_f hd (br_t rfl (br_t rfl (mx_bel_t (n := 8) hj (by omega) (br_f (by decide) ⟨Ij, ?_⟩))))
            rw [c, er]
            exact br_t h3 ⟨Ij, h⟩
          · refine br_t rfl (my_bel_t (n := 8) hj (by omega) (br_f (by decide) ⟨Ij, ?_⟩))
            rw [c]
            exact br_t h3 ⟨Ij, h⟩
        · refine ⟨-1, fun post h => ?_, fun post h => ?_⟩
          · unfold wpX_process
            dsimp only
            refine mx_al_f hd (br_t rfl (br_t rfl (mx_bel_t (n := 8) hj (by omega) (br_f (by decide) ⟨Ij, ?_⟩))))
            rw [c]
            exact br_f h3 h
          · refine br_t rfl (my_bel_t (n := 8) hj (by omega) (br_f (by decide) ⟨Ij, ?_⟩))
            rw [c]
            exact br_f h3 h
      · refine ⟨-1, fun post h => ?_, fun post h => ?_⟩
        · unfold wpX_process
          dsimp only
          exact mx_al_f hd (br_t rfl (br_t rfl (mx_bel_f (n := 8) ho (br_t rfl h))))
        · exact br_t rfl (my_bel_f (n := 8) ho (br_t rfl h))
  · rcases mp_alx hS v1 with ⟨p, hp, rfl, ha⟩ | ⟨hd, hd2⟩
    · have c := nI_clamp (n := p) (by omega)
      have Ip := vp_in_nI (n := p) (N := 8) hp (by omega)
      have n2 : ¬ (2 : Int32) = 0 := by decide
      obtain ⟨a, b, ha8, hb8, e1, e2, e3, _, e5⟩ := mp_old2 hV hp ha (m := 0) (by omega)
      obtain ⟨z, hz, hY80⟩ : ∃ z : Int32, ((z = 0 ∧ (¬ st p = 2 ∨ li p = 0)) ∨ (z = 1 ∧ st p = 2 ∧ ¬ li p = 0)) ∧ ∀ post : Int32 → Prop, wY_process_80 post (nI p) v2 (nI (b / 2)) z dl qn 0 tm tc yn md lo en yo ya yb yl cu ag dO dA dB st rg pl yv yr tr yt yi mc yk ym wt li ye qu yd ys yz ti → wpY_process post (dl, qn, 0, tm, tc, yn, md, lo, en, yo, ya, yb, yl, cu, ag, dO, dA, dB, st, rg, pl, yv, yr, tr, yt, yi, mc, yk, ym, wt, li, ye, qu, yd, ys, yz, ti) (nI p) v2 := by
        have pre : ∀ post : Int32 → Prop, ((st p = 2 → (vp_in (nI p) 8 ∧ ((li p = 0 → wY_process_79 post (nI p) v2 (nI (b / 2)) dl qn 0 tm tc yn md lo en yo ya yb yl cu ag dO dA dB st rg pl yv yr tr yt yi mc yk ym wt li ye qu yd ys yz ti) ∧ (¬ li p = 0 → wY_process_80 post (nI p) v2 (nI (b / 2)) 1 dl qn 0 tm tc yn md lo en yo ya yb yl cu ag dO dA dB st rg pl yv yr tr yt yi mc yk ym wt li ye qu yd ys yz ti)))) ∧ (¬ st p = 2 → wY_process_79 post (nI p) v2 (nI (b / 2)) dl qn 0 tm tc yn md lo en yo ya yb yl cu ag dO dA dB st rg pl yv yr tr yt yi mc yk ym wt li ye qu yd ys yz ti)) → wpY_process post (dl, qn, 0, tm, tc, yn, md, lo, en, yo, ya, yb, yl, cu, ag, dO, dA, dB, st, rg, pl, yv, yr, tr, yt, yi, mc, yk, ym, wt, li, ye, qu, yd, ys, yz, ti) (nI p) v2 := fun post w => by
          refine br_f h8 (my_al_t hp ha (br_f (by decide) ⟨Ip, n2, ?_⟩))
          rw [c, e2, mp_d2 (by omega)]
          exact nm_e ⟨Ip, w⟩
        by_cases s2 : st p = 2
        · by_cases l0 : li p = 0
          · exact ⟨0, Or.inl ⟨rfl, Or.inr l0⟩, fun post w => pre post (br_t s2 ⟨Ip, br_t l0 w⟩)⟩
          · exact ⟨1, Or.inr ⟨rfl, s2, l0⟩, fun post w => pre post (br_t s2 ⟨Ip, br_f l0 w⟩)⟩
        · exact ⟨0, Or.inl ⟨rfl, Or.inl s2⟩, fun post w => pre post (br_f s2 w)⟩
      rcases pk_ix v2 (n := 8) (by omega) with hlo | hhi | ⟨j, hj, ej⟩
      · refine ⟨-1, fun post h => ?_, fun post h => hY80 post (br_t hlo h)⟩
        unfold wpX_process
        dsimp only
        exact mx_al_t hp ha (br_f (by decide) (br_t hlo h))
      · have g0 : ¬ v2 < 0 := fun z => by
          rw [Int32.lt_iff_toInt_lt, show (0 : Int32).toInt = 0 from by decide] at z
          rw [Int32.le_iff_toInt_le, nI_toInt (by omega)] at hhi
          omega
        have g7 : (7 : Int32) < v2 := by
          rw [Int32.le_iff_toInt_le, nI_toInt (by omega)] at hhi
          rw [Int32.lt_iff_toInt_lt, show (7 : Int32).toInt = 7 from by decide]
          omega
        refine ⟨-1, fun post h => ?_, fun post h => hY80 post (br_f g0 (br_t g7 h))⟩
        unfold wpX_process
        dsimp only
        exact mx_al_t hp ha (br_f (by decide) (br_f g0 (br_t g7 h)))
      · have hc : j = 0 ∨ j = 1 ∨ j = 2 ∨ j = 3 ∨ j = 4 ∨ j = 5 ∨ j = 6 ∨ j = 7 := by omega
        subst ej
        rcases hc with rfl | rfl | rfl | rfl | rfl | rfl | rfl | rfl
        · refine ⟨pl p, fun post h => ?_, fun post h => hY80 post (br_f (by decide) (br_f (by decide) (br_t rfl ?_)))⟩
          · unfold wpX_process
            dsimp only
            refine mx_al_t hp ha (br_f (by decide) (br_f (by decide) (br_f (by decide) (br_t rfl ?_))))
            rw [c]
            exact ⟨Ip, h⟩
          · rw [c]
            exact ⟨Ip, h⟩
        · refine ⟨nI (b / 2), fun post h => ?_, fun post h => hY80 post (br_f (by decide) (br_f (by decide) (br_f (by decide) (br_t rfl ?_))))⟩
          · unfold wpX_process
            dsimp only
            refine mx_al_t hp ha (br_f (by decide) (br_f (by decide) (br_f (by decide) (br_f (by decide) (br_t rfl ?_)))))
            rw [c, e1, mp_d2 (by omega), ← e3]
            exact ⟨Ip, n2, h⟩
          · exact h
        · have ex : nI a - nI a / 2 * 2 = nI (a % 2) := pk_rem (d := 2) (by omega) (by omega) (by omega)
          refine ⟨nI (a % 2), fun post h => ?_, fun post h => hY80 post (br_f (by decide) (br_f (by decide) (br_f (by decide) (br_f (by decide) (br_t rfl ?_)))))⟩
          · unfold wpX_process
            dsimp only
            refine mx_al_t hp ha (br_f (by decide) (br_f (by decide) (br_f (by decide) (br_f (by decide) (br_f (by decide) (br_t rfl ?_))))))
            rw [c, e1, ex]
            exact ⟨Ip, n2, h⟩
          · refine my_old hS hV hp (by omega) (fun _ w => ?_) (fun w => ?_)
            · rw [e1, nI_eq (by omega) (by omega)] at w
              have e : a % 2 = 1 := by omega
              rw [e] at h
              exact br_f (by decide) h
            · have e : a % 2 = 0 := by
                rcases Nat.mod_two_eq_zero_or_one a with y | y
                · exact y
                · exact absurd ⟨ha, by rw [e1]; exact congrArg nI (by omega)⟩ w
              rw [e] at h
              exact br_t rfl h
        · refine ⟨mc p, fun post h => ?_, fun post h => hY80 post (br_f (by decide) (br_f (by decide) (br_f (by decide) (br_f (by decide) (br_f (by decide) (br_t rfl ?_))))))⟩
          · unfold wpX_process
            dsimp only
            refine mx_al_t hp ha (br_f (by decide) (br_f (by decide) (br_f (by decide) (br_f (by decide) (br_f (by decide) (br_f (by decide) (br_t rfl ?_)))))))
            rw [c]
            exact ⟨Ip, h⟩
          · rw [c]
            exact ⟨Ip, h⟩
        · refine ⟨xk p, fun post h => ?_, fun post h => hY80 post (br_f (by decide) (br_f (by decide) (br_f (by decide) (br_f (by decide) (br_f (by decide) (br_f (by decide) (br_t rfl ?_)))))))⟩
          · unfold wpX_process
            dsimp only
            refine mx_al_t hp ha (br_f (by decide) (br_f (by decide) (br_f (by decide) (br_f (by decide) (br_f (by decide) (br_f (by decide) (br_f (by decide) (br_t rfl ?_))))))))
            rw [c]
            exact ⟨Ip, h⟩
          · exact my_set hp 1 (Or.inr ⟨by decide, rfl⟩) hK h
        · refine ⟨xm p, fun post h => ?_, fun post h => hY80 post (br_f (by decide) (br_f (by decide) (br_f (by decide) (br_f (by decide) (br_f (by decide) (br_f (by decide) (br_f (by decide) (br_t rfl ?_))))))))⟩
          · unfold wpX_process
            dsimp only
            refine mx_al_t hp ha (br_f (by decide) (br_f (by decide) (br_f (by decide) (br_f (by decide) (br_f (by decide) (br_f (by decide) (br_f (by decide) (br_f (by decide) (br_t rfl ?_)))))))))
            rw [c]
            exact ⟨Ip, h⟩
          · exact my_set hp 0 (Or.inl ⟨rfl, rfl⟩) hm h
        · by_cases t0 : tr p = 0
          · refine ⟨0, fun post h => ?_, fun post h => hY80 post (br_f (by decide) (br_f (by decide) (br_f (by decide) (br_f (by decide) (br_f (by decide) (br_f (by decide) (br_f (by decide) (br_f (by decide) (br_t rfl ?_)))))))))⟩
            · unfold wpX_process
              dsimp only
              refine mx_al_t hp ha (br_f (by decide) (br_f (by decide) (br_f (by decide) (br_f (by decide) (br_f (by decide) (br_f (by decide) (br_f (by decide) (br_f (by decide) (br_f (by decide) (br_t rfl ?_))))))))))
              rw [c]
              exact ⟨Ip, br_t t0 h⟩
            · rw [c]
              exact ⟨Ip, br_t t0 h⟩
          · refine ⟨1, fun post h => ?_, fun post h => hY80 post (br_f (by decide) (br_f (by decide) (br_f (by decide) (br_f (by decide) (br_f (by decide) (br_f (by decide) (br_f (by decide) (br_f (by decide) (br_t rfl ?_)))))))))⟩
            · unfold wpX_process
              dsimp only
              refine mx_al_t hp ha (br_f (by decide) (br_f (by decide) (br_f (by decide) (br_f (by decide) (br_f (by decide) (br_f (by decide) (br_f (by decide) (br_f (by decide) (br_f (by decide) (br_t rfl ?_))))))))))
              rw [c]
              exact ⟨Ip, br_f t0 h⟩
            · rw [c]
              exact ⟨Ip, br_f t0 h⟩
        · have hXt : ∀ post : Int32 → Prop, wpX_timeLeft (fun r_56 => (post r_56)) (dl, nt, 0, tc, tm, xn, md, lo, en, dO, dA, dB, xo, xa, xb, xl, st, xr, rg, xv, pl, tr, xk, xm, wt, xw, xt, xi, mc, tk, xe, xz, ti) (nI p) → wpX_process post (dl, nt, 0, tc, tm, xn, md, lo, en, dO, dA, dB, xo, xa, xb, xl, st, xr, rg, xv, pl, tr, xk, xm, wt, xw, xt, xi, mc, tk, xe, xz, ti) (nI p) (nI 7) := fun post w => by
            unfold wpX_process
            dsimp only
            exact mx_al_t hp ha (br_f (by decide) (br_f (by decide) (br_f (by decide) (br_f (by decide) (br_f (by decide) (br_f (by decide) (br_f (by decide) (br_f (by decide) (br_f (by decide) (br_f (by decide) (br_t rfl w)))))))))))
          have hYt : ∀ post : Int32 → Prop, ((z = 0 → (post (-1))) ∧ (¬ z = 0 → (vp_in (nI p) 8 ∧ ((ye p ≤ tm → (post 0)) ∧ (¬ ye p ≤ tm → (vp_in (nI p) 8 ∧ (post (ye p - tm)))))))) → wpY_process post (dl, qn, 0, tm, tc, yn, md, lo, en, yo, ya, yb, yl, cu, ag, dO, dA, dB, st, rg, pl, yv, yr, tr, yt, yi, mc, yk, ym, wt, li, ye, qu, yd, ys, yz, ti) (nI p) (nI 7) := fun post w => by
            refine hY80 post (br_f (by decide) (br_f (by decide) (br_f (by decide) (br_f (by decide) (br_f (by decide) (br_f (by decide) (br_f (by decide) (br_f (by decide) (br_f (by decide) (br_t rfl ?_))))))))))
            rw [c]
            exact w
          rcases hz with ⟨rfl, hz⟩ | ⟨rfl, s2, l1⟩
          · refine ⟨-1, fun post h => hXt post ?_, fun post h => hYt post (br_t rfl h)⟩
            unfold wpX_timeLeft
            dsimp only
            rw [c]
            refine ⟨Ip, br_c (fun s2 => ⟨Ip, ?_⟩) (fun _ => h)⟩
            rcases hz with hz | hz
            · exact absurd s2 hz
            · rcases hW p hp s2 with ⟨_, w⟩ | ⟨w, _⟩
              · exact br_t w h
              · exact absurd hz w
          · obtain ⟨w1, w2⟩ : xw p = ye p ∧ ¬ xw p = -1 := by
              rcases hW p hp s2 with ⟨w, _⟩ | ⟨_, w, w', _⟩
              · exact absurd w l1
              · refine ⟨w, fun y => ?_⟩
                rw [← w, y, show (-1 : Int32).toInt = -1 from by decide] at w'
                omega
            by_cases hl : ye p ≤ tm
            · refine ⟨0, fun post h => hXt post ?_, fun post h => hYt post (br_f (by decide) ⟨Ip, br_t hl h⟩)⟩
              unfold wpX_timeLeft
              dsimp only
              rw [c]
              refine ⟨Ip, br_t s2 ⟨Ip, br_f w2 ⟨Ip, ?_⟩⟩⟩
              rw [w1]
              exact br_t hl h
            · refine ⟨ye p - tm, fun post h => hXt post ?_, fun post h => hYt post (br_f (by decide) ⟨Ip, br_f hl ⟨Ip, h⟩⟩)⟩
              unfold wpX_timeLeft
              dsimp only
              rw [c]
              refine ⟨Ip, br_t s2 ⟨Ip, br_f w2 ⟨Ip, ?_⟩⟩⟩
              rw [w1]
              exact br_f hl ⟨Ip, h⟩
    · refine ⟨-1, fun post h => ?_, fun post h => br_f h8 (my_al_f hd (br_t rfl h))⟩
      unfold wpX_process
      dsimp only
      exact mx_al_f hd (br_t rfl (br_f h8 h))
theorem i_vc_process {k : Nat} {u : SX} {v : SY} (I : i_Rel k u v) (hk : k + 4 ≤ 2048) (v1 : Int32) (v2 : Int32) : wpX_process (fun r => wpY_process (fun r' => r' = r ∧ i_Rel (k + 4) u v) v v1 v2) u v1 v2 := by
  have J := i_up I
  obtain ⟨dl, nt, tc, md, lo, en, dO, dA, dB, xo, xa, xb, xl, st, xr, rg, xv, pl, tr, xk, xm, wt, xw, xt, xi, mc, tk, xe, xz, ti, qn, yo, ya, yb, yl, cu, ag, yv, yr, yt, yi, yk, ym, li, ye, qu, yd, ys, yz, tm, xn, rfl, rfl, hR⟩ := I
  obtain ⟨r, hX, hY⟩ := mp_proc (dl := dl) (nt := nt) (tc := tc) (tm := tm) (xn := xn) (md := md) (lo := lo) (en := en) (dO := dO) (dA := dA) (dB := dB) (xo := xo) (xa := xa) (xb := xb) (xl := xl) (st := st) (xr := xr) (rg := rg) (xv := xv) (pl := pl) (tr := tr) (xk := xk) (xm := xm) (wt := wt) (xw := xw) (xt := xt) (xi := xi) (mc := mc) (tk := tk) (xe := xe) (xz := xz) (ti := ti) (qn := qn) (yn := xn) (yo := yo) (ya := ya) (yb := yb) (yl := yl) (cu := cu) (ag := ag) (yv := yv) (yr := yr) (yt := yt) (yi := yi) (yk := yk) (ym := ym) (li := li) (ye := ye) (qu := qu) (yd := yd) (ys := ys) (yz := yz) hR v1 v2
  exact hX _ (hY _ ⟨rfl, J⟩)
end
end
section
theorem mp_rows_end : True := trivial
end
