/-! counts below n -/
def mp_cn (P : Nat → Bool) : Nat → Nat
  | 0 => 0
  | n + 1 => mp_cn P n + (if P n = true then 1 else 0)
theorem mp_cn_s (P : Nat → Bool) (n : Nat) : mp_cn P (n + 1) = mp_cn P n + (if P n = true then 1 else 0) := rfl
theorem mp_cn_st {P : Nat → Bool} {n : Nat} (h : P n = true) : mp_cn P (n + 1) = mp_cn P n + 1 := by rw [mp_cn_s, if_pos h]
theorem mp_cn_sf {P : Nat → Bool} {n : Nat} (h : P n = false) : mp_cn P (n + 1) = mp_cn P n := by rw [mp_cn_s, if_neg (by rw [h]; exact Bool.false_ne_true), Nat.add_zero]
theorem mp_cn_le (P : Nat → Bool) : ∀ n, mp_cn P n ≤ n := by
  intro n
  induction n with
  | zero => exact Nat.le_refl 0
  | succ n ih => rw [mp_cn_s]; split <;> omega
theorem mp_cn_ext {P Q : Nat → Bool} : ∀ n, (∀ q, q < n → P q = Q q) → mp_cn P n = mp_cn Q n := by
  intro n
  induction n with
  | zero => intro _; rfl
  | succ n ih =>
    intro h
    rw [mp_cn_s, mp_cn_s, ih (fun q hq => h q (by omega)), h n (by omega)]
theorem mp_cn_lt {P : Nat → Bool} {p : Nat} (hp : P p = false) : ∀ n, p < n → mp_cn P n < n := by
  intro n
  induction n with
  | zero => intro h; omega
  | succ n ih =>
    intro h
    by_cases e : p = n
    · subst e
      have h1 := mp_cn_le P p
      rw [mp_cn_sf hp]
      omega
    · have h1 := ih (by omega)
      rw [mp_cn_s]
      split <;> omega
theorem mp_cn_add {P Q : Nat → Bool} {p : Nat} (hp : P p = false) (hq : Q p = true) : ∀ n, p < n → (∀ q, q < n → q ≠ p → P q = Q q) → mp_cn Q n = mp_cn P n + 1 := by
  intro n
  induction n with
  | zero => intro h; omega
  | succ n ih =>
    intro h H
    by_cases e : p = n
    · subst e
      rw [mp_cn_st hq, mp_cn_sf hp, mp_cn_ext p (fun q hq => H q (by omega) (by omega))]
    · have h1 := ih (by omega) (fun q hq => H q (by omega))
      rw [mp_cn_s, mp_cn_s, h1, H n (by omega) (fun z => e z.symm)]
      omega
theorem mp_cn_mono {P Q : Nat → Bool} : ∀ n, (∀ q, q < n → P q = true → Q q = true) → mp_cn P n ≤ mp_cn Q n := by
  intro n
  induction n with
  | zero => intro _; exact Nat.le_refl 0
  | succ n ih =>
    intro h
    have h1 := ih (fun q hq => h q (by omega))
    by_cases e : P n = true
    · rw [mp_cn_st e, mp_cn_st (h n (by omega) e)]; omega
    · rw [mp_cn_sf (Bool.eq_false_iff.mpr e), mp_cn_s]; omega
theorem mp_cn_0 {P : Nat → Bool} : ∀ n, (∀ q, q < n → P q = false) → mp_cn P n = 0 := by
  intro n
  induction n with
  | zero => intro _; rfl
  | succ n ih =>
    intro h
    rw [mp_cn_sf (h n (by omega))]
    exact ih (fun q hq => h q (by omega))
theorem mp_cn_list : ∀ (L : List Nat) (P : Nat → Bool) (n : Nat), L.Nodup → (∀ q, q ∈ L → q < n) → (∀ q, q < n → (P q = true ↔ q ∈ L)) → mp_cn P n = L.length := by
  intro L
  induction L with
  | nil =>
    intro P n _ _ h
    exact mp_cn_0 n (fun q hq => Bool.eq_false_iff.mpr (fun z => absurd ((h q hq).mp z) List.not_mem_nil))
  | cons a L ih =>
    intro P n hn hl h
    have hn' := List.nodup_cons.mp hn
    have ha := hl a List.mem_cons_self
    have e := ih (fun q => P q && decide (q ≠ a)) n hn'.2 (fun q hq => hl q (List.mem_cons_of_mem a hq)) (fun q hq => by
      show (P q && decide (q ≠ a)) = true ↔ q ∈ L
      rw [Bool.and_eq_true, decide_eq_true_eq, h q hq, List.mem_cons]
      constructor
      · rintro ⟨h1 | h1, h2⟩
        · exact absurd h1 h2
        · exact h1
      · intro h1
        exact ⟨Or.inr h1, fun z => hn'.1 (z ▸ h1)⟩)
    rw [mp_cn_add (P := fun q => P q && decide (q ≠ a)) (Q := P) (p := a) (by simp) ((h a ha).mpr List.mem_cons_self) n ha (fun q _ ne => by simp [ne]), e]
    rfl
theorem mp_len8 {L : List Nat} {p : Nat} (hn : L.Nodup) (hl : ∀ q, q ∈ L → q < 8) (hp : p < 8) (hx : ¬ p ∈ L) : L.length < 8 := by
  have h1 := mp_cn_list L (fun q => decide (q ∈ L)) 8 hn hl (fun q _ => decide_eq_true_iff)
  have h2 := mp_cn_lt (P := fun q => decide (q ∈ L)) (p := p) (decide_eq_false hx) 8 hp
  omega
theorem mp_len8' {L : List Nat} (hn : L.Nodup) (hl : ∀ q, q ∈ L → q < 8) : L.length ≤ 8 := by
  have h1 := mp_cn_list L (fun q => decide (q ∈ L)) 8 hn hl (fun q _ => decide_eq_true_iff)
  have h2 := mp_cn_le (fun q => decide (q ∈ L)) 8
  omega
theorem mp_pw {R : Nat → Nat → Prop} {L : List Nat} (h : L.Pairwise R) {i j a b : Nat} (hij : i < j) (ha : L[i]? = some a) (hb : L[j]? = some b) : R a b := by
  obtain ⟨hi, rfl⟩ := List.getElem?_eq_some_iff.mp ha
  obtain ⟨hj, rfl⟩ := List.getElem?_eq_some_iff.mp hb
  exact List.pairwise_iff_getElem.mp h i j hi hj hij
/-! arithmetic of the tickets -/
theorem mp_nt1 {x : Int64} (h0 : 0 ≤ x.toInt) (h : x.toInt < 2 ^ 62) : (x + 1).toInt = x.toInt + 1 := by
  rw [Int64.toInt_add, show (1 : Int64).toInt = 1 from by decide]
  exact Int.bmod_eq_of_le (by omega) (by omega)
theorem mp_t1 {x : Int32} (h0 : 0 ≤ x.toInt) (h : x.toInt < 2000000000) : (x + 1).toInt = x.toInt + 1 := by
  rw [Int32.toInt_add, show (1 : Int32).toInt = 1 from by decide]
  exact Int.bmod_eq_of_le (by omega) (by omega)
/-! the queue: Y's row, X's tickets; run: the one whose turn it is (8: none) -/
def mp_Q (st : Nat → Int32) (tk : Nat → Int64) (nt : Int64) (run : Nat) (qu : Nat → Int32) (qn : Int32) : Prop :=
  ∃ L : List Nat, qn = nI L.length ∧ (∀ i q, L[i]? = some q → qu i = nI q) ∧ (∀ q, q ∈ L ↔ q < 8 ∧ st q = 1 ∧ q ≠ run) ∧
    L.Pairwise (fun a b => (tk a).toInt < (tk b).toInt) ∧ (∀ q, q ∈ L → (tk q).toInt < nt.toInt) ∧ (run < 8 → st run ≠ 2)
theorem mp_nd {L : List Nat} {tk : Nat → Int64} (h : L.Pairwise (fun a b => (tk a).toInt < (tk b).toInt)) : L.Nodup :=
  h.imp (fun {a b} (h : (tk a).toInt < (tk b).toInt) e => by subst e; omega)
theorem mp_Q_enq {st : Nat → Int32} {tk : Nat → Int64} {nt : Int64} {run run' p : Nat} {qu : Nat → Int32} {qn : Int32} (h : mp_Q st tk nt run qu qn) (hp : p < 8) (hx : st p ≠ 1 ∨ p = run) (hr : ∀ q, q < 8 → (q ≠ run' ↔ q ≠ run ∨ q = p)) (hr' : run' < 8 → run' = run) (h0 : 0 ≤ nt.toInt) (hb : nt.toInt < 2 ^ 62) :
    ∃ n, n < 8 ∧ qn = nI n ∧ mp_Q (upd st p 1) (vp_updL tk p nt) (nt + 1) run' (upd qu n (nI p)) (nI (n + 1)) := by
  obtain ⟨L, e, hq, hm, hs, hl, h2⟩ := h
  have hnd := mp_nd hs
  have h8 : ∀ q, q ∈ L → q < 8 := fun q z => ((hm q).mp z).1
  have hpL : ¬ p ∈ L := fun z => by
    have w := (hm p).mp z
    rcases hx with hx | hx
    · exact hx w.2.1
    · exact w.2.2 hx
  have hne : ∀ q, q ∈ L → q ≠ p := fun q z w => hpL (w ▸ z)
  refine ⟨L.length, mp_len8 hnd h8 hp hpL, e, L ++ [p], by rw [List.length_append]; rfl, ?_, ?_, ?_, ?_, ?_⟩
  · intro i q h
    by_cases hi : i < L.length
    · rw [List.getElem?_append_left hi] at h
      rw [pk_un (by omega)]
      exact hq i q h
    · rw [List.getElem?_append_right (by omega)] at h
      obtain ⟨hj, hj2⟩ := List.getElem?_eq_some_iff.mp h
      have hj' : i - L.length < 1 := hj
      have : i = L.length := by omega
      subst this
      have e2 : q = p := by
        rw [← hj2]
        simp
      rw [e2, pk_us]
  · intro q
    rw [List.mem_append, hm q, List.mem_singleton]
    by_cases z : q = p
    · subst z
      rw [pk_us]
      exact ⟨fun _ => ⟨hp, rfl, (hr q hp).mpr (Or.inr rfl)⟩, fun _ => Or.inr rfl⟩
    · rw [pk_un z]
      constructor
      · rintro (⟨a, b, c⟩ | c)
        · exact ⟨a, b, (hr q a).mpr (Or.inl c)⟩
        · exact absurd c z
      · rintro ⟨a, b, c⟩
        rcases (hr q a).mp c with c | c
        · exact Or.inl ⟨a, b, c⟩
        · exact absurd c z
  · rw [List.pairwise_append]
    refine ⟨List.Pairwise.imp_of_mem (fun {a b} ha hb (w : (tk a).toInt < (tk b).toInt) => ?_) hs, List.pairwise_singleton _ _, ?_⟩
    · rw [pk_uLn (hne a ha), pk_uLn (hne b hb)]
      exact w
    · intro a ha b hb
      rw [List.mem_singleton] at hb
      subst hb
      rw [pk_uLn (hne a ha), pk_uLs]
      exact hl a ha
  · intro q hq
    rw [mp_nt1 h0 hb]
    rw [List.mem_append, List.mem_singleton] at hq
    rcases hq with hq | hq
    · rw [pk_uLn (hne q hq)]
      have := hl q hq
      omega
    · subst hq
      rw [pk_uLs]
      omega
  · intro w
    have w2 := hr' w
    subst w2
    by_cases z : run' = p
    · rw [z, pk_us]; decide
    · rw [pk_un z]; exact h2 w
def mp_fl (p : Nat) (L : List Nat) : List Nat := L.filter (fun q => decide (q ≠ p))
theorem mp_fl_m {p q : Nat} {L : List Nat} : q ∈ mp_fl p L ↔ q ∈ L ∧ q ≠ p := by
  unfold mp_fl
  rw [List.mem_filter, decide_eq_true_eq]
/-- what leave makes of the queue's row -/
def mp_lv (qu qu' : Nat → Int32) (qn qn' : Int32) (p : Nat) : Prop :=
  ∀ L : List Nat, qn = nI L.length → L.length < 2 ^ 31 → (∀ q, q ∈ L → q < 8) → (∀ i q, L[i]? = some q → qu i = nI q) → qn' = nI (mp_fl p L).length ∧ (∀ i q, (mp_fl p L)[i]? = some q → qu' i = nI q)
theorem mp_Q_out {st : Nat → Int32} {tk : Nat → Int64} {nt : Int64} {run p : Nat} {qu qu' : Nat → Int32} {qn qn' : Int32} (h : mp_Q st tk nt run qu qn) (hl : mp_lv qu qu' qn qn' p) : mp_Q (upd st p 3) tk nt run qu' qn' := by
  obtain ⟨L, e, hq, hm, hs, hb, h2⟩ := h
  have h8 : ∀ q, q ∈ L → q < 8 := fun q z => ((hm q).mp z).1
  have hlen := mp_len8' (mp_nd hs) h8
  obtain ⟨e1, e2⟩ := hl L e (by omega) h8 hq
  refine ⟨mp_fl p L, e1, e2, ?_, hs.filter _, fun q z => hb q (mp_fl_m.mp z).1, ?_⟩
  · intro q
    rw [mp_fl_m, hm q]
    by_cases z : q = p
    · subst z
      rw [pk_us]
      exact ⟨fun w => absurd rfl w.2, fun w => absurd w.2.1 (by decide)⟩
    · rw [pk_un z]
      exact ⟨fun w => w.1, fun w => ⟨w, z⟩⟩
  · intro w
    by_cases z : run = p
    · rw [z, pk_us]; decide
    · rw [pk_un z]; exact h2 w
theorem mp_Q_run {st : Nat → Int32} {tk : Nat → Int64} {nt : Int64} {p : Nat} {qu qu' : Nat → Int32} {qn qn' : Int32} (h : mp_Q st tk nt 8 qu qn) (hl : mp_lv qu qu' qn qn' p) (h1 : st p = 1) : mp_Q st tk nt p qu' qn' := by
  obtain ⟨L, e, hq, hm, hs, hb, h2⟩ := h
  have h8 : ∀ q, q ∈ L → q < 8 := fun q z => ((hm q).mp z).1
  have hlen := mp_len8' (mp_nd hs) h8
  obtain ⟨e1, e2⟩ := hl L e (by omega) h8 hq
  refine ⟨mp_fl p L, e1, e2, ?_, hs.filter _, fun q z => hb q (mp_fl_m.mp z).1, fun _ => by rw [h1]; decide⟩
  intro q
  rw [mp_fl_m, hm q]
  exact ⟨fun w => ⟨w.1.1, w.1.2.1, w.2⟩, fun w => ⟨⟨w.1, w.2.1, by omega⟩, w.2.2⟩⟩
theorem mp_rank {st : Nat → Int32} {tk : Nat → Int64} {L : List Nat} (hm : ∀ q, q ∈ L ↔ q < 8 ∧ st q = 1 ∧ q ≠ 8) (hs : L.Pairwise (fun a b => (tk a).toInt < (tk b).toInt)) {j p : Nat} (hj : L[j]? = some p) :
    mp_cn (fun q => decide (st q = 1) && decide ((tk q).toInt < (tk p).toInt)) 8 = j := by
  have hjl : j < L.length := (List.getElem?_eq_some_iff.mp hj).1
  have e := mp_cn_list (L.take j) (fun q => decide (st q = 1) && decide ((tk q).toInt < (tk p).toInt)) 8 (mp_nd (hs.sublist (List.take_sublist j L))) (fun q z => ((hm q).mp (List.mem_of_mem_take z)).1) (fun q hq => by
    show (decide (st q = 1) && decide ((tk q).toInt < (tk p).toInt)) = true ↔ q ∈ L.take j
    rw [Bool.and_eq_true, decide_eq_true_eq, decide_eq_true_eq]
    constructor
    · rintro ⟨a, b⟩
      obtain ⟨i, hi⟩ := List.mem_iff_getElem?.mp ((hm q).mpr ⟨hq, a, by omega⟩)
      rcases Nat.lt_trichotomy i j with w | w | w
      · exact List.mem_iff_getElem?.mpr ⟨i, by rw [List.getElem?_take_of_lt w]; exact hi⟩
      · subst w
        rw [hi] at hj
        have := Option.some.inj hj
        subst this
        omega
      · have := mp_pw hs w hj hi
        omega
    · intro z
      obtain ⟨i, hi⟩ := List.mem_iff_getElem?.mp z
      have hij : i < j := by
        have := (List.getElem?_eq_some_iff.mp hi).1
        rw [List.length_take] at this
        omega
      rw [List.getElem?_take_of_lt hij] at hi
      exact ⟨((hm q).mp (List.mem_iff_getElem?.mpr ⟨i, hi⟩)).2.1, mp_pw hs hij hi hj⟩)
  rw [e, List.length_take]
  omega
/-! sets of bits -/
theorem mp_b1 : ∀ i, i < 32 → bt 1 i = decide (i = 0) := by decide +kernel
theorem mp_hbv (x : Int32) {n : Nat} (hn : n < 32) : ((x >>> (nI n &&& 31)) &&& 1) = if bt x n = true then 1 else 0 := by
  apply b_ext
  intro i hi
  rw [b_and, b_sshr n hn x hi, mp_b1 i hi]
  by_cases e : i = 0
  · subst e
    rw [if_pos (show n + 0 < 32 from hn), Nat.add_zero]
    cases bt x n <;> decide +kernel
  · rw [decide_eq_false e, Bool.and_false]
    cases bt x n
    · exact (b_0 i).symm
    · exact ((mp_b1 i hi).trans (decide_eq_false e)).symm
theorem mp_hb {x : Int32} {n : Nat} (hn : n < 32) : ((x >>> (nI n &&& 31)) &&& 1) = 1 ↔ bt x n = true := by
  rw [mp_hbv x hn]
  cases bt x n <;> decide
theorem mp_01 (x : Int32) : x &&& 1 = 1 ∨ x &&& 1 = 0 := by
  have h := mp_hbv x (n := 0) (by decide)
  have e : x >>> (nI 0 &&& 31) = x := by
    apply b_ext
    intro i hi
    rw [b_sshr 0 (by decide) x hi, Nat.zero_add, if_pos hi]
  rw [e] at h
  rw [h]
  cases bt x 0
  · exact Or.inr rfl
  · exact Or.inl rfl
theorem mp_bor (x : Int32) {n i : Nat} (hn : n < 32) (hi : i < 32) : bt (x ||| ((1 : Int32) <<< (nI n &&& 31))) i = (bt x i || decide (i = n)) := by
  rw [b_or, b_shl n hn 1 hi]
  congr 1
  by_cases h : n ≤ i
  · rw [decide_eq_true h, Bool.true_and, mp_b1 (i - n) (by omega)]
    by_cases e : i = n
    · rw [decide_eq_true (show i - n = 0 by omega), decide_eq_true e]
    · rw [decide_eq_false (show ¬ i - n = 0 by omega), decide_eq_false e]
  · rw [decide_eq_false h, Bool.false_and, decide_eq_false (by omega)]
theorem mp_bcl (x : Int32) {n i : Nat} (hn : n < 32) (hi : i < 32) : bt (x &&& (((1 : Int32) <<< (nI n &&& 31)) ^^^ (-1))) i = (bt x i && decide (i ≠ n)) := by
  rw [b_and, b_xor, b_m1 i hi, b_shl n hn 1 hi]
  congr 1
  by_cases h : n ≤ i
  · rw [decide_eq_true h, Bool.true_and, mp_b1 (i - n) (by omega)]
    by_cases e : i = n
    · rw [decide_eq_true (show i - n = 0 by omega), decide_eq_false (by omega)]; rfl
    · rw [decide_eq_false (show ¬ i - n = 0 by omega), decide_eq_true (by omega)]; rfl
  · rw [decide_eq_false h, Bool.false_and, decide_eq_true (by omega)]; rfl
def mp_ac (x : Int32) (g : Nat → Bool) (k : Nat) : Prop := ∀ i, i < 32 → bt x i = (decide (i < k) && g i)
theorem mp_ac_0 (g : Nat → Bool) : mp_ac 0 g 0 := fun i _ => by rw [b_0, decide_eq_false (by omega)]; rfl
theorem mp_ac_z {g : Nat → Bool} {k : Nat} (h : ∀ i, i < k → g i = false) : mp_ac 0 g k := fun i _ => by
  rw [b_0]
  by_cases z : i < k
  · rw [h i z, Bool.and_false]
  · rw [decide_eq_false z]; rfl
theorem mp_ac_t {x : Int32} {g : Nat → Bool} {k : Nat} (h : mp_ac x g k) (hk : k < 32) (hg : g k = true) : mp_ac (x ||| ((1 : Int32) <<< (nI k &&& 31))) g (k + 1) := fun i hi => by
  rw [mp_bor x hk hi, h i hi]
  by_cases z : i = k
  · subst z
    rw [hg, decide_eq_true (show i < i + 1 by omega), decide_eq_true rfl, Bool.or_true]; rfl
  · rw [decide_eq_false z, Bool.or_false]
    by_cases w : i < k
    · rw [decide_eq_true w, decide_eq_true (show i < k + 1 by omega)]
    · rw [decide_eq_false w, decide_eq_false (show ¬ i < k + 1 by omega)]
theorem mp_ac_f {x : Int32} {g : Nat → Bool} {k : Nat} (h : mp_ac x g k) (hg : g k = false) : mp_ac x g (k + 1) := fun i hi => by
  rw [h i hi]
  by_cases z : i = k
  · subst z
    rw [hg, Bool.and_false, Bool.and_false]
  · by_cases w : i < k
    · rw [decide_eq_true w, decide_eq_true (show i < k + 1 by omega)]
    · rw [decide_eq_false w, decide_eq_false (show ¬ i < k + 1 by omega)]
theorem mp_ac_u {x y : Int32} {g : Nat → Bool} {k : Nat} (h : mp_ac x g k) (h' : mp_ac y g k) : x = y := b_ext (fun i hi => (h i hi).trans (h' i hi).symm)
theorem mp_ac_b {x : Int32} {g : Nat → Bool} {q : Nat} (h : mp_ac x g 8) (hq : q < 8) : bt x q = g q := by rw [h q (by omega), decide_eq_true hq]; rfl
theorem mp_ac_e {x : Int32} {g g' : Nat → Bool} {k : Nat} (h : mp_ac x g k) (e : ∀ i, i < k → g i = g' i) : mp_ac x g' k := fun i hi => by
  rw [h i hi]
  by_cases w : i < k
  · rw [e i w]
  · rw [decide_eq_false w]; rfl
theorem mp_ac_s {x : Int32} {g g' : Nat → Bool} {q : Nat} (h : mp_ac x g 8) (hq : q < 8) (e : ∀ i, i < 8 → g' i = (g i || decide (i = q))) : mp_ac (x ||| ((1 : Int32) <<< (nI q &&& 31))) g' 8 := fun i hi => by
  rw [mp_bor x (by omega) hi, h i hi]
  by_cases w : i < 8
  · rw [decide_eq_true w, e i w]; rfl
  · rw [decide_eq_false w, decide_eq_false (show ¬ i = q by omega)]; rfl
theorem mp_ac_c {x : Int32} {g g' : Nat → Bool} {q : Nat} (h : mp_ac x g 8) (hq : q < 8) (e : ∀ i, i < 8 → g' i = (g i && decide (i ≠ q))) : mp_ac (x &&& (((1 : Int32) <<< (nI q &&& 31)) ^^^ (-1))) g' 8 := fun i hi => by
  rw [mp_bcl x (by omega) hi, h i hi]
  by_cases w : i < 8
  · rw [decide_eq_true w, e i w]; rfl
  · rw [decide_eq_false w]; rfl
theorem mp_hbg {x : Int32} {g : Nat → Bool} {q : Nat} (h : mp_ac x g 8) (hq : q < 8) : ((x >>> (nI q &&& 31)) &&& 1) = 1 ↔ g q = true := by rw [mp_hb (by omega), mp_ac_b h hq]
