/-! THE BUNDLE: sets, costs, the least of what is to come -/
def mx2 (a b : Int) : Int := if a < b then b else a
def mn2 (a b : Int) : Int := if b < a then b else a
section
variable (M : Nat) (fk : Nat → Nat) (fa : Nat → Int)
def inF (set f : Nat) : Nat := cn (fun i => set.testBit i && decide (fk i = f)) 0 M
def crF (set i : Nat) : Nat := cn (fun j => set.testBit j && (decide (fk j = fk i) && decide (fa i < fa j))) 0 M
def spF (a b c : Int) : Int := mx2 0 (mx2 a (mx2 b c) - mn2 a (mn2 b c) - 1)
def coF (set i : Nat) : Int := crF M fk fa set i + spF (inF M fk (set ||| 2 ^ i) 0) (inF M fk (set ||| 2 ^ i) 1) (inF M fk (set ||| 2 ^ i) 2)
end
/-- the least, from i on -/
def mfF (c : Nat → Int) (q : Nat → Bool) : Nat → Nat → Int → Int
  | 0, _, acc => acc
  | j + 1, i, acc => mfF c q j (i + 1) (if q i = true then acc else mn2 acc (c i))
def nlF (q : Nat → Bool) : Nat → Nat → Nat
  | 0, acc => acc
  | i + 1, acc => nlF q i (if q i = true then i else acc)
section
variable (M : Nat) (fk : Nat → Nat) (fa : Nat → Int) (R : Nat → Int)
def eqR (set : Nat) : Prop := R set = if set = 2 ^ M - 1 then 0 else mfF (fun i => coF M fk fa set i + R (set ||| 2 ^ i)) (fun i => set.testBit i) M 0 1000000
def fitR (set i : Nat) : Bool := !(set.testBit i) && decide (coF M fk fa set i + R (set ||| 2 ^ i) = R set)
def nxR (set : Nat) : Nat := nlF (fitR M fk fa R set) M 0
def inR : Nat → Nat
  | 0 => 0
  | j + 1 => inR j ||| 2 ^ nxR M fk fa R (inR j)
end
theorem cn_cg {H H2 : Nat → Bool} {a : Nat} : ∀ n, (∀ i, i < n → H (a + i) = H2 (a + i)) → cn H a n = cn H2 a n := by
  intro n
  induction n with
  | zero => intro _; rfl
  | succ n ih => intro h; show cn H a n + _ = cn H2 a n + _; rw [ih (fun i hi => h i (by omega)), h n (by omega)]
theorem nlF_le {q : Nat → Bool} : ∀ (n acc i0 : Nat), i0 < n → q i0 = true → (∀ i, i < i0 → q i = false) → nlF q n acc = i0 := by
  intro n
  induction n with
  | zero => intro acc i0 h; omega
  | succ n ih =>
    intro acc i0 h h1 h2
    show nlF q n (if q n = true then n else acc) = i0
    by_cases c : i0 = n
    · rw [← c, if_pos h1]
      have : ∀ (m acc : Nat), m ≤ i0 → nlF q m acc = acc := by
        intro m
        induction m with
        | zero => intro acc _; rfl
        | succ m ihm =>
          intro acc hm
          show nlF q m (if q m = true then m else acc) = acc
          rw [h2 m (by omega)]
          exact ihm acc (by omega)
      exact this i0 i0 (Nat.le_refl _)
    · exact ih _ i0 (by omega) h1 h2
theorem mfF_le {c : Nat → Int} {q : Nat → Bool} : ∀ j i acc, mfF c q j i acc ≤ acc := by
  intro j
  induction j with
  | zero => intro i acc; exact Int.le_refl _
  | succ j ih =>
    intro i acc
    have := ih (i + 1) (if q i = true then acc else mn2 acc (c i))
    show mfF c q j (i + 1) (if q i = true then acc else mn2 acc (c i)) ≤ acc
    unfold mn2 at this ⊢
    by_cases c1 : q i = true
    · rw [if_pos c1] at this ⊢; exact this
    · rw [if_neg c1] at this ⊢
      by_cases c2 : c i < acc
      · rw [if_pos c2] at this ⊢; omega
      · rw [if_neg c2] at this ⊢; exact this
theorem mfF_le2 {c : Nat → Int} {q : Nat → Bool} : ∀ j i acc k, i ≤ k → k < i + j → q k = false → mfF c q j i acc ≤ c k := by
  intro j
  induction j with
  | zero => intro i acc k h1 h2; omega
  | succ j ih =>
    intro i acc k h1 h2 hq
    show mfF c q j (i + 1) (if q i = true then acc else mn2 acc (c i)) ≤ c k
    by_cases ck : k = i
    · subst ck
      rw [if_neg (by rw [hq]; decide)]
      have h3 : mn2 acc (c k) ≤ c k := by unfold mn2; split <;> omega
      have := mfF_le (c := c) (q := q) j (k + 1) (mn2 acc (c k))
      omega
    · exact ih _ _ k (by omega) (by omega) hq
/-- what it is: one of them, or what one began with -/
theorem mfF_at {c : Nat → Int} {q : Nat → Bool} : ∀ j i acc, mfF c q j i acc = acc ∨ ∃ k, i ≤ k ∧ k < i + j ∧ q k = false ∧ mfF c q j i acc = c k := by
  intro j
  induction j with
  | zero => intro i acc; exact Or.inl rfl
  | succ j ih =>
    intro i acc
    have e : mfF c q (j + 1) i acc = mfF c q j (i + 1) (if q i = true then acc else mn2 acc (c i)) := rfl
    rw [e]
    cases hq : q i with
    | true =>
      rw [if_pos rfl]
      rcases ih (i + 1) acc with h | ⟨k, k1, k2, k3, k4⟩
      · exact Or.inl h
      · exact Or.inr ⟨k, by omega, by omega, k3, k4⟩
    | false =>
      rw [if_neg (by decide)]
      rcases ih (i + 1) (mn2 acc (c i)) with h | ⟨k, k1, k2, k3, k4⟩
      · rw [h]
        unfold mn2
        split
        · exact Or.inr ⟨i, Nat.le_refl _, by omega, hq, rfl⟩
        · exact Or.inl rfl
      · exact Or.inr ⟨k, by omega, by omega, k3, k4⟩
theorem mfF_cg {c c2 : Nat → Int} {q : Nat → Bool} : ∀ j i acc, (∀ k, i ≤ k → k < i + j → q k = false → c k = c2 k) → mfF c q j i acc = mfF c2 q j i acc := by
  intro j
  induction j with
  | zero => intro i acc _; rfl
  | succ j ih =>
    intro i acc h
    show mfF c q j (i + 1) (if q i = true then acc else mn2 acc (c i)) = mfF c2 q j (i + 1) (if q i = true then acc else mn2 acc (c2 i))
    rw [ih _ _ (fun k h1 h2 => h k (by omega) (by omega))]
    cases hq : q i with
    | true => rfl
    | false => rw [h i (Nat.le_refl _) (by omega) hq]
/-! sets -/
theorem or_lt {set i M : Nat} (h : set < 2 ^ M) (hi : i < M) : set ||| 2 ^ i < 2 ^ M := Nat.or_lt_two_pow h (Nat.pow_lt_pow_right (by decide) hi)
theorem or_gt {set i : Nat} (h : set.testBit i = false) : set < set ||| 2 ^ i := by
  have h1 : set ≤ set ||| 2 ^ i := Nat.left_le_or
  rcases Nat.lt_or_ge set (set ||| 2 ^ i) with h2 | h2
  · exact h2
  · have e : set ||| 2 ^ i = set := by omega
    have : (set ||| 2 ^ i).testBit i = true := by rw [Nat.testBit_or, Nat.testBit_two_pow_self, Bool.or_true]
    rw [e, h] at this; exact absurd this (by decide)
theorem ex_out {set M : Nat} (h : set < 2 ^ M) (hn : set ≠ 2 ^ M - 1) : ∃ i, i < M ∧ set.testBit i = false := by
  refine Classical.byContradiction (fun z => hn ?_)
  refine Nat.eq_of_testBit_eq (fun i => ?_)
  rw [Nat.testBit_two_pow_sub_one]
  by_cases c : i < M
  · rw [decide_eq_true c]
    cases hb : set.testBit i with
    | true => rfl
    | false => exact absurd ⟨i, c, hb⟩ z
  · rw [decide_eq_false c]
    exact Nat.testBit_lt_two_pow (Nat.lt_of_lt_of_le h (Nat.pow_le_pow_right (by decide) (by omega)))
theorem cn_set {set M : Nat} : ∀ i, i < M → set.testBit i = false → cn (fun j => (set ||| 2 ^ i).testBit j) 0 M = cn (fun j => set.testBit j) 0 M + 1 := by
  intro i hi hb
  have h1 : cn (dropH (fun j => (set ||| 2 ^ i).testBit j) i) 0 M + 1 = cn (fun j => (set ||| 2 ^ i).testBit j) 0 M := cn_drop (by show (set ||| 2 ^ i).testBit i = true; rw [Nat.testBit_or, Nat.testBit_two_pow_self, Bool.or_true]) M (Nat.zero_le _) (by omega)
  rw [← h1]
  congr 1
  refine cn_cg M (fun j _ => ?_)
  unfold dropH
  by_cases c : 0 + j = i
  · rw [if_pos c, c]; exact hb.symm
  · rw [if_neg c]
    show (set ||| 2 ^ i).testBit (0 + j) = set.testBit (0 + j)
    rw [Nat.testBit_or, Nat.testBit_two_pow_of_ne (fun z => c z.symm), Bool.or_false]
theorem cn_all {M : Nat} : cn (fun j => (2 ^ M - 1).testBit j) 0 M = M := cn_iv M (fun i hi => by
  show (2 ^ M - 1).testBit (0 + i) = true
  rw [Nat.testBit_two_pow_sub_one, Nat.zero_add]; exact decide_eq_true hi)
theorem sp_b {a b c : Int} (ha : 0 ≤ a ∧ a ≤ 8) (hb : 0 ≤ b ∧ b ≤ 8) (hc : 0 ≤ c ∧ c ≤ 8) : 0 ≤ spF a b c ∧ spF a b c ≤ 8 := by
  unfold spF mx2 mn2
  repeat' split
  all_goals omega
section
variable {M : Nat} {fk : Nat → Nat} {fa : Nat → Int} {R R2 : Nat → Int}
theorem coF_b (hM : M ≤ 8) (set i : Nat) : 0 ≤ coF M fk fa set i ∧ coF M fk fa set i ≤ 16 := by
  have h1 := cn_le (fun j => set.testBit j && (decide (fk j = fk i) && decide (fa i < fa j))) 0 M
  have h2 := cn_le (fun j => (set ||| 2 ^ i).testBit j && decide (fk j = 0)) 0 M
  have h3 := cn_le (fun j => (set ||| 2 ^ i).testBit j && decide (fk j = 1)) 0 M
  have h4 := cn_le (fun j => (set ||| 2 ^ i).testBit j && decide (fk j = 2)) 0 M
  unfold coF crF inF
  have := sp_b (a := (cn (fun j => (set ||| 2 ^ i).testBit j && decide (fk j = 0)) 0 M : Int)) (b := (cn (fun j => (set ||| 2 ^ i).testBit j && decide (fk j = 1)) 0 M : Int)) (c := (cn (fun j => (set ||| 2 ^ i).testBit j && decide (fk j = 2)) 0 M : Int)) (by omega) (by omega) (by omega)
  omega
theorem eqR_bT (hM : M ≤ 8) {T : Nat} (h : ∀ set, T ≤ set → set < 2 ^ M → eqR M fk fa R set) : ∀ k set : Nat, T ≤ set → set + k = 2 ^ M - 1 → 0 ≤ R set ∧ R set ≤ 16 * k := by
  intro k
  induction k using Nat.strongRecOn with
  | _ k ih =>
    intro set hT hs
    have hp : 0 < 2 ^ M := Nat.pow_pos (by decide)
    have e := h set hT (by omega)
    unfold eqR at e
    by_cases c : set = 2 ^ M - 1
    · rw [if_pos c] at e; omega
    · rw [if_neg c] at e
      obtain ⟨i, hi, hb⟩ := ex_out (show set < 2 ^ M by omega) c
      have step : ∀ i, i < M → set.testBit i = false → ∃ k2, k2 < k ∧ T ≤ (set ||| 2 ^ i) ∧ (set ||| 2 ^ i) + k2 = 2 ^ M - 1 := fun i hi hb => by
        have g1 := or_lt (M := M) (show set < 2 ^ M by omega) hi
        have g2 := or_gt hb
        exact ⟨2 ^ M - 1 - (set ||| 2 ^ i), by omega, by omega, by omega⟩
      have up : R set ≤ 16 * k := by
        have h1 := mfF_le2 (c := fun i => coF M fk fa set i + R (set ||| 2 ^ i)) (q := fun i => set.testBit i) M 0 1000000 i (Nat.zero_le _) (by omega) hb
        rw [← e] at h1
        obtain ⟨k2, k3, k5, k4⟩ := step i hi hb
        have := ih k2 k3 _ k5 k4
        have hc := coF_b (fk := fk) (fa := fa) hM set i
        omega
      refine ⟨?_, up⟩
      rcases mfF_at (c := fun i => coF M fk fa set i + R (set ||| 2 ^ i)) (q := fun i => set.testBit i) M 0 1000000 with h1 | ⟨i, i1, i2, i3, h1⟩
      · rw [← e] at h1; omega
      · rw [← e] at h1
        obtain ⟨k2, k3, k5, k4⟩ := step i (by omega) i3
        have := ih k2 k3 _ k5 k4
        have hc := coF_b (fk := fk) (fa := fa) hM set i
        omega
theorem eqR_b (hM : M ≤ 8) (h : ∀ set, set < 2 ^ M → eqR M fk fa R set) (k set : Nat) (hs : set + k = 2 ^ M - 1) : 0 ≤ R set ∧ R set ≤ 16 * k := eqR_bT hM (T := 0) (fun set _ => h set) k set (Nat.zero_le _) hs
theorem pw8 {M : Nat} (hM : M ≤ 8) : 0 < 2 ^ M ∧ 2 ^ M ≤ 256 := ⟨Nat.pow_pos (by decide), by
  have := Nat.pow_le_pow_right (n := 2) (by decide) hM; exact this⟩
theorem eqR_b2 (hM : M ≤ 8) (h : ∀ set, set < 2 ^ M → eqR M fk fa R set) {set : Nat} (hs : set < 2 ^ M) : 0 ≤ R set ∧ R set ≤ 5000 := by
  have := pw8 hM
  have := eqR_b hM h (2 ^ M - 1 - set) set (by omega)
  omega
/-- some pole fits, as long as one is out -/
theorem fit_ex (hM : M ≤ 8) (h : ∀ set, set < 2 ^ M → eqR M fk fa R set) {set : Nat} (hs : set < 2 ^ M) (hn : set ≠ 2 ^ M - 1) : ∃ i, i < M ∧ fitR M fk fa R set i = true := by
  have e := h set hs
  have hb := eqR_b2 hM h hs
  unfold eqR at e
  rw [if_neg hn] at e
  rcases mfF_at (c := fun i => coF M fk fa set i + R (set ||| 2 ^ i)) (q := fun i => set.testBit i) M 0 1000000 with h1 | ⟨i, i1, i2, i3, h1⟩
  · rw [← e] at h1; omega
  · rw [← e] at h1
    refine ⟨i, by omega, ?_⟩
    unfold fitR
    rw [Bool.and_eq_true, Bool.not_eq_true', decide_eq_true_iff]
    exact ⟨i3, h1.symm⟩
theorem least_ex {q : Nat → Bool} {n : Nat} (h : ∃ i, i < n ∧ q i = true) : ∃ i, i < n ∧ q i = true ∧ ∀ j, j < i → q j = false := by
  obtain ⟨i, h1, h2⟩ := h
  induction i using Nat.strongRecOn with
  | _ i ih =>
    by_cases c : ∃ j, j < i ∧ q j = true
    · obtain ⟨j, j1, j2⟩ := c
      exact ih j j1 (by omega) j2
    · exact ⟨i, h1, h2, fun j hj => by
        cases hq : q j with
        | false => rfl
        | true => exact absurd ⟨j, hj, hq⟩ c⟩
theorem nx_ex (hM : M ≤ 8) (h : ∀ set, set < 2 ^ M → eqR M fk fa R set) {set : Nat} (hs : set < 2 ^ M) (hn : set ≠ 2 ^ M - 1) : nxR M fk fa R set < M ∧ fitR M fk fa R set (nxR M fk fa R set) = true ∧ ∀ j, j < nxR M fk fa R set → fitR M fk fa R set j = false := by
  obtain ⟨i, h1, h2, h3⟩ := least_ex (fit_ex hM h hs hn)
  have e : nxR M fk fa R set = i := nlF_le M 0 i h1 h2 h3
  rw [e]; exact ⟨h1, h2, h3⟩
theorem inR_ok (hM : M ≤ 8) (h : ∀ set, set < 2 ^ M → eqR M fk fa R set) : ∀ j, j ≤ M → inR M fk fa R j < 2 ^ M ∧ cn (fun i => (inR M fk fa R j).testBit i) 0 M = j := by
  intro j
  induction j with
  | zero =>
    intro _
    exact ⟨(pw8 hM).1, cn_z M (fun i _ => by show (0 : Nat).testBit (0 + i) = false; exact Nat.zero_testBit _)⟩
  | succ j ih =>
    intro hj
    obtain ⟨h1, h2⟩ := ih (by omega)
    have hn : inR M fk fa R j ≠ 2 ^ M - 1 := fun z => by rw [z, cn_all] at h2; omega
    obtain ⟨n1, n2, _⟩ := nx_ex hM h h1 hn
    have hb : (inR M fk fa R j).testBit (nxR M fk fa R (inR M fk fa R j)) = false := by
      unfold fitR at n2
      rw [Bool.and_eq_true, Bool.not_eq_true'] at n2
      exact n2.1
    refine ⟨or_lt h1 n1, ?_⟩
    show cn (fun i => (inR M fk fa R j ||| 2 ^ nxR M fk fa R (inR M fk fa R j)).testBit i) 0 M = j + 1
    rw [cn_set _ n1 hb, h2]
theorem inR_na (hM : M ≤ 8) (h : ∀ set, set < 2 ^ M → eqR M fk fa R set) {j : Nat} (hj : j < M) : inR M fk fa R j ≠ 2 ^ M - 1 := fun z => by
  have := (inR_ok hM h j (by omega)).2
  rw [z, cn_all] at this; omega
theorem eqR_un (h : ∀ set, set < 2 ^ M → eqR M fk fa R set) (h2 : ∀ set, set < 2 ^ M → eqR M fk fa R2 set) : ∀ k set : Nat, set + k = 2 ^ M - 1 → R set = R2 set := by
  intro k
  induction k using Nat.strongRecOn with
  | _ k ih =>
    intro set hs
    have hp : 0 < 2 ^ M := Nat.pow_pos (by decide)
    have e := h set (by omega)
    have e2 := h2 set (by omega)
    unfold eqR at e e2
    rw [e, e2]
    by_cases c : set = 2 ^ M - 1
    · rw [if_pos c, if_pos c]
    · rw [if_neg c, if_neg c]
      refine mfF_cg M 0 _ (fun i _ hi hb => ?_)
      have g1 := or_lt (M := M) (show set < 2 ^ M by omega) (show i < M by omega)
      have g2 := or_gt hb
      show coF M fk fa set i + R (set ||| 2 ^ i) = coF M fk fa set i + R2 (set ||| 2 ^ i)
      rw [ih (2 ^ M - 1 - (set ||| 2 ^ i)) (by omega) _ (by omega)]
end
