/-! ROWS: one after another, none left out -/
def cod (p : Nat → Nat) : Nat → Nat
  | 0 => 0
  | n + 1 => cod p n * 8 + p n
def swp (p : Nat → Nat) (i j : Nat) (t : Nat) : Nat := if t = j then p i else if t = i then p j else p t
theorem cod_cg {p q : Nat → Nat} : ∀ n, (∀ i, i < n → p i = q i) → cod p n = cod q n := by
  intro n
  induction n with
  | zero => intro _; rfl
  | succ n ih =>
    intro h
    show cod p n * 8 + p n = cod q n * 8 + q n
    rw [ih (fun i hi => h i (by omega)), h n (by omega)]
theorem cod_lt {N : Nat} {p q : Nat → Nat} (hp : ∀ i, i < N → p i < 8) {i : Nat} (hi : i < N) (he : ∀ t, t < i → p t = q t) (hl : p i < q i) : cod p N < cod q N := by
  have : ∀ n, i < n → n ≤ N → cod p n < cod q n := by
    intro n
    induction n with
    | zero => intro h; omega
    | succ n ih =>
      intro h hn
      show cod p n * 8 + p n < cod q n * 8 + q n
      by_cases c : i = n
      · subst c
        rw [cod_cg i he]; omega
      · have := ih (by omega) (by omega)
        have := hp n (by omega)
        omega
  exact this N hi (Nat.le_refl _)
theorem cod_tri (p q : Nat → Nat) : ∀ n : Nat, (∀ i, i < n → p i = q i) ∨ (∃ i, i < n ∧ (∀ t, t < i → p t = q t) ∧ p i < q i) ∨ ∃ i, i < n ∧ (∀ t, t < i → p t = q t) ∧ q i < p i := by
  intro n
  induction n with
  | zero => exact Or.inl (fun i hi => absurd hi (Nat.not_lt_zero i))
  | succ n ih =>
    rcases ih with h | ⟨i, h1, h2⟩ | ⟨i, h1, h2⟩
    · by_cases c : p n = q n
      · refine Or.inl (fun i hi => ?_)
        by_cases ci : i = n
        · rw [ci]; exact c
        · exact h i (by omega)
      · by_cases c2 : p n < q n
        · exact Or.inr (Or.inl ⟨n, by omega, h, c2⟩)
        · exact Or.inr (Or.inr ⟨n, by omega, h, by omega⟩)
    · exact Or.inr (Or.inl ⟨i, by omega, h2⟩)
    · exact Or.inr (Or.inr ⟨i, by omega, h2⟩)
section
variable {N : Nat} {p q : Nat → Nat}
/-- what stands at i in q stands in p at i or behind, if all before is alike -/
theorem prm_at (hp : prm N p) (hq : prm N q) {i : Nat} (hi : i < N) (he : ∀ t, t < i → q t = p t) : ∃ t, i ≤ t ∧ t < N ∧ q i = p t := by
  obtain ⟨t, h1, h2⟩ := hp.2.2 (q i) (hq.1 i hi)
  refine ⟨t, Nat.le_of_not_lt (fun z => ?_), h1, h2.symm⟩
  have := hq.2.1 t i h1 hi (by rw [he t z, h2])
  omega
theorem desc_all {j : Nat} (h : ∀ t, j ≤ t → t + 1 < N → p (t + 1) < p t) : ∀ t2 t1, j ≤ t1 → t1 < t2 → t2 < N → p t2 < p t1 := by
  intro t2
  induction t2 with
  | zero => intro t1 _ h1; omega
  | succ t2 ih =>
    intro t1 h0 h1 h2
    have := h t2 (by omega) h2
    by_cases c : t1 = t2
    · rw [c]; exact this
    · have := ih t1 h0 (by omega) (by omega); omega
/-- all from j on falls: no row alike before j is greater -/
theorem desc_max (hN : N ≤ 8) (hp : prm N p) (hq : prm N q) {j : Nat} (h : ∀ t, j ≤ t → t + 1 < N → p (t + 1) < p t) (he : ∀ t, t < N → t < j → q t = p t) : cod q N ≤ cod p N := by
  rcases cod_tri q p N with c | ⟨i, h1, h2, h3⟩ | ⟨i, h1, h2, h3⟩
  · rw [cod_cg N c]; exact Nat.le_refl _
  · exact Nat.le_of_lt (cod_lt (fun i hi => by have := hq.1 i hi; omega) h1 h2 h3)
  · obtain ⟨t, t1, t2, t3⟩ := prm_at hp hq h1 h2
    have hij : j ≤ i := Nat.le_of_not_lt (fun z => by rw [he i h1 z] at h3; omega)
    by_cases c : t = i
    · rw [c] at t3; omega
    · have := desc_all h t i hij (by omega) t2
      omega
theorem swp_prm (hp : prm N p) {i j : Nat} (hi : i < N) (hj : j < N) : prm N (swp p i j) := by
  obtain ⟨p1, p2, p3⟩ := hp
  refine ⟨fun t ht => ?_, fun t1 t2 h1 h2 he => ?_, fun k hk => ?_⟩
  · have := p1 t ht
    have := p1 i hi
    have := p1 j hj
    unfold swp; split
    · assumption
    · split <;> assumption
  · unfold swp at he
    have a := p2 i j hi hj
    have b := p2 i t2 hi h2
    have c := p2 j t2 hj h2
    have d := p2 t1 i h1 hi
    have e := p2 t1 j h1 hj
    have f := p2 t1 t2 h1 h2
    by_cases c1 : t1 = j
    · rw [if_pos c1] at he
      by_cases c2 : t2 = j
      · omega
      · rw [if_neg c2] at he
        by_cases c3 : t2 = i
        · rw [if_pos c3] at he; have := a he; omega
        · rw [if_neg c3] at he; have := b he; omega
    · rw [if_neg c1] at he
      by_cases c4 : t1 = i
      · rw [if_pos c4] at he
        by_cases c2 : t2 = j
        · rw [if_pos c2] at he; have := a he.symm; omega
        · rw [if_neg c2] at he
          by_cases c3 : t2 = i
          · omega
          · rw [if_neg c3] at he; have := c he; omega
      · rw [if_neg c4] at he
        by_cases c2 : t2 = j
        · rw [if_pos c2] at he; have := d he; omega
        · rw [if_neg c2] at he
          by_cases c3 : t2 = i
          · rw [if_pos c3] at he; have := e he; omega
          · rw [if_neg c3] at he; exact f he
  · obtain ⟨t, h1, h2⟩ := p3 k hk
    by_cases c1 : t = i
    · exact ⟨j, hj, by unfold swp; rw [if_pos rfl, ← c1]; exact h2⟩
    · by_cases c2 : t = j
      · refine ⟨i, hi, ?_⟩
        unfold swp
        by_cases c3 : i = j
        · omega
        · rw [if_neg c3, if_pos rfl, ← c2]; exact h2
      · exact ⟨t, h1, by unfold swp; rw [if_neg c2, if_neg c1]; exact h2⟩
/-- the row behind p -/
theorem next_ok (hN : N ≤ 8) (hp : prm N p) {x y : Nat} (hx : x < y) (hy : y < N) (hd : ∀ t, x + 1 ≤ t → t + 1 < N → p (t + 1) < p t) (hxy : p x < p y) (hl : ∀ t, y < t → t < N → p t < p x) {p2 : Nat → Nat} (hp2 : prm N p2) (e1 : ∀ i, i ≤ x → p2 i = swp p x y i) (e2 : ∀ i, x < i → i < N → p2 i = swp p x y (N + x - i)) : cod p N < cod p2 N ∧ ∀ q, prm N q → cod q N ≤ cod p2 N → cod q N ≤ cod p N ∨ ∀ i, i < N → q i = p2 i := by
  have hda := desc_all hd
  have ex : p2 x = p y := by rw [e1 x (Nat.le_refl _)]; unfold swp; rw [if_neg (by omega), if_pos rfl]
  have el : ∀ t, t < x → p2 t = p t := fun t ht => by rw [e1 t (by omega)]; unfold swp; rw [if_neg (by omega), if_neg (by omega)]
  -- it rises behind x
  have asc : ∀ t1 t2, x < t1 → t1 < t2 → t2 < N → p2 t1 < p2 t2 := fun t1 t2 h1 h2 h3 => by
    rw [e2 t1 h1 (by omega), e2 t2 (by omega) h3]
    have : ∀ u1 u2, x < u1 → u1 < u2 → u2 < N → swp p x y u2 < swp p x y u1 := fun u1 u2 g1 g2 g3 => by
      unfold swp
      rw [if_neg (show ¬ u1 = x by omega), if_neg (show ¬ u2 = x by omega)]
      by_cases c1 : u2 = y
      · rw [if_pos c1, if_neg (show ¬ u1 = y by omega)]
        have := hda y u1 (by omega) (by omega) hy
        omega
      · rw [if_neg c1]
        by_cases c2 : u1 = y
        · rw [if_pos c2]; exact hl u2 (by omega) g3
        · rw [if_neg c2]; exact hda u2 u1 (by omega) g2 g3
    exact this _ _ (by omega) (by omega) (by omega)
  refine ⟨cod_lt (fun i hi => by have := hp.1 i hi; omega) (show x < N by omega) (fun t ht => (el t ht).symm) (by omega), fun q hq hc => ?_⟩
  rcases cod_tri q p2 N with c | ⟨i, h1, h2, h3⟩ | ⟨i, h1, h2, h3⟩
  · exact Or.inr c
  · refine Or.inl ?_
    by_cases c1 : i < x
    · exact Nat.le_of_lt (cod_lt (fun i hi => by have := hq.1 i hi; omega) h1 (fun t ht => by rw [h2 t ht, el t (by omega)]) (by rw [← el i c1]; exact h3))
    · by_cases c2 : i = x
      · subst c2
        have he : ∀ t, t < i → q t = p t := fun t ht => by rw [h2 t ht, el t ht]
        obtain ⟨t, t1, t2, t3⟩ := prm_at hp hq h1 he
        by_cases c3 : t = i
        · refine desc_max hN hp hq hd (fun t ht ht2 => ?_)
          by_cases c4 : t = i
          · rw [c4, t3, c3]
          · exact he t (by omega)
        · have : y < t := Nat.lt_of_not_le (fun z => by
            by_cases c4 : t = y
            · rw [c4] at t3; omega
            · have := hda y t (by omega) (by omega) hy; omega)
          have := hl t this t2
          exact Nat.le_of_lt (cod_lt (fun i hi => by have := hq.1 i hi; omega) h1 he (by omega))
      · obtain ⟨t, t1, t2, t3⟩ := prm_at hp2 hq h1 h2
        by_cases c3 : t = i
        · rw [c3] at t3; omega
        · have := asc i t (by omega) (by omega) t2; omega
  · have := cod_lt (p := p2) (q := q) (fun i hi => by have := hp2.1 i hi; omega) h1 (fun t ht => (h2 t ht).symm) h3
    omega
theorem id_min (hN : N ≤ 8) (hq : prm N q) (hc : cod q N ≤ cod (fun i => i) N) : ∀ i, i < N → q i = i := by
  have hid : prm N (fun i => i) := ⟨fun i hi => hi, fun i j _ _ h => h, fun k hk => ⟨k, hk, rfl⟩⟩
  rcases cod_tri q (fun i => i) N with c | ⟨i, h1, h2, h3⟩ | ⟨i, h1, h2, h3⟩
  · exact c
  · obtain ⟨t, t1, t2, t3⟩ := prm_at hid hq h1 h2
    have t3 : q i = t := t3
    have h3 : q i < i := h3
    omega
  · have := cod_lt (p := fun i => i) (q := q) (fun i hi => by show i < 8; omega) h1 (fun t ht => (h2 t ht).symm) h3
    omega
theorem cod_b (hp : prm N p) (hN : N ≤ 8) : ∀ n, n ≤ N → cod p n < 8 ^ n := by
  intro n
  induction n with
  | zero => intro _; exact Nat.one_pos
  | succ n ih =>
    intro hn
    have := ih (by omega)
    have := hp.1 n (by omega)
    show cod p n * 8 + p n < 8 ^ (n + 1)
    rw [Nat.pow_succ]; omega
/-- there is a row in which they begin one after another -/
theorem srt_ex (b : Nat → Int) : ∀ n, ∃ p, prm n p ∧ srt n p b := by
  intro n
  induction n with
  | zero => exact ⟨fun i => i, ⟨fun i hi => hi, fun i j _ _ h => h, fun k hk => ⟨k, hk, rfl⟩⟩, fun i j _ hj => absurd hj (Nat.not_lt_zero j)⟩
  | succ n ih =>
    obtain ⟨p, ⟨p1, p2, p3⟩, hs⟩ := ih
    obtain ⟨i, ⟨i1, i2⟩, i3⟩ := least_P (q := fun i => i ≤ n ∧ (i < n → b n < b (p i))) ⟨n, Nat.le_refl _, fun z => absurd z (Nat.lt_irrefl n)⟩
    have low : ∀ t, t < i → b (p t) ≤ b n := fun t ht => Int.not_lt.mp (fun z => i3 t ht ⟨by omega, fun _ => z⟩)
    have high : ∀ t, i ≤ t → t < n → b n < b (p t) := fun t ht htn => by
      have := i2 (by omega)
      by_cases c : i = t
      · rw [← c]; exact this
      · have := hs i t (by omega) htn; omega
    have f1 : ∀ t, t < i → (fun t => if t < i then p t else if t = i then n else p (t - 1)) t = p t := fun t ht => if_pos ht
    have f2 : (fun t => if t < i then p t else if t = i then n else p (t - 1)) i = n := by show (if i < i then p i else if i = i then n else p (i - 1)) = n; rw [if_neg (Nat.lt_irrefl i), if_pos rfl]
    have f3 : ∀ t, i < t → (fun t => if t < i then p t else if t = i then n else p (t - 1)) t = p (t - 1) := fun t ht => by show (if t < i then p t else if t = i then n else p (t - 1)) = _; rw [if_neg (by omega), if_neg (by omega)]
    generalize (fun t => if t < i then p t else if t = i then n else p (t - 1)) = r at *
    have tri : ∀ t, t < i ∨ t = i ∨ i < t := fun t => by omega
    refine ⟨r, ⟨fun t ht => ?_, fun t1 t2 h1 h2 he => ?_, fun k hk => ?_⟩, fun t1 t2 h1 h2 => ?_⟩
    · rcases tri t with c | c | c
      · rw [f1 t c]; have := p1 t (by omega); omega
      · rw [c, f2]; omega
      · rw [f3 t c]; have := p1 (t - 1) (by omega); omega
    · rcases tri t1 with c | c | c <;> rcases tri t2 with e | e | e
      · rw [f1 t1 c, f1 t2 e] at he; exact p2 t1 t2 (by omega) (by omega) he
      · rw [f1 t1 c, e, f2] at he; have := p1 t1 (by omega); omega
      · rw [f1 t1 c, f3 t2 e] at he; have := p2 t1 (t2 - 1) (by omega) (by omega) he; omega
      · rw [c, f2, f1 t2 e] at he; have := p1 t2 (by omega); omega
      · omega
      · rw [c, f2, f3 t2 e] at he; have := p1 (t2 - 1) (by omega); omega
      · rw [f3 t1 c, f1 t2 e] at he; have := p2 (t1 - 1) t2 (by omega) (by omega) he; omega
      · rw [f3 t1 c, e, f2] at he; have := p1 (t1 - 1) (by omega); omega
      · rw [f3 t1 c, f3 t2 e] at he; have := p2 (t1 - 1) (t2 - 1) (by omega) (by omega) he; omega
    · by_cases c : k = n
      · exact ⟨i, by omega, by rw [f2, c]⟩
      · obtain ⟨t, h1, h2⟩ := p3 k (by omega)
        by_cases c2 : t < i
        · exact ⟨t, by omega, by rw [f1 t c2]; exact h2⟩
        · exact ⟨t + 1, by omega, by rw [f3 (t + 1) (by omega), Nat.add_sub_cancel]; exact h2⟩
    · rcases tri t1 with c | c | c <;> rcases tri t2 with e | e | e
      · rw [f1 t1 c, f1 t2 e]; exact hs t1 t2 h1 (by omega)
      · rw [f1 t1 c, e, f2]; exact low t1 c
      · rw [f1 t1 c, f3 t2 e]; have := low t1 c; have := high (t2 - 1) (by omega) (by omega); omega
      · omega
      · omega
      · rw [c, f2, f3 t2 e]; have := high (t2 - 1) (by omega) (by omega); omega
      · omega
      · omega
      · rw [f3 t1 c, f3 t2 e]
        exact hs (t1 - 1) (t2 - 1) (by omega) (by omega)
end
