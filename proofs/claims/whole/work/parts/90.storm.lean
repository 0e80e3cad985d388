/-! A STORM, as a function -/
def cn (H : Nat → Bool) (a : Nat) : Nat → Nat
  | 0 => 0
  | n + 1 => cn H a n + (if H (a + n) = true then 1 else 0)
theorem cn_le (H : Nat → Bool) (a : Nat) : ∀ n, cn H a n ≤ n := by
  intro n
  induction n with
  | zero => exact Nat.le_refl _
  | succ n ih => show cn H a n + _ ≤ n + 1; split <;> omega
theorem cn_pos {H : Nat → Bool} {a n k : Nat} (h1 : a ≤ k) (h2 : k < a + n) (hk : H k = true) : 0 < cn H a n := by
  induction n with
  | zero => omega
  | succ n ih =>
    show 0 < cn H a n + _
    by_cases c : k = a + n
    · rw [← c, if_pos hk]; omega
    · have := ih (by omega); omega
theorem cn_0 {H : Nat → Bool} {a n : Nat} (h : cn H a n = 0) : ∀ k, a ≤ k → k < a + n → H k = false := by
  intro k h1 h2
  cases hk : H k with
  | false => rfl
  | true => have := cn_pos (n := n) h1 h2 hk; omega
theorem cn_add (H : Nat → Bool) (a m : Nat) : ∀ n, cn H a (m + n) = cn H a m + cn H (a + m) n := by
  intro n
  induction n with
  | zero => rfl
  | succ n ih =>
    have e : a + (m + n) = a + m + n := by omega
    show cn H a (m + n) + (if H (a + (m + n)) = true then 1 else 0) = cn H a m + (cn H (a + m) n + (if H (a + m + n) = true then 1 else 0))
    rw [ih, e, Nat.add_assoc]
def dropH (H : Nat → Bool) (k i : Nat) : Bool := if i = k then false else H i
theorem cn_drop_out {H : Nat → Bool} {k a : Nat} : ∀ n, (k < a ∨ a + n ≤ k) → cn (dropH H k) a n = cn H a n := by
  intro n
  induction n with
  | zero => intro _; rfl
  | succ n ih =>
    intro h
    show cn (dropH H k) a n + _ = cn H a n + _
    have e : dropH H k (a + n) = H (a + n) := if_neg (by omega)
    rw [ih (by omega), e]
theorem cn_drop {H : Nat → Bool} {k a : Nat} (hk : H k = true) : ∀ n, a ≤ k → k < a + n → cn (dropH H k) a n + 1 = cn H a n := by
  intro n
  induction n with
  | zero => intro _ _; omega
  | succ n ih =>
    intro h1 h2
    show cn (dropH H k) a n + _ + 1 = cn H a n + _
    by_cases c : k = a + n
    · have e : dropH H k (a + n) = false := if_pos c.symm
      rw [cn_drop_out n (by omega), e, ← c, hk]; rfl
    · have e : dropH H k (a + n) = H (a + n) := if_neg (by omega)
      have := ih h1 (by omega)
      rw [e]; omega
/-- the worst, from i on -/
def wF (E : Nat → Int) (H : Nat → Bool) : Nat → Nat → Int × Int → Int × Int
  | 0, _, p => p
  | j + 1, i, p => wF E H j (i + 1) (if H i = true ∧ p.2 < E i then ((i : Int), E i) else p)
theorem wF_ge (E : Nat → Int) (H : Nat → Bool) : ∀ j i p, p.2 ≤ (wF E H j i p).2 := by
  intro j
  induction j with
  | zero => intro i p; exact Int.le_refl _
  | succ j ih =>
    intro i p
    unfold wF
    split
    · rename_i c
      have := ih (i + 1) ((i : Int), E i)
      simp only [] at this
      omega
    · exact ih _ _
theorem wF_st (E : Nat → Int) (H : Nat → Bool) : ∀ j i p, 0 ≤ p.2 → wF E H j i p = if p.2 < (wF E H j i (-1, 0)).2 then wF E H j i (-1, 0) else p := by
  intro j
  induction j with
  | zero => intro i p hp; exact (if_neg (by show ¬ p.2 < (0 : Int); omega)).symm
  | succ j ih =>
    intro i p hp
    have e : ∀ q, wF E H (j + 1) i q = wF E H j (i + 1) (if H i = true ∧ q.2 < E i then ((i : Int), E i) else q) := fun q => rfl
    rw [e p, e (-1, 0)]
    generalize hA : (if H i = true ∧ p.2 < E i then ((i : Int), E i) else p) = A
    generalize hB : (if H i = true ∧ ((-1 : Int), (0 : Int)).2 < E i then ((i : Int), E i) else (-1, 0)) = B
    by_cases h : H i = true
    · by_cases c1 : p.2 < E i
      · rw [if_pos ⟨h, c1⟩] at hA
        rw [if_pos ⟨h, show (0 : Int) < E i by omega⟩] at hB
        subst hA; subst hB
        have := wF_ge E H j (i + 1) ((i : Int), E i)
        rw [if_pos (by simp only [] at this; omega)]
      · rw [if_neg (fun z => c1 z.2)] at hA
        subst hA
        by_cases c2 : 0 < E i
        · rw [if_pos ⟨h, c2⟩] at hB
          subst hB
          rw [ih (i + 1) p hp, ih (i + 1) ((i : Int), E i) (by simp only []; omega)]
          by_cases c3 : p.2 < (wF E H j (i + 1) (-1, 0)).2
          · rw [if_pos c3]
            by_cases c4 : E i < (wF E H j (i + 1) (-1, 0)).2
            · rw [if_pos c4, if_pos c3]
            · rw [if_neg c4]; exact absurd (by omega) c4
          · rw [if_neg c3]
            by_cases c4 : E i < (wF E H j (i + 1) (-1, 0)).2
            · rw [if_pos c4, if_neg c3]
            · rw [if_neg c4, if_neg c1]
        · rw [if_neg (fun z => c2 z.2)] at hB
          subst hB
          exact ih _ p hp
    · rw [if_neg (fun z => h z.1)] at hA
      rw [if_neg (fun z => h z.1)] at hB
      subst hA; subst hB
      exact ih _ p hp
theorem wF_app (E : Nat → Int) (H : Nat → Bool) : ∀ a b i p, wF E H (a + b) i p = wF E H b (i + a) (wF E H a i p) := by
  intro a
  induction a with
  | zero => intro b i p; rw [Nat.zero_add]; rfl
  | succ a ih =>
    intro b i p
    rw [show a + 1 + b = (a + b) + 1 by omega]
    show wF E H (a + b) (i + 1) _ = wF E H b (i + (a + 1)) (wF E H a (i + 1) _)
    rw [ih, show i + 1 + a = i + (a + 1) by omega]
theorem wF_out (E : Nat → Int) {H : Nat → Bool} : ∀ j i p, (∀ k, i ≤ k → k < i + j → H k = false) → wF E H j i p = p := by
  intro j
  induction j with
  | zero => intro i p _; rfl
  | succ j ih =>
    intro i p h
    unfold wF
    rw [if_neg (fun z => by rw [h i (Nat.le_refl _) (by omega)] at z; exact absurd z.1 (by decide))]
    exact ih _ p (fun k h1 h2 => h k (by omega) (by omega))
def wOK (E : Nat → Int) (H : Nat → Bool) (a b : Nat) (p : Int × Int) : Prop := p = (-1, 0) ∨ ∃ k : Nat, a ≤ k ∧ k < b ∧ H k = true ∧ p = ((k : Int), E k) ∧ 0 < E k
theorem wF_ok {E : Nat → Int} {H : Nat → Bool} {a b : Nat} : ∀ j i p, a ≤ i → i + j ≤ b → wOK E H a b p → wOK E H a b (wF E H j i p) := by
  intro j
  induction j with
  | zero => intro i p _ _ h; exact h
  | succ j ih =>
    intro i p ha hb h
    unfold wF
    refine ih _ _ (by omega) (by omega) ?_
    split
    · rename_i c
      refine Or.inr ⟨i, ha, by omega, c.1, rfl, ?_⟩
      rcases h with h | ⟨k, _, _, _, h, h2⟩
      · rw [h] at c; exact c.2
      · rw [h] at c; have := c.2; simp only [] at this; omega
    · exact h
/-- the nearest, from i on -/
def nF (F : Nat → Int) (H : Nat → Bool) : Nat → Nat → Int × Int → Int × Int
  | 0, _, p => p
  | j + 1, i, p => nF F H j (i + 1) (if H i = true ∧ F i < p.2 then ((i : Int), F i) else p)
theorem nF_out (F : Nat → Int) {H : Nat → Bool} : ∀ j i p, (∀ k, i ≤ k → k < i + j → H k = false) → nF F H j i p = p := by
  intro j
  induction j with
  | zero => intro i p _; rfl
  | succ j ih =>
    intro i p h
    unfold nF
    rw [if_neg (fun z => by rw [h i (Nat.le_refl _) (by omega)] at z; exact absurd z.1 (by decide))]
    exact ih _ p (fun k h1 h2 => h k (by omega) (by omega))
theorem nF_app (E : Nat → Int) (H : Nat → Bool) : ∀ a b i p, nF E H (a + b) i p = nF E H b (i + a) (nF E H a i p) := by
  intro a
  induction a with
  | zero => intro b i p; rw [Nat.zero_add]; rfl
  | succ a ih =>
    intro b i p
    rw [show a + 1 + b = (a + b) + 1 by omega]
    show nF E H (a + b) (i + 1) _ = nF E H b (i + (a + 1)) (nF E H a (i + 1) _)
    rw [ih, show i + 1 + a = i + (a + 1) by omega]
/-- what the nearest of those from a to below b is -/
def nOK (F : Nat → Int) (H : Nat → Bool) (a b : Nat) (p : Int × Int) : Prop := (p = (-1, 24) ∧ ∀ k, a ≤ k → k < b → H k = false) ∨ ∃ k : Nat, a ≤ k ∧ k < b ∧ H k = true ∧ p = ((k : Int), F k) ∧ ∀ j, a ≤ j → j < b → H j = true → F k ≤ F j
theorem nF_ok {F : Nat → Int} {H : Nat → Bool} {a : Nat} (hF : ∀ k, F k < 24) : ∀ j i p, a ≤ i → nOK F H a i p → nOK F H a (i + j) (nF F H j i p) := by
  intro j
  induction j with
  | zero => intro i p _ h; exact h
  | succ j ih =>
    intro i p ha h
    unfold nF
    rw [show i + (j + 1) = i + 1 + j by omega]
    refine ih _ _ (by omega) ?_
    have hn : ∀ k, a ≤ k → k < i + 1 → k < i ∨ k = i := fun k _ _ => by omega
    split
    · rename_i c
      refine Or.inr ⟨i, ha, by omega, c.1, rfl, fun j2 h1 h2 h3 => ?_⟩
      rcases hn j2 h1 h2 with h4 | h4
      · rcases h with h | ⟨k, _, _, _, h, h5⟩
        · rw [h.2 j2 h1 h4] at h3; exact absurd h3 (by decide)
        · rw [h] at c
          have := c.2; simp only [] at this
          have := h5 j2 h1 h4 h3; omega
      · rw [h4]; exact Int.le_refl _
    · rename_i c
      rcases h with h | ⟨k, k1, k2, k3, h, h5⟩
      · refine Or.inl ⟨h.1, fun k h1 h2 => ?_⟩
        rcases hn k h1 h2 with h4 | h4
        · exact h.2 k h1 h4
        · cases hk : H k with
          | false => rfl
          | true =>
            refine absurd ⟨by rw [← h4]; exact hk, ?_⟩ c
            rw [h.1]; exact hF i
      · refine Or.inr ⟨k, k1, by omega, k3, h, fun j2 h1 h2 h3 => ?_⟩
        rcases hn j2 h1 h2 with h4 | h4
        · exact h5 j2 h1 h4 h3
        · rw [h4] at h3 ⊢
          rw [h] at c
          by_cases c2 : F i < F k
          · exact absurd ⟨h3, c2⟩ c
          · omega
abbrev bSt : Type := (Nat → Bool) × (Nat → Int) × Nat × (Nat → Nat × Int)
def addO (O : Nat → Int) (j y : Int) (i : Nat) : Int := if (i : Int) = j then O i + y else O i
theorem addO_nn {O : Nat → Int} {j y : Int} {i : Nat} (h : 0 ≤ O i) (hy : 0 ≤ y) : 0 ≤ addO O j y i := by unfold addO; split <;> omega
def kd (k : Nat) : Nat := if k < 16 then 0 else 16
section
variable (pl mg bs : Nat → Int) (rp : Int)
def lesS (H : Nat → Bool) : Int := if 0 < cn H 16 16 then rp / (cn H 16 16 : Int) else 0
def ldS (H : Nat → Bool) (O : Nat → Int) (k : Nat) : Int := (if bs k - (if k < 16 then 0 else lesS rp H) < 0 then 0 else bs k - (if k < 16 then 0 else lesS rp H)) + O k
def exS (H : Nat → Bool) (O : Nat → Int) (k : Nat) : Int := ldS bs rp H O k - mg k
def w0S (H : Nat → Bool) (O : Nat → Int) : Int × Int := wF (exS mg bs rp H O) H 16 0 (-1, 0)
def w1S (H : Nat → Bool) (O : Nat → Int) : Int × Int := wF (exS mg bs rp H O) H 16 16 (-1, 0)
def wS (H : Nat → Bool) (O : Nat → Int) : Int × Int := if (w0S mg bs rp H O).2 < (w1S mg bs rp H O).2 then w1S mg bs rp H O else w0S mg bs rp H O
def fS (k : Nat) (st : Int) (j : Nat) : Int := ((pl j - pl k) * st) % 24
def nbS (H : Nat → Bool) (k : Nat) (st : Int) : Int := (nF (fS pl k st) H 16 (kd k) (-1, 24)).1
def loO (H : Nat → Bool) (O : Nat → Int) (k : Nat) (y : Int) : Nat → Int := if nbS pl (dropH H k) k 1 = -1 then O else addO (addO O (nbS pl (dropH H k) k 1) (y / 2)) (nbS pl (dropH H k) k (-1)) (y - y / 2)
def nxS (S : bSt) (k : Nat) : bSt := (dropH S.1 k, loO pl S.1 S.2.1 k (ldS bs rp S.1 S.2.1 k), S.2.2.1 + 1, fun i => if i = S.2.2.1 then (k, exS mg bs rp S.1 S.2.1 k) else S.2.2.2 i)
def rnS : Nat → bSt → bSt
  | 0, S => S
  | f + 1, S => if (wS mg bs rp S.1 S.2.1).1 = -1 then S else rnS f (nxS pl mg bs rp S (wS mg bs rp S.1 S.2.1).1.toNat)
end
/-! what stays -/
def smS (f : Nat → Int) : Nat → Int
  | 0 => 0
  | n + 1 => smS f n + f n
theorem smS_cg {f g : Nat → Int} : ∀ n, (∀ k, k < n → f k = g k) → smS f n = smS g n := by
  intro n
  induction n with
  | zero => intro _; rfl
  | succ n ih => intro h; show smS f n + f n = smS g n + g n; rw [ih (fun k hk => h k (by omega)), h n (by omega)]
theorem smS_up {f g : Nat → Int} {j : Nat} : ∀ n, j < n → (∀ k, k < n → k ≠ j → g k = f k) → smS g n = smS f n + g j - f j := by
  intro n
  induction n with
  | zero => intro h; omega
  | succ n ih =>
    intro hj h
    show smS g n + g n = smS f n + f n + g j - f j
    by_cases c : j = n
    · subst c
      rw [smS_cg j (fun k hk => h k (by omega) (by omega))]; omega
    · rw [ih (by omega) (fun k hk hk2 => h k (by omega) hk2), h n (by omega) (fun z => c z.symm)]; omega
theorem smS_nn {f : Nat → Int} : ∀ n, (∀ k, k < n → 0 ≤ f k) → 0 ≤ smS f n := by
  intro n
  induction n with
  | zero => intro _; exact Int.le_refl _
  | succ n ih => intro h; show 0 ≤ smS f n + f n; have := ih (fun k hk => h k (by omega)); have := h n (by omega); omega
theorem smS_one {f : Nat → Int} {j : Nat} : ∀ n, (∀ k, k < n → 0 ≤ f k) → j < n → f j ≤ smS f n := by
  intro n
  induction n with
  | zero => intro _ h; omega
  | succ n ih =>
    intro h hj
    show f j ≤ smS f n + f n
    by_cases c : j = n
    · subst c; have := smS_nn j (fun k hk => h k (by omega)); omega
    · have := ih (fun k hk => h k (by omega)) (by omega); have := h n (by omega); omega
def tot (bs : Nat → Int) (H : Nat → Bool) (O : Nat → Int) : Int := smS (fun k => if H k = true then bs k + O k else 0) 32
/-- what holds of the rings: places, mights, presses, and the state of a STORM -/
def rgS (NP NG : Nat) (pl mg bs : Nat → Int) (rp : Int) : Prop := (NP ≤ 16 ∧ NG ≤ 16) ∧ (∀ k, k < 32 → 0 ≤ bs k ∧ bs k ≤ 486) ∧ (∀ k, (k < NP ∨ 16 ≤ k ∧ k < 16 + NG) → (0 ≤ pl k ∧ pl k ≤ 23) ∧ 1 ≤ mg k ∧ mg k ≤ 999) ∧ (0 ≤ rp ∧ rp ≤ 999) ∧ (∀ i j, (i < NP ∧ j < NP ∨ 16 ≤ i ∧ i < 16 + NG ∧ 16 ≤ j ∧ j < 16 + NG) → pl i = pl j → i = j)
def okS (NP NG : Nat) (bs : Nat → Int) (S : bSt) : Prop := (∀ k, S.1 k = true → k < NP ∨ 16 ≤ k ∧ k < 16 + NG) ∧ (∀ k, 0 ≤ S.2.1 k) ∧ tot bs S.1 S.2.1 ≤ 15552 ∧ S.2.2.1 + cn S.1 0 32 ≤ 32 ∧ ∀ i, i < S.2.2.1 → (S.2.2.2 i).1 < 32 ∧ 0 ≤ (S.2.2.2 i).2 ∧ (S.2.2.2 i).2 ≤ 100000
section
variable {NP NG : Nat} {pl mg bs : Nat → Int} {rp : Int} {S : bSt}
theorem ok_32 (h : okS NP NG bs S) (hr : rgS NP NG pl mg bs rp) {k : Nat} (hk : S.1 k = true) : k < 32 := by
  have := h.1 k hk; have := hr.1; omega
theorem ok_b (h : okS NP NG bs S) (hr : rgS NP NG pl mg bs rp) {k : Nat} (hk : S.1 k = true) : 0 ≤ bs k + S.2.1 k ∧ bs k + S.2.1 k ≤ 15552 := by
  have h32 := ok_32 h hr hk
  have hb := hr.2.1 k h32
  have hO := h.2.1 k
  have := smS_one (f := fun k => if S.1 k = true then bs k + S.2.1 k else 0) (j := k) 32 (fun i hi => by
    show 0 ≤ if S.1 i = true then bs i + S.2.1 i else 0
    have := hr.2.1 i hi; have := h.2.1 i
    split <;> omega) h32
  have h3 := h.2.2.1
  unfold tot at h3
  simp only [hk, if_true] at this
  omega
theorem les_b (hr : rgS NP NG pl mg bs rp) (H : Nat → Bool) : 0 ≤ lesS rp H ∧ lesS rp H ≤ 999 := by
  have := hr.2.2.2.1
  unfold lesS; split
  · have h1 : 0 ≤ rp / (cn H 16 16 : Int) := Int.ediv_nonneg this.1 (by omega)
    have h2 : rp / (cn H 16 16 : Int) ≤ rp := Int.ediv_le_self _ this.1
    omega
  · omega
theorem ld_b (h : okS NP NG bs S) (hr : rgS NP NG pl mg bs rp) {k : Nat} (hk : S.1 k = true) : 0 ≤ ldS bs rp S.1 S.2.1 k ∧ ldS bs rp S.1 S.2.1 k ≤ bs k + S.2.1 k ∧ ldS bs rp S.1 S.2.1 k ≤ 15552 := by
  have hl := les_b hr S.1
  have hb := ok_b h hr hk
  have h32 := ok_32 h hr hk
  have hbk := hr.2.1 k h32
  have hO := h.2.1 k
  unfold ldS
  split <;> split <;> omega
/-- the worst of all is one of those that hold, with an excess above 0 -/
theorem wS_ok (H : Nat → Bool) (O : Nat → Int) : wOK (exS mg bs rp H O) H 0 32 (wS mg bs rp H O) := by
  have h0 : wOK (exS mg bs rp H O) H 0 32 (w0S mg bs rp H O) := wF_ok 16 0 _ (Nat.le_refl _) (by decide) (Or.inl rfl)
  have h1 : wOK (exS mg bs rp H O) H 0 32 (w1S mg bs rp H O) := wF_ok 16 16 _ (by decide) (by decide) (Or.inl rfl)
  unfold wS; split
  · exact h1
  · exact h0
/-- the worst of all in one go -/
theorem wS_all (H : Nat → Bool) (O : Nat → Int) : wF (exS mg bs rp H O) H 32 0 (-1, 0) = wS mg bs rp H O := by
  have e : wF (exS mg bs rp H O) H 32 0 (-1, 0) = wF (exS mg bs rp H O) H 16 16 (w0S mg bs rp H O) := wF_app _ H 16 16 0 _
  have h0 := wF_ge (exS mg bs rp H O) H 16 0 (-1, 0)
  rw [e, wF_st _ H 16 16 (w0S mg bs rp H O) h0]
  rfl
theorem nb_ok (H : Nat → Bool) (k : Nat) (st : Int) : nOK (fS pl k st) H (kd k) (kd k + 16) (nF (fS pl k st) H 16 (kd k) (-1, 24)) :=
  nF_ok (fun j => by unfold fS; omega) 16 (kd k) _ (Nat.le_refl _) (Or.inl ⟨rfl, fun j h1 h2 => by omega⟩)
theorem nb_cases (H : Nat → Bool) (k : Nat) : (nbS pl H k 1 = -1 ∧ nbS pl H k (-1) = -1 ∧ ∀ j, kd k ≤ j → j < kd k + 16 → H j = false) ∨ ∃ a b : Nat, nbS pl H k 1 = a ∧ nbS pl H k (-1) = b ∧ (kd k ≤ a ∧ a < kd k + 16 ∧ H a = true) ∧ (kd k ≤ b ∧ b < kd k + 16 ∧ H b = true) := by
  have h1 := nb_ok (pl := pl) H k 1
  have h2 := nb_ok (pl := pl) H k (-1)
  unfold nbS
  rcases h1 with ⟨e1, f1⟩ | ⟨a, a1, a2, a3, e1, _⟩
  · rcases h2 with ⟨e2, f2⟩ | ⟨b, b1, b2, b3, e2, _⟩
    · exact Or.inl ⟨by rw [e1], by rw [e2], f1⟩
    · rw [f1 b b1 b2] at b3; exact absurd b3 (by decide)
  · rcases h2 with ⟨e2, f2⟩ | ⟨b, b1, b2, b3, e2, _⟩
    · rw [f2 a a1 a2] at a3; exact absurd a3 (by decide)
    · exact Or.inr ⟨a, b, by rw [e1], by rw [e2], ⟨a1, a2, a3⟩, b1, b2, b3⟩
theorem tot_add {H : Nat → Bool} {O : Nat → Int} {j : Nat} {y : Int} (hj : j < 32) (hH : H j = true) : tot bs H (addO O j y) = tot bs H O + y := by
  unfold tot
  rw [smS_up (f := fun k => if H k = true then bs k + O k else 0) (j := j) 32 hj (fun k hk hk2 => by
    show (if H k = true then bs k + addO O j y k else 0) = if H k = true then bs k + O k else 0
    have e0 : addO O j y k = O k := by unfold addO; rw [if_neg (by omega)]
    rw [e0])]
  have e : addO O j y j = O j + y := by unfold addO; rw [if_pos rfl]
  simp only [hH, if_true, e]
  omega
theorem tot_drop {H : Nat → Bool} {O : Nat → Int} {j : Nat} (hj : j < 32) (hH : H j = true) : tot bs (dropH H j) O = tot bs H O - (bs j + O j) := by
  unfold tot
  rw [smS_up (f := fun k => if H k = true then bs k + O k else 0) (j := j) 32 hj (fun k hk hk2 => by
    show (if dropH H j k = true then bs k + O k else 0) = if H k = true then bs k + O k else 0
    have e : dropH H j k = H k := if_neg hk2
    rw [e])]
  have e : dropH H j j = false := if_pos rfl
  simp only [hH, if_true, e]
  simp only [Bool.false_eq_true, if_false]
  omega
theorem nx_ok (h : okS NP NG bs S) (hr : rgS NP NG pl mg bs rp) {k : Nat} (hk : S.1 k = true) (hex : 0 < exS mg bs rp S.1 S.2.1 k) : okS NP NG bs (nxS pl mg bs rp S k) ∧ cn (nxS pl mg bs rp S k).1 0 32 + 1 = cn S.1 0 32 := by
  have h32 := ok_32 h hr hk
  have hld := ld_b h hr hk
  have hmg := hr.2.2.1 k (h.1 k hk)
  have hcn := cn_drop (a := 0) hk 32 (by omega) (by omega)
  have hO := h.2.1
  have hkd : kd k + 16 ≤ 32 := by unfold kd; split <;> omega
  refine ⟨⟨fun i hi => h.1 i ?_, fun i => ?_, ?_, ?_, fun i hi => ?_⟩, hcn⟩
  · have hi : dropH S.1 k i = true := hi
    unfold dropH at hi
    split at hi
    · exact absurd hi (by decide)
    · exact hi
  · show 0 ≤ loO pl S.1 S.2.1 k (ldS bs rp S.1 S.2.1 k) i
    have := hO i
    generalize ldS bs rp S.1 S.2.1 k = y at *
    unfold loO
    split
    · exact this
    · exact addO_nn (addO_nn this (by omega)) (by omega)
  · show tot bs (dropH S.1 k) (loO pl S.1 S.2.1 k (ldS bs rp S.1 S.2.1 k)) ≤ 15552
    have ht := tot_drop (bs := bs) (O := S.2.1) h32 hk
    have h3 := h.2.2.1
    generalize ldS bs rp S.1 S.2.1 k = y at *
    unfold loO
    rcases nb_cases (pl := pl) (dropH S.1 k) k with ⟨e1, e2, _⟩ | ⟨a, b, e1, e2, ⟨_, a2, a3⟩, ⟨_, b2, b3⟩⟩
    · rw [if_pos e1, ht]; have := ok_b h hr hk; omega
    · rw [e1, e2, if_neg (by omega), tot_add (by omega) b3, tot_add (by omega) a3, ht]; omega
  · show S.2.2.1 + 1 + cn (dropH S.1 k) 0 32 ≤ 32
    have := h.2.2.2.1
    omega
  · show ((if i = S.2.2.1 then (k, exS mg bs rp S.1 S.2.1 k) else S.2.2.2 i).1 < 32 ∧ 0 ≤ (if i = S.2.2.1 then (k, exS mg bs rp S.1 S.2.1 k) else S.2.2.2 i).2 ∧ (if i = S.2.2.1 then (k, exS mg bs rp S.1 S.2.1 k) else S.2.2.2 i).2 ≤ 100000)
    have hi : i < S.2.2.1 + 1 := hi
    by_cases c : i = S.2.2.1
    · rw [if_pos c]
      have e : exS mg bs rp S.1 S.2.1 k = ldS bs rp S.1 S.2.1 k - mg k := rfl
      exact ⟨h32, by show 0 ≤ exS mg bs rp S.1 S.2.1 k; omega, by show exS mg bs rp S.1 S.2.1 k ≤ 100000; omega⟩
    · rw [if_neg c]; exact h.2.2.2.2 i (by omega)
theorem rn_ok (hr : rgS NP NG pl mg bs rp) : ∀ f S, okS NP NG bs S → okS NP NG bs (rnS pl mg bs rp f S) := by
  intro f
  induction f with
  | zero => intro S h; exact h
  | succ f ih =>
    intro S h
    unfold rnS
    split
    · exact h
    · rename_i c
      rcases wS_ok (mg := mg) (bs := bs) (rp := rp) S.1 S.2.1 with e | ⟨k, k1, k2, k3, e, k4⟩
      · rw [e] at c; exact absurd rfl c
      · rw [e]
        exact ih _ (nx_ok h hr k3 k4).1
end
