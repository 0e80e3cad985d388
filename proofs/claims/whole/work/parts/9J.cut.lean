/-! THE CUT: hide by hide -/
/-- the length of a set of pieces (hides) -/
def lnC (p : Nat → Int) (P : Nat) (k : Nat) : Int := smS (fun i => if k.testBit i = true then p i else 0) P
/-- whether the pieces of k can be cut of the first h hides -/
def feC (p : Nat → Int) (P : Nat) (L : Nat → Int) : Nat → Nat → Prop
  | 0, k => k = 0
  | h + 1, k => ∃ x j, k = j ||| x ∧ j &&& x = 0 ∧ lnC p P x ≤ L h ∧ feC p P L h j
theorem bit_dis {j x i : Nat} (h : j &&& x = 0) (hx : x.testBit i = true) : j.testBit i = false := by
  have e : (j &&& x).testBit i = false := by rw [h]; exact Nat.zero_testBit i
  rw [Nat.testBit_and, hx, Bool.and_true] at e; exact e
theorem dis_of {j x : Nat} (h : ∀ i, x.testBit i = true → j.testBit i = false) : j &&& x = 0 := by
  refine Nat.eq_of_testBit_eq (fun i => ?_)
  rw [Nat.testBit_and, Nat.zero_testBit]
  cases hx : x.testBit i with
  | false => rw [Bool.and_false]
  | true => rw [h i hx]; rfl
theorem lnC_0 (p : Nat → Int) (P : Nat) : lnC p P 0 = 0 := by
  unfold lnC
  rw [smS_cg (g := fun _ => 0) P (fun k _ => by show (if (0 : Nat).testBit k = true then p k else 0) = 0; rw [Nat.zero_testBit, if_neg (by decide)])]
  have : ∀ n, smS (fun _ => 0) n = 0 := by
    intro n
    induction n with
    | zero => rfl
    | succ n ih => show smS (fun _ => 0) n + 0 = 0; rw [ih]; rfl
  exact this P
theorem lnC_or {p : Nat → Int} {P j x : Nat} (h : j &&& x = 0) : lnC p P (j ||| x) = lnC p P j + lnC p P x := by
  unfold lnC
  induction P with
  | zero => rfl
  | succ n ih =>
    show smS (fun i => if (j ||| x).testBit i = true then p i else 0) n + (if (j ||| x).testBit n = true then p n else 0) = smS (fun i => if j.testBit i = true then p i else 0) n + (if j.testBit n = true then p n else 0) + (smS (fun i => if x.testBit i = true then p i else 0) n + (if x.testBit n = true then p n else 0))
    rw [ih, Nat.testBit_or]
    cases hx : x.testBit n with
    | false =>
      rw [Bool.or_false, if_neg (show ¬ false = true by decide)]; omega
    | true =>
      rw [bit_dis h hx, Bool.false_or, if_pos rfl, if_neg (show ¬ false = true by decide)]; omega
theorem lnC_nn {p : Nat → Int} {P : Nat} (hp : ∀ i, i < P → 0 ≤ p i) (k : Nat) : 0 ≤ lnC p P k := smS_nn P (fun i hi => by
  show 0 ≤ if k.testBit i = true then p i else 0
  have := hp i hi; split <;> omega)
theorem lnC_one {p : Nat → Int} {P i : Nat} (hi : i < P) : lnC p P (2 ^ i) = p i := by
  have h := smS_up (f := fun k => if (0 : Nat).testBit k = true then p k else 0) (g := fun k => if (2 ^ i).testBit k = true then p k else 0) (j := i) P hi (fun k _ hk => by
    show (if (2 ^ i).testBit k = true then p k else 0) = if (0 : Nat).testBit k = true then p k else 0
    rw [Nat.testBit_two_pow_of_ne (fun z => hk z.symm), Nat.zero_testBit])
  have h0 := lnC_0 p P
  unfold lnC at h0 ⊢
  rw [h, h0]
  simp only [Nat.testBit_two_pow_self, Nat.zero_testBit, if_true, Bool.false_eq_true, if_false]
  omega
theorem lnC_le {p : Nat → Int} {P k i : Nat} (hp : ∀ i, i < P → 0 ≤ p i) (hi : i < P) (hk : k.testBit i = true) : p i ≤ lnC p P k := by
  have := smS_one (f := fun i => if k.testBit i = true then p i else 0) (j := i) P (fun j hj => by
    show 0 ≤ if k.testBit j = true then p j else 0
    have := hp j hj; split <;> omega) hi
  simp only [hk, if_true] at this
  exact this
section
variable {p : Nat → Int} {P : Nat} {L : Nat → Int}
theorem feC_suc {h k : Nat} (hL : 0 ≤ L h) (hf : feC p P L h k) : feC p P L (h + 1) k := ⟨0, k, by rw [Nat.or_zero], by rw [Nat.and_zero], by rw [lnC_0]; exact hL, hf⟩
theorem feC_up {h k : Nat} (hL : ∀ g, 0 ≤ L g) (hf : feC p P L h k) : ∀ h2, h ≤ h2 → feC p P L h2 k := by
  intro h2 hh
  induction h2 with
  | zero => rw [show h = 0 by omega] at hf; exact hf
  | succ h2 ih =>
    by_cases c : h = h2 + 1
    · rw [← c]; exact hf
    · exact feC_suc (hL _) (ih (by omega))
theorem feC_mo {L2 : Nat → Int} (hL : ∀ g, L g ≤ L2 g) : ∀ {h k : Nat}, feC p P L h k → feC p P L2 h k
  | 0, _, hf => hf
  | h + 1, _, ⟨x, j, e1, e2, e3, e4⟩ => ⟨x, j, e1, e2, Int.le_trans e3 (hL h), feC_mo hL e4⟩
theorem feC_cg {L2 : Nat → Int} : ∀ {h k : Nat}, (∀ g, g < h → L g = L2 g) → feC p P L h k → feC p P L2 h k
  | 0, _, _, hf => hf
  | h + 1, _, hL, ⟨x, j, e1, e2, e3, e4⟩ => ⟨x, j, e1, e2, by rw [← hL h (Nat.lt_succ_self h)]; exact e3, feC_cg (fun g hg => hL g (by omega)) e4⟩
theorem feC_len : ∀ {h k : Nat}, feC p P L h k → lnC p P k ≤ smS L h
  | 0, k, hf => by rw [show k = 0 from hf, lnC_0]; exact Int.le_refl _
  | h + 1, k, ⟨x, j, e1, e2, e3, e4⟩ => by
    have := feC_len e4
    rw [e1, lnC_or e2]
    show _ ≤ smS L h + L h
    omega
/-- a hide of which nothing is left serves nothing -/
theorem feC_nul (hp : ∀ i, i < P → 1 ≤ p i) {h k : Nat} (hk : k < 2 ^ P) (hL : L h = 0) : feC p P L (h + 1) k ↔ feC p P L h k := by
  refine ⟨fun ⟨x, j, e1, e2, e3, e4⟩ => ?_, fun hf => feC_suc (by omega) hf⟩
  have hx : x = 0 := by
    refine Nat.eq_of_testBit_eq (fun i => ?_)
    rw [Nat.zero_testBit]
    cases hb : x.testBit i with
    | false => rfl
    | true =>
      by_cases c : i < P
      · have := lnC_le (p := p) (fun i hi => by have := hp i hi; omega) c hb
        have := hp i c
        omega
      · have : k.testBit i = true := by rw [e1, Nat.testBit_or, hb, Bool.or_true]
        rw [Nat.testBit_lt_two_pow (Nat.lt_of_lt_of_le hk (Nat.pow_le_pow_right (by decide) (by omega)))] at this
        exact absurd this (by decide)
  rw [hx, Nat.or_zero] at e1
  rw [e1]; exact e4
def upL (L : Nat → Int) (h : Nat) (y : Int) (g : Nat) : Int := if g = h then y else L g
/-- one piece of those that can be cut is cut of some hide -/
theorem feC_pick {i : Nat} (hi : i < P) : ∀ {h k : Nat}, feC p P L h k → k.testBit i = true → ∀ k2, k = k2 ||| 2 ^ i → k2.testBit i = false → (∀ g, g < h → 0 ≤ L g) → (∀ i, i < P → 0 ≤ p i) → ∃ g, g < h ∧ p i ≤ L g ∧ feC p P (upL L g (L g - p i)) h k2
  | 0, k, hf, hb, _, _, _, _, _ => by rw [show k = 0 from hf, Nat.zero_testBit] at hb; exact absurd hb (by decide)
  | h + 1, k, ⟨x, j, e1, e2, e3, e4⟩, hb, k2, e5, e6, hL, hp => by
    have tb : ∀ q, k2.testBit q = (if q = i then false else (j.testBit q || x.testBit q)) := fun q => by
      by_cases c : q = i
      · rw [if_pos c, c]; exact e6
      · rw [if_neg c]
        have h1 : k.testBit q = (k2.testBit q || (2 ^ i).testBit q) := by rw [e5, Nat.testBit_or]
        rw [Nat.testBit_two_pow_of_ne (fun z => c z.symm), Bool.or_false, e1, Nat.testBit_or] at h1
        exact h1.symm
    cases hx : x.testBit i with
    | true =>
      -- out of this hide
      have d1 : (x ^^^ 2 ^ i).testBit i = false := by rw [Nat.testBit_xor, hx, Nat.testBit_two_pow_self]; rfl
      have dn : ∀ q, q ≠ i → (x ^^^ 2 ^ i).testBit q = x.testBit q := fun q c => by rw [Nat.testBit_xor, Nat.testBit_two_pow_of_ne (fun z => c z.symm), Bool.xor_false]
      have ex : x = (x ^^^ 2 ^ i) ||| 2 ^ i := Nat.eq_of_testBit_eq (fun q => by
        rw [Nat.testBit_or]
        by_cases c : q = i
        · rw [c, hx, Nat.testBit_two_pow_self, Bool.or_true]
        · rw [dn q c, Nat.testBit_two_pow_of_ne (fun z => c z.symm), Bool.or_false])
      have dj : j.testBit i = false := bit_dis e2 hx
      have hl : lnC p P x = lnC p P (x ^^^ 2 ^ i) + p i := by
        have hd : (x ^^^ 2 ^ i) &&& 2 ^ i = 0 := dis_of (fun q hq => by
          by_cases c : q = i
          · rw [c]; exact d1
          · rw [Nat.testBit_two_pow_of_ne (fun z => c z.symm)] at hq; exact absurd hq (by decide))
        have hs := lnC_or (p := p) (P := P) hd
        rw [← ex, lnC_one hi] at hs
        exact hs
      have hnn := lnC_nn hp (x ^^^ 2 ^ i)
      refine ⟨h, Nat.lt_succ_self h, by omega, x ^^^ 2 ^ i, j, ?_, ?_, ?_, ?_⟩
      · refine Nat.eq_of_testBit_eq (fun q => ?_)
        rw [tb, Nat.testBit_or]
        by_cases c : q = i
        · rw [if_pos c, c, dj, d1]; rfl
        · rw [if_neg c, dn q c]
      · refine dis_of (fun q hq => ?_)
        by_cases c : q = i
        · rw [c]; exact dj
        · rw [dn q c] at hq; exact bit_dis e2 hq
      · unfold upL; rw [if_pos rfl]; omega
      · refine feC_cg (fun g hg => ?_) e4
        unfold upL; rw [if_neg (by omega)]
    | false =>
      have hj : j.testBit i = true := by
        have : k.testBit i = (j.testBit i || x.testBit i) := by rw [e1, Nat.testBit_or]
        rw [hx, Bool.or_false, hb] at this; exact this.symm
      have d1 : (j ^^^ 2 ^ i).testBit i = false := by rw [Nat.testBit_xor, hj, Nat.testBit_two_pow_self]; rfl
      have dn : ∀ q, q ≠ i → (j ^^^ 2 ^ i).testBit q = j.testBit q := fun q c => by rw [Nat.testBit_xor, Nat.testBit_two_pow_of_ne (fun z => c z.symm), Bool.xor_false]
      have ej : j = (j ^^^ 2 ^ i) ||| 2 ^ i := Nat.eq_of_testBit_eq (fun q => by
        rw [Nat.testBit_or]
        by_cases c : q = i
        · rw [c, hj, Nat.testBit_two_pow_self, Bool.or_true]
        · rw [dn q c, Nat.testBit_two_pow_of_ne (fun z => c z.symm), Bool.or_false])
      obtain ⟨g, g1, g2, g3⟩ := feC_pick hi e4 hj (j ^^^ 2 ^ i) ej d1 (fun g hg => hL g (by omega)) hp
      refine ⟨g, by omega, g2, x, j ^^^ 2 ^ i, ?_, ?_, ?_, g3⟩
      · refine Nat.eq_of_testBit_eq (fun q => ?_)
        rw [tb, Nat.testBit_or]
        by_cases c : q = i
        · rw [if_pos c, c, d1, hx]; rfl
        · rw [if_neg c, dn q c]
      · refine dis_of (fun q hq => ?_)
        by_cases c : q = i
        · rw [c, hx] at hq; exact absurd hq (by decide)
        · rw [dn q c]; exact bit_dis e2 hq
      · unfold upL; rw [if_neg (by omega)]; exact e3
/-- pieces from f on, counted anew -/
theorem lnC_sh {f r : Nat} : ∀ {M : Nat}, lnC p (f + M) (r <<< f) = lnC (fun i => p (f + i)) M r := by
  have z : ∀ n, n ≤ f → smS (fun i => if (r <<< f).testBit i = true then p i else 0) n = 0 := by
    intro n
    induction n with
    | zero => intro _; rfl
    | succ n ih =>
      intro hn
      show smS _ n + (if (r <<< f).testBit n = true then p n else 0) = 0
      rw [ih (by omega), Nat.testBit_shiftLeft, show decide (n ≥ f) = false from decide_eq_false (by omega), Bool.false_and, if_neg (by decide)]; rfl
  intro M
  induction M with
  | zero => exact z f (Nat.le_refl _)
  | succ M ih =>
    unfold lnC at ih ⊢
    show smS _ (f + M) + (if (r <<< f).testBit (f + M) = true then p (f + M) else 0) = smS _ M + _
    rw [ih, Nat.testBit_shiftLeft, show decide (f + M ≥ f) = true from decide_eq_true (by omega), Bool.true_and, Nat.add_sub_cancel_left]
theorem feC_sh {f M : Nat} : ∀ {h r : Nat}, feC p (f + M) L h (r <<< f) ↔ feC (fun i => p (f + i)) M L h r
  | 0, r => by
    show r <<< f = 0 ↔ r = 0
    rw [Nat.shiftLeft_eq]
    have : 0 < 2 ^ f := Nat.pow_pos (by decide)
    exact ⟨fun z => by rcases Nat.mul_eq_zero.mp z with y | y; exact y; omega, fun z => by rw [z, Nat.zero_mul]⟩
  | h + 1, r => by
    have sh : ∀ a : Nat, ∀ i, (a <<< f).testBit i = (decide (i ≥ f) && a.testBit (i - f)) := fun a i => Nat.testBit_shiftLeft ..
    refine ⟨fun ⟨x, j, e1, e2, e3, e4⟩ => ?_, fun ⟨x, j, e1, e2, e3, e4⟩ => ?_⟩
    · have lo : ∀ a : Nat, (∀ i, a.testBit i = true → (r <<< f).testBit i = true) → a = (a >>> f) <<< f := fun a ha => Nat.eq_of_testBit_eq (fun i => by
        rw [sh, Nat.testBit_shiftRight]
        by_cases c : f ≤ i
        · rw [decide_eq_true c, Bool.true_and, show f + (i - f) = i by omega]
        · rw [decide_eq_false c, Bool.false_and]
          cases hb : a.testBit i with
          | false => rfl
          | true =>
            have := ha i hb
            rw [sh, decide_eq_false c, Bool.false_and] at this; exact absurd this (by decide))
      have hx : x = (x >>> f) <<< f := lo x (fun i hi => by rw [e1, Nat.testBit_or, hi, Bool.or_true])
      have hj : j = (j >>> f) <<< f := lo j (fun i hi => by rw [e1, Nat.testBit_or, hi, Bool.true_or])
      refine ⟨x >>> f, j >>> f, Nat.eq_of_testBit_eq (fun i => ?_), dis_of (fun i hi => ?_), ?_, ?_⟩
      · have : (r <<< f).testBit (f + i) = (j ||| x).testBit (f + i) := by rw [e1]
        rw [sh, decide_eq_true (show f + i ≥ f by omega), Bool.true_and, Nat.add_sub_cancel_left, Nat.testBit_or] at this
        rw [Nat.testBit_or, Nat.testBit_shiftRight, Nat.testBit_shiftRight]; exact this
      · rw [Nat.testBit_shiftRight] at hi ⊢; exact bit_dis e2 hi
      · rw [hx, lnC_sh] at e3; exact e3
      · rw [hj] at e4; exact feC_sh.mp e4
    · refine ⟨x <<< f, j <<< f, ?_, dis_of (fun i hi => ?_), by rw [lnC_sh]; exact e3, feC_sh.mpr e4⟩
      · refine Nat.eq_of_testBit_eq (fun i => ?_)
        rw [e1, Nat.testBit_or, sh, sh, sh, Nat.testBit_or]
        cases decide (i ≥ f) <;> simp
      · rw [sh, Bool.and_eq_true] at hi
        rw [sh, bit_dis e2 hi.2, Bool.and_false]
end
/-! as the class does it: how far one comes -/
def bhF (L : Nat → Int) (p : Int) : Nat → Nat → Int → Int
  | 0, g, _ => (g : Int) * 1024
  | j + 1, g, x => if L g < x + p then bhF L p j (g + 1) 0 else (g : Int) * 1024 + x + p
def bhC (L : Nat → Int) (H : Nat) (so p : Int) : Int := bhF L p (H - (so / 1024).toNat) (so / 1024).toNat (so % 1024)
theorem bhF_at (L : Nat → Int) (p : Int) : ∀ (j g : Nat) (x : Int), bhF L p j g x = ((g + j : Nat) : Int) * 1024 ∨ ∃ (g2 : Nat) (x2 : Int), g ≤ g2 ∧ g2 < g + j ∧ ((g2 = g ∧ x2 = x) ∨ (g < g2 ∧ x2 = 0)) ∧ x2 + p ≤ L g2 ∧ bhF L p j g x = (g2 : Int) * 1024 + x2 + p
  | 0, g, x => Or.inl rfl
  | j + 1, g, x => by
    have e : bhF L p (j + 1) g x = if L g < x + p then bhF L p j (g + 1) 0 else (g : Int) * 1024 + x + p := rfl
    by_cases c : L g < x + p
    · rw [e, if_pos c]
      rcases bhF_at L p j (g + 1) 0 with h | ⟨g2, x2, h1, h2, h3, h4, h5⟩
      · exact Or.inl (by rw [h, show g + 1 + j = g + (j + 1) by omega])
      · refine Or.inr ⟨g2, x2, by omega, by omega, Or.inr ⟨by omega, ?_⟩, h4, h5⟩
        rcases h3 with h3 | h3
        · exact h3.2
        · exact h3.2
    · rw [e, if_neg c]
      exact Or.inr ⟨g, x, Nat.le_refl _, by omega, Or.inl ⟨rfl, rfl⟩, by omega, rfl⟩
theorem bhF_le {L : Nat → Int} {p : Int} : ∀ (j g h : Nat), g ≤ h → h < g + j → p ≤ L h → bhF L p j g 0 ≤ (h : Int) * 1024 + p
  | 0, g, h, h1, h2, _ => by omega
  | j + 1, g, h, h1, h2, hp => by
    have e : bhF L p (j + 1) g 0 = if L g < 0 + p then bhF L p j (g + 1) 0 else (g : Int) * 1024 + 0 + p := rfl
    rw [e]
    by_cases c : L g < 0 + p
    · rw [if_pos c]
      by_cases cg : g = h
      · subst cg; omega
      · exact bhF_le j (g + 1) h (by omega) (by omega) hp
    · rw [if_neg c]; omega
theorem bhC_le {L : Nat → Int} {H : Nat} {so p X : Int} {h : Nat} (hL : ∀ g, g < H → L g ≤ 999) (hh : h < H) (h0 : 0 ≤ so) (hX : 0 ≤ X) (hp : 0 ≤ p) (h1 : so ≤ (h : Int) * 1024 + X) (h2 : X + p ≤ L h) : bhC L H so p ≤ (h : Int) * 1024 + X + p := by
  have hLh := hL h hh
  unfold bhC
  generalize hg : (so / 1024).toNat = g
  have hge : so / 1024 = g := by omega
  have hx : 0 ≤ so % 1024 ∧ so % 1024 < 1024 := by omega
  have hso : so = (g : Int) * 1024 + so % 1024 := by omega
  generalize so % 1024 = x at *
  have hgh : g ≤ h := by omega
  obtain ⟨j, hj⟩ : ∃ j, H - g = j + 1 := ⟨H - g - 1, by omega⟩
  rw [hj]
  show (if L g < x + p then bhF L p j (g + 1) 0 else (g : Int) * 1024 + x + p) ≤ _
  by_cases c : L g < x + p
  · rw [if_pos c]
    by_cases cg : g = h
    · subst cg; omega
    · have := bhF_le (L := L) (p := p) j (g + 1) h (by omega) (by omega) (by omega)
      omega
  · rw [if_neg c]
    have := hL g (by omega)
    by_cases cg : g = h
    · subst cg; omega
    · omega
/-- the row that comes least far, for each set of pieces -/
def eqC (p : Nat → Int) (M H : Nat) (L : Nat → Int) (ρ : Nat → Int) (r : Nat) : Prop := ρ r = if r = 0 then 0 else mfF (fun i => bhC L H (ρ (r ^^^ 2 ^ i)) (p i)) (fun i => !(r.testBit i)) M 0 ((H : Int) * 1024)
theorem xor_bit {r i : Nat} (h : r.testBit i = true) : (r ^^^ 2 ^ i).testBit i = false ∧ (∀ q, q ≠ i → (r ^^^ 2 ^ i).testBit q = r.testBit q) ∧ r = (r ^^^ 2 ^ i) ||| 2 ^ i ∧ r ^^^ 2 ^ i < r := by
  have d1 : (r ^^^ 2 ^ i).testBit i = false := by rw [Nat.testBit_xor, h, Nat.testBit_two_pow_self]; rfl
  have dn : ∀ q, q ≠ i → (r ^^^ 2 ^ i).testBit q = r.testBit q := fun q c => by rw [Nat.testBit_xor, Nat.testBit_two_pow_of_ne (fun z => c z.symm), Bool.xor_false]
  have ex : r = (r ^^^ 2 ^ i) ||| 2 ^ i := Nat.eq_of_testBit_eq (fun q => by
    rw [Nat.testBit_or]
    by_cases c : q = i
    · rw [c, h, Nat.testBit_two_pow_self, Bool.or_true]
    · rw [dn q c, Nat.testBit_two_pow_of_ne (fun z => c z.symm), Bool.or_false])
  refine ⟨d1, dn, ex, ?_⟩
  have := or_gt d1
  rw [← ex] at this; exact this
theorem ex_bit {r M : Nat} (h : r < 2 ^ M) (hn : r ≠ 0) : ∃ i, i < M ∧ r.testBit i = true := by
  refine Classical.byContradiction (fun z => hn (Nat.eq_of_testBit_eq (fun i => ?_)))
  rw [Nat.zero_testBit]
  by_cases c : i < M
  · cases hb : r.testBit i with
    | false => rfl
    | true => exact absurd ⟨i, c, hb⟩ z
  · exact Nat.testBit_lt_two_pow (Nat.lt_of_lt_of_le h (Nat.pow_le_pow_right (by decide) (by omega)))
section
variable {p : Nat → Int} {M H : Nat} {L ρ : Nat → Int}
theorem eqC_fe (hL : ∀ g, 0 ≤ L g ∧ L g ≤ 999) (hp : ∀ i, i < M → 1 ≤ p i) (h : ∀ r, r < 2 ^ M → eqC p M H L ρ r) : ∀ r, r < 2 ^ M → ρ r = (H : Int) * 1024 ∨ ∃ (g : Nat) (x : Int), g < H ∧ ρ r = (g : Int) * 1024 + x ∧ 0 ≤ x ∧ x ≤ L g ∧ ∃ y j, r = j ||| y ∧ j &&& y = 0 ∧ lnC p M y = x ∧ feC p M L g j := by
  intro r
  induction r using Nat.strongRecOn with
  | _ r ih =>
    intro hr
    have e := h r hr
    unfold eqC at e
    by_cases c : r = 0
    · rw [if_pos c] at e
      by_cases cH : H = 0
      · exact Or.inl (by rw [e, cH]; rfl)
      · exact Or.inr ⟨0, 0, by omega, by rw [e]; rfl, Int.le_refl _, (hL 0).1, 0, 0, by rw [c]; rfl, rfl, lnC_0 p M, rfl⟩
    · rw [if_neg c] at e
      rcases mfF_at (c := fun i => bhC L H (ρ (r ^^^ 2 ^ i)) (p i)) (q := fun i => !(r.testBit i)) M 0 ((H : Int) * 1024) with h1 | ⟨i, _, i2, i3, h1⟩
      · exact Or.inl (by rw [e]; exact h1)
      · rw [← e] at h1
        have i3 : (!(r.testBit i)) = false := i3
        have hb : r.testBit i = true := by cases hh : r.testBit i with | true => rfl | false => rw [hh] at i3; exact absurd i3 (by decide)
        obtain ⟨d1, dn, ex, lt⟩ := xor_bit hb
        have h1 : ρ r = bhC L H (ρ (r ^^^ 2 ^ i)) (p i) := h1
        have hpi := hp i (by omega)
        rcases ih (r ^^^ 2 ^ i) lt (by omega) with h2 | ⟨g, x, g1, g2, g3, g4, y, j, k1, k2, k3, k4⟩
        · refine Or.inl ?_
          rw [h1, h2]
          unfold bhC
          have e1 : ((H : Int) * 1024 / 1024).toNat = H := by omega
          rw [e1, Nat.sub_self]; rfl
        · have hLg := hL g
          have e1 : (((g : Int) * 1024 + x) / 1024).toNat = g := by omega
          have e2 : ((g : Int) * 1024 + x) % 1024 = x := by omega
          have h3 : ρ r = bhF L (p i) (H - g) g x := by rw [h1, g2]; unfold bhC; rw [e1, e2]
          rcases bhF_at L (p i) (H - g) g x with h4 | ⟨g5, x5, m1, m2, m3, m4, m5⟩
          · refine Or.inl ?_
            rw [h3, h4, show g + (H - g) = H by omega]
          · refine Or.inr ⟨g5, x5 + p i, by omega, by rw [h3, m5]; omega, ?_, m4, ?_⟩
            · rcases m3 with ⟨_, m3⟩ | ⟨_, m3⟩ <;> omega
            · rcases m3 with ⟨m3, m6⟩ | ⟨m3, m6⟩
              · subst m3; subst m6
                have dy : y.testBit i = false := by
                  have : (r ^^^ 2 ^ i).testBit i = (j.testBit i || y.testBit i) := by rw [k1, Nat.testBit_or]
                  rw [d1] at this
                  cases hy : y.testBit i with
                  | false => rfl
                  | true => rw [hy, Bool.or_true] at this; exact absurd this (by decide)
                have dj : j.testBit i = false := by
                  have : (r ^^^ 2 ^ i).testBit i = (j.testBit i || y.testBit i) := by rw [k1, Nat.testBit_or]
                  rw [d1, dy, Bool.or_false] at this; exact this.symm
                have hd : y &&& 2 ^ i = 0 := dis_of (fun q hq => by
                  by_cases cq : q = i
                  · rw [cq]; exact dy
                  · rw [Nat.testBit_two_pow_of_ne (fun z => cq z.symm)] at hq; exact absurd hq (by decide))
                refine ⟨y ||| 2 ^ i, j, by rw [← Nat.or_assoc, ← k1]; exact ex, dis_of (fun q hq => ?_), by rw [lnC_or hd, lnC_one (by omega), k3], k4⟩
                rw [Nat.testBit_or] at hq
                by_cases cq : q = i
                · rw [cq]; exact dj
                · rw [Nat.testBit_two_pow_of_ne (fun z => cq z.symm), Bool.or_false] at hq
                  exact bit_dis k2 hq
              · subst m6
                refine ⟨2 ^ i, r ^^^ 2 ^ i, ex, dis_of (fun q hq => ?_), by rw [lnC_one (by omega)]; omega, ?_⟩
                · by_cases cq : q = i
                  · rw [cq]; exact d1
                  · rw [Nat.testBit_two_pow_of_ne (fun z => cq z.symm)] at hq; exact absurd hq (by decide)
                · exact feC_up (fun g => (hL g).1) (show feC p M L (g + 1) (r ^^^ 2 ^ i) from ⟨y, j, k1, k2, by omega, k4⟩) g5 (by omega)
theorem eqC_nn (hL : ∀ g, 0 ≤ L g ∧ L g ≤ 999) (hp : ∀ i, i < M → 1 ≤ p i) (h : ∀ r, r < 2 ^ M → eqC p M H L ρ r) {r : Nat} (hr : r < 2 ^ M) : 0 ≤ ρ r ∧ ρ r ≤ (H : Int) * 1024 := by
  rcases eqC_fe hL hp h r hr with e | ⟨g, x, g1, g2, g3, g4, _⟩
  · omega
  · have := hL g; omega
theorem eqC_one (hL : ∀ g, 0 ≤ L g ∧ L g ≤ 999) (hp : ∀ i, i < M → 1 ≤ p i) (h : ∀ r, r < 2 ^ M → eqC p M H L ρ r) {hh r x j : Nat} (hH : hh < H) (e1 : r = j ||| x) (e2 : j &&& x = 0) (e3 : lnC p M x ≤ L hh) (ij : ρ j ≤ (hh : Int) * 1024) (hj : j < 2 ^ M) (hr : r < 2 ^ M) : ∀ y : Nat, (∀ i, y.testBit i = true → x.testBit i = true) → ρ (j ||| y) ≤ (hh : Int) * 1024 + lnC p M y := by
  intro y
  induction y using Nat.strongRecOn with
  | _ y ihy =>
    intro hy
    by_cases c : y = 0
    · rw [c, Nat.or_zero, lnC_0]; omega
    · have hyM : y < 2 ^ M := by
        refine Nat.lt_of_le_of_lt ?_ hr
        have : y ||| r = r := Nat.eq_of_testBit_eq (fun i => by
          rw [Nat.testBit_or]
          cases hb : y.testBit i with
          | false => rfl
          | true => rw [e1, Nat.testBit_or, hy i hb, Bool.or_true]; rfl)
        rw [← this]; exact Nat.left_le_or
      obtain ⟨i, hi, hb⟩ := ex_bit hyM c
      obtain ⟨d1, dn, ex, lt⟩ := xor_bit hb
      have hsub : ∀ q, (y ^^^ 2 ^ i).testBit q = true → x.testBit q = true := fun q hq => by
        by_cases cq : q = i
        · rw [cq, d1] at hq; exact absurd hq (by decide)
        · rw [dn q cq] at hq; exact hy q hq
      have IH := ihy (y ^^^ 2 ^ i) lt hsub
      have hji : j.testBit i = false := bit_dis e2 (hy i hb)
      have hjy : j ||| y < 2 ^ M := Nat.or_lt_two_pow hj hyM
      have e := h (j ||| y) hjy
      unfold eqC at e
      have hne : j ||| y ≠ 0 := fun z => by
        have : (j ||| y).testBit i = true := by rw [Nat.testBit_or, hb, Bool.or_true]
        rw [z, Nat.zero_testBit] at this; exact absurd this (by decide)
      rw [if_neg hne] at e
      have h1 := mfF_le2 (c := fun i => bhC L H (ρ ((j ||| y) ^^^ 2 ^ i)) (p i)) (q := fun i => !((j ||| y).testBit i)) M 0 ((H : Int) * 1024) i (Nat.zero_le _) (by omega) (by show (!((j ||| y).testBit i)) = false; rw [Nat.testBit_or, hb, Bool.or_true]; rfl)
      rw [← e] at h1
      have ee : (j ||| y) ^^^ 2 ^ i = j ||| (y ^^^ 2 ^ i) := Nat.eq_of_testBit_eq (fun q => by
        rw [Nat.testBit_or, Nat.testBit_xor, Nat.testBit_or]
        by_cases cq : q = i
        · rw [cq, hb, hji, d1, Nat.testBit_two_pow_self]; rfl
        · rw [dn q cq, Nat.testBit_two_pow_of_ne (fun z => cq z.symm), Bool.xor_false])
      have hl : lnC p M y = lnC p M (y ^^^ 2 ^ i) + p i := by
        have hd : (y ^^^ 2 ^ i) &&& 2 ^ i = 0 := dis_of (fun q hq => by
          by_cases cq : q = i
          · rw [cq]; exact d1
          · rw [Nat.testBit_two_pow_of_ne (fun z => cq z.symm)] at hq; exact absurd hq (by decide))
        have hs := lnC_or (p := p) (P := M) hd
        rw [← ex, lnC_one hi] at hs; exact hs
      have hxl : lnC p M y ≤ lnC p M x := by
        have hex : x = (x ^^^ (x &&& y)) ||| y := Nat.eq_of_testBit_eq (fun q => by
          rw [Nat.testBit_or, Nat.testBit_xor, Nat.testBit_and]
          cases hq : y.testBit q with
          | true => rw [hy q hq]; rfl
          | false => cases x.testBit q <;> rfl)
        have hd : (x ^^^ (x &&& y)) &&& y = 0 := dis_of (fun q hq => by
          rw [Nat.testBit_xor, Nat.testBit_and, hq, hy q hq]; rfl)
        have hs := lnC_or (p := p) (P := M) hd
        rw [← hex] at hs
        have := lnC_nn (p := p) (P := M) (fun i hi => by have := hp i hi; omega) (x ^^^ (x &&& y))
        omega
      have hnn := lnC_nn (p := p) (P := M) (fun i hi => by have := hp i hi; omega) (y ^^^ 2 ^ i)
      have hlt2 : j ||| (y ^^^ 2 ^ i) < 2 ^ M := Nat.or_lt_two_pow hj (by omega)
      have h0 := (eqC_nn hL hp h hlt2).1
      have hpi := hp i hi
      have h1 : ρ (j ||| y) ≤ bhC L H (ρ ((j ||| y) ^^^ 2 ^ i)) (p i) := h1
      rw [ee] at h1
      have := bhC_le (L := L) (H := H) (so := ρ (j ||| (y ^^^ 2 ^ i))) (p := p i) (X := lnC p M (y ^^^ 2 ^ i)) (h := hh) (fun g _ => (hL g).2) (by omega) h0 hnn (by omega) IH (by omega)
      omega
theorem eqC_ge (hL : ∀ g, 0 ≤ L g ∧ L g ≤ 999) (hp : ∀ i, i < M → 1 ≤ p i) (h : ∀ r, r < 2 ^ M → eqC p M H L ρ r) : ∀ hh r, hh ≤ H → feC p M L hh r → r < 2 ^ M → ρ r ≤ (hh : Int) * 1024 := by
  intro hh
  induction hh with
  | zero =>
    intro r _ hf hr
    have hr0 : r = 0 := hf
    have e := h r hr
    unfold eqC at e
    rw [if_pos hr0] at e
    rw [e]; exact Int.le_refl _
  | succ hh ih =>
    intro r hH ⟨x, j, e1, e2, e3, e4⟩ hr
    have hj : j < 2 ^ M := Nat.lt_of_le_of_lt (by rw [e1]; exact Nat.left_le_or) hr
    have := eqC_one hL hp h (by omega) e1 e2 e3 (ih j (by omega) e4 hj) hj hr x (fun i hi => hi)
    rw [← e1] at this
    have := hL hh
    omega
/-- what is reached tells whether it can be cut -/
theorem eqC_iff (hL : ∀ g, 0 ≤ L g ∧ L g ≤ 999) (hp : ∀ i, i < M → 1 ≤ p i) (h : ∀ r, r < 2 ^ M → eqC p M H L ρ r) {r : Nat} (hr : r < 2 ^ M) (hr0 : r ≠ 0) : ρ r < (H : Int) * 1024 ↔ feC p M L H r := by
  refine ⟨fun hlt => ?_, fun hf => ?_⟩
  · rcases eqC_fe hL hp h r hr with e | ⟨g, x, g1, g2, g3, g4, y, j, k1, k2, k3, k4⟩
    · omega
    · exact feC_up (fun g => (hL g).1) (show feC p M L (g + 1) r from ⟨y, j, k1, k2, by omega, k4⟩) H (by omega)
  · cases H with
    | zero => exact absurd (show r = 0 from hf) hr0
    | succ H =>
      obtain ⟨x, j, e1, e2, e3, e4⟩ := hf
      have hj : j < 2 ^ M := Nat.lt_of_le_of_lt (by rw [e1]; exact Nat.left_le_or) hr
      have := eqC_one hL hp h (Nat.lt_succ_self H) e1 e2 e3 (eqC_ge hL hp h H j (by omega) e4 hj) hj hr x (fun i hi => hi)
      rw [← e1] at this
      have := hL H
      omega
end
