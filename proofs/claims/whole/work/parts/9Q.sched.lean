/-! LEAST TIME: schedules -/
section
variable (N : Nat) (m a : Nat → Int) (af : Nat → Nat)
def bzA (b : Nat → Int) (t : Int) (k : Nat) : Int := if b k ≤ t ∧ t < b k + m k then a k else 0
def bzy (b : Nat → Int) (t : Int) : Int := smS (bzA m a b t) N
def bzS (b : Nat → Int) (S : Nat) (t : Int) : Int := smS (fun k => if S.testBit k = true then bzA m a b t k else 0) N
def fea (b : Nat → Int) : Prop := (∀ k, k < N → 0 ≤ b k) ∧ (∀ k, k < N → ∀ j, j < N → (af k).testBit j = true → b j + m j ≤ b k) ∧ ∀ t, bzy N m a b t ≤ 2
def mkz (b : Nat → Int) (z : Int) : Prop := 0 ≤ z ∧ ∀ k, k < N → b k + m k ≤ z
def optS (z : Int) : Prop := (∃ b, fea N m a af b ∧ mkz N m b z) ∧ ∀ b z2, fea N m a af b → mkz N m b z2 → z ≤ z2
def smin (b : Nat → Int) (z : Int) : Prop := fea N m a af b ∧ mkz N m b z ∧ ∀ b2, fea N m a af b2 → mkz N m b2 z → smS b N ≤ smS b2 N
def rdA (A : Nat) (E : Nat → Int) : Nat → Int
  | 0 => 0
  | n + 1 => if A.testBit n = true then mx2 (rdA A E n) (E n) else rdA A E n
def cntS (S : Nat) : Int := lnC (fun _ => 1) N S
def okT2 : Prop := N ≤ 8 ∧ ∀ k, k < N → 1 ≤ m k ∧ m k ≤ 30 ∧ (a k = 1 ∨ a k = 2) ∧ af k < 2 ^ k
end
section
variable {N : Nat} {m a : Nat → Int} {af : Nat → Nat}
theorem optS_un {z z2 : Int} (h : optS N m a af z) (h2 : optS N m a af z2) : z = z2 := by
  obtain ⟨⟨b, b1, b2⟩, b3⟩ := h
  obtain ⟨⟨c, c1, c2⟩, c3⟩ := h2
  have := b3 c z2 c1 c2
  have := c3 b z b1 b2
  omega
theorem rdA_nn (A : Nat) (E : Nat → Int) : ∀ n, 0 ≤ rdA A E n := by
  intro n
  induction n with
  | zero => exact Int.le_refl _
  | succ n ih =>
    show 0 ≤ if A.testBit n = true then mx2 (rdA A E n) (E n) else rdA A E n
    unfold mx2
    split
    · split <;> omega
    · exact ih
theorem rdA_ge {A : Nat} {E : Nat → Int} : ∀ n j, j < n → A.testBit j = true → E j ≤ rdA A E n := by
  intro n
  induction n with
  | zero => intro j hj; omega
  | succ n ih =>
    intro j hj hb
    show E j ≤ if A.testBit n = true then mx2 (rdA A E n) (E n) else rdA A E n
    by_cases c : j = n
    · subst c; rw [if_pos hb]; unfold mx2; split <;> omega
    · have := ih j (by omega) hb
      unfold mx2
      split
      · split <;> omega
      · exact this
theorem rdA_le {A : Nat} {E : Nat → Int} {x : Int} (hx : 0 ≤ x) : ∀ n, (∀ j, j < n → A.testBit j = true → E j ≤ x) → rdA A E n ≤ x := by
  intro n
  induction n with
  | zero => intro _; exact hx
  | succ n ih =>
    intro h
    have := ih (fun j hj => h j (by omega))
    show (if A.testBit n = true then mx2 (rdA A E n) (E n) else rdA A E n) ≤ x
    by_cases c : A.testBit n = true
    · have := h n (by omega) c
      rw [if_pos c]; unfold mx2; split <;> omega
    · rw [if_neg c]; exact this
theorem rdA_up {A : Nat} {E : Nat → Int} {n : Nat} (hA : A < 2 ^ n) : ∀ n2, n ≤ n2 → rdA A E n2 = rdA A E n := by
  intro n2
  induction n2 with
  | zero => intro h; rw [show n = 0 by omega]
  | succ n2 ih =>
    intro h
    by_cases c : n = n2 + 1
    · rw [c]
    · show (if A.testBit n2 = true then mx2 (rdA A E n2) (E n2) else rdA A E n2) = _
      rw [Nat.testBit_lt_two_pow (Nat.lt_of_lt_of_le hA (Nat.pow_le_pow_right (by decide) (show n ≤ n2 by omega))), if_neg (by decide)]
      exact ih (by omega)
theorem rdA_cg {A : Nat} {E E2 : Nat → Int} : ∀ n, (∀ j, j < n → A.testBit j = true → E j = E2 j) → rdA A E n = rdA A E2 n := by
  intro n
  induction n with
  | zero => intro _; rfl
  | succ n ih =>
    intro h
    show (if A.testBit n = true then mx2 (rdA A E n) (E n) else rdA A E n) = (if A.testBit n = true then mx2 (rdA A E2 n) (E2 n) else rdA A E2 n)
    rw [ih (fun j hj => h j (by omega))]
    by_cases c : A.testBit n = true
    · rw [if_pos c, if_pos c, h n (by omega) c]
    · rw [if_neg c, if_neg c]
theorem cntS_0 : cntS N 0 = 0 := lnC_0 _ _
theorem cntS_up {S k : Nat} (hk : k < N) (hb : S.testBit k = false) : cntS N (S ||| 2 ^ k) = cntS N S + 1 := by
  unfold cntS
  rw [lnC_or (dis_of (fun i hi => by
    by_cases c : i = k
    · rw [c]; exact hb
    · rw [Nat.testBit_two_pow_of_ne (fun z => c z.symm)] at hi; exact absurd hi (by decide))), lnC_one hk]
theorem smS_1 : ∀ n : Nat, smS (fun _ => 1) n = n := by
  intro n
  induction n with
  | zero => rfl
  | succ n ih => show smS (fun _ => 1) n + 1 = _; rw [ih]; omega
theorem cntS_full : cntS N (2 ^ N - 1) = N := by unfold cntS; rw [lnC_full, smS_1]
theorem cntS_lt {S : Nat} (hSb : S < 2 ^ N) (h : cntS N S < N) : ∃ k, k < N ∧ S.testBit k = false := by
  refine Classical.byContradiction (fun hn => ?_)
  have : S = 2 ^ N - 1 := Nat.eq_of_testBit_eq (fun g => by
    by_cases c : g < N
    · rw [full_bit c]
      cases hb : S.testBit g with
      | true => rfl
      | false => exact absurd ⟨g, c, hb⟩ hn
    · rw [Nat.testBit_two_pow_sub_one, decide_eq_false c]
      exact Nat.testBit_lt_two_pow (Nat.lt_of_lt_of_le hSb (Nat.pow_le_pow_right (by decide) (by omega))))
  rw [this, cntS_full] at h; omega
theorem cntS_eq {S : Nat} (hSb : S < 2 ^ N) (h : cntS N S = N) : ∀ k, k < N → S.testBit k = true := by
  have : S = 2 ^ N - 1 := by
    refine Classical.byContradiction (fun hn => ?_)
    have := lnC_lt (hl := fun _ => 1) (H := N) (fun _ _ => Int.le_refl _) (S := S) (by omega)
    have e := cntS_full (N := N)
    unfold cntS at h e
    omega
  intro k hk
  rw [this]; exact full_bit hk
theorem bzA_b (ok : okT2 N m a af) {b : Nat → Int} {t : Int} {k : Nat} (hk : k < N) : 0 ≤ bzA m a b t k ∧ bzA m a b t k ≤ a k := by
  have := (ok.2 k hk).2.2.1
  unfold bzA
  split <;> omega
theorem bzS_le (ok : okT2 N m a af) (b : Nat → Int) (S : Nat) (t : Int) : bzS N m a b S t ≤ bzy N m a b t := smS_mo N (fun k hk => by
  show (if S.testBit k = true then bzA m a b t k else 0) ≤ bzA m a b t k
  have := bzA_b (b := b) (t := t) ok hk
  split <;> omega)
/-- before an act begins that is next, only those before it are under way -/
theorem bzS_eq {b : Nat → Int} {S : Nat} {t : Int} (h : ∀ k, k < N → S.testBit k = false → t < b k) : bzy N m a b t = bzS N m a b S t := smS_cg N (fun k hk => by
  show bzA m a b t k = if S.testBit k = true then bzA m a b t k else 0
  by_cases c : S.testBit k = true
  · rw [if_pos c]
  · have := h k hk (by cases hq : S.testBit k with | false => rfl | true => exact absurd hq c)
    rw [if_neg c]; unfold bzA; rw [if_neg (by omega)])
theorem bzS_up {b : Nat → Int} {S k : Nat} {t : Int} (hk : k < N) (hb : S.testBit k = false) : bzS N m a b (S ||| 2 ^ k) t = bzS N m a b S t + bzA m a b t k := by
  have tb : ∀ q, (S ||| 2 ^ k).testBit q = (if q = k then true else S.testBit q) := fun q => by
    rw [Nat.testBit_or]
    by_cases c : q = k
    · rw [c, Nat.testBit_two_pow_self, Bool.or_true, if_pos rfl]
    · rw [Nat.testBit_two_pow_of_ne (fun z => c z.symm), Bool.or_false, if_neg c]
  have := smS_up (f := fun q => if S.testBit q = true then bzA m a b t q else 0) (g := fun q => if (S ||| 2 ^ k).testBit q = true then bzA m a b t q else 0) (j := k) N hk (fun q _ hq => by
    show (if (S ||| 2 ^ k).testBit q = true then bzA m a b t q else 0) = if S.testBit q = true then bzA m a b t q else 0
    rw [tb, if_neg hq])
  unfold bzS
  rw [this]
  simp only [tb k, if_pos, hb, Bool.false_eq_true, if_false]
  omega
theorem smin_ex {b : Nat → Int} {z : Int} (h : fea N m a af b) (hz : mkz N m b z) : ∃ b2, smin N m a af b2 z := by
  obtain ⟨n, ⟨b2, b3, b4, b5⟩, b6⟩ := least_P (q := fun n => ∃ b2, fea N m a af b2 ∧ mkz N m b2 z ∧ smS b2 N = (n : Int)) ⟨(smS b N).toNat, b, h, hz, by
    have := smS_nn N (fun k hk => h.1 k hk); omega⟩
  refine ⟨b2, b3, b4, fun c c1 c2 => ?_⟩
  refine Classical.byContradiction (fun hn => ?_)
  have := smS_nn N (fun k hk => c1.1 k hk)
  exact b6 (smS c N).toNat (by omega) ⟨c, c1, c2, by omega⟩
/-- no act can begin earlier -/
theorem smin_no (ok : okT2 N m a af) {b : Nat → Int} {z : Int} (h : smin N m a af b z) {k : Nat} (hk : k < N) {s : Int} (h0 : 0 ≤ s) (hs : s < b k) (hp : ∀ j, j < N → (af k).testBit j = true → b j + m j ≤ s) (hb : ∀ t, s ≤ t → t < b k → t < s + m k → bzy N m a b t + a k ≤ 2) : False := by
  obtain ⟨⟨f1, f2, f3⟩, ⟨z0, z1⟩, z2⟩ := h
  have mk := ok.2 k hk
  have he : ∀ q, q ≠ k → upL b k s q = b q := fun q hq => by unfold upL; rw [if_neg hq]
  have hek : upL b k s k = s := by unfold upL; rw [if_pos rfl]
  have hsm := smS_up (f := b) (g := upL b k s) (j := k) N hk (fun q _ hq => he q hq)
  rw [hek] at hsm
  have nb : ∀ q, q < N → (af q).testBit q = false := fun q hq => Nat.testBit_lt_two_pow (ok.2 q hq).2.2.2
  have := z2 (upL b k s) ⟨fun q hq => ?_, fun q hq j hj hb2 => ?_, fun t => ?_⟩ ⟨z0, fun q hq => ?_⟩
  · omega
  · by_cases c : q = k
    · rw [c, hek]; exact h0
    · rw [he q c]; exact f1 q hq
  · by_cases c : q = k
    · subst c
      have cj : j ≠ q := fun z => by rw [z, nb q hq] at hb2; exact absurd hb2 (by decide)
      rw [hek, he j cj]; exact hp j hj hb2
    · rw [he q c]
      have := f2 q hq j hj hb2
      by_cases cj : j = k
      · rw [cj, hek]; rw [cj] at this; omega
      · rw [he j cj]; exact this
  · have hu := smS_up (f := bzA m a b t) (g := bzA m a (upL b k s) t) (j := k) N hk (fun q _ hq => by unfold bzA; rw [he q hq])
    have f3t := f3 t
    have hbt := hb t
    unfold bzy at *
    rw [hu]
    have e1 : bzA m a (upL b k s) t k = if s ≤ t ∧ t < s + m k then a k else 0 := by unfold bzA; rw [hek]
    have e2 : bzA m a b t k = if b k ≤ t ∧ t < b k + m k then a k else 0 := rfl
    rw [e1, e2]
    have ha := mk.2.2.1
    by_cases c1 : s ≤ t ∧ t < s + m k
    · rw [if_pos c1]
      by_cases c2 : b k ≤ t ∧ t < b k + m k
      · rw [if_pos c2]; omega
      · rw [if_neg c2]
        have := hbt c1.1 (by omega) c1.2
        omega
    · rw [if_neg c1]
      split <;> omega
  · by_cases c : q = k
    · rw [c, hek]; have := z1 k hk; omega
    · rw [he q c]; exact z1 q hq
/-- the next to begin -/
theorem next_ex {b : Nat → Int} {S : Nat} (h : ∃ k, k < N ∧ S.testBit k = false) : ∃ k, k < N ∧ S.testBit k = false ∧ ∀ q, q < N → S.testBit q = false → b k ≤ b q := by
  have : ∀ n, n ≤ N → (∃ k, k < n ∧ S.testBit k = false) → ∃ k, k < n ∧ S.testBit k = false ∧ ∀ q, q < n → S.testBit q = false → b k ≤ b q := by
    intro n
    induction n with
    | zero => intro _ ⟨k, hk, _⟩; omega
    | succ n ih =>
      intro hn ⟨k, hk, hb⟩
      by_cases c : ∃ k, k < n ∧ S.testBit k = false
      · obtain ⟨k2, k3, k4, k5⟩ := ih (by omega) c
        by_cases cn : S.testBit n = false ∧ b n < b k2
        · refine ⟨n, by omega, cn.1, fun q hq hqb => ?_⟩
          by_cases cq : q = n
          · rw [cq]; exact Int.le_refl _
          · have := k5 q (by omega) hqb; omega
        · refine ⟨k2, by omega, k4, fun q hq hqb => ?_⟩
          by_cases cq : q = n
          · subst cq
            refine Classical.byContradiction (fun z => cn ⟨hqb, by omega⟩)
          · exact k5 q (by omega) hqb
      · have hkn : k = n := by
          refine Classical.byContradiction (fun z => c ⟨k, by omega, hb⟩)
        subst hkn
        refine ⟨k, hk, hb, fun q hq hqb => ?_⟩
        by_cases cq : q = k
        · rw [cq]; exact Int.le_refl _
        · exact absurd ⟨q, by omega, hqb⟩ c
  exact this N (Nat.le_refl _) h
end
