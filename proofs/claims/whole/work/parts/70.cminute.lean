/-! A MINUTE, in the class -/
def flB (D : Int) : Int64 := Int64.ofInt (if D < 0 then -D else D)
def flL (T : Nat → Int) (D : Int) : Int64 := Int64.ofInt ((if D < 0 then -D else D) * T 1 / 100)
def flR (T : Nat → Int) (D : Int) (r : Nat → Int64) (i : Nat) : Int64 := if D < 0 then dnR r (T 0).toNat (flB D) (flL T D) i else upR r (T 0).toNat (flB D) (flL T D) i
def flO (T : Nat → Int) (D : Int) (r : Nat → Int64) : Int64 := if D < 0 then dnC r (T 0).toNat (flB D) (flL T D) + dnF r (T 0).toNat (flB D) (flL T D) else upG r (T 0).toNat (flB D) (flL T D) 7
/-- what is blended at layer k -/
def blG (r : Nat → Int64) (m : Int64) (k : Nat) : Int64 := (r k - r (k + 1)) * m / 1000
def blS (r : Nat → Int64) (m : Int64) : Nat → Nat → Int64
  | 0 => r
  | k + 1 => fun i => if i = k + 1 then blS r m k (k + 1) + blG (blS r m k) m k else if i = k then blS r m k k - blG (blS r m k) m k else blS r m k i
def skQ (T : Nat → Int) (k : Nat) : Int64 := if k < (T 0).toNat then Int64.ofInt (T 3 / 2) else Int64.ofInt (T 3)
def clG (T : Nat → Int) (r : Nat → Int64) (k : Nat) : Int64 := r k * skQ T k / 1000
def lsS (T : Nat → Int) (r : Nat → Int64) (y : Int64) : Nat → Int64
  | 0 => y
  | k + 1 => lsS T r y k + clG T r k
theorem mulN {a b A B : Int} (h1 : 0 ≤ a) (h2 : a ≤ A) (h3 : 0 ≤ b) (h4 : b ≤ B) : 0 ≤ a * b ∧ a * b ≤ A * B := ⟨Int.mul_nonneg h1 h3, Int.mul_le_mul h2 h4 h3 (by omega)⟩
section
variable {d : Nat} {v : hV} {s s1 : hS} {r : Nat → Int64} {T : Nat → Int}
theorem sp_flow {t q : Nat} (ht : kT t) (hq : kQ q) (hT : tvC t s T) (ok : okT T) (hne : t + 1 ≠ q) {x1 : Int32} (hD : -400 ≤ x1.toInt ∧ x1.toInt ≤ 700) (hr : ∀ i, i < 8 → rL s q i = r i) {K : Int64 → hS → Prop} (hK : ∀ s2, Fr (fun c' _ => c' = q) s s2 → (∀ i, i < 8 → rL s2 q i = flR T x1.toInt r i) → K (flO T x1.toInt r) s2) : pcL (d + 1) 72 [.ref q, .int x1, .ref t] v s K := by
  have e100 : Int32.toInt 100 = 100 := rfl
  obtain ⟨b0, b1, _⟩ := okT_b ok
  refine st_Air_flow ht hq (sp_of (k := 0) ht (by decide) hT (fun w1 h1 => sp_of (k := 1) ht (by decide) hT (fun w2 h2 => ⟨fun c => ?_, fun c => ?_⟩)))
  · have n1 : (-x1).toInt = -x1.toInt := i_neg (by omega)
    have hb := mulN (A := 400) (B := 100) (a := -x1.toInt) (b := T 1) (by omega) (by omega) b1.1 b1.2
    have n2 : ((-x1) * w2).toInt = -x1.toInt * T 1 := by rw [i_mul (by rw [n1, h2]; omega), n1, h2]
    have n3 : (((-x1) * w2) / 100).toInt = -x1.toInt * T 1 / 100 := by rw [i_div (by rw [n2]; omega) (by rw [e100]; decide), n2, e100]
    have hle : -x1.toInt * T 1 / 100 ≤ -x1.toInt := by
      have := (mulN (A := -x1.toInt) (B := 100) (a := -x1.toInt) (b := T 1) (by omega) (by omega) b1.1 b1.2).2
      omega
    have g1 : (-x1).toInt64 = flB x1.toInt := l_of (by rw [i_64, n1, if_pos c])
    have g2 : (((-x1) * w2) / 100).toInt64 = flL T x1.toInt := l_of (by rw [i_64, n3, if_pos c])
    refine sp_sink (c := (T 0).toNat) hq (by rw [h1]; omega) (by omega) ?_ hr (fun s2 f2 e2 => ?_)
    · refine l_inj ?_
      rw [i_64, l_sub (by rw [i_64, i_64, n1, n3]; omega), i_64, i_64, i_sub (by rw [n1, n3]; omega)]
    · have := hK s2 f2 (fun i hi => by rw [e2 i hi, g1, g2]; unfold flR; rw [if_pos c])
      unfold flO at this; rw [if_pos c] at this
      rw [g1, g2]; exact this
  · have hb := mulN (A := 700) (B := 100) (a := x1.toInt) (b := T 1) (by omega) (by omega) b1.1 b1.2
    have n2 : (x1 * w2).toInt = x1.toInt * T 1 := by rw [i_mul (by rw [h2]; omega), h2]
    have n3 : ((x1 * w2) / 100).toInt = x1.toInt * T 1 / 100 := by rw [i_div (by rw [n2]; omega) (by rw [e100]; decide), n2, e100]
    have g1 : x1.toInt64 = flB x1.toInt := l_of (by rw [i_64, if_neg c])
    have g2 : ((x1 * w2) / 100).toInt64 = flL T x1.toInt := l_of (by rw [i_64, n3, if_neg c])
    refine sp_rise (c := (T 0).toNat) hq (by rw [h1]; omega) (by omega) hr (fun s2 f2 e2 => ?_)
    have := hK s2 f2 (fun i hi => by rw [e2 i hi, g1, g2]; unfold flR; rw [if_neg c])
    unfold flO at this; rw [if_neg c] at this
    rw [g1, g2]; exact this
theorem sp_blend {q : Nat} (hq : kQ q) {x1 : Int32} (hr : ∀ i, i < 8 → rL s q i = r i) {K : hS → Prop} (hK : ∀ s2, Fr (fun c' _ => c' = q) s s2 → (∀ i, i < 8 → rL s2 q i = blS r x1.toInt64 7 i) → K s2) : pcV d 75 [.ref q, .int x1] v s K := by
  have L : ∀ (m j : Nat) (s1 : hS) (z3 z4 : Value), j + m = 7 → Fr (fun c' _ => c' = q) s s1 → (∀ i, i < 8 → rL s1 q i = blS r x1.toInt64 j i) → pgV d 75 2 [.ref q, .int x1, .int (nI j), z3, z4] [] v s1 K := by
    intro m
    induction m with
    | zero =>
      intro j s1 z3 z4 hj hf hs
      have hj : j = 7 := by omega
      subst hj
      exact st_Air_blend_2 hq ⟨fun z => absurd z (by decide), fun _ => hK s1 hf hs⟩
    | succ m ih =>
      intro j s1 z3 z4 hj hf hs
      have k0 : (nI j).toInt = j := nI_toInt (by omega)
      have k1 : (nI j).toInt.toNat = j := by omega
      have k2 : (nI j + 1).toInt = j + 1 := by rw [nI_1, nI_toInt (by omega)]; omega
      have k3 : (nI j + 1).toInt.toNat = j + 1 := by omega
      refine st_Air_blend_2 hq ⟨fun _ => ⟨by omega, by omega, by omega, by omega, by omega, by omega, ?_⟩, fun z => absurd (by omega) z⟩
      rw [k1, k3]
      have e : (rL s1 q j - rL s1 q (j + 1)) * x1.toInt64 / 1000 = blG (blS r x1.toInt64 j) x1.toInt64 j := by unfold blG; rw [hs j (by omega), hs (j + 1) (by omega)]
      rw [e, nI_1]
      refine ih (j + 1) _ _ _ (by omega) ((hf.sL rfl).sL rfl) (fun i hi => ?_)
      rw [r_LL, r_LL, r_LL, if_neg (show ¬ (q = q ∧ j + 1 = j) by omega), hs j (by omega), hs (j + 1) (by omega)]
      show _ = (if i = j + 1 then blS r x1.toInt64 j (j + 1) + blG (blS r x1.toInt64 j) x1.toInt64 j else if i = j then blS r x1.toInt64 j j - blG (blS r x1.toInt64 j) x1.toInt64 j else blS r x1.toInt64 j i)
      by_cases a1 : i = j + 1
      · rw [if_pos ⟨rfl, a1⟩, if_pos a1]
      · rw [if_neg (fun z => a1 z.2), if_neg a1]
        by_cases a2 : i = j
        · rw [if_pos ⟨rfl, a2⟩, if_pos a2]
        · rw [if_neg (fun z => a2 z.2), if_neg a2, hs i hi]
  exact st_Air_blend hq (L 7 0 s _ _ rfl (Fr.rf _ _) hr)
theorem sp_cool {t a : Nat} (ht : kT t) (ha : kA a) (hT : tvC t s T) (ok : okT T) (hr : ∀ i, i < 8 → rL s (a + 2) i = r i) {K : hS → Prop} (hK : ∀ s2, Fr (fun c k => c = a + 2 ∨ (c = a ∧ k = 6)) s s2 → (∀ i, i < 8 → rL s2 (a + 2) i = r i - clG T r i) → rL s2 a 6 = lsS T r (rL s a 6) 8 → K s2) : pcV (d + 1) 76 [.ref a, .ref t] v s K := by
  have e2 : Int32.toInt 2 = 2 := rfl
  obtain ⟨b0, b1, b2, b3, _⟩ := okT_b ok
  refine st_Air_cool ht ha (sp_of (k := 0) ht (by decide) hT (fun w1 h1 => sp_of (k := 3) ht (by decide) hT (fun w2 h2 => ?_)))
  have g1 : w2.toInt64 = Int64.ofInt (T 3) := l_of (by rw [i_64, h2])
  have g2 : (w2 / 2).toInt64 = Int64.ofInt (T 3 / 2) := l_of (by rw [i_64, i_div (by omega) (by rw [e2]; decide), h2, e2])
  have L : ∀ (m j : Nat) (s1 : hS) (z5 z6 : Value), j + m = 8 → Fr (fun c k => c = a + 2 ∨ (c = a ∧ k = 6)) s s1 → (∀ i, i < 8 → rL s1 (a + 2) i = if i < j then r i - clG T r i else r i) → rL s1 a 6 = lsS T r (rL s a 6) j → pgV (d + 1) 76 10 [.ref a, .ref t, .int w1, .int w2, .int (nI j), z5, z6] [] v s1 K := by
    intro m
    induction m with
    | zero =>
      intro j s1 z5 z6 hj hf hs hl
      have hj : j = 8 := by omega
      subst hj
      exact st_Air_cool_10 ha ⟨fun z => absurd z (by decide), fun _ => hK s1 hf (fun i hi => by rw [hs i hi, if_pos hi]) hl⟩
    | succ m ih =>
      intro j s1 z5 z6 hj hf hs hl
      have k0 : (nI j).toInt = j := nI_toInt (by omega)
      have k1 : (nI j).toInt.toNat = j := by omega
      have hj0 : rL s1 (a + 2) j = r j := by rw [hs j (by omega), if_neg (by omega)]
      have F : ∀ (z5 z6 : Value), pgV (d + 1) 76 10 [.ref a, .ref t, .int w1, .int w2, .int (nI j + 1), z5, z6] [] v (sL (sL s1 (a + 2) j (rL s1 (a + 2) j - clG T r j)) a 6 (rL s1 a 6 + clG T r j)) K := by
        intro z5 z6
        rw [nI_1]
        refine ih (j + 1) _ _ _ (by omega) ((hf.sL (Or.inl rfl)).sL (Or.inr ⟨rfl, rfl⟩)) (fun i hi => ?_) (by rw [r_LL, if_pos ⟨rfl, rfl⟩, hl]; rfl)
        rw [r_LL, if_neg (by omega), r_LL, hj0]
        by_cases a1 : i = j
        · rw [if_pos ⟨rfl, a1⟩, if_pos (by omega), a1]
        · rw [if_neg (fun z => a1 z.2), hs i hi]
          by_cases a2 : i < j
          · rw [if_pos a2, if_pos (by omega)]
          · rw [if_neg a2, if_neg (by omega)]
      refine st_Air_cool_10 ha ⟨fun _ => ⟨by omega, fun c1 => ⟨by omega, by omega, ?_⟩, fun c1 => ⟨by omega, by omega, ?_⟩⟩, fun z => absurd (by omega) z⟩
      · have e : rL s1 (a + 2) j * (w2 / 2).toInt64 / 1000 = clG T r j := by unfold clG skQ; rw [if_pos (by omega), hj0, g2]
        rw [k1, e]; exact F _ _
      · have e : rL s1 (a + 2) j * w2.toInt64 / 1000 = clG T r j := by unfold clG skQ; rw [if_neg (by omega), hj0, g1]
        rw [k1, e]; exact F _ _
  exact L 8 0 s _ _ rfl (Fr.rf _ _) (fun i hi => by rw [if_neg (by omega)]; exact hr i hi) rfl
end
