/-! LEAST TIME: the reference lays a row -/
section
variable {d : Nat} {v : hV} {s s1 : hS} {N : Nat} {m a : Nat → Int} {af : Nat → Nat}
def cAm (N : Nat) (m a : Nat → Int) (af : Nat → Nat) (s : hS) : Prop := rI s 145 33 = nI N ∧ ∀ k, k < N → (rI s 165 k).toInt = m k ∧ (rI s 166 k).toInt = a k ∧ rI s 167 k = nI (af k)
theorem cAm_fr {F : Nat → Nat → Prop} (h : cAm N m a af s) (hf : Fr F s s1) (h1 : ¬ F 145 33) (h2 : ∀ k, ¬ F 165 k ∧ ¬ F 166 k ∧ ¬ F 167 k) : cAm N m a af s1 := by
  refine ⟨by rw [hf.i h1]; exact h.1, fun k hk => ?_⟩
  rw [hf.i (h2 k).1, hf.i (h2 k).2.1, hf.i (h2 k).2.2]; exact h.2 k hk
theorem sm_isFree {t M : Nat} {A : Int} {x2 x3 : Int32} (ht : t + M ≤ 256) (h2 : x2.toInt = M) (h3 : x3.toInt = A) (hA : 1 ≤ A ∧ A ≤ 2) {U : Nat → Int} (hU : ∀ q, q < 256 → (rI s 170 q).toInt = U q ∧ 0 ≤ U q ∧ U q ≤ 2) {K : Int32 → hS → Prop} (h1 : (∀ q, t ≤ q → q < t + M → U q + A ≤ 2) → K 1 s) (h0 : (∃ q, t ≤ q ∧ q < t + M ∧ 2 < U q + A) → K 0 s) : pcI d 218 [.ref 145, .int (nI t), .int x2, .int x3] v s K := by
  have et : (nI t + x2).toInt = ((t + M : Nat) : Int) := by rw [i_add (by rw [nI_toInt (by omega), h2]; omega), nI_toInt (by omega), h2]; omega
  have e1 : Int32.toInt 1 = 1 := rfl
  have e0 : Int32.toInt 0 = 0 := rfl
  have G : ∀ j i : Nat, i + j = t + M → t ≤ i → (∀ q, t ≤ q → q < i → U q + A ≤ 2) → pgI d 218 4 [.ref 145, .int (nI t), .int x2, .int x3, .int 1, .int (nI i)] [] v s K := by
    intro j
    induction j with
    | zero =>
      intro i hi hti hq
      refine st_M_isFree_4 ?_
      rw [et, nI_toInt (show i < 2147483648 by omega)]
      exact ⟨fun z => absurd z (by omega), fun _ => ⟨Or.inr rfl, h1 (fun q a b => hq q a (by omega))⟩⟩
    | succ j ih =>
      intro i hi hti hq
      have q1 : nI i + 1 = nI (i + 1) := by rw [nI_1]
      obtain ⟨u1, u2, u3⟩ := hU i (by omega)
      refine st_M_isFree_4 ?_
      rw [et, nI_toInt (show i < 2147483648 by omega), Int.toNat_natCast, i_add (by omega), u1, h3, q1]
      refine ⟨fun _ => ⟨fun z => absurd z (by decide), fun _ => ⟨by omega, fun c => ?_, fun c => ih (i + 1) (by omega) (by omega) (fun q a b => ?_)⟩⟩, fun z => absurd (by omega) z⟩
      · have k0 := h0 ⟨i, hti, by omega, c⟩
        refine st_M_isFree_4 ⟨fun _ => ⟨fun _ => ⟨Or.inl rfl, k0⟩, fun z => absurd rfl z⟩, fun _ => ⟨Or.inl rfl, k0⟩⟩
      · by_cases cq : q = i
        · rw [cq]; omega
        · exact hq q a (by omega)
  exact st_M_isFree (G M t (by omega) (Nat.le_refl _) (fun q a b => by omega))
theorem bzS_late (ok : okT2 N m a af) {b : Nat → Int} {S : Nat} {t : Int} (h : ∀ i, i < N → S.testBit i = true → b i + m i ≤ t) : bzS N m a b S t = 0 := by
  unfold bzS
  rw [smS_cg (g := fun _ => 0) N (fun k hk => by
    show (if S.testBit k = true then bzA m a b t k else 0) = 0
    by_cases c : S.testBit k = true
    · have := h k hk c
      rw [if_pos c]; unfold bzA; rw [if_neg (by omega)]
    · rw [if_neg c])]
  have z : ∀ n, smS (fun _ => 0) n = 0 := by
    intro n
    induction n with
    | zero => rfl
    | succ n ih => show smS (fun _ => 0) n + 0 = 0; rw [ih]; rfl
  exact z N
theorem bzS_nn (ok : okT2 N m a af) {b : Nat → Int} {S : Nat} {t : Int} : 0 ≤ bzS N m a b S t := smS_nn N (fun q hq => by
  show 0 ≤ if S.testBit q = true then bzA m a b t q else 0
  have := bzA_b (b := b) (t := t) ok hq
  split <;> omega)
/-- a row of the acts -/
def prm (N : Nat) (p : Nat → Nat) : Prop := (∀ i, i < N → p i < N) ∧ (∀ i j, i < N → j < N → p i = p j → i = j) ∧ ∀ k, k < N → ∃ i, i < N ∧ p i = k
def srt (N : Nat) (p : Nat → Nat) (b : Nat → Int) : Prop := ∀ i j, i < j → j < N → b (p i) ≤ b (p j)
/-- no schedule whose acts begin in this row is shorter than y -/
def bpR (N : Nat) (m a : Nat → Int) (af : Nat → Nat) (p : Nat → Nat) (y : Int) : Prop := ∀ b z, smin N m a af b z → srt N p b → y ≤ z
def eAm (s : hS) (k : Nat) : Int := (rI s 169 k).toInt
def bAm (m : Nat → Int) (s : hS) (k : Nat) : Int := eAm s k - m k
/-- the acts of S are laid -/
def ivL (N : Nat) (m a : Nat → Int) (af : Nat → Nat) (p : Nat → Nat) (i S : Nat) (lat : Int) (s : hS) : Prop := (S < 2 ^ N ∧ cntS N S = i ∧ (∀ q, q < i → S.testBit (p q) = true) ∧ ∀ k, k < N → S.testBit k = true → ∃ q, q < i ∧ p q = k) ∧ (∀ k, k < N → S.testBit k = true → 0 ≤ bAm m s k ∧ eAm s k ≤ lat) ∧ (∀ k, k < N → S.testBit k = true → ∀ q, q < N → (af k).testBit q = true → S.testBit q = true ∧ eAm s q ≤ bAm m s k) ∧ (∀ t, bzS N m a (bAm m s) S t ≤ 2) ∧ (∀ t : Nat, t < 256 → (rI s 170 t).toInt = bzS N m a (bAm m s) S t) ∧ (0 ≤ lat ∧ lat ≤ 30 * i) ∧ ∀ b z, smin N m a af b z → srt N p b → (∀ k, k < N → S.testBit k = true → eAm s k = b k + m k) ∧ lat ≤ z
end
