/-! NUMBERS: ints and longs by their toInt; what is held by Fr -/
theorem i_add {a b : Int32} (h : -2147483648 ≤ a.toInt + b.toInt ∧ a.toInt + b.toInt < 2147483648) : (a + b).toInt = a.toInt + b.toInt := by
  rw [Int32.toInt_add, Int.bmod_def]; split <;> omega
theorem i_sub {a b : Int32} (h : -2147483648 ≤ a.toInt - b.toInt ∧ a.toInt - b.toInt < 2147483648) : (a - b).toInt = a.toInt - b.toInt := by
  rw [Int32.toInt_sub, Int.bmod_def]; split <;> omega
theorem i_mul {a b : Int32} (h : -2147483648 ≤ a.toInt * b.toInt ∧ a.toInt * b.toInt < 2147483648) : (a * b).toInt = a.toInt * b.toInt := by
  rw [Int32.toInt_mul, Int.bmod_def]; split <;> omega
theorem i_neg {a : Int32} (h : -2147483648 < a.toInt) : (-a).toInt = -a.toInt := by
  have := Int32.toInt_lt a
  rw [Int32.toInt_neg, Int.bmod_def]; split <;> omega
theorem i_div {a b : Int32} (ha : 0 ≤ a.toInt) (hb : 0 < b.toInt) : (a / b).toInt = a.toInt / b.toInt := by
  have h1 := Int32.toInt_lt a
  have h2 : a.toInt / b.toInt ≤ a.toInt := Int.ediv_le_self _ ha
  have h3 : 0 ≤ a.toInt / b.toInt := Int.ediv_nonneg ha (by omega)
  rw [Int32.toInt_div, Int.tdiv_eq_ediv_of_nonneg ha, Int.bmod_def]; split <;> omega
theorem i_rem {a b : Int32} (ha : 0 ≤ a.toInt) (hb : 0 < b.toInt) : (a - a / b * b).toInt = a.toInt % b.toInt := by
  have e := i_div ha hb
  have h1 := Int32.toInt_lt a
  have h4 := Int.emod_nonneg a.toInt (show b.toInt ≠ 0 by omega)
  have h5 := Int.emod_add_mul_ediv a.toInt b.toInt
  have h3 : 0 ≤ a.toInt / b.toInt := Int.ediv_nonneg ha (by omega)
  have h6 : 0 ≤ b.toInt * (a.toInt / b.toInt) := Int.mul_nonneg (by omega) h3
  have h7 : a.toInt / b.toInt * b.toInt = b.toInt * (a.toInt / b.toInt) := Int.mul_comm _ _
  have e2 : (a / b * b).toInt = b.toInt * (a.toInt / b.toInt) := by
    rw [i_mul, e, h7]
    rw [e, h7]; omega
  rw [i_sub, e2]
  · omega
  · rw [e2]; omega
theorem l_add {a b : Int64} (h : -9223372036854775808 ≤ a.toInt + b.toInt ∧ a.toInt + b.toInt < 9223372036854775808) : (a + b).toInt = a.toInt + b.toInt := by
  rw [Int64.toInt_add, Int.bmod_def]; split <;> omega
theorem l_sub {a b : Int64} (h : -9223372036854775808 ≤ a.toInt - b.toInt ∧ a.toInt - b.toInt < 9223372036854775808) : (a - b).toInt = a.toInt - b.toInt := by
  rw [Int64.toInt_sub, Int.bmod_def]; split <;> omega
theorem l_mul {a b : Int64} (h : -9223372036854775808 ≤ a.toInt * b.toInt ∧ a.toInt * b.toInt < 9223372036854775808) : (a * b).toInt = a.toInt * b.toInt := by
  rw [Int64.toInt_mul, Int.bmod_def]; split <;> omega
theorem l_div {a b : Int64} (ha : 0 ≤ a.toInt) (hb : 0 < b.toInt) : (a / b).toInt = a.toInt / b.toInt := by
  have h1 := Int64.toInt_lt a
  have h2 : a.toInt / b.toInt ≤ a.toInt := Int.ediv_le_self _ ha
  have h3 : 0 ≤ a.toInt / b.toInt := Int.ediv_nonneg ha (by omega)
  rw [Int64.toInt_div, Int.tdiv_eq_ediv_of_nonneg ha, Int.bmod_def]; split <;> omega
theorem l_rem {a b : Int64} (ha : 0 ≤ a.toInt) (hb : 0 < b.toInt) : (a - a / b * b).toInt = a.toInt % b.toInt := by
  have e := l_div ha hb
  have h1 := Int64.toInt_lt a
  have h4 := Int.emod_nonneg a.toInt (show b.toInt ≠ 0 by omega)
  have h5 := Int.emod_add_mul_ediv a.toInt b.toInt
  have h3 : 0 ≤ a.toInt / b.toInt := Int.ediv_nonneg ha (by omega)
  have h6 : 0 ≤ b.toInt * (a.toInt / b.toInt) := Int.mul_nonneg (by omega) h3
  have h7 : a.toInt / b.toInt * b.toInt = b.toInt * (a.toInt / b.toInt) := Int.mul_comm _ _
  have e2 : (a / b * b).toInt = b.toInt * (a.toInt / b.toInt) := by
    rw [l_mul, e, h7]
    rw [e, h7]; omega
  rw [l_sub, e2]
  · omega
  · rw [e2]; omega
theorem i_64 (a : Int32) : a.toInt64.toInt = a.toInt := Int32.toInt_toInt64 a
theorem l_32 {a : Int64} (h : -2147483648 ≤ a.toInt ∧ a.toInt < 2147483648) : a.toInt32.toInt = a.toInt := by
  rw [Int64.toInt_toInt32, Int.bmod_def]; split <;> omega
theorem i_rng (a : Int32) : -2147483648 ≤ a.toInt ∧ a.toInt < 2147483648 := ⟨Int32.le_toInt a, Int32.toInt_lt a⟩
theorem l_rng (a : Int64) : -9223372036854775808 ≤ a.toInt ∧ a.toInt < 9223372036854775808 := ⟨Int64.le_toInt a, Int64.toInt_lt a⟩
theorem i_inj {a b : Int32} (h : a.toInt = b.toInt) : a = b := Int32.toInt_inj.mp h
theorem l_inj {a b : Int64} (h : a.toInt = b.toInt) : a = b := Int64.toInt_inj.mp h
theorem i_64_32 (a : Int32) : a.toInt64.toInt32 = a := i_inj (by rw [l_32 (by rw [i_64]; exact i_rng a), i_64])
theorem l_32_64 {a : Int64} (h : -2147483648 ≤ a.toInt ∧ a.toInt < 2147483648) : a.toInt32.toInt64 = a := l_inj (by rw [i_64, l_32 h])
/-- reading behind a store -/
theorem r_II (s : hS) (c k : Nat) (x : Int32) (c' k' : Nat) : rI (sI s c k x) c' k' = if c' = c ∧ k' = k then x else rI s c' k' := by
  show (if c' = c then (fun j => if j = k then x else s.1 c j) else s.1 c') k' = if c' = c ∧ k' = k then x else s.1 c' k'
  by_cases h1 : c' = c
  · rw [if_pos h1]
    show (if k' = k then x else s.1 c k') = _
    by_cases h2 : k' = k
    · rw [if_pos h2, if_pos ⟨h1, h2⟩]
    · rw [if_neg h2, if_neg (fun z => h2 z.2), h1]
  · rw [if_neg h1, if_neg (fun z => h1 z.1)]
theorem r_IL (s : hS) (c k : Nat) (x : Int64) (c' k' : Nat) : rI (sL s c k x) c' k' = rI s c' k' := rfl
theorem r_LI (s : hS) (c k : Nat) (x : Int32) (c' k' : Nat) : rL (sI s c k x) c' k' = rL s c' k' := rfl
theorem r_LL (s : hS) (c k : Nat) (x : Int64) (c' k' : Nat) : rL (sL s c k x) c' k' = if c' = c ∧ k' = k then x else rL s c' k' := by
  show (if c' = c then (fun j => if j = k then x else s.2 c j) else s.2 c') k' = if c' = c ∧ k' = k then x else s.2 c' k'
  by_cases h1 : c' = c
  · rw [if_pos h1]
    show (if k' = k then x else s.2 c k') = _
    by_cases h2 : k' = k
    · rw [if_pos h2, if_pos ⟨h1, h2⟩]
    · rw [if_neg h2, if_neg (fun z => h2 z.2), h1]
  · rw [if_neg h1, if_neg (fun z => h1 z.1)]
theorem r_IC (s : hS) (q r sp dp n c' k' : Nat) : rI (sCI s q r sp dp n) c' k' = if c' = r ∧ dp ≤ k' ∧ k' < dp + n then rI s q (sp + (k' - dp)) else rI s c' k' := by
  show (if c' = r then (fun k => if dp ≤ k ∧ k < dp + n then s.1 q (sp + (k - dp)) else s.1 r k) else s.1 c') k' = if c' = r ∧ dp ≤ k' ∧ k' < dp + n then s.1 q (sp + (k' - dp)) else s.1 c' k'
  by_cases h1 : c' = r
  · rw [if_pos h1]
    show (if dp ≤ k' ∧ k' < dp + n then s.1 q (sp + (k' - dp)) else s.1 r k') = _
    by_cases h2 : dp ≤ k' ∧ k' < dp + n
    · rw [if_pos h2, if_pos ⟨h1, h2⟩]
    · rw [if_neg h2, if_neg (fun z => h2 z.2), h1]
  · rw [if_neg h1, if_neg (fun z => h1 z.1)]
theorem r_LC (s : hS) (q r sp dp n c' k' : Nat) : rL (sCL s q r sp dp n) c' k' = if c' = r ∧ dp ≤ k' ∧ k' < dp + n then rL s q (sp + (k' - dp)) else rL s c' k' := by
  show (if c' = r then (fun k => if dp ≤ k ∧ k < dp + n then s.2 q (sp + (k - dp)) else s.2 r k) else s.2 c') k' = if c' = r ∧ dp ≤ k' ∧ k' < dp + n then s.2 q (sp + (k' - dp)) else s.2 c' k'
  by_cases h1 : c' = r
  · rw [if_pos h1]
    show (if dp ≤ k' ∧ k' < dp + n then s.2 q (sp + (k' - dp)) else s.2 r k') = _
    by_cases h2 : dp ≤ k' ∧ k' < dp + n
    · rw [if_pos h2, if_pos ⟨h1, h2⟩]
    · rw [if_neg h2, if_neg (fun z => h2 z.2), h1]
  · rw [if_neg h1, if_neg (fun z => h1 z.1)]
theorem r_ICL (s : hS) (q r sp dp n c' k' : Nat) : rI (sCL s q r sp dp n) c' k' = rI s c' k' := rfl
theorem r_LCI (s : hS) (q r sp dp n c' k' : Nat) : rL (sCI s q r sp dp n) c' k' = rL s c' k' := rfl
/-- but for the places that W names, s' holds what s holds -/
def Fr (W : Nat → Nat → Prop) (s s' : hS) : Prop := ∀ c k, ¬ W c k → rI s' c k = rI s c k ∧ rL s' c k = rL s c k
theorem Fr.rf (W : Nat → Nat → Prop) (s : hS) : Fr W s s := fun _ _ _ => ⟨rfl, rfl⟩
theorem Fr.tr {W : Nat → Nat → Prop} {s s1 s2 : hS} (h : Fr W s s1) (h2 : Fr W s1 s2) : Fr W s s2 := fun c k n => ⟨(h2 c k n).1.trans (h c k n).1, (h2 c k n).2.trans (h c k n).2⟩
theorem Fr.mo {W W' : Nat → Nat → Prop} {s s1 : hS} (h : Fr W s s1) (hw : ∀ c k, W c k → W' c k) : Fr W' s s1 := fun c k n => h c k (fun z => n (hw c k z))
theorem Fr.sI {W : Nat → Nat → Prop} {s s1 : hS} (h : Fr W s s1) {c k : Nat} {x : Int32} (hw : W c k) : Fr W s (sI s1 c k x) := fun c' k' n => by
  have n2 : ¬ (c' = c ∧ k' = k) := by rintro ⟨rfl, rfl⟩; exact n hw
  rw [r_II, r_LI, if_neg n2]
  exact h c' k' n
theorem Fr.sL {W : Nat → Nat → Prop} {s s1 : hS} (h : Fr W s s1) {c k : Nat} {x : Int64} (hw : W c k) : Fr W s (sL s1 c k x) := fun c' k' n => by
  have n2 : ¬ (c' = c ∧ k' = k) := by rintro ⟨rfl, rfl⟩; exact n hw
  rw [r_LL, r_IL, if_neg n2]
  exact h c' k' n
theorem Fr.sCI {W : Nat → Nat → Prop} {s s1 : hS} (h : Fr W s s1) {q r sp dp n : Nat} (hw : ∀ k, dp ≤ k ∧ k < dp + n → W r k) : Fr W s (sCI s1 q r sp dp n) := fun c' k' m => by
  have n2 : ¬ (c' = r ∧ dp ≤ k' ∧ k' < dp + n) := by rintro ⟨rfl, z⟩; exact m (hw k' z)
  rw [r_IC, r_LCI, if_neg n2]
  exact h c' k' m
theorem Fr.sCL {W : Nat → Nat → Prop} {s s1 : hS} (h : Fr W s s1) {q r sp dp n : Nat} (hw : ∀ k, dp ≤ k ∧ k < dp + n → W r k) : Fr W s (sCL s1 q r sp dp n) := fun c' k' m => by
  have n2 : ¬ (c' = r ∧ dp ≤ k' ∧ k' < dp + n) := by rintro ⟨rfl, z⟩; exact m (hw k' z)
  rw [r_LC, r_ICL, if_neg n2]
  exact h c' k' m
theorem Fr.i {W : Nat → Nat → Prop} {s s1 : hS} (h : Fr W s s1) {c k : Nat} (n : ¬ W c k) : rI s1 c k = rI s c k := (h c k n).1
theorem Fr.l {W : Nat → Nat → Prop} {s s1 : hS} (h : Fr W s s1) {c k : Nat} (n : ¬ W c k) : rL s1 c k = rL s c k := (h c k n).2
/-- a loop: by a measure that falls -/
theorem pg_wf {σ : Type} {P : σ → Prop} (μ : σ → Nat) (Inv : σ → Prop) (step : ∀ a, Inv a → (∀ b, Inv b → μ b < μ a → P b) → P a) : ∀ a, Inv a → P a := by
  intro a
  generalize hn : μ a = n
  induction n using Nat.strongRecOn generalizing a with
  | _ n ih =>
    intro ha
    subst hn
    exact step a ha (fun b hb hlt => ih _ hlt b rfl hb)
/-! bits -/
theorem i_of {x : Int32} (h : 0 ≤ x.toInt) : x = nI x.toInt.toNat := by
  have := Int32.toInt_lt x
  apply i_inj
  rw [nI_toInt (by omega)]; omega
theorem i_sl : ∀ n : Nat, n < 32 → ((nI n &&& 31).toBitVec.smod 32).toNat = n := by decide
theorem i_slm {m : Int32} (h : 0 ≤ m.toInt ∧ m.toInt < 32) : ((m &&& 31).toBitVec.smod 32).toNat = m.toInt.toNat := by
  have e := i_of h.1
  have := i_sl m.toInt.toNat (by omega)
  rw [← e] at this
  exact this
theorem i_shr {x m : Int32} (h : 0 ≤ m.toInt ∧ m.toInt < 32) : (x >>> (m &&& 31)).toInt = x.toInt / 2 ^ m.toInt.toNat := by
  rw [pk_shr x _ _ (i_slm h), Int.shiftRight_eq_div_pow]; rfl
theorem i_shl1 {m : Int32} (h : 0 ≤ m.toInt ∧ m.toInt < 31) : ((1 : Int32) <<< (m &&& 31)).toInt = 2 ^ m.toInt.toNat := by
  have e := pk_shlN (n := 1) (m &&& 31) _ (i_slm ⟨h.1, by omega⟩) (by
    rw [Nat.one_mul]; exact Nat.pow_lt_pow_right (by decide) (by omega))
  have e1 : (1 : Int32) = nI 1 := rfl
  rw [e1, e, Nat.one_mul, nI_toInt (Nat.pow_lt_pow_right (by decide) (by omega))]
  exact Int.natCast_pow 2 _
theorem i_shl1n {m : Int32} (h : 0 ≤ m.toInt ∧ m.toInt < 31) : ((1 : Int32) <<< (m &&& 31)) = nI (2 ^ m.toInt.toNat) := by
  have e := pk_shlN (n := 1) (m &&& 31) _ (i_slm ⟨h.1, by omega⟩) (by
    rw [Nat.one_mul]; exact Nat.pow_lt_pow_right (by decide) (by omega))
  have e1 : (1 : Int32) = nI 1 := rfl
  rw [e1, e, Nat.one_mul]
theorem n_and (a b : Nat) : nI a &&& nI b = nI (a &&& b) := by
  apply Int32.toBitVec_inj.mp
  show (BitVec.ofNat 32 a &&& BitVec.ofNat 32 b) = BitVec.ofNat 32 (a &&& b)
  rw [BitVec.ofNat_and]
theorem n_or (a b : Nat) : nI a ||| nI b = nI (a ||| b) := by
  apply Int32.toBitVec_inj.mp
  show (BitVec.ofNat 32 a ||| BitVec.ofNat 32 b) = BitVec.ofNat 32 (a ||| b)
  rw [BitVec.ofNat_or]
theorem n_xor (a b : Nat) : nI a ^^^ nI b = nI (a ^^^ b) := by
  apply Int32.toBitVec_inj.mp
  show (BitVec.ofNat 32 a ^^^ BitVec.ofNat 32 b) = BitVec.ofNat 32 (a ^^^ b)
  rw [BitVec.ofNat_xor]
/-- the set that an int spells -/
def sN (x : Int32) : Nat := x.toInt.toNat
theorem i_bit {x m : Int32} (hx : 0 ≤ x.toInt) (h : 0 ≤ m.toInt ∧ m.toInt < 32) : ((x >>> (m &&& 31)) &&& 1).toInt = if (sN x).testBit m.toInt.toNat then 1 else 0 := by
  have e1 := i_shr (x := x) h
  have h2 : 0 ≤ x.toInt / 2 ^ m.toInt.toNat := Int.ediv_nonneg hx (Int.pow_nonneg (by decide))
  have e2 := i_of (x := x >>> (m &&& 31)) (by rw [e1]; exact h2)
  have e3 : (x >>> (m &&& 31)).toInt.toNat = sN x / 2 ^ m.toInt.toNat := by
    rw [e1]
    have hs : x.toInt = (sN x : Int) := by unfold sN; omega
    rw [hs]
    have : ((sN x : Int) / 2 ^ m.toInt.toNat) = ((sN x / 2 ^ m.toInt.toNat : Nat) : Int) := by
      rw [Int.natCast_ediv, Int.natCast_pow]; rfl
    rw [this]; exact Int.toNat_natCast _
  have e4 : (1 : Int32) = nI 1 := rfl
  rw [e2, e3, e4, n_and, Nat.and_one_is_mod, nI_toInt (by omega)]
  rw [Nat.testBit_eq_decide_div_mod_eq]
  by_cases hb : sN x / 2 ^ m.toInt.toNat % 2 = 1
  · rw [hb]; rfl
  · have : sN x / 2 ^ m.toInt.toNat % 2 = 0 := by omega
    rw [this]; rfl
theorem sN_or {x m : Int32} (hx : 0 ≤ x.toInt) (h : 0 ≤ m.toInt ∧ m.toInt < 31) : (x ||| ((1 : Int32) <<< (m &&& 31))) = nI (sN x ||| 2 ^ m.toInt.toNat) := by
  rw [i_shl1n h]
  have e := i_of hx
  rw [show x = nI (sN x) from e, n_or, ← show x = nI (sN x) from e]
