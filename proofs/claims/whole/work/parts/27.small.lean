/-! THE SMALL PAIRS -/
theorem pp_fault {L d : Nat} {Rep : pl_S → Prop} (h : ∀ S, Rep S → pl_I S 49 4 = pl_I S 141 13) : pl_pairI L Rep d 52 172 [] := by
  intro S hS
  refine ⟨Nat.le_of_ble_eq_true rfl, ?_⟩
  refine pg_ret (n := 4) (fun cl f => rfl) ⟨_, S, rfl, rfl, rfl, ?_⟩
  refine ⟨Nat.le_of_ble_eq_true rfl, ?_⟩
  refine pg_ret (n := 3) (fun cl f => rfl) ⟨S, ?_, rfl, hS⟩
  exact congrArg (fun x => some (Value.int x)) (h S hS).symm
/-- a pair out of the two methods' own answers, where neither changes what is held -/
theorem pp_same {L d y z : Nat} {Rep : pl_S → Prop} {as : List Value} (v : pl_S → Int32) (hy : ∀ S, Rep S → pc d y (.ref 48 :: as) (pl_h L S) (fun r h1 => r = some (.int (v S)) ∧ h1 = pl_h L S)) (hz : ∀ S, Rep S → pc d z (.ref 141 :: as) (pl_h L S) (fun r h1 => r = some (.int (v S)) ∧ h1 = pl_h L S)) : pl_pairI L Rep d y z as := by
  intro S hS
  refine pc_mono (hy S hS) ?_
  rintro r h1 ⟨rfl, rfl⟩
  refine ⟨_, S, rfl, rfl, rfl, pc_mono (hz S hS) ?_⟩
  rintro r h1 ⟨rfl, rfl⟩
  exact ⟨S, rfl, rfl, hS⟩
/-- SkinTentModel.in -/
theorem pq_in (d : Nat) (x a b : Int64) (h : pm_H) : pc d 153 [.long x, .long a, .long b] h (fun r h1 => r = some (.int (if lg_cmp x a < 0 then 0 else if 0 < lg_cmp x b then 0 else 1)) ∧ h1 = h) := by
  refine ⟨Nat.le_of_ble_eq_true rfl, ?_⟩
  refine pg_if (n := 4) (fun cl f => rfl) (fun c => ?_) (fun c => ?_)
  · exact pg_ret (n := 2) (fun cl f => rfl) ⟨by rw [if_pos c], rfl⟩
  · refine pg_if (n := 4) (fun cl f => rfl) (fun c2 => ?_) (fun c2 => ?_)
    · exact pg_ret (n := 2) (fun cl f => rfl) ⟨by rw [if_neg c, if_pos c2], rfl⟩
    · exact pg_ret (n := 3) (fun cl f => rfl) ⟨by rw [if_neg c, if_neg c2], rfl⟩
theorem lg_lt (x y : Int64) : lg_cmp x y < 0 ↔ x.toInt < y.toInt := by
  unfold lg_cmp
  by_cases h : x > y
  · rw [if_pos h]
    have h1 : y.toInt < x.toInt := Int64.lt_iff_toInt_lt.mp h
    exact ⟨fun z => absurd z (by decide), fun z => by omega⟩
  · rw [if_neg h]
    have h1 : ¬ y.toInt < x.toInt := fun z => h (Int64.lt_iff_toInt_lt.mpr z)
    by_cases h2 : x = y
    · rw [if_pos h2]
      subst h2
      exact ⟨fun z => absurd z (by decide), fun z => by omega⟩
    · rw [if_neg h2]
      have h3 : x.toInt ≠ y.toInt := fun z => h2 (Int64.toInt_inj.mp z)
      exact ⟨fun _ => by omega, fun _ => by decide⟩
theorem lg_gt (x y : Int64) : 0 < lg_cmp x y ↔ y.toInt < x.toInt := by
  unfold lg_cmp
  by_cases h : x > y
  · rw [if_pos h]
    exact ⟨fun _ => Int64.lt_iff_toInt_lt.mp h, fun _ => by decide⟩
  · rw [if_neg h]
    have h1 : ¬ y.toInt < x.toInt := fun z => h (Int64.lt_iff_toInt_lt.mpr z)
    by_cases h2 : x = y
    · rw [if_pos h2]
      exact ⟨fun z => absurd z (by decide), fun z => absurd z h1⟩
    · rw [if_neg h2]
      exact ⟨fun z => absurd z (by decide), fun z => absurd z h1⟩
/-- SkinTentModel.in, a bit of what lies between -/
theorem pq_in2 (d : Nat) (x a b : Int64) (h : pm_H) : pc d 153 [.long x, .long a, .long b] h (fun r h1 => r = some (.int (if a.toInt ≤ x.toInt ∧ x.toInt ≤ b.toInt then 1 else 0)) ∧ h1 = h) := by
  refine pc_mono (pq_in d x a b h) ?_
  rintro r h1 ⟨rfl, rfl⟩
  refine ⟨?_, rfl⟩
  by_cases c : lg_cmp x a < 0
  · have := (lg_lt x a).mp c
    rw [if_pos c, if_neg (by omega)]
  · have hc : ¬ x.toInt < a.toInt := fun z => c ((lg_lt x a).mpr z)
    rw [if_neg c]
    by_cases c2 : 0 < lg_cmp x b
    · have := (lg_gt x b).mp c2
      rw [if_pos c2, if_neg (by omega)]
    · have : ¬ b.toInt < x.toInt := fun z => c2 ((lg_gt x b).mpr z)
      rw [if_neg c2, if_pos (by omega)]
theorem pl_inb0 {x : Int32} {n : Nat} (h0 : ¬ x < 0) (h1 : x.toInt < n) : (true && pm_inb x n) = true := by
  rw [Int32.lt_iff_toInt_lt] at h0
  rw [Bool.true_and]
  have e : Int32.toInt 0 = 0 := rfl
  exact pl_inb (by omega) h1
/-- what told answers -/
def pq_toldv (S : pl_S) (x : Int32) : Int32 :=
  if x < 0 then -1000000002 else if 12 < x then -1000000002
  else if x < 9 then pl_I S (S.1 + 1) x.toNatClampNeg
  else if x.toInt = 9 then pl_I S (S.1 + 3) 2
  else if x.toInt = 10 then pl_I S (S.1 + 8) 2
  else if x.toInt = 11 then pl_I S S.2.2.1 4
  else pl_I S 48 6
theorem pq_toldA {L d : Nat} {S : pl_S} (ht : S.1 = 51 ∨ S.1 = 64) (hn : S.2.2.1 = 77 ∨ S.2.2.1 = 82) (x : Int32) : pc d 53 [.ref 48, .int x] (pl_h L S) (fun r h1 => r = some (.int (pq_toldv S x)) ∧ h1 = pl_h L S) := by
  obtain ⟨t, dt, n, dn, I, G⟩ := S
  have ht : t = 51 ∨ t = 64 := ht
  have hn : n = 77 ∨ n = 82 := hn
  unfold pq_toldv
  refine ⟨Nat.le_of_ble_eq_true rfl, ?_⟩
  refine pg_if (n := 2) (fun cl f => rfl) (fun c => ?_) (fun c => ?_)
  · exact pg_ret (n := 2) (fun cl f => rfl) ⟨by rw [if_pos c], rfl⟩
  refine pg_if (n := 3) (fun cl f => rfl) (fun c2 => ?_) (fun c2 => ?_)
  · exact pg_ret (n := 2) (fun cl f => rfl) ⟨by rw [if_neg c, if_pos c2], rfl⟩
  refine pg_if (n := 3) (fun cl f => rfl) (fun c3 => ?_) (fun c3 => ?_)
  · have hb : (true && pm_inb x 9) = true := pl_inb0 c (by rw [Int32.lt_iff_toInt_lt] at c3; exact c3)
    rcases ht with rfl | rfl
    · exact pg_go (n := 5) (fun cl f => rfl) hb (pg_ret (n := 1) (fun cl f => rfl) ⟨by rw [if_neg c, if_neg c2, if_pos c3]; rfl, rfl⟩)
    · exact pg_go (n := 5) (fun cl f => rfl) hb (pg_ret (n := 1) (fun cl f => rfl) ⟨by rw [if_neg c, if_neg c2, if_pos c3]; rfl, rfl⟩)
  rw [if_neg c, if_neg c2, if_neg c3]
  refine pg_if (n := 2) (fun cl f => rfl) (fun c4 => ?_) (fun c4 => ?_)
  · exact pg_ret (n := 3) (fun cl f => rfl) ⟨by rw [if_neg (by omega), if_neg (by omega), if_neg (by omega)]; rfl, rfl⟩
  have h3 : x.toInt = 9 ∨ x.toInt = 10 ∨ x.toInt = 11 := by omega
  rcases h3 with e | e | e
  · rw [e]
    rcases ht with rfl | rfl
    · exact pg_ret (n := 5) (fun cl f => rfl) ⟨rfl, rfl⟩
    · exact pg_ret (n := 5) (fun cl f => rfl) ⟨rfl, rfl⟩
  · rw [e]
    rcases ht with rfl | rfl
    · exact pg_ret (n := 5) (fun cl f => rfl) ⟨rfl, rfl⟩
    · exact pg_ret (n := 5) (fun cl f => rfl) ⟨rfl, rfl⟩
  · rw [e]
    rcases hn with rfl | rfl
    · exact pg_ret (n := 4) (fun cl f => rfl) ⟨rfl, rfl⟩
    · exact pg_ret (n := 4) (fun cl f => rfl) ⟨rfl, rfl⟩
/-- what told needs of what is held -/
def pq_toldF (S : pl_S) : Prop := (∀ k : Nat, k < 9 → pl_I S (S.1 + 1) k = pl_I S 144 k) ∧ pl_I S (S.1 + 3) 2 = pl_I S 148 0 ∧ pl_I S (S.1 + 8) 2 = pl_I S 148 1 ∧ pl_I S S.2.2.1 4 = pl_I S 141 16 ∧ pl_I S 48 6 = pl_I S 141 18
theorem pq_toldB {L d : Nat} {S : pl_S} (hF : pq_toldF S) (x : Int32) : pc (d + 1) 173 [.ref 141, .int x] (pl_h L S) (fun r h1 => r = some (.int (pq_toldv S x)) ∧ h1 = pl_h L S) := by
  obtain ⟨h1, h2, h3, h4, h5⟩ := hF
  refine ⟨Nat.le_of_ble_eq_true rfl, ?_⟩
  refine pg_call (n := 5) (fun cl f => rfl) ?_
  refine pc_mono (pq_in2 d x.toInt64 0 8 _) ?_
  rintro r h ⟨rfl, rfl⟩
  have ex : x.toInt64.toInt = x.toInt := Int32.toInt_toInt64 x
  have e0 : Int64.toInt 0 = 0 := rfl
  have e8 : Int64.toInt 8 = 8 := rfl
  rw [ex, e0, e8]
  have l0 : (x < 0) ↔ x.toInt < 0 := Int32.lt_iff_toInt_lt
  have l9 : (x < 9) ↔ x.toInt < 9 := Int32.lt_iff_toInt_lt
  have l12 : (12 < x) ↔ 12 < x.toInt := Int32.lt_iff_toInt_lt
  by_cases hb : 0 ≤ x.toInt ∧ x.toInt ≤ 8
  · rw [if_pos hb]
    have hi : (true && pm_inb x 9) = true := pl_inb0 (by rw [l0]; omega) (by omega)
    refine pg_go (n := 5) (fun cl f => rfl) hi (pg_ret (n := 1) (fun cl f => rfl) ⟨?_, rfl⟩)
    unfold pq_toldv
    rw [if_neg (by rw [l0]; omega), if_neg (by rw [l12]; omega), if_pos (by rw [l9]; omega), h1 _ (by show x.toInt.toNat < 9; omega)]
    rfl
  rw [if_neg hb]
  refine pg_if (n := 4) (fun cl f => rfl) (fun c9 => ?_) (fun c9 => ?_)
  · subst c9
    exact pg_ret (n := 6) (fun cl f => rfl) ⟨congrArg (fun z => some (Value.int z)) h2.symm, rfl⟩
  refine pg_if (n := 3) (fun cl f => rfl) (fun c10 => ?_) (fun c10 => ?_)
  · subst c10
    exact pg_ret (n := 6) (fun cl f => rfl) ⟨congrArg (fun z => some (Value.int z)) h3.symm, rfl⟩
  refine pg_if (n := 3) (fun cl f => rfl) (fun c11 => ?_) (fun c11 => ?_)
  · subst c11
    exact pg_ret (n := 4) (fun cl f => rfl) ⟨congrArg (fun z => some (Value.int z)) h4.symm, rfl⟩
  refine pg_if (n := 3) (fun cl f => rfl) (fun c12 => ?_) (fun c12 => ?_)
  · subst c12
    exact pg_ret (n := 4) (fun cl f => rfl) ⟨congrArg (fun z => some (Value.int z)) h5.symm, rfl⟩
  refine pg_ret (n := 2) (fun cl f => rfl) ⟨?_, rfl⟩
  have n9 : x.toInt ≠ 9 := fun z => c9 (Int32.toInt_inj.mp z)
  have n10 : x.toInt ≠ 10 := fun z => c10 (Int32.toInt_inj.mp z)
  have n11 : x.toInt ≠ 11 := fun z => c11 (Int32.toInt_inj.mp z)
  have n12 : x.toInt ≠ 12 := fun z => c12 (Int32.toInt_inj.mp z)
  unfold pq_toldv
  by_cases hn : x < 0
  · rw [if_pos hn]
  · rw [if_neg hn, if_pos (by rw [l12]; rw [l0] at hn; omega)]
theorem pp_told {L d : Nat} {Rep : pl_S → Prop} (ht : ∀ S, Rep S → S.1 = 51 ∨ S.1 = 64) (hn : ∀ S, Rep S → S.2.2.1 = 77 ∨ S.2.2.1 = 82) (hF : ∀ S, Rep S → pq_toldF S) (x : Int32) : pl_pairI L Rep (d + 1) 53 173 [.int x] :=
  pp_same (fun S => pq_toldv S x) (fun S h => pq_toldA (ht S h) (hn S h) x) (fun S h => pq_toldB (hF S h) x)
