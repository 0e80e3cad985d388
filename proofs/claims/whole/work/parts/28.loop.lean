/-! THE LAW'S LOOP -/
abbrev pl_S : Type := Nat × Nat × Nat × Nat × (Nat → Nat → Int32) × (Nat → Nat → Int64)
noncomputable def pl_h (L : Nat) (S : pl_S) : pm_H := pu_hp L S.1 S.2.1 S.2.2.1 S.2.2.2.1 S.2.2.2.2.1 S.2.2.2.2.2
def pl_I (S : pl_S) : Nat → Nat → Int32 := S.2.2.2.2.1
/-- the class's method y and the reference's z answer alike (an int), what is held agrees behind them -/
def pl_pairI (L : Nat) (Rep : Nat → pl_S → Prop) (d y z : Nat) (as : List Value) : Prop := ∀ n S, n < 512 → Rep n S → pc d y (.ref 48 :: as) (pl_h L S) (fun r h1 => ∃ (x : Int32) (S1 : pl_S), r = some (.int x) ∧ h1 = pl_h L S1 ∧ pl_I S1 0 = pl_I S 0 ∧ pc d z (.ref 145 :: as) (pl_h L S1) (fun r2 h2 => ∃ S2 : pl_S, r2 = some (.int x) ∧ h2 = pl_h L S2 ∧ Rep (n + 1) S2))
/-- the same, a long -/
def pl_pairL (L : Nat) (Rep : Nat → pl_S → Prop) (d y z : Nat) (as : List Value) : Prop := ∀ n S, n < 512 → Rep n S → pc d y (.ref 48 :: as) (pl_h L S) (fun r h1 => ∃ (x : Int64) (S1 : pl_S), r = some (.long x) ∧ h1 = pl_h L S1 ∧ pl_I S1 0 = pl_I S 0 ∧ pc d z (.ref 145 :: as) (pl_h L S1) (fun r2 h2 => ∃ S2 : pl_S, r2 = some (.long x) ∧ h2 = pl_h L S2 ∧ Rep (n + 1) S2))
/-- a place of the script -/
def pl_i (L : Nat) (i : Int32) : Prop := L ≤ 2560 ∧ 0 ≤ i.toInt ∧ i.toInt + 5 ≤ L
theorem pl_add {i k : Int32} (h0 : 0 ≤ i.toInt) (hi : i.toInt ≤ 100000) (hk : 0 ≤ k.toInt ∧ k.toInt ≤ 100) : (i + k).toInt = i.toInt + k.toInt := by
  rw [Int32.toInt_add, Int.bmod_def]
  split <;> omega
theorem pl_inb {x : Int32} {L : Nat} (h0 : 0 ≤ x.toInt) (h1 : x.toInt < L) : pm_inb x L = true := by
  have e : x.toNatClampNeg = x.toInt.toNat := rfl
  rw [pm_inb, Bool.and_eq_true, decide_eq_true_iff, decide_eq_true_iff, Int32.le_iff_toInt_le, e]
  exact ⟨h0, by omega⟩
theorem pl_rd0 {L : Nat} {i : Int32} (h : pl_i L i) : (true && pm_inb i L) = true := by
  obtain ⟨a, b, c⟩ := h
  rw [Bool.true_and]; exact pl_inb b (by omega)
theorem pl_rd {L : Nat} {i : Int32} (h : pl_i L i) (k : Int32) (hk : 0 ≤ k.toInt ∧ k.toInt ≤ 4) : (true && pm_inb (i + k) L) = true := by
  obtain ⟨a, b, c⟩ := h
  have e := pl_add (k := k) b (by omega) ⟨hk.1, by omega⟩
  rw [Bool.true_and]; exact pl_inb (by omega) (by omega)
theorem pl_cmp (x : Int64) : lg_cmp x x = 0 := by simp [lg_cmp]
theorem pl_c0 {d L : Nat} {Rep : Nat → pl_S → Prop} (P : ∀ (a0 : Int32) (a1 : Int64), pl_pairI L Rep d 13 153 [.int a0, .long a1]) {n : Nat} (hn : n < 512) {S : pl_S} (hS : Rep n S) {i : Int32} (hi : pl_i L i) {Q : Option Value → pm_H → Prop} (K : ∀ S2, Rep (n + 1) S2 → pg (d + 1) 0 808 [.ref 0, .ref 48, .ref 145, .int i] [] (pl_h L S2) Q) : pg (d + 1) 0 22 [.ref 0, .ref 48, .ref 145, .int i] [] (pl_h L S) Q := by
  refine pg_go (n := 6) (fun cl f => rfl) (pl_rd hi 1 (by decide)) ?_
  refine pg_go (n := 5) (fun cl f => rfl) (pl_rd hi 2 (by decide)) ?_
  refine pg_go (n := 8) (fun cl f => rfl) (pl_rd hi 3 (by decide)) ?_
  refine pg_call (n := 5) (fun cl f => rfl) ?_
  refine pc_mono (P _ _ n S hn hS) ?_
  rintro r h1 ⟨x, S1, rfl, rfl, hI, hp⟩
  refine pg_go (n := 6) (fun cl f => rfl) (pl_rd hi 1 (by decide)) ?_
  refine pg_go (n := 5) (fun cl f => rfl) (pl_rd hi 2 (by decide)) ?_
  refine pg_go (n := 8) (fun cl f => rfl) (pl_rd hi 3 (by decide)) ?_
  refine pg_call (n := 5) (fun cl f => rfl) ?_
  show pc d 153 [.ref 145, .int (pl_I S1 0 (i + 1).toNatClampNeg), .long ((((pl_I S1 0 (i + 2).toNatClampNeg)).toInt64 <<< ((32 : Int32).toInt64 &&& 63)) ||| (((pl_I S1 0 (i + 3).toNatClampNeg)).toInt64 &&& 4294967295))] (pl_h L S1) _
  rw [hI]
  refine pc_mono hp ?_
  rintro r h2 ⟨S2, rfl, rfl, hS2⟩
  exact pg_if (n := 1) (fun cl f => rfl) (fun _ => K S2 hS2) (fun c => absurd rfl c)
theorem pl_c1 {d L : Nat} {Rep : Nat → pl_S → Prop} (P : pl_pairI L Rep d 15 155 []) {n : Nat} (hn : n < 512) {S : pl_S} (hS : Rep n S) {i : Int32} (hi : pl_i L i) {Q : Option Value → pm_H → Prop} (K : ∀ S2, Rep (n + 1) S2 → pg (d + 1) 0 808 [.ref 0, .ref 48, .ref 145, .int i] [] (pl_h L S2) Q) : pg (d + 1) 0 73 [.ref 0, .ref 48, .ref 145, .int i] [] (pl_h L S) Q := by
  refine pg_call (n := 2) (fun cl f => rfl) ?_
  refine pc_mono (P  n S hn hS) ?_
  rintro r h1 ⟨x, S1, rfl, rfl, hI, hp⟩
  refine pg_call (n := 2) (fun cl f => rfl) ?_
  show pc d 155 [.ref 145] (pl_h L S1) _
  refine pc_mono hp ?_
  rintro r h2 ⟨S2, rfl, rfl, hS2⟩
  exact pg_if (n := 1) (fun cl f => rfl) (fun _ => K S2 hS2) (fun c => absurd rfl c)
theorem pl_c2 {d L : Nat} {Rep : Nat → pl_S → Prop} (P : pl_pairI L Rep d 47 170 []) {n : Nat} (hn : n < 512) {S : pl_S} (hS : Rep n S) {i : Int32} (hi : pl_i L i) {Q : Option Value → pm_H → Prop} (K : ∀ S2, Rep (n + 1) S2 → pg (d + 1) 0 808 [.ref 0, .ref 48, .ref 145, .int i] [] (pl_h L S2) Q) : pg (d + 1) 0 80 [.ref 0, .ref 48, .ref 145, .int i] [] (pl_h L S) Q := by
  refine pg_call (n := 2) (fun cl f => rfl) ?_
  refine pc_mono (P  n S hn hS) ?_
  rintro r h1 ⟨x, S1, rfl, rfl, hI, hp⟩
  refine pg_call (n := 2) (fun cl f => rfl) ?_
  show pc d 170 [.ref 145] (pl_h L S1) _
  refine pc_mono hp ?_
  rintro r h2 ⟨S2, rfl, rfl, hS2⟩
  exact pg_if (n := 1) (fun cl f => rfl) (fun _ => K S2 hS2) (fun c => absurd rfl c)
theorem pl_c3 {d L : Nat} {Rep : Nat → pl_S → Prop} (P : pl_pairI L Rep d 50 172 []) {n : Nat} (hn : n < 512) {S : pl_S} (hS : Rep n S) {i : Int32} (hi : pl_i L i) {Q : Option Value → pm_H → Prop} (K : ∀ S2, Rep (n + 1) S2 → pg (d + 1) 0 808 [.ref 0, .ref 48, .ref 145, .int i] [] (pl_h L S2) Q) : pg (d + 1) 0 87 [.ref 0, .ref 48, .ref 145, .int i] [] (pl_h L S) Q := by
  refine pg_call (n := 2) (fun cl f => rfl) ?_
  refine pc_mono (P  n S hn hS) ?_
  rintro r h1 ⟨x, S1, rfl, rfl, hI, hp⟩
  refine pg_call (n := 2) (fun cl f => rfl) ?_
  show pc d 172 [.ref 145] (pl_h L S1) _
  refine pc_mono hp ?_
  rintro r h2 ⟨S2, rfl, rfl, hS2⟩
  exact pg_if (n := 1) (fun cl f => rfl) (fun _ => K S2 hS2) (fun c => absurd rfl c)
theorem pl_c4 {d L : Nat} {Rep : Nat → pl_S → Prop} (P : pl_pairI L Rep d 52 173 []) {n : Nat} (hn : n < 512) {S : pl_S} (hS : Rep n S) {i : Int32} (hi : pl_i L i) {Q : Option Value → pm_H → Prop} (K : ∀ S2, Rep (n + 1) S2 → pg (d + 1) 0 808 [.ref 0, .ref 48, .ref 145, .int i] [] (pl_h L S2) Q) : pg (d + 1) 0 94 [.ref 0, .ref 48, .ref 145, .int i] [] (pl_h L S) Q := by
  refine pg_call (n := 2) (fun cl f => rfl) ?_
  refine pc_mono (P  n S hn hS) ?_
  rintro r h1 ⟨x, S1, rfl, rfl, hI, hp⟩
  refine pg_call (n := 2) (fun cl f => rfl) ?_
  show pc d 173 [.ref 145] (pl_h L S1) _
  refine pc_mono hp ?_
  rintro r h2 ⟨S2, rfl, rfl, hS2⟩
  exact pg_if (n := 1) (fun cl f => rfl) (fun _ => K S2 hS2) (fun c => absurd rfl c)
theorem pl_c5 {d L : Nat} {Rep : Nat → pl_S → Prop} (P : ∀ (a0 : Int32), pl_pairI L Rep d 53 174 [.int a0]) {n : Nat} (hn : n < 512) {S : pl_S} (hS : Rep n S) {i : Int32} (hi : pl_i L i) {Q : Option Value → pm_H → Prop} (K : ∀ S2, Rep (n + 1) S2 → pg (d + 1) 0 808 [.ref 0, .ref 48, .ref 145, .int i] [] (pl_h L S2) Q) : pg (d + 1) 0 101 [.ref 0, .ref 48, .ref 145, .int i] [] (pl_h L S) Q := by
  refine pg_go (n := 6) (fun cl f => rfl) (pl_rd hi 1 (by decide)) ?_
  refine pg_call (n := 1) (fun cl f => rfl) ?_
  refine pc_mono (P _ n S hn hS) ?_
  rintro r h1 ⟨x, S1, rfl, rfl, hI, hp⟩
  refine pg_go (n := 6) (fun cl f => rfl) (pl_rd hi 1 (by decide)) ?_
  refine pg_call (n := 1) (fun cl f => rfl) ?_
  show pc d 174 [.ref 145, .int (pl_I S1 0 (i + 1).toNatClampNeg)] (pl_h L S1) _
  rw [hI]
  refine pc_mono hp ?_
  rintro r h2 ⟨S2, rfl, rfl, hS2⟩
  exact pg_if (n := 1) (fun cl f => rfl) (fun _ => K S2 hS2) (fun c => absurd rfl c)
theorem pl_c6 {d L : Nat} {Rep : Nat → pl_S → Prop} (P : ∀ (a0 : Int32) (a1 : Int32), pl_pairI L Rep d 54 175 [.int a0, .int a1]) {n : Nat} (hn : n < 512) {S : pl_S} (hS : Rep n S) {i : Int32} (hi : pl_i L i) {Q : Option Value → pm_H → Prop} (K : ∀ S2, Rep (n + 1) S2 → pg (d + 1) 0 808 [.ref 0, .ref 48, .ref 145, .int i] [] (pl_h L S2) Q) : pg (d + 1) 0 118 [.ref 0, .ref 48, .ref 145, .int i] [] (pl_h L S) Q := by
  refine pg_go (n := 6) (fun cl f => rfl) (pl_rd hi 1 (by decide)) ?_
  refine pg_go (n := 5) (fun cl f => rfl) (pl_rd hi 2 (by decide)) ?_
  refine pg_call (n := 1) (fun cl f => rfl) ?_
  refine pc_mono (P _ _ n S hn hS) ?_
  rintro r h1 ⟨x, S1, rfl, rfl, hI, hp⟩
  refine pg_go (n := 6) (fun cl f => rfl) (pl_rd hi 1 (by decide)) ?_
  refine pg_go (n := 5) (fun cl f => rfl) (pl_rd hi 2 (by decide)) ?_
  refine pg_call (n := 1) (fun cl f => rfl) ?_
  show pc d 175 [.ref 145, .int (pl_I S1 0 (i + 1).toNatClampNeg), .int (pl_I S1 0 (i + 2).toNatClampNeg)] (pl_h L S1) _
  rw [hI]
  refine pc_mono hp ?_
  rintro r h2 ⟨S2, rfl, rfl, hS2⟩
  exact pg_if (n := 1) (fun cl f => rfl) (fun _ => K S2 hS2) (fun c => absurd rfl c)
theorem pl_c7 {d L : Nat} {Rep : Nat → pl_S → Prop} (P : ∀ (a0 : Int32) (a1 : Int32), pl_pairI L Rep d 56 177 [.int a0, .int a1]) {n : Nat} (hn : n < 512) {S : pl_S} (hS : Rep n S) {i : Int32} (hi : pl_i L i) {Q : Option Value → pm_H → Prop} (K : ∀ S2, Rep (n + 1) S2 → pg (d + 1) 0 808 [.ref 0, .ref 48, .ref 145, .int i] [] (pl_h L S2) Q) : pg (d + 1) 0 145 [.ref 0, .ref 48, .ref 145, .int i] [] (pl_h L S) Q := by
  refine pg_go (n := 6) (fun cl f => rfl) (pl_rd hi 1 (by decide)) ?_
  refine pg_go (n := 5) (fun cl f => rfl) (pl_rd hi 2 (by decide)) ?_
  refine pg_call (n := 1) (fun cl f => rfl) ?_
  refine pc_mono (P _ _ n S hn hS) ?_
  rintro r h1 ⟨x, S1, rfl, rfl, hI, hp⟩
  refine pg_go (n := 6) (fun cl f => rfl) (pl_rd hi 1 (by decide)) ?_
  refine pg_go (n := 5) (fun cl f => rfl) (pl_rd hi 2 (by decide)) ?_
  refine pg_call (n := 1) (fun cl f => rfl) ?_
  show pc d 177 [.ref 145, .int (pl_I S1 0 (i + 1).toNatClampNeg), .int (pl_I S1 0 (i + 2).toNatClampNeg)] (pl_h L S1) _
  rw [hI]
  refine pc_mono hp ?_
  rintro r h2 ⟨S2, rfl, rfl, hS2⟩
  exact pg_if (n := 1) (fun cl f => rfl) (fun _ => K S2 hS2) (fun c => absurd rfl c)
theorem pl_c8 {d L : Nat} {Rep : Nat → pl_S → Prop} (P : ∀ (a0 : Int32) (a1 : Int32), pl_pairI L Rep d 57 178 [.int a0, .int a1]) {n : Nat} (hn : n < 512) {S : pl_S} (hS : Rep n S) {i : Int32} (hi : pl_i L i) {Q : Option Value → pm_H → Prop} (K : ∀ S2, Rep (n + 1) S2 → pg (d + 1) 0 808 [.ref 0, .ref 48, .ref 145, .int i] [] (pl_h L S2) Q) : pg (d + 1) 0 172 [.ref 0, .ref 48, .ref 145, .int i] [] (pl_h L S) Q := by
  refine pg_go (n := 6) (fun cl f => rfl) (pl_rd hi 1 (by decide)) ?_
  refine pg_go (n := 5) (fun cl f => rfl) (pl_rd hi 2 (by decide)) ?_
  refine pg_call (n := 1) (fun cl f => rfl) ?_
  refine pc_mono (P _ _ n S hn hS) ?_
  rintro r h1 ⟨x, S1, rfl, rfl, hI, hp⟩
  refine pg_go (n := 6) (fun cl f => rfl) (pl_rd hi 1 (by decide)) ?_
  refine pg_go (n := 5) (fun cl f => rfl) (pl_rd hi 2 (by decide)) ?_
  refine pg_call (n := 1) (fun cl f => rfl) ?_
  show pc d 178 [.ref 145, .int (pl_I S1 0 (i + 1).toNatClampNeg), .int (pl_I S1 0 (i + 2).toNatClampNeg)] (pl_h L S1) _
  rw [hI]
  refine pc_mono hp ?_
  rintro r h2 ⟨S2, rfl, rfl, hS2⟩
  exact pg_if (n := 1) (fun cl f => rfl) (fun _ => K S2 hS2) (fun c => absurd rfl c)
theorem pl_c9 {d L : Nat} {Rep : Nat → pl_S → Prop} (P : ∀ (a0 : Int32) (a1 : Int32), pl_pairI L Rep d 58 179 [.int a0, .int a1]) {n : Nat} (hn : n < 512) {S : pl_S} (hS : Rep n S) {i : Int32} (hi : pl_i L i) {Q : Option Value → pm_H → Prop} (K : ∀ S2, Rep (n + 1) S2 → pg (d + 1) 0 808 [.ref 0, .ref 48, .ref 145, .int i] [] (pl_h L S2) Q) : pg (d + 1) 0 199 [.ref 0, .ref 48, .ref 145, .int i] [] (pl_h L S) Q := by
  refine pg_go (n := 6) (fun cl f => rfl) (pl_rd hi 1 (by decide)) ?_
  refine pg_go (n := 5) (fun cl f => rfl) (pl_rd hi 2 (by decide)) ?_
  refine pg_call (n := 1) (fun cl f => rfl) ?_
  refine pc_mono (P _ _ n S hn hS) ?_
  rintro r h1 ⟨x, S1, rfl, rfl, hI, hp⟩
  refine pg_go (n := 6) (fun cl f => rfl) (pl_rd hi 1 (by decide)) ?_
  refine pg_go (n := 5) (fun cl f => rfl) (pl_rd hi 2 (by decide)) ?_
  refine pg_call (n := 1) (fun cl f => rfl) ?_
  show pc d 179 [.ref 145, .int (pl_I S1 0 (i + 1).toNatClampNeg), .int (pl_I S1 0 (i + 2).toNatClampNeg)] (pl_h L S1) _
  rw [hI]
  refine pc_mono hp ?_
  rintro r h2 ⟨S2, rfl, rfl, hS2⟩
  exact pg_if (n := 1) (fun cl f => rfl) (fun _ => K S2 hS2) (fun c => absurd rfl c)
theorem pl_c10 {d L : Nat} {Rep : Nat → pl_S → Prop} (P : ∀ (a0 : Int32), (a0 = 0 ∨ a0 = 1) → pl_pairI L Rep d 60 180 [.int a0]) {n : Nat} (hn : n < 512) {S : pl_S} (hS : Rep n S) {i : Int32} (hi : pl_i L i) {Q : Option Value → pm_H → Prop} (K : ∀ S2, Rep (n + 1) S2 → pg (d + 1) 0 808 [.ref 0, .ref 48, .ref 145, .int i] [] (pl_h L S2) Q) : pg (d + 1) 0 226 [.ref 0, .ref 48, .ref 145, .int i] [] (pl_h L S) Q := by
  refine pg_go (n := 6) (fun cl f => rfl) (pl_rd hi 1 (by decide)) ?_
  refine pg_if (n := 1) (fun cl f => rfl) (fun c => ?_) (fun c => ?_)
  · skip
    refine pg_call (n := 2) (fun cl f => rfl) ?_
    refine pc_mono (P _ (by decide) n S hn hS) ?_
    rintro r h1 ⟨x, S1, rfl, rfl, hI, hp⟩
    refine pg_go (n := 6) (fun cl f => rfl) (pl_rd hi 1 (by decide)) ?_
    refine pg_if (n := 1) (fun cl f => rfl) (fun c2 => ?_) (fun c2 => ?_)
    · skip
      refine pg_call (n := 2) (fun cl f => rfl) ?_
      show pc d 180 [.ref 145, .int 0] (pl_h L S1) _
      refine pc_mono hp ?_
      rintro r h2 ⟨S2, rfl, rfl, hS2⟩
      exact pg_if (n := 1) (fun cl f => rfl) (fun _ => K S2 hS2) (fun c => absurd rfl c)
    · exact absurd (show pl_I S1 0 _ = 0 from hI.symm ▸ c) c2
  · skip
    refine pg_call (n := 3) (fun cl f => rfl) ?_
    refine pc_mono (P _ (by decide) n S hn hS) ?_
    rintro r h1 ⟨x, S1, rfl, rfl, hI, hp⟩
    refine pg_go (n := 6) (fun cl f => rfl) (pl_rd hi 1 (by decide)) ?_
    refine pg_if (n := 1) (fun cl f => rfl) (fun c2 => ?_) (fun c2 => ?_)
    · exact absurd (show pl_I S 0 _ = 0 from hI ▸ c2) c
    · skip
      refine pg_call (n := 3) (fun cl f => rfl) ?_
      show pc d 180 [.ref 145, .int 1] (pl_h L S1) _
      refine pc_mono hp ?_
      rintro r h2 ⟨S2, rfl, rfl, hS2⟩
      exact pg_if (n := 1) (fun cl f => rfl) (fun _ => K S2 hS2) (fun c => absurd rfl c)
theorem pl_c11 {d L : Nat} {Rep : Nat → pl_S → Prop} (P : ∀ (a0 : Int32), pl_pairI L Rep d 61 181 [.int a0]) {n : Nat} (hn : n < 512) {S : pl_S} (hS : Rep n S) {i : Int32} (hi : pl_i L i) {Q : Option Value → pm_H → Prop} (K : ∀ S2, Rep (n + 1) S2 → pg (d + 1) 0 808 [.ref 0, .ref 48, .ref 145, .int i] [] (pl_h L S2) Q) : pg (d + 1) 0 251 [.ref 0, .ref 48, .ref 145, .int i] [] (pl_h L S) Q := by
  refine pg_go (n := 6) (fun cl f => rfl) (pl_rd hi 1 (by decide)) ?_
  refine pg_call (n := 1) (fun cl f => rfl) ?_
  refine pc_mono (P _ n S hn hS) ?_
  rintro r h1 ⟨x, S1, rfl, rfl, hI, hp⟩
  refine pg_go (n := 6) (fun cl f => rfl) (pl_rd hi 1 (by decide)) ?_
  refine pg_call (n := 1) (fun cl f => rfl) ?_
  show pc d 181 [.ref 145, .int (pl_I S1 0 (i + 1).toNatClampNeg)] (pl_h L S1) _
  rw [hI]
  refine pc_mono hp ?_
  rintro r h2 ⟨S2, rfl, rfl, hS2⟩
  exact pg_if (n := 1) (fun cl f => rfl) (fun _ => K S2 hS2) (fun c => absurd rfl c)
theorem pl_c12 {d L : Nat} {Rep : Nat → pl_S → Prop} (P : ∀ (a0 : Int32), pl_pairI L Rep d 62 182 [.int a0]) {n : Nat} (hn : n < 512) {S : pl_S} (hS : Rep n S) {i : Int32} (hi : pl_i L i) {Q : Option Value → pm_H → Prop} (K : ∀ S2, Rep (n + 1) S2 → pg (d + 1) 0 808 [.ref 0, .ref 48, .ref 145, .int i] [] (pl_h L S2) Q) : pg (d + 1) 0 268 [.ref 0, .ref 48, .ref 145, .int i] [] (pl_h L S) Q := by
  refine pg_go (n := 6) (fun cl f => rfl) (pl_rd hi 1 (by decide)) ?_
  refine pg_call (n := 1) (fun cl f => rfl) ?_
  refine pc_mono (P _ n S hn hS) ?_
  rintro r h1 ⟨x, S1, rfl, rfl, hI, hp⟩
  refine pg_go (n := 6) (fun cl f => rfl) (pl_rd hi 1 (by decide)) ?_
  refine pg_call (n := 1) (fun cl f => rfl) ?_
  show pc d 182 [.ref 145, .int (pl_I S1 0 (i + 1).toNatClampNeg)] (pl_h L S1) _
  rw [hI]
  refine pc_mono hp ?_
  rintro r h2 ⟨S2, rfl, rfl, hS2⟩
  exact pg_if (n := 1) (fun cl f => rfl) (fun _ => K S2 hS2) (fun c => absurd rfl c)
theorem pl_c13 {d L : Nat} {Rep : Nat → pl_S → Prop} (P : pl_pairI L Rep d 79 193 []) {n : Nat} (hn : n < 512) {S : pl_S} (hS : Rep n S) {i : Int32} (hi : pl_i L i) {Q : Option Value → pm_H → Prop} (K : ∀ S2, Rep (n + 1) S2 → pg (d + 1) 0 808 [.ref 0, .ref 48, .ref 145, .int i] [] (pl_h L S2) Q) : pg (d + 1) 0 285 [.ref 0, .ref 48, .ref 145, .int i] [] (pl_h L S) Q := by
  refine pg_call (n := 2) (fun cl f => rfl) ?_
  refine pc_mono (P  n S hn hS) ?_
  rintro r h1 ⟨x, S1, rfl, rfl, hI, hp⟩
  refine pg_call (n := 2) (fun cl f => rfl) ?_
  show pc d 193 [.ref 145] (pl_h L S1) _
  refine pc_mono hp ?_
  rintro r h2 ⟨S2, rfl, rfl, hS2⟩
  exact pg_if (n := 1) (fun cl f => rfl) (fun _ => K S2 hS2) (fun c => absurd rfl c)
theorem pl_c14 {d L : Nat} {Rep : Nat → pl_S → Prop} (P : ∀ (a0 : Int32) (a1 : Int32), pl_pairL L Rep d 80 194 [.int a0, .int a1]) {n : Nat} (hn : n < 512) {S : pl_S} (hS : Rep n S) {i : Int32} (hi : pl_i L i) {Q : Option Value → pm_H → Prop} (K : ∀ S2, Rep (n + 1) S2 → pg (d + 1) 0 808 [.ref 0, .ref 48, .ref 145, .int i] [] (pl_h L S2) Q) : pg (d + 1) 0 292 [.ref 0, .ref 48, .ref 145, .int i] [] (pl_h L S) Q := by
  refine pg_go (n := 6) (fun cl f => rfl) (pl_rd hi 1 (by decide)) ?_
  refine pg_go (n := 5) (fun cl f => rfl) (pl_rd hi 2 (by decide)) ?_
  refine pg_call (n := 1) (fun cl f => rfl) ?_
  refine pc_mono (P _ _ n S hn hS) ?_
  rintro r h1 ⟨x, S1, rfl, rfl, hI, hp⟩
  refine pg_go (n := 6) (fun cl f => rfl) (pl_rd hi 1 (by decide)) ?_
  refine pg_go (n := 5) (fun cl f => rfl) (pl_rd hi 2 (by decide)) ?_
  refine pg_call (n := 1) (fun cl f => rfl) ?_
  show pc d 194 [.ref 145, .int (pl_I S1 0 (i + 1).toNatClampNeg), .int (pl_I S1 0 (i + 2).toNatClampNeg)] (pl_h L S1) _
  rw [hI]
  refine pc_mono hp ?_
  rintro r h2 ⟨S2, rfl, rfl, hS2⟩
  exact pg_if (n := 2) (fun cl f => rfl) (fun _ => K S2 hS2) (fun c => absurd (pl_cmp x) c)
theorem pl_c15 {d L : Nat} {Rep : Nat → pl_S → Prop} (P : ∀ (a0 : Int32), pl_pairL L Rep d 81 195 [.int a0]) {n : Nat} (hn : n < 512) {S : pl_S} (hS : Rep n S) {i : Int32} (hi : pl_i L i) {Q : Option Value → pm_H → Prop} (K : ∀ S2, Rep (n + 1) S2 → pg (d + 1) 0 808 [.ref 0, .ref 48, .ref 145, .int i] [] (pl_h L S2) Q) : pg (d + 1) 0 320 [.ref 0, .ref 48, .ref 145, .int i] [] (pl_h L S) Q := by
  refine pg_go (n := 6) (fun cl f => rfl) (pl_rd hi 1 (by decide)) ?_
  refine pg_call (n := 1) (fun cl f => rfl) ?_
  refine pc_mono (P _ n S hn hS) ?_
  rintro r h1 ⟨x, S1, rfl, rfl, hI, hp⟩
  refine pg_go (n := 6) (fun cl f => rfl) (pl_rd hi 1 (by decide)) ?_
  refine pg_call (n := 1) (fun cl f => rfl) ?_
  show pc d 195 [.ref 145, .int (pl_I S1 0 (i + 1).toNatClampNeg)] (pl_h L S1) _
  rw [hI]
  refine pc_mono hp ?_
  rintro r h2 ⟨S2, rfl, rfl, hS2⟩
  exact pg_if (n := 2) (fun cl f => rfl) (fun _ => K S2 hS2) (fun c => absurd (pl_cmp x) c)
theorem pl_c16 {d L : Nat} {Rep : Nat → pl_S → Prop} (P : ∀ (a0 : Int32) (a1 : Int32) (a2 : Int32) (a3 : Int32), pl_pairI L Rep d 82 196 [.int a0, .int a1, .int a2, .int a3]) {n : Nat} (hn : n < 512) {S : pl_S} (hS : Rep n S) {i : Int32} (hi : pl_i L i) {Q : Option Value → pm_H → Prop} (K : ∀ S2, Rep (n + 1) S2 → pg (d + 1) 0 808 [.ref 0, .ref 48, .ref 145, .int i] [] (pl_h L S2) Q) : pg (d + 1) 0 338 [.ref 0, .ref 48, .ref 145, .int i] [] (pl_h L S) Q := by
  refine pg_go (n := 6) (fun cl f => rfl) (pl_rd hi 1 (by decide)) ?_
  refine pg_go (n := 5) (fun cl f => rfl) (pl_rd hi 2 (by decide)) ?_
  refine pg_go (n := 5) (fun cl f => rfl) (pl_rd hi 3 (by decide)) ?_
  refine pg_go (n := 5) (fun cl f => rfl) (pl_rd hi 4 (by decide)) ?_
  refine pg_call (n := 1) (fun cl f => rfl) ?_
  refine pc_mono (P _ _ _ _ n S hn hS) ?_
  rintro r h1 ⟨x, S1, rfl, rfl, hI, hp⟩
  refine pg_go (n := 6) (fun cl f => rfl) (pl_rd hi 1 (by decide)) ?_
  refine pg_go (n := 5) (fun cl f => rfl) (pl_rd hi 2 (by decide)) ?_
  refine pg_go (n := 5) (fun cl f => rfl) (pl_rd hi 3 (by decide)) ?_
  refine pg_go (n := 5) (fun cl f => rfl) (pl_rd hi 4 (by decide)) ?_
  refine pg_call (n := 1) (fun cl f => rfl) ?_
  show pc d 196 [.ref 145, .int (pl_I S1 0 (i + 1).toNatClampNeg), .int (pl_I S1 0 (i + 2).toNatClampNeg), .int (pl_I S1 0 (i + 3).toNatClampNeg), .int (pl_I S1 0 (i + 4).toNatClampNeg)] (pl_h L S1) _
  rw [hI]
  refine pc_mono hp ?_
  rintro r h2 ⟨S2, rfl, rfl, hS2⟩
  exact pg_if (n := 1) (fun cl f => rfl) (fun _ => K S2 hS2) (fun c => absurd rfl c)
theorem pl_c17 {d L : Nat} {Rep : Nat → pl_S → Prop} (P : ∀ (a0 : Int32) (a1 : Int32), pl_pairI L Rep d 88 198 [.int a0, .int a1]) {n : Nat} (hn : n < 512) {S : pl_S} (hS : Rep n S) {i : Int32} (hi : pl_i L i) {Q : Option Value → pm_H → Prop} (K : ∀ S2, Rep (n + 1) S2 → pg (d + 1) 0 808 [.ref 0, .ref 48, .ref 145, .int i] [] (pl_h L S2) Q) : pg (d + 1) 0 385 [.ref 0, .ref 48, .ref 145, .int i] [] (pl_h L S) Q := by
  refine pg_go (n := 6) (fun cl f => rfl) (pl_rd hi 1 (by decide)) ?_
  refine pg_go (n := 5) (fun cl f => rfl) (pl_rd hi 2 (by decide)) ?_
  refine pg_call (n := 1) (fun cl f => rfl) ?_
  refine pc_mono (P _ _ n S hn hS) ?_
  rintro r h1 ⟨x, S1, rfl, rfl, hI, hp⟩
  refine pg_go (n := 6) (fun cl f => rfl) (pl_rd hi 1 (by decide)) ?_
  refine pg_go (n := 5) (fun cl f => rfl) (pl_rd hi 2 (by decide)) ?_
  refine pg_call (n := 1) (fun cl f => rfl) ?_
  show pc d 198 [.ref 145, .int (pl_I S1 0 (i + 1).toNatClampNeg), .int (pl_I S1 0 (i + 2).toNatClampNeg)] (pl_h L S1) _
  rw [hI]
  refine pc_mono hp ?_
  rintro r h2 ⟨S2, rfl, rfl, hS2⟩
  exact pg_if (n := 1) (fun cl f => rfl) (fun _ => K S2 hS2) (fun c => absurd rfl c)
theorem pl_c18 {d L : Nat} {Rep : Nat → pl_S → Prop} (P : ∀ (a0 : Int32), pl_pairI L Rep d 98 202 [.int a0]) {n : Nat} (hn : n < 512) {S : pl_S} (hS : Rep n S) {i : Int32} (hi : pl_i L i) {Q : Option Value → pm_H → Prop} (K : ∀ S2, Rep (n + 1) S2 → pg (d + 1) 0 808 [.ref 0, .ref 48, .ref 145, .int i] [] (pl_h L S2) Q) : pg (d + 1) 0 412 [.ref 0, .ref 48, .ref 145, .int i] [] (pl_h L S) Q := by
  refine pg_go (n := 6) (fun cl f => rfl) (pl_rd hi 1 (by decide)) ?_
  refine pg_call (n := 1) (fun cl f => rfl) ?_
  refine pc_mono (P _ n S hn hS) ?_
  rintro r h1 ⟨x, S1, rfl, rfl, hI, hp⟩
  refine pg_go (n := 6) (fun cl f => rfl) (pl_rd hi 1 (by decide)) ?_
  refine pg_call (n := 1) (fun cl f => rfl) ?_
  show pc d 202 [.ref 145, .int (pl_I S1 0 (i + 1).toNatClampNeg)] (pl_h L S1) _
  rw [hI]
  refine pc_mono hp ?_
  rintro r h2 ⟨S2, rfl, rfl, hS2⟩
  exact pg_if (n := 1) (fun cl f => rfl) (fun _ => K S2 hS2) (fun c => absurd rfl c)
theorem pl_c19 {d L : Nat} {Rep : Nat → pl_S → Prop} (P : ∀ (a0 : Int32) (a1 : Int32), pl_pairI L Rep d 99 203 [.int a0, .int a1]) {n : Nat} (hn : n < 512) {S : pl_S} (hS : Rep n S) {i : Int32} (hi : pl_i L i) {Q : Option Value → pm_H → Prop} (K : ∀ S2, Rep (n + 1) S2 → pg (d + 1) 0 808 [.ref 0, .ref 48, .ref 145, .int i] [] (pl_h L S2) Q) : pg (d + 1) 0 429 [.ref 0, .ref 48, .ref 145, .int i] [] (pl_h L S) Q := by
  refine pg_go (n := 6) (fun cl f => rfl) (pl_rd hi 1 (by decide)) ?_
  refine pg_go (n := 5) (fun cl f => rfl) (pl_rd hi 2 (by decide)) ?_
  refine pg_call (n := 1) (fun cl f => rfl) ?_
  refine pc_mono (P _ _ n S hn hS) ?_
  rintro r h1 ⟨x, S1, rfl, rfl, hI, hp⟩
  refine pg_go (n := 6) (fun cl f => rfl) (pl_rd hi 1 (by decide)) ?_
  refine pg_go (n := 5) (fun cl f => rfl) (pl_rd hi 2 (by decide)) ?_
  refine pg_call (n := 1) (fun cl f => rfl) ?_
  show pc d 203 [.ref 145, .int (pl_I S1 0 (i + 1).toNatClampNeg), .int (pl_I S1 0 (i + 2).toNatClampNeg)] (pl_h L S1) _
  rw [hI]
  refine pc_mono hp ?_
  rintro r h2 ⟨S2, rfl, rfl, hS2⟩
  exact pg_if (n := 1) (fun cl f => rfl) (fun _ => K S2 hS2) (fun c => absurd rfl c)
theorem pl_c20 {d L : Nat} {Rep : Nat → pl_S → Prop} (P : ∀ (a0 : Int32) (a1 : Int32), pl_pairI L Rep d 109 212 [.int a0, .int a1]) {n : Nat} (hn : n < 512) {S : pl_S} (hS : Rep n S) {i : Int32} (hi : pl_i L i) {Q : Option Value → pm_H → Prop} (K : ∀ S2, Rep (n + 1) S2 → pg (d + 1) 0 808 [.ref 0, .ref 48, .ref 145, .int i] [] (pl_h L S2) Q) : pg (d + 1) 0 456 [.ref 0, .ref 48, .ref 145, .int i] [] (pl_h L S) Q := by
  refine pg_go (n := 6) (fun cl f => rfl) (pl_rd hi 1 (by decide)) ?_
  refine pg_go (n := 5) (fun cl f => rfl) (pl_rd hi 2 (by decide)) ?_
  refine pg_call (n := 1) (fun cl f => rfl) ?_
  refine pc_mono (P _ _ n S hn hS) ?_
  rintro r h1 ⟨x, S1, rfl, rfl, hI, hp⟩
  refine pg_go (n := 6) (fun cl f => rfl) (pl_rd hi 1 (by decide)) ?_
  refine pg_go (n := 5) (fun cl f => rfl) (pl_rd hi 2 (by decide)) ?_
  refine pg_call (n := 1) (fun cl f => rfl) ?_
  show pc d 212 [.ref 145, .int (pl_I S1 0 (i + 1).toNatClampNeg), .int (pl_I S1 0 (i + 2).toNatClampNeg)] (pl_h L S1) _
  rw [hI]
  refine pc_mono hp ?_
  rintro r h2 ⟨S2, rfl, rfl, hS2⟩
  exact pg_if (n := 1) (fun cl f => rfl) (fun _ => K S2 hS2) (fun c => absurd rfl c)
theorem pl_c21 {d L : Nat} {Rep : Nat → pl_S → Prop} (P : ∀ (a0 : Int32) (a1 : Int32), (a1 = 0 ∨ a1 = 1) → pl_pairI L Rep d 110 213 [.int a0, .int a1]) {n : Nat} (hn : n < 512) {S : pl_S} (hS : Rep n S) {i : Int32} (hi : pl_i L i) {Q : Option Value → pm_H → Prop} (K : ∀ S2, Rep (n + 1) S2 → pg (d + 1) 0 808 [.ref 0, .ref 48, .ref 145, .int i] [] (pl_h L S2) Q) : pg (d + 1) 0 483 [.ref 0, .ref 48, .ref 145, .int i] [] (pl_h L S) Q := by
  refine pg_go (n := 6) (fun cl f => rfl) (pl_rd hi 1 (by decide)) ?_
  refine pg_go (n := 5) (fun cl f => rfl) (pl_rd hi 2 (by decide)) ?_
  refine pg_if (n := 1) (fun cl f => rfl) (fun c => ?_) (fun c => ?_)
  · skip
    refine pg_call (n := 2) (fun cl f => rfl) ?_
    refine pc_mono (P _ _ (by decide) n S hn hS) ?_
    rintro r h1 ⟨x, S1, rfl, rfl, hI, hp⟩
    refine pg_go (n := 6) (fun cl f => rfl) (pl_rd hi 1 (by decide)) ?_
    refine pg_go (n := 5) (fun cl f => rfl) (pl_rd hi 2 (by decide)) ?_
    refine pg_if (n := 1) (fun cl f => rfl) (fun c2 => ?_) (fun c2 => ?_)
    · skip
      refine pg_call (n := 2) (fun cl f => rfl) ?_
      show pc d 213 [.ref 145, .int (pl_I S1 0 (i + 1).toNatClampNeg), .int 0] (pl_h L S1) _
      rw [hI]
      refine pc_mono hp ?_
      rintro r h2 ⟨S2, rfl, rfl, hS2⟩
      exact pg_if (n := 1) (fun cl f => rfl) (fun _ => K S2 hS2) (fun c => absurd rfl c)
    · exact absurd (show pl_I S1 0 _ = 0 from hI.symm ▸ c) c2
  · skip
    refine pg_call (n := 3) (fun cl f => rfl) ?_
    refine pc_mono (P _ _ (by decide) n S hn hS) ?_
    rintro r h1 ⟨x, S1, rfl, rfl, hI, hp⟩
    refine pg_go (n := 6) (fun cl f => rfl) (pl_rd hi 1 (by decide)) ?_
    refine pg_go (n := 5) (fun cl f => rfl) (pl_rd hi 2 (by decide)) ?_
    refine pg_if (n := 1) (fun cl f => rfl) (fun c2 => ?_) (fun c2 => ?_)
    · exact absurd (show pl_I S 0 _ = 0 from hI ▸ c2) c
    · skip
      refine pg_call (n := 3) (fun cl f => rfl) ?_
      show pc d 213 [.ref 145, .int (pl_I S1 0 (i + 1).toNatClampNeg), .int 1] (pl_h L S1) _
      rw [hI]
      refine pc_mono hp ?_
      rintro r h2 ⟨S2, rfl, rfl, hS2⟩
      exact pg_if (n := 1) (fun cl f => rfl) (fun _ => K S2 hS2) (fun c => absurd rfl c)
theorem pl_c22 {d L : Nat} {Rep : Nat → pl_S → Prop} (P : ∀ (a0 : Int32) (a1 : Int32) (a2 : Int32), pl_pairI L Rep d 111 214 [.int a0, .int a1, .int a2]) {n : Nat} (hn : n < 512) {S : pl_S} (hS : Rep n S) {i : Int32} (hi : pl_i L i) {Q : Option Value → pm_H → Prop} (K : ∀ S2, Rep (n + 1) S2 → pg (d + 1) 0 808 [.ref 0, .ref 48, .ref 145, .int i] [] (pl_h L S2) Q) : pg (d + 1) 0 518 [.ref 0, .ref 48, .ref 145, .int i] [] (pl_h L S) Q := by
  refine pg_go (n := 6) (fun cl f => rfl) (pl_rd hi 1 (by decide)) ?_
  refine pg_go (n := 5) (fun cl f => rfl) (pl_rd hi 2 (by decide)) ?_
  refine pg_go (n := 5) (fun cl f => rfl) (pl_rd hi 3 (by decide)) ?_
  refine pg_call (n := 1) (fun cl f => rfl) ?_
  refine pc_mono (P _ _ _ n S hn hS) ?_
  rintro r h1 ⟨x, S1, rfl, rfl, hI, hp⟩
  refine pg_go (n := 6) (fun cl f => rfl) (pl_rd hi 1 (by decide)) ?_
  refine pg_go (n := 5) (fun cl f => rfl) (pl_rd hi 2 (by decide)) ?_
  refine pg_go (n := 5) (fun cl f => rfl) (pl_rd hi 3 (by decide)) ?_
  refine pg_call (n := 1) (fun cl f => rfl) ?_
  show pc d 214 [.ref 145, .int (pl_I S1 0 (i + 1).toNatClampNeg), .int (pl_I S1 0 (i + 2).toNatClampNeg), .int (pl_I S1 0 (i + 3).toNatClampNeg)] (pl_h L S1) _
  rw [hI]
  refine pc_mono hp ?_
  rintro r h2 ⟨S2, rfl, rfl, hS2⟩
  exact pg_if (n := 1) (fun cl f => rfl) (fun _ => K S2 hS2) (fun c => absurd rfl c)
theorem pl_c23 {d L : Nat} {Rep : Nat → pl_S → Prop} (P : pl_pairI L Rep d 114 215 []) {n : Nat} (hn : n < 512) {S : pl_S} (hS : Rep n S) {i : Int32} (hi : pl_i L i) {Q : Option Value → pm_H → Prop} (K : ∀ S2, Rep (n + 1) S2 → pg (d + 1) 0 808 [.ref 0, .ref 48, .ref 145, .int i] [] (pl_h L S2) Q) : pg (d + 1) 0 555 [.ref 0, .ref 48, .ref 145, .int i] [] (pl_h L S) Q := by
  refine pg_call (n := 2) (fun cl f => rfl) ?_
  refine pc_mono (P  n S hn hS) ?_
  rintro r h1 ⟨x, S1, rfl, rfl, hI, hp⟩
  refine pg_call (n := 2) (fun cl f => rfl) ?_
  show pc d 215 [.ref 145] (pl_h L S1) _
  refine pc_mono hp ?_
  rintro r h2 ⟨S2, rfl, rfl, hS2⟩
  exact pg_if (n := 1) (fun cl f => rfl) (fun _ => K S2 hS2) (fun c => absurd rfl c)
theorem pl_c24 {d L : Nat} {Rep : Nat → pl_S → Prop} (P : pl_pairI L Rep d 115 216 []) {n : Nat} (hn : n < 512) {S : pl_S} (hS : Rep n S) {i : Int32} (hi : pl_i L i) {Q : Option Value → pm_H → Prop} (K : ∀ S2, Rep (n + 1) S2 → pg (d + 1) 0 808 [.ref 0, .ref 48, .ref 145, .int i] [] (pl_h L S2) Q) : pg (d + 1) 0 562 [.ref 0, .ref 48, .ref 145, .int i] [] (pl_h L S) Q := by
  refine pg_call (n := 2) (fun cl f => rfl) ?_
  refine pc_mono (P  n S hn hS) ?_
  rintro r h1 ⟨x, S1, rfl, rfl, hI, hp⟩
  refine pg_call (n := 2) (fun cl f => rfl) ?_
  show pc d 216 [.ref 145] (pl_h L S1) _
  refine pc_mono hp ?_
  rintro r h2 ⟨S2, rfl, rfl, hS2⟩
  exact pg_if (n := 1) (fun cl f => rfl) (fun _ => K S2 hS2) (fun c => absurd rfl c)
theorem pl_c25 {d L : Nat} {Rep : Nat → pl_S → Prop} (P : ∀ (a0 : Int32) (a1 : Int32) (a2 : Int32), pl_pairI L Rep d 119 220 [.int a0, .int a1, .int a2]) {n : Nat} (hn : n < 512) {S : pl_S} (hS : Rep n S) {i : Int32} (hi : pl_i L i) {Q : Option Value → pm_H → Prop} (K : ∀ S2, Rep (n + 1) S2 → pg (d + 1) 0 808 [.ref 0, .ref 48, .ref 145, .int i] [] (pl_h L S2) Q) : pg (d + 1) 0 569 [.ref 0, .ref 48, .ref 145, .int i] [] (pl_h L S) Q := by
  refine pg_go (n := 6) (fun cl f => rfl) (pl_rd hi 1 (by decide)) ?_
  refine pg_go (n := 5) (fun cl f => rfl) (pl_rd hi 2 (by decide)) ?_
  refine pg_go (n := 5) (fun cl f => rfl) (pl_rd hi 3 (by decide)) ?_
  refine pg_call (n := 1) (fun cl f => rfl) ?_
  refine pc_mono (P _ _ _ n S hn hS) ?_
  rintro r h1 ⟨x, S1, rfl, rfl, hI, hp⟩
  refine pg_go (n := 6) (fun cl f => rfl) (pl_rd hi 1 (by decide)) ?_
  refine pg_go (n := 5) (fun cl f => rfl) (pl_rd hi 2 (by decide)) ?_
  refine pg_go (n := 5) (fun cl f => rfl) (pl_rd hi 3 (by decide)) ?_
  refine pg_call (n := 1) (fun cl f => rfl) ?_
  show pc d 220 [.ref 145, .int (pl_I S1 0 (i + 1).toNatClampNeg), .int (pl_I S1 0 (i + 2).toNatClampNeg), .int (pl_I S1 0 (i + 3).toNatClampNeg)] (pl_h L S1) _
  rw [hI]
  refine pc_mono hp ?_
  rintro r h2 ⟨S2, rfl, rfl, hS2⟩
  exact pg_if (n := 1) (fun cl f => rfl) (fun _ => K S2 hS2) (fun c => absurd rfl c)
theorem pl_c26 {d L : Nat} {Rep : Nat → pl_S → Prop} (P : ∀ (a0 : Int32), pl_pairI L Rep d 128 221 [.int a0]) {n : Nat} (hn : n < 512) {S : pl_S} (hS : Rep n S) {i : Int32} (hi : pl_i L i) {Q : Option Value → pm_H → Prop} (K : ∀ S2, Rep (n + 1) S2 → pg (d + 1) 0 808 [.ref 0, .ref 48, .ref 145, .int i] [] (pl_h L S2) Q) : pg (d + 1) 0 606 [.ref 0, .ref 48, .ref 145, .int i] [] (pl_h L S) Q := by
  refine pg_go (n := 6) (fun cl f => rfl) (pl_rd hi 1 (by decide)) ?_
  refine pg_call (n := 1) (fun cl f => rfl) ?_
  refine pc_mono (P _ n S hn hS) ?_
  rintro r h1 ⟨x, S1, rfl, rfl, hI, hp⟩
  refine pg_go (n := 6) (fun cl f => rfl) (pl_rd hi 1 (by decide)) ?_
  refine pg_call (n := 1) (fun cl f => rfl) ?_
  show pc d 221 [.ref 145, .int (pl_I S1 0 (i + 1).toNatClampNeg)] (pl_h L S1) _
  rw [hI]
  refine pc_mono hp ?_
  rintro r h2 ⟨S2, rfl, rfl, hS2⟩
  exact pg_if (n := 1) (fun cl f => rfl) (fun _ => K S2 hS2) (fun c => absurd rfl c)
theorem pl_c27 {d L : Nat} {Rep : Nat → pl_S → Prop} (P : ∀ (a0 : Int32), pl_pairI L Rep d 129 223 [.int a0]) {n : Nat} (hn : n < 512) {S : pl_S} (hS : Rep n S) {i : Int32} (hi : pl_i L i) {Q : Option Value → pm_H → Prop} (K : ∀ S2, Rep (n + 1) S2 → pg (d + 1) 0 808 [.ref 0, .ref 48, .ref 145, .int i] [] (pl_h L S2) Q) : pg (d + 1) 0 623 [.ref 0, .ref 48, .ref 145, .int i] [] (pl_h L S) Q := by
  refine pg_go (n := 6) (fun cl f => rfl) (pl_rd hi 1 (by decide)) ?_
  refine pg_call (n := 1) (fun cl f => rfl) ?_
  refine pc_mono (P _ n S hn hS) ?_
  rintro r h1 ⟨x, S1, rfl, rfl, hI, hp⟩
  refine pg_go (n := 6) (fun cl f => rfl) (pl_rd hi 1 (by decide)) ?_
  refine pg_call (n := 1) (fun cl f => rfl) ?_
  show pc d 223 [.ref 145, .int (pl_I S1 0 (i + 1).toNatClampNeg)] (pl_h L S1) _
  rw [hI]
  refine pc_mono hp ?_
  rintro r h2 ⟨S2, rfl, rfl, hS2⟩
  exact pg_if (n := 1) (fun cl f => rfl) (fun _ => K S2 hS2) (fun c => absurd rfl c)
theorem pl_c28 {d L : Nat} {Rep : Nat → pl_S → Prop} (P : ∀ (a0 : Int32), pl_pairI L Rep d 130 228 [.int a0]) {n : Nat} (hn : n < 512) {S : pl_S} (hS : Rep n S) {i : Int32} (hi : pl_i L i) {Q : Option Value → pm_H → Prop} (K : ∀ S2, Rep (n + 1) S2 → pg (d + 1) 0 808 [.ref 0, .ref 48, .ref 145, .int i] [] (pl_h L S2) Q) : pg (d + 1) 0 640 [.ref 0, .ref 48, .ref 145, .int i] [] (pl_h L S) Q := by
  refine pg_go (n := 6) (fun cl f => rfl) (pl_rd hi 1 (by decide)) ?_
  refine pg_call (n := 1) (fun cl f => rfl) ?_
  refine pc_mono (P _ n S hn hS) ?_
  rintro r h1 ⟨x, S1, rfl, rfl, hI, hp⟩
  refine pg_go (n := 6) (fun cl f => rfl) (pl_rd hi 1 (by decide)) ?_
  refine pg_call (n := 1) (fun cl f => rfl) ?_
  show pc d 228 [.ref 145, .int (pl_I S1 0 (i + 1).toNatClampNeg)] (pl_h L S1) _
  rw [hI]
  refine pc_mono hp ?_
  rintro r h2 ⟨S2, rfl, rfl, hS2⟩
  exact pg_if (n := 1) (fun cl f => rfl) (fun _ => K S2 hS2) (fun c => absurd rfl c)
theorem pl_c29 {d L : Nat} {Rep : Nat → pl_S → Prop} (P : ∀ (a0 : Int32), pl_pairI L Rep d 132 229 [.int a0]) {n : Nat} (hn : n < 512) {S : pl_S} (hS : Rep n S) {i : Int32} (hi : pl_i L i) {Q : Option Value → pm_H → Prop} (K : ∀ S2, Rep (n + 1) S2 → pg (d + 1) 0 808 [.ref 0, .ref 48, .ref 145, .int i] [] (pl_h L S2) Q) : pg (d + 1) 0 657 [.ref 0, .ref 48, .ref 145, .int i] [] (pl_h L S) Q := by
  refine pg_go (n := 6) (fun cl f => rfl) (pl_rd hi 1 (by decide)) ?_
  refine pg_call (n := 1) (fun cl f => rfl) ?_
  refine pc_mono (P _ n S hn hS) ?_
  rintro r h1 ⟨x, S1, rfl, rfl, hI, hp⟩
  refine pg_go (n := 6) (fun cl f => rfl) (pl_rd hi 1 (by decide)) ?_
  refine pg_call (n := 1) (fun cl f => rfl) ?_
  show pc d 229 [.ref 145, .int (pl_I S1 0 (i + 1).toNatClampNeg)] (pl_h L S1) _
  rw [hI]
  refine pc_mono hp ?_
  rintro r h2 ⟨S2, rfl, rfl, hS2⟩
  exact pg_if (n := 1) (fun cl f => rfl) (fun _ => K S2 hS2) (fun c => absurd rfl c)
theorem pl_c30 {d L : Nat} {Rep : Nat → pl_S → Prop} (P : pl_pairI L Rep d 134 230 []) {n : Nat} (hn : n < 512) {S : pl_S} (hS : Rep n S) {i : Int32} (hi : pl_i L i) {Q : Option Value → pm_H → Prop} (K : ∀ S2, Rep (n + 1) S2 → pg (d + 1) 0 808 [.ref 0, .ref 48, .ref 145, .int i] [] (pl_h L S2) Q) : pg (d + 1) 0 674 [.ref 0, .ref 48, .ref 145, .int i] [] (pl_h L S) Q := by
  refine pg_call (n := 2) (fun cl f => rfl) ?_
  refine pc_mono (P  n S hn hS) ?_
  rintro r h1 ⟨x, S1, rfl, rfl, hI, hp⟩
  refine pg_call (n := 2) (fun cl f => rfl) ?_
  show pc d 230 [.ref 145] (pl_h L S1) _
  refine pc_mono hp ?_
  rintro r h2 ⟨S2, rfl, rfl, hS2⟩
  exact pg_if (n := 1) (fun cl f => rfl) (fun _ => K S2 hS2) (fun c => absurd rfl c)
theorem pl_c31 {d L : Nat} {Rep : Nat → pl_S → Prop} (P : ∀ (a0 : Int32), pl_pairI L Rep d 136 231 [.int a0]) {n : Nat} (hn : n < 512) {S : pl_S} (hS : Rep n S) {i : Int32} (hi : pl_i L i) {Q : Option Value → pm_H → Prop} (K : ∀ S2, Rep (n + 1) S2 → pg (d + 1) 0 808 [.ref 0, .ref 48, .ref 145, .int i] [] (pl_h L S2) Q) : pg (d + 1) 0 681 [.ref 0, .ref 48, .ref 145, .int i] [] (pl_h L S) Q := by
  refine pg_go (n := 6) (fun cl f => rfl) (pl_rd hi 1 (by decide)) ?_
  refine pg_call (n := 1) (fun cl f => rfl) ?_
  refine pc_mono (P _ n S hn hS) ?_
  rintro r h1 ⟨x, S1, rfl, rfl, hI, hp⟩
  refine pg_go (n := 6) (fun cl f => rfl) (pl_rd hi 1 (by decide)) ?_
  refine pg_call (n := 1) (fun cl f => rfl) ?_
  show pc d 231 [.ref 145, .int (pl_I S1 0 (i + 1).toNatClampNeg)] (pl_h L S1) _
  rw [hI]
  refine pc_mono hp ?_
  rintro r h2 ⟨S2, rfl, rfl, hS2⟩
  exact pg_if (n := 1) (fun cl f => rfl) (fun _ => K S2 hS2) (fun c => absurd rfl c)
theorem pl_c32 {d L : Nat} {Rep : Nat → pl_S → Prop} (P : ∀ (a0 : Int32) (a1 : Int32), (a1 = 0 ∨ a1 = 1) → pl_pairI L Rep d 144 235 [.int a0, .int a1]) {n : Nat} (hn : n < 512) {S : pl_S} (hS : Rep n S) {i : Int32} (hi : pl_i L i) {Q : Option Value → pm_H → Prop} (K : ∀ S2, Rep (n + 1) S2 → pg (d + 1) 0 808 [.ref 0, .ref 48, .ref 145, .int i] [] (pl_h L S2) Q) : pg (d + 1) 0 698 [.ref 0, .ref 48, .ref 145, .int i] [] (pl_h L S) Q := by
  refine pg_go (n := 6) (fun cl f => rfl) (pl_rd hi 1 (by decide)) ?_
  refine pg_go (n := 5) (fun cl f => rfl) (pl_rd hi 2 (by decide)) ?_
  refine pg_if (n := 1) (fun cl f => rfl) (fun c => ?_) (fun c => ?_)
  · skip
    refine pg_call (n := 2) (fun cl f => rfl) ?_
    refine pc_mono (P _ _ (by decide) n S hn hS) ?_
    rintro r h1 ⟨x, S1, rfl, rfl, hI, hp⟩
    refine pg_go (n := 6) (fun cl f => rfl) (pl_rd hi 1 (by decide)) ?_
    refine pg_go (n := 5) (fun cl f => rfl) (pl_rd hi 2 (by decide)) ?_
    refine pg_if (n := 1) (fun cl f => rfl) (fun c2 => ?_) (fun c2 => ?_)
    · skip
      refine pg_call (n := 2) (fun cl f => rfl) ?_
      show pc d 235 [.ref 145, .int (pl_I S1 0 (i + 1).toNatClampNeg), .int 0] (pl_h L S1) _
      rw [hI]
      refine pc_mono hp ?_
      rintro r h2 ⟨S2, rfl, rfl, hS2⟩
      exact pg_if (n := 1) (fun cl f => rfl) (fun _ => K S2 hS2) (fun c => absurd rfl c)
    · exact absurd (show pl_I S1 0 _ = 0 from hI.symm ▸ c) c2
  · skip
    refine pg_call (n := 3) (fun cl f => rfl) ?_
    refine pc_mono (P _ _ (by decide) n S hn hS) ?_
    rintro r h1 ⟨x, S1, rfl, rfl, hI, hp⟩
    refine pg_go (n := 6) (fun cl f => rfl) (pl_rd hi 1 (by decide)) ?_
    refine pg_go (n := 5) (fun cl f => rfl) (pl_rd hi 2 (by decide)) ?_
    refine pg_if (n := 1) (fun cl f => rfl) (fun c2 => ?_) (fun c2 => ?_)
    · exact absurd (show pl_I S 0 _ = 0 from hI ▸ c2) c
    · skip
      refine pg_call (n := 3) (fun cl f => rfl) ?_
      show pc d 235 [.ref 145, .int (pl_I S1 0 (i + 1).toNatClampNeg), .int 1] (pl_h L S1) _
      rw [hI]
      refine pc_mono hp ?_
      rintro r h2 ⟨S2, rfl, rfl, hS2⟩
      exact pg_if (n := 1) (fun cl f => rfl) (fun _ => K S2 hS2) (fun c => absurd rfl c)
theorem pl_c33 {d L : Nat} {Rep : Nat → pl_S → Prop} (P : pl_pairI L Rep d 145 236 []) {n : Nat} (hn : n < 512) {S : pl_S} (hS : Rep n S) {i : Int32} (hi : pl_i L i) {Q : Option Value → pm_H → Prop} (K : ∀ S2, Rep (n + 1) S2 → pg (d + 1) 0 808 [.ref 0, .ref 48, .ref 145, .int i] [] (pl_h L S2) Q) : pg (d + 1) 0 733 [.ref 0, .ref 48, .ref 145, .int i] [] (pl_h L S) Q := by
  refine pg_call (n := 2) (fun cl f => rfl) ?_
  refine pc_mono (P  n S hn hS) ?_
  rintro r h1 ⟨x, S1, rfl, rfl, hI, hp⟩
  refine pg_call (n := 2) (fun cl f => rfl) ?_
  show pc d 236 [.ref 145] (pl_h L S1) _
  refine pc_mono hp ?_
  rintro r h2 ⟨S2, rfl, rfl, hS2⟩
  exact pg_if (n := 1) (fun cl f => rfl) (fun _ => K S2 hS2) (fun c => absurd rfl c)
theorem pl_c34 {d L : Nat} {Rep : Nat → pl_S → Prop} (P : ∀ (a0 : Int32), pl_pairI L Rep d 146 237 [.int a0]) {n : Nat} (hn : n < 512) {S : pl_S} (hS : Rep n S) {i : Int32} (hi : pl_i L i) {Q : Option Value → pm_H → Prop} (K : ∀ S2, Rep (n + 1) S2 → pg (d + 1) 0 808 [.ref 0, .ref 48, .ref 145, .int i] [] (pl_h L S2) Q) : pg (d + 1) 0 740 [.ref 0, .ref 48, .ref 145, .int i] [] (pl_h L S) Q := by
  refine pg_go (n := 6) (fun cl f => rfl) (pl_rd hi 1 (by decide)) ?_
  refine pg_call (n := 1) (fun cl f => rfl) ?_
  refine pc_mono (P _ n S hn hS) ?_
  rintro r h1 ⟨x, S1, rfl, rfl, hI, hp⟩
  refine pg_go (n := 6) (fun cl f => rfl) (pl_rd hi 1 (by decide)) ?_
  refine pg_call (n := 1) (fun cl f => rfl) ?_
  show pc d 237 [.ref 145, .int (pl_I S1 0 (i + 1).toNatClampNeg)] (pl_h L S1) _
  rw [hI]
  refine pc_mono hp ?_
  rintro r h2 ⟨S2, rfl, rfl, hS2⟩
  exact pg_if (n := 1) (fun cl f => rfl) (fun _ => K S2 hS2) (fun c => absurd rfl c)
theorem pl_c35 {d L : Nat} {Rep : Nat → pl_S → Prop} (P : ∀ (a0 : Int32), pl_pairI L Rep d 147 241 [.int a0]) {n : Nat} (hn : n < 512) {S : pl_S} (hS : Rep n S) {i : Int32} (hi : pl_i L i) {Q : Option Value → pm_H → Prop} (K : ∀ S2, Rep (n + 1) S2 → pg (d + 1) 0 808 [.ref 0, .ref 48, .ref 145, .int i] [] (pl_h L S2) Q) : pg (d + 1) 0 757 [.ref 0, .ref 48, .ref 145, .int i] [] (pl_h L S) Q := by
  refine pg_go (n := 6) (fun cl f => rfl) (pl_rd hi 1 (by decide)) ?_
  refine pg_call (n := 1) (fun cl f => rfl) ?_
  refine pc_mono (P _ n S hn hS) ?_
  rintro r h1 ⟨x, S1, rfl, rfl, hI, hp⟩
  refine pg_go (n := 6) (fun cl f => rfl) (pl_rd hi 1 (by decide)) ?_
  refine pg_call (n := 1) (fun cl f => rfl) ?_
  show pc d 241 [.ref 145, .int (pl_I S1 0 (i + 1).toNatClampNeg)] (pl_h L S1) _
  rw [hI]
  refine pc_mono hp ?_
  rintro r h2 ⟨S2, rfl, rfl, hS2⟩
  exact pg_if (n := 1) (fun cl f => rfl) (fun _ => K S2 hS2) (fun c => absurd rfl c)
theorem pl_c36 {d L : Nat} {Rep : Nat → pl_S → Prop} (P : ∀ (a0 : Int32), pl_pairI L Rep d 148 242 [.int a0]) {n : Nat} (hn : n < 512) {S : pl_S} (hS : Rep n S) {i : Int32} (hi : pl_i L i) {Q : Option Value → pm_H → Prop} (K : ∀ S2, Rep (n + 1) S2 → pg (d + 1) 0 808 [.ref 0, .ref 48, .ref 145, .int i] [] (pl_h L S2) Q) : pg (d + 1) 0 774 [.ref 0, .ref 48, .ref 145, .int i] [] (pl_h L S) Q := by
  refine pg_go (n := 6) (fun cl f => rfl) (pl_rd hi 1 (by decide)) ?_
  refine pg_call (n := 1) (fun cl f => rfl) ?_
  refine pc_mono (P _ n S hn hS) ?_
  rintro r h1 ⟨x, S1, rfl, rfl, hI, hp⟩
  refine pg_go (n := 6) (fun cl f => rfl) (pl_rd hi 1 (by decide)) ?_
  refine pg_call (n := 1) (fun cl f => rfl) ?_
  show pc d 242 [.ref 145, .int (pl_I S1 0 (i + 1).toNatClampNeg)] (pl_h L S1) _
  rw [hI]
  refine pc_mono hp ?_
  rintro r h2 ⟨S2, rfl, rfl, hS2⟩
  exact pg_if (n := 1) (fun cl f => rfl) (fun _ => K S2 hS2) (fun c => absurd rfl c)
theorem pl_c37 {d L : Nat} {Rep : Nat → pl_S → Prop} (P : ∀ (a0 : Int32), pl_pairI L Rep d 150 243 [.int a0]) {n : Nat} (hn : n < 512) {S : pl_S} (hS : Rep n S) {i : Int32} (hi : pl_i L i) {Q : Option Value → pm_H → Prop} (K : ∀ S2, Rep (n + 1) S2 → pg (d + 1) 0 808 [.ref 0, .ref 48, .ref 145, .int i] [] (pl_h L S2) Q) : pg (d + 1) 0 791 [.ref 0, .ref 48, .ref 145, .int i] [] (pl_h L S) Q := by
  refine pg_go (n := 6) (fun cl f => rfl) (pl_rd hi 1 (by decide)) ?_
  refine pg_call (n := 1) (fun cl f => rfl) ?_
  refine pc_mono (P _ n S hn hS) ?_
  rintro r h1 ⟨x, S1, rfl, rfl, hI, hp⟩
  refine pg_go (n := 6) (fun cl f => rfl) (pl_rd hi 1 (by decide)) ?_
  refine pg_call (n := 1) (fun cl f => rfl) ?_
  show pc d 243 [.ref 145, .int (pl_I S1 0 (i + 1).toNatClampNeg)] (pl_h L S1) _
  rw [hI]
  refine pc_mono hp ?_
  rintro r h2 ⟨S2, rfl, rfl, hS2⟩
  exact pg_if (n := 1) (fun cl f => rfl) (fun _ => K S2 hS2) (fun c => absurd rfl c)
/-- all pairs of methods -/
def pl_all (L : Nat) (Rep : Nat → pl_S → Prop) (d : Nat) : Prop := (∀ (a0 : Int32) (a1 : Int64), pl_pairI L Rep d 13 153 [.int a0, .long a1]) ∧ (pl_pairI L Rep d 15 155 []) ∧ (pl_pairI L Rep d 47 170 []) ∧ (pl_pairI L Rep d 50 172 []) ∧ (pl_pairI L Rep d 52 173 []) ∧ (∀ (a0 : Int32), pl_pairI L Rep d 53 174 [.int a0]) ∧ (∀ (a0 : Int32) (a1 : Int32), pl_pairI L Rep d 54 175 [.int a0, .int a1]) ∧ (∀ (a0 : Int32) (a1 : Int32), pl_pairI L Rep d 56 177 [.int a0, .int a1]) ∧ (∀ (a0 : Int32) (a1 : Int32), pl_pairI L Rep d 57 178 [.int a0, .int a1]) ∧ (∀ (a0 : Int32) (a1 : Int32), pl_pairI L Rep d 58 179 [.int a0, .int a1]) ∧ (∀ (a0 : Int32), (a0 = 0 ∨ a0 = 1) → pl_pairI L Rep d 60 180 [.int a0]) ∧ (∀ (a0 : Int32), pl_pairI L Rep d 61 181 [.int a0]) ∧ (∀ (a0 : Int32), pl_pairI L Rep d 62 182 [.int a0]) ∧ (pl_pairI L Rep d 79 193 []) ∧ (∀ (a0 : Int32) (a1 : Int32), pl_pairL L Rep d 80 194 [.int a0, .int a1]) ∧ (∀ (a0 : Int32), pl_pairL L Rep d 81 195 [.int a0]) ∧ (∀ (a0 : Int32) (a1 : Int32) (a2 : Int32) (a3 : Int32), pl_pairI L Rep d 82 196 [.int a0, .int a1, .int a2, .int a3]) ∧ (∀ (a0 : Int32) (a1 : Int32), pl_pairI L Rep d 88 198 [.int a0, .int a1]) ∧ (∀ (a0 : Int32), pl_pairI L Rep d 98 202 [.int a0]) ∧ (∀ (a0 : Int32) (a1 : Int32), pl_pairI L Rep d 99 203 [.int a0, .int a1]) ∧ (∀ (a0 : Int32) (a1 : Int32), pl_pairI L Rep d 109 212 [.int a0, .int a1]) ∧ (∀ (a0 : Int32) (a1 : Int32), (a1 = 0 ∨ a1 = 1) → pl_pairI L Rep d 110 213 [.int a0, .int a1]) ∧ (∀ (a0 : Int32) (a1 : Int32) (a2 : Int32), pl_pairI L Rep d 111 214 [.int a0, .int a1, .int a2]) ∧ (pl_pairI L Rep d 114 215 []) ∧ (pl_pairI L Rep d 115 216 []) ∧ (∀ (a0 : Int32) (a1 : Int32) (a2 : Int32), pl_pairI L Rep d 119 220 [.int a0, .int a1, .int a2]) ∧ (∀ (a0 : Int32), pl_pairI L Rep d 128 221 [.int a0]) ∧ (∀ (a0 : Int32), pl_pairI L Rep d 129 223 [.int a0]) ∧ (∀ (a0 : Int32), pl_pairI L Rep d 130 228 [.int a0]) ∧ (∀ (a0 : Int32), pl_pairI L Rep d 132 229 [.int a0]) ∧ (pl_pairI L Rep d 134 230 []) ∧ (∀ (a0 : Int32), pl_pairI L Rep d 136 231 [.int a0]) ∧ (∀ (a0 : Int32) (a1 : Int32), (a1 = 0 ∨ a1 = 1) → pl_pairI L Rep d 144 235 [.int a0, .int a1]) ∧ (pl_pairI L Rep d 145 236 []) ∧ (∀ (a0 : Int32), pl_pairI L Rep d 146 237 [.int a0]) ∧ (∀ (a0 : Int32), pl_pairI L Rep d 147 241 [.int a0]) ∧ (∀ (a0 : Int32), pl_pairI L Rep d 148 242 [.int a0]) ∧ (∀ (a0 : Int32), pl_pairI L Rep d 150 243 [.int a0])
theorem pl_tab {d L : Nat} {Rep : Nat → pl_S → Prop} (A : pl_all L Rep d) {n : Nat} (hn : n < 512) {S : pl_S} (hS : Rep n S) {i : Int32} (hi : pl_i L i) {Q : Option Value → pm_H → Prop} (K : ∀ S2, Rep (n + 1) S2 → pg (d + 1) 0 808 [.ref 0, .ref 48, .ref 145, .int i] [] (pl_h L S2) Q) : ∀ m : Nat, m < 38 → pg (d + 1) 0 (pm_at 0 (pd_i 0 21).2.2.2.2.2 m) [.ref 0, .ref 48, .ref 145, .int i] [] (pl_h L S) Q
  | 0, _ => pl_c0 A.1 hn hS hi K
  | 1, _ => pl_c1 A.2.1 hn hS hi K
  | 2, _ => pl_c2 A.2.2.1 hn hS hi K
  | 3, _ => pl_c3 A.2.2.2.1 hn hS hi K
  | 4, _ => pl_c4 A.2.2.2.2.1 hn hS hi K
  | 5, _ => pl_c5 A.2.2.2.2.2.1 hn hS hi K
  | 6, _ => pl_c6 A.2.2.2.2.2.2.1 hn hS hi K
  | 7, _ => pl_c7 A.2.2.2.2.2.2.2.1 hn hS hi K
  | 8, _ => pl_c8 A.2.2.2.2.2.2.2.2.1 hn hS hi K
  | 9, _ => pl_c9 A.2.2.2.2.2.2.2.2.2.1 hn hS hi K
  | 10, _ => pl_c10 A.2.2.2.2.2.2.2.2.2.2.1 hn hS hi K
  | 11, _ => pl_c11 A.2.2.2.2.2.2.2.2.2.2.2.1 hn hS hi K
  | 12, _ => pl_c12 A.2.2.2.2.2.2.2.2.2.2.2.2.1 hn hS hi K
  | 13, _ => pl_c13 A.2.2.2.2.2.2.2.2.2.2.2.2.2.1 hn hS hi K
  | 14, _ => pl_c14 A.2.2.2.2.2.2.2.2.2.2.2.2.2.2.1 hn hS hi K
  | 15, _ => pl_c15 A.2.2.2.2.2.2.2.2.2.2.2.2.2.2.2.1 hn hS hi K
  | 16, _ => pl_c16 A.2.2.2.2.2.2.2.2.2.2.2.2.2.2.2.2.1 hn hS hi K
  | 17, _ => pl_c17 A.2.2.2.2.2.2.2.2.2.2.2.2.2.2.2.2.2.1 hn hS hi K
  | 18, _ => pl_c18 A.2.2.2.2.2.2.2.2.2.2.2.2.2.2.2.2.2.2.1 hn hS hi K
  | 19, _ => pl_c19 A.2.2.2.2.2.2.2.2.2.2.2.2.2.2.2.2.2.2.2.1 hn hS hi K
  | 20, _ => pl_c20 A.2.2.2.2.2.2.2.2.2.2.2.2.2.2.2.2.2.2.2.2.1 hn hS hi K
  | 21, _ => pl_c21 A.2.2.2.2.2.2.2.2.2.2.2.2.2.2.2.2.2.2.2.2.2.1 hn hS hi K
  | 22, _ => pl_c22 A.2.2.2.2.2.2.2.2.2.2.2.2.2.2.2.2.2.2.2.2.2.2.1 hn hS hi K
  | 23, _ => pl_c23 A.2.2.2.2.2.2.2.2.2.2.2.2.2.2.2.2.2.2.2.2.2.2.2.1 hn hS hi K
  | 24, _ => pl_c24 A.2.2.2.2.2.2.2.2.2.2.2.2.2.2.2.2.2.2.2.2.2.2.2.2.1 hn hS hi K
  | 25, _ => pl_c25 A.2.2.2.2.2.2.2.2.2.2.2.2.2.2.2.2.2.2.2.2.2.2.2.2.2.1 hn hS hi K
  | 26, _ => pl_c26 A.2.2.2.2.2.2.2.2.2.2.2.2.2.2.2.2.2.2.2.2.2.2.2.2.2.2.1 hn hS hi K
  | 27, _ => pl_c27 A.2.2.2.2.2.2.2.2.2.2.2.2.2.2.2.2.2.2.2.2.2.2.2.2.2.2.2.1 hn hS hi K
  | 28, _ => pl_c28 A.2.2.2.2.2.2.2.2.2.2.2.2.2.2.2.2.2.2.2.2.2.2.2.2.2.2.2.2.1 hn hS hi K
  | 29, _ => pl_c29 A.2.2.2.2.2.2.2.2.2.2.2.2.2.2.2.2.2.2.2.2.2.2.2.2.2.2.2.2.2.1 hn hS hi K
  | 30, _ => pl_c30 A.2.2.2.2.2.2.2.2.2.2.2.2.2.2.2.2.2.2.2.2.2.2.2.2.2.2.2.2.2.2.1 hn hS hi K
  | 31, _ => pl_c31 A.2.2.2.2.2.2.2.2.2.2.2.2.2.2.2.2.2.2.2.2.2.2.2.2.2.2.2.2.2.2.2.1 hn hS hi K
  | 32, _ => pl_c32 A.2.2.2.2.2.2.2.2.2.2.2.2.2.2.2.2.2.2.2.2.2.2.2.2.2.2.2.2.2.2.2.2.1 hn hS hi K
  | 33, _ => pl_c33 A.2.2.2.2.2.2.2.2.2.2.2.2.2.2.2.2.2.2.2.2.2.2.2.2.2.2.2.2.2.2.2.2.2.1 hn hS hi K
  | 34, _ => pl_c34 A.2.2.2.2.2.2.2.2.2.2.2.2.2.2.2.2.2.2.2.2.2.2.2.2.2.2.2.2.2.2.2.2.2.2.1 hn hS hi K
  | 35, _ => pl_c35 A.2.2.2.2.2.2.2.2.2.2.2.2.2.2.2.2.2.2.2.2.2.2.2.2.2.2.2.2.2.2.2.2.2.2.2.1 hn hS hi K
  | 36, _ => pl_c36 A.2.2.2.2.2.2.2.2.2.2.2.2.2.2.2.2.2.2.2.2.2.2.2.2.2.2.2.2.2.2.2.2.2.2.2.2.1 hn hS hi K
  | 37, _ => pl_c37 A.2.2.2.2.2.2.2.2.2.2.2.2.2.2.2.2.2.2.2.2.2.2.2.2.2.2.2.2.2.2.2.2.2.2.2.2.2 hn hS hi K
  | m + 38, h => absurd h (by omega)
theorem pl_step {d L : Nat} {Rep : Nat → pl_S → Prop} (A : pl_all L Rep d) {n : Nat} (hn : n < 512) {S : pl_S} (hS : Rep n S) {i : Int32} (hi : pl_i L i) {Q : Option Value → pm_H → Prop} (K : ∀ S2, Rep (n + 1) S2 → pg (d + 1) 0 808 [.ref 0, .ref 48, .ref 145, .int i] [] (pl_h L S2) Q) (M : ∀ n S, Rep n S → Rep (n + 1) S) : pg (d + 1) 0 16 [.ref 0, .ref 48, .ref 145, .int i] [] (pl_h L S) Q := by
  refine pg_go (n := 3) (fun cl f => rfl) (pl_rd0 hi) ?_
  refine pg_if (n := 3) (fun cl f => rfl) (fun _ => K S (M n S hS)) (fun c => ?_)
  exact pl_tab A hn hS hi K _ (by omega)
theorem pl_hd {L : Nat} {i : Int32} (hL : L ≤ 2560) (h1 : (L : Int) < i.toInt + 5) (h0 : 0 ≤ i.toInt) : Int32.ofNat L - 5 < i := by
  have e0 : (Int32.ofNat L).toInt = L := by
    first
    | exact Int32.toInt_ofNat_of_lt (by omega)
    | (rw [Int32.toInt_ofNat', Int.bmod_def]; split <;> omega)
  have e1 : (Int32.ofNat L - 5).toInt = L - 5 := by
    have e5 : Int32.toInt 5 = 5 := rfl
    rw [Int32.toInt_sub, e0, e5, Int.bmod_def]
    split <;> omega
  rw [Int32.lt_iff_toInt_lt, e1]
  omega
theorem pl_loop {d L : Nat} {Rep : Nat → pl_S → Prop} (hL : L ≤ 2560) (A : pl_all L Rep d) (M : ∀ n S, Rep n S → Rep (n + 1) S) : ∀ (m n : Nat) (i : Int32) (S : pl_S), Rep n S → i.toInt = 5 * n → i.toInt ≤ L + 5 → (L + 5 - i.toInt).toNat ≤ m → pg (d + 1) 0 10 [.ref 0, .ref 48, .ref 145, .int i] [] (pl_h L S) (fun r h1 => r = some (.int 1) ∧ h1.1.1 ≤ 600048 ∧ h1.1.2.1 ≤ 7302250) := by
  intro m
  induction m with
  | zero =>
    intro n i S hS h0 h1 h2
    refine pg_if (n := 6) (fun cl f => rfl) (fun c => pg_ret (n := 2) (fun cl f => rfl) ⟨rfl, by show 182 ≤ 600048; decide, by show 4061 ≤ 7302250; decide⟩) (fun c => absurd (pl_hd hL (by omega) (by omega)) c)
  | succ m ih =>
    intro n i S hS h0 h1 h2
    refine pg_if (n := 6) (fun cl f => rfl) (fun c => pg_ret (n := 2) (fun cl f => rfl) ⟨rfl, by show 182 ≤ 600048; decide, by show 4061 ≤ 7302250; decide⟩) (fun c => ?_)
    have hi : i.toInt + 5 ≤ L := by
      rcases Int.lt_or_le (L : Int) (i.toInt + 5) with hlt | hle
      · exact absurd (pl_hd hL (by omega) (by omega)) c
      · exact hle
    refine pl_step A (n := n) (by omega) hS ⟨hL, by omega, hi⟩ (fun S2 hS2 => ?_) M
    have e5 : (i + 5).toInt = i.toInt + 5 := pl_add (k := 5) (by omega) (by omega) (by decide)
    exact pg_st (n := 2) (fun cl f => rfl) (ih (n + 1) (i + 5) S2 hS2 (by omega) (by omega) (by omega))
/-- the pure law, out of the pairs of methods -/
theorem pl_law (Rep : Nat → pl_S → Prop) (d : Nat) (hd : d + 4 ≤ 800) (A : ∀ L, L ≤ 2560 → pl_all L Rep (d + 2)) (M : ∀ n S, Rep n S → Rep (n + 1) S) (H0 : ∀ L xs, L ≤ 2560 → Rep 0 (51, 66, 81, 86, pu_I0 L xs, pu_L0)) : pu_law := by
  intro L xs hL
  have g : pg (d + 3) 0 0 [.ref 0, .null, .null, .null] [] (pe_h0 L xs) (fun r h1 => r = some (.int 1) ∧ h1.1.1 ≤ 600048 ∧ h1.1.2.1 ≤ 7302250) := pu_start (pl_loop hL (A L hL) M (L + 5) 0 0 _ (H0 L xs hL) (by decide) (by show (0 : Int) ≤ _; omega) (by show ((L : Int) + 5 - 0).toNat ≤ _; omega))
  obtain ⟨f0, r, h1, g1, rfl, g2, g3⟩ := g
  refine ⟨d + 3, f0, h1, by omega, ?_, g2, g3⟩
  rw [pm_ev_run]
  exact g1 f0 (Nat.le_refl _)
