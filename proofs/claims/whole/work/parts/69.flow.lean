/-! A MINUTE: rise and sink, in the class -/
/-- of layer k, what rises -/
def upG (r : Nat → Int64) (c : Nat) (B L : Int64) (k : Nat) : Int64 := r k * (if k < c then L else B) / 1000
def upR (r : Nat → Int64) (c : Nat) (B L : Int64) (i : Nat) : Int64 := if i = 0 then r 0 - upG r c B L 0 else r i - upG r c B L i + upG r c B L (i - 1)
/-- what sinks from layer k + 1 to layer k -/
def dnG (r : Nat → Int64) (c : Nat) (B L : Int64) (k : Nat) : Int64 := r (k + 1) * (if k < c then L else B) / 1000
def dnC (r : Nat → Int64) (c : Nat) (B L : Int64) : Int64 := if c = 0 then 0 else r c * (B - L) / 1000
def dnF (r : Nat → Int64) (c : Nat) (B L : Int64) : Int64 := r 0 * (if c = 0 then B else L) / 1000
/-- the row behind k steps -/
def dnS (r : Nat → Int64) (c : Nat) (B L : Int64) (k i : Nat) : Int64 := if i < k then (if i = 0 then r 0 + dnG r c B L 0 else r i - dnG r c B L (i - 1) + dnG r c B L i) else if i = k ∧ i ≠ 0 then r i - dnG r c B L (i - 1) else r i
def dnR (r : Nat → Int64) (c : Nat) (B L : Int64) (i : Nat) : Int64 := if i = 0 then (if c = 0 then dnS r c B L 7 0 - dnC r c B L else dnS r c B L 7 0) - dnF r c B L else if i = c then dnS r c B L 7 i - dnC r c B L else dnS r c B L 7 i
section
variable {d : Nat} {v : hV} {s s1 : hS} {r : Nat → Int64} {c : Nat}
theorem sp_rise {q : Nat} (hq : kQ q) {x1 x2 x3 : Int32} (hc : x3.toInt = c) (h7 : c ≤ 7) (hr : ∀ i, i < 8 → rL s q i = r i) {K : Int64 → hS → Prop} (hK : ∀ s2, Fr (fun c' _ => c' = q) s s2 → (∀ i, i < 8 → rL s2 q i = upR r c x1.toInt64 x2.toInt64 i) → K (upG r c x1.toInt64 x2.toInt64 7) s2) : pcL d 73 [.ref q, .int x1, .int x2, .int x3] v s K := by
  have e1 : Int32.toInt 1 = 1 := rfl
  have em : Int32.toInt (-1) = -1 := rfl
  refine st_Air_rise hq ?_
  have e7 : rL s q 7 * x1.toInt64 / 1000 = upG r c x1.toInt64 x2.toInt64 7 := by unfold upG; rw [if_neg (by omega), hr 7 (by decide)]
  rw [e7]
  have L : ∀ (j : Nat) (s1 : hS) (z5 z7 z8 : Value) (x6 : Int32), j ≤ 7 → x6.toInt = (j : Int) - 1 → Fr (fun c' _ => c' = q) s s1 → (∀ i, i < 8 → rL s1 q i = if i < j then r i else if i = j then r i - upG r c x1.toInt64 x2.toInt64 i else r i - upG r c x1.toInt64 x2.toInt64 i + upG r c x1.toInt64 x2.toInt64 (i - 1)) → pgL d 73 18 [.ref q, .int x1, .int x2, .int x3, .long (upG r c x1.toInt64 x2.toInt64 7), z5, .int x6, z7, z8] [] v s1 K := by
    intro j
    induction j with
    | zero =>
      intro s1 z5 z7 z8 x6 hj hx hf hs
      refine st_Air_rise_18 hq ⟨fun _ => hK s1 hf (fun i hi => ?_), fun z => absurd (by omega) z⟩
      rw [hs i hi, if_neg (by omega)]; unfold upR
      by_cases c0 : i = 0
      · rw [if_pos c0, if_pos c0, c0]
      · rw [if_neg c0, if_neg c0]
    | succ j ih =>
      intro s1 z5 z7 z8 x6 hj hx hf hs
      have k1 : x6.toInt.toNat = j := by omega
      have k2 : (x6 + 1).toInt = j + 1 := by rw [i_add (by rw [e1]; omega), e1]; omega
      have k3 : (x6 + 1).toInt.toNat = j + 1 := by omega
      have k4 : (x6 + (-1)).toInt = (j : Int) - 1 := by rw [i_add (by rw [em]; omega), em]; omega
      have hj0 : rL s1 q j = r j := by rw [hs j (by omega), if_pos (by omega)]
      have hj1 : rL s1 q (j + 1) = r (j + 1) - upG r c x1.toInt64 x2.toInt64 (j + 1) := by rw [hs (j + 1) (by omega), if_neg (by omega), if_pos rfl]
      have F : ∀ (z5 z7 z8 : Value), pgL d 73 18 [.ref q, .int x1, .int x2, .int x3, .long (upG r c x1.toInt64 x2.toInt64 7), z5, .int (x6 + (-1)), z7, z8] [] v (sL (sL s1 q j (rL s1 q j - upG r c x1.toInt64 x2.toInt64 j)) q (j + 1) (rL (sL s1 q j (rL s1 q j - upG r c x1.toInt64 x2.toInt64 j)) q (j + 1) + upG r c x1.toInt64 x2.toInt64 j)) K := by
        intro z5 z7 z8
        refine ih _ _ _ _ _ (by omega) k4 ((hf.sL rfl).sL rfl) (fun i hi => ?_)
        rw [r_LL, r_LL, r_LL, if_neg (show ¬ (q = q ∧ j + 1 = j) by omega), hj0, hj1]
        by_cases a1 : i = j + 1
        · rw [if_pos ⟨rfl, a1⟩, if_neg (by omega), if_neg (by omega), a1, Nat.add_sub_cancel]
        · rw [if_neg (fun z => a1 z.2)]
          by_cases a2 : i = j
          · rw [if_pos ⟨rfl, a2⟩, if_neg (by omega), if_pos a2, a2]
          · rw [if_neg (fun z => a2 z.2), hs i hi]
            by_cases a3 : i < j
            · rw [if_pos (by omega), if_pos a3]
            · rw [if_neg (by omega), if_neg a1, if_neg a3, if_neg a2]
      refine st_Air_rise_18 hq ⟨fun z => absurd z (by omega), fun _ => ⟨by omega, fun c1 => ⟨by omega, by omega, by omega, by omega, ?_⟩, fun c1 => ⟨by omega, by omega, by omega, by omega, ?_⟩⟩⟩
      · have e : rL s1 q j * x2.toInt64 / 1000 = upG r c x1.toInt64 x2.toInt64 j := by unfold upG; rw [if_pos (by omega), hj0]
        rw [k1, k3, e]; exact F _ _ _
      · have e : rL s1 q j * x1.toInt64 / 1000 = upG r c x1.toInt64 x2.toInt64 j := by unfold upG; rw [if_neg (by omega), hj0]
        rw [k1, k3, e]; exact F _ _ _
  refine L 7 _ _ _ _ _ (by decide) (by decide) ((Fr.rf (fun c' _ => c' = q) s).sL rfl) (fun i hi => ?_)
  rw [r_LL]
  by_cases a : i = 7
  · rw [if_pos ⟨rfl, a⟩, if_neg (by omega), if_pos a, hr 7 (by decide), a]
  · rw [if_neg (fun z => a z.2), if_pos (by omega), hr i hi]
theorem sp_sink {q : Nat} (hq : kQ q) {x1 x2 x3 : Int32} (hc : x3.toInt = c) (h7 : c ≤ 6) (h12 : (x1 - x2).toInt64 = x1.toInt64 - x2.toInt64) (hr : ∀ i, i < 8 → rL s q i = r i) {K : Int64 → hS → Prop} (hK : ∀ s2, Fr (fun c' _ => c' = q) s s2 → (∀ i, i < 8 → rL s2 q i = dnR r c x1.toInt64 x2.toInt64 i) → K (dnC r c x1.toInt64 x2.toInt64 + dnF r c x1.toInt64 x2.toInt64) s2) : pcL d 74 [.ref q, .int x1, .int x2, .int x3] v s K := by
  have k5 : x3.toInt.toNat = c := by omega
  have L : ∀ (m j : Nat) (s1 : hS) (z5 z7 z9 z10 : Value), j + m = 7 → Fr (fun c' _ => c' = q) s s1 → (∀ i, i < 8 → rL s1 q i = dnS r c x1.toInt64 x2.toInt64 j i) → pgL d 74 30 [.ref q, .int x1, .int x2, .int x3, .long (dnC r c x1.toInt64 x2.toInt64), z5, .long (dnF r c x1.toInt64 x2.toInt64), z7, .int (nI j), z9, z10] [] v s1 K := by
    intro m
    induction m with
    | zero =>
      intro j s1 z5 z7 z9 z10 hj hf hs
      have hj : j = 7 := by omega
      subst hj
      refine st_Air_sink_30 hq ⟨fun z => absurd z (by decide), fun _ => ⟨by omega, by omega, ?_⟩⟩
      rw [k5]
      refine hK _ ((hf.sL rfl).sL rfl) (fun i hi => ?_)
      rw [r_LL, r_LL, r_LL, hs c (by omega), hs 0 (by decide)]
      unfold dnR
      by_cases a : i = 0
      · rw [if_pos ⟨rfl, a⟩, if_pos a]
        by_cases b : c = 0
        · rw [if_pos ⟨rfl, b.symm⟩, if_pos b, b]
        · rw [if_neg (fun z => b z.2.symm), if_neg b]
      · rw [if_neg (fun z => a z.2), if_neg a]
        by_cases b : i = c
        · rw [if_pos ⟨rfl, b⟩, if_pos b, b]
        · rw [if_neg (fun z => b z.2), if_neg b, hs i hi]
    | succ m ih =>
      intro j s1 z5 z7 z9 z10 hj hf hs
      have k0 : (nI j).toInt = j := nI_toInt (by omega)
      have k1 : (nI j).toInt.toNat = j := by omega
      have k2 : (nI j + 1).toInt = j + 1 := by rw [nI_1, nI_toInt (by omega)]; omega
      have k3 : (nI j + 1).toInt.toNat = j + 1 := by omega
      have hj0 : rL s1 q j = if j = 0 then r j else r j - dnG r c x1.toInt64 x2.toInt64 (j - 1) := by
        rw [hs j (by omega)]; unfold dnS; rw [if_neg (by omega)]
        by_cases a : j = 0
        · rw [if_pos a, if_neg (by omega)]
        · rw [if_neg a, if_pos ⟨rfl, a⟩]
      have hj1 : rL s1 q (j + 1) = r (j + 1) := by rw [hs (j + 1) (by omega)]; unfold dnS; rw [if_neg (by omega), if_neg (by omega)]
      have F : ∀ (z5 z7 z9 z10 : Value), pgL d 74 30 [.ref q, .int x1, .int x2, .int x3, .long (dnC r c x1.toInt64 x2.toInt64), z5, .long (dnF r c x1.toInt64 x2.toInt64), z7, .int (nI j + 1), z9, z10] [] v (sL (sL s1 q (j + 1) (rL s1 q (j + 1) - dnG r c x1.toInt64 x2.toInt64 j)) q j (rL (sL s1 q (j + 1) (rL s1 q (j + 1) - dnG r c x1.toInt64 x2.toInt64 j)) q j + dnG r c x1.toInt64 x2.toInt64 j)) K := by
        intro z5 z7 z9 z10
        rw [nI_1]
        refine ih (j + 1) _ _ _ _ _ (by omega) ((hf.sL rfl).sL rfl) (fun i hi => ?_)
        rw [r_LL, r_LL, r_LL, if_neg (show ¬ (q = q ∧ j = j + 1) by omega), hj0, hj1]
        by_cases a1 : i = j
        · rw [if_pos ⟨rfl, a1⟩]; unfold dnS
          by_cases a0 : j = 0
          · rw [if_pos a0, if_pos (show i < j + 1 by omega), if_pos (show i = 0 by omega), a0]
          · rw [if_neg a0, if_pos (show i < j + 1 by omega), if_neg (show ¬ i = 0 by omega), a1]
        · rw [if_neg (fun z => a1 z.2)]
          by_cases a2 : i = j + 1
          · rw [if_pos ⟨rfl, a2⟩]; unfold dnS; rw [if_neg (by omega), if_pos (by omega), a2, Nat.add_sub_cancel]
          · rw [if_neg (fun z => a2 z.2), hs i hi]
            unfold dnS
            by_cases a3 : i < j
            · rw [if_pos a3, if_pos (show i < j + 1 by omega)]
            · rw [if_neg a3, if_neg (show ¬ (i = j ∧ i ≠ 0) by omega), if_neg (show ¬ i < j + 1 by omega), if_neg (show ¬ (i = j + 1 ∧ i ≠ 0) by omega)]
      refine st_Air_sink_30 hq ⟨fun _ => ⟨by omega, fun c1 => ⟨by omega, by omega, by omega, by omega, ?_⟩, fun c1 => ⟨by omega, by omega, by omega, by omega, ?_⟩⟩, fun z => absurd (by omega) z⟩
      · have e : rL s1 q (j + 1) * x2.toInt64 / 1000 = dnG r c x1.toInt64 x2.toInt64 j := by unfold dnG; rw [if_pos (by omega), hj1]
        rw [k1, k3, e]; exact F _ _ _ _
      · have e : rL s1 q (j + 1) * x1.toInt64 / 1000 = dnG r c x1.toInt64 x2.toInt64 j := by unfold dnG; rw [if_neg (by omega), hj1]
        rw [k1, k3, e]; exact F _ _ _ _
  have S0 : ∀ i, i < 8 → rL s q i = dnS r c x1.toInt64 x2.toInt64 0 i := fun i hi => by
    rw [hr i hi]; unfold dnS; rw [if_neg (by omega), if_neg (by omega)]
  refine st_Air_sink hq ⟨fun c1 => ⟨fun _ => ?_, fun z => absurd c1 z⟩, fun c1 => ⟨by omega, fun z => absurd z c1, fun _ => ?_⟩⟩
  · have g1 : dnC r c x1.toInt64 x2.toInt64 = 0 := by unfold dnC; rw [if_pos (by omega)]
    have g2 : dnF r c x1.toInt64 x2.toInt64 = rL s q 0 * x1.toInt64 / 1000 := by unfold dnF; rw [if_pos (by omega), hr 0 (by decide)]
    rw [← g2]
    have := L 7 0 s .null .null .null .null rfl (Fr.rf _ _) S0
    rw [g1] at this; exact this
  · have g1 : dnC r c x1.toInt64 x2.toInt64 = rL s q c * (x1 - x2).toInt64 / 1000 := by unfold dnC; rw [if_neg (by omega), hr c (by omega), h12]
    have g2 : dnF r c x1.toInt64 x2.toInt64 = rL s q 0 * x2.toInt64 / 1000 := by unfold dnF; rw [if_neg (by omega), hr 0 (by decide)]
    rw [k5, ← g1, ← g2]
    exact L 7 0 s _ _ _ _ rfl (Fr.rf _ _) S0
end
