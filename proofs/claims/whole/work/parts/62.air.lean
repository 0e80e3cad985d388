/-! AIR: what is held of it; the simple pairs -/
def aC (i : Nat) : Nat := if i < 8 then 1 else if i < 16 then 2 else if i = 26 ∨ i = 27 then 3 else 0
def aK (i : Nat) : Nat := if i < 8 then i else if i < 16 then i - 8 else if i = 16 then 7 else if i ≤ 21 then i - 15 else if i ≤ 25 then i - 13 else if i = 26 then 0 else if i = 27 then 1 else 13
def aL (i : Nat) : Bool := decide (i < 16) || (decide (17 ≤ i) && decide (i ≤ 21)) || decide (i = 28)
/-- the air in the cell a, as the reference's row has it -/
def cA (a : Nat) (s : hS) (i : Nat) : Int64 := if aL i = true then rL s (a + aC i) (aK i) else (rI s (a + aC i) (aK i)).toInt64
theorem aCK_inj : ∀ i, i < 29 → ∀ j, j < 29 → aC i = aC j → aK i = aK j → i = j := by decide
theorem cA_fr {a i : Nat} {s s1 : hS} {W : Nat → Nat → Prop} (hf : Fr W s s1) (h : ¬ W (a + aC i) (aK i)) : cA a s1 i = cA a s i := by
  unfold cA; rw [hf.i h, hf.l h]
theorem cA_I {a i j : Nat} (hi : i < 29) (hj : j < 29) (hl : aL j = false) (s : hS) (x : Int32) : cA a (sI s (a + aC j) (aK j) x) i = if i = j then x.toInt64 else cA a s i := by
  by_cases h : i = j
  · rw [if_pos h, h]
    unfold cA
    rw [hl, if_neg (by decide), r_II, if_pos ⟨rfl, rfl⟩]
  · rw [if_neg h]
    refine cA_fr (W := fun c k => c = a + aC j ∧ k = aK j) ((Fr.rf (fun c k => c = a + aC j ∧ k = aK j) s).sI ⟨rfl, rfl⟩) (fun z => h (aCK_inj i hi j hj (by omega) z.2))
theorem cA_L {a i j : Nat} (hi : i < 29) (hj : j < 29) (hl : aL j = true) (s : hS) (x : Int64) : cA a (sL s (a + aC j) (aK j) x) i = if i = j then x else cA a s i := by
  by_cases h : i = j
  · rw [if_pos h, h]
    unfold cA
    rw [hl, if_pos rfl, r_LL, if_pos ⟨rfl, rfl⟩]
  · rw [if_neg h]
    refine cA_fr (W := fun c k => c = a + aC j ∧ k = aK j) ((Fr.rf (fun c k => c = a + aC j ∧ k = aK j) s).sL ⟨rfl, rfl⟩) (fun z => h (aCK_inj i hi j hj (by omega) z.2))
/-- the sum of HEAT -/
def hSum (W : Nat → Int64) : Int := (W 8).toInt + (W 9).toInt + (W 10).toInt + (W 11).toInt + (W 12).toInt + (W 13).toInt + (W 14).toInt + (W 15).toInt
def okA (n : Nat) (W : Nat → Int64) : Prop := (∀ k, k < 8 → 0 ≤ (W (8 + k)).toInt) ∧ hSum W ≤ 8991 * (W 16).toInt ∧ (0 ≤ (W 16).toInt ∧ (W 16).toInt ≤ 1200 * n) ∧ (0 ≤ (W 22).toInt ∧ (W 22).toInt ≤ 9) ∧ (0 ≤ (W 23).toInt ∧ (W 23).toInt ≤ 7) ∧ (0 ≤ (W 24).toInt ∧ (W 24).toInt ≤ 9) ∧ ((W 25).toInt = 0 ∨ (W 25).toInt = 1) ∧ (0 ≤ (W 26).toInt ∧ (W 26).toInt ≤ 8) ∧ (0 ≤ (W 27).toInt ∧ (W 27).toInt ≤ 8) ∧ (0 ≤ (W 28).toInt ∧ (W 28).toInt < 2147483648)
theorem okA_mono {n : Nat} {W : Nat → Int64} (h : okA n W) : okA (n + 1) W := by
  obtain ⟨h1, h2, h3, h4⟩ := h
  exact ⟨h1, h2, ⟨h3.1, by omega⟩, h4⟩
theorem okA_congr {n : Nat} {W W' : Nat → Int64} (h : okA n W) (e : ∀ i, i < 29 → W' i = W i) : okA n W' := by
  obtain ⟨h1, h2, h3, h4, h5, h6, h7, h8, h9, h10⟩ := h
  unfold okA hSum at *
  rw [e 8 (by decide), e 9 (by decide), e 10 (by decide), e 11 (by decide), e 12 (by decide), e 13 (by decide), e 14 (by decide), e 15 (by decide), e 16 (by decide), e 22 (by decide), e 23 (by decide), e 24 (by decide), e 25 (by decide), e 26 (by decide), e 27 (by decide), e 28 (by decide)]
  exact ⟨fun k hk => by rw [e _ (by omega)]; exact h1 k hk, h2, h3, h4, h5, h6, h7, h8, h9, h10⟩
/-- the air in the cell a and the reference's row from x on are alike -/
def pAir (a x n : Nat) (s : hS) : Prop := (∀ i, i < 29 → cA a s i = rL s 146 (x + i)) ∧ okA n (fun i => rL s 146 (x + i))
/-- what now is so -/
def pNow (n : Nat) (s : hS) : Prop := pAir 92 0 n s
def fA0 (c k : Nat) : Prop := (92 ≤ c ∧ c ≤ 92 + 3) ∨ (c = 146 ∧ k < 32) ∨ c = 156
theorem pNow_at {n : Nat} {s : hS} (h : pNow n s) {i : Nat} (hi : i < 29) : cA 92 s i = rL s 146 i := by
  have := h.1 i hi
  rw [Nat.zero_add] at this; exact this
theorem pNow_ok {n : Nat} {s : hS} (h : pNow n s) : okA n (fun i => rL s 146 i) := okA_congr h.2 (fun i _ => by rw [Nat.zero_add])
theorem pNow_mk {n : Nat} {s : hS} (h1 : ∀ i, i < 29 → cA 92 s i = rL s 146 i) (h2 : okA n (fun i => rL s 146 i)) : pNow n s := ⟨fun i hi => by rw [Nat.zero_add]; exact h1 i hi, okA_congr h2 (fun i _ => by rw [Nat.zero_add])⟩
theorem pNow_mono {n : Nat} {s : hS} (h : pNow n s) : pNow (n + 1) s := ⟨h.1, okA_mono h.2⟩
/-- one place j is set in both -/
theorem pNow_set {n j : Nat} {s s2 : hS} {y : Int64} (h : pNow n s) (hj : 16 ≤ j ∧ j < 29) (h1 : ∀ i, i < 29 → cA 92 s2 i = if i = j then y else cA 92 s i) (h2 : ∀ i, i < 29 → rL s2 146 i = if i = j then y else rL s 146 i) (ok : okA n (fun i => rL s 146 i) → okA n (fun i => if i = j then y else rL s 146 i)) : pNow n s2 := by
  refine pNow_mk (fun i hi => ?_) (okA_congr (ok (pNow_ok h)) (fun i hi => h2 i hi))
  rw [h1 i hi, h2 i hi, pNow_at h hi]
section
variable {d : Nat} {v : hV} {s s1 : hS}
theorem th_ear {n : Nat} (h : pNow n s) (e x : Int32) : prI fA0 v (d + 1) 57 178 [.int e, .int x] s (fun s2 => pNow n s2) := by
  have el0 : Int64.toInt 0 = 0 := rfl
  have el1 : Int64.toInt 1 = 1 := rfl
  have el8 : Int64.toInt 8 = 8 := rfl
  have e26 : Int32.toInt 26 = 26 := rfl
  have U : ∀ K : Int32 → hS → Prop, ¬ (0 ≤ e.toInt ∧ e.toInt ≤ 1) → K (-1000000001) s → pcI (d + 1) 178 [.ref 145, .int e, .int x] v s K := fun K hn hK => st_M_ear (sp_in (fun _ => hK) (fun z => absurd z hn))
  have O : ∀ K : Int32 → hS → Prop, (0 ≤ e.toInt ∧ e.toInt ≤ 1) → ¬ (0 ≤ x.toInt ∧ x.toInt ≤ 8) → K (-1000000002) s → pcI (d + 1) 178 [.ref 145, .int e, .int x] v s K := fun K hn hx hK => st_M_ear (sp_in (fun z => absurd hn z) (fun _ => sp_in (fun _ => hK) (fun z => absurd z hx)))
  refine st_S_ear ⟨fun c => ⟨Fr.rf _ _, U _ (by omega) ⟨rfl, Fr.rf _ _, h⟩⟩, fun c => ⟨fun c2 => ⟨fun c3 => ⟨Fr.rf _ _, O _ (by omega) (by omega) ⟨rfl, Fr.rf _ _, h⟩⟩, fun c3 => ⟨fun c4 => ⟨Fr.rf _ _, O _ (by omega) (by omega) ⟨rfl, Fr.rf _ _, h⟩⟩, fun c4 => ⟨by omega, by omega, ?_⟩⟩⟩, fun c2 => ⟨Fr.rf _ _, U _ (by omega) ⟨rfl, Fr.rf _ _, h⟩⟩⟩⟩
  have e2 : (26 + e).toInt = 26 + e.toInt := by rw [i_add (by rw [e26]; omega), e26]
  have e3 : (26 + e).toInt.toNat = 26 + e.toInt.toNat := by rw [e2]; omega
  generalize hq : e.toInt.toNat = q at *
  have hq2 : q < 2 := by omega
  have hC : aC (26 + q) = 3 ∧ aK (26 + q) = q ∧ aL (26 + q) = false := by
    have : ∀ q, q < 2 → aC (26 + q) = 3 ∧ aK (26 + q) = q ∧ aL (26 + q) = false := by decide
    exact this q hq2
  have hold := pNow_at h (i := 26 + q) (by omega)
  have hold2 : (rI s (92 + 3) q).toInt64 = rL s 146 (26 + q) := by
    rw [← hold]; unfold cA; rw [hC.2.2, hC.1, hC.2.1, if_neg (by decide)]
  refine ⟨(Fr.rf _ s).sI (Or.inl ⟨by decide, by decide⟩), st_M_ear (sp_in (fun z => absurd (by rw [el0, el1]; omega) z) (fun _ => sp_in (fun z => absurd (by rw [el0, el8]; omega) z) (fun _ => ?_)))⟩
  rw [e3, r_LI]
  refine ⟨by omega, by omega, ?_, (Fr.rf _ _).sL (Or.inr (Or.inl ⟨rfl, by omega⟩)), ?_⟩
  · rw [← hold2]; exact i_64_32 _
  · refine pNow_set (j := 26 + q) (y := x.toInt64) h (by omega) (fun i hi => ?_) (fun i hi => ?_) (fun ok => ?_)
    · have e1 : cA 92 (sL (sI s 95 q x) 146 (26 + q) x.toInt64) i = cA 92 (sI s (92 + aC (26 + q)) (aK (26 + q)) x) i := by
        rw [hC.1, hC.2.1]
        refine cA_fr (W := fun c _ => c = 146) ((Fr.rf (fun c _ => c = 146) _).sL rfl) ?_
        have : aC i ≤ 3 := by
          have : ∀ i, i < 29 → aC i ≤ 3 := by decide
          exact this i hi
        omega
      rw [e1, cA_I hi (by omega) hC.2.2]
    · rw [r_LL, r_LI]
      by_cases hh : i = 26 + q
      · rw [if_pos ⟨rfl, hh⟩, if_pos hh]
      · rw [if_neg (fun z => hh z.2), if_neg hh]
    · obtain ⟨o1, o2, o3, o4, o5, o6, o7, o8, o9, o10⟩ := ok
      have hx8 : 0 ≤ x.toInt64.toInt ∧ x.toInt64.toInt ≤ 8 := by rw [i_64]; omega
      refine ⟨fun k hk => ?_, ?_, ?_, ?_, ?_, ?_, ?_, ?_, ?_, ?_⟩
      · show 0 ≤ (if 8 + k = 26 + q then x.toInt64 else rL s 146 (8 + k)).toInt
        rw [if_neg (by omega)]; exact o1 k hk
      · unfold hSum at o2 ⊢
        simp only []
        rw [if_neg (by omega), if_neg (by omega), if_neg (by omega), if_neg (by omega), if_neg (by omega), if_neg (by omega), if_neg (by omega), if_neg (by omega), if_neg (by omega)]; exact o2
      · simp only []; rw [if_neg (by omega)]; exact o3
      · simp only []; rw [if_neg (by omega)]; exact o4
      · simp only []; rw [if_neg (by omega)]; exact o5
      · simp only []; rw [if_neg (by omega)]; exact o6
      · simp only []; rw [if_neg (by omega)]; exact o7
      · simp only []; by_cases h0 : q = 0
        · rw [if_pos (by omega)]; exact hx8
        · rw [if_neg (by omega)]; exact o8
      · simp only []; by_cases h0 : q = 0
        · rw [if_neg (by omega)]; exact o9
        · rw [if_pos (by omega)]; exact hx8
      · simp only []; rw [if_neg (by omega)]; exact o10
end
