/-! AIR: OPEN, DRAW, LOW, count() -/
def opN (W : Nat → Int64) : Nat := (if (W 26).toInt = 8 then 0 else 50) + (if (W 27).toInt = 8 then 0 else 50)
def opI (T : Nat → Int) (W : Nat → Int64) : Int := if opN W = 0 then T 4 else opN W
def wsm (W : Nat → Int64) : Nat → Int64
  | 0 => 0
  | k + 1 => wsm W k + W (8 + k) / 20
def rawW (T : Nat → Int) (W : Nat → Int64) : Int64 := wsm W 8 * Int64.ofInt (opI T W) / 400 + Int64.ofInt (lfW W)
def drW (T : Nat → Int) (W : Nat → Int64) : Int := if (rawW T W).toInt < -400 then -400 else if 700 < (rawW T W).toInt then 700 else (rawW T W).toInt
theorem drW_b (T : Nat → Int) (W : Nat → Int64) : -400 ≤ drW T W ∧ drW T W ≤ 700 := by
  unfold drW; split
  · omega
  · split <;> omega
def lwF (T : Nat → Int) (W : Nat → Int64) : Nat → Nat → Nat
  | 0, i => i
  | j + 1, i => if (W i).toInt < T 7 then lwF T W j (i + 1) else i
def lwW (T : Nat → Int) (W : Nat → Int64) : Nat := lwF T W 8 0
theorem lwF_le (T : Nat → Int) (W : Nat → Int64) : ∀ j i, lwF T W j i ≤ i + j := by
  intro j
  induction j with
  | zero => intro i; exact Nat.le_refl _
  | succ j ih =>
    intro i
    unfold lwF
    split
    · have := ih (i + 1); omega
    · omega
def tvC (t : Nat) (s : hS) (T : Nat → Int) : Prop := ∀ k, k < 9 → (rI s (t + 1) k).toInt = T k
def tvM (s : hS) (T : Nat → Int) : Prop := ∀ k, k < 9 → (rI s 148 k).toInt = T k
def okT (T : Nat → Int) : Prop := ∀ k, k < 9 → loV k ≤ T k ∧ T k ≤ hiV k
theorem okT_b {T : Nat → Int} (h : okT T) : (0 ≤ T 0 ∧ T 0 ≤ 5) ∧ (0 ≤ T 1 ∧ T 1 ≤ 100) ∧ (0 ≤ T 2 ∧ T 2 ≤ 200) ∧ (0 ≤ T 3 ∧ T 3 ≤ hiV 3) ∧ (0 ≤ T 4 ∧ T 4 ≤ hiV 4) ∧ (1 ≤ T 5 ∧ T 5 ≤ hiV 5) ∧ (0 ≤ T 6 ∧ T 6 ≤ hiV 6) ∧ (0 ≤ T 7 ∧ T 7 ≤ hiV 7) ∧ (0 ≤ T 8 ∧ T 8 ≤ hiV 8) := ⟨h 0 (by decide), h 1 (by decide), h 2 (by decide), h 3 (by decide), h 4 (by decide), h 5 (by decide), h 6 (by decide), h 7 (by decide), h 8 (by decide)⟩
section
variable {d : Nat} {v : hV} {s s1 : hS} {n : Nat} {W : Nat → Int64} {T : Nat → Int}
theorem sp_of {t : Nat} (ht : kT t) {k : Nat} (hk : k < 9) (hT : tvC t s T) {K : Int32 → hS → Prop} (hK : ∀ r : Int32, r.toInt = T k → K r s) : pcI d 67 [.ref t, .int (nI k)] v s K := by
  have e : (nI k).toInt = k := nI_toInt (by omega)
  refine st_Tent_of ht ⟨fun c => absurd c (by omega), fun _ => ⟨fun _ => ⟨by omega, hK _ ?_⟩, fun c => absurd (by omega) c⟩⟩
  rw [e, Int.toNat_natCast]; exact hT k hk
theorem sp_open {t a : Nat} (ht : kT t) (ha : kA a) (hT : tvC t s T) (hc : cVec a s W) {K : Int32 → hS → Prop} (hK : ∀ r : Int32, r.toInt = opI T W → K r s) : pcI (d + 1) 66 [.ref a, .ref t] v s K := by
  have h26 : (rI s (a + 3) 0).toInt64 = W 26 := hc 26 (by decide)
  have h27 : (rI s (a + 3) 1).toInt64 = W 27 := hc 27 (by decide)
  have g26 : (rI s (a + 3) 0).toInt = (W 26).toInt := by rw [← h26, i_64]
  have g27 : (rI s (a + 3) 1).toInt = (W 27).toInt := by rw [← h27, i_64]
  have F : ∀ x : Int32, x.toInt = (opN W : Int) → pgI (d + 1) 66 4 [.ref a, .ref t, .int x, .int 2] [] v s K := by
    intro x hx
    refine st_Air_open_4 ht ha ⟨fun c => absurd c (by decide), fun _ => ⟨fun c => sp_of (k := 4) ht (by decide) hT (fun r hr => hK r ?_), fun c => hK x ?_⟩⟩
    · unfold opI; rw [if_pos (by omega)]; exact hr
    · unfold opI; rw [if_neg (by omega)]; exact hx
  refine st_Air_open ht ha (st_Air_open_4 ht ha ⟨fun _ => ⟨by decide, fun c => ?_, fun c => ?_⟩, fun c => absurd (by decide) c⟩)
  · have c : (rI s (a + 3) 0).toInt = 8 := c
    refine st_Air_open_4 ht ha ⟨fun _ => ⟨by decide, fun c2 => F _ ?_, fun c2 => F _ ?_⟩, fun c => absurd (by decide) c⟩
    · have c2 : (rI s (a + 3) 1).toInt = 8 := c2
      unfold opN; rw [if_pos (by omega), if_pos (by omega)]; rfl
    · have c2 : ¬ (rI s (a + 3) 1).toInt = 8 := c2
      unfold opN; rw [if_pos (by omega), if_neg (by omega)]; rfl
  · have c : ¬ (rI s (a + 3) 0).toInt = 8 := c
    refine st_Air_open_4 ht ha ⟨fun _ => ⟨by decide, fun c2 => F _ ?_, fun c2 => F _ ?_⟩, fun c => absurd (by decide) c⟩
    · have c2 : (rI s (a + 3) 1).toInt = 8 := c2
      unfold opN; rw [if_neg (by omega), if_pos (by omega)]; rfl
    · have c2 : ¬ (rI s (a + 3) 1).toInt = 8 := c2
      unfold opN; rw [if_neg (by omega), if_neg (by omega)]; rfl
theorem sm_open {X : Nat} (hX : X ≤ 96) (hT : tvM s T) (hm : mVec X s W) {K : Int64 → hS → Prop} (hK : ∀ r : Int64, r.toInt = opI T W → K r s) : pcL d 187 [.ref 145, .int (nI X)] v s K := by
  have F : ∀ (x : Int64) (z : Value), x.toInt = (opN W : Int) → pgL d 187 4 [.ref 145, .int (nI X), .long x, z, .int 2] [] v s K := by
    intro x z hx
    refine st_M_openOf_4 ⟨fun c => absurd c (by decide), fun _ => ⟨fun c => hK _ ?_, fun c => hK x ?_⟩⟩
    · rw [i_64]; unfold opI; rw [if_pos (by omega)]; exact hT 4 (by decide)
    · unfold opI; rw [if_neg (by omega)]; exact hx
  have p1 : ((nI X + 26) + 0).toInt.toNat = X + 26 ∧ 0 ≤ ((nI X + 26) + 0).toInt ∧ ((nI X + 26) + 0).toInt < 128 := by
    rw [show (26 : Int32) = nI 26 from rfl, show (0 : Int32) = nI 0 from rfl, nI_add, nI_add, nI_toInt (by omega)]; omega
  have p2 : ((nI X + 26) + 1).toInt.toNat = X + 27 ∧ 0 ≤ ((nI X + 26) + 1).toInt ∧ ((nI X + 26) + 1).toInt < 128 := by
    rw [show (26 : Int32) = nI 26 from rfl, show (1 : Int32) = nI 1 from rfl, nI_add, nI_add, nI_toInt (by omega)]; omega
  refine st_M_openOf (st_M_openOf_4 ⟨fun _ => ⟨p1.2, ?_⟩, fun c => absurd (by decide) c⟩)
  rw [p1.1, hm 26 (by decide)]
  refine ⟨fun c => st_M_openOf_4 ⟨fun _ => ⟨p2.2, ?_⟩, fun c => absurd (by decide) c⟩, fun c => st_M_openOf_4 ⟨fun _ => ⟨p2.2, ?_⟩, fun c => absurd (by decide) c⟩⟩
  · show (_ → _) ∧ _
    rw [show ((nI X + 26) + (0 + 1) : Int32) = (nI X + 26) + 1 from rfl, p2.1, hm 27 (by decide)]
    refine ⟨fun c2 => F _ _ ?_, fun c2 => F _ _ ?_⟩
    · unfold opN; rw [if_pos c, if_pos c2]; rfl
    · unfold opN; rw [if_pos c, if_neg c2]; rfl
  · show (_ → _) ∧ _
    rw [show ((nI X + 26) + (0 + 1) : Int32) = (nI X + 26) + 1 from rfl, p2.1, hm 27 (by decide)]
    refine ⟨fun c2 => F _ _ ?_, fun c2 => F _ _ ?_⟩
    · unfold opN; rw [if_neg c, if_pos c2]; rfl
    · unfold opN; rw [if_neg c, if_neg c2]; rfl
end
