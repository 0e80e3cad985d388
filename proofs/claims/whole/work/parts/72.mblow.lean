/-! A MINUTE, in the reference: part -/
def stU (U : Nat → Int64) (f t : Nat) (y : Int64) (i : Nat) : Int64 := if i = t then U t + y else if i = f then U f - y else U i
def fMn (X c k : Nat) : Prop := c = 146 ∧ X ≤ k ∧ k < X + 22
section
variable {d : Nat} {v : hV} {s s1 : hS} {n : Nat} {T : Nat → Int} {W U : Nat → Int64}
theorem ac1 (a b c : Int64) : a + b - c = a - c + b := by
  rw [Int64.sub_eq_add_neg, Int64.sub_eq_add_neg, Int64.add_assoc, Int64.add_comm b, ← Int64.add_assoc]
theorem mVec_st {X f t : Nat} {y : Int64} (hm : mVec X s U) (hft : f ≠ t) (hf : f < 22) (ht : t < 22) : mVec X (sL (sL s 146 (X + f) (rL s 146 (X + f) - y)) 146 (X + t) (rL (sL s 146 (X + f) (rL s 146 (X + f) - y)) 146 (X + t) + y)) (stU U f t y) ∧ Fr (fMn X) s (sL (sL s 146 (X + f) (rL s 146 (X + f) - y)) 146 (X + t) (rL (sL s 146 (X + f) (rL s 146 (X + f) - y)) 146 (X + t) + y)) := by
  refine ⟨fun i hi => ?_, (((Fr.rf (fMn X) s).sL ⟨rfl, by omega, by omega⟩).sL ⟨rfl, by omega, by omega⟩)⟩
  rw [r_LL, r_LL, r_LL, if_neg (show ¬ (146 = 146 ∧ X + t = X + f) by omega), hm t (by omega), hm f (by omega)]
  unfold stU
  by_cases a : i = t
  · rw [if_pos ⟨rfl, by omega⟩, if_pos a]
  · rw [if_neg (by omega), if_neg a]
    by_cases b : i = f
    · rw [if_pos ⟨rfl, by omega⟩, if_pos b]
    · rw [if_neg (by omega), if_neg b, hm i hi]
theorem sm_part {X f : Nat} (hX : X ≤ 96) {A : Nat → Int64} {q : Int64} {x3 : Int32} {g : Nat → Nat} (hf : f < 8) (hg : (∃ t, t < 8 ∧ x3 = nI t ∧ t ≠ f ∧ ∀ k, g k = 8 * k + t) ∨ (x3.toInt < 0 ∧ ∀ k, g k = 18 + 2 * k)) (hm : mVec X s U) (hA : ∀ k, k < 16 → rL s 156 k = A k) {K : hS → Prop} (hK : ∀ s2, Fr (fMn X) s s2 → mVec X s2 (stU (stU U f (g 0) (A f * q / 1000)) (8 + f) (g 1) (A (8 + f) * q / 1000)) → K s2) : pcV d 191 [.ref 145, .int (nI X), .int (nI f), .int x3, .long q] v s K := by
  have S : ∀ (k : Nat) (U1 : Nat → Int64) (s1 : hS) (z5 z7 z8 : Value), k < 2 → mVec X s1 U1 → Fr (fMn X) s s1 → (∀ s2, ∀ z5 z7 z8 : Value, mVec X s2 (stU U1 (8 * k + f) (g k) (A (8 * k + f) * q / 1000)) → Fr (fMn X) s s2 → pgV d 191 2 [.ref 145, .int (nI X), .int (nI f), .int x3, .long q, z5, .int (nI (k + 1)), z7, z8] [] v s2 K) → pgV d 191 2 [.ref 145, .int (nI X), .int (nI f), .int x3, .long q, z5, .int (nI k), z7, z8] [] v s1 K := by
    intro k U1 s1 z5 z7 z8 hk hm1 hf1 hn
    have k8 : (8 * nI k : Int32) = nI (8 * k) := by
      have : k = 0 ∨ k = 1 := by omega
      rcases this with rfl | rfl <;> rfl
    have ik : (nI k).toInt = k := nI_toInt (by omega)
    have p1 : (nI (8 * k) + nI f).toInt.toNat = 8 * k + f ∧ 0 ≤ (nI (8 * k) + nI f).toInt ∧ (nI (8 * k) + nI f).toInt < 16 := by
      rw [nI_add, nI_toInt (by omega)]; omega
    have p2 : ((nI X + nI (8 * k)) + nI f).toInt.toNat = X + (8 * k + f) ∧ 0 ≤ ((nI X + nI (8 * k)) + nI f).toInt ∧ ((nI X + nI (8 * k)) + nI f).toInt < 128 := by
      rw [nI_add, nI_add, nI_toInt (by omega)]; omega
    have q18 : (nI X + 18).toInt.toNat = X + 18 ∧ 0 ≤ (nI X + 18).toInt ∧ (nI X + 18).toInt < 128 := by
      rw [show (18 : Int32) = nI 18 from rfl, nI_add, nI_toInt (by omega)]; omega
    have q20 : (nI X + 20).toInt.toNat = X + 20 ∧ 0 ≤ (nI X + 20).toInt ∧ (nI X + 20).toInt < 128 := by
      rw [show (20 : Int32) = nI 20 from rfl, nI_add, nI_toInt (by omega)]; omega
    have hgk : g k < 22 ∧ 8 * k + f ≠ g k := by
      rcases hg with ⟨t, t1, t2, t3, t4⟩ | ⟨t1, t2⟩
      · rw [t4]; omega
      · rw [t2]; omega
    obtain ⟨m1, m2⟩ := mVec_st (y := A (8 * k + f) * q / 1000) hm1 hgk.2 (by omega) hgk.1
    have hA1 : rL s1 156 (8 * k + f) = A (8 * k + f) := by rw [hf1.l (by unfold fMn; omega)]; exact hA _ (by omega)
    have N := fun z5 z7 z8 => hn _ z5 z7 z8 m1 (hf1.tr m2)
    refine st_M_part_2 ⟨fun _ => ?_, fun z => absurd (by omega) z⟩
    rw [k8, p1.1, p2.1, hA1, nI_1]
    refine ⟨p1.2, p2.2, p2.2, fun c => ⟨fun c2 => ⟨q18.2, q18.2, ?_⟩, fun c2 => ⟨q20.2, q20.2, ?_⟩⟩, fun c => ?_⟩
    · rcases hg with ⟨t, t1, t2, t3, t4⟩ | ⟨t1, t2⟩
      · rw [t2, nI_toInt (by omega)] at c; omega
      · have gk : g k = 18 := by rw [t2]; omega
        rw [gk] at N
        rw [q18.1]; exact N _ _ _
    · rcases hg with ⟨t, t1, t2, t3, t4⟩ | ⟨t1, t2⟩
      · rw [t2, nI_toInt (by omega)] at c; omega
      · have gk : g k = 20 := by rw [t2]; omega
        rw [gk] at N
        rw [q20.1]; exact N _ _ _
    · rcases hg with ⟨t, t1, t2, t3, t4⟩ | ⟨t1, t2⟩
      · have p3 : ((nI X + nI (8 * k)) + x3).toInt.toNat = X + (8 * k + t) ∧ 0 ≤ ((nI X + nI (8 * k)) + x3).toInt ∧ ((nI X + nI (8 * k)) + x3).toInt < 128 := by
          rw [t2, nI_add, nI_add, nI_toInt (by omega)]; omega
        rw [t4] at N
        refine ⟨p3.2, p3.2, ?_⟩
        rw [p3.1]; exact N _ _ _
      · omega
  refine st_M_part (S 0 U s _ _ _ (by decide) hm (Fr.rf _ _) (fun s2 z5 z7 z8 m2 f2 => S 1 _ s2 _ _ _ (by decide) m2 f2 (fun s3 z5 z7 z8 m3 f3 => st_M_part_2 ⟨fun c => absurd c (by decide), fun _ => hK s3 f3 ?_⟩)))
  have e0 : 8 * 0 + f = f := by omega
  have e1 : 8 * 1 + f = 8 + f := by omega
  rw [e0, e1] at m3
  exact m3
end
