/-! THE SIMPLE PAIRS: acts, the route, lived -/
/-- the class's method y, then the reference's z, answer alike; but for F nothing changes; Post holds behind both -/
def prI (F : Nat → Nat → Prop) (v : hV) (d y z : Nat) (as : List Value) (s : hS) (Post : hS → Prop) : Prop := pcI d y (.ref 48 :: as) v s (fun x s1 => Fr F s s1 ∧ pcI d z (.ref 145 :: as) v s1 (fun x2 s2 => x2 = x ∧ Fr F s1 s2 ∧ Post s2))
def prL (F : Nat → Nat → Prop) (v : hV) (d y z : Nat) (as : List Value) (s : hS) (Post : hS → Prop) : Prop := pcL d y (.ref 48 :: as) v s (fun x s1 => Fr F s s1 ∧ pcL d z (.ref 145 :: as) v s1 (fun x2 s2 => x2 = x ∧ Fr F s1 s2 ∧ Post s2))
/-- nothing changes at all, the answers are alike -/
theorem prI_id {F : Nat → Nat → Prop} {v : hV} {d y z : Nat} {as : List Value} {s : hS} {Post : hS → Prop} {x : Int32} (hy : ∀ K : Int32 → hS → Prop, K x s → pcI d y (.ref 48 :: as) v s K) (hz : ∀ K : Int32 → hS → Prop, K x s → pcI d z (.ref 145 :: as) v s K) (hp : Post s) : prI F v d y z as s Post :=
  hy _ ⟨Fr.rf F s, hz _ ⟨rfl, Fr.rf F s, hp⟩⟩
theorem prL_id {F : Nat → Nat → Prop} {v : hV} {d y z : Nat} {as : List Value} {s : hS} {Post : hS → Prop} {x : Int64} (hy : ∀ K : Int64 → hS → Prop, K x s → pcL d y (.ref 48 :: as) v s K) (hz : ∀ K : Int64 → hS → Prop, K x s → pcL d z (.ref 145 :: as) v s K) (hp : Post s) : prL F v d y z as s Post :=
  hy _ ⟨Fr.rf F s, hz _ ⟨rfl, Fr.rf F s, hp⟩⟩
/-- Model.in, asked for its bit -/
theorem sp_in {d : Nat} {v : hV} {s : hS} {x : Int32} {a b : Int64} {A B : hS → Prop} (h0 : ¬ (a.toInt ≤ x.toInt ∧ x.toInt ≤ b.toInt) → A s) (h1 : (a.toInt ≤ x.toInt ∧ x.toInt ≤ b.toInt) → B s) : pcI d 154 [.long x.toInt64, .long a, .long b] v s (fun w s1 => (w.toInt = 0 → A s1) ∧ (¬ w.toInt = 0 → B s1)) := by
  refine st_M_in ⟨fun c => ?_, fun c => ⟨fun c2 => ?_, fun c2 => ?_⟩⟩
  · rw [i_64] at c
    exact ⟨fun _ => h0 (by omega), fun z => absurd rfl z⟩
  · rw [i_64] at c2
    exact ⟨fun _ => h0 (by omega), fun z => absurd rfl z⟩
  · rw [i_64] at c c2
    exact ⟨fun z => absurd z (by decide), fun _ => h1 (by omega)⟩
theorem i_1 : Int32.toInt 1 = 1 := rfl
/-! acts -/
def fA (c k : Nat) : Prop := c = 112 ∨ c = 113 ∨ c = 114 ∨ c = 115 ∨ c = 116 ∨ (c = 145 ∧ k = 33) ∨ c = 165 ∨ c = 166 ∨ c = 167 ∨ c = 168 ∨ c = 169 ∨ c = 170
def pA (s : hS) : Prop := (rI s 112 4) = (rI s 145 33) ∧ (0 ≤ (rI s 145 33).toInt ∧ (rI s 145 33).toInt ≤ 8) ∧ ∀ k : Nat, (k : Int) < (rI s 145 33).toInt → ((rI s 113 k) = (rI s 165 k) ∧ 1 ≤ (rI s 165 k).toInt ∧ (rI s 165 k).toInt ≤ 30) ∧ ((rI s 114 k) = (rI s 166 k) ∧ 1 ≤ (rI s 166 k).toInt ∧ (rI s 166 k).toInt ≤ 2) ∧ ((rI s 115 k) = (rI s 167 k) ∧ 0 ≤ (rI s 167 k).toInt ∧ (rI s 167 k).toInt < 2 ^ k)
theorem th_clear {d : Nat} {v : hV} {s : hS} (h : pA s) : prI fA v (d + 1) 114 215 [] s pA := by
  obtain ⟨h1, h2, h3⟩ := h
  refine st_S_clear ⟨(Fr.rf _ s).sI (Or.inl rfl), st_M_clear ⟨?_, (Fr.rf _ _).sI (by unfold fA; simp), ?_⟩⟩
  · rw [h1]; rfl
  · unfold pA
    simp only [r_II, r_LL, r_LI, r_IL, r_IC, r_LC, r_ICL, r_LCI, Nat.reduceEqDiff, false_and, and_false, true_and, and_true, and_self, ↓reduceIte]
    exact ⟨⟨by decide, by decide⟩, fun k hk => absurd hk (by have : Int32.toInt 0 = 0 := rfl; omega)⟩
theorem sp_isUnknown {d : Nat} {v : hV} {s : hS} {x : Int32} {A B : hS → Prop} (h : 0 ≤ (rI s 112 4).toInt ∧ (rI s 112 4).toInt ≤ 8) (h0 : (0 ≤ x.toInt ∧ x.toInt < 2 ^ (rI s 112 4).toInt.toNat) → A s) (h1 : ¬ (0 ≤ x.toInt ∧ x.toInt < 2 ^ (rI s 112 4).toInt.toNat) → B s) : pcI d 112 [.ref 112, .int x] v s (fun w s1 => (w.toInt = 0 → A s1) ∧ (¬ w.toInt = 0 → B s1)) := by
  refine st_Acts_isUnknown ⟨fun c => ⟨fun z => absurd z (by decide), fun _ => h1 (by omega)⟩, fun c => ?_⟩
  have e := i_shr (x := x) (m := (rI s 112 4)) (by omega)
  have hp : (0 : Int) < 2 ^ (rI s 112 4).toInt.toNat := Int.pow_pos (by decide)
  rw [e]
  refine ⟨fun c2 => ⟨fun _ => h0 ⟨by omega, ?_⟩, fun z => absurd rfl z⟩, fun c2 => ⟨fun z => absurd z (by decide), fun _ => h1 (fun z => c2 (Int.ediv_eq_zero_of_lt z.1 z.2))⟩⟩
  have := Int.emod_add_mul_ediv x.toInt (2 ^ (rI s 112 4).toInt.toNat)
  have h5 := Int.emod_lt_of_pos x.toInt hp
  rw [c2] at this
  omega
theorem th_act {d : Nat} {v : hV} {s : hS} (h : pA s) (x1 x2 x3 : Int32) : prI fA v (d + 2) 111 214 [.int x1, .int x2, .int x3] s pA := by
  have hs := h
  obtain ⟨h1, h2, h3⟩ := h
  have hp : 2 ^ (rI s 145 33).toInt.toNat ≤ 2 ^ 8 := Nat.pow_le_pow_right (by decide) (by omega)
  have hp2 : ((2 ^ (rI s 145 33).toInt.toNat : Nat) : Int) = 2 ^ (rI s 145 33).toInt.toNat := Int.natCast_pow _ _
  have hp1 : 0 < 2 ^ (rI s 145 33).toInt.toNat := Nat.pow_pos (by decide)
  have e : (((1 : Int32) <<< ((rI s 145 33) &&& 31)) - 1).toInt64.toInt = 2 ^ (rI s 145 33).toInt.toNat - 1 := by
    have e1 := i_shl1 (m := (rI s 145 33)) (by omega)
    have e2 : Int32.toInt 1 = 1 := rfl
    rw [i_64, i_sub (by rw [e1, e2]; omega), e1, e2]
  refine st_S_act (sp_isUnknown (by rw [h1]; exact h2) (fun c => ?_) (fun c => ?_))
  · rw [h1] at c
    have R : ∀ (x : Int32) (s1 : hS), s1 = s → (∀ K : Int32 → hS → Prop, K x s → pcI (d + 2) 214 [.ref 145, .int x1, .int x2, .int x3] v s K) → (Fr fA s s1 ∧ pcI (d + 2) 214 [.ref 145, .int x1, .int x2, .int x3] v s1 (fun x2 s2 => x2 = x ∧ Fr fA s1 s2 ∧ pA s2)) := by
      rintro x s1 rfl hK
      exact ⟨Fr.rf _ _, hK _ ⟨rfl, Fr.rf _ _, hs⟩⟩
    have M0 : ∀ K : Int32 → hS → Prop, ¬ (1 ≤ x1.toInt ∧ x1.toInt ≤ 30 ∧ 1 ≤ x2.toInt ∧ x2.toInt ≤ 2) → K (-1000000002) s → pcI (d + 2) 214 [.ref 145, .int x1, .int x2, .int x3] v s K := by
      intro K hn hK
      refine st_M_act (sp_in (fun z => absurd z ?_) (fun _ => sp_in (fun _ => hK) (fun z1 => sp_in (fun _ => hK) (fun z2 => absurd ⟨z1.1, z1.2, z2.1, z2.2⟩ hn))))
      rw [e]
      have e0 : Int64.toInt 0 = 0 := rfl
      rw [e0]; omega
    refine ⟨fun c1 => R _ _ rfl (fun K hK => M0 K (by omega) hK), fun c1 => ⟨fun c2 => R _ _ rfl (fun K hK => M0 K (by omega) hK), fun c2 => ⟨fun c3 => R _ _ rfl (fun K hK => M0 K (by omega) hK), fun c3 => ⟨fun c4 => R _ _ rfl (fun K hK => M0 K (by omega) hK), fun c4 => ?_⟩⟩⟩⟩
    have M1 : ∀ K : Int32 → hS → Prop, ∀ s1 : hS, (rI s1 145 33) = (rI s 145 33) → (((rI s1 145 33).toInt = 8 → K (-1000000004) s1) ∧ (¬ (rI s1 145 33).toInt = 8 → K ((rI s1 145 33) + 1 - 1) (sI (sI (sI (sI s1 165 (rI s1 145 33).toInt.toNat x1) 166 (rI s1 145 33).toInt.toNat x2) 167 (rI s1 145 33).toInt.toNat x3) 145 33 ((rI s1 145 33) + 1)))) → pcI (d + 2) 214 [.ref 145, .int x1, .int x2, .int x3] v s1 K := by
      intro K s1 es hK
      rw [← es] at h2 e
      have e0 : Int64.toInt 0 = 0 := rfl
      have e1 : Int64.toInt 1 = 1 := rfl
      have e30 : Int64.toInt 30 = 30 := rfl
      have e2 : Int64.toInt 2 = 2 := rfl
      refine st_M_act (sp_in (fun z => absurd ?_ z) (fun _ => sp_in (fun z => absurd ?_ z) (fun _ => sp_in (fun z => absurd ?_ z) (fun _ => ⟨hK.1, fun c8 => ?_⟩))))
      · rw [e, e0, es]; omega
      · rw [e1, e30]; omega
      · rw [e1, e2]; omega
      · have hb : 0 ≤ (rI s1 145 33).toInt ∧ (rI s1 145 33).toInt < 8 := by omega
        exact ⟨hb, hb, hb, hK.2 c8⟩
    refine ⟨fun c5 => ?_, fun c5 => R _ _ rfl (fun K hK => M1 K s rfl ⟨fun _ => hK, fun z => absurd (show (rI s 145 33).toInt = 8 by rw [h1] at c5; omega) z⟩)⟩
    rw [h1] at c5
    have hb : 0 ≤ (rI s 112 4).toInt ∧ (rI s 112 4).toInt < 8 := by rw [h1]; omega
    refine st_Acts_add ⟨fun _ => ⟨hb, hb, hb, ?_⟩, fun z => absurd hb.2 z⟩
    refine ⟨((((Fr.rf _ s).sI (by unfold fA; simp)).sI (by unfold fA; simp)).sI (by unfold fA; simp)).sI (by unfold fA; simp), ?_⟩
    refine M1 _ _ (by simp [r_II]) ⟨fun z => absurd z (by simp only [r_II]; simp; omega), fun _ => ⟨?_, ((((Fr.rf _ _).sI (by unfold fA; simp)).sI (by unfold fA; simp)).sI (by unfold fA; simp)).sI (by unfold fA; simp), ?_⟩⟩
    · simp only [r_II]; simp [h1]
    · have ea : ((rI s 145 33) + 1).toInt = (rI s 145 33).toInt + 1 := i_add (by have := i_1; omega)
      unfold pA
      rw [h1]
      simp only [r_II, r_LL, r_LI, r_IL, r_IC, r_LC, r_ICL, r_LCI, Nat.reduceEqDiff, false_and, and_false, true_and, and_true, and_self, ↓reduceIte]
      rw [ea]
      refine ⟨⟨by omega, by omega⟩, fun k hk => ?_⟩
      by_cases hk2 : k = (rI s 145 33).toInt.toNat
      · subst hk2
        rw [if_pos rfl, if_pos rfl, if_pos rfl, if_pos rfl, if_pos rfl, if_pos rfl]
        exact ⟨⟨rfl, by omega⟩, ⟨rfl, by omega⟩, rfl, by omega⟩
      · rw [if_neg hk2, if_neg hk2, if_neg hk2, if_neg hk2, if_neg hk2, if_neg hk2]
        have := h3 k (by omega)
        obtain ⟨⟨a1, a2, a3⟩, ⟨b1, b2, b3⟩, c1, c2, c3⟩ := this
        exact ⟨⟨a1, a2, a3⟩, ⟨b1, b2, b3⟩, c1, c2, c3⟩
  · rw [h1] at c
    refine ⟨Fr.rf _ _, st_M_act (sp_in (fun _ => ⟨rfl, Fr.rf _ _, hs⟩) (fun z => absurd ?_ c))⟩
    rw [e] at z
    have e0 : Int64.toInt 0 = 0 := rfl
    rw [e0] at z; omega
