/-! A MINUTE, in the reference: all of it -/
section
variable {d : Nat} {v : hV} {s s1 : hS} {n : Nat} {T : Nat → Int} {W U : Nat → Int64}
theorem bl_st {r : Nat → Int64} {m : Int64} (k : Nat) : ∀ j, blS r m (k + 1) j = if j = k + 1 then blS r m k (k + 1) + blG (blS r m k) m k else if j = k then blS r m k k - blG (blS r m k) m k else blS r m k j := fun _ => rfl
/-- one step for one row of the two -/
theorem one_st {p q W : Nat → Int64} {e f t : Nat} {y : Int64} (hf : f < 8) (ht : t < 8) (he : e < 2) : ∀ i, i < 29 → stU (twoU p q W) (8 * e + f) (8 * e + t) y i = twoU (if e = 0 then stU p f t y else p) (if e = 1 then stU q f t y else q) W i := by
  intro i hi
  have tp : ∀ {p q : Nat → Int64} (i : Nat), i < 8 → twoU p q W i = p i := fun i h => if_pos h
  have tq : ∀ {p q : Nat → Int64} (j : Nat), j < 8 → twoU p q W (8 + j) = q j := fun j h => by unfold twoU; rw [if_neg (show ¬ 8 + j < 8 by omega), if_pos (show 8 + j < 16 by omega), Nat.add_sub_cancel_left]
  have tw : ∀ {p q : Nat → Int64} (i : Nat), ¬ i < 16 → twoU p q W i = W i := fun i h => by unfold twoU; rw [if_neg (show ¬ i < 8 by omega), if_neg h]
  have : e = 0 ∨ e = 1 := by omega
  rcases this with rfl | rfl
  · rw [if_pos rfl, if_neg (by decide), show 8 * 0 + f = f by omega, show 8 * 0 + t = t by omega]
    by_cases c : i < 8
    · rw [tp i c]
      unfold stU
      rw [tp t ht, tp f hf, tp i c]
    · rw [stU_n _ _ _ _ (show i ≠ t by omega) (show i ≠ f by omega)]
      unfold twoU
      rw [if_neg c, if_neg c]
  · rw [if_neg (by decide), if_pos rfl, show 8 * 1 + f = 8 + f by omega, show 8 * 1 + t = 8 + t by omega]
    by_cases c : i < 8
    · rw [stU_n _ _ _ _ (show i ≠ 8 + t by omega) (show i ≠ 8 + f by omega), tp i c, tp i c]
    · by_cases c2 : i < 16
      · obtain ⟨j, hj, rfl⟩ : ∃ j, j < 8 ∧ i = 8 + j := ⟨i - 8, by omega, by omega⟩
        rw [tq j hj]
        by_cases a : j = t
        · rw [stU_t _ _ _ _ (show 8 + j = 8 + t by omega), stU_t _ _ _ _ a, tq t ht]
        · by_cases b : j = f
          · rw [stU_f _ _ _ _ (show 8 + j ≠ 8 + t by omega) (show 8 + j = 8 + f by omega), stU_f _ _ _ _ a b, tq f hf]
          · rw [stU_n _ _ _ _ (show 8 + j ≠ 8 + t by omega) (show 8 + j ≠ 8 + f by omega), stU_n _ _ _ _ a b, tq j hj]
      · rw [stU_n _ _ _ _ (show i ≠ 8 + t by omega) (show i ≠ 8 + f by omega), tw i c2, tw i c2]
/-- the blending loop of both rows -/
theorem sm_blend {X : Nat} (hX : X ≤ 96) (hT : tvM s T) {p q : Nat → Int64} (hm : mVec X s (twoU p q W)) {z3 z4 z5 z6 : Value} {K : hS → Prop} (hK : ∀ s2, Fr (fMn X) s s2 → mVec X s2 (twoU (blS p (Int64.ofInt (T 2)) 7) (blS q (Int64.ofInt (T 2)) 7) W) → ∀ z3 z4 z5 z6 : Value, pgV (d + 1) 183 73 [.ref 145, .int (nI X), .int (nI 0), z3, z4, z5, z6] [] v s2 K) : pgV (d + 1) 183 5 [.ref 145, .int (nI X), .int (nI 0), z3, z4, z5, z6] [] v s K := by
  have L : ∀ (m j : Nat) (s1 : hS) (z3 z4 z5 z6 : Value), j + m = 7 → Fr (fMn X) s s1 → mVec X s1 (twoU (blS p (Int64.ofInt (T 2)) j) (blS q (Int64.ofInt (T 2)) j) W) → pgV (d + 1) 183 5 [.ref 145, .int (nI X), .int (nI j), z3, z4, z5, z6] [] v s1 K := by
    intro m
    induction m with
    | zero =>
      intro j s1 z3 z4 z5 z6 hj hf hs
      have hj : j = 7 := by omega
      subst hj
      exact st_M_minute_5 ⟨fun c => absurd c (by decide), fun _ => hK s1 hf hs _ _ _ _⟩
    | succ m ih =>
      intro j s1 z3 z4 z5 z6 hj hf hs
      have k0 : (nI j).toInt = j := nI_toInt (by omega)
      have S : ∀ (e : Nat) (p q : Nat → Int64) (s1 : hS) (z4 z5 z6 : Value), e < 2 → Fr (fMn X) s s1 → mVec X s1 (twoU p q W) → (∀ s2, Fr (fMn X) s s2 → mVec X s2 (twoU (if e = 0 then stU p j (j + 1) (blG p (Int64.ofInt (T 2)) j) else p) (if e = 1 then stU q j (j + 1) (blG q (Int64.ofInt (T 2)) j) else q) W) → ∀ z4 z5 z6 : Value, pgV (d + 1) 183 10 [.ref 145, .int (nI X), .int (nI j), .int (nI (8 * (e + 1))), z4, z5, z6] [] v s2 K) → pgV (d + 1) 183 10 [.ref 145, .int (nI X), .int (nI j), .int (nI (8 * e)), z4, z5, z6] [] v s1 K := by
        intro e p q s1 z4 z5 z6 he hf hs hn
        have p1 : (nI X + nI (8 * e) + nI j).toInt.toNat = X + (8 * e + j) ∧ 0 ≤ (nI X + nI (8 * e) + nI j).toInt ∧ (nI X + nI (8 * e) + nI j).toInt < 128 := by
          rw [nI_add, nI_add, nI_toInt (by omega)]; omega
        have p2 : (nI X + nI (8 * e) + nI j + 1).toInt.toNat = X + (8 * e + (j + 1)) ∧ 0 ≤ (nI X + nI (8 * e) + nI j + 1).toInt ∧ (nI X + nI (8 * e) + nI j + 1).toInt < 128 := by
          rw [nI_add, nI_add, nI_1, nI_toInt (by omega)]; omega
        have g2 : (rI s1 148 2).toInt64 = Int64.ofInt (T 2) := l_of (by rw [i_64, hf.i (by unfold fMn; omega)]; exact hT 2 (by decide))
        have q8 : (nI (8 * e) + 8 : Int32) = nI (8 * (e + 1)) := by rw [show (8 : Int32) = nI 8 from rfl, nI_add]; rfl
        have ed : ∀ x : Nat, x < 8 → twoU p q W (8 * e + x) = if e = 0 then p x else q x := by
          intro x hx
          have : e = 0 ∨ e = 1 := by omega
          unfold twoU
          rcases this with rfl | rfl
          · rw [if_pos (show 8 * 0 + x < 8 by omega), if_pos rfl]; congr 1; omega
          · rw [if_neg (show ¬ 8 * 1 + x < 8 by omega), if_pos (show 8 * 1 + x < 16 by omega), if_neg (by decide)]; congr 1; omega
        have ev : (rL s1 146 (X + (8 * e + j)) - rL s1 146 (X + (8 * e + (j + 1)))) * Int64.ofInt (T 2) / 1000 = if e = 0 then blG p (Int64.ofInt (T 2)) j else blG q (Int64.ofInt (T 2)) j := by
          rw [hs _ (by omega), hs _ (by omega), ed j (by omega), ed (j + 1) (by omega)]
          by_cases e0 : e = 0
          · rw [if_pos e0, if_pos e0, if_pos e0]; rfl
          · rw [if_neg e0, if_neg e0, if_neg e0]; rfl
        refine st_M_minute_10 ⟨fun _ => ⟨p1.2, p2.2, p1.2, p1.2, p2.2, p2.2, ?_⟩, fun z => absurd (by rw [nI_toInt (by omega)]; omega) z⟩
        rw [p1.1, p2.1, g2, ev, q8]
        obtain ⟨m1, m2⟩ := mVec_st (f := 8 * e + j) (t := 8 * e + (j + 1)) (y := if e = 0 then blG p (Int64.ofInt (T 2)) j else blG q (Int64.ofInt (T 2)) j) hs (by omega) (by omega) (by omega)
        refine hn _ (hf.tr m2) (mVec_congr m1 (fun i hi => ?_)) _ _ _
        rw [one_st (by omega) (by omega) he i hi]
        have : e = 0 ∨ e = 1 := by omega
        rcases this with rfl | rfl <;> rfl
      refine st_M_minute_5 ⟨fun _ => ?_, fun z => absurd (by omega) z⟩
      refine S 0 _ _ s1 _ _ _ (by decide) hf hs (fun s2 f2 m2 z4 z5 z6 => S 1 _ _ s2 _ _ _ (by decide) f2 m2 (fun s3 f3 m3 z4 z5 z6 => st_M_minute_10 ⟨fun c => absurd c (by decide), fun _ => ?_⟩))
      rw [nI_1]
      refine ih (j + 1) s3 _ _ _ _ (by omega) f3 (mVec_congr m3 (fun i hi => ?_))
      rfl
  exact L 7 0 s _ _ _ _ rfl (Fr.rf _ _) hm
end
