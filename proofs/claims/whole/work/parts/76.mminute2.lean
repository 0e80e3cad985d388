/-! A MINUTE, in the reference: cooling, the fire, all of it -/
def adU (U : Nat → Int64) (k : Nat) (y : Int64) (i : Nat) : Int64 := if i = k then U k + y else U i
section
variable {d : Nat} {v : hV} {s s1 : hS} {n : Nat} {T : Nat → Int} {W U : Nat → Int64}
theorem mVec_ad {X k : Nat} {y : Int64} (hm : mVec X s U) (hk : k < 22) : mVec X (sL s 146 (X + k) (rL s 146 (X + k) + y)) (adU U k y) ∧ Fr (fMn X) s (sL s 146 (X + k) (rL s 146 (X + k) + y)) := by
  refine ⟨fun i hi => ?_, ((Fr.rf (fMn X) s).sL ⟨rfl, by omega, by omega⟩)⟩
  rw [r_LL, hm k (by omega)]
  unfold adU
  by_cases a : i = k
  · rw [if_pos ⟨rfl, by omega⟩, if_pos a]
  · rw [if_neg (by omega), if_neg a, hm i hi]
/-- what stands behind j steps of cooling -/
def cooU (T : Nat → Int) (p q W : Nat → Int64) (j : Nat) : Nat → Int64 := twoU p (fun k => if k < j then q k - clG T q k else q k) (fun i => if i = 21 then lsS T q (W 21) j else W i)
theorem sm_cool {X : Nat} (hX : X ≤ 96) (hT : tvM s T) (ok : okT T) {p q : Nat → Int64} (hm : mVec X s (twoU p q W)) {z3 z4 z5 z6 : Value} {K : hS → Prop} (hK : ∀ s2, Fr (fMn X) s s2 → mVec X s2 (cooU T p q W 8) → ∀ z3 z4 z5 z6 : Value, pgV (d + 1) 183 73 [.ref 145, .int (nI X), .int (nI 8), z3, z4, z5, z6] [] v s2 K) : pgV (d + 1) 183 73 [.ref 145, .int (nI X), .int (nI 0), z3, z4, z5, z6] [] v s K := by
  have e2 : Int32.toInt 2 = 2 := rfl
  obtain ⟨b0, b1, b2, b3, _⟩ := okT_b ok
  have L : ∀ (m j : Nat) (s1 : hS) (z3 z4 z5 z6 : Value), j + m = 8 → Fr (fMn X) s s1 → mVec X s1 (cooU T p q W j) → pgV (d + 1) 183 73 [.ref 145, .int (nI X), .int (nI j), z3, z4, z5, z6] [] v s1 K := by
    intro m
    induction m with
    | zero =>
      intro j s1 z3 z4 z5 z6 hj hf hs
      have hj : j = 8 := by omega
      subst hj
      exact hK s1 hf hs _ _ _ _
    | succ m ih =>
      intro j s1 z3 z4 z5 z6 hj hf hs
      have k0 : (nI j).toInt = j := nI_toInt (by omega)
      have hT1 : tvM s1 T := tvM_fr hT hf (fun k _ => by unfold fMn; omega)
      have p1 : (nI X + 8 + nI j).toInt.toNat = X + (8 + j) ∧ 0 ≤ (nI X + 8 + nI j).toInt ∧ (nI X + 8 + nI j).toInt < 128 := by
        rw [show (8 : Int32) = nI 8 from rfl, nI_add, nI_add, nI_toInt (by omega)]; omega
      have p2 : (nI X + 21).toInt.toNat = X + 21 ∧ 0 ≤ (nI X + 21).toInt ∧ (nI X + 21).toInt < 128 := by
        rw [show (21 : Int32) = nI 21 from rfl, nI_add, nI_toInt (by omega)]; omega
      have eh : cooU T p q W j (8 + j) = q j := by
        unfold cooU twoU
        rw [if_neg (show ¬ 8 + j < 8 by omega), if_pos (show 8 + j < 16 by omega)]
        show (if 8 + j - 8 < j then _ else _) = _
        rw [if_neg (show ¬ 8 + j - 8 < j by omega), Nat.add_sub_cancel_left]
      have G : ∀ k : Int64, k = skQ T j → ∀ z3 z4 z5 z6 : Value, pgV (d + 1) 183 95 [.ref 145, .int (nI X), .int (nI j), z3, z4, z5, z6] [.long k] v s1 K := by
        intro k hk z3 z4 z5 z6
        have ev : rL s1 146 (X + (8 + j)) * k / 1000 = clG T q j := by rw [hs _ (by omega), eh, hk]; rfl
        refine st_M_minute_95 ⟨p1.2, p1.2, p1.2, p2.2, p2.2, ?_⟩
        rw [p1.1, p2.1, ev, nI_1]
        obtain ⟨m1, m2⟩ := mVec_st (f := 8 + j) (t := 21) (y := clG T q j) hs (by omega) (by omega) (by omega)
        refine ih (j + 1) _ _ _ _ _ (by omega) (hf.tr m2) (mVec_congr m1 (fun i hi => ?_))
        by_cases a : i = 21
        · rw [stU_t _ _ _ _ a, a]; rfl
        · by_cases b : i = 8 + j
          · rw [stU_f _ _ _ _ a b, eh, b]
            unfold cooU twoU
            rw [if_neg (show ¬ 8 + j < 8 by omega), if_pos (show 8 + j < 16 by omega)]
            show _ = (if 8 + j - 8 < j + 1 then q (8 + j - 8) - clG T q (8 + j - 8) else q (8 + j - 8))
            rw [if_pos (show 8 + j - 8 < j + 1 by omega), Nat.add_sub_cancel_left]
          · rw [stU_n _ _ _ _ a b]
            unfold cooU twoU
            by_cases c : i < 8
            · rw [if_pos c, if_pos c]
            · rw [if_neg c, if_neg c]
              by_cases c2 : i < 16
              · rw [if_pos c2, if_pos c2]
                show (if i - 8 < j then q (i - 8) - clG T q (i - 8) else q (i - 8)) = (if i - 8 < j + 1 then q (i - 8) - clG T q (i - 8) else q (i - 8))
                by_cases c3 : i - 8 < j
                · rw [if_pos c3, if_pos (show i - 8 < j + 1 by omega)]
                · rw [if_neg c3, if_neg (show ¬ i - 8 < j + 1 by omega)]
              · rw [if_neg c2, if_neg c2]
                show (if i = 21 then _ else _) = (if i = 21 then _ else _)
                rw [if_neg a, if_neg a]
      refine st_M_minute_73 ⟨fun _ => ⟨fun c => G _ ?_ _ _ _ _, fun c => G _ ?_ _ _ _ _⟩, fun z => absurd (by omega) z⟩
      · have t3 := hT1 3 (by decide)
        have t0 := hT1 0 (by decide)
        unfold skQ; rw [if_pos (by omega)]
        exact l_of (by rw [i_64, i_div (by omega) (by rw [e2]; decide), t3, e2])
      · have t3 := hT1 3 (by decide)
        have t0 := hT1 0 (by decide)
        unfold skQ; rw [if_neg (by omega)]
        exact l_of (by rw [i_64, t3])
  refine L 8 0 s _ _ _ _ rfl (Fr.rf _ _) (mVec_congr hm (fun i hi => ?_))
  unfold cooU twoU
  by_cases c : i < 8
  · rw [if_pos c, if_pos c]
  · rw [if_neg c, if_neg c]
    by_cases c2 : i < 16
    · rw [if_pos c2, if_pos c2]
      show _ = (if i - 8 < 0 then q (i - 8) - clG T q (i - 8) else q (i - 8))
      rw [if_neg (show ¬ i - 8 < 0 by omega)]
    · rw [if_neg c2, if_neg c2]
      show _ = (if i = 21 then W 21 else W i)
      by_cases a : i = 21
      · rw [if_pos a, a]
      · rw [if_neg a]
end
