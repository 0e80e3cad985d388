/-! A MINUTE, in the reference: blow, all of it -/
def fBl (X c k : Nat) : Prop := fMn X c k ∨ c = 156
theorem up_end {r : Nat → Int64} {c : Nat} {B L : Int64} : ∀ j, j < 8 → upR r c B L j = if j = 7 then upS r c B L 7 7 - upG r c B L 7 else upS r c B L 7 j := by
  intro j hj
  have e2 : upS r c B L 7 7 = r 7 + upG r c B L 6 := rfl
  rw [e2]
  by_cases a : j = 7
  · rw [if_pos a, a, ac1]; rfl
  · rw [if_neg a]; unfold upS; rw [if_pos (show j < 7 by omega)]
theorem dn_end0 {r : Nat → Int64} {c : Nat} {B L : Int64} (h0 : c = 0) : ∀ j, j < 8 → dnR r c B L j = if j = 0 then dnS r c B L 7 0 - dnF r c B L else dnS r c B L 7 j := by
  intro j hj
  unfold dnR
  by_cases a : j = 0
  · rw [if_pos a, if_pos a, if_pos h0]
    have : dnC r c B L = 0 := by unfold dnC; rw [if_pos h0]
    rw [this, Int64.sub_zero]
  · rw [if_neg a, if_neg a, if_neg (show ¬ j = c by omega)]
theorem dn_end1 {r : Nat → Int64} {c : Nat} {B L : Int64} (h0 : c ≠ 0) : ∀ j, j < 8 → dnR r c B L j = if j = 0 then (if (0 : Nat) = c then dnS r c B L 7 c - dnC r c B L else dnS r c B L 7 0) - dnF r c B L else (if j = c then dnS r c B L 7 c - dnC r c B L else dnS r c B L 7 j) := by
  intro j hj
  unfold dnR
  by_cases a : j = 0
  · rw [if_pos a, if_pos a, if_neg h0, if_neg (Ne.symm h0)]
  · rw [if_neg a, if_neg a]
    by_cases b : j = c
    · rw [if_pos b, if_pos b, b]
    · rw [if_neg b, if_neg b]
section
variable {d : Nat} {v : hV} {s s1 : hS} {n : Nat} {T : Nat → Int} {W U : Nat → Int64}
theorem sm_blow {X : Nat} (hX : X ≤ 96) (hT : tvM s T) (ok : okT T) (hm : mVec X s W) (ho : okA n W) {K : hS → Prop} (hK : ∀ s2, Fr (fBl X) s s2 → mVec X s2 (blW T W) → K s2) : pcV (d + 3) 184 [.ref 145, .int (nI X)] v s K := by
  have el100 : Int64.toInt 100 = 100 := rfl
  obtain ⟨b0, b1, _⟩ := okT_b ok
  have bd := drW_b T W
  refine st_M_blow (sm_draw hX hT hm ho (fun y hy => ?_))
  have C : ∀ (m j : Nat) (s1 : hS) (z3 z5 z6 z7 z8 z9 z10 : Value), j + m = 16 → Fr (fun c _ => c = 156) s s1 → (∀ k, k < j → rL s1 156 k = W k) → (∀ s0, Fr (fun c _ => c = 156) s s0 → (∀ k, k < 16 → rL s0 156 k = W k) → ∀ z3 z5 z7 z9 z10 : Value, pgV (d + 3) 184 42 [.ref 145, .int (nI X), .long y, z3, .long (flB (drW T W)), z5, .long (flL T (drW T W)), z7, .int (nI 0), z9, z10] [] v s0 K) → pgV (d + 3) 184 6 [.ref 145, .int (nI X), .long y, z3, .int (nI j), z5, z6, z7, z8, z9, z10] [] v s1 K := by
    intro m
    induction m with
    | zero =>
      intro j s1 z3 z5 z6 z7 z8 z9 z10 hj hf hs hn
      have hj : j = 16 := by omega
      subst hj
      have N := hn s1 hf hs
      have t1 : (rI s1 148 1).toInt64.toInt = T 1 := by rw [i_64, hf.i (by decide)]; exact hT 1 (by decide)
      refine st_M_blow_6 ⟨fun c => absurd c (by decide), fun _ => ⟨fun c => ?_, fun c => ?_⟩⟩
      · have hb := mulN (A := 400) (B := 100) (a := -drW T W) (b := T 1) (by omega) (by omega) b1.1 b1.2
        have n1 : (-y).toInt = -drW T W := by rw [Int64.toInt_neg, hy]; exact Int.bmod_eq_of_le (by omega) (by omega)
        have n2 : (-y * (rI s1 148 1).toInt64).toInt = -drW T W * T 1 := by rw [l_mul (by rw [n1, t1]; omega), n1, t1]
        have g1 : -y = flB (drW T W) := l_of (by rw [n1, if_pos (by omega)])
        have g2 : -y * (rI s1 148 1).toInt64 / 100 = flL T (drW T W) := l_of (by rw [l_div (by rw [n2]; omega) (by rw [el100]; decide), n2, el100, if_pos (by omega)])
        rw [g2, g1]; exact N _ _ _ _ _
      · have hb := mulN (A := 700) (B := 100) (a := drW T W) (b := T 1) (by omega) (by omega) b1.1 b1.2
        have n2 : (y * (rI s1 148 1).toInt64).toInt = drW T W * T 1 := by rw [l_mul (by rw [hy, t1]; omega), hy, t1]
        have g1 : y = flB (drW T W) := l_of (by rw [hy, if_neg (by omega)])
        have g2 : y * (rI s1 148 1).toInt64 / 100 = flL T (drW T W) := l_of (by rw [l_div (by rw [n2]; omega) (by rw [el100]; decide), n2, el100, if_neg (by omega)])
        have N2 := N (pm_cl z3) .null .null z9 z10
        rw [← g2, ← g1] at N2
        exact N2
    | succ m ih =>
      intro j s1 z3 z5 z6 z7 z8 z9 z10 hj hf hs hn
      have k0 : (nI j).toInt = j := nI_toInt (by omega)
      have k1 : (nI j).toInt.toNat = j := by omega
      have p1 : (nI X + nI j).toInt.toNat = X + j ∧ 0 ≤ (nI X + nI j).toInt ∧ (nI X + nI j).toInt < 128 := by
        rw [nI_add, nI_toInt (by omega)]; omega
      refine st_M_blow_6 ⟨fun _ => ⟨p1.2, by omega, ?_⟩, fun c => absurd (by omega) c⟩
      rw [p1.1, k1, hf.l (by decide), hm j (by omega), nI_1]
      refine ih (j + 1) _ _ _ _ _ _ _ _ (by omega) (hf.sL rfl) (fun k hk => ?_) hn
      rw [r_LL]
      by_cases a : k = j
      · rw [if_pos ⟨rfl, a⟩, a]
      · rw [if_neg (fun z => a z.2)]; exact hs k (by omega)
  refine C 16 0 s _ _ _ _ _ _ _ rfl (Fr.rf _ _) (fun k hk => absurd hk (Nat.not_lt_zero k)) (fun s0 f0 a0 z3 z5 z7 z9 z10 => ?_)
  have m0 : mVec X s0 W := fun i hi => by rw [f0.l (by decide)]; exact hm i hi
  have hT0 : tvM s0 T := tvM_fr hT f0 (fun k _ => by decide)
  have F : ∀ s2, Fr (fMn X) s0 s2 → Fr (fBl X) s s2 := fun s2 f => (f0.mo (fun c k z => Or.inr z)).tr (f.mo (fun c k z => Or.inl z))
  have A0 : ∀ s2, Fr (fMn X) s0 s2 → ∀ k, k < 16 → rL s2 156 k = W k := fun s2 f k hk => by rw [f.l (by unfold fMn; omega)]; exact a0 k hk
  have t0 : ∀ s2, Fr (fMn X) s0 s2 → (rI s2 148 0).toInt = T 0 := fun s2 f => tvM_fr hT0 f (fun k _ => by unfold fMn; omega) 0 (by decide)
  have c5 : (T 0).toNat ≤ 5 := by omega
  generalize hc : (T 0).toNat = c at *
  have hB : ∀ r : Nat → Int64, ∀ i, flR T (drW T W) r i = if drW T W < 0 then dnR r c (flB (drW T W)) (flL T (drW T W)) i else upR r c (flB (drW T W)) (flL T (drW T W)) i := fun r i => by unfold flR; rw [hc]
  have hO : ∀ r : Nat → Int64, flO T (drW T W) r = if drW T W < 0 then dnC r c (flB (drW T W)) (flL T (drW T W)) + dnF r c (flB (drW T W)) (flL T (drW T W)) else upG r c (flB (drW T W)) (flL T (drW T W)) 7 := fun r => by unfold flO; rw [hc]
  have Z : ∀ s2, Fr (fMn X) s0 s2 → ∀ W2 : Nat → Int64, mVec X s2 (twoU (flR T (drW T W) (fun k => W k)) (flR T (drW T W) (fun k => W (8 + k))) W2) → (∀ i, i < 29 → 16 ≤ i → W2 i = if i = 18 then W 18 + flO T (drW T W) (fun k => W k) else if i = 20 then W 20 + flO T (drW T W) (fun k => W (8 + k)) else W i) → K s2 := by
    intro s2 f W2 hm2 hW
    refine hK s2 (F s2 f) (mVec_congr hm2 (fun i hi => ?_))
    unfold twoU blW
    by_cases a : i < 8
    · rw [if_pos a, if_pos a]
    · rw [if_neg a, if_neg a]
      by_cases b : i < 16
      · rw [if_pos b, if_pos b]
      · rw [if_neg b, if_neg b, hW i hi (by omega)]
  generalize hBB : flB (drW T W) = B at *
  generalize hLL : flL T (drW T W) = L at *
  by_cases cD : drW T W < 0
  · have D : ∀ (m j : Nat) (s1 : hS) (z3 z5 z7 z9 z10 : Value), j + m = 7 → Fr (fMn X) s0 s1 → mVec X s1 (twoU (dnS (fun k => W k) c B L j) (dnS (fun k => W (8 + k)) c B L j) W) → pgV (d + 3) 184 42 [.ref 145, .int (nI X), .long y, z3, .long B, z5, .long L, z7, .int (nI j), z9, z10] [] v s1 K := by
      intro m
      induction m with
      | zero =>
        intro j s1 z3 z5 z7 z9 z10 hj hf hs
        have hj : j = 7 := by omega
        subst hj
        have t1 := t0 s1 hf
        refine st_M_blow_42 ⟨fun z => absurd z (by decide), fun _ => ⟨fun _ => ⟨fun c0 => ?_, fun c0 => ?_⟩, fun z => absurd (by omega) z⟩⟩
        · have c0 : c = 0 := by omega
          refine sm_part (f := 0) (g := fun k => 18 + 2 * k) hX (by decide) (Or.inr ⟨by decide, fun _ => rfl⟩) hs (A0 s1 hf) (fun s2 f2 m2 => ?_)
          have ey : ∀ r : Nat → Int64, r 0 * B / 1000 = dnF r c B L := fun r => by unfold dnF; rw [if_pos c0]
          refine Z s2 (hf.tr f2) (fun i => if i = 18 then W 18 + dnF (fun k => W k) c B L else if i = 20 then W 20 + dnF (fun k => W (8 + k)) c B L else W i) (mVec_congr m2 ?_) (fun i hi h16 => ?_)
          · refine out_st (by decide) (fun j hj => ?_) (fun j hj => ?_) (fun i hi h16 => ?_)
            · rw [hB, if_pos cD, dn_end0 c0 j hj, ← ey]
            · rw [hB, if_pos cD, dn_end0 c0 j hj, ← ey]
            · rw [← ey, ← ey]
          · have e0 : ∀ r : Nat → Int64, flO T (drW T W) r = dnF r c B L := fun r => by
              rw [hO, if_pos cD]; unfold dnC; rw [if_pos c0, Int64.zero_add]
            rw [e0, e0]
        · have c0 : c ≠ 0 := by omega
          have ec : rI s1 148 0 = nI c := i_inj (by rw [nI_toInt (by omega)]; omega)
          rw [ec]
          refine sm_part (f := c) (g := fun k => 18 + 2 * k) hX (by omega) (Or.inr ⟨by decide, fun _ => rfl⟩) hs (A0 s1 hf) (fun s2 f2 m2 => ?_)
          have ey : ∀ r : Nat → Int64, r c * (B - L) / 1000 = dnC r c B L := fun r => by unfold dnC; rw [if_neg c0]
          have ez : ∀ r : Nat → Int64, r 0 * L / 1000 = dnF r c B L := fun r => by unfold dnF; rw [if_neg c0]
          have m2b := mVec_congr m2 (out_st (W := W) (p := dnS (fun k => W k) c B L 7) (q := dnS (fun k => W (8 + k)) c B L 7) (p2 := fun j => if j = c then dnS (fun k => W k) c B L 7 c - dnC (fun k => W k) c B L else dnS (fun k => W k) c B L 7 j) (q2 := fun j => if j = c then dnS (fun k => W (8 + k)) c B L 7 c - dnC (fun k => W (8 + k)) c B L else dnS (fun k => W (8 + k)) c B L 7 j) (W2 := fun i => if i = 18 then W 18 + dnC (fun k => W k) c B L else if i = 20 then W 20 + dnC (fun k => W (8 + k)) c B L else W i) (by omega) (fun j hj => by rw [← ey]) (fun j hj => by rw [← ey]) (fun i hi h16 => by rw [← ey, ← ey]))
          refine sm_part (f := 0) (g := fun k => 18 + 2 * k) hX (by decide) (Or.inr ⟨by decide, fun _ => rfl⟩) m2b (A0 s2 (hf.tr f2)) (fun s3 f3 m3 => ?_)
          refine Z s3 ((hf.tr f2).tr f3) (fun i => if i = 18 then W 18 + flO T (drW T W) (fun k => W k) else if i = 20 then W 20 + flO T (drW T W) (fun k => W (8 + k)) else W i) (mVec_congr m3 ?_) (fun i hi h16 => rfl)
          refine out_st (by decide) (fun j hj => ?_) (fun j hj => ?_) (fun i hi h16 => ?_)
          · rw [hB, if_pos cD, dn_end1 c0 j hj, ← ez]
          · rw [hB, if_pos cD, dn_end1 c0 j hj, ← ez]
          · have e0 : ∀ r : Nat → Int64, ∀ x : Int64, x + flO T (drW T W) r = x + dnC r c B L + dnF r c B L := fun r x => by
              rw [hO, if_pos cD, Int64.add_assoc]
            rw [e0, e0, ← ez, ← ez]
            by_cases a : i = 18
            · rw [if_pos a, if_pos a]; rfl
            · rw [if_neg a, if_neg a]
              by_cases b : i = 20
              · rw [if_pos b, if_pos b]; rfl
              · rw [if_neg b, if_neg b, if_neg a, if_neg b]
      | succ m ih =>
        intro j s1 z3 z5 z7 z9 z10 hj hf hs
        have k0 : (nI j).toInt = j := nI_toInt (by omega)
        have t1 := t0 s1 hf
        have G : ∀ (q : Int64) (z3 z5 z7 z9 z10 : Value), (∀ r : Nat → Int64, r (j + 1) * q / 1000 = dnG r c B L j) → pcV (d + 2) 191 [.ref 145, .int (nI X), .int (nI (j + 1)), .int (nI j), .long q] v s1 (fun s2 => pgV (d + 3) 184 42 [.ref 145, .int (nI X), .long y, z3, .long B, z5, .long L, z7, .int (nI (j + 1)), z9, z10] [] v s2 K) := by
          intro q z3 z5 z7 z9 z10 hq
          refine sm_part (f := j + 1) (g := fun k => 8 * k + j) hX (by omega) (Or.inl ⟨j, by omega, rfl, by omega, fun _ => rfl⟩) hs (A0 s1 hf) (fun s2 f2 m2 => ?_)
          refine ih (j + 1) s2 _ _ _ _ _ (by omega) (hf.tr f2) (mVec_congr m2 ?_)
          refine two_st (by omega) (by omega) (by omega) (fun i hi => ?_) (fun i hi => ?_)
          · rw [dn_st (by omega) i hi, ← hq]
          · rw [dn_st (by omega) i hi, ← hq]
        refine st_M_blow_42 ⟨fun _ => ⟨fun c1 => ⟨fun _ => ?_, fun z => absurd (by omega) z⟩, fun c1 => ⟨fun _ => ?_, fun z => absurd (by omega) z⟩⟩, fun z => absurd (by omega) z⟩
        · rw [nI_1]; exact G L _ _ _ _ _ (fun r => by unfold dnG; rw [if_pos (by omega)])
        · rw [nI_1]; exact G B _ _ _ _ _ (fun r => by unfold dnG; rw [if_neg (by omega)])
    exact D 7 0 s0 _ _ _ _ _ rfl (Fr.rf _ _) (mVec_congr m0 (fun i hi => by
      unfold twoU dnS
      by_cases a : i < 8
      · rw [if_pos a, if_neg (by omega), if_neg (by omega)]
      · rw [if_neg a]
        by_cases b : i < 16
        · rw [if_pos b, if_neg (by omega), if_neg (by omega)]; congr 1; omega
        · rw [if_neg b]))
  · have D : ∀ (m j : Nat) (s1 : hS) (z3 z5 z7 z9 z10 : Value), j + m = 7 → Fr (fMn X) s0 s1 → mVec X s1 (twoU (upS (fun k => W k) c B L j) (upS (fun k => W (8 + k)) c B L j) W) → pgV (d + 3) 184 42 [.ref 145, .int (nI X), .long y, z3, .long B, z5, .long L, z7, .int (nI j), z9, z10] [] v s1 K := by
      intro m
      induction m with
      | zero =>
        intro j s1 z3 z5 z7 z9 z10 hj hf hs
        have hj : j = 7 := by omega
        subst hj
        refine st_M_blow_42 ⟨fun z => absurd z (by decide), fun _ => ⟨fun z => absurd (by omega) cD, fun _ => ?_⟩⟩
        refine sm_part (f := 7) (g := fun k => 18 + 2 * k) hX (by decide) (Or.inr ⟨by decide, fun _ => rfl⟩) hs (A0 s1 hf) (fun s2 f2 m2 => ?_)
        have ey : ∀ r : Nat → Int64, r 7 * B / 1000 = upG r c B L 7 := fun r => by unfold upG; rw [if_neg (by omega)]
        refine Z s2 (hf.tr f2) (fun i => if i = 18 then W 18 + upG (fun k => W k) c B L 7 else if i = 20 then W 20 + upG (fun k => W (8 + k)) c B L 7 else W i) (mVec_congr m2 ?_) (fun i hi h16 => by rw [hO, hO, if_neg cD, if_neg cD])
        refine out_st (by decide) (fun j hj => ?_) (fun j hj => ?_) (fun i hi h16 => ?_)
        · rw [hB, if_neg cD, up_end j hj, ← ey]
        · rw [hB, if_neg cD, up_end j hj, ← ey]
        · rw [← ey, ← ey]
      | succ m ih =>
        intro j s1 z3 z5 z7 z9 z10 hj hf hs
        have k0 : (nI j).toInt = j := nI_toInt (by omega)
        have t1 := t0 s1 hf
        have G : ∀ (q : Int64) (z3 z5 z7 z9 z10 : Value), (∀ r : Nat → Int64, r j * q / 1000 = upG r c B L j) → pcV (d + 2) 191 [.ref 145, .int (nI X), .int (nI j), .int (nI (j + 1)), .long q] v s1 (fun s2 => pgV (d + 3) 184 42 [.ref 145, .int (nI X), .long y, z3, .long B, z5, .long L, z7, .int (nI (j + 1)), z9, z10] [] v s2 K) := by
          intro q z3 z5 z7 z9 z10 hq
          refine sm_part (f := j) (g := fun k => 8 * k + (j + 1)) hX (by omega) (Or.inl ⟨j + 1, by omega, rfl, by omega, fun _ => rfl⟩) hs (A0 s1 hf) (fun s2 f2 m2 => ?_)
          refine ih (j + 1) s2 _ _ _ _ _ (by omega) (hf.tr f2) (mVec_congr m2 ?_)
          refine two_st (by omega) (by omega) (by omega) (fun i hi => ?_) (fun i hi => ?_)
          · rw [up_st (by omega) i hi, ← hq]
          · rw [up_st (by omega) i hi, ← hq]
        refine st_M_blow_42 ⟨fun _ => ⟨fun c1 => ⟨fun z => absurd (by omega) cD, fun _ => ?_⟩, fun c1 => ⟨fun z => absurd (by omega) cD, fun _ => ?_⟩⟩, fun z => absurd (by omega) z⟩
        · rw [nI_1]; exact G L _ _ _ _ _ (fun r => by unfold upG; rw [if_pos (by omega)])
        · rw [nI_1]; exact G B _ _ _ _ _ (fun r => by unfold upG; rw [if_neg (by omega)])
    exact D 7 0 s0 _ _ _ _ _ rfl (Fr.rf _ _) (mVec_congr m0 (fun i hi => by
      unfold twoU upS
      by_cases a : i < 8
      · rw [if_pos a, if_neg (by omega)]
        by_cases b : i = 0
        · rw [if_pos b, if_pos rfl, b]
        · rw [if_neg b]
      · rw [if_neg a]
        by_cases b : i < 16
        · rw [if_pos b, if_neg (by omega)]
          by_cases e : i - 8 = 0
          · rw [if_pos e, if_pos rfl]; congr 1; omega
          · rw [if_neg e]; congr 1; omega
        · rw [if_neg b]))
end
