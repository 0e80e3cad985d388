/-! A MINUTE, in the reference: all of it -/
section
variable {d : Nat} {v : hV} {s s1 : hS} {n : Nat} {T : Nat → Int} {W U : Nat → Int64}
def blW2 (T : Nat → Int) (W : Nat → Int64) (i : Nat) : Int64 := if i = 18 then W 18 + flO T (drW T W) (fun k => W k) else if i = 20 then W 20 + flO T (drW T W) (fun k => W (8 + k)) else W i
theorem mn_end : ∀ i, i < 29 → adU (adU (adU (adU (adU (adU (cooU T (mnS T W) (mnH T W) (blW2 T W) 8) 9 (waQ T W / 2)) 13 (waQ T W - waQ T W / 2)) 5 (smQ T W)) 17 (smQ T W)) 19 (waQ T W)) 16 1 i = mnW T W i := by
  intro i hi
  have : i = 0 ∨ i = 1 ∨ i = 2 ∨ i = 3 ∨ i = 4 ∨ i = 5 ∨ i = 6 ∨ i = 7 ∨ i = 8 ∨ i = 9 ∨ i = 10 ∨ i = 11 ∨ i = 12 ∨ i = 13 ∨ i = 14 ∨ i = 15 ∨ i = 16 ∨ i = 17 ∨ i = 18 ∨ i = 19 ∨ i = 20 ∨ i = 21 ∨ i = 22 ∨ i = 23 ∨ i = 24 ∨ i = 25 ∨ i = 26 ∨ i = 27 ∨ i = 28 := by omega
  rcases this with rfl | rfl | rfl | rfl | rfl | rfl | rfl | rfl | rfl | rfl | rfl | rfl | rfl | rfl | rfl | rfl | rfl | rfl | rfl | rfl | rfl | rfl | rfl | rfl | rfl | rfl | rfl | rfl | rfl <;> rfl
theorem sm_minute {X : Nat} (hX : X ≤ 96) (hT : tvM s T) (ok : okT T) (hm : mVec X s W) (ho : okA n W) {K : hS → Prop} (hK : ∀ s2, Fr (fBl X) s s2 → mVec X s2 (mnW T W) → K s2) : pcV (d + 4) 183 [.ref 145, .int (nI X)] v s K := by
  have el1 : Int64.toInt 1 = 1 := rfl
  refine st_M_minute (sm_blow hX hT ok hm ho (fun s1 f1 m1 => ?_))
  have hT1 : tvM s1 T := tvM_fr hT f1 (fun k _ => by unfold fBl fMn; omega)
  have m1b : mVec X s1 (twoU (flR T (drW T W) (fun k => W k)) (flR T (drW T W) (fun k => W (8 + k))) (blW2 T W)) := mVec_congr m1 (fun i _ => rfl)
  refine sm_blend hX hT1 m1b (fun s2 f2 m2 z3 z4 z5 z6 => ?_)
  have hT2 : tvM s2 T := tvM_fr hT1 f2 (fun k _ => by unfold fMn; omega)
  refine sm_cool (p := mnS T W) (q := mnH T W) (W := blW2 T W) hX hT2 ok m2 (fun s3 f3 m3 z3 z4 z5 z6 => ?_)
  have hT3 : tvM s3 T := tvM_fr hT2 f3 (fun k _ => by unfold fMn; omega)
  have F3 : Fr (fBl X) s s3 := (f1.tr (f2.mo (W' := fBl X) (fun c k z => Or.inl z))).tr (f3.mo (W' := fBl X) (fun c k z => Or.inl z))
  have w22 : rL s3 146 (X + 22) = W 22 := m3 22 (by decide)
  have w25 : rL s3 146 (X + 25) = W 25 := m3 25 (by decide)
  have g5 : (rI s3 148 5).toInt64 = Int64.ofInt (T 5) := l_of (by rw [i_64]; exact hT3 5 (by decide))
  have g6 : (rI s3 148 6).toInt64 = Int64.ofInt (T 6) := l_of (by rw [i_64]; exact hT3 6 (by decide))
  have P : ∀ c : Nat, c < 29 → (nI X + nI c).toInt.toNat = X + c ∧ 0 ≤ (nI X + nI c).toInt ∧ (nI X + nI c).toInt < 128 := fun c hc => by
    rw [nI_add, nI_toInt (by omega)]; omega
  have P8 : ∀ c : Nat, c < 9 → (nI X + 8 + nI c).toInt.toNat = X + (8 + c) ∧ 0 ≤ (nI X + 8 + nI c).toInt ∧ (nI X + 8 + nI c).toInt < 128 := fun c hc => by
    rw [show (8 : Int32) = nI 8 from rfl, nI_add, nI_add, nI_toInt (by omega)]; omega
  have p22 : (nI X + 22).toInt.toNat = X + 22 ∧ 0 ≤ (nI X + 22).toInt ∧ (nI X + 22).toInt < 128 := P 22 (by decide)
  have p25 : (nI X + 25).toInt.toNat = X + 25 ∧ 0 ≤ (nI X + 25).toInt ∧ (nI X + 25).toInt < 128 := P 25 (by decide)
  have p9 : (nI X + 8 + 1).toInt.toNat = X + 9 ∧ 0 ≤ (nI X + 8 + 1).toInt ∧ (nI X + 8 + 1).toInt < 128 := P8 1 (by decide)
  have p13 : (nI X + 8 + 5).toInt.toNat = X + 13 ∧ 0 ≤ (nI X + 8 + 5).toInt ∧ (nI X + 8 + 5).toInt < 128 := P8 5 (by decide)
  have p5 : (nI X + 5).toInt.toNat = X + 5 ∧ 0 ≤ (nI X + 5).toInt ∧ (nI X + 5).toInt < 128 := P 5 (by decide)
  have p17 : (nI X + 17).toInt.toNat = X + 17 ∧ 0 ≤ (nI X + 17).toInt ∧ (nI X + 17).toInt < 128 := P 17 (by decide)
  have p19 : (nI X + 19).toInt.toNat = X + 19 ∧ 0 ≤ (nI X + 19).toInt ∧ (nI X + 19).toInt < 128 := P 19 (by decide)
  have p16 : (nI X + 16).toInt.toNat = X + 16 ∧ 0 ≤ (nI X + 16).toInt ∧ (nI X + 16).toInt < 128 := P 16 (by decide)
  have G : ∀ k : Int64, W 22 * Int64.ofInt (T 6) * k = smQ T W → ∀ z3 z4 z5 z6 : Value, pgV (d + 4) 183 170 [.ref 145, .int (nI X), .long (waQ T W), z3, z4, z5, z6] [.long k, .long (W 22 * Int64.ofInt (T 6))] v s3 K := by
    intro k hk z3 z4 z5 z6
    refine st_M_minute_170 ⟨p9.2, p9.2, p13.2, p13.2, p5.2, p5.2, p17.2, p17.2, p19.2, p19.2, p16.2, p16.2, ?_⟩
    rw [p9.1, p13.1, p5.1, p17.1, p19.1, p16.1, hk]
    obtain ⟨a1, b1⟩ := mVec_ad (k := 9) (y := waQ T W / 2) m3 (by decide)
    obtain ⟨a2, b2⟩ := mVec_ad (k := 13) (y := waQ T W - waQ T W / 2) a1 (by decide)
    obtain ⟨a3, b3⟩ := mVec_ad (k := 5) (y := smQ T W) a2 (by decide)
    obtain ⟨a4, b4⟩ := mVec_ad (k := 17) (y := smQ T W) a3 (by decide)
    obtain ⟨a5, b5⟩ := mVec_ad (k := 19) (y := waQ T W) a4 (by decide)
    obtain ⟨a6, b6⟩ := mVec_ad (k := 16) (y := 1) a5 (by decide)
    exact hK _ (F3.tr ((((((b1.tr b2).tr b3).tr b4).tr b5).tr b6).mo (fun c k z => Or.inl z))) (mVec_congr a6 mn_end)
  refine st_M_minute_73 ⟨fun z => absurd z (by decide), fun _ => ⟨p22.2, p22.2, p25.2, ?_⟩⟩
  rw [p22.1, p25.1, w22, w25, g5, g6]
  refine ⟨fun c => G 2 ?_ _ _ _ _, fun c => G 1 ?_ _ _ _ _⟩
  · unfold smQ; rw [if_pos (by omega)]
  · unfold smQ; rw [if_neg (by omega)]
end
