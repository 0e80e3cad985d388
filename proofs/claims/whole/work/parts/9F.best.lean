/-! THE BEST SET: what matters of the air; how much HEAT there can be -/
def rEq (r r2 : Nat → Int64) : Prop := ∀ i, i < 8 → r i = r2 i
theorem upR_cg {r r2 : Nat → Int64} {c : Nat} {B L : Int64} (h : rEq r r2) : rEq (upR r c B L) (upR r2 c B L) := by
  intro i hi
  have h0 := h 0 (by decide)
  have g : ∀ k, k < 8 → upG r c B L k = upG r2 c B L k := fun k hk => by unfold upG; rw [h k hk]
  unfold upR
  rw [h0, g 0 (by decide), h i hi, g i hi, g (i - 1) (by omega)]
theorem dnR_cg {r r2 : Nat → Int64} {c : Nat} {B L : Int64} (hc : c < 8) (h : rEq r r2) : rEq (dnR r c B L) (dnR r2 c B L) := by
  intro i hi
  have g : ∀ k, k < 7 → dnG r c B L k = dnG r2 c B L k := fun k hk => by unfold dnG; rw [h (k + 1) (by omega)]
  have e1 : dnC r c B L = dnC r2 c B L := by unfold dnC; rw [h c hc]
  have e2 : dnF r c B L = dnF r2 c B L := by unfold dnF; rw [h 0 (by decide)]
  have e3 : ∀ i, i < 8 → dnS r c B L 7 i = dnS r2 c B L 7 i := by
    intro i hi
    unfold dnS
    by_cases c1 : i < 7
    · rw [if_pos c1, if_pos c1]
      by_cases c2 : i = 0
      · rw [if_pos c2, if_pos c2, h 0 (by decide), g 0 (by decide)]
      · rw [if_neg c2, if_neg c2, h i hi, g (i - 1) (by omega), g i c1]
    · rw [if_neg c1, if_neg c1, h i hi, g (i - 1) (by omega)]
  unfold dnR
  rw [e1, e2, e3 0 (by decide), e3 i hi]
theorem blS_cg {r r2 : Nat → Int64} {m : Int64} (h : rEq r r2) : ∀ k, k ≤ 7 → rEq (blS r m k) (blS r2 m k) := by
  intro k
  induction k with
  | zero => intro _; exact h
  | succ k ih =>
    intro hk i hi
    have u := ih (by omega)
    have g : blG (blS r m k) m k = blG (blS r2 m k) m k := by unfold blG; rw [u k (by omega), u (k + 1) (by omega)]
    show (if i = k + 1 then blS r m k (k + 1) + blG (blS r m k) m k else if i = k then blS r m k k - blG (blS r m k) m k else blS r m k i) = (if i = k + 1 then blS r2 m k (k + 1) + blG (blS r2 m k) m k else if i = k then blS r2 m k k - blG (blS r2 m k) m k else blS r2 m k i)
    rw [g, u k (by omega), u (k + 1) (by omega), u i hi]
theorem flR_cg {T : Nat → Int} {D : Int} {r r2 : Nat → Int64} (ok : okT T) (h : rEq r r2) : rEq (flR T D r) (flR T D r2) := by
  intro i hi
  have hT := (okT_b ok).1
  unfold flR
  split
  · exact dnR_cg (by omega) h i hi
  · exact upR_cg h i hi
/-- alike in what a MINUTE looks at, but for what is counted and the seed -/
def simW (T : Nat → Int) (W V : Nat → Int64) : Prop := (∀ i, i < 16 → W i = V i) ∧ W 22 = V 22 ∧ W 25 = V 25 ∧ lfW W = lfW V ∧ opI T W = opI T V
theorem simW_dr {T : Nat → Int} {W V : Nat → Int64} (h : simW T W V) : drW T W = drW T V := by
  have e : ∀ k, k ≤ 8 → wsm W k = wsm V k := by
    intro k
    induction k with
    | zero => intro _; rfl
    | succ k ih => intro hk; show wsm W k + W (8 + k) / 20 = wsm V k + V (8 + k) / 20; rw [ih (by omega), h.1 _ (by omega)]
  have er : rawW T W = rawW T V := by unfold rawW; rw [e 8 (Nat.le_refl _), h.2.2.2.1, h.2.2.2.2]
  unfold drW; rw [er]
theorem simW_mn {T : Nat → Int} {W V : Nat → Int64} (ok : okT T) (h : simW T W V) : simW T (mnW T W) (mnW T V) := by
  have ed := simW_dr h
  have eS : rEq (mnS T W) (mnS T V) := by
    unfold mnS; rw [ed]
    exact blS_cg (flR_cg ok (fun i hi => h.1 i (by omega))) 7 (Nat.le_refl _)
  have eH : rEq (mnH T W) (mnH T V) := by
    unfold mnH; rw [ed]
    exact blS_cg (flR_cg ok (fun i hi => h.1 (8 + i) (by omega))) 7 (Nat.le_refl _)
  have ew : waQ T W = waQ T V := by unfold waQ; rw [h.2.1]
  have es : smQ T W = smQ T V := by unfold smQ; rw [h.2.1, h.2.2.1]
  have ec : ∀ k, k < 8 → mnH T W k - clG T (mnH T W) k = mnH T V k - clG T (mnH T V) k := fun k hk => by unfold clG; rw [eH k hk]
  refine ⟨fun i hi => ?_, h.2.1, h.2.2.1, h.2.2.2.1, h.2.2.2.2⟩
  unfold mnW
  by_cases c : i < 8
  · rw [if_pos c, if_pos c]; unfold buS; rw [es, eS 5 (by decide), eS i c]
  · rw [if_neg c, if_neg c, if_pos hi, if_pos hi]
    unfold buH
    rw [ew]
    simp only []
    rw [ec 5 (by decide), ec 1 (by decide), ec (i - 8) (by omega)]
theorem simW_it {T : Nat → Int} {W V : Nat → Int64} (ok : okT T) (h : simW T W V) : ∀ k, simW T (itW T W k) (itW T V k) := by
  intro k
  induction k with
  | zero => exact h
  | succ k ih => exact simW_mn ok ih
theorem simW_lw {T : Nat → Int} {W V : Nat → Int64} (h : simW T W V) : lwW T W = lwW T V ∧ wm W = wm V := by
  have e : ∀ j i, i + j ≤ 8 → lwF T W j i = lwF T V j i := by
    intro j
    induction j with
    | zero => intro i _; rfl
    | succ j ih => intro i hi; unfold lwF; rw [h.1 i (by omega), ih (i + 1) (by omega)]
  exact ⟨e 8 0 (by decide), by unfold wm; rw [h.1 9 (by decide)]⟩
/-- no more HEAT than the fire gave -/
theorem heat_mn {T : Nat → Int} {W : Nat → Int64} {M : Int} (ok : okT T) (h : rOK M (fun k => W (8 + k))) (h22 : 0 ≤ (W 22).toInt ∧ (W 22).toInt ≤ 9) (hM : M + (W 22).toInt * T 5 ≤ 1000000000000) : rOK (M + (W 22).toInt * T 5) (fun k => mnW T W (8 + k)) := by
  have el2 : Int64.toInt 2 = 2 := rfl
  obtain ⟨b0, b1, b2, b3, b4, b5, _⟩ := okT_b ok
  have b5 : 1 ≤ T 5 ∧ T 5 ≤ 999 := b5
  have bd := drW_b T W
  have hb := mulN (A := 700) (B := 100) (a := if drW T W < 0 then -drW T W else drW T W) (b := T 1) (by split <;> omega) (by split <;> omega) b1.1 b1.2
  have gB : (flB (drW T W)).toInt = if drW T W < 0 then -drW T W else drW T W := o_i (by split <;> omega)
  have gL : (flL T (drW T W)).toInt = (if drW T W < 0 then -drW T W else drW T W) * T 1 / 100 := o_i (by omega)
  have hB : 0 ≤ (flB (drW T W)).toInt ∧ (flB (drW T W)).toInt ≤ 1000 := by rw [gB]; split <;> omega
  have hL : 0 ≤ (flL T (drW T W)).toInt ∧ (flL T (drW T W)).toInt ≤ (flB (drW T W)).toInt := by
    rw [gL, gB]
    rw [gB] at hB
    generalize hx : (if drW T W < 0 then -drW T W else drW T W) = x at *
    have : x * T 1 ≤ x * 100 := Int.mul_le_mul_of_nonneg_left b1.2 hB.1
    omega
  have r1 : rOK M (flR T (drW T W) (fun k => W (8 + k))) := by
    by_cases c : drW T W < 0
    · have e : flR T (drW T W) (fun k => W (8 + k)) = dnR (fun k => W (8 + k)) (T 0).toNat (flB (drW T W)) (flL T (drW T W)) := by
        funext i; unfold flR; rw [if_pos c]
      rw [e]; exact dnR_ok h (by omega) hB hL
    · have e : flR T (drW T W) (fun k => W (8 + k)) = upR (fun k => W (8 + k)) (T 0).toNat (flB (drW T W)) (flL T (drW T W)) := by
        funext i; unfold flR; rw [if_neg c]
      rw [e]; exact upR_ok h hB (by omega)
  have r2 : rOK M (mnH T W) := bl_ok r1 (by rw [o_i (by omega)]; omega) 7 (by decide)
  have r3 := cl_ok r2 ok
  have hl := rOK_le r3
  have hw := mulN (A := 9) (B := 999) h22.1 h22.2 (show 0 ≤ T 5 by omega) b5.2
  have wa : (waQ T W).toInt = (W 22).toInt * T 5 := by
    unfold waQ
    rw [l_mul (by rw [o_i (by omega)]; omega), o_i (by omega)]
  have w2 : (waQ T W / 2).toInt = (W 22).toInt * T 5 / 2 := by rw [l_div (by omega) (by rw [el2]; decide), wa, el2]
  have w3 : (waQ T W - waQ T W / 2).toInt = (W 22).toInt * T 5 - (W 22).toInt * T 5 / 2 := by rw [l_sub (by rw [wa, w2]; omega), wa, w2]
  generalize hx : (W 22).toInt * T 5 = x at *
  have hM2 := h.2.2
  have e5 : (buH T W (fun k => mnH T W k - clG T (mnH T W) k) 5).toInt = (mnH T W 5 - clG T (mnH T W) 5).toInt + (x - x / 2) := by
    show (mnH T W 5 - clG T (mnH T W) 5 + (waQ T W - waQ T W / 2)).toInt = _
    have : 0 ≤ (mnH T W 5 - clG T (mnH T W) 5).toInt ∧ (mnH T W 5 - clG T (mnH T W) 5).toInt ≤ M := hl 5 (by decide)
    rw [l_add (by rw [w3]; omega), w3]
  have e1 : (buH T W (fun k => mnH T W k - clG T (mnH T W) k) 1).toInt = (mnH T W 1 - clG T (mnH T W) 1).toInt + x / 2 := by
    show (mnH T W 1 - clG T (mnH T W) 1 + waQ T W / 2).toInt = _
    have : 0 ≤ (mnH T W 1 - clG T (mnH T W) 1).toInt ∧ (mnH T W 1 - clG T (mnH T W) 1).toInt ≤ M := hl 1 (by decide)
    rw [l_add (by rw [w2]; omega), w2]
  have en : ∀ i, i ≠ 5 → i ≠ 1 → buH T W (fun k => mnH T W k - clG T (mnH T W) k) i = mnH T W i - clG T (mnH T W) i := fun i z1 z2 => by unfold buH; rw [if_neg z1, if_neg z2]
  have emn : ∀ k, k < 8 → mnW T W (8 + k) = buH T W (fun k => mnH T W k - clG T (mnH T W) k) k := fun k hk => by
    unfold mnW; rw [if_neg (show ¬ 8 + k < 8 by omega), if_pos (show 8 + k < 16 by omega), Nat.add_sub_cancel_left]
  refine ⟨fun k hk => ?_, ?_, hM⟩
  · show 0 ≤ (mnW T W (8 + k)).toInt
    rw [emn k hk]
    have q : 0 ≤ (mnH T W k - clG T (mnH T W) k).toInt := r3.1 k hk
    by_cases a : k = 5
    · rw [a] at q ⊢; rw [e5]; omega
    · by_cases b : k = 1
      · rw [b] at q ⊢; rw [e1]; omega
      · rw [en k a b]; exact q
  · have hs := r3.2.1
    unfold rS at hs ⊢
    show (mnW T W (8 + 0)).toInt + (mnW T W (8 + 1)).toInt + (mnW T W (8 + 2)).toInt + (mnW T W (8 + 3)).toInt + (mnW T W (8 + 4)).toInt + (mnW T W (8 + 5)).toInt + (mnW T W (8 + 6)).toInt + (mnW T W (8 + 7)).toInt ≤ M + x
    rw [emn 0 (by decide), emn 1 (by decide), emn 2 (by decide), emn 3 (by decide), emn 4 (by decide), emn 5 (by decide), emn 6 (by decide), emn 7 (by decide), e1, e5, en 0 (by decide) (by decide), en 2 (by decide) (by decide), en 3 (by decide) (by decide), en 4 (by decide) (by decide), en 6 (by decide) (by decide), en 7 (by decide) (by decide)]
    simp only [] at hs
    omega
theorem heat_it {T : Nat → Int} {W : Nat → Int64} (ok : okT T) (h : rOK 0 (fun k => W (8 + k))) (h22 : 0 ≤ (W 22).toInt ∧ (W 22).toInt ≤ 9) : ∀ k : Nat, k ≤ 60 → rOK (k * ((W 22).toInt * T 5)) (fun i => itW T W k (8 + i)) ∧ itW T W k 22 = W 22 := by
  have b5 : 1 ≤ T 5 ∧ T 5 ≤ 999 := (okT_b ok).2.2.2.2.2.1
  have hw := mulN (A := 9) (B := 999) h22.1 h22.2 (show 0 ≤ T 5 by omega) b5.2
  intro k
  induction k with
  | zero => intro _; exact ⟨by rw [show ((0 : Nat) : Int) * ((W 22).toInt * T 5) = 0 by rw [Int.natCast_zero, Int.zero_mul]]; exact h, rfl⟩
  | succ k ih =>
    intro hk
    obtain ⟨a1, a2⟩ := ih (by omega)
    have hb := mulN (A := 60) (B := 8991) (a := (k : Int)) (b := (W 22).toInt * T 5) (by omega) (by omega) hw.1 (by omega)
    have := heat_mn ok a1 (by rw [a2]; exact h22) (by rw [a2]; omega)
    rw [a2] at this
    refine ⟨?_, a2⟩
    rw [Int.natCast_succ, Int.add_mul, Int.one_mul]
    exact this
theorem wm_heat {T : Nat → Int} {W : Nat → Int64} (ok : okT T) (h : rOK 0 (fun k => W (8 + k))) (h22 : 0 ≤ (W 22).toInt ∧ (W 22).toInt ≤ 9) {k : Nat} (hk : k ≤ 60) : wm (itW T W k) ≤ (k : Int) * ((W 22).toInt * T 5) / 20 := by
  have e20 : Int64.toInt 20 = 20 := rfl
  have := rOK_le (heat_it ok h h22 k hk).1 1 (by decide)
  have a : 0 ≤ (itW T W k 9).toInt ∧ (itW T W k 9).toInt ≤ (k : Int) * ((W 22).toInt * T 5) := this
  unfold wm
  rw [l_div a.1 (by rw [e20]; decide), e20]
  omega
/-! which SET is best -/
/-- the first of the greatest LOW among those below N -/
def fbS (okk : Nat → Prop) (low : Nat → Int) (N : Nat) (x : Int) (l : Int) : Prop := (x = -1 ∧ l = -1 ∧ ∀ s, s < N → ¬ okk s) ∨ ∃ s : Nat, s < N ∧ x = s ∧ l = low s ∧ okk s ∧ ∀ s2, s2 < N → okk s2 → low s2 ≤ low s ∧ (low s2 = low s → s ≤ s2)
theorem fbS_un {okk : Nat → Prop} {low : Nat → Int} {N : Nat} {x l x2 l2 : Int} (h : fbS okk low N x l) (h2 : fbS okk low N x2 l2) : x = x2 ∧ l = l2 := by
  rcases h with ⟨a1, a2, a3⟩ | ⟨s, a1, a2, a3, a4, a5⟩
  · rcases h2 with ⟨b1, b2, _⟩ | ⟨s2, b1, b2, b3, b4, b5⟩
    · omega
    · exact absurd b4 (a3 s2 b1)
  · rcases h2 with ⟨b1, b2, b3⟩ | ⟨s2, b1, b2, b3, b4, b5⟩
    · exact absurd a4 (b3 s a1)
    · have c1 := a5 s2 b1 b4
      have c2 := b5 s a1 a4
      have : s = s2 := by omega
      subst this; omega
theorem fbS_step {okk : Nat → Prop} {low : Nat → Int} {N : Nat} {x l : Int} (h : fbS okk low N x l) (hl : okk N → 0 ≤ low N) : ((okk N ∧ l < low N) → fbS okk low (N + 1) N (low N)) ∧ (¬ (okk N ∧ l < low N) → fbS okk low (N + 1) x l) := by
  refine ⟨fun ⟨c1, c2⟩ => Or.inr ⟨N, Nat.lt_succ_self N, rfl, rfl, c1, fun s2 hs ho => ?_⟩, fun c => ?_⟩
  · by_cases cs : s2 = N
    · subst cs; exact ⟨Int.le_refl _, fun _ => Nat.le_refl _⟩
    · rcases h with ⟨_, _, a3⟩ | ⟨s, a1, a2, a3, a4, a5⟩
      · exact absurd ho (a3 s2 (by omega))
      · have := a5 s2 (by omega) ho; omega
  · rcases h with ⟨a1, a2, a3⟩ | ⟨s, a1, a2, a3, a4, a5⟩
    · refine Or.inl ⟨a1, a2, fun s hs ho => ?_⟩
      by_cases cs : s = N
      · subst cs; exact c ⟨ho, by have := hl ho; omega⟩
      · exact a3 s (by omega) ho
    · refine Or.inr ⟨s, by omega, a2, a3, a4, fun s2 hs ho => ?_⟩
      by_cases cs : s2 = N
      · subst cs
        have : ¬ l < low s2 := fun z => c ⟨ho, z⟩
        omega
      · exact a5 s2 (by omega) ho
/-- through those alone that Q names, when each is stood for by one of them that comes no later -/
theorem fbS_sub {okk Q : Nat → Prop} {low : Nat → Int} {N : Nat} {x l : Int} (h : fbS (fun s => okk s ∧ Q s) low N x l) (hQ : ∀ s, s < N → okk s → ∃ s2, s2 ≤ s ∧ okk s2 ∧ Q s2 ∧ low s2 = low s) : fbS okk low N x l := by
  rcases h with ⟨a1, a2, a3⟩ | ⟨s, a1, a2, a3, a4, a5⟩
  · refine Or.inl ⟨a1, a2, fun s hs ho => ?_⟩
    obtain ⟨s2, b1, b2, b3, _⟩ := hQ s hs ho
    exact a3 s2 (by omega) ⟨b2, b3⟩
  · refine Or.inr ⟨s, a1, a2, a3, a4.1, fun s2 hs ho => ?_⟩
    obtain ⟨s3, b1, b2, b3, b4⟩ := hQ s2 hs ho
    have := a5 s3 (by omega) ⟨b2, b3⟩
    omega
