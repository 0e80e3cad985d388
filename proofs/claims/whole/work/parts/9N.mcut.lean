/-! THE CUT in the reference: whether pieces can be cut -/
def subB (x K : Nat) : Prop := ∀ i, x.testBit i = true → K.testBit i = true
theorem sub_iff {x K0 : Nat} (hx : x < 256) : (nI x &&& (nI K0 ^^^ (-1))).toInt = 0 ↔ subB x K0 := by
  have em : (-1 : Int32) = nI (2 ^ 32 - 1) := by decide
  have hle : x &&& (K0 ^^^ (2 ^ 32 - 1)) ≤ x := Nat.and_le_left
  rw [em, n_xor, n_and, nI_toInt (by omega)]
  refine ⟨fun h i hi => ?_, fun h => ?_⟩
  · have h : x &&& (K0 ^^^ (2 ^ 32 - 1)) = 0 := by omega
    have hi8 : i < 8 := Nat.lt_of_not_le (fun z => by
      rw [Nat.testBit_lt_two_pow (Nat.lt_of_lt_of_le hx (show 2 ^ 8 ≤ 2 ^ i from Nat.pow_le_pow_right (by decide) z))] at hi; exact absurd hi (by decide))
    have e : (x &&& (K0 ^^^ (2 ^ 32 - 1))).testBit i = false := by rw [h, Nat.zero_testBit]
    rw [Nat.testBit_and, Nat.testBit_xor, hi, Nat.testBit_two_pow_sub_one, decide_eq_true (show i < 32 by omega), Bool.true_and] at e
    cases hb : K0.testBit i with
    | true => rfl
    | false => rw [hb] at e; exact absurd e (by decide)
  · have : x &&& (K0 ^^^ (2 ^ 32 - 1)) = 0 := dis_of (fun i hi => by
      rw [Nat.testBit_xor, Nat.testBit_two_pow_sub_one] at hi
      cases hb : x.testBit i with
      | false => rfl
      | true =>
        have hi8 : i < 8 := Nat.lt_of_not_le (fun z => by
          rw [Nat.testBit_lt_two_pow (Nat.lt_of_lt_of_le hx (show 2 ^ 8 ≤ 2 ^ i from Nat.pow_le_pow_right (by decide) z))] at hb; exact absurd hb (by decide))
        rw [h i hb, decide_eq_true (show i < 32 by omega)] at hi
        exact absurd hi (by decide))
    omega
section
variable {d : Nat} {v : hV} {s s1 : hS} {hl pl : Nat → Int} {H P : Nat} {L : Nat → Int}
/-- hides and pieces, as the reference has them -/
def cHm (hl pl : Nat → Int) (H P : Nat) (s : hS) : Prop := (H ≤ 8 ∧ P ≤ 8) ∧ rI s 145 44 = nI H ∧ rI s 145 46 = nI P ∧ (∀ g, g < H → (rI s 174 g).toInt = hl g ∧ 1 ≤ hl g ∧ hl g ≤ 999) ∧ ∀ i, i < P → (rI s 175 i).toInt = pl i ∧ 1 ≤ pl i ∧ pl i ≤ 999
def lfM (H : Nat) (L : Nat → Int) (s : hS) : Prop := ∀ g, g < H → (rI s 176 g).toInt = L g
theorem cHm_fr {F : Nat → Nat → Prop} (h : cHm hl pl H P s) (hf : Fr F s s1) (h1 : ¬ F 145 44 ∧ ¬ F 145 46) (h2 : ∀ k, ¬ F 174 k ∧ ¬ F 175 k) : cHm hl pl H P s1 := by
  obtain ⟨a0, a1, a2, a3, a4⟩ := h
  refine ⟨a0, by rw [hf.i h1.1]; exact a1, by rw [hf.i h1.2]; exact a2, fun g hg => by rw [hf.i (h2 g).1]; exact a3 g hg, fun i hi => by rw [hf.i (h2 i).2]; exact a4 i hi⟩
theorem lfM_fr {F : Nat → Nat → Prop} (h : lfM H L s) (hf : Fr F s s1) (h2 : ∀ k, ¬ F 176 k) : lfM H L s1 := fun g hg => by rw [hf.i (h2 g)]; exact h g hg
theorem sm_lengthOf (hC : cHm hl pl H P s) {k : Nat} (hk : k < 256) {K : Int32 → hS → Prop} (hK : ∀ w : Int32, w.toInt = lnC pl P k → K w s) : pcI (d + 1) 234 [.ref 145, .int (nI k)] v s K := by
  obtain ⟨⟨hH, hP8⟩, c2, c3, c4, c5⟩ := hC
  have hb := lnC_b (hl := pl) (H := P) (fun g hg => (c5 g hg).2) k
  have G : ∀ j i : Nat, i + j = P → ∀ x2 : Int32, x2.toInt = lnC pl i k → pgI (d + 1) 234 4 [.ref 145, .int (nI k), .int x2, .int (nI i)] [] v s K := by
    intro j
    induction j with
    | zero =>
      intro i hi x2 h2
      refine st_M_lengthOf_4 ?_
      rw [c3, nI_toInt (show i < 2147483648 by omega), nI_toInt (show P < 2147483648 by omega)]
      exact ⟨fun z => absurd z (by omega), fun _ => hK x2 (by rw [h2, show i = P by omega])⟩
    | succ j ih =>
      intro i hi x2 h2
      have q1 : nI i + 1 = nI (i + 1) := by rw [nI_1]
      have e : lnC pl (i + 1) k = lnC pl i k + (if k.testBit i = true then pl i else 0) := rfl
      have c5i := c5 i (by omega)
      have hbi := hb i (by omega)
      refine st_M_lengthOf_4 ?_
      rw [c3, nI_toInt (show i < 2147483648 by omega), nI_toInt (show P < 2147483648 by omega), Int.toNat_natCast, q1]
      refine ⟨fun _ => sm_has (by omega) (by omega) (fun c => ⟨fun z => absurd z (by decide), fun _ => ⟨by omega, ih (i + 1) (by omega) _ ?_⟩⟩) (fun c => ⟨fun _ => ih (i + 1) (by omega) _ ?_, fun z => absurd rfl z⟩), fun z => absurd (by omega) z⟩
      · rw [i_add (by omega), h2, c5i.1, e, if_pos c]
      · rw [i_a0, h2, e, c, if_neg (by decide)]; omega
  exact st_M_lengthOf (G P 0 (by omega) 0 rfl)
def caM (Q : Nat → Prop) (s : hS) : Prop := ∀ k, k < 256 → (Q k ∧ rI s 177 k = 1) ∨ (¬ Q k ∧ rI s 177 k = 0)
theorem caM_st {Q Q2 : Nat → Prop} {k0 : Nat} {w : Int32} (h : caM Q s) (h1 : ∀ k, k < 256 → k ≠ k0 → (Q k ↔ Q2 k)) (h2 : (Q2 k0 ∧ w = 1) ∨ (¬ Q2 k0 ∧ w = 0)) : caM Q2 (sI s 177 k0 w) := fun k hk => by
  rw [r_II]
  by_cases c : k = k0
  · rw [if_pos ⟨rfl, c⟩, c]; exact h2
  · rw [if_neg (fun z => c z.2), ← h1 k hk c]; exact h k hk
theorem caM_cg {Q Q2 : Nat → Prop} (h : caM Q s) (h1 : ∀ k, k < 256 → (Q k ↔ Q2 k)) : caM Q2 s := fun k hk => by
  rw [← h1 k hk]; exact h k hk
theorem or_lt256 {x y : Nat} (hx : x < 256) (hy : y < 256) : x ||| y < 256 := Nat.or_lt_two_pow (n := 8) hx hy
/-- what the parts below x make of what could be cut before -/
def qpM (pl : Nat → Int) (P K0 : Nat) (Lh : Int) (C : Nat → Prop) (x k : Nat) : Prop := ∃ y j, y < x ∧ j < 256 ∧ k = j ||| y ∧ j &&& y = 0 ∧ subB y K0 ∧ lnC pl P y ≤ Lh ∧ C j
theorem sm_isCut (hC : cHm hl pl H P s) (hlf : lfM H L s) (hL : ∀ g, g < H → 0 ≤ L g) {K0 S : Nat} (hK0 : K0 < 2 ^ P) (hSb : S < 2 ^ H) {K : Int32 → hS → Prop} (h1 : feC pl P (fun g => if S.testBit g = true then L g else 0) H K0 → ∀ s2, Fr (fun c _ => c = 177 ∨ c = 178) s s2 → K 1 s2) (h0 : ¬ feC pl P (fun g => if S.testBit g = true then L g else 0) H K0 → ∀ s2, Fr (fun c _ => c = 177 ∨ c = 178) s s2 → K 0 s2) : pcI (d + 2) 233 [.ref 145, .int (nI K0), .int (nI S)] v s K := by
  obtain ⟨⟨hH, hP8⟩, c2, c3, c4, c5⟩ := hC
  have hC : cHm hl pl H P s := ⟨⟨hH, hP8⟩, c2, c3, c4, c5⟩
  have hpw := pw8 hH
  have hpP := pw8 hP8
  have e1 : Int32.toInt 1 = 1 := rfl
  have e0 : Int32.toInt 0 = 0 := rfl
  generalize hLS : (fun g => if S.testBit g = true then L g else 0) = LS at *
  have lt_of : ∀ {x : Nat}, subB x K0 → x < 2 ^ P := fun {x} h => Nat.lt_of_not_le (fun z => by
    obtain ⟨i, hi, hb⟩ := Nat.exists_ge_and_testBit_of_ge_two_pow z
    have := h i hb
    rw [Nat.testBit_lt_two_pow (Nat.lt_of_lt_of_le hK0 (Nat.pow_le_pow_right (by decide) hi))] at this
    exact absurd this (by decide))
  have H18 : ∀ j h : Nat, h + j = H → ∀ (s1 : hS) (z4 z5 : Value), Fr (fun c _ => c = 177 ∨ c = 178) s s1 → caM (fun k => subB k K0 ∧ feC pl P LS h k) s1 → pgI (d + 2) 233 18 [.ref 145, .int (nI K0), .int (nI S), .int (nI h), z4, z5] [] v s1 K := by
    intro j
    induction j with
    | zero =>
      intro h hh s1 z4 z5 hf hq
      have hh : h = H := by omega
      refine st_M_isCut_18 ?_
      rw [hf.i (show ¬ ((145 : Nat) = 177 ∨ (145 : Nat) = 178) by decide), c2, nI_toInt (show h < 2147483648 by omega), nI_toInt (show H < 2147483648 by omega), nI_toInt (show K0 < 2147483648 by omega), Int.toNat_natCast]
      refine ⟨fun z => absurd z (by omega), fun _ => ⟨by omega, ?_⟩⟩
      rcases hq K0 (by omega) with ⟨a, b⟩ | ⟨a, b⟩
      · rw [b]
        exact ⟨Or.inr rfl, h1 (by rw [← hh]; exact a.2) s1 hf⟩
      · rw [b]
        exact ⟨Or.inl rfl, h0 (fun z => a ⟨fun i hi => hi, by rw [hh]; exact z⟩) s1 hf⟩
    | succ j ih =>
      intro h hh s1 z4 z5 hf hq
      have q1 : nI h + 1 = nI (h + 1) := by rw [nI_1]
      have eLS : LS h = if S.testBit h = true then L h else 0 := by rw [← hLS]
      have HC1 : cHm hl pl H P s1 := cHm_fr hC hf (by omega) (fun k => by omega)
      refine st_M_isCut_18 ?_
      rw [HC1.2.1, nI_toInt (show h < 2147483648 by omega), nI_toInt (show H < 2147483648 by omega)]
      refine ⟨fun _ => sm_has (by omega) (by omega) (fun c => ⟨fun z => absurd z (by decide), fun _ => ?_⟩) (fun c => ⟨fun _ => ?_, fun z => absurd rfl z⟩), fun z => absurd (by omega) z⟩
      · -- this hide
        rw [if_pos c] at eLS
        -- the copy
        have H43 : ∀ j2 x : Nat, x + j2 = 256 → 1 ≤ x → ∀ (s2 : hS) (z5 : Value), Fr (fun c _ => c = 177 ∨ c = 178) s s2 → (∀ k, k < 256 → rI s2 178 k = rI s1 177 k) → caM (qpM pl P K0 (L h) (fun k => subB k K0 ∧ feC pl P LS h k) x) s2 → pgI (d + 2) 233 43 [.ref 145, .int (nI K0), .int (nI S), .int (nI h), .int (nI x), z5] [] v s2 K := by
          intro j2
          induction j2 with
          | zero =>
            intro x hx hx1 s2 z5 f2 hcp hq2
            refine st_M_isCut_43 ?_
            rw [nI_toInt (show x < 2147483648 by omega), q1]
            refine ⟨fun z => absurd z (by omega), fun _ => ih (h + 1) (by omega) s2 _ _ f2 (caM_cg hq2 (fun k hk => ⟨fun ⟨y, j, y1, y2, y3, y4, y5, y6, y7, y8⟩ => ⟨fun i hi => ?_, y, j, y3, y4, by rw [eLS]; exact y6, y8⟩, fun ⟨y0, y, j, y1, y2, y3, y4⟩ => ?_⟩))⟩
            · rw [y3, Nat.testBit_or] at hi
              rcases Bool.or_eq_true _ _ |>.mp hi with z | z
              · exact y7 i z
              · exact y5 i z
            · have sy : subB y K0 := fun i hi => y0 i (by rw [y1, Nat.testBit_or, hi, Bool.or_true])
              have sj : subB j K0 := fun i hi => y0 i (by rw [y1, Nat.testBit_or, hi, Bool.true_or])
              have := lt_of sy
              have := lt_of sj
              exact ⟨y, j, by omega, by omega, y1, y2, sy, by rw [← eLS]; exact y3, sj, y4⟩
          | succ j2 ih2 =>
            intro x hx hx1 s2 z5 f2 hcp hq2
            have q2 : nI x + 1 = nI (x + 1) := by rw [nI_1]
            have SK : ¬ (subB x K0 ∧ lnC pl P x ≤ L h) → ∀ z5, pgI (d + 2) 233 43 [.ref 145, .int (nI K0), .int (nI S), .int (nI h), .int (nI (x + 1)), z5] [] v s2 K := fun hn z5 => by
              refine ih2 (x + 1) (by omega) (by omega) s2 z5 f2 hcp (caM_cg hq2 (fun k hk => ⟨fun ⟨y, j, y1, y2⟩ => ⟨y, j, by omega, y2⟩, fun ⟨y, j, y1, y2, y3, y4, y5, y6, y7⟩ => ⟨y, j, ?_, y2, y3, y4, y5, y6, y7⟩⟩))
              by_cases cy : y = x
              · subst cy; exact absurd ⟨y5, y6⟩ hn
              · omega
            have HC2 : cHm hl pl H P s2 := cHm_fr hC f2 (by omega) (fun k => by omega)
            have el : (rI s2 176 h).toInt = L h := by rw [f2.i (by omega)]; exact hlf h (by omega)
            refine st_M_isCut_43 ?_
            rw [nI_toInt (show x < 2147483648 by omega), sub_iff (by omega), q2]
            refine ⟨fun _ => ⟨fun hs => sm_lengthOf HC2 (by omega) (fun w hw => ?_), fun hs => SK (fun z => hs z.1) _⟩, fun z => absurd (by omega) z⟩
            rw [hw, nI_toInt (show h < 2147483648 by omega), Int.toNat_natCast, el]
            refine ⟨by omega, fun z => SK (fun y => by omega) _, fun hle => ?_⟩
            have H62 : ∀ j3 q : Nat, q + j3 = 256 → ∀ s3 : hS, Fr (fun c _ => c = 177 ∨ c = 178) s s3 → (∀ k, k < 256 → rI s3 178 k = rI s1 177 k) → caM (fun k => qpM pl P K0 (L h) (fun k => subB k K0 ∧ feC pl P LS h k) x k ∨ ∃ j, j < q ∧ k = j ||| x ∧ j &&& x = 0 ∧ (subB j K0 ∧ feC pl P LS h j)) s3 → pgI (d + 2) 233 62 [.ref 145, .int (nI K0), .int (nI S), .int (nI h), .int (nI x), .int (nI q)] [] v s3 K := by
              intro j3
              induction j3 with
              | zero =>
                intro q hqq s3 f3 hcp3 hq3
                refine st_M_isCut_62 ?_
                rw [nI_toInt (show q < 2147483648 by omega), q2]
                refine ⟨fun z => absurd z (by omega), fun _ => ih2 (x + 1) (by omega) (by omega) s3 _ f3 hcp3 (caM_cg hq3 (fun k hk => ⟨fun y => ?_, fun ⟨y, j, y1, y2, y3, y4, y5, y6, y7⟩ => ?_⟩))⟩
                · rcases y with ⟨y, j, y1, y2⟩ | ⟨j, y1, y2, y3, y4⟩
                  · exact ⟨y, j, by omega, y2⟩
                  · exact ⟨x, j, by omega, by omega, y2, y3, hs, by omega, y4⟩
                · by_cases cy : y = x
                  · subst cy; exact Or.inr ⟨j, by omega, y3, y4, y7⟩
                  · exact Or.inl ⟨y, j, by omega, y2, y3, y4, y5, y6, y7⟩
              | succ j3 ih3 =>
                intro q hqq s3 f3 hcp3 hq3
                have q3 : nI q + 1 = nI (q + 1) := by rw [nI_1]
                have hor := or_lt256 (x := q) (y := x) (by omega) (by omega)
                have hand : q &&& x ≤ q := Nat.and_le_left
                have c178 := hcp3 q (by omega)
                have hqs := hq q (by omega)
                have hcan := hq3 (q ||| x) hor
                -- what is stored is right
                have ST : ∀ w : Int32, (((qpM pl P K0 (L h) (fun k => subB k K0 ∧ feC pl P LS h k) x (q ||| x) ∨ ∃ j, j < q + 1 ∧ q ||| x = j ||| x ∧ j &&& x = 0 ∧ (subB j K0 ∧ feC pl P LS h j)) ∧ w = 1) ∨ (¬ (qpM pl P K0 (L h) (fun k => subB k K0 ∧ feC pl P LS h k) x (q ||| x) ∨ ∃ j, j < q + 1 ∧ q ||| x = j ||| x ∧ j &&& x = 0 ∧ (subB j K0 ∧ feC pl P LS h j)) ∧ w = 0)) → pgI (d + 2) 233 62 [.ref 145, .int (nI K0), .int (nI S), .int (nI h), .int (nI x), .int (nI (q + 1))] [] v (sI s3 177 (q ||| x) w) K := fun w hw => by
                  refine ih3 (q + 1) (by omega) _ (f3.sI (Or.inl rfl)) (fun k hk => by rw [r_II, if_neg (fun z => absurd z.1 (by decide))]; exact hcp3 k hk) (caM_st hq3 (fun k hk hne => ?_) hw)
                  refine ⟨fun y => y.elim Or.inl (fun ⟨j, y1, y2⟩ => Or.inr ⟨j, by omega, y2⟩), fun y => y.elim Or.inl (fun ⟨j, y1, y2, y3⟩ => Or.inr ⟨j, ?_, y2, y3⟩)⟩
                  by_cases cj : j = q
                  · subst cj; exact absurd y2 hne
                  · omega
                refine st_M_isCut_62 ?_
                rw [n_or, n_and, nI_toInt (show q < 2147483648 by omega), nI_toInt (show q ||| x < 2147483648 by omega), nI_toInt (show q &&& x < 2147483648 by omega), Int.toNat_natCast, Int.toNat_natCast, q3, c178]
                refine ⟨fun _ => ⟨by omega, fun cz => ⟨by omega, fun cu => ⟨by omega, ST 0 (Or.inr ⟨?_, rfl⟩)⟩, fun cu => ⟨fun cd => ⟨by omega, ST 1 (Or.inl ⟨?_, rfl⟩)⟩, fun cd => ⟨by omega, ST 0 (Or.inr ⟨?_, rfl⟩)⟩⟩⟩, fun cz => ⟨by omega, ST 1 (Or.inl ⟨?_, rfl⟩)⟩⟩, fun z => absurd (by omega) z⟩
                · rcases hcan with ⟨_, b⟩ | ⟨a, _⟩
                  · rw [b, e1] at cz; omega
                  · refine fun y => y.elim (fun y => a (Or.inl y)) (fun ⟨j, y1, y2, y3, y4⟩ => ?_)
                    by_cases cj : j = q
                    · subst cj
                      rcases hqs with ⟨_, b⟩ | ⟨a2, _⟩
                      · rw [b, e1] at cu; omega
                      · exact a2 y4
                    · exact a (Or.inr ⟨j, by omega, y2, y3, y4⟩)
                · refine Or.inr ⟨q, by omega, rfl, by omega, ?_⟩
                  rcases hqs with ⟨a2, _⟩ | ⟨_, b⟩
                  · exact a2
                  · rw [b] at cu; exact absurd rfl cu
                · rcases hcan with ⟨_, b⟩ | ⟨a, _⟩
                  · rw [b, e1] at cz; omega
                  · refine fun y => y.elim (fun y => a (Or.inl y)) (fun ⟨j, y1, y2, y3, y4⟩ => ?_)
                    by_cases cj : j = q
                    · subst cj; omega
                    · exact a (Or.inr ⟨j, by omega, y2, y3, y4⟩)
                · rcases hcan with ⟨a, _⟩ | ⟨_, b⟩
                  · exact a.elim Or.inl (fun ⟨j, y1, y2⟩ => Or.inr ⟨j, by omega, y2⟩)
                  · rw [b] at cz; exact absurd rfl cz
            exact H62 256 0 (by omega) s2 f2 hcp (caM_cg hq2 (fun k hk => ⟨Or.inl, fun y => y.elim id (fun ⟨j, y1, _⟩ => absurd y1 (Nat.not_lt_zero j))⟩))
        have H28 : ∀ j2 q : Nat, q + j2 = 256 → ∀ s2 : hS, Fr (fun c _ => c = 178) s1 s2 → (∀ k, k < q → rI s2 178 k = rI s1 177 k) → pgI (d + 2) 233 28 [.ref 145, .int (nI K0), .int (nI S), .int (nI h), .int (nI q), z5] [] v s2 K := by
          intro j2
          induction j2 with
          | zero =>
            intro q hqq s2 f2 hcp
            have F2 := hf.tr (f2.mo (W' := fun c _ => c = 177 ∨ c = 178) (fun c k z => Or.inr z))
            refine st_M_isCut_28 ?_
            rw [nI_toInt (show q < 2147483648 by omega)]
            refine ⟨fun z => absurd z (by omega), fun _ => H43 255 1 (by omega) (Nat.le_refl _) s2 _ F2 (fun k hk => hcp k (by omega)) ?_⟩
            have : caM (fun k => subB k K0 ∧ feC pl P LS h k) s2 := fun k hk => by rw [f2.i (show ¬ (177 : Nat) = 178 by decide)]; exact hq k hk
            refine caM_cg this (fun k hk => ⟨fun y => ⟨0, k, by omega, hk, by rw [Nat.or_zero], by rw [Nat.and_zero], fun i hi => by rw [Nat.zero_testBit] at hi; exact absurd hi (by decide), by rw [lnC_0]; exact hL h (by omega), y⟩, fun ⟨y, j, y1, y2, y3, y4, y5, y6, y7⟩ => ?_⟩)
            have : y = 0 := by omega
            subst this
            rw [Nat.or_zero] at y3
            rw [y3]; exact y7
          | succ j2 ih2 =>
            intro q hqq s2 f2 hcp
            have q3 : nI q + 1 = nI (q + 1) := by rw [nI_1]
            have e7 : rI s2 177 q = rI s1 177 q := f2.i (show ¬ (177 : Nat) = 178 by decide)
            refine st_M_isCut_28 ?_
            rw [nI_toInt (show q < 2147483648 by omega), Int.toNat_natCast, q3, e7]
            refine ⟨fun _ => ⟨by omega, ⟨by omega, ?_⟩, ih2 (q + 1) (by omega) _ (f2.sI rfl) (fun k hk => ?_)⟩, fun z => absurd (by omega) z⟩
            · rcases hq q (by omega) with ⟨_, b⟩ | ⟨_, b⟩
              · rw [b]; exact Or.inr rfl
              · rw [b]; exact Or.inl rfl
            · rw [r_II]
              by_cases ck : k = q
              · rw [if_pos ⟨rfl, ck⟩, ck]
              · rw [if_neg (fun z => ck z.2)]; exact hcp k (by omega)
        exact H28 256 0 (by omega) s1 (Fr.rf _ _) (fun k hk => absurd hk (Nat.not_lt_zero k))
      · -- not this hide
        rw [c, if_neg (by decide)] at eLS
        rw [q1]
        refine ih (h + 1) (by omega) s1 _ _ hf (caM_cg hq (fun k hk => ⟨fun y => ⟨y.1, (feC_nul (fun i hi => (c5 i hi).2.1) (lt_of y.1) eLS).mpr y.2⟩, fun y => ⟨y.1, (feC_nul (fun i hi => (c5 i hi).2.1) (lt_of y.1) eLS).mp y.2⟩⟩))
  have H2 : ∀ j q : Nat, q + j = 256 → ∀ s1 : hS, Fr (fun c _ => c = 177 ∨ c = 178) s s1 → (∀ k, k < q → (subB k K0 ∧ feC pl P LS 0 k ∧ rI s1 177 k = 1) ∨ (¬ (subB k K0 ∧ feC pl P LS 0 k) ∧ rI s1 177 k = 0)) → pgI (d + 2) 233 2 [.ref 145, .int (nI K0), .int (nI S), .int (nI q), .null, .null] [] v s1 K := by
    intro j
    induction j with
    | zero =>
      intro q hqq s1 hf hq
      refine st_M_isCut_2 ?_
      rw [nI_toInt (show q < 2147483648 by omega)]
      refine ⟨fun z => absurd z (by omega), fun _ => H18 H 0 (by omega) s1 _ _ hf (fun k hk => ?_)⟩
      rcases hq k (by omega) with ⟨a, b, c⟩ | z
      · exact Or.inl ⟨⟨a, b⟩, c⟩
      · exact Or.inr z
    | succ j ih =>
      intro q hqq s1 hf hq
      have q3 : nI q + 1 = nI (q + 1) := by rw [nI_1]
      refine st_M_isCut_2 ?_
      rw [nI_toInt (show q < 2147483648 by omega), Int.toNat_natCast, q3]
      refine ⟨fun _ => ⟨fun cz => ⟨by omega, ih (q + 1) (by omega) _ (hf.sI (Or.inl rfl)) (fun k hk => ?_)⟩, fun cz => ⟨by omega, ih (q + 1) (by omega) _ (hf.sI (Or.inl rfl)) (fun k hk => ?_)⟩⟩, fun z => absurd (by omega) z⟩
      · rw [r_II]
        have : k = 0 ∧ q = 0 := by omega
        rw [if_pos ⟨rfl, by omega⟩, this.1]
        exact Or.inl ⟨fun i hi => by rw [Nat.zero_testBit] at hi; exact absurd hi (by decide), rfl, rfl⟩
      · rw [r_II]
        by_cases ck : k = q
        · rw [if_pos ⟨rfl, ck⟩, ck]
          exact Or.inr ⟨fun z => by have : q = 0 := z.2; omega, rfl⟩
        · rw [if_neg (fun z => ck z.2)]; exact hq k (by omega)
  exact st_M_isCut (H2 256 0 (by omega) s (Fr.rf _ _) (fun k hk => absurd hk (Nat.not_lt_zero k)))
end
