/-! THE CUT in the class: the least set, the dealing -/
theorem smS_mo {f g : Nat → Int} : ∀ n, (∀ k, k < n → f k ≤ g k) → smS f n ≤ smS g n := by
  intro n
  induction n with
  | zero => intro _; exact Int.le_refl _
  | succ n ih =>
    intro h
    have := ih (fun k hk => h k (by omega))
    have := h n (by omega)
    show smS f n + f n ≤ smS g n + g n
    omega
theorem smS_lt {f g : Nat → Int} : ∀ n, (∀ k, k < n → f k ≤ g k) → (∃ k, k < n ∧ f k < g k) → smS f n < smS g n := by
  intro n
  induction n with
  | zero => intro _ ⟨k, hk, _⟩; omega
  | succ n ih =>
    intro h ⟨k, hk, hl⟩
    have h2 := h n (by omega)
    show smS f n + f n < smS g n + g n
    by_cases c : k = n
    · subst c
      have := smS_mo k (fun q hq => h q (by omega))
      omega
    · have := ih (fun k hk => h k (by omega)) ⟨k, by omega, hl⟩
      omega
section
variable {d : Nat} {v : hV} {s s1 : hS} {hl pl : Nat → Int} {H P : Nat} {L : Nat → Int}
theorem full_bit {H g : Nat} (hg : g < H) : (2 ^ H - 1).testBit g = true := by
  rw [Nat.testBit_two_pow_sub_one]; exact decide_eq_true hg
theorem lnC_lt (hh : ∀ g, g < H → 1 ≤ hl g) {S : Nat} (hSb : S < 2 ^ H - 1) : lnC hl H S < lnC hl H (2 ^ H - 1) := by
  have hp := hh
  unfold lnC
  refine smS_lt H (fun k hk => ?_) ?_
  · show (if S.testBit k = true then hl k else 0) ≤ (if (2 ^ H - 1).testBit k = true then hl k else 0)
    rw [if_pos (full_bit hk)]
    have := hp k hk
    split <;> omega
  · refine Classical.byContradiction (fun hn => ?_)
    have : S = 2 ^ H - 1 := Nat.eq_of_testBit_eq (fun g => by
      by_cases c : g < H
      · rw [full_bit c]
        cases hb : S.testBit g with
        | true => rfl
        | false => exact absurd ⟨g, c, by
            show (if S.testBit g = true then hl g else 0) < (if (2 ^ H - 1).testBit g = true then hl g else 0)
            rw [if_pos (full_bit c), hb, if_neg (by decide)]; have := hp g c; omega⟩ hn
      · rw [Nat.testBit_two_pow_sub_one, decide_eq_false c]
        exact Nat.testBit_lt_two_pow (Nat.lt_of_lt_of_le (show S < 2 ^ H by omega) (Nat.pow_le_pow_right (by decide) (by omega))))
    omega
theorem okC_all (hh : ∀ g, g < H → 1 ≤ hl g) {S : Nat} (hSb : S < 2 ^ H) (h : okC hl pl H P S) : okC hl pl H P (2 ^ H - 1) := by
  unfold okC at *
  refine feC_mo (fun g => ?_) h
  unfold lsC
  by_cases c : S.testBit g = true
  · have hg : g < H := Nat.lt_of_not_le (fun z => by
      rw [Nat.testBit_lt_two_pow (Nat.lt_of_lt_of_le hSb (Nat.pow_le_pow_right (by decide) z))] at c; exact absurd c (by decide))
    rw [if_pos c, if_pos (full_bit hg)]; exact Int.le_refl _
  · rw [if_neg c]
    by_cases hg : g < H
    · rw [if_pos (full_bit hg)]; have := hh g hg; omega
    · rw [Nat.testBit_two_pow_sub_one, decide_eq_false hg, if_neg (by decide)]; exact Int.le_refl _
theorem lnC_full : lnC pl P (2 ^ P - 1) = smS pl P := smS_cg P (fun k hk => by
  show (if (2 ^ P - 1).testBit k = true then pl k else 0) = pl k
  rw [if_pos (full_bit hk)])
theorem okC_need {S : Nat} (h : okC hl pl H P S) : smS pl P ≤ lnC hl H S := by
  have := feC_len h
  rw [lnC_full, sm_lsC] at this; exact this
theorem lwC_nn (hh : ∀ g, g < H → 1 ≤ hl g ∧ hl g ≤ 999) (hH : H ≤ 8) (S : Nat) : 0 ≤ lwC hl H S := by
  have := lnC_b hh S H (Nat.le_refl _)
  unfold lwC
  omega
theorem sp_leastSet (hC : cHi hl pl H P s) {K : Int32 → hS → Prop} (hK : ∀ (w : Int32) (y : Int) (s2 : hS), fbS (okC hl pl H P) (lwC hl H) (2 ^ H) w.toInt y → Fr (fun c _ => c = 128 ∨ c = 129) s s2 → K w s2) : pcI (d + 4) 138 [.ref 125] v s K := by
  obtain ⟨⟨hH, hP8⟩, c2, c3, c4, c5⟩ := hC
  have hC : cHi hl pl H P s := ⟨⟨hH, hP8⟩, c2, c3, c4, c5⟩
  have hpw := pw8 hH
  have e1 : Int32.toInt 1 = 1 := rfl
  have em1 : Int32.toInt (-1) = -1 := rfl
  have hh : ∀ g, g < H → 1 ≤ hl g ∧ hl g ≤ 999 := fun g hg => (c4 g hg).2
  have eH : ((1 : Int32) <<< (nI H &&& 31)) - 1 = nI (2 ^ H - 1) := by
    rw [b_sh (by omega)]
    exact i_inj (by rw [i_sub (by rw [nI_toInt (by omega), e1]; omega), nI_toInt (by omega), e1, nI_toInt (by omega)]; omega)
  have G2 : okC hl pl H P (2 ^ H - 1) → ∀ x1 : Int32, x1.toInt = smS pl P → ∀ j i : Nat, i + j = 2 ^ H - 1 → ∀ (b : Nat) (s1 : hS) (z5 : Value), Fr (fun c _ => c = 128 ∨ c = 129) s s1 → ((b = 2 ^ H - 1 ∧ fbS (okC hl pl H P) (lwC hl H) i (-1) (-1)) ∨ (b < 2 ^ H - 1 ∧ fbS (okC hl pl H P) (lwC hl H) i b (lwC hl H b))) → pgI (d + 4) 138 34 [.ref 125, .int x1, .int (nI (2 ^ H - 1)), .int (nI b), .int (nI i), z5] [] v s1 K := by
    intro hok x1 hx1 j
    induction j with
    | zero =>
      intro i hi b s1 z5 hf hb
      refine st_Hides_leastSet_34 ?_
      rw [nI_toInt (show i < 2147483648 by omega), nI_toInt (show 2 ^ H - 1 < 2147483648 by omega)]
      refine ⟨fun z => absurd z (by omega), fun _ => ?_⟩
      have hlw := lwC_nn hh hH (2 ^ H - 1)
      have hi2 : i + 1 = 2 ^ H := by omega
      have hi1 : i = 2 ^ H - 1 := by omega
      rcases hb with ⟨b1, b2⟩ | ⟨b1, b2⟩
      · have := (fbS_step b2 (fun _ => by rw [hi1]; exact hlw)).1 ⟨by rw [hi1]; exact hok, by rw [hi1]; omega⟩
        rw [hi2] at this
        exact hK (nI b) _ s1 (by rw [nI_toInt (by omega), b1, ← hi1]; exact this) hf
      · have hlt := lnC_lt (fun g hg => (hh g hg).1) b1
        have := (fbS_step b2 (fun _ => by rw [hi1]; exact hlw)).2 (fun ⟨_, z⟩ => by rw [hi1] at z; unfold lwC at z; omega)
        rw [hi2] at this
        exact hK (nI b) _ s1 (by rw [nI_toInt (by omega)]; exact this) hf
    | succ j ih =>
      intro i hi b s1 z5 hf hb
      have q1 : nI i + 1 = nI (i + 1) := by rw [nI_1]
      have hlw := lwC_nn hh hH i
      have hbb : b < 2 ^ H := by rcases hb with ⟨b1, _⟩ | ⟨b1, _⟩ <;> omega
      have hlt := lnC_lt (fun g hg => (hh g hg).1) (show i < 2 ^ H - 1 by omega)
      have HC1 : cHi hl pl H P s1 := cHi_fr hC hf (by omega) (fun k => by omega)
      have NO : ∀ (s2 : hS) z5, Fr (fun c _ => c = 128 ∨ c = 129) s s2 → ¬ (okC hl pl H P i ∧ lnC hl H i < lnC hl H b) → pgI (d + 4) 138 34 [.ref 125, .int x1, .int (nI (2 ^ H - 1)), .int (nI b), .int (nI i + 1), z5] [] v s2 K := fun s2 z5 hf2 hn => by
        rw [q1]
        refine ih (i + 1) (by omega) b s2 z5 hf2 ?_
        rcases hb with ⟨b1, b2⟩ | ⟨b1, b2⟩
        · refine Or.inl ⟨b1, (fbS_step b2 (fun _ => hlw)).2 (fun ⟨z, _⟩ => hn ⟨z, by rw [b1]; exact hlt⟩)⟩
        · refine Or.inr ⟨b1, (fbS_step b2 (fun _ => hlw)).2 (fun ⟨z, z2⟩ => hn ⟨z, by unfold lwC at z2; omega⟩)⟩
      refine st_Hides_leastSet_34 ?_
      rw [nI_toInt (show i < 2147483648 by omega), nI_toInt (show 2 ^ H - 1 < 2147483648 by omega)]
      refine ⟨fun _ => sp_lengthOf HC1 (by omega) (fun w2 hw2 => sp_lengthOf HC1 hbb (fun w3 hw3 => ?_)), fun z => absurd (by omega) z⟩
      rw [hw2, hw3, hx1]
      refine ⟨fun a1 => ⟨fun a2 => NO s1 _ hf (fun ⟨z, _⟩ => by have := okC_need z; omega), fun a2 => sp_suffices (d := d) HC1 (by omega) (fun ok s2 f2 _ => ⟨fun z => absurd z (by decide), fun _ => ?_⟩) (fun ok s2 f2 => ⟨fun _ => NO s2 _ (hf.tr f2) (fun z => ok z.1), fun z => absurd rfl z⟩)⟩, fun a1 => NO s1 _ hf (fun z => a1 z.2)⟩
      rw [q1]
      refine ih (i + 1) (by omega) i s2 _ (hf.tr f2) (Or.inr ⟨by omega, ?_⟩)
      rcases hb with ⟨b1, b2⟩ | ⟨b1, b2⟩
      · exact (fbS_step b2 (fun _ => hlw)).1 ⟨ok, by omega⟩
      · exact (fbS_step b2 (fun _ => hlw)).1 ⟨ok, by unfold lwC; omega⟩
  have G1 : ∀ j i : Nat, i + j = P → ∀ x1 : Int32, x1.toInt = smS pl i → 0 ≤ smS pl i ∧ smS pl i ≤ 999 * i → pgI (d + 4) 138 4 [.ref 125, .int x1, .int (nI i), .null, .null, .null] [] v s K := by
    intro j
    induction j with
    | zero =>
      intro i hi x1 hx1 hbd
      have hi : i = P := by omega
      subst hi
      refine st_Hides_leastSet_4 ?_
      rw [c3, c2, eH]
      refine ⟨fun z => absurd z (by omega), fun _ => sp_suffices (d := d) hC (by omega) (fun ok s2 f2 _ => ⟨fun z => absurd z (by decide), fun _ => ?_⟩) (fun ok s2 f2 => ⟨fun _ => hK (-1) (-1) s2 (Or.inl ⟨em1, rfl, fun S hSb z => ok (okC_all (fun g hg => (hh g hg).1) hSb z)⟩) f2, fun z => absurd rfl z⟩)⟩
      exact G2 ok x1 hx1 (2 ^ H - 1) 0 (by omega) (2 ^ H - 1) s2 _ f2 (Or.inl ⟨rfl, Or.inl ⟨rfl, rfl, fun s hs => absurd hs (Nat.not_lt_zero s)⟩⟩)
    | succ j ih =>
      intro i hi x1 hx1 hbd
      have q1 : nI i + 1 = nI (i + 1) := by rw [nI_1]
      have c5i := c5 i (by omega)
      have es : smS pl (i + 1) = smS pl i + pl i := rfl
      refine st_Hides_leastSet_4 ?_
      rw [c3, nI_toInt (show i < 2147483648 by omega), nI_toInt (show P < 2147483648 by omega), Int.toNat_natCast, q1]
      refine ⟨fun _ => ⟨by omega, ih (i + 1) (by omega) _ ?_ (by omega)⟩, fun z => absurd (by omega) z⟩
      rw [i_add (by omega), hx1, c5i.1, es]
  exact st_Hides_leastSet (G1 P 0 (by omega) 0 rfl (by show (0 : Int) ≤ 0 ∧ (0 : Int) ≤ 999 * ((0 : Nat) : Int); omega))
end
