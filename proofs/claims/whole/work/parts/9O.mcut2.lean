/-! THE CUT in the reference: the hides; the pair -/
section
variable {d : Nat} {v : hV} {s s1 : hS} {hl pl : Nat → Int} {H P : Nat} {L : Nat → Int}
theorem sm_hidesOf (hC : cHm hl pl H P s) {K : Int32 → hS → Prop} (hK : ∀ (w : Int32) (y : Int) (s2 : hS), fbS (okC hl pl H P) (lwC hl H) (2 ^ H) w.toInt y → Fr (fun c _ => c = 176 ∨ c = 177 ∨ c = 178) s s2 → K w s2) : pcI (d + 3) 232 [.ref 145] v s K := by
  obtain ⟨⟨hH, hP8⟩, c2, c3, c4, c5⟩ := hC
  have hC : cHm hl pl H P s := ⟨⟨hH, hP8⟩, c2, c3, c4, c5⟩
  have hpw := pw8 hH
  have hpP := pw8 hP8
  have e1 : Int32.toInt 1 = 1 := rfl
  have em1 : Int32.toInt (-1) = -1 := rfl
  have hh : ∀ g, g < H → 1 ≤ hl g ∧ hl g ≤ 999 := fun g hg => (c4 g hg).2
  have eP : ((1 : Int32) <<< (nI P &&& 31)) - 1 = nI (2 ^ P - 1) := by
    rw [b_sh (by omega)]
    exact i_inj (by rw [i_sub (by rw [nI_toInt (by omega), e1]; omega), nI_toInt (by omega), e1, nI_toInt (by omega)]; omega)
  have G6 : ∀ j i : Nat, i + j = 2 ^ H → ∀ (x1 x2 : Int32) (s1 : hS) (z4 z5 : Value), Fr (fun c _ => c = 176 ∨ c = 177 ∨ c = 178) s s1 → ((x1 = -1 ∧ fbS (okC hl pl H P) (lwC hl H) i (-1) (-1)) ∨ ∃ b : Nat, b < i ∧ x1 = nI b ∧ x2.toInt = lnC hl H b ∧ fbS (okC hl pl H P) (lwC hl H) i b (lwC hl H b)) → pgI (d + 3) 232 6 [.ref 145, .int x1, .int x2, .int (nI i), z4, z5] [] v s1 K := by
    intro j
    induction j with
    | zero =>
      intro i hi x1 x2 s1 z4 z5 hf hb
      refine st_M_hidesOf_6 ?_
      rw [hf.i (show ¬ ((145 : Nat) = 176 ∨ (145 : Nat) = 177 ∨ (145 : Nat) = 178) by decide), c2, b_sh (show H < 31 by omega), nI_toInt (show i < 2147483648 by omega), nI_toInt (show 2 ^ H < 2147483648 by omega)]
      refine ⟨fun z => absurd z (by omega), fun _ => ?_⟩
      rcases hb with ⟨b1, b2⟩ | ⟨b, b1, b2, b3, b4⟩
      · exact hK x1 (-1) s1 (by rw [b1, em1, ← hi]; exact b2) hf
      · exact hK x1 _ s1 (by rw [b2, nI_toInt (by omega), ← hi]; exact b4) hf
    | succ j ih =>
      intro i hi x1 x2 s1 z4 z5 hf hb
      have q1 : nI i + 1 = nI (i + 1) := by rw [nI_1]
      have hlw := lwC_nn hh hH i
      have hln := lnC_b hh i
      have HC1 : cHm hl pl H P s1 := cHm_fr hC hf (by omega) (fun k => by omega)
      have G16 : ∀ j2 h : Nat, h + j2 = H → ∀ (x4 : Int32) (s2 : hS), x4.toInt = lnC hl h i → Fr (fun c _ => c = 176 ∨ c = 177 ∨ c = 178) s s2 → (∀ g, g < h → (rI s2 176 g).toInt = hl g) → pgI (d + 3) 232 16 [.ref 145, .int x1, .int x2, .int (nI i), .int x4, .int (nI h)] [] v s2 K := by
        intro j2
        induction j2 with
        | zero =>
          intro h hhH x4 s2 h4 f2 hcp
          have hhH : h = H := by omega
          subst hhH
          have HC2 : cHm hl pl h P s2 := cHm_fr hC f2 (by omega) (fun k => by omega)
          have NO : ∀ s3, Fr (fun c _ => c = 176 ∨ c = 177 ∨ c = 178) s s3 → ¬ (okC hl pl h P i ∧ (x1 = -1 ∨ lnC hl h i < x2.toInt)) → pgI (d + 3) 232 6 [.ref 145, .int x1, .int x2, .int (nI (i + 1)), .int x4, .int (nI h)] [] v s3 K := fun s3 f3 hn => by
            refine ih (i + 1) (by omega) x1 x2 s3 _ _ f3 ?_
            rcases hb with ⟨b1, b2⟩ | ⟨b, b1, b2, b3, b4⟩
            · exact Or.inl ⟨b1, (fbS_step b2 (fun _ => hlw)).2 (fun ⟨z, _⟩ => hn ⟨z, Or.inl b1⟩)⟩
            · exact Or.inr ⟨b, by omega, b2, b3, (fbS_step b4 (fun _ => hlw)).2 (fun ⟨z, z2⟩ => hn ⟨z, Or.inr (by unfold lwC at z2; omega)⟩)⟩
          have YES : ∀ s3, Fr (fun c _ => c = 176 ∨ c = 177 ∨ c = 178) s s3 → okC hl pl h P i → (x1 = -1 ∨ lnC hl h i < x2.toInt) → pgI (d + 3) 232 6 [.ref 145, .int (nI i), .int x4, .int (nI (i + 1)), .int x4, .int (nI h)] [] v s3 K := fun s3 f3 ok hc => by
            refine ih (i + 1) (by omega) (nI i) x4 s3 _ _ f3 (Or.inr ⟨i, by omega, rfl, h4, ?_⟩)
            rcases hb with ⟨b1, b2⟩ | ⟨b, b1, b2, b3, b4⟩
            · exact (fbS_step b2 (fun _ => hlw)).1 ⟨ok, by omega⟩
            · refine (fbS_step b4 (fun _ => hlw)).1 ⟨ok, ?_⟩
              rcases hc with z | z
              · rw [b2] at z
                have : (nI b).toInt = -1 := by rw [z]; rfl
                rw [nI_toInt (by omega)] at this; omega
              · unfold lwC; omega
          have CALL : (x1 = -1 ∨ lnC hl h i < x2.toInt) → pcI (d + 2) 233 [.ref 145, .int (nI (2 ^ P - 1)), .int (nI i)] v s2 (fun w5 s5 => (w5.toInt = 0 → pgI (d + 3) 232 6 [.ref 145, .int x1, .int x2, .int (nI (i + 1)), .int x4, .int (nI h)] [] v s5 K) ∧ (¬ w5.toInt = 0 → pgI (d + 3) 232 6 [.ref 145, .int (nI i), .int x4, .int (nI (i + 1)), .int x4, .int (nI h)] [] v s5 K)) := fun hc => by
            refine sm_isCut (d := d) (L := hl) HC2 (fun g hg => hcp g hg) (fun g hg => by have := hh g hg; omega) (by omega) (by omega) (fun ok s5 f5 => ⟨fun z => absurd z (by decide), fun _ => YES s5 (f2.tr (f5.mo (fun c k z => Or.inr z))) ok hc⟩) (fun ok s5 f5 => ⟨fun _ => NO s5 (f2.tr (f5.mo (fun c k z => Or.inr z))) (fun z => ok z.1), fun z => absurd rfl z⟩)
          refine st_M_hidesOf_16 ?_
          rw [HC2.2.1, HC2.2.2.1, eP, nI_toInt (show h < 2147483648 by omega), q1, h4]
          refine ⟨fun z => absurd z (by omega), fun _ => ⟨fun a => CALL ?_, fun a => ⟨fun a2 => CALL (Or.inr a2), fun a2 => NO s2 f2 (fun ⟨_, z⟩ => ?_)⟩⟩⟩
          · rcases hb with ⟨b1, b2⟩ | ⟨b, b1, b2, b3, b4⟩
            · exact Or.inl b1
            · rw [b2, nI_toInt (by omega)] at a; omega
          · rcases z with z | z
            · rw [z, em1] at a; omega
            · exact a2 z
        | succ j2 ih2 =>
          intro h hhH x4 s2 h4 f2 hcp
          have q2 : nI h + 1 = nI (h + 1) := by rw [nI_1]
          have HC2 : cHm hl pl H P s2 := cHm_fr hC f2 (by omega) (fun k => by omega)
          have e : lnC hl (h + 1) i = lnC hl h i + (if i.testBit h = true then hl h else 0) := rfl
          have c4h := HC2.2.2.2.1 h (by omega)
          have hlh := hln h (by omega)
          have F3 := f2.sI (c := 176) (k := h) (x := rI s2 174 h) (Or.inl rfl)
          have L3 : ∀ g, g < h + 1 → (rI (sI s2 176 h (rI s2 174 h)) 176 g).toInt = hl g := fun g hg => by
            rw [r_II]
            by_cases cg : g = h
            · rw [if_pos ⟨rfl, cg⟩, cg]; exact c4h.1
            · rw [if_neg (fun z => cg z.2)]; exact hcp g (by omega)
          have e4 : rI (sI s2 176 h (rI s2 174 h)) 174 h = rI s2 174 h := by rw [r_II, if_neg (fun z => absurd z.1 (by decide))]
          refine st_M_hidesOf_16 ?_
          rw [HC2.2.1, nI_toInt (show h < 2147483648 by omega), nI_toInt (show H < 2147483648 by omega), Int.toNat_natCast, q2]
          refine ⟨fun _ => ⟨by omega, by omega, sm_has (by omega) (by omega) (fun c => ⟨fun z => absurd z (by decide), fun _ => ⟨by omega, ih2 (h + 1) (by omega) _ _ ?_ F3 L3⟩⟩) (fun c => ⟨fun _ => ih2 (h + 1) (by omega) _ _ ?_ F3 L3, fun z => absurd rfl z⟩)⟩, fun z => absurd (by omega) z⟩
          · rw [e4, i_add (by omega), h4, c4h.1, e, if_pos c]
          · rw [i_a0, h4, e, c, if_neg (by decide)]; omega
      refine st_M_hidesOf_6 ?_
      rw [HC1.2.1, b_sh (show H < 31 by omega), nI_toInt (show i < 2147483648 by omega), nI_toInt (show 2 ^ H < 2147483648 by omega)]
      exact ⟨fun _ => G16 H 0 (by omega) 0 s1 rfl hf (fun g hg => absurd hg (Nat.not_lt_zero g)), fun z => absurd (by omega) z⟩
  exact st_M_hidesOf (G6 (2 ^ H) 0 (by omega) _ _ s _ _ (Fr.rf _ _) (Or.inl ⟨rfl, Or.inl ⟨rfl, rfl, fun s hs => absurd hs (Nat.not_lt_zero s)⟩⟩))
theorem LsF_nul (hL : ∀ g, 0 ≤ L g ∧ L g ≤ 999) (hp : ∀ i, i < P → 1 ≤ pl i ∧ pl i ≤ 999) (hf : feC pl P L H (2 ^ P - 1)) {g : Nat} (hg : L g = 0) : ∀ i, i ≤ P → LsF pl H P L i g = 0 := by
  intro i
  induction i with
  | zero => intro _; exact hg
  | succ i ih =>
    intro hi
    have := ih (by omega)
    obtain ⟨lb, lf⟩ := LsF_ok (H := H) hL hp hf i (by omega)
    obtain ⟨⟨g1, g2, _⟩, _⟩ := hsF_ok (i := i) (by omega) lb hp lf
    have := hp i (by omega)
    show upL _ _ _ g = 0
    unfold upL
    rw [if_neg (fun z => by rw [← z] at g2; omega)]
    assumption
theorem msk_and {P i : Nat} (hi : i < P) (hP : P ≤ 8) : nI (mskC P i) &&& (((1 : Int32) <<< (nI i &&& 31)) ^^^ (-1)) = nI (mskC P (i + 1)) := by
  have em : (-1 : Int32) = nI (2 ^ 32 - 1) := by decide
  rw [b_sh (by omega), em, n_xor, n_and]
  refine congrArg nI (Nat.eq_of_testBit_eq (fun q => ?_))
  rw [Nat.testBit_and, Nat.testBit_xor, mskC_bit, mskC_bit, Nat.testBit_two_pow_sub_one, Nat.testBit_two_pow]
  by_cases c : q < P
  · rw [decide_eq_true c, decide_eq_true (show q < 32 by omega), Bool.and_true, Bool.and_true, Bool.xor_true]
    by_cases c2 : i = q
    · subst c2
      rw [decide_eq_true (rfl : i = i), decide_eq_false (show ¬ i + 1 ≤ i by omega)]; exact Bool.and_false _
    · rw [decide_eq_false c2, Bool.not_false, Bool.and_true]
      exact decide_eq_decide.mpr (by omega)
  · rw [decide_eq_false c, Bool.and_false, Bool.and_false, Bool.false_and]
end
