/-! THE BEST SET: sought in both; the pair -/
section
variable {d : Nat} {v : hV} {s s1 : hS} {T : Nat → Int} {n : Nat} {w l : Int} {wa st we : Int64}
theorem sp_seekEars {t : Nat} (ht : kT t) (hLT : pLT s) (hT : tvC t s T) (ok : okT T) (he : envB n wa st we) (hB : triB n w l wa st we s) {f : Nat} (hf : f ≤ 9) (h0 : fndB f (-1) (-1) s) {K : hS → Prop} (hK : ∀ s2 x y, Fr fAt s s2 → fbS (okB T n w l wa st we f) (lowB T n wa st we f) 81 x y → fndB f x y s2 → K s2) : pcV (d + 6) 85 [.ref 98, .ref t, .int (nI f)] v s K := by
  have ht2 : t + 1 < 98 := by unfold kT at ht; omega
  have okQ : ∀ q, (okB T n w l wa st we f q ∧ QB wa st q) → 0 ≤ lowB T n wa st we f q := fun q _ => (lowB_b f q).1
  have A : ∀ j a : Nat, a + j = 9 → ∀ (s1 : hS) (x y : Int) (z4 : Value), Fr fAt s s1 → fbS (fun q => okB T n w l wa st we f q ∧ QB wa st q) (lowB T n wa st we f) (9 * a) x y → fndB f x y s1 → pgV (d + 6) 85 2 [.ref 98, .ref t, .int (nI f), .int (nI a), z4] [] v s1 K := by
    intro j
    induction j with
    | zero =>
      intro a ha s1 x y z4 f1 hb hF
      have ha : a = 9 := by omega
      subst ha
      exact st_Best_seekEars_2 ht ⟨fun _ => hK s1 x y f1 (fbS_sub hb (fun q hq ho => rep_s ok he hf q hq ho)) hF, fun z => absurd (by decide) z⟩
    | succ j ih =>
      intro a ha s1 x y z4 f1 hb hF
      have qa : nI a + 1 = nI (a + 1) := by rw [nI_1]
      have B : ∀ m b : Nat, b + m = 9 → a ≤ b → ∀ (s2 : hS) (x y : Int), Fr fAt s s2 → fbS (fun q => okB T n w l wa st we f q ∧ QB wa st q) (lowB T n wa st we f) (9 * a + b) x y → fndB f x y s2 → pgV (d + 6) 85 7 [.ref 98, .ref t, .int (nI f), .int (nI a), .int (nI b)] [] v s2 K := by
        intro m
        induction m with
        | zero =>
          intro b hb2 hab s2 x y f2 hb hF
          have hb2 : b = 9 := by omega
          subst hb2
          refine st_Best_seekEars_7 ht ⟨fun _ => ?_, fun z => absurd (by decide) z⟩
          rw [qa]
          exact ih (a + 1) (by omega) s2 x y _ f2 (by rw [show 9 * (a + 1) = 9 * a + 9 by omega]; exact hb) hF
        | succ m ihm =>
          intro b hb2 hab s2 x y f2 hb hF
          have qb : nI b + 1 = nI (b + 1) := by rw [nI_1]
          have eb : (nI b).toInt = b := nI_toInt (by omega)
          have h4 := fndB_low hF
          have h9 : (9 * a + b) / 9 = a ∧ (9 * a + b) % 9 = b := by omega
          have LT2 : pLT s2 := pLT_fr hLT f2 (fun k _ => by unfold fAt; omega)
          have T2 := tvC_fr hT f2 (fun k _ => by unfold fAt; omega)
          have B2 := triB_fr hB f2 (fun k _ => by unfold fAt; omega) (fun k _ => by unfold fAt; omega)
          have ST := fbS_step hb (okQ (9 * a + b))
          have SK : ¬ QB wa st (9 * a + b) → pgV (d + 6) 85 7 [.ref 98, .ref t, .int (nI f), .int (nI a), .int (nI (b + 1))] [] v s2 K := fun hq => ihm (b + 1) (by omega) (by omega) s2 x y f2 (ST.2 (fun z => hq z.1.2)) hF
          refine st_Best_seekEars_7 ht ?_
          rw [eb, h4, qa, qb]
          refine ⟨fun z => absurd z (by omega), fun _ => ⟨fun _ => sp_isFirst LT2 he B2 (by omega) (fun ka => ⟨fun z => absurd z (by decide), fun _ => sp_isFirst LT2 he B2 (by omega) (fun kb => ⟨fun z => absurd z (by decide), fun _ => ?_⟩) (fun kb => ⟨fun _ => SK (fun z => kb (by have := z.2.2; rw [h9.2] at this; exact this)), fun z => absurd rfl z⟩)⟩) (fun ka => ⟨fun _ => SK (fun z => ka (by have := z.2.1; rw [h9.1] at this; exact this)), fun z => absurd rfl z⟩), fun z => ?_⟩⟩
          · refine sp_attempt ht LT2 T2 ok he B2 hf (by omega) (by omega) (fun s3 f3 hy hn => ?_)
            rw [h4] at hy hn
            have hQ : QB wa st (9 * a + b) := by unfold QB; rw [h9.1, h9.2]; exact ⟨hab, ka, kb⟩
            by_cases c : okB T n w l wa st we f (9 * a + b) ∧ y < lowB T n wa st we f (9 * a + b)
            · obtain ⟨g1, g2, g3, g4⟩ := hy c
              exact ihm (b + 1) (by omega) (by omega) s3 _ _ (f2.tr f3) (ST.1 ⟨⟨c.1, hQ⟩, c.2⟩) (Or.inr ⟨9 * a + b, by omega, rfl, (lowB_b f _).1, g1, by rw [h9.1]; exact g2, by rw [h9.2]; exact g3, g4⟩)
            · obtain ⟨g1, g2, g3, g4⟩ := hn c
              refine ihm (b + 1) (by omega) (by omega) s3 x y (f2.tr f3) (ST.2 (fun z => c ⟨z.1.1, z.2⟩)) ?_
              unfold fndB
              rw [g1, g2, g3, g4]; exact hF
          · refine ih (a + 1) (by omega) s2 x y _ f2 (fbS_top hb (by omega) (fun q => by have := (lowB_b (T := T) (n := n) (wa := wa) (st := st) (we := we) f q).2; omega) _ (by omega)) hF
      have ea : (nI a).toInt = a := nI_toInt (by omega)
      refine st_Best_seekEars_2 ht ⟨fun z => absurd z (by omega), fun _ => B (9 - a) a (by omega) (Nat.le_refl _) s1 x y f1 (fbS_skip hb _ (by omega) (fun q h1 h2 ho => ?_)) hF⟩
      have := ho.2.1
      omega
  exact st_Best_seekEars ht (A 9 0 rfl s (-1) (-1) _ (Fr.rf _ _) (Or.inl ⟨rfl, rfl, fun q hq => absurd hq (Nat.not_lt_zero q)⟩) h0)
/-- the answers as they lie -/
def ansB (F x y : Int) (s : hS) : Prop := (F = -1 ∧ x = -1 ∧ y = -1 ∧ rI s 98 1 = -1 ∧ rI s 98 2 = -1 ∧ rI s 98 3 = -1 ∧ rI s 98 4 = -1) ∨ ∃ f q : Nat, f ≤ 9 ∧ q < 81 ∧ F = f ∧ x = q ∧ 0 ≤ y ∧ rI s 98 1 = nI f ∧ rI s 98 2 = nI (q / 9) ∧ rI s 98 3 = nI (q % 9) ∧ (rI s 98 4).toInt = y
theorem sp_fires {t : Nat} (ht : kT t) (hLT : pLT s) (hT : tvC t s T) (ok : okT T) (he : envB n wa st we) (hw : 0 ≤ w ∧ w ≤ 9999) (hB : triB n w l wa st we s) (h0 : rI s 98 1 = -1 ∧ rI s 98 2 = -1 ∧ rI s 98 3 = -1 ∧ rI s 98 4 = -1) {x4 : Int32} (hx4 : x4.toInt = w) {z2 z5 : Value} {K : hS → Prop} (hK : ∀ s2 F x y, Fr fAt s s2 → bRes T n w l wa st we F x y → ansB F x y s2 → K s2) : pgV (d + 7) 83 52 [.ref 98, .ref t, z2, .int (nI n), .int x4, z5, .int 0] [] v s K := by
  have em : Int32.toInt (-1) = -1 := rfl
  have e20 : Int64.toInt 20 = 20 := rfl
  have ht2 : t + 1 < 98 := by unfold kT at ht; omega
  have b5 : 1 ≤ T 5 ∧ T 5 ≤ 999 := (okT_b ok).2.2.2.2.2.1
  have hn60 := he.1
  have G : ∀ j f : Nat, f + j = 10 → ∀ (s1 : hS) (z5 : Value), Fr fAt s s1 → (rI s1 98 1 = -1 ∧ rI s1 98 2 = -1 ∧ rI s1 98 3 = -1 ∧ rI s1 98 4 = -1) → (∀ f2, f2 < f → ∀ q, q < 81 → ¬ okB T n w l wa st we f2 q) → pgV (d + 7) 83 52 [.ref 98, .ref t, z2, .int (nI n), .int x4, z5, .int (nI f)] [] v s1 K := by
    intro j
    induction j with
    | zero =>
      intro f hf s1 z5 f1 h1 hno
      have hf : f = 10 := by omega
      subst hf
      exact st_Best_seek_52 ht ⟨fun _ => hK s1 (-1) (-1) (-1) f1 (Or.inl ⟨rfl, rfl, rfl, fun f2 hf2 => hno f2 (by omega)⟩) (Or.inl ⟨rfl, rfl, rfl, h1⟩), fun z => absurd (by decide) z⟩
    | succ j ih =>
      intro f hf s1 z5 f1 h1 hno
      have q1 : nI f + 1 = nI (f + 1) := by rw [nI_1]
      have ef : (nI f).toInt = f := nI_toInt (by omega)
      have en : (nI n).toInt = n := nI_toInt (by omega)
      have T1 := tvC_fr hT f1 (fun k _ => by unfold fAt; omega)
      refine st_Best_seek_52 ht ⟨fun z => absurd z (by omega), fun _ => ⟨fun _ => sp_of (k := 5) ht (by decide) T1 (fun r hr => ?_), fun z => absurd (by rw [h1.1]; rfl) z⟩⟩
      have m1 := mulN (A := 60) (B := 9) (a := (n : Int)) (b := (f : Int)) (by omega) (by omega) (by omega) (by omega)
      have e1 : ((nI n).toInt64 * (nI f).toInt64).toInt = (n : Int) * f := by rw [l_mul (by rw [i_64, i_64, en, ef]; omega), i_64, i_64, en, ef]
      have m2 := mulN (A := 540) (B := 999) (a := (n : Int) * f) (b := T 5) m1.1 (by omega) (by omega) b5.2
      have e2 : ((nI n).toInt64 * (nI f).toInt64 * r.toInt64).toInt = (n : Int) * f * T 5 := by rw [l_mul (by rw [e1, i_64, hr]; omega), e1, i_64, hr]
      have e3 : ((nI n).toInt64 * (nI f).toInt64 * r.toInt64 / 20).toInt = (n : Int) * f * T 5 / 20 := by rw [l_div (by rw [e2]; exact m2.1) (by rw [e20]; decide), e2, e20]
      rw [e3, i_64, hx4, q1]
      refine ⟨fun z => ih (f + 1) (by omega) s1 _ f1 h1 (fun f2 hf2 q hq ho => ?_), fun z => ?_⟩
      · by_cases c : f2 = f
        · subst c
          have hh : rOK 0 (fun k => vB wa st we f2 (q / 9) (q % 9) (8 + k)) := by
            have z0 : ∀ k, k < 8 → vB wa st we f2 (q / 9) (q % 9) (8 + k) = 0 := fun k hk => by
              unfold vB
              rw [if_neg (show ¬ 8 + k = 22 by omega), if_neg (show ¬ 8 + k = 23 by omega), if_neg (show ¬ 8 + k = 24 by omega), if_neg (show ¬ 8 + k = 25 by omega), if_neg (show ¬ 8 + k = 26 by omega), if_neg (show ¬ 8 + k = 27 by omega)]
            have ez : Int64.toInt 0 = 0 := rfl
            refine ⟨fun k hk => by show 0 ≤ (vB wa st we f2 (q / 9) (q % 9) (8 + k)).toInt; rw [z0 k hk, ez]; exact Int.le_refl _, ?_, by decide⟩
            unfold rS
            show (vB wa st we f2 (q / 9) (q % 9) (8 + 0)).toInt + (vB wa st we f2 (q / 9) (q % 9) (8 + 1)).toInt + (vB wa st we f2 (q / 9) (q % 9) (8 + 2)).toInt + (vB wa st we f2 (q / 9) (q % 9) (8 + 3)).toInt + (vB wa st we f2 (q / 9) (q % 9) (8 + 4)).toInt + (vB wa st we f2 (q / 9) (q % 9) (8 + 5)).toInt + (vB wa st we f2 (q / 9) (q % 9) (8 + 6)).toInt + (vB wa st we f2 (q / 9) (q % 9) (8 + 7)).toInt ≤ 0
            rw [z0 0 (by decide), z0 1 (by decide), z0 2 (by decide), z0 3 (by decide), z0 4 (by decide), z0 5 (by decide), z0 6 (by decide), z0 7 (by decide), ez]
            exact Int.le_refl _
          have e22 : (vB wa st we f2 (q / 9) (q % 9) 22).toInt = f2 := o_i (by omega)
          have hwm := wm_heat (W := vB wa st we f2 (q / 9) (q % 9)) ok hh (by rw [e22]; omega) hn60.2
          rw [e22, ← Int.mul_assoc] at hwm
          have := ho.1
          have hr2 : wm (reB T n wa st we f2 q) = wm (itW T (vB wa st we f2 (q / 9) (q % 9)) n) := rfl
          omega
        · exact hno f2 (by omega) q hq ho
      · have B1 := triB_fr hB f1 (fun k _ => by unfold fAt; omega) (fun k _ => by unfold fAt; omega)
        refine sp_seekEars ht (pLT_fr hLT f1 (fun k _ => by unfold fAt; omega)) T1 ok he B1 (by omega) (Or.inl ⟨rfl, rfl, h1⟩) (fun s2 x y f2 hb hF => ?_)
        have F2 := f1.tr f2
        have T2 := tvC_fr hT F2 (fun k _ => by unfold fAt; omega)
        rcases hF with ⟨a1, a2, a3⟩ | ⟨q, a1, a2, a0, a3, a4, a5, a6⟩
        · refine ih (f + 1) (by omega) s2 _ F2 a3 (fun f2 hf2 q hq ho => ?_)
          by_cases c : f2 = f
          · subst c
            rcases hb with ⟨_, _, b3⟩ | ⟨s0, _, b2, _⟩
            · exact b3 q hq ho
            · omega
          · exact hno f2 (by omega) q hq ho
        · have DONE : K s2 := hK s2 f x y F2 (Or.inr ⟨f, by omega, rfl, hb, by omega, hno⟩) (Or.inr ⟨f, q, by omega, a1, rfl, a2, a0, a3, a4, a5, a6⟩)
          have e98 : (rI s2 98 1).toInt = f := by rw [a3]; exact ef
          have q2 : (nI (f + 1)).toInt = ((f + 1 : Nat) : Int) := nI_toInt (by omega)
          refine st_Best_seek_52 ht ⟨fun _ => DONE, fun _ => ⟨fun z => absurd z (by rw [e98]; omega), fun _ => DONE⟩⟩
  exact G 10 0 rfl s _ (Fr.rf _ _) h0 (fun f2 hf2 => absurd hf2 (Nat.not_lt_zero f2))
/-- in the reference -/
def fBm (c k : Nat) : Prop := (c = 146 ∧ 32 ≤ k ∧ k < 64) ∨ c = 156
theorem sm_bestF (ok : okT T) (hT : tvM s T) (he : envB n wa st we) (hW : rL s 146 23 = wa ∧ rL s 146 24 = st ∧ rL s 146 25 = we ∧ 0 ≤ (rL s 146 28).toInt ∧ (rL s 146 28).toInt < 2147483648) {x2 x3 x4 : Int32} (h2 : x2.toInt = w) (h3 : x3.toInt = l) {z8 z9 : Value} {K : Int32 → hS → Prop} (hK : ∀ (r : Int32) s2 F x y, Fr fBm s s2 → bRes T n w l wa st we F x y → (F = -1 → r.toInt = -1) → (∀ f q : Nat, f ≤ 9 → q < 81 → F = f → x = q → (x4.toInt = 0 → r.toInt = f) ∧ (x4.toInt = 1 → r.toInt = (q / 9 : Nat)) ∧ (x4.toInt = 2 → r.toInt = (q % 9 : Nat)) ∧ (¬ x4.toInt = 0 → ¬ x4.toInt = 1 → ¬ x4.toInt = 2 → r.toInt = y)) → K r s2) : pgI (d + 5) 196 32 [.ref 145, .int (nI n), .int x2, .int x3, .int x4, .int (-1), .int (-1), .int 0, z8, z9] [] v s K := by
  have em : Int32.toInt (-1) = -1 := rfl
  have e81 : Int32.toInt 81 = 81 := rfl
  have e9 : Int32.toInt 9 = 9 := rfl
  have hn60 := he.1
  have en : (nI n).toInt = n := nI_toInt (by omega)
  -- the answer out of what is found
  have FIN : ∀ (s1 : hS) (x5 x6 : Int32) (f q : Nat) (x y : Int), Fr fBm s s1 → f ≤ 9 → q < 81 → x5.toInt = 81 * f + q → x6.toInt = y → x = q → fbS (okB T n w l wa st we f) (lowB T n wa st we f) 81 x y → (∀ f2, f2 < f → ∀ s, s < 81 → ¬ okB T n w l wa st we f2 s) → (x5.toInt < 0 → K (-1) s1) ∧ (¬ x5.toInt < 0 → (x4.toInt = 0 → K (x5 / 81) s1) ∧ (¬ x4.toInt = 0 → (x4.toInt = 1 → K ((x5 - x5 / 81 * 81) / 9) s1) ∧ (¬ x4.toInt = 1 → (x4.toInt = 2 → K (x5 - x5 / 9 * 9) s1) ∧ (¬ x4.toInt = 2 → K x6 s1)))) := by
    intro s1 x5 x6 f q x y f1 hf hq h5 h6 hx hb hno
    have R : ∀ r : Int32, ((x4.toInt = 0 → r.toInt = f) ∧ (x4.toInt = 1 → r.toInt = (q / 9 : Nat)) ∧ (x4.toInt = 2 → r.toInt = (q % 9 : Nat)) ∧ (¬ x4.toInt = 0 → ¬ x4.toInt = 1 → ¬ x4.toInt = 2 → r.toInt = y)) → K r s1 := fun r hr => hK r s1 f x y f1 (Or.inr ⟨f, hf, rfl, hb, by omega, hno⟩) (fun z => absurd z (by omega)) (fun f2 q2 _ _ ef eq => by
      have : f2 = f := by omega
      have : q2 = q := by omega
      subst f2; subst q2; exact hr)
    have d1 : (x5 / 81).toInt = f := by rw [i_div (by omega) (by rw [e81]; decide), h5, e81]; omega
    have d2 : (x5 - x5 / 81 * 81).toInt = q := by rw [i_rem (by omega) (by rw [e81]; decide), h5, e81]; omega
    have d3 : ((x5 - x5 / 81 * 81) / 9).toInt = (q / 9 : Nat) := by rw [i_div (by omega) (by rw [e9]; decide), d2, e9]; omega
    have d4 : (x5 - x5 / 9 * 9).toInt = (q % 9 : Nat) := by rw [i_rem (by omega) (by rw [e9]; decide), h5, e9]; omega
    exact ⟨fun z => absurd z (by omega), fun _ => ⟨fun z => R _ ⟨fun _ => d1, fun y => absurd y (by omega), fun y => absurd y (by omega), fun y => absurd z y⟩, fun z0 => ⟨fun z => R _ ⟨fun y => absurd y z0, fun _ => d3, fun y => absurd y (by omega), fun _ y => absurd z y⟩, fun z1 => ⟨fun z => R _ ⟨fun y => absurd y z0, fun y => absurd y z1, fun _ => d4, fun _ _ y => absurd z y⟩, fun z2 => R _ ⟨fun y => absurd y z0, fun y => absurd y z1, fun y => absurd y z2, fun _ _ _ => h6⟩⟩⟩⟩⟩
  have G : ∀ j f : Nat, f + j = 10 → ∀ (s1 : hS) (z8 z9 : Value), Fr fBm s s1 → (∀ f2, f2 < f → ∀ q, q < 81 → ¬ okB T n w l wa st we f2 q) → pgI (d + 5) 196 32 [.ref 145, .int (nI n), .int x2, .int x3, .int x4, .int (-1), .int (-1), .int (nI f), z8, z9] [] v s1 K := by
    intro j
    induction j with
    | zero =>
      intro f hf s1 z8 z9 f1 hno
      have hf : f = 10 := by omega
      subst hf
      exact st_M_best_32 ⟨fun z => absurd z (by decide), fun _ => ⟨fun _ => hK (-1) s1 (-1) (-1) (-1) f1 (Or.inl ⟨rfl, rfl, rfl, fun f2 hf2 => hno f2 (by omega)⟩) (fun _ => rfl) (fun f2 q _ _ hc => absurd hc (by omega)), fun z => absurd (by decide) z⟩⟩
    | succ j ih =>
      intro f hf s1 z8 z9 f1 hno
      have q1 : nI f + 1 = nI (f + 1) := by rw [nI_1]
      have ef : (nI f).toInt = f := nI_toInt (by omega)
      have LP : ∀ m q : Nat, q + m = 81 → ∀ (s2 : hS) (x5 x6 : Int32) (x y : Int) (z9 : Value), Fr fBm s s2 → fbS (okB T n w l wa st we f) (lowB T n wa st we f) q x y → x6.toInt = y → ((x = -1 ∧ x5 = -1) ∨ (0 ≤ x ∧ x5.toInt = 81 * f + x)) → pgI (d + 5) 196 39 [.ref 145, .int (nI n), .int x2, .int x3, .int x4, .int x5, .int x6, .int (nI f), .int (nI q), z9] [] v s2 K := by
        intro m
        induction m with
        | zero =>
          intro q hq s2 x5 x6 x y z9 f2 hb h6 h5
          have hq : q = 81 := by omega
          subst hq
          refine st_M_best_39 ⟨fun z => absurd z (by decide), fun _ => ?_⟩
          rw [q1]
          rcases h5 with ⟨a1, a2⟩ | ⟨a1, a2⟩
          · subst a2
            rcases hb with ⟨b1, b2, b3⟩ | ⟨s0, _, b2, _⟩
            · have h6 : x6 = -1 := i_inj (by rw [h6, b2]; rfl)
              subst h6
              refine ih (f + 1) (by omega) s2 _ _ f2 (fun f3 hf3 q hq => ?_)
              by_cases c : f3 = f
              · subst c; exact b3 q hq
              · exact hno f3 (by omega) q hq
            · omega
          · rcases hb with ⟨b1, b2, b3⟩ | ⟨s0, b1, b2, b3⟩
            · omega
            · have FF := FIN s2 x5 x6 f s0 x y f2 (by omega) b1 (by omega) h6 b2 (Or.inr ⟨s0, b1, b2, b3⟩) hno
              have ef1 : (nI (f + 1)).toInt = ((f + 1 : Nat) : Int) := nI_toInt (by omega)
              exact st_M_best_32 ⟨fun _ => ⟨fun z => absurd z (by omega), fun _ => FF⟩, fun _ => FF⟩
        | succ m ihm =>
          intro q hq s2 x5 x6 x y z9 f2 hb h6 h5
          have qq : nI q + 1 = nI (q + 1) := by rw [nI_1]
          have eq : (nI q).toInt = q := nI_toInt (by omega)
          have a9 : (nI q / 9).toInt64 = Int64.ofInt (q / 9 : Nat) := l_of (by rw [i_64, i_div (by omega) (by rw [e9]; decide), eq, e9]; omega)
          have b9 : (nI q - nI q / 9 * 9).toInt64 = Int64.ofInt (q % 9 : Nat) := l_of (by rw [i_64, i_rem (by omega) (by rw [e9]; decide), eq, e9]; omega)
          have f9 : (nI f).toInt64 = Int64.ofInt f := l_of (by rw [i_64, ef])
          have ok0 := vS_ok (y := rL s 146 28) (n := n) he (show f ≤ 9 by omega) (show q / 9 ≤ 8 by omega) (show q % 9 ≤ 8 by omega) hW.2.2.2
          have hsim := simW_lw (simW_it ok (vS_sim (T := T) (wa := wa) (st := st) (we := we) (y := rL s 146 28) (f := f) (a := q / 9) (b := q % 9)) n)
          have ST := fbS_step hb (fun _ => (lowB_b (T := T) (n := n) (wa := wa) (st := st) (we := we) f q).1)
          refine st_M_best_39 ⟨fun _ => sm_copy (x := 0) (y := 32) (by decide) (by decide) (by decide) (fun s3 f3 c3 => sm_freshen (x := 32) (by decide) (fun s4 f4 c4 => ?_)), fun z => absurd (by omega) z⟩
          rw [a9, b9, f9]
          have F4 : Fr fBm s s4 := (f2.tr (f3.mo (W' := fBm) (fun c k z => by unfold fBm; omega))).tr (f4.mo (fun c k z => by unfold fBm; omega))
          have F5 : Fr fBm s (sL (sL (sL s4 146 54 (Int64.ofInt f)) 146 58 (Int64.ofInt (q / 9 : Nat))) 146 59 (Int64.ofInt (q % 9 : Nat))) := ((F4.sL (by unfold fBm; omega)).sL (by unfold fBm; omega)).sL (by unfold fBm; omega)
          have m5 : mVec 32 (sL (sL (sL s4 146 54 (Int64.ofInt f)) 146 58 (Int64.ofInt (q / 9 : Nat))) 146 59 (Int64.ofInt (q % 9 : Nat))) (vS wa st we (rL s 146 28) f (q / 9) (q % 9)) := by
            intro i hi
            rw [r_LL]
            by_cases i27 : i = 27
            · rw [if_pos ⟨rfl, by omega⟩, i27]; rfl
            rw [if_neg (by omega), r_LL]
            by_cases i26 : i = 26
            · rw [if_pos ⟨rfl, by omega⟩, i26]; rfl
            rw [if_neg (by omega), r_LL]
            by_cases i22 : i = 22
            · rw [if_pos ⟨rfl, by omega⟩, i22]; rfl
            rw [if_neg (by omega)]
            have z1 : vS wa st we (rL s 146 28) f (q / 9) (q % 9) i = if i = 28 then rL s 146 28 else if i = 23 then wa else if i = 24 then st else if i = 25 then we else 0 := by
              unfold vS vB
              rw [if_neg i22, if_neg i26, if_neg i27]
            rw [z1]
            have w0 : ∀ k, k < 32 → rL s2 146 k = rL s 146 k := fun k hk => f2.l (by unfold fBm; omega)
            by_cases i21 : i < 22
            · rw [if_neg (by omega), if_neg (by omega), if_neg (by omega), if_neg (by omega)]; exact c4 i i21
            · rw [f4.l (by omega), c3 i (by omega), Nat.zero_add, w0 i (by omega)]
              by_cases i28 : i = 28
              · rw [if_pos i28, i28]
              rw [if_neg i28]
              by_cases i23 : i = 23
              · rw [if_pos i23, i23]; exact hW.1
              rw [if_neg i23]
              by_cases i24 : i = 24
              · rw [if_pos i24, i24]; exact hW.2.1
              rw [if_neg i24, if_pos (by omega), show i = 25 by omega]; exact hW.2.2.1
          generalize sL (sL (sL s4 146 54 (Int64.ofInt f)) 146 58 (Int64.ofInt (q / 9 : Nat))) 146 59 (Int64.ofInt (q % 9 : Nat)) = s5 at *
          generalize vS wa st we (rL s 146 28) f (q / 9) (q % 9) = W at *
          have it := fun k : Nat => fun hk : k ≤ 60 => itW_ok ok0 ok k (by omega)
          have GO : ∀ mm i : Nat, i + mm = n → ∀ s6 : hS, Fr fBm s s6 → mVec 32 s6 (itW T W i) → pgI (d + 5) 196 73 [.ref 145, .int (nI n), .int x2, .int x3, .int x4, .int x5, .int x6, .int (nI f), .int (nI q), .int (nI i)] [] v s6 K := by
            intro mm
            induction mm with
            | zero =>
              intro i hi s6 f6 m6
              have hi : i = n := by omega
              subst hi
              have T6 := tvM_fr hT f6 (fun k _ => by unfold fBm; omega)
              have hl8 : lwW T (itW T W i) ≤ 8 := by have := lwF_le T (itW T W i) 8 0; unfold lwW; omega
              have hlo : lowB T i wa st we f q = lwW T (itW T W i) := by unfold lowB; rw [show reB T i wa st we f q = itW T (vB wa st we f (q / 9) (q % 9)) i from rfl, hsim.1]
              have hokk : okB T i w l wa st we f q ↔ (w ≤ wm (itW T W i) ∧ l ≤ lwW T (itW T W i)) := by unfold okB; rw [hlo, show reB T i wa st we f q = itW T (vB wa st we f (q / 9) (q % 9)) i from rfl, hsim.2]
              rw [hokk, hlo] at ST
              have elw : (nI (lwW T (itW T W i))).toInt = lwW T (itW T W i) := nI_toInt (by omega)
              refine st_M_best_73 ⟨fun z => absurd z (by omega), fun _ => sm_low (X := 32) (by decide) T6 m6 (st_M_warmth ⟨by decide, ?_⟩)⟩
              have e9' : ((32 : Int32) + 8 + 1).toInt.toNat = 32 + 9 := by decide
              have ewm : (rL s6 146 (32 + 9) / 20).toInt = wm (itW T W i) := by rw [m6 9 (by decide)]; rfl
              have ewm : (rL s6 146 (32 + 9) / 20).toInt = wm (itW T W i) := ewm
              rw [e9', ewm, i_64, h2, h3, elw, h6, qq]
              have NO : ¬ ((w ≤ wm (itW T W i) ∧ l ≤ lwW T (itW T W i)) ∧ y < lwW T (itW T W i)) → ∀ z, pgI (d + 5) 196 39 [.ref 145, .int (nI i), .int x2, .int x3, .int x4, .int x5, .int x6, .int (nI f), .int (nI (q + 1)), z] [] v s6 K := fun hno2 z => ihm (q + 1) (by omega) s6 x5 x6 x y z f6 (ST.2 hno2) h6 h5
              refine ⟨fun z => NO (by omega) _, fun z1 => ⟨fun z => NO (by omega) _, fun z2 => ⟨fun z3 => ?_, fun z => NO (by omega) _⟩⟩⟩
              have e81f : ((81 : Int32) * nI f + nI q).toInt = 81 * f + q := by
                have : (81 : Int32) * nI f = nI (81 * f) := pk_mul 81 f
                rw [this, nI_add, nI_toInt (by omega)]; omega
              exact ihm (q + 1) (by omega) s6 _ _ q _ _ f6 (ST.1 ⟨⟨by omega, by omega⟩, z3⟩) elw (Or.inr ⟨by omega, e81f⟩)
            | succ mm ihg =>
              intro i hi s6 f6 m6
              have qi : nI i + 1 = nI (i + 1) := by rw [nI_1]
              have T6 := tvM_fr hT f6 (fun k _ => by unfold fBm; omega)
              refine st_M_best_73 ⟨fun _ => sm_minute (X := 32) (by decide) T6 ok m6 (okM_A (it i (by omega))) (fun s7 f7 m7 => ?_), fun z => absurd (by rw [nI_toInt (by omega)]; omega) z⟩
              rw [qi]
              exact ihg (i + 1) (by omega) s7 (f6.tr (f7.mo (fun c k z => by unfold fBl fMn at z; unfold fBm; omega))) m7
          exact GO n 0 (by omega) s5 F5 m5
      refine st_M_best_32 ⟨fun _ => ⟨fun _ => LP 81 0 rfl s1 (-1) (-1) (-1) (-1) _ f1 (Or.inl ⟨rfl, rfl, fun q hq => absurd hq (Nat.not_lt_zero q)⟩) rfl (Or.inl ⟨rfl, rfl⟩), fun z => absurd (by decide) z⟩, fun z => absurd (by omega) z⟩
  exact G 10 0 rfl s _ _ (Fr.rf _ _) (fun f2 hf2 => absurd hf2 (Nat.not_lt_zero f2))
end
