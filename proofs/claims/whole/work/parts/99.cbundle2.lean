/-! THE BUNDLE, in the class: weighed, laid out, settled -/
section
variable {d : Nat} {v : hV} {s s1 : hS} {r a b c : Nat} {c0 c1 c2 : Int} {L : rgL} {M : Nat} {fk : Nat → Nat} {fa : Nat → Int} {o : Nat → Nat}
theorem eqR_up {R R2 : Nat → Int} {set : Nat} (h : eqR M fk fa R set) (e : ∀ k, set ≤ k → R k = R2 k) : eqR M fk fa R2 set := by
  unfold eqR at *
  rw [← e set (Nat.le_refl _), h]
  split
  · rfl
  · exact mfF_cg M 0 _ (fun i _ _ _ => by show coF M fk fa set i + R (set ||| 2 ^ i) = coF M fk fa set i + R2 (set ||| 2 ^ i); rw [e _ Nat.left_le_or])
theorem i_m1 {x : Int32} {n : Nat} (h : x.toInt = n) (hn : n < 2147483648) : (x + (-1)).toInt = n - 1 := by
  have em : Int32.toInt (-1) = -1 := rfl
  rw [i_add (by rw [em]; omega), em, h]; omega
theorem sp_weigh (hM : M ≤ 8) (hB : cBu M o fk fa s) (hfk : ∀ i, fk i ≤ 2) {K : hS → Prop} (hK : ∀ s2, Fr (fun c k => c = 123 ∨ (c = 117 ∧ k = 9)) s s2 → (∀ set, set < 2 ^ M → eqR M fk fa (fun k => (rI s2 123 k).toInt) set) → rI s2 117 9 = rI s2 123 0 → K s2) : pcV (d + 2) 124 [.ref 117] v s K := by
  have hp := pw8 hM
  have e1 : Int32.toInt 1 = 1 := rfl
  -- where the sets from x on are weighed: going on with x - 1
  have A : ∀ t : Nat, t ≤ 2 ^ M - 1 → ∀ (x2 : Int32) (s1 : hS) (z1 z3 : Value), x2.toInt = (t : Int) - 1 → Fr (fun c k => c = 123 ∨ (c = 117 ∧ k = 9)) s s1 → (∀ set, t ≤ set → set < 2 ^ M → eqR M fk fa (fun k => (rI s1 123 k).toInt) set) → pgV (d + 2) 124 16 [.ref 117, z1, .int x2, z3] [] v s1 K := by
    intro t
    induction t with
    | zero =>
      intro _ x2 s1 z1 z3 hx hf he
      refine st_Bundle_weigh_16 ⟨fun _ => hK _ (hf.sI (Or.inr ⟨rfl, rfl⟩)) (fun set hs => ?_) ?_, fun z => absurd (by omega) z⟩
      · refine eqR_up (he set (Nat.zero_le _) hs) (fun k _ => ?_)
        rw [r_II, if_neg (by omega)]
      · rw [r_II, if_pos ⟨rfl, rfl⟩, r_II, if_neg (by omega)]
    | succ t ih =>
      intro ht x2 s1 z1 z3 hx hf he
      have hx : x2 = nI t := i_inj (by rw [hx, nI_toInt (by omega)]; omega)
      subst hx
      have et : (nI t).toInt = t := nI_toInt (by omega)
      have LP : ∀ j i : Nat, i + j = M → ∀ (s2 : hS) (z1 : Value), Fr (fun c k => c = 123 ∧ k = t) s1 s2 → mfF (fun i => coF M fk fa t i + (rI s1 123 (t ||| 2 ^ i)).toInt) (fun i => t.testBit i) j i (rI s2 123 t).toInt = mfF (fun i => coF M fk fa t i + (rI s1 123 (t ||| 2 ^ i)).toInt) (fun i => t.testBit i) M 0 1000000 → (rI s2 123 t).toInt ≤ 1000000 → pgV (d + 2) 124 25 [.ref 117, z1, .int (nI t), .int (nI i)] [] v s2 K := by
        intro j
        induction j with
        | zero =>
          intro i hi s2 z1 hf2 hm hle
          have B2 : rI s2 117 3 = nI M := by rw [hf2.i (by omega), hf.i (by omega)]; exact hB.1
          have B2 : rI s2 117 3 = nI M := B2
          refine st_Bundle_weigh_25 ?_
          rw [B2, nI_toInt (show i < 2147483648 by omega), nI_toInt (show M < 2147483648 by omega)]
          refine ⟨fun z => absurd z (by omega), fun _ => ih (by omega) _ s2 _ _ (i_m1 et (by omega)) (hf.tr (hf2.mo (fun c k z => Or.inl z.1))) (fun set h1 h2 => ?_)⟩
          by_cases cs : set = t
          · subst cs
            have hm : (rI s2 123 set).toInt = mfF (fun i => coF M fk fa set i + (rI s1 123 (set ||| 2 ^ i)).toInt) (fun i => set.testBit i) M 0 1000000 := hm
            unfold eqR
            rw [if_neg (by omega)]
            show (rI s2 123 set).toInt = _
            rw [hm]
            refine mfF_cg M 0 _ (fun i _ _ hb => ?_)
            have g2 := or_gt (set := set) (i := i) hb
            show coF M fk fa set i + (rI s1 123 (set ||| 2 ^ i)).toInt = coF M fk fa set i + (rI s2 123 (set ||| 2 ^ i)).toInt
            rw [hf2.i (by omega)]
          · refine eqR_up (he set (by omega) h2) (fun k hk => ?_)
            show (rI s1 123 k).toInt = (rI s2 123 k).toInt
            rw [hf2.i (by omega)]
        | succ j ihj =>
          intro i hi s2 z1 hf2 hm hle
          have hff := hf.tr (hf2.mo (W' := fun c k => c = 123 ∨ (c = 117 ∧ k = 9)) (fun c k z => Or.inl z.1))
          have B2 := cBu_fr hB hff (by omega) (fun k => by omega)
          have B3 : rI s2 117 3 = nI M := B2.1
          have q1 : nI i + 1 = nI (i + 1) := by rw [nI_1]
          have em : ∀ acc, mfF (fun i => coF M fk fa t i + (rI s1 123 (t ||| 2 ^ i)).toInt) (fun i => t.testBit i) (j + 1) i acc = mfF (fun i => coF M fk fa t i + (rI s1 123 (t ||| 2 ^ i)).toInt) (fun i => t.testBit i) j (i + 1) (if t.testBit i = true then acc else mn2 acc (coF M fk fa t i + (rI s1 123 (t ||| 2 ^ i)).toInt)) := fun acc => rfl
          rw [em] at hm
          refine st_Bundle_weigh_25 ?_
          rw [B3, b_0 (by omega) (by omega), nI_toInt (show i < 2147483648 by omega), nI_toInt (show M < 2147483648 by omega), et, Int.toNat_natCast, q1, b_or (by omega) (by omega)]
          refine ⟨fun _ => ⟨fun c => ⟨by omega, ?_⟩, fun c => ?_⟩, fun z => absurd (by omega) z⟩
          · have g1 := or_lt (M := M) (show t < 2 ^ M by omega) (show i < M by omega)
            have g2 := or_gt c
            have eo : (nI (t ||| 2 ^ i)).toInt = ((t ||| 2 ^ i : Nat) : Int) := nI_toInt (by omega)
            refine sp_costOf hM B2 hfk (by omega) (by omega) (fun w hw => ?_)
            rw [eo, Int.toNat_natCast]
            refine ⟨by omega, ?_⟩
            have hcb := coF_b (fk := fk) (fa := fa) hM t i
            have heq := he (t ||| 2 ^ i) (by omega) g1
            have hRb : 0 ≤ (rI s1 123 (t ||| 2 ^ i)).toInt ∧ (rI s1 123 (t ||| 2 ^ i)).toInt ≤ 5000 := by
              have := eqR_bT hM (T := t + 1) he (2 ^ M - 1 - (t ||| 2 ^ i)) (t ||| 2 ^ i) (by omega) (by omega)
              omega
            have er : rI s2 123 (t ||| 2 ^ i) = rI s1 123 (t ||| 2 ^ i) := hf2.i (by omega)
            have es : (w + rI s2 123 (t ||| 2 ^ i)).toInt = coF M fk fa t i + (rI s1 123 (t ||| 2 ^ i)).toInt := by rw [er, i_add (by omega), hw]
            rw [c, if_neg (by decide)] at hm
            have ST : ∀ w4 : Int32, w4.toInt = mn2 (rI s2 123 t).toInt (coF M fk fa t i + (rI s1 123 (t ||| 2 ^ i)).toInt) → (0 ≤ (t : Int) ∧ (t : Int) < 256) ∧ pgV (d + 2) 124 25 [.ref 117, z1, .int (nI t), .int (nI (i + 1))] [] v (sI s2 123 t w4) K := fun w4 hw4 => by
              refine ⟨by omega, ihj (i + 1) (by omega) _ _ (hf2.sI ⟨rfl, rfl⟩) ?_ ?_⟩
              · rw [r_II, if_pos ⟨rfl, rfl⟩, hw4]; exact hm
              · rw [r_II, if_pos ⟨rfl, rfl⟩, hw4]; unfold mn2; split <;> omega
            refine st_Math_min ⟨fun c2 => ST _ ?_, fun c2 => ST _ ?_⟩
            · rw [es] at c2 ⊢; unfold mn2; rw [if_pos c2]
            · rw [es] at c2; unfold mn2; rw [if_neg c2]
          · have c : t.testBit i = true := by cases hh : t.testBit i with | true => rfl | false => exact absurd hh c
            rw [c, if_pos rfl] at hm
            exact ihj (i + 1) (by omega) s2 z1 hf2 hm hle
      refine st_Bundle_weigh_16 ⟨fun z => absurd z (by omega), fun _ => ?_⟩
      rw [et, Int.toNat_natCast]
      refine ⟨by omega, LP M 0 (by omega) _ _ ((Fr.rf _ s1).sI ⟨rfl, rfl⟩) ?_ ?_⟩
      · rw [r_II, if_pos ⟨rfl, rfl⟩]; rfl
      · rw [r_II, if_pos ⟨rfl, rfl⟩]; decide
  have B3 : rI s 117 3 = nI M := hB.1
  have ea : (((1 : Int32) <<< (nI M &&& 31)) - 1).toInt = ((2 ^ M - 1 : Nat) : Int) := by
    rw [b_sh (by omega), i_sub (by rw [nI_toInt (by omega), e1]; omega), nI_toInt (by omega), e1]; omega
  refine st_Bundle_weigh ?_
  rw [B3, ea, Int.toNat_natCast]
  refine ⟨by omega, A (2 ^ M - 1) (Nat.le_refl _) _ _ _ _ ?_ ((Fr.rf _ s).sI (Or.inl rfl)) (fun set h1 h2 => ?_)⟩
  · rw [i_sub (by rw [ea, e1]; omega), ea, e1]
  · unfold eqR
    rw [if_pos (by omega)]
    show (rI (sI s 123 (2 ^ M - 1) 0) 123 set).toInt = 0
    rw [r_II, if_pos ⟨rfl, by omega⟩]; rfl
theorem sp_layOut (hM : M ≤ 8) (hB : cBu M o fk fa s) (hfk : ∀ i, fk i ≤ 2) (hE : ∀ set, set < 2 ^ M → eqR M fk fa (fun k => (rI s 123 k).toInt) set) {K : hS → Prop} (hK : ∀ s2, Fr (fun c _ => c = 124) s s2 → (∀ j, j < M → rI s2 124 j = nI (o (nxR M fk fa (fun k => (rI s 123 k).toInt) (inR M fk fa (fun k => (rI s 123 k).toInt) j)))) → K s2) : pcV (d + 2) 127 [.ref 117] v s K := by
  have hp := pw8 hM
  have e1 : Int32.toInt 1 = 1 := rfl
  have hR2 := fun set (hs : set < 2 ^ M) => eqR_b2 hM hE hs
  have hok := inR_ok hM hE
  have hna := fun j (hj : j < M) => inR_na hM hE hj
  generalize hR : (fun k => (rI s 123 k).toInt) = R at *
  have hRk : ∀ k, (rI s 123 k).toInt = R k := fun k => by rw [← hR]
  have G : ∀ q j : Nat, j + q = M → ∀ (s1 : hS) (z3 z4 : Value), Fr (fun c _ => c = 124) s s1 → (∀ k, k < j → rI s1 124 k = nI (o (nxR M fk fa R (inR M fk fa R k)))) → pgV (d + 2) 127 4 [.ref 117, .int (nI (inR M fk fa R j)), .int (nI j), z3, z4] [] v s1 K := by
    intro q
    induction q with
    | zero =>
      intro j hj s1 z3 z4 hf ho
      have B3 : rI s1 117 3 = nI M := by rw [hf.i (by omega)]; exact hB.1
      refine st_Bundle_layOut_4 ?_
      rw [B3, nI_toInt (show j < 2147483648 by omega), nI_toInt (show M < 2147483648 by omega)]
      exact ⟨fun z => absurd z (by omega), fun _ => hK s1 hf (fun k hk => ho k (by omega))⟩
    | succ q ih =>
      intro j hj s1 z3 z4 hf ho
      have hjM : j < M := by omega
      have B1 := cBu_fr hB hf (by omega) (fun k => by omega)
      have B3 : rI s1 117 3 = nI M := B1.1
      obtain ⟨h1, h2⟩ := hok j (by omega)
      have ih1 := ih (j + 1) (by omega)
      have hset : inR M fk fa R (j + 1) = inR M fk fa R j ||| 2 ^ nxR M fk fa R (inR M fk fa R j) := rfl
      rw [hset] at ih1
      clear hset
      have hn : inR M fk fa R j ≠ 2 ^ M - 1 := hna j hjM
      obtain ⟨n1, n2, n3⟩ := nx_ex hM hE h1 hn
      have NXE : nlF (fitR M fk fa R (inR M fk fa R j)) M 0 = nxR M fk fa R (inR M fk fa R j) := rfl
      have hoJ : ∀ k, k = j → nI (o (nxR M fk fa R (inR M fk fa R k))) = nI (o (nxR M fk fa R (inR M fk fa R j))) := fun k hk => by rw [hk]
      generalize nxR M fk fa R (inR M fk fa R j) = nx at *
      generalize inR M fk fa R j = set at *
      clear h2
      have es : (nI set).toInt = set := nI_toInt (by omega)
      have LP : ∀ n : Nat, n ≤ M → ∀ (acc : Nat) (x4 : Int32), x4.toInt = (n : Int) - 1 → acc < 256 → nlF (fitR M fk fa R set) n acc = nx → pgV (d + 2) 127 15 [.ref 117, .int (nI set), .int (nI j), .int (nI acc), .int x4] [] v s1 K := by
        intro n
        induction n with
        | zero =>
          intro hn acc x4 hx hacc hnl
          have hnl : acc = nx := hnl
          have q1 : nI j + 1 = nI (j + 1) := by rw [nI_1]
          have ea : (nI acc).toInt = acc := nI_toInt (by omega)
          refine st_Bundle_layOut_15 ⟨fun _ => ?_, fun z => absurd (by omega) z⟩
          rw [ea, Int.toNat_natCast, nI_toInt (show j < 2147483648 by omega), Int.toNat_natCast, q1, b_or (by omega) (by omega), hnl]
          refine ⟨by omega, by omega, ih1 _ _ _ (hf.sI rfl) (fun k hk => ?_)⟩
          rw [r_II]
          by_cases ck : k = j
          · rw [if_pos ⟨rfl, ck⟩, hoJ k ck]; exact (B1.2 _ n1 (by omega)).1
          · rw [if_neg (fun z => ck z.2)]; exact ho k (by omega)
        | succ n ihn =>
          intro hn acc x4 hx hacc hnl
          have hx : x4 = nI n := i_inj (by rw [hx, nI_toInt (by omega)]; omega)
          subst hx
          have en : (nI n).toInt = n := nI_toInt (by omega)
          have enl : nlF (fitR M fk fa R set) (n + 1) acc = nlF (fitR M fk fa R set) n (if fitR M fk fa R set n = true then n else acc) := rfl
          rw [enl] at hnl
          refine st_Bundle_layOut_15 ⟨fun z => absurd z (by omega), fun _ => ?_⟩
          rw [b_0 (by omega) (by omega), b_or (by omega) (by omega), es, Int.toNat_natCast]
          refine ⟨fun c => sp_costOf hM B1 hfk h1 (by omega) (fun w hw => ?_), fun c => ?_⟩
          · have g1 := or_lt (M := M) h1 (show n < M by omega)
            have eo : (nI (set ||| 2 ^ n)).toInt = ((set ||| 2 ^ n : Nat) : Int) := nI_toInt (by omega)
            have hcb := coF_b (fk := fk) (fa := fa) hM set n
            have b2 := hR2 _ g1
            have g3 : rI s1 123 (set ||| 2 ^ n) = rI s 123 (set ||| 2 ^ n) := hf.i (by omega)
            have g4 : rI s1 123 set = rI s 123 set := hf.i (by omega)
            have r3 : (rI s 123 (set ||| 2 ^ n)).toInt = R (set ||| 2 ^ n) := hRk _
            have r4 : (rI s 123 set).toInt = R set := hRk _
            have es2 : (w + rI s1 123 (set ||| 2 ^ n)).toInt = coF M fk fa set n + R (set ||| 2 ^ n) := by rw [g3, i_add (by rw [r3]; omega), r3, hw]
            rw [eo, Int.toNat_natCast, es2, g4, r4]
            refine ⟨by omega, by omega, fun c2 => ihn (by omega) n _ (i_m1 en (by omega)) (by omega) ?_, fun c2 => ihn (by omega) acc _ (i_m1 en (by omega)) hacc ?_⟩
            · rw [if_pos (by unfold fitR; rw [c, decide_eq_true c2]; rfl)] at hnl; exact hnl
            · rw [if_neg (by unfold fitR; rw [c, decide_eq_false c2]; exact Bool.false_ne_true)] at hnl; exact hnl
          · have c : set.testBit n = true := by cases hh : set.testBit n with | true => rfl | false => exact absurd hh c
            refine ihn (by omega) acc _ (i_m1 en (by omega)) hacc ?_
            rw [if_neg (by unfold fitR; rw [c]; exact Bool.false_ne_true)] at hnl; exact hnl
      refine st_Bundle_layOut_4 ?_
      rw [B3, nI_toInt (show j < 2147483648 by omega), nI_toInt (show M < 2147483648 by omega)]
      refine ⟨fun _ => LP M (Nat.le_refl _) 0 _ ?_ (by decide) NXE, fun z => absurd (by omega) z⟩
      rw [i_sub (by rw [nI_toInt (by omega), e1]; omega), nI_toInt (by omega), e1]
  have G0 := fun z3 z4 => G M 0 (by omega) s z3 z4 (Fr.rf _ _) (fun k hk => absurd hk (Nat.not_lt_zero k))
  have e0 : inR M fk fa R 0 = 0 := rfl
  rw [e0] at G0
  exact st_Bundle_layOut (G0 _ _)
end
