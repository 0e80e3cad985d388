/-! THE TRIPOD: the pairs tripod(), fork(), order() -/
section
variable {d : Nat} {v : hV} {s s1 : hS} {a b c : Nat} {c0 c1 c2 : Int} {L : rgL} {M : Nat} {o : Nat → Nat} {R : Nat → Int}
theorem i_ex {x : Int32} {n : Nat} (h : 0 ≤ x.toInt ∧ x.toInt < n) : ∃ m : Nat, m < n ∧ x = nI m := ⟨x.toInt.toNat, by omega, i_of h.1⟩
theorem mfF_all {g : Nat → Int} {q : Nat → Bool} : ∀ j i acc, (∀ k, i ≤ k → k < i + j → q k = true) → mfF g q j i acc = acc := by
  intro j
  induction j with
  | zero => intro i acc _; rfl
  | succ j ih =>
    intro i acc h
    show mfF g q j (i + 1) (if q i = true then acc else mn2 acc (g i)) = acc
    rw [if_pos (h i (Nat.le_refl _) (by omega))]
    exact ih _ _ (fun k h1 h2 => h k (by omega) (by omega))
theorem sm_rest (hM : M ≤ 8) (hSC : sCo L c0 c1 c2 M o) (hm : mCo L c0 c1 c2 s) (hB : mBu M o s) {x1 : Int32} {z4 z5 : Value} {K : Int32 → hS → Prop} (hK : ∀ s2, Fr (fun c _ => c = 173) s s2 → (∀ set, set < 2 ^ M → eqR M (fkD L c0 c1 c2 o) (faD L c0 c1 c2 o) (fun k => (rI s2 173 k).toInt) set) → (x1.toInt = -1 → K (rI s2 173 0) s2) ∧ (¬ x1.toInt = -1 → ∀ z2 z5, pgI (d + 3) 223 92 [.ref 145, .int x1, z2, .int 0, .int 0, z5] [] v s2 K)) : pgI (d + 3) 223 22 [.ref 145, .int x1, .int (nI (2 ^ M - 1)), .int (nI (2 ^ M - 1)), z4, z5] [] v s K := by
  have hp := pw8 hM
  have A : ∀ t : Nat, t ≤ 2 ^ M → ∀ (x3 : Int32) (s1 : hS) (z4 z5 : Value), x3.toInt = (t : Int) - 1 → Fr (fun c _ => c = 173) s s1 → (∀ set, t ≤ set → set < 2 ^ M → eqR M (fkD L c0 c1 c2 o) (faD L c0 c1 c2 o) (fun k => (rI s1 173 k).toInt) set) → pgI (d + 3) 223 22 [.ref 145, .int x1, .int (nI (2 ^ M - 1)), .int x3, z4, z5] [] v s1 K := by
    intro t
    induction t with
    | zero =>
      intro _ x3 s1 z4 z5 hx hf he
      have := hK s1 hf (fun set hs => he set (Nat.zero_le _) hs)
      exact st_M_order_22 ⟨fun _ => ⟨this.1, fun z => this.2 z _ _⟩, fun z => absurd (by omega) z⟩
    | succ t ih =>
      intro ht x3 s1 z4 z5 hx hf he
      have hx : x3 = nI t := i_inj (by rw [hx, nI_toInt (by omega)]; omega)
      subst hx
      have et : (nI t).toInt = t := nI_toInt (by omega)
      have ea : (nI (2 ^ M - 1)).toInt = ((2 ^ M - 1 : Nat) : Int) := nI_toInt (by omega)
      have LP : ∀ j i : Nat, i + j = M → ∀ (s2 : hS) (z5 : Value), Fr (fun c k => c = 173 ∧ k = t) s1 s2 → mfF (fun i => coF M (fkD L c0 c1 c2 o) (faD L c0 c1 c2 o) t i + (rI s1 173 (t ||| 2 ^ i)).toInt) (fun i => t.testBit i) j i (rI s2 173 t).toInt = mfF (fun i => coF M (fkD L c0 c1 c2 o) (faD L c0 c1 c2 o) t i + (rI s1 173 (t ||| 2 ^ i)).toInt) (fun i => t.testBit i) M 0 (if t = 2 ^ M - 1 then 0 else 1000000) → (rI s2 173 t).toInt ≤ 1000000 → pgI (d + 3) 223 36 [.ref 145, .int x1, .int (nI (2 ^ M - 1)), .int (nI t), .int (nI i), z5] [] v s2 K := by
        intro j
        induction j with
        | zero =>
          intro i hi s2 z5 hf2 hmm hle
          have B2 : rI s2 145 41 = nI M := by rw [hf2.i (by omega), hf.i (by omega)]; exact hB.1
          refine st_M_order_36 ?_
          rw [B2, nI_toInt (show i < 2147483648 by omega), nI_toInt (show M < 2147483648 by omega)]
          refine ⟨fun z => absurd z (by omega), fun _ => ih (by omega) _ s2 _ _ (i_m1 et (by omega)) (hf.tr (hf2.mo (fun c k z => z.1))) (fun set h1 h2 => ?_)⟩
          by_cases cs : set = t
          · subst cs
            have hmm : (rI s2 173 set).toInt = mfF (fun i => coF M (fkD L c0 c1 c2 o) (faD L c0 c1 c2 o) set i + (rI s1 173 (set ||| 2 ^ i)).toInt) (fun i => set.testBit i) M 0 (if set = 2 ^ M - 1 then 0 else 1000000) := hmm
            unfold eqR
            show (rI s2 173 set).toInt = _
            rw [hmm]
            by_cases ca : set = 2 ^ M - 1
            · rw [if_pos ca, if_pos ca]
              refine mfF_all M 0 0 (fun k _ hk => ?_)
              rw [ca, Nat.testBit_two_pow_sub_one]; exact decide_eq_true (by omega)
            · rw [if_neg ca, if_neg ca]
              refine mfF_cg M 0 _ (fun i _ _ hb => ?_)
              have g2 := or_gt (set := set) (i := i) hb
              show coF M (fkD L c0 c1 c2 o) (faD L c0 c1 c2 o) set i + (rI s1 173 (set ||| 2 ^ i)).toInt = coF M (fkD L c0 c1 c2 o) (faD L c0 c1 c2 o) set i + (rI s2 173 (set ||| 2 ^ i)).toInt
              rw [hf2.i (by omega)]
          · refine eqR_up (he set (by omega) h2) (fun k hk => ?_)
            show (rI s1 173 k).toInt = (rI s2 173 k).toInt
            rw [hf2.i (by omega)]
        | succ j ihj =>
          intro i hi s2 z5 hf2 hmm hle
          have hff := hf.tr (hf2.mo (W' := fun c _ => c = 173) (fun c k z => z.1))
          have B2 := mBu_fr hB hff (by omega) (fun k => by omega)
          have M2 := mCo_fr hm hff (fun k => by omega)
          have B3 : rI s2 145 41 = nI M := B2.1
          have q1 : nI i + 1 = nI (i + 1) := by rw [nI_1]
          have em : ∀ acc, mfF (fun i => coF M (fkD L c0 c1 c2 o) (faD L c0 c1 c2 o) t i + (rI s1 173 (t ||| 2 ^ i)).toInt) (fun i => t.testBit i) (j + 1) i acc = mfF (fun i => coF M (fkD L c0 c1 c2 o) (faD L c0 c1 c2 o) t i + (rI s1 173 (t ||| 2 ^ i)).toInt) (fun i => t.testBit i) j (i + 1) (if t.testBit i = true then acc else mn2 acc (coF M (fkD L c0 c1 c2 o) (faD L c0 c1 c2 o) t i + (rI s1 173 (t ||| 2 ^ i)).toInt)) := fun acc => rfl
          rw [em] at hmm
          have STO : ∀ (w4 : Int32) (z5 : Value), w4.toInt = (if t.testBit i = true then (rI s2 173 t).toInt else mn2 (rI s2 173 t).toInt (coF M (fkD L c0 c1 c2 o) (faD L c0 c1 c2 o) t i + (rI s1 173 (t ||| 2 ^ i)).toInt)) → pgI (d + 3) 223 36 [.ref 145, .int x1, .int (nI (2 ^ M - 1)), .int (nI t), .int (nI (i + 1)), z5] [] v (sI s2 173 t w4) K := fun w4 z5 hw4 => by
            refine ihj (i + 1) (by omega) _ z5 (hf2.sI ⟨rfl, rfl⟩) ?_ ?_
            · rw [r_II, if_pos ⟨rfl, rfl⟩, hw4]; exact hmm
            · rw [r_II, if_pos ⟨rfl, rfl⟩, hw4]; unfold mn2; repeat' split
              all_goals omega
          refine st_M_order_36 ?_
          rw [B3, nI_toInt (show i < 2147483648 by omega), nI_toInt (show M < 2147483648 by omega), et, Int.toNat_natCast, q1, b_or (by omega) (by omega)]
          refine ⟨fun _ => sm_has (by omega) (by omega) (fun tb => ⟨fun z => absurd z (by decide), fun _ => ⟨by omega, fun z => absurd z (by omega), fun _ => ⟨by omega, by omega, STO _ _ (by rw [if_pos tb])⟩⟩⟩) (fun tb => ⟨fun _ => ?_, fun z => absurd rfl z⟩), fun z => absurd (by omega) z⟩
          have tn : t ≠ 2 ^ M - 1 := fun z => by
            rw [z, Nat.testBit_two_pow_sub_one, decide_eq_true (by omega)] at tb; exact absurd tb (by decide)
          have g1 := or_lt (M := M) (show t < 2 ^ M by omega) (show i < M by omega)
          have g2 := or_gt tb
          have eo : (nI (t ||| 2 ^ i)).toInt = ((t ||| 2 ^ i : Nat) : Int) := nI_toInt (by omega)
          refine sm_costOf hM hSC M2 B2 (by omega) (by omega) (fun w hw => ?_)
          rw [eo, Int.toNat_natCast]
          have hcb := coF_b (fk := fkD L c0 c1 c2 o) (fa := faD L c0 c1 c2 o) hM t i
          have hRb : 0 ≤ (rI s1 173 (t ||| 2 ^ i)).toInt ∧ (rI s1 173 (t ||| 2 ^ i)).toInt ≤ 5000 := by
            have := eqR_bT hM (T := t + 1) he (2 ^ M - 1 - (t ||| 2 ^ i)) (t ||| 2 ^ i) (by omega) (by omega)
            omega
          have er : rI s2 173 (t ||| 2 ^ i) = rI s1 173 (t ||| 2 ^ i) := hf2.i (by omega)
          have es : (w + rI s2 173 (t ||| 2 ^ i)).toInt = coF M (fkD L c0 c1 c2 o) (faD L c0 c1 c2 o) t i + (rI s1 173 (t ||| 2 ^ i)).toInt := by rw [er, i_add (by omega), hw]
          rw [es]
          have tbn : ¬ t.testBit i = true := by rw [tb]; exact Bool.false_ne_true
          refine ⟨by omega, by omega, fun c2 => ⟨by omega, STO _ _ ?_⟩, fun c2 => ⟨by omega, by omega, STO _ _ ?_⟩⟩
          · rw [es, if_neg tbn, mn2, if_pos c2]
          · rw [if_neg tbn, mn2, if_neg c2]
      have fs : ∀ w : Int32, Fr (fun c k => c = 173 ∧ k = t) s1 (sI s1 173 t w) := fun w => (Fr.rf _ s1).sI ⟨rfl, rfl⟩
      refine st_M_order_22 ⟨fun z => absurd z (by omega), fun _ => ?_⟩
      rw [et, ea, Int.toNat_natCast]
      refine ⟨fun z => ⟨by omega, LP M 0 (by omega) _ _ (fs 0) ?_ ?_⟩, fun z => ⟨by omega, LP M 0 (by omega) _ _ (fs 1000000) ?_ ?_⟩⟩
      · rw [r_II, if_pos ⟨rfl, rfl⟩, if_pos (by omega)]; rfl
      · rw [r_II, if_pos ⟨rfl, rfl⟩]; decide
      · rw [r_II, if_pos ⟨rfl, rfl⟩, if_neg (by omega)]; rfl
      · rw [r_II, if_pos ⟨rfl, rfl⟩]; decide
  exact A (2 ^ M) (Nat.le_refl _) _ s _ _ (by rw [nI_toInt (by omega)]; omega) (Fr.rf _ _) (fun set h1 h2 => absurd h2 (by omega))
theorem sm_lay (hM : M ≤ 8) (hSC : sCo L c0 c1 c2 M o) (hm : mCo L c0 c1 c2 s) (hB : mBu M o s) (hE : ∀ set, set < 2 ^ M → eqR M (fkD L c0 c1 c2 o) (faD L c0 c1 c2 o) R set) (hR : ∀ set, set < 2 ^ M → (rI s 173 set).toInt = R set) {x1 : Int32} {z2 z5 : Value} {K : Int32 → hS → Prop} (h1 : ¬ (0 ≤ x1.toInt ∧ x1.toInt < M) → K (-1) s) (h2 : ∀ j : Nat, j < M → x1.toInt = j → K (nI (o (nxR M (fkD L c0 c1 c2 o) (faD L c0 c1 c2 o) R (inR M (fkD L c0 c1 c2 o) (faD L c0 c1 c2 o) R j)))) s) : pgI (d + 3) 223 92 [.ref 145, .int x1, z2, .int 0, .int 0, z5] [] v s K := by
  have hp := pw8 hM
  have hok := inR_ok hM hE
  have hna := fun j (hj : j < M) => inR_na hM hE hj
  have hR2 := fun set (hs : set < 2 ^ M) => eqR_b2 hM hE hs
  have B3 : rI s 145 41 = nI M := hB.1
  have G : ∀ q j : Nat, j + q = M → (∀ k : Nat, k < j → x1.toInt ≠ k) → ∀ z2 z5 : Value, pgI (d + 3) 223 92 [.ref 145, .int x1, z2, .int (nI (inR M (fkD L c0 c1 c2 o) (faD L c0 c1 c2 o) R j)), .int (nI j), z5] [] v s K := by
    intro q
    induction q with
    | zero =>
      intro j hj hne z2 z5
      refine st_M_order_92 ?_
      rw [B3, nI_toInt (show j < 2147483648 by omega), nI_toInt (show M < 2147483648 by omega)]
      refine ⟨fun z => absurd z (by omega), fun _ => h1 (fun z => ?_)⟩
      have := hne x1.toInt.toNat (by omega)
      omega
    | succ q ih =>
      intro j hj hne z2 z5
      have hjM : j < M := by omega
      have ih1 := ih (j + 1) (by omega)
      have h2j := h2 j hjM
      have hset : inR M (fkD L c0 c1 c2 o) (faD L c0 c1 c2 o) R (j + 1) = inR M (fkD L c0 c1 c2 o) (faD L c0 c1 c2 o) R j ||| 2 ^ nxR M (fkD L c0 c1 c2 o) (faD L c0 c1 c2 o) R (inR M (fkD L c0 c1 c2 o) (faD L c0 c1 c2 o) R j) := rfl
      rw [hset] at ih1
      clear hset
      have hs1 := (hok j (by omega)).1
      have hn := hna j hjM
      obtain ⟨n1, n2, n3⟩ := nx_ex hM hE hs1 hn
      generalize nxR M (fkD L c0 c1 c2 o) (faD L c0 c1 c2 o) R (inR M (fkD L c0 c1 c2 o) (faD L c0 c1 c2 o) R j) = nx at *
      generalize inR M (fkD L c0 c1 c2 o) (faD L c0 c1 c2 o) R j = set at *
      have es : (nI set).toInt = set := nI_toInt (by omega)
      have LP : ∀ m i : Nat, i + m = nx → ∀ z2 : Value, pgI (d + 3) 223 98 [.ref 145, .int x1, z2, .int (nI set), .int (nI j), .int (nI i)] [] v s K := by
        have COST : ∀ i, i < M → set.testBit i = false → ∀ (Kc : Int32 → hS → Prop), (∀ w : Int32, ((0 ≤ ((set ||| 2 ^ i : Nat) : Int) ∧ ((set ||| 2 ^ i : Nat) : Int) < 256) ∧ (w + rI s 173 (set ||| 2 ^ i)).toInt = coF M (fkD L c0 c1 c2 o) (faD L c0 c1 c2 o) set i + R (set ||| 2 ^ i)) → Kc w s) → pcI (d + 2) 225 [.ref 145, .int (nI set), .int (nI i)] v s Kc := fun i hi tb Kc hk => sm_costOf hM hSC hm hB hs1 hi (fun w hw => hk w (by
          have g1 := or_lt (M := M) hs1 hi
          have hcb := coF_b (fk := fkD L c0 c1 c2 o) (fa := faD L c0 c1 c2 o) hM set i
          have b2 := hR2 _ g1
          have r3 : (rI s 173 (set ||| 2 ^ i)).toInt = R (set ||| 2 ^ i) := hR _ g1
          exact ⟨by omega, by rw [i_add (by omega), r3, hw]⟩))
        have r4 : (rI s 173 set).toInt = R set := hR _ hs1
        intro m
        induction m with
        | zero =>
          intro i hi z2
          have hi : i = nx := by omega
          subst hi
          unfold fitR at n2
          rw [Bool.and_eq_true, Bool.not_eq_true', decide_eq_true_iff] at n2
          have ei : (nI i).toInt = i := nI_toInt (by omega)
          have q1 : nI j + 1 = nI (j + 1) := by rw [nI_1]
          have hoi : rI s 172 i = nI (o i) := hB.2 i (by omega)
          have eo : (nI (set ||| 2 ^ i)).toInt = ((set ||| 2 ^ i : Nat) : Int) := by
            have := or_lt (M := M) hs1 n1
            exact nI_toInt (by omega)
          refine st_M_order_98 (sm_has (by omega) (by omega) (fun tb => absurd (n2.1.symm.trans tb) (by decide)) (fun tb => ⟨fun _ => COST i n1 tb _ (fun w hw => ?_), fun z => absurd rfl z⟩))
          rw [b_or (by omega) (by omega), eo, es, Int.toNat_natCast, Int.toNat_natCast, hw.2, r4, ei, Int.toNat_natCast, hoi, nI_toInt (show j < 2147483648 by omega), q1]
          refine ⟨hw.1, by omega, fun _ => ⟨fun z => ⟨by omega, h2j z.symm⟩, fun z => ih1 (fun k hk => ?_) _ _⟩, fun z => absurd n2.2 z⟩
          by_cases ck : k = j
          · rw [ck]; exact fun y => z y.symm
          · exact hne k (by omega)
        | succ m ihm =>
          intro i hi z2
          have nf := n3 i (by omega)
          have q1 : nI i + 1 = nI (i + 1) := by rw [nI_1]
          unfold fitR at nf
          refine st_M_order_98 (sm_has (by omega) (by omega) (fun tb => ⟨fun z => absurd z (by decide), fun _ => ?_⟩) (fun tb => ⟨fun _ => COST i (by omega) tb _ (fun w hw => ?_), fun z => absurd rfl z⟩))
          · rw [q1]; exact ihm (i + 1) (by omega) _
          · have eo : (nI (set ||| 2 ^ i)).toInt = ((set ||| 2 ^ i : Nat) : Int) := by
              have := or_lt (M := M) hs1 (show i < M by omega)
              exact nI_toInt (by omega)
            rw [b_or (by omega) (by omega), eo, es, Int.toNat_natCast, Int.toNat_natCast, hw.2, r4, q1]
            refine ⟨hw.1, by omega, fun z => ?_, fun _ => ihm (i + 1) (by omega) _⟩
            rw [tb, decide_eq_true z] at nf
            exact absurd nf (by decide)
      refine st_M_order_92 ?_
      rw [B3, nI_toInt (show j < 2147483648 by omega), nI_toInt (show M < 2147483648 by omega)]
      exact ⟨fun _ => LP nx 0 (by omega) _, fun z => absurd (by omega) z⟩
  have G0 := fun z2 z5 => G M 0 (by omega) (fun k hk => absurd hk (Nat.not_lt_zero k)) z2 z5
  have e0 : inR M (fkD L c0 c1 c2 o) (faD L c0 c1 c2 o) R 0 = 0 := rfl
  rw [e0] at G0
  exact G0 _ _
theorem tri_bit {a b c p : Nat} : ((2 ^ a ||| 2 ^ b) ||| 2 ^ c).testBit p = lgP a b c p := by
  rw [Nat.testBit_or, Nat.testBit_or, Nat.testBit_two_pow, Nat.testBit_two_pow, Nat.testBit_two_pow]
  unfold lgP
  rw [Bool.or_assoc, show decide (a = p) = decide (p = a) from decide_eq_decide.mpr ⟨fun z => z.symm, fun z => z.symm⟩, show decide (b = p) = decide (p = b) from decide_eq_decide.mpr ⟨fun z => z.symm, fun z => z.symm⟩, show decide (c = p) = decide (p = c) from decide_eq_decide.mpr ⟨fun z => z.symm, fun z => z.symm⟩]
theorem tri_lt {a b c : Nat} (h : a < 16 ∧ b < 16 ∧ c < 16) : (2 ^ a ||| 2 ^ b) ||| 2 ^ c < 65536 := Nat.or_lt_two_pow (n := 16) (Nat.or_lt_two_pow (Nat.pow_lt_pow_right (by decide) h.1) (Nat.pow_lt_pow_right (by decide) h.2.1)) (Nat.pow_lt_pow_right (by decide) h.2.2)
/-- the tripod, as it stands in both -/
def oS (L : rgL) (a b c : Nat) (c0 c1 c2 : Int) (s : hS) : Prop := rgOK L ∧ dP 0 0 s L ∧ (a < L.length ∧ b < L.length ∧ c < L.length) ∧ sCo L c0 c1 c2 (oL a b c L.length).length (oD a b c L.length) ∧ (∀ p, p < L.length → lgP a b c p = false → (L.getD p (0, 0)).1 ≠ c0 ∧ (L.getD p (0, 0)).1 ≠ c1 ∧ (L.getD p (0, 0)).1 ≠ c2) ∧ lgS a b c c0 c1 c2 s ∧ rI s 145 38 = nI ((2 ^ a ||| 2 ^ b) ||| 2 ^ c) ∧ ((rI s 171 0).toInt = c0 ∧ (rI s 171 1).toInt = c1 ∧ (rI s 171 2).toInt = c2) ∧ rI s 117 3 = nI (oL a b c L.length).length ∧ oK L a b c c0 c1 c2 s
def pO (v : hV) (s : hS) : Prop := (rI s 117 2 = 0 ∧ rI s 145 37 = 0) ∨ (rI s 117 2 = 1 ∧ rI s 145 37 = 1 ∧ ∃ (L : rgL) (a b c : Nat) (c0 c1 c2 : Int), dR (vT v + 3) s L ∧ oS L a b c c0 c1 c2 s)
def fTr (c k : Nat) : Prop := fBu c k ∨ (c = 145 ∧ (k = 37 ∨ k = 38)) ∨ c = 171
def fOr (c k : Nat) : Prop := (c = 145 ∧ k = 41) ∨ c = 172 ∨ c = 173
theorem th_tripod (hv : kT (vT v)) (hT : pT v s) (x y z : Int32) : prI fTr v (d + 4) 119 220 [.int x, .int y, .int z] s (fun s2 => pO v s2 ∨ s2 = s) := by
  obtain ⟨T, L, LG, ok, k2, k3, gP, gG, r1, r2, m1, m2⟩ := pT_S hT
  have el0 : Int64.toInt 0 = 0 := rfl
  have e1 : Int32.toInt 1 = 1 := rfl
  have l16 := r1.2.1
  have hrP : kR (vT v + 3) := by unfold kT at hv; unfold kR; omega
  have hrr : 51 ≤ vT v ∧ vT v ≤ 66 := by unfold kT at hv; omega
  have eL : (nI L.length).toInt = L.length := nI_toInt (by omega)
  have eg : (((rI s 152 0) - 1).toInt64).toInt = L.length - 1 := by rw [m1.1, i_64, i_sub (by rw [eL, e1]; omega), eL, e1]
  have hn : (rI s (vT v + 3) 2).toInt = L.length := by rw [show rI s (vT v + 3) 2 = nI L.length from r1.1, eL]
  have O : ¬ ((0 ≤ x.toInt ∧ x.toInt < L.length) ∧ (0 ≤ y.toInt ∧ y.toInt < L.length) ∧ (0 ≤ z.toInt ∧ z.toInt < L.length) ∧ x.toInt ≠ y.toInt ∧ y.toInt ≠ z.toInt ∧ x.toInt ≠ z.toInt) → (Fr fTr s s ∧ pcI (d + 4) 220 [.ref 145, .int x, .int y, .int z] v s (fun x2 s2 => x2 = -1000000001 ∧ Fr fTr s s2 ∧ (pO v s2 ∨ s2 = s))) := by
    intro hno
    have D : (fun (x2 : Int32) s2 => x2 = -1000000001 ∧ Fr fTr s s2 ∧ (pO v s2 ∨ s2 = s)) (-1000000001) s := ⟨rfl, Fr.rf _ _, Or.inr rfl⟩
    refine ⟨Fr.rf _ _, st_M_tripod (sp_in (fun _ => D) (fun h1 => sp_in (fun _ => D) (fun h2 => sp_in (fun _ => D) (fun h3 => ⟨fun _ => D, fun h4 => ⟨fun _ => D, fun h5 => ⟨fun _ => D, fun h6 => absurd ?_ hno⟩⟩⟩))))⟩
    rw [eg, el0] at h1 h2 h3
    exact ⟨by omega, by omega, by omega, h4, h5, h6⟩
  refine st_S_tripod hv ?_
  rw [hn]
  refine ⟨fun q => O (by omega), fun q1 => ⟨fun q2 => ⟨fun q => O (by omega), fun q3 => ⟨fun q4 => ⟨fun q => O (by omega), fun q5 => ⟨fun q6 => ⟨fun q => O (by omega), fun q7 => ⟨fun q => O (by omega), fun q8 => ⟨fun q => O (by omega), fun q9 => ?_⟩⟩⟩, fun q => O (by omega)⟩⟩, fun q => O (by omega)⟩⟩, fun q => O (by omega)⟩⟩
  obtain ⟨a2, ha, rfl⟩ := i_ex (x := x) (n := L.length) ⟨by omega, q2⟩
  obtain ⟨b2, hb, rfl⟩ := i_ex (x := y) (n := L.length) ⟨by omega, q4⟩
  obtain ⟨c2', hc, rfl⟩ := i_ex (x := z) (n := L.length) ⟨by omega, q6⟩
  rw [nI_toInt (show a2 < 2147483648 by omega), nI_toInt (show b2 < 2147483648 by omega)] at q7
  rw [nI_toInt (show b2 < 2147483648 by omega), nI_toInt (show c2' < 2147483648 by omega)] at q8
  rw [nI_toInt (show a2 < 2147483648 by omega), nI_toInt (show c2' < 2147483648 by omega)] at q9
  have ga := rg_get gP ha
  have gb := rg_get gP hb
  have gc := rg_get gP hc
  have na : (L.getD a2 (0, 0)).1 ≠ (L.getD b2 (0, 0)).1 := fun z => q7 (by have := rg_inj gP ha hb z; omega)
  have nb : (L.getD b2 (0, 0)).1 ≠ (L.getD c2' (0, 0)).1 := fun z => q8 (by have := rg_inj gP hb hc z; omega)
  have nc : (L.getD a2 (0, 0)).1 ≠ (L.getD c2' (0, 0)).1 := fun z => q9 (by have := rg_inj gP ha hc z; omega)
  obtain ⟨C3, C4⟩ := c3_ok ga.1 gb.1 gc.1 na nb nc
  obtain ⟨c0, e0⟩ : ∃ c0, c0 = lo3 (L.getD a2 (0, 0)).1 (L.getD b2 (0, 0)).1 (L.getD c2' (0, 0)).1 := ⟨_, rfl⟩
  obtain ⟨c1, e1'⟩ : ∃ c0, c0 = mi3 (L.getD a2 (0, 0)).1 (L.getD b2 (0, 0)).1 (L.getD c2' (0, 0)).1 := ⟨_, rfl⟩
  obtain ⟨c2, e2⟩ : ∃ c0, c0 = hi3 (L.getD a2 (0, 0)).1 (L.getD b2 (0, 0)).1 (L.getD c2' (0, 0)).1 := ⟨_, rfl⟩
  rw [← e0, ← e1', ← e2] at C3 C4
  have NC : ∀ p, p < L.length → lgP a2 b2 c2' p = false → (L.getD p (0, 0)).1 ≠ c0 ∧ (L.getD p (0, 0)).1 ≠ c1 ∧ (L.getD p (0, 0)).1 ≠ c2 := fun p hp hl => by
    have : ¬ ((L.getD p (0, 0)).1 = (L.getD a2 (0, 0)).1 ∨ (L.getD p (0, 0)).1 = (L.getD b2 (0, 0)).1 ∨ (L.getD p (0, 0)).1 = (L.getD c2' (0, 0)).1) := fun z => by
      unfold lgP at hl
      rw [Bool.or_eq_false_iff, Bool.or_eq_false_iff, decide_eq_false_iff_not, decide_eq_false_iff_not, decide_eq_false_iff_not] at hl
      rcases z with z | z | z
      · exact hl.1 (rg_inj gP hp ha z)
      · exact hl.2.1 (rg_inj gP hp hb z)
      · exact hl.2.2 (rg_inj gP hp hc z)
    rw [C4] at this
    exact ⟨fun z => this (Or.inl z), fun z => this (Or.inr (Or.inl z)), fun z => this (Or.inr (Or.inr z))⟩
  refine sp_settle hrP r1 gP ⟨ha, hb, hc⟩ ⟨fun z => q7 (by omega), fun z => q8 (by omega), fun z => q9 (by omega)⟩ e0 e1' e2 (fun s1 f1 l1 t1 o1 k1 => ?_)
  have fb : ∀ c k, fBu c k → 117 ≤ c ∧ c ≤ 124 := fun c k z => z
  have D1 : dR (vT v + 3) s1 L := dR_rs r1 f1 (fun z => by have := fb _ _ z; omega) (fun k z => by have := fb _ _ z; omega) (fun k z => by have := fb _ _ z; omega)
  have P1 : dP 0 0 s1 L := dP_fr m1 f1 (fun c k z y => by have := fb _ _ y; unfold fP at z; omega)
  refine ⟨f1.mo (fun c k z => Or.inl z), ?_⟩
  have eg1 : (((rI s1 152 0) - 1).toInt64).toInt = L.length - 1 := by rw [f1.i (fun z => by have := fb _ _ z; omega)]; exact eg
  have ia : (nI a2).toInt = a2 := nI_toInt (by omega)
  have ib : (nI b2).toInt = b2 := nI_toInt (by omega)
  have ic : (nI c2').toInt = c2' := nI_toInt (by omega)
  refine st_M_tripod (sp_in (fun z => absurd (by rw [eg1, el0]; omega) z) (fun _ => sp_in (fun z => absurd (by rw [eg1, el0]; omega) z) (fun _ => sp_in (fun z => absurd (by rw [eg1, el0]; omega) z) (fun _ => ⟨fun z => absurd z (by omega), fun _ => ⟨fun z => absurd z (by omega), fun _ => ⟨fun z => absurd z (by omega), fun _ => ?_⟩⟩⟩))))
  rw [b_sh (by omega), b_sh (by omega), b_sh (by omega), n_or, n_or]
  have f2 : Fr (fun c k => c = 145 ∧ (k = 37 ∨ k = 38)) s1 (sI (sI s1 145 37 1) 145 38 (nI (2 ^ a2 ||| 2 ^ b2 ||| 2 ^ c2'))) := ((Fr.rf _ s1).sI ⟨rfl, Or.inl rfl⟩).sI ⟨rfl, Or.inr rfl⟩
  refine sm_tripod67 (c0 := c0) (c1 := c1) (c2 := c2) (fun p hp => ?_) l16 ⟨ha, hb, hc⟩ C3 C4 (fun s3 f3 d0 d1 d2 => ?_)
  · have := (P1.2.2 p hp).1
    rw [Nat.zero_add] at this
    rw [f2.i (by omega)]; exact this
  have F3 := f2.mo (W' := fun c k => (c = 145 ∧ (k = 37 ∨ k = 38)) ∨ c = 171) (fun c k z => Or.inl z)
  have F4 := F3.tr (f3.mo (W' := fun c k => (c = 145 ∧ (k = 37 ∨ k = 38)) ∨ c = 171) (fun c k z => Or.inr z))
  refine ⟨rfl, F4.mo (fun c k z => Or.inr z), Or.inl (Or.inr ⟨?_, ?_, L, a2, b2, c2', c0, c1, c2, ?_, gP, ?_, ⟨ha, hb, hc⟩, ⟨C3, l16, fun i hi => ?_⟩, NC, ?_, ?_, ⟨d0, d1, d2⟩, ?_, fun h8 => ?_⟩)⟩
  · rw [F4.i (by omega)]; exact t1
  · rw [f3.i (by omega), r_II, if_neg (by decide), r_II, if_pos ⟨rfl, rfl⟩]
  · exact dR_rs D1 F4 (by omega) (fun k => by omega) (fun k => by omega)
  · exact dP_fr P1 F4 (fun c k z => by unfold fP at z; omega)
  · obtain ⟨g1, g2⟩ := oL_get a2 b2 c2' L.length i hi
    exact ⟨g1, (rg_get gP g1).1, NC _ g1 g2⟩
  · unfold lgS; rw [F4.i (by omega), F4.i (by omega), F4.i (by omega), F4.i (by omega), F4.i (by omega), F4.i (by omega)]; exact l1
  · rw [f3.i (by omega), r_II, if_pos ⟨rfl, rfl⟩]
  · rw [F4.i (by omega)]; exact o1
  · obtain ⟨R, r1, r2, r3⟩ := k1 h8
    exact ⟨R, r1, by rw [F4.i (by omega)]; exact r2, fun j hj => by rw [F4.i (by omega)]; exact r3 j hj⟩
theorem th_fork (hv : kT (vT v)) (hT : pT v s) (h : pO v s) (x : Int32) : prI fTr v (d + 3) 128 221 [.int x] s (fun s2 => s2 = s) := by
  obtain ⟨T, L0, LG, ok, k2, k3, gP, gG, r1, r2, m1, m2⟩ := pT_S hT
  have el0 : Int64.toInt 0 = 0 := rfl
  have e1 : Int32.toInt 1 = 1 := rfl
  have l16 := r1.2.1
  have hrP : kR (vT v + 3) := by unfold kT at hv; unfold kR; omega
  have eL : (nI L0.length).toInt = L0.length := nI_toInt (by omega)
  have eg : (((rI s 152 0) - 1).toInt64).toInt = L0.length - 1 := by rw [m1.1, i_64, i_sub (by rw [eL, e1]; omega), eL, e1]
  have hn : (rI s (vT v + 3) 2).toInt = L0.length := by rw [show rI s (vT v + 3) 2 = nI L0.length from r1.1, eL]
  have O : ¬ (0 ≤ x.toInt ∧ x.toInt < L0.length) → (Fr fTr s s ∧ pcI (d + 3) 221 [.ref 145, .int x] v s (fun x2 s2 => x2 = -1000000001 ∧ Fr fTr s s2 ∧ s2 = s)) := fun hno => ⟨Fr.rf _ _, st_M_fork (sp_in (fun _ => ⟨rfl, Fr.rf _ _, rfl⟩) (fun z => absurd z (by rw [eg, el0]; omega)))⟩
  refine st_S_fork hv ?_
  rw [hn]
  refine ⟨fun q => O (by omega), fun q1 => ⟨fun q2 => ?_, fun q => O (by omega)⟩⟩
  have IN : ∀ (K : Int32 → hS → Prop), (rI s 145 37).toInt = 0 → K (-1000000003) s → pcI (d + 3) 221 [.ref 145, .int x] v s K := fun K h0 hk => st_M_fork (sp_in (fun z => absurd (by rw [eg, el0]; omega) z) (fun _ => ⟨fun _ => hk, fun z => absurd h0 z⟩))
  rcases h with ⟨h1, h2⟩ | ⟨h1, h2, L, a, b, c, c0, c1, c2, d1, hS1⟩
  · have h1 : rI s 117 2 = 0 := h1
    have h2 : rI s 145 37 = 0 := h2
    rw [h1]
    exact ⟨fun _ => ⟨Fr.rf _ _, IN _ (by rw [h2]; rfl) ⟨rfl, Fr.rf _ _, rfl⟩⟩, fun z => absurd rfl z⟩
  · obtain ⟨g1, g2, g3, g4, g5, g6, g7, g8, g9, g10⟩ := hS1
    have h1 : rI s 117 2 = 1 := h1
    have h2 : rI s 145 37 = 1 := h2
    have g7 : rI s 145 38 = nI (2 ^ a ||| 2 ^ b ||| 2 ^ c) := g7
    have eLL : L0.length = L.length := by
      have a1 := r1.1
      rw [d1.1] at a1
      have a2 : (nI L.length).toInt = (nI L0.length).toInt := by rw [a1]
      rw [nI_toInt (by have := d1.2.1; omega), nI_toInt (by omega)] at a2; omega
    have l16b := d1.2.1
    obtain ⟨p2, hp, rfl⟩ := i_ex (x := x) (n := L.length) ⟨by omega, by omega⟩
    have ip : (nI p2).toInt = p2 := nI_toInt (by omega)
    have hbt := tri_lt (a := a) (b := b) (c := c) (by omega)
    have MC : mCo L c0 c1 c2 s := ⟨g8, fun q hq => by have := (g2.2.2 q hq).1; rw [Nat.zero_add] at this; exact this⟩
    have RR : ∀ (K : Int32 → hS → Prop), (lgP a b c p2 = true → K (-1) s) → (lgP a b c p2 = false → K (nI (fkO c0 c1 c2 (L.getD p2 (0, 0)).1)) s) → pcI (d + 3) 221 [.ref 145, .int (nI p2)] v s K := fun K k1 k2 => by
      refine st_M_fork (sp_in (fun z => absurd (by rw [eg, el0]; omega) z) (fun _ => ⟨fun z => absurd z (by rw [h2]; decide), fun _ => ?_⟩))
      rw [g7]
      refine sm_has (by omega) (by omega) (fun tb => ⟨fun z => absurd z (by decide), fun _ => k1 (by rw [← tri_bit]; exact tb)⟩) (fun tb => ⟨fun _ => ?_, fun z => absurd rfl z⟩)
      have hl : lgP a b c p2 = false := by rw [← tri_bit]; exact tb
      exact sm_forkOf1 hp l16b g4.1 (g5 p2 hp hl) MC (k2 hl)
    rw [h1]
    refine ⟨fun z => absurd z (by decide), fun _ => sp_forkOf hrP d1 g6 (by omega) hp (fun hl => ⟨Fr.rf _ _, RR _ (fun _ => ⟨rfl, Fr.rf _ _, rfl⟩) (fun z => absurd (hl.symm.trans z) (by decide))⟩) (fun hl => ⟨Fr.rf _ _, RR _ (fun z => absurd (hl.symm.trans z) (by decide)) (fun _ => ⟨rfl, Fr.rf _ _, rfl⟩)⟩)⟩
theorem sm_findOthers (hP : rI s 152 0 = nI L.length) (l16 : L.length ≤ 16) (hb : a < 16 ∧ b < 16 ∧ c < 16) (hT : rI s 145 38 = nI ((2 ^ a ||| 2 ^ b) ||| 2 ^ c)) {K : hS → Prop} (hK : ∀ s2, Fr (fun c k => (c = 145 ∧ k = 41) ∨ c = 172) s s2 → mBu (oL a b c L.length).length (oD a b c L.length) s2 → K s2) : pcV (d + 1) 224 [.ref 145] v s K := by
  have hbt := tri_lt hb
  have G : ∀ j p : Nat, p + j = L.length → ∀ s1 : hS, Fr (fun c k => (c = 145 ∧ k = 41) ∨ c = 172) s s1 → mBu (oL a b c p).length (oD a b c p) s1 → pgV (d + 1) 224 5 [.ref 145, .int (nI p)] [] v s1 K := by
    intro j
    induction j with
    | zero =>
      intro p hp s1 hf hq
      refine st_M_findOthers_5 ?_
      rw [hf.i (show ¬ ((152 = 145 ∧ 0 = 41) ∨ 152 = 172) by omega), hP, nI_toInt (by omega), nI_toInt (by omega)]
      refine ⟨fun z => absurd z (by omega), fun _ => hK s1 hf ?_⟩
      rw [show p = L.length by omega] at hq; exact hq
    | succ j ih =>
      intro p hp s1 hf hq
      have hlen := oL_len a b c p
      have eo : oL a b c (p + 1) = if lgP a b c p = true then oL a b c p else oL a b c p ++ [p] := rfl
      have q1 : nI p + 1 = nI (p + 1) := by rw [nI_1]
      have hT1 : rI s1 145 38 = nI ((2 ^ a ||| 2 ^ b) ||| 2 ^ c) := by rw [hf.i (by omega)]; exact hT
      have o1 : rI s1 145 41 = nI (oL a b c p).length := hq.1
      refine st_M_findOthers_5 ?_
      rw [hf.i (show ¬ ((152 = 145 ∧ 0 = 41) ∨ 152 = 172) by omega), hP, nI_toInt (show p < 2147483648 by omega), nI_toInt (show L.length < 2147483648 by omega), q1, hT1]
      refine ⟨fun _ => sm_has (by omega) (by omega) (fun tb => ⟨fun z => absurd z (by decide), fun _ => ?_⟩) (fun tb => ⟨fun _ => ?_, fun z => absurd rfl z⟩), fun z => absurd (by omega) z⟩
      · rw [tri_bit] at tb
        rw [tb, if_pos rfl] at eo
        have e2 : oD a b c (p + 1) = oD a b c p := by funext i; unfold oD; rw [eo]
        refine ih (p + 1) (by omega) s1 hf ?_
        rw [eo, e2]; exact hq
      · rw [tri_bit] at tb
        rw [tb, if_neg (by decide)] at eo
        rw [o1]
        generalize hN : (oL a b c p).length = N at *
        rw [nI_toInt (show N < 2147483648 by omega), Int.toNat_natCast, nI_1]
        refine ⟨by omega, ih (p + 1) (by omega) _ ((hf.sI (Or.inr rfl)).sI (Or.inl ⟨rfl, rfl⟩)) ?_⟩
        have hl2 : (oL a b c (p + 1)).length = N + 1 := by rw [eo, List.length_append, hN]; rfl
        rw [hl2]
        refine ⟨by rw [r_II, if_pos ⟨rfl, rfl⟩], fun i hi => ?_⟩
        have hg : oD a b c (p + 1) i = if i = N then p else oD a b c p i := by
          unfold oD; rw [eo, getD_app (by omega), hN]
        rw [r_II, if_neg (by omega), r_II, hg]
        by_cases ci : i = N
        · rw [if_pos ⟨rfl, ci⟩, if_pos ci]
        · rw [if_neg (fun z => ci z.2), if_neg ci]; exact hq.2 i (by omega)
  refine st_M_findOthers (G L.length 0 (by omega) _ ((Fr.rf _ s).sI (Or.inl ⟨rfl, rfl⟩)) ⟨by rw [r_II, if_pos ⟨rfl, rfl⟩]; rfl, fun i hi => absurd hi (Nat.not_lt_zero i)⟩)
theorem th_order (h : pO v s) (x : Int32) : prI fOr v (d + 4) 129 223 [.int x] s (fun _ => True) := by
  have e1 : Int32.toInt 1 = 1 := rfl
  rcases h with ⟨h1, h2⟩ | ⟨h1, h2, L, a, b, c, c0, c1, c2, d1, hS1⟩
  · have h1 : rI s 117 2 = 0 := h1
    have h2 : rI s 145 37 = 0 := h2
    refine st_S_order ?_
    rw [h1]
    refine ⟨fun _ => ⟨Fr.rf _ _, st_M_order ?_⟩, fun z => absurd rfl z⟩
    rw [h2]
    exact ⟨fun _ => ⟨rfl, Fr.rf _ _, trivial⟩, fun z => absurd rfl z⟩
  · obtain ⟨g1, g2, g3, g4, g5, g6, g7, g8, g9, g10⟩ := hS1
    have h1 : rI s 117 2 = 1 := h1
    have h2 : rI s 145 37 = 1 := h2
    have g9 : rI s 117 3 = nI (oL a b c L.length).length := g9
    have l16b := d1.2.1
    have hlen := oL_len a b c L.length
    have MC : mCo L c0 c1 c2 s := ⟨g8, fun q hq => by have := (g2.2.2 q hq).1; rw [Nat.zero_add] at this; exact this⟩
    have eM : (nI (oL a b c L.length).length).toInt = (oL a b c L.length).length := nI_toInt (by omega)
    have RR : ∀ (K : Int32 → hS → Prop), (8 < (oL a b c L.length).length → ∀ s2, Fr fOr s s2 → K (-1000000003) s2) → ((oL a b c L.length).length ≤ 8 → ∀ s2, Fr fOr s s2 → mCo L c0 c1 c2 s2 → mBu (oL a b c L.length).length (oD a b c L.length) s2 → (∀ set, set < 2 ^ (oL a b c L.length).length → eqR (oL a b c L.length).length (fkD L c0 c1 c2 (oD a b c L.length)) (faD L c0 c1 c2 (oD a b c L.length)) (fun k => (rI s2 173 k).toInt) set) → (x.toInt = -1 → K (rI s2 173 0) s2) ∧ (¬ x.toInt = -1 → ∀ z2 z5, pgI (d + 4) 223 92 [.ref 145, .int x, z2, .int 0, .int 0, z5] [] v s2 K)) → pcI (d + 4) 223 [.ref 145, .int x] v s K := by
      intro K k8 kk
      refine st_M_order ⟨fun z => absurd z (by rw [h2]; decide), fun _ => sm_findOthers (L := L) g2.1 l16b (by omega) g7 (fun s2 f2 b2 => ?_)⟩
      have o2 : rI s2 145 41 = nI (oL a b c L.length).length := b2.1
      have F2 : Fr fOr s s2 := f2.mo (fun c k z => by unfold fOr; omega)
      rw [o2, eM]
      refine ⟨fun z => k8 (by omega) s2 F2, fun z => ?_⟩
      have hp := pw8 (M := (oL a b c L.length).length) (by omega)
      have ea : ((1 : Int32) <<< (nI (oL a b c L.length).length &&& 31)) - 1 = nI (2 ^ (oL a b c L.length).length - 1) := by
        refine i_inj ?_
        rw [b_sh (by omega), i_sub (by rw [nI_toInt (by omega), e1]; omega), nI_toInt (by omega), nI_toInt (by omega), e1]; omega
      rw [ea]
      have M2 := mCo_fr MC f2 (fun k => by omega)
      refine sm_rest (by omega) g4 M2 b2 (fun s3 f3 e3 => ?_)
      exact kk (by omega) s3 (F2.tr (f3.mo (fun c k z => Or.inr (Or.inr z)))) (mCo_fr M2 f3 (fun k => by omega)) (mBu_fr b2 f3 (by omega) (fun k => by omega)) e3
    refine st_S_order ?_
    rw [h1, g9, eM]
    refine ⟨fun z => absurd z (by decide), fun _ => ⟨fun z => ⟨Fr.rf _ _, RR _ (fun _ s2 f2 => ⟨rfl, f2, trivial⟩) (fun y => absurd z (by omega))⟩, fun z => ?_⟩⟩
    have h8 : (oL a b c L.length).length ≤ 8 := by omega
    obtain ⟨R, r1, r2, r3⟩ := g10 h8
    have hp := pw8 h8
    have UN : ∀ (s2 : hS), (∀ set, set < 2 ^ (oL a b c L.length).length → eqR (oL a b c L.length).length (fkD L c0 c1 c2 (oD a b c L.length)) (faD L c0 c1 c2 (oD a b c L.length)) (fun k => (rI s2 173 k).toInt) set) → ∀ set, set < 2 ^ (oL a b c L.length).length → (rI s2 173 set).toInt = R set := fun s2 hE set hs => eqR_un hE r1 (2 ^ (oL a b c L.length).length - 1 - set) set (by omega)
    have N : ¬ x.toInt = -1 → ¬ (0 ≤ x.toInt ∧ x.toInt < (oL a b c L.length).length) → (Fr fOr s s ∧ pcI (d + 4) 223 [.ref 145, .int x] v s (fun x2 s2 => x2 = -1 ∧ Fr fOr s s2 ∧ True)) := fun hx hn => ⟨Fr.rf _ _, RR _ (fun y => absurd y (by omega)) (fun _ s2 f2 m2 b2 hE => ⟨fun y => absurd y hx, fun _ z2 z5 => sm_lay h8 g4 m2 b2 r1 (UN s2 hE) (fun _ => ⟨rfl, f2, trivial⟩) (fun j hj hxj => absurd (by omega) hn)⟩)⟩
    refine ⟨fun y => ⟨Fr.rf _ _, RR _ (fun y => absurd y (by omega)) (fun _ s2 f2 m2 b2 hE => ⟨fun _ => ⟨i_inj ?_, f2, trivial⟩, fun q => absurd y q⟩)⟩, fun y => ⟨fun q => N y (by omega), fun q => ⟨fun q2 => ⟨by omega, Fr.rf _ _, RR _ (fun y => absurd y (by omega)) (fun _ s2 f2 m2 b2 hE => ⟨fun q3 => absurd q3 y, fun _ z2 z5 => sm_lay h8 g4 m2 b2 r1 (UN s2 hE) (fun q3 => absurd (by omega) q3) (fun j hj hxj => ⟨?_, f2, trivial⟩)⟩)⟩, fun q2 => N y (by omega)⟩⟩⟩
    · rw [UN s2 hE 0 (by omega), ← r2]
    · have : x.toInt.toNat = j := by omega
      rw [this]; exact (r3 j hj).symm
end
