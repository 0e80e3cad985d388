/-! LEAST TIME: laid -/
section
variable {d : Nat} {v : hV} {s s1 : hS} {N : Nat} {m a : Nat → Int} {af : Nat → Nat} {p : Nat → Nat}
theorem sm_laid (ok : okT2 N m a af) (hC : cAm N m a af s) (hp : prm N p) (hr : ∀ i, i < N → rI s 168 i = nI (p i)) {K : Int32 → hS → Prop} (hK : ∀ (w : Int32) (s2 : hS), (w.toInt = 1000000 ∨ ∃ b, fea N m a af b ∧ mkz N m b w.toInt) → bpR N m a af p w.toInt → Fr (fun c _ => c = 169 ∨ c = 170) s s2 → K w s2) : pcI (d + 2) 217 [.ref 145] v s K := by
  have hN := ok.1
  have hpw := pw8 hN
  obtain ⟨p1, p2, p3⟩ := hp
  have L18 : ∀ j i : Nat, i + j = N → ∀ (S : Nat) (lat : Int) (x2 : Int32) (s2 : hS) (z4 z5 z6 : Value), x2.toInt = lat → Fr (fun c _ => c = 169 ∨ c = 170) s s2 → ivL N m a af p i S lat s2 → pgI (d + 2) 217 18 [.ref 145, .int (nI S), .int x2, .int (nI i), z4, z5, z6] [] v s2 K := by
    intro j
    induction j with
    | zero =>
      intro i hi S lat x2 s2 z4 z5 z6 h2 hf ⟨⟨v1, v2, v3, v4⟩, v5, v6, v7, v8, v9, v10⟩
      have hC2 : cAm N m a af s2 := cAm_fr hC hf (by omega) (fun k => by omega)
      refine st_M_laid_18 ?_
      rw [hC2.1, nI_toInt (show i < 2147483648 by omega), nI_toInt (show N < 2147483648 by omega)]
      have hall := cntS_eq v1 (by omega)
      refine ⟨fun z => absurd z (by omega), fun _ => hK x2 s2 (Or.inr ⟨bAm m s2, ⟨fun k hk => (v5 k hk (hall k hk)).1, fun k hk q hq hb => ?_, fun t => ?_⟩, by omega, fun k hk => ?_⟩) (fun b z hb hs => by have := (v10 b z hb hs).2; omega) hf⟩
      · have := (v6 k hk (hall k hk) q hq hb).2
        unfold bAm at *
        omega
      · rw [bzS_eq (S := S) (fun k hk hkb => by rw [hall k hk] at hkb; exact absurd hkb (by decide))]; exact v7 t
      · have := (v5 k hk (hall k hk)).2
        unfold bAm
        omega
    | succ j ih =>
      intro i hi S lat x2 s2 z4 z5 z6 h2 hf hv
      have hvv := hv
      obtain ⟨⟨v1, v2, v3, v4⟩, v5, v6, v7, v8, v9, v10⟩ := hv
      have hiN : i < N := by omega
      have hkN := p1 i hiN
      have hC2 : cAm N m a af s2 := cAm_fr hC hf (by omega) (fun k => by omega)
      have e168 : rI s2 168 i = nI (p i) := by rw [hf.i (by omega)]; exact hr i hiN
      have hbk : S.testBit (p i) = false := by
        cases hq : S.testBit (p i) with
        | false => rfl
        | true =>
          obtain ⟨q, hq1, hq2⟩ := v4 (p i) hkN hq
          have := p2 q i (by omega) hiN hq2
          omega
      have unl : ∀ q, q < N → S.testBit q = false → ∃ i2, i ≤ i2 ∧ i2 < N ∧ p i2 = q := fun q hq hqb => by
        obtain ⟨i2, h3, h4⟩ := p3 q hq
        refine ⟨i2, Nat.le_of_not_lt (fun z => ?_), h3, h4⟩
        have := v3 i2 z
        rw [h4, hqb] at this; exact absurd this (by decide)
      have srt2 : ∀ b, srt N p b → ∀ q, q < N → S.testBit q = false → b (p i) ≤ b q := fun b hs q hq hqb => by
        obtain ⟨i2, h3, h4, h5⟩ := unl q hq hqb
        rw [← h5]
        by_cases c : i = i2
        · rw [c]; exact Int.le_refl _
        · exact hs i i2 (by omega) h4
      generalize hk : p i = k at *
      have mk := ok.2 k hkN
      have hpk := pw8 (M := k) (by omega)
      have haf : af k < 2 ^ N := Nat.lt_of_lt_of_le mk.2.2.2 (Nat.pow_le_pow_right (by decide) (by omega))
      obtain ⟨c1, c2, c3⟩ := hC2.2 k hkN
      have q1 : nI i + 1 = nI (i + 1) := by rw [nI_1]
      refine st_M_laid_18 ?_
      rw [hC2.1, nI_toInt (show i < 2147483648 by omega), nI_toInt (show N < 2147483648 by omega), Int.toNat_natCast, e168, nI_toInt (show k < 2147483648 by omega), Int.toNat_natCast, c3, sub_iff (by omega)]
      refine ⟨fun _ => ⟨by omega, by omega, fun hs => ?_, fun hs => hK _ s2 (Or.inl rfl) (fun b z hb hsr => ?_) hf⟩, fun z => absurd (by omega) z⟩
      · -- when it is ready
        have hrg : ∀ q, (af k).testBit q = true → q < k ∧ eAm s2 q ≤ rdA (af k) (eAm s2) N := fun q hq => by
          have hqk : q < k := Nat.lt_of_not_le (fun z => by
            rw [Nat.testBit_lt_two_pow (Nat.lt_of_lt_of_le mk.2.2.2 (Nat.pow_le_pow_right (by decide) z))] at hq; exact absurd hq (by decide))
          exact ⟨hqk, rdA_ge N q (by omega) hq⟩
        have hr0 := rdA_nn (af k) (eAm s2) N
        have hrl : rdA (af k) (eAm s2) N ≤ lat := rdA_le (by omega) N (fun q hq hb => (v5 q hq (hs q hb)).2)
        have hU : ∀ q, q < 256 → (rI s2 170 q).toInt = bzS N m a (bAm m s2) S q ∧ 0 ≤ bzS N m a (bAm m s2) S q ∧ bzS N m a (bAm m s2) S q ≤ 2 := fun q hq => ⟨v8 q hq, bzS_nn ok, v7 q⟩
        have hMk : ∃ M : Nat, m k = M ∧ M ≤ 30 := ⟨(m k).toNat, by omega, by omega⟩
        obtain ⟨M, eM, hM⟩ := hMk
        obtain ⟨LA, eL, hLA⟩ : ∃ LA : Nat, lat = LA ∧ LA ≤ 210 := ⟨lat.toNat, by omega, by omega⟩
        have late : ∀ t : Int, lat ≤ t → bzS N m a (bAm m s2) S t = 0 := fun t ht => bzS_late ok (fun q hq hb => by
          have := (v5 q hq hb).2
          unfold bAm
          omega)
        -- it is laid at t0
        have PUT : ∀ (t0 : Nat) (z6 : Value), rdA (af k) (eAm s2) N ≤ t0 → t0 ≤ LA → (∀ q : Nat, t0 ≤ q → q < t0 + M → bzS N m a (bAm m s2) S q + a k ≤ 2) → (∀ t : Nat, rdA (af k) (eAm s2) N ≤ t → t < t0 → ∃ q : Nat, t ≤ q ∧ q < t + M ∧ 2 < bzS N m a (bAm m s2) S q + a k) → pgI (d + 2) 217 94 [.ref 145, .int (nI S), .int x2, .int (nI i), .int (nI k), .int (nI t0), .int (nI t0)] [] v (sI s2 169 k (nI t0 + rI s2 165 k)) K := fun t0 z6 hr1 hr2 hfree hno => by
          have ee : (nI t0 + rI s2 165 k).toInt = ((t0 + M : Nat) : Int) := by rw [i_add (by rw [nI_toInt (by omega), c1]; omega), nI_toInt (by omega), c1]; omega
          have NXT : ∀ (x2' : Int32) (s3 : hS) (z4 z5 z6 : Value), Fr (fun c _ => c = 170) (sI s2 169 k (nI t0 + rI s2 165 k)) s3 → (∀ t : Nat, t < 256 → (rI s3 170 t).toInt = bzS N m a (bAm m s2) S t + if t0 ≤ t ∧ t < t0 + M then a k else 0) → x2'.toInt = (if lat < ((t0 + M : Nat) : Int) then ((t0 + M : Nat) : Int) else lat) → pgI (d + 2) 217 18 [.ref 145, .int (nI S ||| ((1 : Int32) <<< (nI k &&& 31))), .int x2', .int (nI i + 1), z4, z5, z6] [] v s3 K := fun x2' s3 z4 z5 z6 f3 hu3 hx2 => by
            rw [b_or (by omega) (by omega), q1]
            have eEk : eAm s3 k = ((t0 + M : Nat) : Int) := by
              show (rI s3 169 k).toInt = _
              rw [f3.i (by omega), r_II, if_pos ⟨rfl, rfl⟩, ee]
            have eEn : ∀ q, q ≠ k → eAm s3 q = eAm s2 q := fun q hq => by
              show (rI s3 169 q).toInt = (rI s2 169 q).toInt
              rw [f3.i (by omega), r_II, if_neg (fun z => hq z.2)]
            have eBk : bAm m s3 k = t0 := by unfold bAm; rw [eEk]; omega
            have eBn : ∀ q, q ≠ k → bAm m s3 q = bAm m s2 q := fun q hq => by unfold bAm; rw [eEn q hq]
            have hlat : lat ≤ x2'.toInt ∧ ((t0 + M : Nat) : Int) ≤ x2'.toInt ∧ x2'.toInt ≤ lat + 30 ∧ (x2'.toInt = lat ∨ x2'.toInt = ((t0 + M : Nat) : Int)) := by rw [hx2]; split <;> omega
            have ebz : ∀ t, bzS N m a (bAm m s3) (S ||| 2 ^ k) t = bzS N m a (bAm m s2) S t + if (t0 : Int) ≤ t ∧ t < t0 + m k then a k else 0 := fun t => by
              rw [bzS_up hkN hbk, bzS_cg (b2 := bAm m s2) (fun q hq hb => eBn q (fun z => by rw [z, hbk] at hb; exact absurd hb (by decide)))]
              unfold bzA
              rw [eBk]
            refine ih (i + 1) (by omega) (S ||| 2 ^ k) x2'.toInt x2' s3 z4 z5 z6 rfl ((hf.sI (Or.inl rfl)).tr (f3.mo (fun c k z => Or.inr z))) ⟨⟨orS_lt v1 hkN, by rw [cntS_up hkN hbk]; omega, fun q hq => ?_, fun q hq hb => ?_⟩, fun q hq hb => ?_, fun q hq hb q2 hq2 hb2 => ?_, fun t => ?_, fun t ht => ?_, ⟨by omega, by omega⟩, fun b z hb hsr => ?_⟩
            · rw [or_bit]
              by_cases c : p q = k
              · rw [if_pos c]
              · rw [if_neg c]
                have : q ≠ i := fun z => c (by rw [z, hk])
                exact v3 q (by omega)
            · rw [or_bit] at hb
              by_cases c : q = k
              · exact ⟨i, by omega, by rw [hk, c]⟩
              · rw [if_neg c] at hb
                obtain ⟨q2, h3, h4⟩ := v4 q hq hb
                exact ⟨q2, by omega, h4⟩
            · by_cases c : q = k
              · rw [c, eBk, eEk]; omega
              · rw [or_bit, if_neg c] at hb
                have := v5 q hq hb
                rw [eBn q c, eEn q c]; omega
            · rw [or_bit] at hb
              rw [or_bit]
              by_cases c : q = k
              · rw [c] at hb2
                have h3 := hrg q2 hb2
                have h4 := hs q2 hb2
                rw [c, eBk, if_neg (show ¬ q2 = k by omega), eEn q2 (by omega)]
                exact ⟨h4, by omega⟩
              · rw [if_neg c] at hb
                obtain ⟨h3, h4⟩ := v6 q hq hb q2 hq2 hb2
                have cq : q2 ≠ k := fun z => by rw [z, hbk] at h3; exact absurd h3 (by decide)
                rw [if_neg cq, eBn q c, eEn q2 cq]
                exact ⟨h3, h4⟩
            · rw [ebz]
              have h3 := v7 t
              by_cases c : (t0 : Int) ≤ t ∧ t < t0 + m k
              · rw [if_pos c]
                have := hfree t.toNat (by omega) (by omega)
                rw [show ((t.toNat : Nat) : Int) = t by omega] at this
                exact this
              · rw [if_neg c]; omega
            · rw [ebz, hu3 t ht]
              by_cases c : t0 ≤ t ∧ t < t0 + M
              · rw [if_pos c, if_pos (by omega)]
              · rw [if_neg c, if_neg (by omega)]
            · obtain ⟨h3, h4⟩ := v10 b z hb hsr
              obtain ⟨⟨g1, g2, g3⟩, ⟨y0, y1⟩, _⟩ := id hb
              have hbs : ∀ t, bzS N m a (bAm m s2) S t = bzS N m a b S t := fun t => bzS_cg (fun q hq hqb => by
                have := h3 q hq hqb
                unfold bAm
                omega)
              have sk := srt2 b hsr
              have gk := g1 k hkN
              have hrb : rdA (af k) (eAm s2) N ≤ b k := rdA_le gk N (fun q hq hqb => by
                rw [h3 q hq (hs q hqb)]; exact g2 k hkN q hq hqb)
              have cap : ∀ t : Int, b k ≤ t → t < b k + m k → bzS N m a b S t + a k ≤ 2 := fun t a1 a2 => by
                have h5 := bzS_le ok b (S ||| 2 ^ k) t
                rw [bzS_up hkN hbk] at h5
                have : bzA m a b t k = a k := by unfold bzA; rw [if_pos ⟨a1, a2⟩]
                have := g3 t
                omega
              have h6 : (t0 : Int) ≤ b k := by
                refine Int.not_lt.mp (fun c => ?_)
                obtain ⟨q, w1, w2, w3⟩ := hno (b k).toNat (by omega) (by omega)
                have := cap q (by omega) (by omega)
                rw [hbs] at w3
                omega
              have h7 : (t0 : Int) = b k := by
                refine Classical.byContradiction (fun c => ?_)
                refine smin_no ok hb hkN (s := t0) (by omega) (by omega) (fun q hq hqb => ?_) (fun t t1 t2 t3 => ?_)
                · rw [← h3 q hq (hs q hqb)]
                  have := (hrg q hqb).2; omega
                · rw [bzS_eq (S := S) (fun q hq hqb => by have := sk q hq hqb; omega), ← hbs]
                  have := hfree t.toNat (by omega) (by omega)
                  rw [show ((t.toNat : Nat) : Int) = t by omega] at this
                  exact this
              have := y1 k hkN
              refine ⟨fun q hq hqb => ?_, by omega⟩
              by_cases c : q = k
              · rw [c, eEk]; omega
              · rw [or_bit, if_neg c] at hqb
                rw [eEn q c]; exact h3 q hq hqb
          have L94 : ∀ j2 q : Nat, q + j2 = t0 + M → t0 ≤ q → ∀ (s3 : hS), Fr (fun c _ => c = 170) (sI s2 169 k (nI t0 + rI s2 165 k)) s3 → (∀ t : Nat, t < 256 → (rI s3 170 t).toInt = bzS N m a (bAm m s2) S t + if t0 ≤ t ∧ t < q then a k else 0) → ∀ z5, pgI (d + 2) 217 94 [.ref 145, .int (nI S), .int x2, .int (nI i), .int (nI k), z5, .int (nI q)] [] v s3 K := by
            intro j2
            induction j2 with
            | zero =>
              intro q hq htq s3 f3 hu3 z5
              have hq : q = t0 + M := by omega
              have eEk : (rI s3 169 k).toInt = ((t0 + M : Nat) : Int) := by rw [f3.i (by omega), r_II, if_pos ⟨rfl, rfl⟩, ee]
              refine st_M_laid_94 ?_
              rw [nI_toInt (show k < 2147483648 by omega), Int.toNat_natCast, eEk, nI_toInt (show q < 2147483648 by omega), h2]
              rw [hq] at hu3
              refine ⟨by omega, fun z => absurd z (by omega), fun _ => ⟨by omega, fun z => ⟨by omega, NXT _ s3 _ _ _ f3 hu3 (by rw [eEk, if_pos z])⟩, fun z => NXT _ s3 _ _ _ f3 hu3 (by rw [h2, if_neg z])⟩⟩
            | succ j2 ih2 =>
              intro q hq htq s3 f3 hu3 z5
              have q2 : nI q + 1 = nI (q + 1) := by rw [nI_1]
              have eEk : (rI s3 169 k).toInt = ((t0 + M : Nat) : Int) := by rw [f3.i (by omega), r_II, if_pos ⟨rfl, rfl⟩, ee]
              have e166 : rI s3 166 k = rI s2 166 k := by rw [f3.i (by omega), r_II, if_neg (fun z => absurd z.1 (by decide))]
              have huq := hu3 q (by omega)
              rw [if_neg (by omega)] at huq
              have hUq := hU q (by omega)
              refine st_M_laid_94 ?_
              rw [nI_toInt (show k < 2147483648 by omega), Int.toNat_natCast, eEk, nI_toInt (show q < 2147483648 by omega), Int.toNat_natCast, q2, e166]
              refine ⟨by omega, fun _ => ⟨by omega, by omega, by omega, ih2 (q + 1) (by omega) (by omega) _ (f3.sI rfl) (fun t ht => ?_) _⟩, fun z => absurd (by omega) z⟩
              rw [r_II]
              by_cases c : t = q
              · rw [if_pos ⟨rfl, c⟩, i_add (by omega), huq, c2, c, if_pos (by omega)]; omega
              · rw [if_neg (fun z => c z.2), hu3 t ht]
                by_cases c3 : t0 ≤ t ∧ t < q
                · rw [if_pos c3, if_pos (by omega)]
                · rw [if_neg c3, if_neg (by omega)]
          exact L94 M t0 rfl (Nat.le_refl _) _ (Fr.rf _ _) (fun t ht => by
            rw [r_II, if_neg (fun z => absurd z.1 (by decide)), if_neg (by omega), v8 t ht]; omega) _
        have L68 : ∀ j2 t : Nat, t + j2 = LA → rdA (af k) (eAm s2) N ≤ t → (∀ t2 : Nat, rdA (af k) (eAm s2) N ≤ t2 → t2 < t → ∃ q : Nat, t2 ≤ q ∧ q < t2 + M ∧ 2 < bzS N m a (bAm m s2) S q + a k) → ∀ z6, pgI (d + 2) 217 68 [.ref 145, .int (nI S), .int x2, .int (nI i), .int (nI k), .int (nI t), z6] [] v s2 K := by
          intro j2
          induction j2 with
          | zero =>
            intro t ht hrt hno z6
            refine st_M_laid_68 ?_
            rw [nI_toInt (show k < 2147483648 by omega), Int.toNat_natCast]
            refine ⟨by omega, by omega, sm_isFree (M := M) (A := a k) (U := fun q => bzS N m a (bAm m s2) S q) (by omega) (by rw [c1, eM]) c2 (by omega) hU (fun hf2 => ⟨fun z => absurd z (by decide), fun _ => ⟨by omega, by omega, PUT t z6 hrt (by omega) hf2 hno⟩⟩) (fun ⟨q, w1, w2, w3⟩ => ?_)⟩
            have w3 : 2 < bzS N m a (bAm m s2) S q + a k := w3
            have := late q (by omega)
            omega
          | succ j2 ih2 =>
            intro t ht hrt hno z6
            have q2 : nI t + 1 = nI (t + 1) := by rw [nI_1]
            refine st_M_laid_68 ?_
            rw [nI_toInt (show k < 2147483648 by omega), Int.toNat_natCast, q2]
            refine ⟨by omega, by omega, sm_isFree (M := M) (A := a k) (U := fun q => bzS N m a (bAm m s2) S q) (by omega) (by rw [c1, eM]) c2 (by omega) hU (fun hf2 => ⟨fun z => absurd z (by decide), fun _ => ⟨by omega, by omega, PUT t z6 hrt (by omega) hf2 hno⟩⟩) (fun hx => ⟨fun _ => ih2 (t + 1) (by omega) (by omega) (fun t2 a1 a2 => ?_) _, fun z => absurd rfl z⟩)⟩
            by_cases c : t2 = t
            · rw [c]; exact hx
            · exact hno t2 a1 (by omega)
        have L42 : ∀ j2 q : Nat, q + j2 = N → ∀ x5 : Int32, x5.toInt = rdA (af k) (eAm s2) q → pgI (d + 2) 217 42 [.ref 145, .int (nI S), .int x2, .int (nI i), .int (nI k), .int x5, .int (nI q)] [] v s2 K := by
          intro j2
          induction j2 with
          | zero =>
            intro q hq x5 h5
            have hq : q = N := by omega
            subst hq
            refine st_M_laid_42 ?_
            rw [hC2.1]
            refine ⟨fun z => absurd z (by omega), fun _ => ?_⟩
            have e5 : x5 = nI (rdA (af k) (eAm s2) q).toNat := i_inj (by rw [h5, nI_toInt (by omega)]; omega)
            rw [e5]
            exact L68 (LA - (rdA (af k) (eAm s2) q).toNat) _ (by omega) (by omega) (fun t2 a1 a2 => by omega) _
          | succ j2 ih2 =>
            intro q hq x5 h5
            have q2 : nI q + 1 = nI (q + 1) := by rw [nI_1]
            have e : rdA (af k) (eAm s2) (q + 1) = if (af k).testBit q = true then mx2 (rdA (af k) (eAm s2) q) (eAm s2 q) else rdA (af k) (eAm s2) q := rfl
            refine st_M_laid_42 ?_
            rw [hC2.1, nI_toInt (show q < 2147483648 by omega), nI_toInt (show N < 2147483648 by omega), nI_toInt (show k < 2147483648 by omega), Int.toNat_natCast, Int.toNat_natCast, c3, q2]
            refine ⟨fun _ => ⟨by omega, sm_has (by omega) (by omega) (fun c => ⟨fun z => absurd z (by decide), fun _ => ⟨by omega, fun z => ⟨by omega, ih2 (q + 1) (by omega) _ ?_⟩, fun z => ih2 (q + 1) (by omega) _ ?_⟩⟩) (fun c => ⟨fun _ => ih2 (q + 1) (by omega) _ ?_, fun z => absurd rfl z⟩)⟩, fun z => absurd (by omega) z⟩
            · rw [e, if_pos c, mx2, ← h5, if_pos (show x5.toInt < eAm s2 q from z)]; rfl
            · rw [e, if_pos c, mx2, ← h5, if_neg (show ¬ x5.toInt < eAm s2 q from z)]
            · rw [e, c, if_neg (by decide)]; exact h5
        exact L42 N 0 (by omega) 0 rfl
      · -- it comes before one that it is after
        obtain ⟨⟨g1, g2, g3⟩, _, _⟩ := id hb
        have : ∃ q, (af k).testBit q = true ∧ ¬ S.testBit q = true := Classical.byContradiction (fun hn => hs (fun q hq => Classical.byContradiction (fun hn2 => hn ⟨q, hq, hn2⟩)))
        obtain ⟨q, h3, h4⟩ := this
        have hqk : q < k := Nat.lt_of_not_le (fun z => by
          rw [Nat.testBit_lt_two_pow (Nat.lt_of_lt_of_le mk.2.2.2 (Nat.pow_le_pow_right (by decide) z))] at h3; exact absurd h3 (by decide))
        have h5 := srt2 b hsr q (by omega) (by cases hq : S.testBit q with | false => rfl | true => exact absurd hq h4)
        have h6 := g2 k hkN q (by omega) h3
        have := (ok.2 q (by omega)).1
        omega
  have L2 : ∀ j q : Nat, q + j = 256 → ∀ s2 : hS, Fr (fun c _ => c = 170) s s2 → (∀ t, t < q → rI s2 170 t = 0) → pgI (d + 2) 217 2 [.ref 145, .int (nI q), .null, .null, .null, .null, .null] [] v s2 K := by
    intro j
    induction j with
    | zero =>
      intro q hq s2 f2 hz
      refine st_M_laid_2 ?_
      rw [nI_toInt (show q < 2147483648 by omega)]
      refine ⟨fun z => absurd z (by omega), fun _ => L18 N 0 (by omega) 0 0 0 s2 _ _ _ rfl (f2.mo (fun c k z => Or.inr z)) ⟨⟨hpw.1, cntS_0, fun q hq => absurd hq (Nat.not_lt_zero q), fun k hk hb => absurd hb b0n⟩, fun k hk hb => absurd hb b0n, fun k hk hb => absurd hb b0n, fun t => by rw [bzS_0]; decide, fun t ht => by rw [bzS_0, hz t (by omega)]; rfl, ⟨Int.le_refl _, Int.le_refl _⟩, fun b z hb hs => ⟨fun k hk hb => absurd hb b0n, hb.2.1.1⟩⟩⟩
    | succ j ih =>
      intro q hq s2 f2 hz
      have q2 : nI q + 1 = nI (q + 1) := by rw [nI_1]
      refine st_M_laid_2 ?_
      rw [nI_toInt (show q < 2147483648 by omega), Int.toNat_natCast, q2]
      refine ⟨fun _ => ⟨by omega, ih (q + 1) (by omega) _ (f2.sI rfl) (fun t ht => ?_)⟩, fun z => absurd (by omega) z⟩
      rw [r_II]
      by_cases c : t = q
      · rw [if_pos ⟨rfl, c⟩]
      · rw [if_neg (fun z => c z.2)]; exact hz t (by omega)
  exact st_M_laid (L2 256 0 (by omega) s (Fr.rf _ _) (fun t ht => absurd ht (Nat.not_lt_zero t)))
end
