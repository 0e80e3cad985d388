/-! LEAST TIME: the class's search -/
section
variable {d : Nat} {v : hV} {s s1 : hS} {N : Nat} {m a : Nat → Int} {af : Nat → Nat}
theorem sp_mx {x y : Int32} {K : Int32 → hS → Prop} (hK : ∀ w : Int32, w.toInt = mx2 x.toInt y.toInt → K w s) : pcI d 93 [.int x, .int y] v s K := st_Math_max ⟨fun c => hK _ (by rw [mx2, if_pos c]), fun c => hK _ (by rw [mx2, if_neg c])⟩
theorem sp_mn {x y : Int32} {K : Int32 → hS → Prop} (hK : ∀ w : Int32, w.toInt = mn2 x.toInt y.toInt → K w s) : pcI d 92 [.int x, .int y] v s K := st_Math_min ⟨fun c => hK _ (by rw [mn2, if_pos c]), fun c => hK _ (by rw [mn2, if_neg c])⟩
def eAc (s : hS) (k : Nat) : Int := (rI s 116 k).toInt
def fPu (S c k : Nat) : Prop := (c = 116 ∧ S.testBit k = false) ∨ (c = 112 ∧ k = 5)
/-- what putUp makes of the least so far -/
def puP (N : Nat) (m a : Nat → Int) (af : Nat → Nat) (j S : Nat) (lo hi last : Int) (s s2 : hS) : Prop := Fr (fPu S) s s2 ∧ (∀ hf, chR N m a af j S lo hi last (eAc s) hf → (rI s2 112 5).toInt ≤ hf) ∧ (rI s2 112 5 = rI s 112 5 ∨ chR N m a af j S lo hi last (eAc s) (rI s2 112 5).toInt) ∧ (rI s2 112 5).toInt ≤ (rI s 112 5).toInt
theorem sp_putUp (ok : okT2 N m a af) : ∀ (j n S : Nat) (lo hi last : Int) (s : hS) (x3 x4 x5 x6 : Int32), cAc N m a af s → S < 2 ^ N → cntS N S = n → n + j = N → x3.toInt = lo → x4.toInt = hi → x5.toInt = last → x6.toInt = wkS N m a S → 0 ≤ lo → lo ≤ hi → hi ≤ 30 * n → (∀ i, i < N → S.testBit i = true → eAc s i ≤ hi) → ∀ K : hS → Prop, (∀ s2, puP N m a af j S lo hi last s s2 → K s2) → pcV (d + j + 2) 117 [.ref 112, .int (nI n), .int (nI S), .int x3, .int x4, .int x5, .int x6] v s K := by
  have hN := ok.1
  have hpw := pw8 hN
  have e1 : Int32.toInt 1 = 1 := rfl
  have e2 : Int32.toInt 2 = 2 := rfl
  intro j
  induction j with
  | zero =>
    intro n S lo hi last s x3 x4 x5 x6 hC hSb hcn hnj h3 h4 h5 h6 h0 hlh hhi hE K hK
    refine st_Acts_putUp ?_
    rw [hC.1, nI_toInt (show n < 2147483648 by omega), nI_toInt (show N < 2147483648 by omega)]
    refine ⟨fun z => absurd z (by omega), fun _ => sp_mn (fun w hw => hK _ ⟨(Fr.rf _ s).sI (Or.inr ⟨rfl, rfl⟩), fun hf hch => ?_, ?_, ?_⟩)⟩
    · have hch : hf = hi := hch
      rw [r_II, if_pos ⟨rfl, rfl⟩, hw, h4]; unfold mn2; split <;> omega
    · rw [r_II, if_pos ⟨rfl, rfl⟩]
      rw [h4] at hw
      unfold mn2 at hw
      split at hw
      · exact Or.inr hw
      · exact Or.inl (i_inj hw)
    · rw [r_II, if_pos ⟨rfl, rfl⟩, hw, h4]; unfold mn2; split <;> omega
  | succ j ih =>
    intro n S lo hi last s x3 x4 x5 x6 hC hSb hcn hnj h3 h4 h5 h6 h0 hlh hhi hE K hK
    have hwk := wkS_b ok S
    have eA : (x3 + x4).toInt = lo + hi := by rw [i_add (by omega), h3, h4]
    have eB : (x3 + x4 + x6).toInt = lo + hi + wkS N m a S := by rw [i_add (by omega), eA, h6]
    have eC : (x3 + x4 + x6 + 1).toInt = lo + hi + wkS N m a S + 1 := by rw [i_add (by omega), eB, e1]
    have eD : ((x3 + x4 + x6 + 1) / 2).toInt = (lo + hi + wkS N m a S + 1) / 2 := by rw [i_div (by omega) (by rw [e2]; decide), eC, e2]
    have WK : ∀ hf, chR N m a af (j + 1) S lo hi last (eAc s) hf → lo + hi + wkS N m a S ≤ 2 * hf ∧ hi ≤ hf := fun hf h => chR_work ok (j + 1) S lo hi last (eAc s) hf h hSb (by omega) hlh
    have LP : ∀ jj q : Nat, q + jj = N → ∀ (s2 : hS) (z8 z9 z10 z11 z12 : Value), Fr (fPu S) s s2 → (∀ hf k, k < q → (S.testBit k = false ∧ subB (af k) S ∧ last ≤ stA (a k) (rdA (af k) (eAc s) k) lo hi ∧ chR N m a af j (S ||| 2 ^ k) (loA (a k) (stA (a k) (rdA (af k) (eAc s) k) lo hi + m k) hi) (hiA (a k) (stA (a k) (rdA (af k) (eAc s) k) lo hi + m k) hi) (stA (a k) (rdA (af k) (eAc s) k) lo hi) (upL (eAc s) k (stA (a k) (rdA (af k) (eAc s) k) lo hi + m k)) hf) → (rI s2 112 5).toInt ≤ hf) → (rI s2 112 5 = rI s 112 5 ∨ chR N m a af (j + 1) S lo hi last (eAc s) (rI s2 112 5).toInt) → (rI s2 112 5).toInt ≤ (rI s 112 5).toInt → pgV (d + j + 3) 117 30 [.ref 112, .int (nI n), .int (nI S), .int x3, .int x4, .int x5, .int x6, .int (nI q), z8, z9, z10, z11, z12] [] v s2 K := by
      intro jj
      induction jj with
      | zero =>
        intro q hq s2 z8 z9 z10 z11 z12 hf2 g1 g2 g3
        have hC2 : cAc N m a af s2 := cAc_fr hC hf2 (by unfold fPu; omega) (fun k => by unfold fPu; omega)
        refine st_Acts_putUp_30 ?_
        rw [hC2.1, nI_toInt (show q < 2147483648 by omega), nI_toInt (show N < 2147483648 by omega)]
        refine ⟨fun z => absurd z (by omega), fun _ => hK s2 ⟨hf2, fun hf ⟨k, hk, hb, hch⟩ => g1 hf k (by omega) ⟨hb, hch⟩, g2, g3⟩⟩
      | succ jj ihj =>
        intro q hq s2 z8 z9 z10 z11 z12 hf2 g1 g2 g3
        have hqN : q < N := by omega
        have q1 : nI q + 1 = nI (q + 1) := by rw [nI_1]
        have qn : nI n + 1 = nI (n + 1) := by rw [nI_1]
        have hC2 : cAc N m a af s2 := cAc_fr hC hf2 (by unfold fPu; omega) (fun k => by unfold fPu; omega)
        obtain ⟨c1, c2, c3⟩ := hC2.2 q hqN
        have mq := ok.2 q hqN
        have hpq := pw8 (M := q) (by omega)
        have hma := ma_b ok hqN
        -- this act is not one of those
        have SKIP : ∀ z8 z9 z10 z11 z12, (∀ hf, ¬ (S.testBit q = false ∧ subB (af q) S ∧ last ≤ stA (a q) (rdA (af q) (eAc s) q) lo hi ∧ chR N m a af j (S ||| 2 ^ q) (loA (a q) (stA (a q) (rdA (af q) (eAc s) q) lo hi + m q) hi) (hiA (a q) (stA (a q) (rdA (af q) (eAc s) q) lo hi + m q) hi) (stA (a q) (rdA (af q) (eAc s) q) lo hi) (upL (eAc s) q (stA (a q) (rdA (af q) (eAc s) q) lo hi + m q)) hf)) → pgV (d + j + 3) 117 30 [.ref 112, .int (nI n), .int (nI S), .int x3, .int x4, .int x5, .int x6, .int (nI (q + 1)), z8, z9, z10, z11, z12] [] v s2 K := fun z8 z9 z10 z11 z12 hn => by
          refine ihj (q + 1) (by omega) s2 _ _ _ _ _ hf2 (fun hf k hk hch => ?_) g2 g3
          by_cases c : k = q
          · rw [c] at hch; exact absurd hch (hn hf)
          · exact g1 hf k (by omega) hch
        refine st_Acts_putUp_30 ?_
        rw [hC2.1, nI_toInt (show q < 2147483648 by omega), nI_toInt (show N < 2147483648 by omega), Int.toNat_natCast, c3, b_0 (by omega) (by omega), sub_iff (by omega), c2, q1]
        refine ⟨fun _ => ⟨fun hb => ⟨by omega, fun hs => ?_, fun hs => SKIP _ _ _ _ _ (fun hf z => hs z.2.1)⟩, fun hb => SKIP _ _ _ _ _ (fun hf z => hb z.1)⟩, fun z => absurd (by omega) z⟩
        have hSq : S.testBit q = false := by omega
        -- what it is after
        have erd : rdA (af q) (fun i => (rI s2 116 i).toInt) q = rdA (af q) (eAc s) q := rdA_cg q (fun i _ hi => by
          have hi2 := hs i hi
          show (rI s2 116 i).toInt = (rI s 116 i).toInt
          rw [hf2.i (by unfold fPu; rw [hi2]; simp)])
        have hrd0 := rdA_nn (af q) (eAc s) q
        have hlt : ∀ i, (af q).testBit i = true → i < q := fun i hi => Nat.lt_of_not_le (fun z => by
          rw [Nat.testBit_lt_two_pow (Nat.lt_of_lt_of_le mq.2.2.2 (Nat.pow_le_pow_right (by decide) z))] at hi; exact absurd hi (by decide))
        have hrd1 : rdA (af q) (eAc s) q ≤ hi := rdA_le (by omega) q (fun i hiq hi => hE i (by omega) (hs i hi))
        have hst : 0 ≤ stA (a q) (rdA (af q) (eAc s) q) lo hi ∧ stA (a q) (rdA (af q) (eAc s) q) lo hi ≤ hi := by
          unfold stA mx2; split <;> split <;> omega
        -- what comes behind it
        have NX : last ≤ stA (a q) (rdA (af q) (eAc s) q) lo hi → ∀ w : Int32, w.toInt = stA (a q) (rdA (af q) (eAc s) q) lo hi + m q → ∀ s10, puP N m a af j (S ||| 2 ^ q) (loA (a q) (stA (a q) (rdA (af q) (eAc s) q) lo hi + m q) hi) (hiA (a q) (stA (a q) (rdA (af q) (eAc s) q) lo hi + m q) hi) (stA (a q) (rdA (af q) (eAc s) q) lo hi) (sI s2 116 q w) s10 → ∀ z8 z9 z10 z11 z12, pgV (d + j + 3) 117 30 [.ref 112, .int (nI n), .int (nI S), .int x3, .int x4, .int x5, .int x6, .int (nI (q + 1)), z8, z9, z10, z11, z12] [] v s10 K := fun hls w hw s10 ⟨p1, p2, p3, p4⟩ z8 z9 z10 z11 z12 => by
          have eB5 : rI (sI s2 116 q w) 112 5 = rI s2 112 5 := by rw [r_II, if_neg (fun z => absurd z.1 (by decide))]
          rw [eB5] at p3 p4
          have eE : ∀ i, (S ||| 2 ^ q).testBit i = true → eAc (sI s2 116 q w) i = upL (eAc s) q (stA (a q) (rdA (af q) (eAc s) q) lo hi + m q) i := fun i hi => by
            show (rI (sI s2 116 q w) 116 i).toInt = _
            rw [r_II]
            by_cases c : i = q
            · rw [if_pos ⟨rfl, c⟩, c, upL_at, hw]
            · rw [if_neg (fun z => c z.2), upL_ne c]
              rw [or_bit, if_neg c] at hi
              rw [hf2.i (by unfold fPu; rw [hi]; simp)]; rfl
          refine ihj (q + 1) (by omega) s10 _ _ _ _ _ ((hf2.sI (Or.inl ⟨rfl, hSq⟩)).tr (p1.mo (fun c k z => ?_))) (fun hf k hk hch => ?_) ?_ (by omega)
          · rcases z with ⟨z1, z2⟩ | z
            · rw [or_bit] at z2
              by_cases c : k = q
              · rw [if_pos c] at z2; exact absurd z2 (by decide)
              · rw [if_neg c] at z2; exact Or.inl ⟨z1, z2⟩
            · exact Or.inr z
          · by_cases c : k = q
            · rw [c] at hch
              exact p2 hf (chR_cg j _ _ _ _ _ _ hf (orS_lt hSb hqN) (fun i hi => (eE i hi).symm) hch.2.2.2)
            · have := g1 hf k (by omega) hch
              omega
          · rcases p3 with p3 | p3
            · rw [p3]; exact g2
            · exact Or.inr ⟨q, hqN, hSq, hs, hls, chR_cg j _ _ _ _ _ _ _ (orS_lt hSb hqN) eE p3⟩
        have eS : nI S ||| ((1 : Int32) <<< (nI q &&& 31)) = nI (S ||| 2 ^ q) := b_or (by omega) (by omega)
        -- the call
        have CALL : ∀ (w6 x3' x4' x6' : Int32) (K2 : hS → Prop), w6.toInt = stA (a q) (rdA (af q) (eAc s) q) lo hi → x3'.toInt = loA (a q) (stA (a q) (rdA (af q) (eAc s) q) lo hi + m q) hi → x4'.toInt = hiA (a q) (stA (a q) (rdA (af q) (eAc s) q) lo hi + m q) hi → x6'.toInt = wkS N m a S - m q * a q → (∀ s10, puP N m a af j (S ||| 2 ^ q) (loA (a q) (stA (a q) (rdA (af q) (eAc s) q) lo hi + m q) hi) (hiA (a q) (stA (a q) (rdA (af q) (eAc s) q) lo hi + m q) hi) (stA (a q) (rdA (af q) (eAc s) q) lo hi) (sI s2 116 q (w6 + rI s2 113 q)) s10 → K2 s10) → pcV (d + j + 2) 117 [.ref 112, .int (nI n + 1), .int (nI S ||| ((1 : Int32) <<< (nI q &&& 31))), .int x3', .int x4', .int w6, .int x6'] v (sI s2 116 q (w6 + rI s2 113 q)) K2 := fun w6 x3' x4' x6' K2 k6 k3 k4 k7 kk => by
          have ew : (w6 + rI s2 113 q).toInt = stA (a q) (rdA (af q) (eAc s) q) lo hi + m q := by rw [i_add (by omega), k6, c1]
          rw [qn, eS]
          have hb4 : 0 ≤ loA (a q) (stA (a q) (rdA (af q) (eAc s) q) lo hi + m q) hi ∧ loA (a q) (stA (a q) (rdA (af q) (eAc s) q) lo hi + m q) hi ≤ hiA (a q) (stA (a q) (rdA (af q) (eAc s) q) lo hi + m q) hi ∧ hiA (a q) (stA (a q) (rdA (af q) (eAc s) q) lo hi + m q) hi ≤ 30 * ((n + 1 : Nat) : Int) ∧ stA (a q) (rdA (af q) (eAc s) q) lo hi + m q ≤ hiA (a q) (stA (a q) (rdA (af q) (eAc s) q) lo hi + m q) hi ∧ (a q = 1 → hi ≤ hiA (a q) (stA (a q) (rdA (af q) (eAc s) q) lo hi + m q) hi) ∧ (a q = 2 → hi ≤ stA (a q) (rdA (af q) (eAc s) q) lo hi) := by
            have h2 : a q = 2 → hi ≤ stA (a q) (rdA (af q) (eAc s) q) lo hi := fun c => by unfold stA mx2; rw [if_neg (by omega)]; split <;> omega
            generalize stA (a q) (rdA (af q) (eAc s) q) lo hi = st at *
            unfold loA hiA mn2 mx2
            rcases mq.2.2.1 with c | c
            · rw [if_pos c, if_pos c]; split <;> split <;> omega
            · have := h2 c
              rw [if_neg (by omega), if_neg (by omega)]; omega
          have FS : Fr (fun c _ => c = 116) s2 (sI s2 116 q (w6 + rI s2 113 q)) := (Fr.rf _ s2).sI rfl
          refine ih (n + 1) (S ||| 2 ^ q) _ _ _ _ x3' x4' w6 x6' (cAc_fr hC2 FS (by omega) (fun k => by omega)) (orS_lt hSb hqN) (by rw [cntS_up hqN hSq]; omega) (by omega) k3 k4 k6 (by rw [wkS_up hqN hSq]; exact k7) hb4.1 hb4.2.1 hb4.2.2.1 (fun i hi hib => ?_) K2 kk
          show (rI (sI s2 116 q (w6 + rI s2 113 q)) 116 i).toInt ≤ _
          rw [r_II]
          by_cases c : i = q
          · rw [if_pos ⟨rfl, c⟩, ew]; exact hb4.2.2.2.1
          · rw [if_neg (fun z => c z.2)]
            rw [or_bit, if_neg c] at hib
            rw [hf2.i (by unfold fPu; rw [hib]; simp)]
            have : (rI s 116 i).toInt ≤ _ := hE i hi hib
            rcases mq.2.2.1 with c5 | c5
            · have := hb4.2.2.2.2.1 c5; omega
            · have := hb4.2.2.2.2.2 c5; omega
        have hmul : (rI s2 113 q * rI s2 114 q).toInt = m q * a q := by rw [i_mul (by rw [c1, c2]; omega), c1, c2]
        have hx6 : (x6 - rI s2 113 q * rI s2 114 q).toInt = wkS N m a S - m q * a q := by rw [i_sub (by rw [hmul]; omega), hmul, h6]
        refine ⟨by omega, fun ha => ?_, fun ha => ?_⟩
        · refine sp_readyAt (d := d + j + 1) ok hC2 hqN (fun w5 hw5 => sp_mx (fun w6 hw6 => ?_))
          have k6 : w6.toInt = stA (a q) (rdA (af q) (eAc s) q) lo hi := by rw [hw6, hw5, erd, h3]; unfold stA; rw [if_pos ha]
          have ew : (w6 + rI s2 113 q).toInt = stA (a q) (rdA (af q) (eAc s) q) lo hi + m q := by rw [i_add (by omega), k6, c1]
          rw [k6, h5]
          refine ⟨fun z => SKIP _ _ _ _ _ (fun hf y => by omega), fun z => ⟨by omega, by omega, by omega, by omega, sp_mn (fun w8 hw8 => sp_mx (fun w9 hw9 => CALL w6 w8 w9 _ _ k6 ?_ ?_ hx6 (fun s10 hp => NX (by omega) _ ew s10 hp _ _ _ _ _)))⟩⟩
          · rw [hw8, ew, h4]; unfold loA; rw [if_pos ha]
          · rw [hw9, ew, h4]; unfold hiA; rw [if_pos ha]
        · refine sp_readyAt (d := d + j + 1) ok hC2 hqN (fun w5 hw5 => sp_mx (fun w6 hw6 => ?_))
          have k6 : w6.toInt = stA (a q) (rdA (af q) (eAc s) q) lo hi := by rw [hw6, hw5, erd, h4]; unfold stA; rw [if_neg ha]
          have ew : (w6 + rI s2 113 q).toInt = stA (a q) (rdA (af q) (eAc s) q) lo hi + m q := by rw [i_add (by omega), k6, c1]
          rw [k6, h5]
          refine ⟨fun z => SKIP _ _ _ _ _ (fun hf y => by omega), fun z => ⟨by omega, by omega, by omega, by omega, sp_mn (fun w8 hw8 => sp_mx (fun w9 hw9 => CALL w6 w8 w9 _ _ k6 ?_ ?_ hx6 (fun s10 hp => NX (by omega) _ ew s10 hp _ _ _ _ _)))⟩⟩
          · rw [hw8, ew]; unfold loA mn2; rw [if_neg ha]; split <;> rfl
          · rw [hw9, ew]; unfold hiA mx2; rw [if_neg ha]; split <;> rfl
    refine st_Acts_putUp ?_
    rw [hC.1, nI_toInt (show n < 2147483648 by omega), nI_toInt (show N < 2147483648 by omega), h4, eD]
    refine ⟨fun _ => ⟨fun a1 => ⟨fun a2 => LP N 0 (by omega) s _ _ _ _ _ (Fr.rf _ _) (fun hf k hk => absurd hk (Nat.not_lt_zero k)) (Or.inl rfl) (Int.le_refl _), fun a2 => hK s ⟨Fr.rf _ _, fun hf hch => ?_, Or.inl rfl, Int.le_refl _⟩⟩, fun a1 => hK s ⟨Fr.rf _ _, fun hf hch => ?_, Or.inl rfl, Int.le_refl _⟩⟩, fun z => absurd (by omega) z⟩
    · have := WK hf hch; omega
    · have := WK hf hch; omega
end
