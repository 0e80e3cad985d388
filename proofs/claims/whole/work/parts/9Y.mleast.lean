/-! LEAST TIME: the reference's rows; the pair -/
section
variable {d : Nat} {v : hV} {s s1 : hS} {N : Nat} {m a : Nat → Int} {af : Nat → Nat} {p : Nat → Nat}
theorem swp_st {i j : Nat} (hp : prm N p) (hN : N ≤ 8) (hr : ∀ t, t < N → rI s 168 t = nI (p t)) (hi : i < N) (hj : j < N) : ∀ t, t < N → rI (sI (sI s 168 i (rI s 168 j)) 168 j (rI s 168 i)) 168 t = nI (swp p i j t) := fun t ht => by
  unfold swp
  rw [r_II]
  by_cases c : t = j
  · rw [if_pos ⟨rfl, c⟩, if_pos c, hr i hi]
  · rw [if_neg (fun z => c z.2), if_neg c, r_II]
    by_cases c2 : t = i
    · rw [if_pos ⟨rfl, c2⟩, if_pos c2, hr j hj]
    · rw [if_neg (fun z => c2 z.2), if_neg c2, hr t ht]
theorem sm_nextRow (hN : N ≤ 8) (hM : rI s 145 33 = nI N) (hp : prm N p) (hr : ∀ i, i < N → rI s 168 i = nI (p i)) {K : Int32 → hS → Prop} (h0 : (∀ q, prm N q → cod q N ≤ cod p N) → K 0 s) (h1 : ∀ (p2 : Nat → Nat) (s2 : hS), prm N p2 → (∀ i, i < N → rI s2 168 i = nI (p2 i)) → cod p N < cod p2 N → (∀ q, prm N q → cod q N ≤ cod p2 N → cod q N ≤ cod p N ∨ ∀ i, i < N → q i = p2 i) → Fr (fun c _ => c = 168) s s2 → K 1 s2) : pcI d 219 [.ref 145] v s K := by
  have em1 : Int32.toInt (-1) = -1 := rfl
  have e1 : Int32.toInt 1 = 1 := rfl
  have e2 : Int32.toInt 2 = 2 := rfl
  have eN1 : 1 ≤ N → nI N - 1 = nI (N - 1) := fun h => i_inj (by rw [i_sub (by rw [nI_toInt (by omega), e1]; omega), nI_toInt (by omega), e1, nI_toInt (by omega)]; omega)
  have ev : ∀ (x : Nat), 1 ≤ x → x < 100 → nI x + (-1) = nI (x - 1) := fun x hx hx2 => i_inj (by
    rw [i_add (by rw [nI_toInt (by omega), em1]; omega), nI_toInt (by omega), em1, nI_toInt (by omega)]; omega)
  -- the turning round
  have T67 : ∀ (x y : Nat) (p2 : Nat → Nat), x < y → y < N → (∀ t, x + 1 ≤ t → t + 1 < N → p (t + 1) < p t) → p x < p y → (∀ t, y < t → t < N → p t < p x) → ∀ j u w : Nat, x < u → u + w = N + x → w < N → w + 1 ≤ u + j → ∀ (p' : Nat → Nat) (s2 : hS), Fr (fun c _ => c = 168) s s2 → prm N p' → (∀ i, i < N → rI s2 168 i = nI (p' i)) → (∀ i, i < N → p' i = if x < i ∧ (i < u ∨ w < i) then swp p x y (N + x - i) else swp p x y i) → ∀ z1 z2 z3, pgI d 219 67 [.ref 145, z1, z2, z3, .int (nI u), .int (nI w)] [] v s2 K := by
    intro x y p2 hxy hyN hd hpxy hl j
    induction j with
    | zero =>
      intro u w hxu huw hwN hj p' s2 hf hp' hr' he z1 z2 z3
      refine st_M_nextRow_67 ?_
      rw [nI_toInt (show u < 2147483648 by omega), nI_toInt (show w < 2147483648 by omega)]
      refine ⟨fun z => absurd z (by omega), fun _ => ?_⟩
      obtain ⟨n1, n2⟩ := next_ok (p2 := p') hN hp hxy hyN hd hpxy hl hp' (fun i hi => by rw [he i (by omega), if_neg (by omega)]) (fun i hi hiN => by
        rw [he i hiN]
        by_cases c : i < u ∨ w < i
        · rw [if_pos ⟨hi, c⟩]
        · rw [if_neg (fun z => c z.2), show N + x - i = i by omega])
      exact h1 p' s2 hp' hr' n1 n2 hf
    | succ j ih =>
      intro u w hxu huw hwN hj p' s2 hf hp' hr' he z1 z2 z3
      have q1 : nI u + 1 = nI (u + 1) := by rw [nI_1]
      refine st_M_nextRow_67 ?_
      rw [nI_toInt (show u < 2147483648 by omega), nI_toInt (show w < 2147483648 by omega)]
      refine ⟨fun c => ?_, fun c => ?_⟩
      · rw [ev w (by omega) (by omega), q1, Int.toNat_natCast, Int.toNat_natCast]
        refine ⟨by omega, by omega, by omega, by omega, ih (u + 1) (w - 1) (by omega) (by omega) (by omega) (by omega) (swp p' u w) _ ((hf.sI rfl).sI rfl) (swp_prm hp' (by omega) hwN) (swp_st hp' hN hr' (by omega) hwN) (fun i hi => ?_) _ _ _⟩
        have hu := he u (by omega)
        have hw := he w hwN
        have hi2 := he i hi
        rw [if_neg (by omega)] at hu hw
        by_cases c1 : i = w
        · rw [if_pos (by omega), show N + x - i = u by omega]
          show swp p' u w i = _
          unfold swp at hu ⊢
          rw [if_pos c1]; exact hu
        · by_cases c2 : i = u
          · rw [if_pos (by omega), show N + x - i = w by omega, ← hw]
            show swp p' u w i = _
            conv => lhs; unfold swp
            rw [if_neg c1, if_pos c2]
          · have : swp p' u w i = p' i := by unfold swp; rw [if_neg c1, if_neg c2]
            rw [this, hi2]
            by_cases c3 : x < i ∧ (i < u ∨ w < i)
            · rw [if_pos c3, if_pos (by omega)]
            · rw [if_neg c3, if_neg (by omega)]
      · obtain ⟨n1, n2⟩ := next_ok (p2 := p') hN hp hxy hyN hd hpxy hl hp' (fun i hi => by rw [he i (by omega), if_neg (by omega)]) (fun i hi hiN => by
          rw [he i hiN]
          by_cases c : i < u ∨ w < i
          · rw [if_pos ⟨hi, c⟩]
          · rw [if_neg (fun z => c z.2), show N + x - i = i by omega])
        exact h1 p' s2 hp' hr' n1 n2 hf
  -- the one to change with
  have T29 : ∀ x : Nat, x + 1 < N → (∀ t, x + 1 ≤ t → t + 1 < N → p (t + 1) < p t) → p x < p (x + 1) → ∀ j y : Nat, x + 1 + j = y → y < N → (∀ t, y < t → t < N → p t < p x) → ∀ z3 z4 z5, pgI d 219 29 [.ref 145, .int (nI x), .int (nI y), z3, z4, z5] [] v s K := by
    intro x hx hd hpx j
    induction j with
    | zero =>
      intro y hy hyN hl z3 z4 z5
      have hy : y = x + 1 := by omega
      have q1 : nI x + 1 = nI (x + 1) := by rw [nI_1]
      have p1y := hp.1 y hyN
      have p1x := hp.1 x (by omega)
      refine st_M_nextRow_29 ?_
      rw [nI_toInt (show x < 2147483648 by omega), nI_toInt (show y < 2147483648 by omega), Int.toNat_natCast, Int.toNat_natCast, hr x (by omega), hr y hyN, nI_toInt (show p x < 2147483648 by omega), nI_toInt (show p y < 2147483648 by omega), ← hr x (by omega), ← hr y hyN, hM, eN1 (by omega), q1]
      rw [← hy] at hpx
      refine ⟨by omega, by omega, fun z => absurd z (by omega), fun _ => ⟨by omega, by omega, by omega, by omega, T67 x y p (by omega) hyN hd hpx hl N (x + 1) (N - 1) (by omega) (by omega) (by omega) (by omega) (swp p x y) _ (((Fr.rf (fun c _ => c = 168) s).sI (c := 168) rfl).sI (c := 168) rfl) (swp_prm hp (by omega) hyN) (swp_st hp hN hr (by omega) hyN) (fun i hi => by rw [if_neg (by omega)]) _ _ _⟩⟩
    | succ j ih =>
      intro y hy hyN hl z3 z4 z5
      have q1 : nI x + 1 = nI (x + 1) := by rw [nI_1]
      have p1y := hp.1 y hyN
      have p1x := hp.1 x (by omega)
      refine st_M_nextRow_29 ?_
      rw [nI_toInt (show x < 2147483648 by omega), nI_toInt (show y < 2147483648 by omega), Int.toNat_natCast, Int.toNat_natCast, hr x (by omega), hr y hyN, nI_toInt (show p x < 2147483648 by omega), nI_toInt (show p y < 2147483648 by omega), ← hr x (by omega), ← hr y hyN, hM, eN1 (by omega), q1, ev y (by omega) (by omega)]
      refine ⟨by omega, by omega, fun z => ih (y - 1) (by omega) (by omega) (fun t ht htN => ?_) _ _ _, fun z => ⟨by omega, by omega, by omega, by omega, T67 x y p (by omega) hyN hd ?_ hl N (x + 1) (N - 1) (by omega) (by omega) (by omega) (by omega) (swp p x y) _ (((Fr.rf (fun c _ => c = 168) s).sI (c := 168) rfl).sI (c := 168) rfl) (swp_prm hp (by omega) hyN) (swp_st hp hN hr (by omega) hyN) (fun i hi => by rw [if_neg (by omega)]) _ _ _⟩⟩
      · by_cases c : t = y
        · rw [c]; omega
        · exact hl t (by omega) htN
      · have : p x ≠ p y := fun c => by have := hp.2.1 x y (by omega) hyN c; omega
        omega
  -- where it first rises
  have T5 : ∀ j : Nat, j + 1 ≤ N → ∀ x1 : Int32, x1.toInt = (j : Int) - 1 → (∀ t, j ≤ t → t + 1 < N → p (t + 1) < p t) → ∀ z2 z3 z4 z5, pgI d 219 5 [.ref 145, .int x1, z2, z3, z4, z5] [] v s K := by
    intro j
    induction j with
    | zero =>
      intro hj x1 hx1 hd z2 z3 z4 z5
      refine st_M_nextRow_5 ⟨fun _ => ⟨fun _ => h0 (fun q hq => desc_max hN hp hq hd (fun t _ z => absurd z (Nat.not_lt_zero t))), fun z => absurd (by omega) z⟩, fun z => absurd (by omega) z⟩
    | succ j ih =>
      intro hj x1 hx1 hd z2 z3 z4 z5
      have ex : x1 = nI j := i_inj (by rw [hx1, nI_toInt (by omega)]; omega)
      subst ex
      have q1 : nI j + 1 = nI (j + 1) := by rw [nI_1]
      have p1y := hp.1 (j + 1) (by omega)
      have p1x := hp.1 j (by omega)
      refine st_M_nextRow_5 ?_
      rw [q1, nI_toInt (show j < 2147483648 by omega), nI_toInt (show j + 1 < 2147483648 by omega), Int.toNat_natCast, Int.toNat_natCast, hr j (by omega), hr (j + 1) (by omega), nI_toInt (show p j < 2147483648 by omega), nI_toInt (show p (j + 1) < 2147483648 by omega), hM, eN1 (by omega)]
      refine ⟨fun z => absurd z (by omega), fun _ => ⟨by omega, by omega, fun z => ih (by omega) _ ?_ (fun t ht htN => ?_) _ _ _ _, fun z => ⟨fun z => absurd z (by omega), fun _ => T29 j (by omega) hd ?_ (N - 1 - (j + 1)) (N - 1) (by omega) (by omega) (fun t a1 a2 => by omega) _ _ _⟩⟩⟩
      · rw [i_add (by rw [nI_toInt (by omega), em1]; omega), nI_toInt (by omega), em1]; omega
      · by_cases c : t = j
        · rw [c]; omega
        · exact hd t (by omega) htN
      · have : p j ≠ p (j + 1) := fun c => by have := hp.2.1 j (j + 1) (by omega) (by omega) c; omega
        omega
  refine st_M_nextRow ?_
  rw [hM]
  have eN2 : (nI N - 2).toInt = (N : Int) - 2 := by rw [i_sub (by rw [nI_toInt (by omega), e2]; omega), nI_toInt (by omega), e2]
  by_cases c : N = 0
  · refine st_M_nextRow_5 ⟨fun _ => ⟨fun _ => h0 (fun q hq => by rw [c]; exact Nat.le_refl _), fun z => absurd (by omega) z⟩, fun z => absurd (by omega) z⟩
  · exact T5 (N - 1) (by omega) _ (by omega) (fun t a1 a2 => by omega) _ _ _ _
theorem bpR_cg {q : Nat → Nat} {y : Int} (h : bpR N m a af p y) (he : ∀ i, i < N → q i = p i) : bpR N m a af q y := fun b z hb hs => h b z hb (fun i j hij hj => by
  have := hs i j hij hj
  rw [he i (by omega), he j hj] at this; exact this)
theorem bpR_le {y y2 : Int} (h : bpR N m a af p y) (hy : y2 ≤ y) : bpR N m a af p y2 := fun b z hb hs => by
  have := h b z hb hs; omega
theorem sm_least (ok : okT2 N m a af) (hC : cAm N m a af s) {K : Int32 → hS → Prop} (hK : ∀ (w : Int32) (s2 : hS), optS N m a af w.toInt → Fr (fun c _ => c = 168 ∨ c = 169 ∨ c = 170) s s2 → K w s2) : pcI (d + 3) 216 [.ref 145] v s K := by
  have hN := ok.1
  have hid : prm N (fun i => i) := ⟨fun i hi => hi, fun i j _ _ h => h, fun k hk => ⟨k, hk, rfl⟩⟩
  have DONE : ∀ (x1 : Int32) (s2 : hS), Fr (fun c _ => c = 168 ∨ c = 169 ∨ c = 170) s s2 → (x1.toInt = 1000000 ∨ ∃ b, fea N m a af b ∧ mkz N m b x1.toInt) → (∀ q, prm N q → bpR N m a af q x1.toInt) → K x1 s2 := fun x1 s2 hf hA hB => by
    have LE : ∀ b z2, fea N m a af b → mkz N m b z2 → x1.toInt ≤ z2 := fun b z2 hb hz => by
      obtain ⟨b2, hb2⟩ := smin_ex hb hz
      obtain ⟨p, hp, hs⟩ := srt_ex b2 N
      exact hB p hp b2 z2 hb2 hs
    refine hK x1 s2 ⟨?_, LE⟩ hf
    rcases hA with h | h
    · have h1 := seq_fea ok
      have := LE _ _ h1.1 h1.2
      have := smS_b30 ok N (Nat.le_refl _)
      omega
    · exact h
  have L16 : ∀ (j : Nat) (p : Nat → Nat), cod p N + j = 8 ^ N → prm N p → ∀ (x1 : Int32) (s2 : hS) (z2 : Value), Fr (fun c _ => c = 168 ∨ c = 169 ∨ c = 170) s s2 → (∀ i, i < N → rI s2 168 i = nI (p i)) → (x1.toInt = 1000000 ∨ ∃ b, fea N m a af b ∧ mkz N m b x1.toInt) → (∀ q, prm N q → cod q N ≤ cod p N → bpR N m a af q x1.toInt) → pgI (d + 3) 216 16 [.ref 145, .int x1, z2] [] v s2 K := by
    intro j
    induction j using Nat.strongRecOn with
    | _ j ih =>
      intro p hj hp x1 s2 z2 hf hr hA hB
      have hC2 : cAm N m a af s2 := cAm_fr hC hf (by omega) (fun k => by omega)
      refine st_M_least_16 (sm_nextRow hN hC2.1 hp hr (fun hall => ⟨fun _ => DONE x1 s2 hf hA (fun q hq => hB q hq (hall q hq)), fun z => absurd rfl z⟩) (fun p2 s3 hp2 hr2 hlt hnx f3 => ⟨fun z => absurd z (by decide), fun _ => ?_⟩))
      have F3 := hf.tr (f3.mo (W' := fun c _ => c = 168 ∨ c = 169 ∨ c = 170) (fun c k z => Or.inl z))
      have hC3 : cAm N m a af s3 := cAm_fr hC F3 (by omega) (fun k => by omega)
      refine sm_laid (d := d) ok hC3 hp2 hr2 (fun w s4 wA wB f4 => ?_)
      have F4 := F3.tr (f4.mo (W' := fun c _ => c = 168 ∨ c = 169 ∨ c = 170) (fun c k z => Or.inr z))
      have hr4 : ∀ i, i < N → rI s4 168 i = nI (p2 i) := fun i hi => by rw [f4.i (by omega)]; exact hr2 i hi
      have hcb := cod_b hp2 hN N (Nat.le_refl _)
      refine ⟨fun c => ih (8 ^ N - cod p2 N) (by omega) p2 (by omega) hp2 w s4 _ F4 hr4 wA (fun q hq hc => ?_), fun c => ih (8 ^ N - cod p2 N) (by omega) p2 (by omega) hp2 x1 s4 _ F4 hr4 hA (fun q hq hc => ?_)⟩
      · rcases hnx q hq hc with h | h
        · exact bpR_le (hB q hq h) (by omega)
        · exact bpR_cg wB h
      · rcases hnx q hq hc with h | h
        · exact hB q hq h
        · exact bpR_cg (bpR_le wB (by omega)) h
  have L2 : ∀ j q : Nat, q + j = N → ∀ s2 : hS, Fr (fun c _ => c = 168) s s2 → (∀ t, t < q → rI s2 168 t = nI t) → pgI (d + 3) 216 2 [.ref 145, .int (nI q), .null] [] v s2 K := by
    intro j
    induction j with
    | zero =>
      intro q hq s2 f2 hz
      have hq : q = N := by omega
      have F2 := f2.mo (W' := fun c _ => c = 168 ∨ c = 169 ∨ c = 170) (fun c k z => Or.inl z)
      have hC2 : cAm N m a af s2 := cAm_fr hC F2 (by omega) (fun k => by omega)
      refine st_M_least_2 ?_
      rw [hC2.1, nI_toInt (show q < 2147483648 by omega), nI_toInt (show N < 2147483648 by omega)]
      refine ⟨fun z => absurd z (by omega), fun _ => sm_laid (d := d) ok hC2 hid (fun i hi => hz i (by omega)) (fun w s4 wA wB f4 => ?_)⟩
      have hcb := cod_b hid hN N (Nat.le_refl _)
      refine L16 (8 ^ N - cod (fun i => i) N) (fun i => i) (by omega) hid w s4 _ (F2.tr (f4.mo (fun c k z => Or.inr z))) (fun i hi => by rw [f4.i (by omega)]; exact hz i (by omega)) wA (fun q hq hc => bpR_cg wB (id_min hN hq hc))
    | succ j ih =>
      intro q hq s2 f2 hz
      have q2 : nI q + 1 = nI (q + 1) := by rw [nI_1]
      have hC2 : cAm N m a af s2 := cAm_fr hC f2 (by omega) (fun k => by omega)
      refine st_M_least_2 ?_
      rw [hC2.1, nI_toInt (show q < 2147483648 by omega), nI_toInt (show N < 2147483648 by omega), Int.toNat_natCast, q2]
      refine ⟨fun _ => ⟨by omega, ih (q + 1) (by omega) _ (f2.sI rfl) (fun t ht => ?_)⟩, fun z => absurd (by omega) z⟩
      rw [r_II]
      by_cases c : t = q
      · rw [if_pos ⟨rfl, c⟩, c]
      · rw [if_neg (fun z => c z.2)]; exact hz t (by omega)
  exact st_M_least (L2 N 0 (by omega) s (Fr.rf _ _) (fun t ht => absurd ht (Nat.not_lt_zero t)))
end
