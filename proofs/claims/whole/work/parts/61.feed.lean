/-! TEXTS: feed(), told(), pole(), peg(): the pairs -/
theorem bv_e : ∀ i : Nat, (h : i < 32) → (255#64)[i]'(Nat.lt_trans h (by decide)) = (255#32)[i] := by decide
theorem bv_and (z : Int64) : (z &&& 255).toInt32 = z.toInt32 &&& 255 := by
  apply Int32.toBitVec_inj.mp
  show (z.toBitVec &&& 255#64).signExtend 32 = z.toBitVec.signExtend 32 &&& 255#32
  apply BitVec.eq_of_getLsbD_eq
  intro i hi
  rw [BitVec.getLsbD_and, BitVec.getLsbD_signExtend, BitVec.getLsbD_signExtend, BitVec.getLsbD_and]
  have h64 : i < 64 := by omega
  simp [hi, h64]
  rw [bv_e i hi]
theorem bv_in (x : Int32) : 0 ≤ (x &&& 255).toInt ∧ (x &&& 255).toInt ≤ 255 := by
  obtain ⟨j, hj, e⟩ := pk_andE x (m := 255) 8 rfl
  rw [e, nI_toInt (by omega)]; omega
/-- the byte i of a long -/
def bvI (y : Int64) (i : Nat) : Int32 := (y >>> ((8 * nI i).toInt64 &&& 63)).toInt32 &&& 255
section
variable {d : Nat} {v : hV} {s s1 : hS} {B : Nat → Int} {N : Nat}
theorem sp_append {N m : Nat} (h1 : rI s 49 1 = nI N) (hm : 1 ≤ m ∧ m ≤ 8) (hN : N + m ≤ 300) {y : Int64} {K : hS → Prop} (hK : ∀ s2, Fr (fun c k => (c = 49 ∧ k = 1) ∨ (c = 50 ∧ N ≤ k)) s s2 → rI s2 49 1 = nI (N + m) → (∀ j, j < m → rI s2 50 (N + j) = bvI y (m - 1 - j)) → K s2) : pcV d 14 [.ref 49, .int (nI m), .long y] v s K := by
  refine st_Text_append ?_
  have L : ∀ i j : Nat, j + i = m → ∀ (s1 : hS) (z1 z3 : Value) (x : Int32), Fr (fun c k => (c = 49 ∧ k = 1) ∨ (c = 50 ∧ N ≤ k)) s s1 → rI s1 49 1 = nI (N + j) → (∀ k, k < j → rI s1 50 (N + k) = bvI y (m - 1 - k)) → x.toInt = (i : Int) - 1 → pgV d 14 4 [.ref 49, z1, .long y, z3, .int x] [] v s1 K := by
    intro i
    induction i with
    | zero =>
      intro j hj s1 z1 z3 x hf g1 g2 hx
      refine st_Text_append_4 ⟨fun _ => hK s1 hf (by rw [g1]; congr 1; omega) (fun k hk => g2 k (by omega)), fun c => absurd (by omega) c⟩
    | succ i ih =>
      intro j hj s1 z1 z3 x hf g1 g2 hx
      have ex : x = nI i := i_inj (by rw [hx, nI_toInt (by omega)]; omega)
      have e1 : Int32.toInt (-1) = -1 := rfl
      refine st_Text_append_4 ⟨fun c => absurd c (by omega), fun _ => ⟨fun _ => ?_, fun c => absurd ?_ c⟩⟩
      · rw [g1, nI_toInt (by omega), Int.toNat_natCast, ex, nI_1]
        refine ⟨by omega, ih (j + 1) (by omega) _ _ _ _ ((hf.sI (by omega)).sI (by omega)) (by rw [r_II, if_pos ⟨rfl, rfl⟩]; rfl) (fun k hk => ?_) ?_⟩
        · rw [r_II, if_neg (by omega), r_II]
          by_cases hkj : k = j
          · rw [if_pos ⟨rfl, by omega⟩, hkj, show m - 1 - j = i by omega]; rfl
          · rw [if_neg (by omega)]; exact g2 k (by omega)
        · rw [← ex, i_add (by rw [e1]; omega), e1]; omega
      · rw [g1, nI_toInt (by omega)]; omega
  have e1 : Int32.toInt 1 = 1 := rfl
  have em : (nI m).toInt = m := nI_toInt (by omega)
  exact L m 0 (Nat.zero_add m) s _ _ _ (Fr.rf _ _) h1 (fun k hk => absurd hk (Nat.not_lt_zero k)) (by rw [i_sub (by rw [e1, em]; omega), e1, em])
theorem sm_feed {N m : Nat} (h1 : rI s 145 8 = nI N) (hm : 1 ≤ m ∧ m ≤ 8) (hN : N + m ≤ 300) {y : Int64} {K : Int32 → hS → Prop} (hK : ∀ s2, Fr (fun c k => (c = 145 ∧ k = 8) ∨ (c = 153 ∧ N ≤ k)) s s2 → rI s2 145 8 = nI (N + m) → (∀ j, j < m → rI s2 153 (N + j) = bvI y (m - 1 - j)) → K (nI (N + m)) s2) : pcI (d + 1) 153 [.ref 145, .int (nI m), .long y] v s K := by
  have e1 : Int32.toInt 1 = 1 := rfl
  have el1 : Int64.toInt 1 = 1 := rfl
  have el8 : Int64.toInt 8 = 8 := rfl
  have em : (nI m).toInt = m := nI_toInt (by omega)
  refine st_M_feed (sp_in (fun c => absurd ?_ c) (fun _ => ?_))
  · rw [em, el1, el8]; omega
  rw [h1, nI_add, nI_toInt (by omega)]
  refine ⟨fun c => absurd c (by omega), fun _ => ?_⟩
  have L : ∀ i j : Nat, j + i = m → ∀ (s1 : hS) (z1 z3 : Value) (x : Int32), Fr (fun c k => (c = 145 ∧ k = 8) ∨ (c = 153 ∧ N ≤ k)) s s1 → rI s1 145 8 = nI (N + j) → (∀ k, k < j → rI s1 153 (N + k) = bvI y (m - 1 - k)) → x.toInt = (i : Int) - 1 → pgI (d + 1) 153 20 [.ref 145, z1, .long y, z3, .int x] [] v s1 K := by
    intro i
    induction i with
    | zero =>
      intro j hj s1 z1 z3 x hf g1 g2 hx
      refine st_M_feed_20 ⟨fun _ => ?_, fun c => absurd (by omega) c⟩
      rw [g1, show N + j = N + m by omega]
      exact hK s1 hf (by rw [g1, show N + j = N + m by omega]) (fun k hk => g2 k (by omega))
    | succ i ih =>
      intro j hj s1 z1 z3 x hf g1 g2 hx
      have ex : x = nI i := i_inj (by rw [hx, nI_toInt (by omega)]; omega)
      have e1 : Int32.toInt (-1) = -1 := rfl
      refine st_M_feed_20 ⟨fun c => absurd c (by omega), fun _ => ?_⟩
      rw [g1, nI_toInt (by omega), Int.toNat_natCast, ex, nI_1, bv_and]
      refine ⟨by omega, ih (j + 1) (by omega) _ _ _ _ ((hf.sI (by omega)).sI (by omega)) (by rw [r_II, if_pos ⟨rfl, rfl⟩]; rfl) (fun k hk => ?_) ?_⟩
      · rw [r_II, if_neg (by omega), r_II]
        by_cases hkj : k = j
        · rw [if_pos ⟨rfl, by omega⟩, hkj, show m - 1 - j = i by omega]; rfl
        · rw [if_neg (by omega)]; exact g2 k (by omega)
      · rw [← ex, i_add (by rw [e1]; omega), e1]; omega
  exact L m 0 (Nat.zero_add m) s _ _ _ (Fr.rf _ _) h1 (fun k hk => absurd hk (Nat.not_lt_zero k)) (by rw [i_sub (by rw [e1, em]; omega), e1, em])
theorem th_feed (hx : pX s) (n : Int32) (y : Int64) : prI fX v (d + 2) 13 153 [.int n, .long y] s pX := by
  have hx0 := hx
  obtain ⟨h0, N, h1, h2, h3, h4, h5⟩ := hx
  have el1 : Int64.toInt 1 = 1 := rfl
  have el8 : Int64.toInt 8 = 8 := rfl
  have O : ∀ K : Int32 → hS → Prop, ¬ (1 ≤ n.toInt ∧ n.toInt ≤ 8) → K (-1000000002) s → pcI (d + 2) 153 [.ref 145, .int n, .long y] v s K := fun K hn hK => st_M_feed (sp_in (fun _ => hK) (fun z => absurd z hn))
  have eN : (nI N).toInt = N := nI_toInt (by omega)
  refine st_S_feed ?_
  rw [h2]
  refine ⟨fun c => ⟨Fr.rf _ _, O _ (by omega) ⟨rfl, Fr.rf _ _, hx0⟩⟩, fun c => ⟨fun c2 => ⟨Fr.rf _ _, O _ (by omega) ⟨rfl, Fr.rf _ _, hx0⟩⟩, fun c2 => ?_⟩⟩
  have en : n = nI n.toInt.toNat := i_of (by omega)
  generalize hm : n.toInt.toNat = m at en
  have hm8 : 1 ≤ m ∧ m ≤ 8 := by omega
  subst en
  rw [nI_add, nI_toInt (by omega)]
  refine ⟨fun c3 => ⟨Fr.rf _ _, st_M_feed (sp_in (fun z => absurd ?_ z) (fun _ => ?_))⟩, fun c3 => ?_⟩
  · rw [el1, el8, nI_toInt (by omega)]; omega
  · rw [h3, nI_add, nI_toInt (by omega)]
    exact ⟨fun _ => ⟨rfl, Fr.rf _ _, hx0⟩, fun z => absurd c3 z⟩
  · refine sp_append h2 hm8 (by omega) (fun s2 hf2 g1 g2 => ⟨hf2.mo (fun c k z => by unfold fX; omega), ?_⟩)
    have h3' : rI s2 145 8 = nI N := by rw [hf2.i (by omega)]; exact h3
    refine sm_feed h3' hm8 (by omega) (fun s3 hf3 q1 q2 => ⟨g1.symm, hf3.mo (fun c k z => by unfold fX; omega), ?_⟩)
    have hff : Fr (fun c k => ((c = 49 ∧ k = 1) ∨ (c = 50 ∧ N ≤ k)) ∨ ((c = 145 ∧ k = 8) ∨ (c = 153 ∧ N ≤ k))) s s3 := (hf2.mo (fun c k z => Or.inl z)).tr (hf3.mo (fun c k z => Or.inr z))
    refine ⟨pRo_fr h0 hff (fun c k hc z => by omega), N + m, by omega, ?_, q1, fun i hi => ?_, ?_⟩
    · rw [hf3.i (by omega)]; exact g1
    · by_cases hiN : i < N
      · rw [hff.i (by omega), hff.i (by omega)]; exact h4 i hiN
      · have e1 := g2 (i - N) (by omega)
        have e2 := q2 (i - N) (by omega)
        rw [show N + (i - N) = i by omega] at e1 e2
        rw [hf3.i (by omega), e1, e2]
        exact ⟨rfl, bv_in _⟩
    · rw [hff.i (by omega), hff.i (by omega)]; exact h5
theorem th_told (hv : kV v) (ht : pT v s) (hn : pN v s) (hu : pU s) (x : Int32) : prI fX v (d + 1) 53 174 [.int x] s (fun s2 => s2 = s) := by
  obtain ⟨D, t1, t2, t3, t4, t5, t6⟩ := ht
  obtain ⟨L, n1, n2, n3, n4⟩ := hn
  obtain ⟨R, u1, u2, u3, u4⟩ := hu
  have el0 : Int64.toInt 0 = 0 := rfl
  have el8 : Int64.toInt 8 = 8 := rfl
  have M1 : ∀ K : Int32 → hS → Prop, (0 ≤ x.toInt ∧ x.toInt ≤ 8 → K (rI s 148 x.toInt.toNat) s) → (x.toInt = 9 → K (rI s 152 0) s) → (x.toInt = 10 → K (rI s 152 1) s) → (x.toInt = 11 → K (rI s 145 16) s) → (x.toInt = 12 → K (rI s 145 18) s) → (¬ (0 ≤ x.toInt ∧ x.toInt ≤ 12) → K (-1000000002) s) → pcI (d + 1) 174 [.ref 145, .int x] v s K := by
    intro K a0 a1 a2 a3 a4 a5
    refine st_M_told (sp_in (fun c => ?_) (fun c => ?_))
    · rw [el0, el8] at c
      exact ⟨a1, fun c1 => ⟨a2, fun c2 => ⟨a3, fun c3 => ⟨a4, fun c4 => a5 (by omega)⟩⟩⟩⟩
    · rw [el0, el8] at c
      exact ⟨by omega, a0 c⟩
  have F : ∀ (y : Int32), (∀ K : Int32 → hS → Prop, K y s → pcI (d + 1) 174 [.ref 145, .int x] v s K) → (Fr fX s s ∧ pcI (d + 1) 174 [.ref 145, .int x] v s (fun x2 s2 => x2 = y ∧ Fr fX s s2 ∧ s2 = s)) := fun y hy => ⟨Fr.rf _ _, hy _ ⟨rfl, Fr.rf _ _, rfl⟩⟩
  refine st_S_told hv.1.1 hv.2.1 ⟨fun c => F _ (fun K hK => M1 K (by omega) (by omega) (by omega) (by omega) (by omega) (fun _ => hK)), fun c => ⟨fun c2 => F _ (fun K hK => M1 K (by omega) (by omega) (by omega) (by omega) (by omega) (fun _ => hK)), fun c2 => ⟨fun c3 => ⟨by omega, F _ (fun K hK => M1 K (fun _ => ?_) (by omega) (by omega) (by omega) (by omega) (by omega))⟩, fun c3 => ⟨fun c4 => F _ (fun K hK => M1 K (by omega) (fun _ => ?_) (by omega) (by omega) (by omega) (by omega)), fun c4 => F _ (fun K hK => M1 K (by omega) (by omega) (fun _ => ?_) (by omega) (by omega) (by omega)), fun c4 => F _ (fun K hK => M1 K (by omega) (by omega) (by omega) (fun _ => ?_) (by omega) (by omega)), fun c4 => F _ (fun K hK => M1 K (by omega) (by omega) (by omega) (by omega) (fun _ => ?_) (by omega))⟩⟩⟩⟩
  · have := t2 x.toInt.toNat (by omega)
    have e : rI s 148 x.toInt.toNat = rI s (vT v + 1) x.toInt.toNat := i_inj (by rw [this.1, this.2])
    rw [e]; exact hK
  · have e : rI s 152 0 = rI s (vT v + 3) 2 := by rw [t5.1]; exact t3.1.symm
    rw [e]; exact hK
  · have e : rI s 152 1 = rI s (vT v + 9) 2 := by rw [t6.1]; exact t4.1.symm
    rw [e]; exact hK
  · have e : rI s 145 16 = rI s (vN v) 4 := by rw [n4]; exact n2.1.symm
    rw [e]; exact hK
  · have e : rI s 145 18 = rI s 48 6 := by rw [u2, u3]
    rw [e]; exact hK
theorem sp_ofOne {rg : Nat} (hr : kR rg) {L : rgL} (hd : dR rg s L) (k w : Int32) {K : Int32 → hS → Prop} (h0 : ¬ (0 ≤ k.toInt ∧ k.toInt < L.length) → K (-1000000001) s) (h1 : (0 ≤ k.toInt ∧ k.toInt < L.length) → w.toInt = 0 → ∀ y : Int32, y.toInt = (L.getD k.toInt.toNat (0, 0)).1 → K y s) (h2 : (0 ≤ k.toInt ∧ k.toInt < L.length) → w.toInt = 1 → ∀ y : Int32, y.toInt = (L.getD k.toInt.toNat (0, 0)).2 → K y s) (h3 : (0 ≤ k.toInt ∧ k.toInt < L.length) → ¬ (w.toInt = 0 ∨ w.toInt = 1) → K (-1000000002) s) : pcI d 55 [.ref rg, .int k, .int w] v s K := by
  have hl := hd.2.1
  refine st_Ring_ofOne hr ?_
  rw [hd.1, nI_toInt (by omega)]
  refine ⟨fun c => h0 (by omega), fun c => ⟨fun c2 => ⟨fun e => ⟨by omega, h1 (by omega) e _ (hd.2.2 k.toInt.toNat (by omega)).1⟩, fun e => ⟨by omega, h2 (by omega) e _ (hd.2.2 k.toInt.toNat (by omega)).2⟩, fun e => h3 (by omega) e⟩, fun c2 => h0 (by omega)⟩⟩
theorem sm_post {kd : Nat} (hkd : kd ≤ 1) {L : rgL} (hd : dP kd (16 * kd) s L) (k w : Int32) {K : Int32 → hS → Prop} (h0 : ¬ (0 ≤ k.toInt ∧ k.toInt < L.length) → K (-1000000001) s) (h1 : (0 ≤ k.toInt ∧ k.toInt < L.length) → w.toInt = 0 → ∀ y : Int32, y.toInt = (L.getD k.toInt.toNat (0, 0)).1 → K y s) (h2 : (0 ≤ k.toInt ∧ k.toInt < L.length) → w.toInt = 1 → ∀ y : Int32, y.toInt = (L.getD k.toInt.toNat (0, 0)).2 → K y s) (h3 : (0 ≤ k.toInt ∧ k.toInt < L.length) → ¬ (w.toInt = 0 ∨ w.toInt = 1) → K (-1000000002) s) : pcI (d + 1) 176 [.ref 145, .int (nI kd), .int k, .int w] v s K := by
  have hl := hd.2.1
  have el0 : Int64.toInt 0 = 0 := rfl
  have e1 : Int32.toInt 1 = 1 := rfl
  have em : (nI L.length).toInt = L.length := nI_toInt (by omega)
  have es : (nI L.length - 1).toInt = (L.length : Int) - 1 := by rw [i_sub (by rw [em, e1]; omega), em, e1]
  refine st_M_post ?_
  rw [nI_toInt (by omega), Int.toNat_natCast, hd.1]
  have Z : 0 ≤ k.toInt ∧ k.toInt < L.length → (0 ≤ ((16 * nI kd) + k).toInt ∧ ((16 * nI kd) + k).toInt < 64) ∧ ((16 * nI kd) + k).toInt.toNat = 16 * kd + k.toInt.toNat := by
    intro hk
    have e16 : (16 : Int32) * nI kd = nI (16 * kd) := pk_mul 16 kd
    have ek : (nI (16 * kd)).toInt = (16 * kd : Nat) := nI_toInt (by omega)
    have : ((16 * nI kd) + k).toInt = (16 * kd : Nat) + k.toInt := by rw [e16, i_add (by rw [ek]; omega), ek]
    rw [this]; omega
  refine ⟨by omega, sp_in (fun c => ?_) (fun c => ?_)⟩
  · rw [el0, i_64, es] at c
    exact h0 (by omega)
  · rw [el0, i_64, es] at c
    have hk : 0 ≤ k.toInt ∧ k.toInt < L.length := by omega
    obtain ⟨z1, z2⟩ := Z hk
    rw [z2]
    have := hd.2.2 k.toInt.toNat (by omega)
    exact ⟨fun e => ⟨z1, h1 hk e _ this.1⟩, fun e => ⟨fun e2 => ⟨z1, h2 hk e2 _ this.2⟩, fun e2 => h3 hk (by omega)⟩⟩
theorem th_pole (hv : kV v) (ht : pT v s) (k w : Int32) : prI fX v (d + 2) 54 175 [.int k, .int w] s (fun s2 => s2 = s) := by
  obtain ⟨D, t1, t2, t3, t4, t5, t6⟩ := ht
  refine st_S_pole hv.1.1 (sp_ofOne (kT_r1 hv.1.1) t3 k w (fun c => ?_) (fun c e y hy => ?_) (fun c e y hy => ?_) (fun c e => ?_))
  all_goals refine ⟨Fr.rf _ _, st_M_pole (sm_post (kd := 0) (by decide) t5 k w (fun z => ?_) (fun z e2 y2 hy2 => ?_) (fun z e2 y2 hy2 => ?_) (fun z e2 => ?_))⟩
  all_goals first
    | exact ⟨rfl, Fr.rf _ _, rfl⟩
    | exact absurd c z
    | (exfalso; omega)
    | exact ⟨i_inj (by rw [hy2, hy]), Fr.rf _ _, rfl⟩
theorem th_peg (hv : kV v) (ht : pT v s) (k w : Int32) : prI fX v (d + 2) 56 177 [.int k, .int w] s (fun s2 => s2 = s) := by
  obtain ⟨D, t1, t2, t3, t4, t5, t6⟩ := ht
  refine st_S_peg hv.1.1 (sp_ofOne (kT_r2 hv.1.1) t4 k w (fun c => ?_) (fun c e y hy => ?_) (fun c e y hy => ?_) (fun c e => ?_))
  all_goals refine ⟨Fr.rf _ _, st_M_peg (sm_post (kd := 1) (by decide) t6 k w (fun z => ?_) (fun z e2 y2 hy2 => ?_) (fun z e2 y2 hy2 => ?_) (fun z e2 => ?_))⟩
  all_goals first
    | exact ⟨rfl, Fr.rf _ _, rfl⟩
    | exact absurd c z
    | (exfalso; omega)
    | exact ⟨i_inj (by rw [hy2, hy]), Fr.rf _ _, rfl⟩
end
