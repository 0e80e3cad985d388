/-! A STORM, in the class: the rings -/
def ldL (bs : Nat → Int) (le : Int) (O : Nat → Int) (k : Nat) : Int := (if bs k - le < 0 then 0 else bs k - le) + O k
def cRg (r a N : Nat) (bs : Nat → Int) (H : Nat → Bool) (O : Nat → Int) (s : hS) : Prop := (∀ i, i < N → rI s (r + 5) i = (if H (a + i) = true then 1 else 0) ∧ (rI s (r + 4) i).toInt = O (a + i) ∧ (rI s (r + 3) i).toInt = bs (a + i)) ∧ rI s r 6 = nI (cn H a 16)
/-- a ring: its list, from number a on -/
def rgL1 (a : Nat) (L : rgL) (pl mg bs : Nat → Int) (H : Nat → Bool) (O : Nat → Int) : Prop := L.length ≤ 16 ∧ ∀ i, i < L.length → (pl (a + i) = (L.getD i (0, 0)).1 ∧ 0 ≤ pl (a + i) ∧ pl (a + i) ≤ 23) ∧ (mg (a + i) = (L.getD i (0, 0)).2 ∧ 1 ≤ mg (a + i) ∧ mg (a + i) ≤ 999) ∧ (0 ≤ bs (a + i) ∧ bs (a + i) ≤ 486) ∧ (H (a + i) = true → 0 ≤ O (a + i) ∧ O (a + i) ≤ 15552)
def ofs (a : Nat) (x : Int) : Int := if x = -1 then -1 else x - a
def flM24 (x : Int32) : Prop := ((x ^^^ 24).toInt < 0 → ((x - x / 24 * 24).toInt = 0 → (x - x / 24 * 24).toInt = x.toInt % 24) ∧ (¬ (x - x / 24 * 24).toInt = 0 → ((x - x / 24 * 24) + 24).toInt = x.toInt % 24)) ∧ (¬ (x ^^^ 24).toInt < 0 → (x - x / 24 * 24).toInt = x.toInt % 24)
theorem flM24_all : ∀ n : Nat, n < 48 → flM24 (nI n - 24) := by unfold flM24; decide +kernel
theorem flM24_of {x : Int32} (h : -24 ≤ x.toInt ∧ x.toInt ≤ 23) : flM24 x := by
  have e8 : Int32.toInt 24 = 24 := rfl
  have : x = nI (x.toInt + 24).toNat - 24 := i_inj (by
    rw [i_sub (by rw [nI_toInt (by omega), e8]; omega), nI_toInt (by omega), e8]; omega)
  rw [this]; exact flM24_all _ (by omega)
theorem wF_cg {E E2 : Nat → Int} {H : Nat → Bool} : ∀ j i p, (∀ k, i ≤ k → k < i + j → H k = true → E k = E2 k) → wF E H j i p = wF E2 H j i p := by
  intro j
  induction j with
  | zero => intro i p _; rfl
  | succ j ih =>
    intro i p h
    unfold wF
    have e : (if H i = true ∧ p.2 < E i then ((i : Int), E i) else p) = (if H i = true ∧ p.2 < E2 i then ((i : Int), E2 i) else p) := by
      by_cases c : H i = true
      · rw [h i (Nat.le_refl _) (by omega) c]
      · rw [if_neg (fun z => c z.1), if_neg (fun z => c z.1)]
    rw [e]
    exact ih _ _ (fun k h1 h2 => h k (by omega) (by omega))
theorem wF_s (E : Nat → Int) (H : Nat → Bool) (j i : Nat) (p : Int × Int) : wF E H (j + 1) i p = wF E H j (i + 1) (if H i = true ∧ p.2 < E i then ((i : Int), E i) else p) := rfl
theorem nF_s (E : Nat → Int) (H : Nat → Bool) (j i : Nat) (p : Int × Int) : nF E H (j + 1) i p = nF E H j (i + 1) (if H i = true ∧ E i < p.2 then ((i : Int), E i) else p) := rfl
section
variable {d : Nat} {v : hV} {s s1 : hS} {r a : Nat} {L : rgL} {pl mg bs : Nat → Int} {H : Nat → Bool} {O : Nat → Int} {le : Int}
theorem sp_floor24 {x : Int32} (h : -24 ≤ x.toInt ∧ x.toInt ≤ 23) {K : Int32 → hS → Prop} (hK : ∀ r : Int32, r.toInt = x.toInt % 24 → K r s) : pcI d 97 [.int x, .int 24] v s K := by
  have h8 := flM24_of h
  exact st_Math_floorMod ⟨by decide, fun c => ⟨fun c2 => hK _ ((h8.1 c).1 c2), fun c2 => hK _ ((h8.1 c).2 c2)⟩, fun c => hK _ (h8.2 c)⟩
theorem cRg_fr {N : Nat} {F : Nat → Nat → Prop} (h : cRg r a N bs H O s) (hf : Fr F s s1) (hw : ∀ c k, r ≤ c → c ≤ r + 5 → ¬ F c k) : cRg r a N bs H O s1 := by
  refine ⟨fun i hi => ?_, by rw [hf.i (hw _ _ (by omega) (by omega))]; exact h.2⟩
  rw [hf.i (hw _ _ (by omega) (by omega)), hf.i (hw _ _ (by omega) (by omega)), hf.i (hw _ _ (by omega) (by omega))]
  exact h.1 i hi
theorem sp_bears (hr : kR r) {i : Nat} (hi : i < L.length) (hl : rgL1 a L pl mg bs H O) (hO : 0 ≤ O (a + i) ∧ O (a + i) ≤ 15552) (h1 : (rI s (r + 4) i).toInt = O (a + i)) (h2 : (rI s (r + 3) i).toInt = bs (a + i)) {x : Int32} (hx : x.toInt = le) (hle : 0 ≤ le ∧ le ≤ 999) {K : Int32 → hS → Prop} (hK : ∀ w : Int32, w.toInt = ldL bs le O (a + i) → K w s) : pcI (d + 1) 106 [.ref r, .int (nI i), .int x] v s K := by
  have hb := (hl.2 i hi).2.2.1
  have l16 := hl.1
  have e0 : Int32.toInt 0 = 0 := rfl
  have es : (rI s (r + 3) i - x).toInt = bs (a + i) - le := by rw [i_sub (by rw [h2, hx]; omega), h2, hx]
  refine st_Ring_bears hr ?_
  rw [nI_toInt (by omega), Int.toNat_natCast]
  refine ⟨by omega, st_Math_max ⟨fun c => ⟨by omega, hK _ ?_⟩, fun c => ⟨by omega, hK _ ?_⟩⟩⟩
  · rw [e0, es] at c
    rw [i_add (by rw [es, h1]; omega), es, h1]
    unfold ldL; rw [if_neg (by omega)]
  · rw [e0, es] at c
    rw [i_add (by rw [e0, h1]; omega), e0, h1]
    unfold ldL; split <;> omega
theorem sp_excess (hr : kR r) {i : Nat} (hi : i < L.length) (hd : dR r s L) (hl : rgL1 a L pl mg bs H O) (hc : cRg r a L.length bs H O s) (hO : 0 ≤ O (a + i) ∧ O (a + i) ≤ 15552) {x : Int32} (hx : x.toInt = le) (hle : 0 ≤ le ∧ le ≤ 999) {K : Int32 → hS → Prop} (hK : ∀ w : Int32, w.toInt = ldL bs le O (a + i) - mg (a + i) → K w s) : pcI (d + 2) 105 [.ref r, .int (nI i), .int x] v s K := by
  obtain ⟨c1, c2, c3⟩ := hc.1 i hi
  have hb := (hl.2 i hi).2.2.1
  have hm := (hl.2 i hi).2.1
  have l16 := hl.1
  have d2 := ((hd.2.2) i hi).2
  refine st_Ring_excess hr (sp_bears hr hi hl hO c2 c3 hx hle (fun w hw => ?_))
  rw [nI_toInt (by omega), Int.toNat_natCast]
  have hwb : 0 ≤ w.toInt ∧ w.toInt ≤ 20000 := by rw [hw]; unfold ldL; split <;> omega
  refine ⟨by omega, hK _ ?_⟩
  rw [i_sub (by rw [d2, ← hm.1]; omega), d2, ← hm.1, hw]
theorem sp_worst (hr : kR r) (hd : dR r s L) (hl : rgL1 a L pl mg bs H O) (hc : cRg r a L.length bs H O s) {x : Int32} (hx : x.toInt = le) (hle : 0 ≤ le ∧ le ≤ 999) {K : Int32 → hS → Prop} (hK : ∀ w : Int32, w.toInt = ofs a (wF (fun k => ldL bs le O k - mg k) H L.length a (-1, 0)).1 → K w s) : pcI (d + 3) 104 [.ref r, .int x] v s K := by
  have l16 := hl.1
  have hn : (rI s r 2).toInt = L.length := by rw [show rI s r 2 = nI L.length from hd.1, nI_toInt (by omega)]
  have G : ∀ j i : Nat, i + j = L.length → ∀ (p : Int × Int) (x2 x3 : Int32), x2.toInt = ofs a p.1 → x3.toInt = p.2 → wF (fun k => ldL bs le O k - mg k) H j (a + i) p = wF (fun k => ldL bs le O k - mg k) H L.length a (-1, 0) → pgI (d + 3) 104 6 [.ref r, .int x, .int x2, .int x3, .int (nI i)] [] v s K := by
    intro j
    induction j with
    | zero =>
      intro i hi p x2 x3 h2 h3 hp
      refine st_Ring_worst_6 hr ?_
      rw [hn, nI_toInt (by omega)]
      refine ⟨fun z => absurd z (by omega), fun _ => hK x2 ?_⟩
      rw [← hp]; exact h2
    | succ j ih =>
      intro i hi p x2 x3 h2 h3 hp
      have hiL : i < L.length := by omega
      obtain ⟨c1, c2, c3⟩ := hc.1 i hiL
      rw [wF_s] at hp
      refine st_Ring_worst_6 hr ?_
      rw [hn, nI_toInt (by omega), Int.toNat_natCast, c1, nI_1]
      refine ⟨fun _ => ⟨by omega, fun c => ?_, fun c => ?_⟩, fun z => absurd (by omega) z⟩
      · have hH : ¬ H (a + i) = true := fun z => by rw [if_pos z] at c; exact absurd c (by decide)
        rw [if_neg (fun z => hH z.1)] at hp
        exact ih (i + 1) (by omega) p x2 x3 h2 h3 hp
      · have hH : H (a + i) = true := by
          cases hh : H (a + i) with
          | true => rfl
          | false => rw [hh] at c; exact absurd rfl c
        have hO := (hl.2 i hiL).2.2.2 hH
        refine sp_excess hr hiL hd hl hc hO hx hle (fun w hw => ⟨fun c4 => sp_excess hr hiL hd hl hc hO hx hle (fun w2 hw2 => ?_), fun c4 => ?_⟩)
        · rw [h3, hw] at c4
          rw [if_pos ⟨hH, c4⟩] at hp
          refine ih (i + 1) (by omega) _ (nI i) w2 ?_ hw2 hp
          rw [nI_toInt (by omega)]; unfold ofs; rw [if_neg (by simp only []; omega)]; simp only []; omega
        · rw [h3, hw] at c4
          rw [if_neg (fun z => c4 z.2)] at hp
          exact ih (i + 1) (by omega) p x2 x3 h2 h3 hp
  exact st_Ring_worst hr (G L.length 0 (by omega) (-1, 0) (-1) 0 rfl rfl (by rw [Nat.add_zero]))
theorem sp_next (hr : kR r) (hd : dR r s L) (hl : rgL1 a L pl mg bs H O) {H2 : Nat → Bool} (hh : ∀ i, i < L.length → rI s (r + 5) i = (if H2 (a + i) = true then 1 else 0)) {i0 : Nat} (hi0 : i0 < L.length) {x : Int32} (hx : x.toInt = 1 ∨ x.toInt = -1) {K : Int32 → hS → Prop} (hK : ∀ w : Int32, w.toInt = ofs a (nF (fS pl (a + i0) x.toInt) H2 L.length a (-1, 24)).1 → K w s) : pcI (d + 1) 108 [.ref r, .int (nI i0), .int x] v s K := by
  have l16 := hl.1
  have hn : (rI s r 2).toInt = L.length := by rw [show rI s r 2 = nI L.length from hd.1, nI_toInt (by omega)]
  have p0 := (hl.2 i0 hi0).1
  have q0 := (hd.2.2 i0 hi0).1
  have G : ∀ j i : Nat, i + j = L.length → ∀ (p : Int × Int) (x3 x4 : Int32) (z : Value), x3.toInt = ofs a p.1 → x4.toInt = p.2 → nF (fS pl (a + i0) x.toInt) H2 j (a + i) p = nF (fS pl (a + i0) x.toInt) H2 L.length a (-1, 24) → pgI (d + 1) 108 6 [.ref r, .int (nI i0), .int x, .int x3, .int x4, .int (nI i), z] [] v s K := by
    intro j
    induction j with
    | zero =>
      intro i hi p x2 x3 z h2 h3 hp
      refine st_Ring_nextHolding_6 hr ?_
      rw [hn, nI_toInt (by omega)]
      refine ⟨fun z => absurd z (by omega), fun _ => hK x2 ?_⟩
      rw [← hp]; exact h2
    | succ j ih =>
      intro i hi p x2 x3 z h2 h3 hp
      have hiL : i < L.length := by omega
      have c1 := hh i hiL
      have p1 := (hl.2 i hiL).1
      have q1 := (hd.2.2 i hiL).1
      rw [nF_s] at hp
      refine st_Ring_nextHolding_6 hr ?_
      rw [hn, nI_toInt (show i < 2147483648 by omega), nI_toInt (show i0 < 2147483648 by omega), Int.toNat_natCast, Int.toNat_natCast, nI_1]
      have es : (rI s (r + 1) i - rI s (r + 1) i0).toInt = pl (a + i) - pl (a + i0) := by rw [i_sub (by rw [q0, q1]; omega), q0, q1, p0.1, p1.1]
      have hxx : (-24 : Int) ≤ (pl (a + i) - pl (a + i0)) * x.toInt ∧ (pl (a + i) - pl (a + i0)) * x.toInt ≤ 23 := by
        rcases hx with e | e <;> rw [e] <;> omega
      have em : ((rI s (r + 1) i - rI s (r + 1) i0) * x).toInt = (pl (a + i) - pl (a + i0)) * x.toInt := by rw [i_mul (by rw [es]; omega), es]
      refine ⟨fun _ => ⟨by omega, by omega, sp_floor24 (by rw [em]; exact hxx) (fun w hw => ⟨by omega, fun c => ?_, fun c => ⟨fun c4 => ?_, fun c4 => ?_⟩⟩)⟩, fun z => absurd (by omega) z⟩
      · rw [c1] at c
        have hH : ¬ H2 (a + i) = true := fun z => by rw [if_pos z] at c; exact absurd c (by decide)
        rw [if_neg (fun z => hH z.1)] at hp
        exact ih (i + 1) (by omega) p x2 x3 _ h2 h3 hp
      · rw [c1] at c
        have hH : H2 (a + i) = true := by
          cases hh : H2 (a + i) with
          | true => rfl
          | false => rw [hh] at c; exact absurd rfl c
        rw [em] at hw
        have hw : w.toInt = fS pl (a + i0) x.toInt (a + i) := hw
        rw [h3, hw] at c4
        rw [if_pos ⟨hH, c4⟩] at hp
        refine ih (i + 1) (by omega) _ (nI i) w _ ?_ hw hp
        rw [nI_toInt (by omega)]; unfold ofs; rw [if_neg (by simp only []; omega)]; simp only []; omega
      · rw [c1] at c
        have hH : H2 (a + i) = true := by
          cases hh : H2 (a + i) with
          | true => rfl
          | false => rw [hh] at c; exact absurd rfl c
        rw [em] at hw
        have hw : w.toInt = fS pl (a + i0) x.toInt (a + i) := hw
        rw [h3, hw] at c4
        rw [if_neg (fun z => c4 z.2)] at hp
        exact ih (i + 1) (by omega) p x2 x3 _ h2 h3 hp
  exact st_Ring_nextHolding hr (G L.length 0 (by omega) (-1, 24) (-1) 24 _ rfl rfl (by rw [Nat.add_zero]))
def fRs (r c k : Nat) : Prop := (c = r ∧ k = 6) ∨ c = r + 3 ∨ c = r + 4 ∨ c = r + 5
theorem nF_len (hk : a = 0 ∨ a = 16) (F : Nat → Int) {H2 : Nat → Bool} (hl16 : L.length ≤ 16) (hH : ∀ k, a + L.length ≤ k → k < a + 16 → H2 k = false) (p : Int × Int) : nF F H2 16 a p = nF F H2 L.length a p := by
  have e : 16 = L.length + (16 - L.length) := by omega
  conv => lhs; rw [e]
  rw [nF_app, nF_out]
  exact fun k h1 h2 => hH k h1 (by omega)
theorem wF_len (E : Nat → Int) {H2 : Nat → Bool} (hl16 : L.length ≤ 16) (hH : ∀ k, a + L.length ≤ k → k < a + 16 → H2 k = false) (p : Int × Int) : wF E H2 16 a p = wF E H2 L.length a p := by
  have e : 16 = L.length + (16 - L.length) := by omega
  conv => lhs; rw [e]
  rw [wF_app, wF_out]
  exact fun k h1 h2 => hH k h1 (by omega)
theorem dR_rs {F : Nat → Nat → Prop} (h : dR r s L) (hf : Fr F s s1) (h0 : ¬ F r 2) (h1 : ∀ k, ¬ F (r + 1) k) (h2 : ∀ k, ¬ F (r + 2) k) : dR r s1 L := by
  obtain ⟨a1, a2, a3⟩ := h
  refine ⟨by rw [show rI s1 r 2 = rI s r 2 from hf.i h0]; exact a1, a2, fun k hk => ?_⟩
  rw [hf.i (h1 k), hf.i (h2 k)]; exact a3 k hk
theorem sp_lose (ha : a = 0 ∨ a = 16) (hr : kR r) (hd : dR r s L) (hl : rgL1 a L pl mg bs H O) (hc : cRg r a L.length bs H O s) (hout : ∀ k, a + L.length ≤ k → k < a + 16 → H k = false) (hall : ∀ k, H k = true → 0 ≤ O k ∧ O k ≤ 15552) {i : Nat} (hi : i < L.length) (hHi : H (a + i) = true) {x : Int32} (hx : x.toInt = le) (hle : 0 ≤ le ∧ le ≤ 999) {K : hS → Prop} (hK : ∀ s2, Fr (fRs r) s s2 → cRg r a L.length bs (dropH H (a + i)) (loO pl H O (a + i) (ldL bs le O (a + i))) s2 → K s2) : pcV (d + 2) 107 [.ref r, .int (nI i), .int x] v s K := by
  have l16 := hl.1
  have e1 : Int32.toInt 1 = 1 := rfl
  have em1 : Int32.toInt (-1) = -1 := rfl
  have e2 : Int32.toInt 2 = 2 := rfl
  have hkd : ∀ k, k < 16 → kd (a + k) = a := fun k hk => by unfold kd; rcases ha with h | h <;> rw [h] <;> split <;> omega
  obtain ⟨c1, c2, c3⟩ := hc.1 i hi
  have hcn := cn_drop (a := a) hHi 16 (by omega) (by omega)
  have hO := hall _ hHi
  have hb := (hl.2 i hi).2.2.1
  have H2out : ∀ k, a + L.length ≤ k → k < a + 16 → dropH H (a + i) k = false := fun k h1 h2 => by
    unfold dropH; split
    · rfl
    · exact hout k h1 h2
  refine st_Ring_lose hr ?_
  rw [nI_toInt (by omega), Int.toNat_natCast]
  refine ⟨by omega, ?_⟩
  generalize hs1 : sI (sI s (r + 5) i 0) r 6 (rI s r 6 - 1) = s1
  have f1 : Fr (fRs r) s s1 := by rw [← hs1]; exact ((Fr.rf _ s).sI (Or.inr (Or.inr (Or.inr rfl)))).sI (Or.inl ⟨rfl, rfl⟩)
  have d1 : dR r s1 L := dR_rs hd f1 (by unfold fRs; omega) (fun k => by unfold fRs; omega) (fun k => by unfold fRs; omega)
  have g4 : ∀ k, rI s1 (r + 4) k = rI s (r + 4) k := fun k => by rw [← hs1, r_II, if_neg (by omega), r_II, if_neg (by omega)]
  have g3 : ∀ k, rI s1 (r + 3) k = rI s (r + 3) k := fun k => by rw [← hs1, r_II, if_neg (by omega), r_II, if_neg (by omega)]
  have g5 : ∀ k, k < L.length → rI s1 (r + 5) k = (if dropH H (a + i) (a + k) = true then 1 else 0) := fun k hk => by
    rw [← hs1, r_II, if_neg (by omega), r_II]
    by_cases ck : k = i
    · have e : dropH H (a + i) (a + k) = false := if_pos (by omega)
      rw [if_pos ⟨rfl, ck⟩, e]; rfl
    · have e : dropH H (a + i) (a + k) = H (a + k) := if_neg (by omega)
      rw [if_neg (fun z => ck z.2), e]; exact (hc.1 k hk).1
  have g6 : rI s1 r 6 = nI (cn (dropH H (a + i)) a 16) := by
    rw [← hs1, r_II, if_pos ⟨rfl, rfl⟩, hc.2]
    have := cn_le H a 16
    refine i_inj ?_
    rw [i_sub (by rw [nI_toInt (by omega), e1]; omega), nI_toInt (by omega), nI_toInt (by omega), e1]; omega
  have E1 : ∀ (st : Int), nbS pl (dropH H (a + i)) (a + i) st = (nF (fS pl (a + i) st) (dropH H (a + i)) L.length a (-1, 24)).1 := fun st => by
    unfold nbS; rw [hkd i (by omega), nF_len ha _ l16 H2out]
  refine sp_bears hr hi hl hO (by rw [g4]; exact c2) (by rw [g3]; exact c3) hx hle (fun w hw => sp_next hr d1 hl g5 hi (Or.inl rfl) (fun w1 hw1 => sp_next hr d1 hl g5 hi (Or.inr rfl) (fun w2 hw2 => ?_)))
  rw [e1, ← E1] at hw1
  rw [em1, ← E1] at hw2
  have hwb : 0 ≤ w.toInt ∧ w.toInt ≤ 16100 := by rw [hw]; unfold ldL; split <;> omega
  have wd : (w / 2).toInt = w.toInt / 2 := by rw [i_div hwb.1 (by rw [e2]; decide), e2]
  have wr : (w - w / 2).toInt = w.toInt - w.toInt / 2 := by rw [i_sub (by rw [wd]; omega), wd]
  rcases nb_cases (pl := pl) (dropH H (a + i)) (a + i) with ⟨n1, n2, _⟩ | ⟨A, B, n1, n2, ⟨A1, A2, A3⟩, ⟨B1, B2, B3⟩⟩
  · have w1m : w1.toInt = -1 := by rw [hw1, n1]; rfl
    refine ⟨fun _ => hK s1 f1 ⟨fun k hk => ⟨g5 k hk, ?_, ?_⟩, g6⟩, fun z => absurd w1m z⟩
    · rw [g4]; unfold loO; rw [if_pos n1]; exact (hc.1 k hk).2.1
    · rw [g3]; exact (hc.1 k hk).2.2
  · rw [hkd i (by omega)] at A1 A2 B1 B2
    have A4 : A < a + L.length := by
      refine Nat.lt_of_not_le (fun z => ?_)
      rw [H2out A z A2] at A3; exact absurd A3 (by decide)
    have B4 : B < a + L.length := by
      refine Nat.lt_of_not_le (fun z => ?_)
      rw [H2out B z B2] at B3; exact absurd B3 (by decide)
    have w1e : w1.toInt = A - a := by rw [hw1, n1]; unfold ofs; rw [if_neg (by omega)]
    have w2e : w2.toInt = B - a := by rw [hw2, n2]; unfold ofs; rw [if_neg (by omega)]
    have w1n : w1.toInt.toNat = A - a := by omega
    have w2n : w2.toInt.toNat = B - a := by omega
    have hdr : ∀ k, dropH H (a + i) k = true → H k = true := fun k hk => by
      unfold dropH at hk; split at hk
      · exact absurd hk (by decide)
      · exact hk
    have OA := hall A (hdr A A3)
    have OB := hall B (hdr B B3)
    have qA : (rI s1 (r + 4) (A - a)).toInt = O A := by rw [g4, (hc.1 (A - a) (by omega)).2.1]; congr 1; omega
    have qB : (rI s1 (r + 4) (B - a)).toInt = O B := by rw [g4, (hc.1 (B - a) (by omega)).2.1]; congr 1; omega
    rw [w1n, w2n]
    refine ⟨fun z => absurd z (by omega), fun _ => ⟨fun z => absurd z (by omega), fun _ => ⟨by omega, by omega, by omega, by omega, ?_⟩⟩⟩
    have a1 : (rI s1 (r + 4) (A - a) + w / 2).toInt = O A + w.toInt / 2 := by rw [i_add (by rw [qA, wd]; omega), qA, wd]
    generalize hs2 : sI s1 (r + 4) (A - a) (rI s1 (r + 4) (A - a) + w / 2) = s2
    have q2 : ∀ k, k < L.length → (rI s2 (r + 4) k).toInt = addO O A (w.toInt / 2) (a + k) := fun k hk => by
      rw [← hs2, r_II]
      unfold addO
      by_cases ck : k = A - a
      · rw [if_pos ⟨rfl, ck⟩, a1, if_pos (by omega), show a + k = A by omega]
      · rw [if_neg (fun z => ck z.2), if_neg (by omega), g4]; exact (hc.1 k hk).2.1
    have qB2 := q2 (B - a) (by omega)
    rw [show a + (B - a) = B by omega] at qB2
    have bB2 : 0 ≤ addO O A (w.toInt / 2) B ∧ addO O A (w.toInt / 2) B ≤ 30000 := by unfold addO; split <;> omega
    have a2 : (rI s2 (r + 4) (B - a) + (w - w / 2)).toInt = addO O A (w.toInt / 2) B + (w.toInt - w.toInt / 2) := by rw [i_add (by rw [qB2, wr]; omega), qB2, wr]
    refine hK _ (by rw [← hs2]; exact (f1.sI (Or.inr (Or.inr (Or.inl rfl)))).sI (Or.inr (Or.inr (Or.inl rfl)))) ⟨fun k hk => ⟨?_, ?_, ?_⟩, ?_⟩
    · rw [r_II, if_neg (by omega), ← hs2, r_II, if_neg (by omega)]; exact g5 k hk
    · unfold loO
      rw [n1, n2, if_neg (by omega), ← hw, r_II]
      by_cases ck : k = B - a
      · rw [if_pos ⟨rfl, ck⟩, a2]
        conv => rhs; unfold addO
        rw [if_pos (by omega), show a + k = B by omega]; rfl
      · rw [if_neg (fun z => ck z.2), q2 k hk]
        conv => rhs; unfold addO
        rw [if_neg (by omega)]; rfl
    · rw [r_II, if_neg (by omega), ← hs2, r_II, if_neg (by omega), g3]; exact (hc.1 k hk).2.2
    · rw [r_II, if_neg (by omega), ← hs2, r_II, if_neg (by omega)]; exact g6
end
