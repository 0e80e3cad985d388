/-! A STORM, in the class: all of it -/
def prT (d : Nat) : Int := match d with | 0 => 5 | 1 => 3 | 2 => 0 | 3 => 1 | _ => 2
def puT (d : Nat) : Int := match d with | 0 => 4 | 1 => 2 | 2 => 1 | 3 => 3 | _ => 6
theorem prT_b (d : Nat) : 0 ≤ prT d ∧ prT d ≤ 6 := by unfold prT; split <;> decide
theorem puT_b (d : Nat) : 0 ≤ puT d ∧ puT d ≤ 6 := by unfold puT; split <;> decide
/-- the tables PRESS and PULL, that nobody writes -/
def pPR (s : hS) : Prop := ∀ k, k < 5 → (rI s 6 k).toInt = prT k ∧ (rI s 7 k).toInt = puT k
def apI (x : Int) : Nat := if (x % 8).toNat ≤ 4 then (x % 8).toNat else 8 - (x % 8).toNat
theorem apI_b (x : Int) : apI x ≤ 4 := by unfold apI; split <;> omega
def bsD (pl : Nat → Int) (a w : Int) (k : Nat) : Int := w * w * (if k < 16 then prT (apI (pl k / 3 - a)) else puT (apI (pl k / 3 - a)))
def H0D (NP NG : Nat) (k : Nat) : Bool := decide (k < NP) || (decide (16 ≤ k) && decide (k < 16 + NG))
theorem H0D_t {NP NG k : Nat} : H0D NP NG k = true ↔ (k < NP ∨ 16 ≤ k ∧ k < 16 + NG) := by
  unfold H0D; rw [Bool.or_eq_true, Bool.and_eq_true, decide_eq_true_iff, decide_eq_true_iff, decide_eq_true_iff]
def S0D (NP NG : Nat) : bSt := (H0D NP NG, fun _ => 0, 0, fun _ => (0, 0))
theorem cn_iv {H : Nat → Bool} {a : Nat} : ∀ n, (∀ i, i < n → H (a + i) = true) → cn H a n = n := by
  intro n
  induction n with
  | zero => intro _; rfl
  | succ n ih => intro h; show cn H a n + _ = n + 1; rw [ih (fun i hi => h i (by omega)), h n (by omega)]; rfl
theorem cn_z {H : Nat → Bool} {a : Nat} : ∀ n, (∀ i, i < n → H (a + i) = false) → cn H a n = 0 := by
  intro n
  induction n with
  | zero => intro _; rfl
  | succ n ih => intro h; show cn H a n + _ = 0; rw [ih (fun i hi => h i (by omega)), h n (by omega)]; rfl
theorem cn_in {H : Nat → Bool} {a m : Nat} (hm : m ≤ 16) (h1 : ∀ i, i < m → H (a + i) = true) (h2 : ∀ i, m ≤ i → i < 16 → H (a + i) = false) : cn H a 16 = m := by
  have e := cn_add H a m (16 - m)
  rw [show m + (16 - m) = 16 by omega, cn_iv m h1, cn_z (16 - m) (fun i hi => by rw [Nat.add_assoc]; exact h2 _ (by omega) (by omega))] at e
  exact e
theorem smS_le {f : Nat → Int} {c : Int} : ∀ n : Nat, (∀ k, k < n → f k ≤ c) → smS f n ≤ n * c := by
  intro n
  induction n with
  | zero => intro _; show (0 : Int) ≤ (0 : Nat) * c; rw [Int.natCast_zero, Int.zero_mul]; exact Int.le_refl _
  | succ n ih =>
    intro h
    have h1 := ih (fun k hk => h k (by omega))
    have h2 := h n (by omega)
    show smS f n + f n ≤ ((n + 1 : Nat) : Int) * c
    rw [Int.natCast_succ, Int.add_mul, Int.one_mul]; omega
theorem sq_b {w : Int} (h : 0 ≤ w ∧ w ≤ 9) : 0 ≤ w * w ∧ w * w ≤ 81 := by
  have : w = 0 ∨ w = 1 ∨ w = 2 ∨ w = 3 ∨ w = 4 ∨ w = 5 ∨ w = 6 ∨ w = 7 ∨ w = 8 ∨ w = 9 := by omega
  rcases this with rfl | rfl | rfl | rfl | rfl | rfl | rfl | rfl | rfl | rfl <;> decide
theorem bsD_b (pl : Nat → Int) (a : Int) {w : Int} (h : 0 ≤ w ∧ w ≤ 9) (k : Nat) : 0 ≤ bsD pl a w k ∧ bsD pl a w k ≤ 486 := by
  have := sq_b h
  unfold bsD
  split
  · have b := prT_b (apI (pl k / 3 - a)); exact mulN (A := 81) (B := 6) this.1 this.2 b.1 b.2
  · have b := puT_b (apI (pl k / 3 - a)); exact mulN (A := 81) (B := 6) this.1 this.2 b.1 b.2
theorem S0_ok {NP NG : Nat} {bs : Nat → Int} (hb : ∀ k, 0 ≤ bs k ∧ bs k ≤ 486) : okS NP NG bs (S0D NP NG) := by
  refine ⟨fun k hk => H0D_t.mp hk, fun k => Int.le_refl _, ?_, ?_, fun i hi => absurd hi (Nat.not_lt_zero i)⟩
  · have := smS_le (f := fun k => if H0D NP NG k = true then bs k + 0 else 0) (c := 486) 32 (fun k _ => by
      show (if H0D NP NG k = true then bs k + 0 else 0) ≤ 486
      have := hb k; split <;> omega)
    exact this
  · show 0 + cn (H0D NP NG) 0 32 ≤ 32
    have := cn_le (H0D NP NG) 0 32; omega
section
variable {d : Nat} {v : hV} {s s1 : hS} {t g : Nat} {LP LG : rgL} {pl mg bs : Nat → Int} {rp : Int} {S : bSt}
theorem sp_apart {x0 x1 : Int32} (h0 : 0 ≤ x0.toInt ∧ x0.toInt ≤ 7) (h1 : 0 ≤ x1.toInt ∧ x1.toInt ≤ 7) {K : Int32 → hS → Prop} (hK : K (nI (apI (x0.toInt - x1.toInt))) s) : pcI (d + 1) 102 [.int x0, .int x1] v s K := by
  have e8 : Int32.toInt 8 = 8 := rfl
  have es : (x0 - x1).toInt = x0.toInt - x1.toInt := i_sub (by omega)
  have hb := apI_b (x0.toInt - x1.toInt)
  refine st_S_apart (sp_floor8 (by rw [es]; omega) (fun r hr => ?_))
  rw [es] at hr
  have er : (8 - r).toInt = 8 - r.toInt := by rw [i_sub (by rw [e8]; omega), e8]
  have F : ∀ w : Int32, w.toInt = apI (x0.toInt - x1.toInt) → K w s := fun w hw => by
    have : w = nI (apI (x0.toInt - x1.toInt)) := i_inj (by rw [hw, nI_toInt (by omega)])
    rw [this]; exact hK
  refine st_Math_min ⟨fun c => F _ ?_, fun c => F _ ?_⟩
  · rw [er] at c ⊢; unfold apI; split <;> omega
  · rw [er] at c; unfold apI; split <;> omega
theorem sp_loadUp {r a p : Nat} {L : rgL} (hr : kR r) (ha : a = 0 ∧ p = 6 ∨ a = 16 ∧ p = 7) (hd : dR r s L) (hpl : ∀ i, i < L.length → pl (a + i) = (L.getD i (0, 0)).1 ∧ 0 ≤ pl (a + i) ∧ pl (a + i) ≤ 23) (hT : pPR s) {x1 x2 : Int32} (h1 : 0 ≤ x1.toInt ∧ x1.toInt ≤ 7) {w : Int} (hw : 0 ≤ w ∧ w ≤ 9) (h2 : x2.toInt = w * w) {H : Nat → Bool} (hH : ∀ i, i < L.length → H (a + i) = true) (hH2 : ∀ i, L.length ≤ i → i < 16 → H (a + i) = false) {K : hS → Prop} (hK : ∀ s2, Fr (fRs r) s s2 → cRg r a L.length (bsD pl x1.toInt w) H (fun _ => 0) s2 → K s2) : pcV (d + 2) 101 [.ref r, .int x1, .int x2, .ref p] v s K := by
  have l16 := hd.2.1
  have e3 : Int32.toInt 3 = 3 := rfl
  have hp : kP p := by unfold kP; omega
  have hrr : 54 ≤ r ∧ r ≤ 75 := by unfold kR at hr; omega
  have hsq := sq_b hw
  have G : ∀ j i : Nat, i + j = L.length → ∀ (s1 : hS) (z5 : Value), Fr (fRs r) s s1 → (∀ k, k < i → rI s1 (r + 5) k = 1 ∧ rI s1 (r + 4) k = 0 ∧ (rI s1 (r + 3) k).toInt = bsD pl x1.toInt w (a + k)) → pgV (d + 2) 101 2 [.ref r, .int x1, .int x2, .ref p, .int (nI i), z5] [] v s1 K := by
    intro j
    induction j with
    | zero =>
      intro i hi s1 z5 hf hq
      have hi : i = L.length := by omega
      have d1 : dR r s1 L := dR_rs hd hf (by unfold fRs; omega) (fun k => by unfold fRs; omega) (fun k => by unfold fRs; omega)
      have hn : rI s1 r 2 = nI L.length := d1.1
      refine st_Ring_loadUp_2 hr hp ?_
      rw [hn, nI_toInt (by omega), nI_toInt (by omega)]
      refine ⟨fun z => absurd z (by omega), fun _ => hK _ (hf.sI (Or.inl ⟨rfl, rfl⟩)) ⟨fun k hk => ?_, ?_⟩⟩
      · obtain ⟨q1, q2, q3⟩ := hq k (by omega)
        rw [r_II, if_neg (show ¬ (r + 5 = r ∧ k = 6) by omega), r_II, if_neg (show ¬ (r + 4 = r ∧ k = 6) by omega), r_II, if_neg (show ¬ (r + 3 = r ∧ k = 6) by omega), q1, q2, hH k hk]
        exact ⟨rfl, rfl, q3⟩
      · rw [r_II, if_pos ⟨rfl, rfl⟩, cn_in l16 hH hH2]
    | succ j ih =>
      intro i hi s1 z5 hf hq
      have hiL : i < L.length := by omega
      have d1 : dR r s1 L := dR_rs hd hf (by unfold fRs; omega) (fun k => by unfold fRs; omega) (fun k => by unfold fRs; omega)
      have hn : rI s1 r 2 = nI L.length := d1.1
      have hpi := hpl i hiL
      have q0 := (d1.2.2 i hiL).1
      rw [← hpi.1] at q0
      have eq3 : (rI s1 (r + 1) i / 3).toInt = pl (a + i) / 3 := by rw [i_div (by omega) (by rw [e3]; decide), q0, e3]
      refine st_Ring_loadUp_2 hr hp ?_
      rw [hn, nI_toInt (by omega), nI_toInt (by omega), Int.toNat_natCast, nI_1]
      refine ⟨fun _ => ⟨by omega, sp_apart (by rw [eq3]; omega) h1 ?_⟩, fun z => absurd (by omega) z⟩
      rw [eq3]
      have hab := apI_b (pl (a + i) / 3 - x1.toInt)
      rw [nI_toInt (by omega), Int.toNat_natCast]
      refine ⟨fun _ => ⟨by omega, by omega, by omega, by omega, ?_⟩, fun z => absurd (by omega) z⟩
      have ht : (rI s1 p (apI (pl (a + i) / 3 - x1.toInt))).toInt = (if a + i < 16 then prT (apI (pl (a + i) / 3 - x1.toInt)) else puT (apI (pl (a + i) / 3 - x1.toInt))) := by
        have h5 := hT (apI (pl (a + i) / 3 - x1.toInt)) (by omega)
        rcases ha with ⟨ha, hp⟩ | ⟨ha, hp⟩
        · rw [if_pos (by omega), hp, hf.i (by unfold fRs; omega)]; exact h5.1
        · rw [if_neg (by omega), hp, hf.i (by unfold fRs; omega)]; exact h5.2
      have hbb := bsD_b pl x1.toInt hw (a + i)
      have em : (x2 * rI s1 p (apI (pl (a + i) / 3 - x1.toInt))).toInt = bsD pl x1.toInt w (a + i) := by
        have : bsD pl x1.toInt w (a + i) = x2.toInt * (rI s1 p (apI (pl (a + i) / 3 - x1.toInt))).toInt := by rw [ht, h2]; rfl
        rw [i_mul (by rw [← this]; omega), this]
      refine ih (i + 1) (by omega) _ _ (((hf.sI (Or.inr (Or.inl rfl))).sI (Or.inr (Or.inr (Or.inl rfl)))).sI (Or.inr (Or.inr (Or.inr rfl)))) (fun k hk => ?_)
      by_cases ck : k = i
      · rw [ck, r_II, if_pos ⟨rfl, rfl⟩, r_II, if_neg (by omega), r_II, if_pos ⟨rfl, rfl⟩, r_II, if_neg (by omega), r_II, if_neg (by omega), r_II, if_pos ⟨rfl, rfl⟩]
        exact ⟨rfl, rfl, em⟩
      · rw [r_II, if_neg (by omega), r_II, if_neg (by omega), r_II, if_neg (by omega), r_II, if_neg (by omega), r_II, if_neg (by omega), r_II, if_neg (by omega), r_II, if_neg (by omega), r_II, if_neg (by omega), r_II, if_neg (by omega)]
        exact hq k (by omega)
  exact st_Ring_loadUp hr hp (G L.length 0 (by omega) s _ (Fr.rf _ _) (fun k hk => absurd hk (Nat.not_lt_zero k)))
/-- the rounds from S on -/
theorem sp_rounds (ht : kT t) (hg : kG g) {T : Nat → Int} (hr : rgS LP.length LG.length pl mg bs (T 8)) : ∀ (f : Nat) (S : bSt) (s : hS) (z2 z3 z4 : Value) {K : hS → Prop}, tRg t s LP LG pl mg → tvC t s T → okS LP.length LG.length bs S → stC t g LP.length LG.length bs s S → rI s g 3 = nI S.2.2.1 → cn S.1 0 32 ≤ f → (∀ s2, Fr (fSt t g) s s2 → stC t g LP.length LG.length bs s2 (rnS pl mg bs (T 8) f S) → rI s2 g 3 = nI (rnS pl mg bs (T 8) f S).2.2.1 → rI s2 g 4 = (if cn (rnS pl mg bs (T 8) f S).1 0 16 < 3 then 1 else 0) → K s2) → pgV (d + 5) 100 19 [.ref g, .ref t, z2, z3, z4] [] v s K := by
  intro f
  have htg : t + 14 < g := by unfold kT at ht; unfold kG at hg; omega
  induction f with
  | zero =>
    intro S s z2 z3 z4 K hR hT h hc hm hf hK
    have hz : wS mg bs (T 8) S.1 S.2.1 = (-1, 0) := by
      rcases wS_ok (mg := mg) (bs := bs) (rp := T 8) S.1 S.2.1 with e | ⟨k, k1, k2, k3, e, k4⟩
      · exact e
      · have := cn_pos (a := 0) (n := 32) k1 (by omega) k3; omega
    have h6 : (rI s (t + 3) 6).toInt = cn S.1 0 16 := by rw [hc.1.2, nI_toInt (by have := cn_le S.1 0 16; omega)]
    have E : ((rI s (t + 3) 6).toInt < 3 → K (sI s g 4 1)) ∧ (¬ (rI s (t + 3) 6).toInt < 3 → K (sI s g 4 0)) := by
      have G : ∀ w : Int32, w = (if cn S.1 0 16 < 3 then 1 else 0) → K (sI s g 4 w) := fun w hw => by
        have f1 : Fr (fun c k => c = g ∧ k = 4) s (sI s g 4 w) := (Fr.rf _ s).sI ⟨rfl, rfl⟩
        refine hK _ (f1.mo (fun c k z => Or.inr (Or.inr (by omega)))) ⟨cRg_fr hc.1 f1 (fun c k _ _ => by omega), cRg_fr hc.2.1 f1 (fun c k _ _ => by omega), fun i hi => ?_⟩ ?_ ?_
        · rw [f1.i (by omega), f1.i (by omega), f1.i (by omega)]; exact hc.2.2 i hi
        · rw [f1.i (by omega)]; exact hm
        · rw [r_II, if_pos ⟨rfl, rfl⟩]; exact hw
      rw [h6]
      exact ⟨fun c => G 1 (by rw [if_pos (by omega)]), fun c => G 0 (by rw [if_neg (by omega)])⟩
    refine st_Storm_blow_19 ht hg ⟨fun _ => sp_of (k := 8) ht (by decide) hT (fun r hr8 => sp_round ht hg hR hr h hc hm hr8 (fun _ => ⟨fun _ => E, fun z => absurd rfl z⟩) (fun z => absurd (by rw [hz]) z)), fun _ => E⟩
  | succ f ih =>
    intro S s z2 z3 z4 K hR hT h hc hm hf hK
    have h6 : (rI s (t + 3) 6).toInt = cn S.1 0 16 := by rw [hc.1.2, nI_toInt (by have := cn_le S.1 0 16; omega)]
    have hm2 : (rI s g 3).toInt = S.2.2.1 := by rw [hm, nI_toInt (by have := h.2.2.2.1; omega)]
    by_cases cw : (wS mg bs (T 8) S.1 S.2.1).1 = -1
    · have e : rnS pl mg bs (T 8) (f + 1) S = S := if_pos cw
      rw [e] at hK
      have E : ((rI s (t + 3) 6).toInt < 3 → K (sI s g 4 1)) ∧ (¬ (rI s (t + 3) 6).toInt < 3 → K (sI s g 4 0)) := by
        have G : ∀ w : Int32, w = (if cn S.1 0 16 < 3 then 1 else 0) → K (sI s g 4 w) := fun w hw => by
          have f1 : Fr (fun c k => c = g ∧ k = 4) s (sI s g 4 w) := (Fr.rf _ s).sI ⟨rfl, rfl⟩
          refine hK _ (f1.mo (fun c k z => Or.inr (Or.inr (by omega)))) ⟨cRg_fr hc.1 f1 (fun c k _ _ => by omega), cRg_fr hc.2.1 f1 (fun c k _ _ => by omega), fun i hi => ?_⟩ ?_ ?_
          · rw [f1.i (by omega), f1.i (by omega), f1.i (by omega)]; exact hc.2.2 i hi
          · rw [f1.i (by omega)]; exact hm
          · rw [r_II, if_pos ⟨rfl, rfl⟩]; exact hw
        rw [h6]
        exact ⟨fun c => G 1 (by rw [if_pos (by omega)]), fun c => G 0 (by rw [if_neg (by omega)])⟩
      refine st_Storm_blow_19 ht hg ⟨fun _ => sp_of (k := 8) ht (by decide) hT (fun r hr8 => sp_round ht hg hR hr h hc hm hr8 (fun _ => ⟨fun _ => E, fun z => absurd rfl z⟩) (fun z => absurd cw z)), fun _ => E⟩
    · have e : rnS pl mg bs (T 8) (f + 1) S = rnS pl mg bs (T 8) f (nxS pl mg bs (T 8) S (wS mg bs (T 8) S.1 S.2.1).1.toNat) := if_neg cw
      rw [e] at hK
      rcases wS_ok (mg := mg) (bs := bs) (rp := T 8) S.1 S.2.1 with e2 | ⟨k, k1, k2, k3, e2, k4⟩
      · rw [e2] at cw; exact absurd rfl cw
      · have ek : (wS mg bs (T 8) S.1 S.2.1).1.toNat = k := by rw [e2]; rfl
        rw [ek] at hK
        obtain ⟨n1, n2⟩ := nx_ok h hr k3 k4
        have hpos := cn_pos (a := 0) (n := 32) k1 (by omega) k3
        have h44 := h.2.2.2.1
        refine st_Storm_blow_19 ht hg ⟨fun _ => sp_of (k := 8) ht (by decide) hT (fun r hr8 => sp_round ht hg hR hr h hc hm hr8 (fun z => absurd z cw) (fun _ s2 f2 c2 m2 => ⟨fun z => absurd z (by decide), fun _ => ?_⟩)), fun z => absurd (by rw [hm2]; omega) z⟩
        rw [ek] at c2
        rw [m2, nI_1]
        have f3 : Fr (fun c k => c = g ∧ k = 3) s2 (sI s2 g 3 (nI (S.2.2.1 + 1))) := (Fr.rf _ s2).sI ⟨rfl, rfl⟩
        have F3 : Fr (fSt t g) s (sI s2 g 3 (nI (S.2.2.1 + 1))) := f2.tr (f3.mo (fun c k z => Or.inr (Or.inr (by omega))))
        have nF : ∀ c j, c < g → (c = t + 3 ∨ c = t + 9 → j ≠ 6) → c ≠ t + 6 → c ≠ t + 7 → c ≠ t + 8 → c ≠ t + 12 → c ≠ t + 13 → c ≠ t + 14 → ¬ fSt t g c j := fun c j _ _ _ _ _ _ _ _ => by unfold fSt fRs; omega
        refine ih _ _ z2 z3 z4 (tRg_fr hR F3 ⟨nF _ _ (by omega) (by omega) (by omega) (by omega) (by omega) (by omega) (by omega) (by omega), nF _ _ (by omega) (by omega) (by omega) (by omega) (by omega) (by omega) (by omega) (by omega)⟩ (fun j => ⟨nF _ _ (by omega) (by omega) (by omega) (by omega) (by omega) (by omega) (by omega) (by omega), nF _ _ (by omega) (by omega) (by omega) (by omega) (by omega) (by omega) (by omega) (by omega), nF _ _ (by omega) (by omega) (by omega) (by omega) (by omega) (by omega) (by omega) (by omega), nF _ _ (by omega) (by omega) (by omega) (by omega) (by omega) (by omega) (by omega) (by omega)⟩)) (tvC_fr hT F3 (fun k _ => nF _ _ (by omega) (by omega) (by omega) (by omega) (by omega) (by omega) (by omega) (by omega))) n1 ⟨cRg_fr c2.1 f3 (fun c k _ _ => by omega), cRg_fr c2.2.1 f3 (fun c k _ _ => by omega), fun i hi => ?_⟩ ?_ (by omega) (fun s4 f4 => hK s4 (F3.tr f4))
        · rw [f3.i (by omega), f3.i (by omega), f3.i (by omega)]; exact c2.2.2 i hi
        · rw [r_II, if_pos ⟨rfl, rfl⟩]; rfl
/-- the STORM of strength w from a -/
def fnS (NP NG : Nat) (pl mg : Nat → Int) (rp a w : Int) : bSt := rnS pl mg (bsD pl a w) rp 32 (S0D NP NG)
theorem sp_blow (ht : kT t) (hg : kG g) {T : Nat → Int} {x1 x2 : Int32} (h1 : 0 ≤ x1.toInt ∧ x1.toInt ≤ 7) (h2 : 0 ≤ x2.toInt ∧ x2.toInt ≤ 9) (hr : rgS LP.length LG.length pl mg (bsD pl x1.toInt x2.toInt) (T 8)) (hR : tRg t s LP LG pl mg) (hT : tvC t s T) (hP : pPR s) {K : hS → Prop} (hK : ∀ s2, Fr (fSt t g) s s2 → gTl g (fnS LP.length LG.length pl mg (T 8) x1.toInt x2.toInt).2.2.1 (fnS LP.length LG.length pl mg (T 8) x1.toInt x2.toInt).2.2.2 s2 → rI s2 g 3 = nI (fnS LP.length LG.length pl mg (T 8) x1.toInt x2.toInt).2.2.1 → rI s2 g 4 = (if cn (fnS LP.length LG.length pl mg (T 8) x1.toInt x2.toInt).1 0 16 < 3 then 1 else 0) → K s2) : pcV (d + 5) 100 [.ref g, .ref t, .int x1, .int x2] v s K := by
  have htg : t + 14 < g := by unfold kT at ht; unfold kG at hg; omega
  have hrP : kR (t + 3) := by unfold kT at ht; unfold kR; omega
  have hrG : kR (t + 9) := by unfold kT at ht; unfold kR; omega
  have hl16 := hr.1
  have hsq := sq_b h2
  have em : (x2 * x2).toInt = x2.toInt * x2.toInt := i_mul (by omega)
  have HP : ∀ i, i < LP.length → H0D LP.length LG.length (0 + i) = true := fun i hi => H0D_t.mpr (by omega)
  have HG : ∀ i, i < LG.length → H0D LP.length LG.length (16 + i) = true := fun i hi => H0D_t.mpr (by omega)
  have HP2 : ∀ i, LP.length ≤ i → i < 16 → H0D LP.length LG.length (0 + i) = false := fun i h1 h2 => by
    cases hh : H0D LP.length LG.length (0 + i) with
    | false => rfl
    | true => have := H0D_t.mp hh; omega
  have HG2 : ∀ i, LG.length ≤ i → i < 16 → H0D LP.length LG.length (16 + i) = false := fun i h1 h2 => by
    cases hh : H0D LP.length LG.length (16 + i) with
    | false => rfl
    | true => have := H0D_t.mp hh; omega
  refine st_Storm_blow ht hg (sp_loadUp (r := t + 3) (a := 0) (pl := pl) hrP (Or.inl ⟨rfl, rfl⟩) hR.1 (fun i hi => ?_) hP h1 h2 em HP HP2 (fun s1 f1 c1 => ?_))
  · rw [Nat.zero_add]; have := (hr.2.2.1 i (Or.inl hi)).1; exact ⟨(hR.2.2.1 i hi).1, this⟩
  have R1 := tRg_fr hR f1 ⟨by unfold fRs; omega, by unfold fRs; omega⟩ (fun k => ⟨by unfold fRs; omega, by unfold fRs; omega, by unfold fRs; omega, by unfold fRs; omega⟩)
  have P1 : pPR s1 := fun k hk => by
    have ht2 : 51 ≤ t := by unfold kT at ht; omega
    rw [f1.i (by unfold fRs; omega), f1.i (by unfold fRs; omega)]; exact hP k hk
  refine sp_loadUp (r := t + 9) (a := 16) (pl := pl) hrG (Or.inr ⟨rfl, rfl⟩) R1.2.1 (fun i hi => ?_) P1 h1 h2 em HG HG2 (fun s2 f2 c2 => ?_)
  · have := (hr.2.2.1 (16 + i) (Or.inr (by omega))).1; exact ⟨(hR.2.2.2 i hi).1, this⟩
  have f3 : Fr (fun c k => c = g ∧ k = 3) s2 (sI s2 g 3 0) := (Fr.rf _ s2).sI ⟨rfl, rfl⟩
  have F3 : Fr (fSt t g) s (sI s2 g 3 0) := ((f1.mo (fun c k z => Or.inl z)).tr (f2.mo (fun c k z => Or.inr (Or.inl z)))).tr (f3.mo (fun c k z => Or.inr (Or.inr (by omega))))
  have C1 : cRg (t + 3) 0 LP.length (bsD pl x1.toInt x2.toInt) (H0D LP.length LG.length) (fun _ => 0) (sI s2 g 3 0) := cRg_fr (cRg_fr c1 f2 (fun c k _ _ => by unfold fRs; omega)) f3 (fun c k _ _ => by omega)
  have C2 : cRg (t + 9) 16 LG.length (bsD pl x1.toInt x2.toInt) (H0D LP.length LG.length) (fun _ => 0) (sI s2 g 3 0) := cRg_fr c2 f3 (fun c k _ _ => by omega)
  refine sp_rounds ht hg hr 32 (S0D LP.length LG.length) _ _ _ _ (tRg_fr hR F3 ⟨by unfold fSt fRs; omega, by unfold fSt fRs; omega⟩ (fun k => ⟨by unfold fSt fRs; omega, by unfold fSt fRs; omega, by unfold fSt fRs; omega, by unfold fSt fRs; omega⟩)) (tvC_fr hT F3 (fun k _ => by unfold fSt fRs; omega)) (S0_ok (bsD_b pl _ h2)) ⟨C1, C2, fun i hi => absurd hi (Nat.not_lt_zero i)⟩ (by rw [r_II, if_pos ⟨rfl, rfl⟩]; rfl) (cn_le _ _ _) (fun s4 f4 c4 m4 m5 => hK s4 (F3.tr f4) c4.2.2 m4 m5)
end
