/-! LEAST TIME: the class puts acts up -/
section
variable {d : Nat} {v : hV} {s s1 : hS} {N : Nat} {m a : Nat → Int} {af : Nat → Nat}
theorem chR_cg : ∀ (j S : Nat) (lo hi last : Int) (E E2 : Nat → Int) (hf : Int), S < 2 ^ N → (∀ i, S.testBit i = true → E i = E2 i) → chR N m a af j S lo hi last E hf → chR N m a af j S lo hi last E2 hf := by
  intro j
  induction j with
  | zero => intro S lo hi last E E2 hf _ _ h; exact h
  | succ j ih =>
    intro S lo hi last E E2 hf hSb he ⟨k, hk, hb, hsb, hls, hch⟩
    have er : rdA (af k) E k = rdA (af k) E2 k := rdA_cg k (fun i _ hi => he i (hsb i hi))
    rw [er] at hls hch
    refine ⟨k, hk, hb, hsb, hls, ih _ _ _ _ _ _ hf (orS_lt hSb hk) (fun i hi => ?_) hch⟩
    by_cases c : i = k
    · rw [c, upL_at, upL_at]
    · rw [upL_ne c, upL_ne c]
      rw [or_bit, if_neg c] at hi
      exact he i hi
def wkS (N : Nat) (m a : Nat → Int) (S : Nat) : Int := smS (fun k => if S.testBit k = true then 0 else m k * a k) N
theorem ma_b (ok : okT2 N m a af) {k : Nat} (hk : k < N) : 1 ≤ m k * a k ∧ m k * a k ≤ 60 ∧ (a k = 1 → m k * a k = m k) ∧ (a k = 2 → m k * a k = 2 * m k) := by
  have := ok.2 k hk
  rcases this.2.2.1 with c | c
  · rw [c, Int.mul_one]; omega
  · rw [c, show m k * 2 = 2 * m k by omega]; omega
theorem wkS_b (ok : okT2 N m a af) (S : Nat) : 0 ≤ wkS N m a S ∧ wkS N m a S ≤ 480 := by
  have h1 : 0 ≤ wkS N m a S := smS_nn N (fun k hk => by
    show 0 ≤ if S.testBit k = true then 0 else m k * a k
    have := ma_b ok hk
    split <;> omega)
  have h2 : wkS N m a S ≤ N * 60 := smS_le N (fun k hk => by
    show (if S.testBit k = true then 0 else m k * a k) ≤ 60
    have := ma_b ok hk
    split <;> omega)
  have := ok.1
  omega
theorem wkS_up {S k : Nat} (hk : k < N) (hb : S.testBit k = false) : wkS N m a (S ||| 2 ^ k) = wkS N m a S - m k * a k := by
  have := smS_up (f := fun q => if S.testBit q = true then 0 else m q * a q) (g := fun q => if (S ||| 2 ^ k).testBit q = true then 0 else m q * a q) (j := k) N hk (fun q _ hq => by
    show (if (S ||| 2 ^ k).testBit q = true then 0 else m q * a q) = if S.testBit q = true then 0 else m q * a q
    rw [or_bit, if_neg hq])
  unfold wkS
  rw [this]
  simp only [or_bit, if_pos, hb, Bool.false_eq_true, if_false]
  omega
/-- the work that is to come must be done -/
theorem chR_work (ok : okT2 N m a af) : ∀ (j S : Nat) (lo hi last : Int) (E : Nat → Int) (hf : Int), chR N m a af j S lo hi last E hf → S < 2 ^ N → cntS N S + j = N → lo ≤ hi → lo + hi + wkS N m a S ≤ 2 * hf ∧ hi ≤ hf := by
  intro j
  induction j with
  | zero =>
    intro S lo hi last E hf hch hSb hc hlh
    have hch : hf = hi := hch
    have hall := cntS_eq hSb (show cntS N S = N by omega)
    have : wkS N m a S = 0 := by
      unfold wkS
      rw [smS_cg (g := fun _ => 0) N (fun k hk => by show (if S.testBit k = true then 0 else m k * a k) = 0; rw [if_pos (hall k hk)])]
      have := smS_1 0
      clear this
      have z : ∀ n, smS (fun _ => 0) n = 0 := by
        intro n
        induction n with
        | zero => rfl
        | succ n ih => show smS (fun _ => 0) n + 0 = 0; rw [ih]; rfl
      exact z N
    omega
  | succ j ih =>
    intro S lo hi last E hf ⟨k, hk, hb, hsb, hls, hch⟩ hSb hc hlh
    have mk := ok.2 k hk
    have hma := ma_b ok hk
    have hst : (a k = 1 → lo ≤ stA (a k) (rdA (af k) E k) lo hi) ∧ (a k = 2 → hi ≤ stA (a k) (rdA (af k) E k) lo hi) := by
      unfold stA mx2
      rcases mk.2.2.1 with c | c
      · rw [if_pos c]; split <;> omega
      · rw [if_neg (by omega)]; split <;> omega
    generalize hs : stA (a k) (rdA (af k) E k) lo hi = st at *
    have hee : hi ≤ hiA (a k) (st + m k) hi ∧ lo + hi + m k * a k ≤ loA (a k) (st + m k) hi + hiA (a k) (st + m k) hi ∧ loA (a k) (st + m k) hi ≤ hiA (a k) (st + m k) hi := by
      unfold hiA loA mx2 mn2
      rcases mk.2.2.1 with c | c
      · have := hst.1 c
        have := hma.2.2.1 c
        rw [if_pos c, if_pos c]; split <;> split <;> omega
      · have := hst.2 c
        have := hma.2.2.2 c
        rw [if_neg (by omega), if_neg (by omega)]; omega
    have := ih _ _ _ _ _ hf hch (orS_lt hSb hk) (by rw [cntS_up hk hb]; omega) hee.2.2
    rw [wkS_up hk hb] at this
    omega
/-- the acts, as the class has them -/
def cAc (N : Nat) (m a : Nat → Int) (af : Nat → Nat) (s : hS) : Prop := rI s 112 4 = nI N ∧ ∀ k, k < N → (rI s 113 k).toInt = m k ∧ (rI s 114 k).toInt = a k ∧ rI s 115 k = nI (af k)
theorem cAc_fr {F : Nat → Nat → Prop} (h : cAc N m a af s) (hf : Fr F s s1) (h1 : ¬ F 112 4) (h2 : ∀ k, ¬ F 113 k ∧ ¬ F 114 k ∧ ¬ F 115 k) : cAc N m a af s1 := by
  refine ⟨by rw [hf.i h1]; exact h.1, fun k hk => ?_⟩
  rw [hf.i (h2 k).1, hf.i (h2 k).2.1, hf.i (h2 k).2.2]; exact h.2 k hk
theorem sp_readyAt (ok : okT2 N m a af) (hC : cAc N m a af s) {k : Nat} (hk : k < N) {K : Int32 → hS → Prop} (hK : ∀ w : Int32, w.toInt = rdA (af k) (fun i => (rI s 116 i).toInt) k → K w s) : pcI (d + 1) 118 [.ref 112, .int (nI k)] v s K := by
  have hN := ok.1
  have mk := ok.2 k hk
  have hp := pw8 (M := k) (by omega)
  have c3 := (hC.2 k hk).2.2
  have G : ∀ j i : Nat, i + j = k → ∀ x2 : Int32, x2.toInt = rdA (af k) (fun i => (rI s 116 i).toInt) i → pgI (d + 1) 118 4 [.ref 112, .int (nI k), .int x2, .int (nI i)] [] v s K := by
    intro j
    induction j with
    | zero =>
      intro i hi x2 h2
      refine st_Acts_readyAt_4 ?_
      rw [nI_toInt (show i < 2147483648 by omega), nI_toInt (show k < 2147483648 by omega)]
      exact ⟨fun z => absurd z (by omega), fun _ => hK x2 (by rw [h2, show i = k by omega])⟩
    | succ j ih =>
      intro i hi x2 h2
      have q1 : nI i + 1 = nI (i + 1) := by rw [nI_1]
      have e : rdA (af k) (fun i => (rI s 116 i).toInt) (i + 1) = if (af k).testBit i = true then mx2 (rdA (af k) (fun i => (rI s 116 i).toInt) i) (rI s 116 i).toInt else rdA (af k) (fun i => (rI s 116 i).toInt) i := rfl
      refine st_Acts_readyAt_4 ?_
      rw [nI_toInt (show i < 2147483648 by omega), nI_toInt (show k < 2147483648 by omega), Int.toNat_natCast, Int.toNat_natCast, c3, b_0 (by omega) (by omega), q1]
      refine ⟨fun _ => ⟨by omega, fun c => ih (i + 1) (by omega) x2 (by rw [e, c, if_neg (by decide)]; exact h2), fun c => ⟨by omega, ?_⟩⟩, fun z => absurd (by omega) z⟩
      have c : (af k).testBit i = true := by cases hq : (af k).testBit i with | true => rfl | false => exact absurd hq c
      rw [if_pos c] at e
      refine st_Math_max ⟨fun c2 => ih (i + 1) (by omega) _ ?_, fun c2 => ih (i + 1) (by omega) _ ?_⟩
      · rw [e, ← h2, mx2, if_pos c2]
      · rw [e, ← h2, mx2, if_neg c2]
  exact st_Acts_readyAt (G k 0 (by omega) 0 rfl)
end
