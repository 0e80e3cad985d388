/-! TEXTS: the reference reads words and numbers -/
def tM (s : hS) (B : Nat → Int) (N : Nat) : Prop := rI s 145 8 = nI N ∧ N ≤ 300 ∧ ∀ i, i < N → (rI s 153 i).toInt = B i ∧ 0 ≤ B i ∧ B i ≤ 255
def mS (s : hS) (a fi le fo fa : Int32) : hS := sI (sI (sI (sI (sI s 145 9 a) 145 10 fi) 145 11 le) 145 12 fo) 145 13 fa
theorem mS_r (s : hS) (a fi le fo fa : Int32) (c k : Nat) : rI (mS s a fi le fo fa) c k = if c = 145 ∧ k = 13 then fa else if c = 145 ∧ k = 12 then fo else if c = 145 ∧ k = 11 then le else if c = 145 ∧ k = 10 then fi else if c = 145 ∧ k = 9 then a else rI s c k := by
  unfold mS; rw [r_II, r_II, r_II, r_II, r_II]
theorem mS_ne (s : hS) (a fi le fo fa : Int32) {c k : Nat} (h : ¬ (c = 145 ∧ 9 ≤ k ∧ k ≤ 13)) : rI (mS s a fi le fo fa) c k = rI s c k := by
  rw [mS_r, if_neg (by omega), if_neg (by omega), if_neg (by omega), if_neg (by omega), if_neg (by omega)]
theorem mS_at (s : hS) (a fi le fo fa x : Int32) : sI (mS s a fi le fo fa) 145 9 x = mS s x fi le fo fa := by
  refine hS_ext (fun c k => ?_) (fun c k => rfl)
  rw [r_II, mS_r, mS_r]
  by_cases h : c = 145 ∧ k = 9
  · obtain ⟨rfl, rfl⟩ := h; rfl
  · rw [if_neg h, if_neg h, if_neg h]
theorem mS_first (s : hS) (a fi le fo fa x : Int32) : sI (mS s a fi le fo fa) 145 10 x = mS s a x le fo fa := by
  refine hS_ext (fun c k => ?_) (fun c k => rfl)
  rw [r_II, mS_r, mS_r]
  by_cases h : c = 145 ∧ k = 10
  · obtain ⟨rfl, rfl⟩ := h; rfl
  · rw [if_neg h, if_neg h, if_neg h]
theorem mS_length (s : hS) (a fi le fo fa x : Int32) : sI (mS s a fi le fo fa) 145 11 x = mS s a fi x fo fa := by
  refine hS_ext (fun c k => ?_) (fun c k => rfl)
  rw [r_II, mS_r, mS_r]
  by_cases h : c = 145 ∧ k = 11
  · obtain ⟨rfl, rfl⟩ := h; rfl
  · rw [if_neg h, if_neg h, if_neg h]
theorem mS_faults (s : hS) (a fi le fo fa x y : Int32) : sI (sI (mS s a fi le fo fa) 145 12 x) 145 13 y = mS s a fi le x y := by
  refine hS_ext (fun c k => ?_) (fun c k => rfl)
  rw [r_II, r_II, mS_r, mS_r]
  by_cases h : c = 145 ∧ k = 13
  · rw [if_pos h, if_pos h]
  · rw [if_neg h, if_neg h, if_neg h]
    by_cases h2 : c = 145 ∧ k = 12
    · rw [if_pos h2, if_pos h2]
    · rw [if_neg h2, if_neg h2, if_neg h2]
theorem mS_sI (s : hS) (a fi le fo fa : Int32) {c k : Nat} {x : Int32} (h : ¬ (c = 145 ∧ 9 ≤ k ∧ k ≤ 13)) : sI (mS s a fi le fo fa) c k x = mS (sI s c k x) a fi le fo fa := by
  refine hS_ext (fun c' k' => ?_) (fun c' k' => rfl)
  rw [r_II]
  by_cases h2 : c' = c ∧ k' = k
  · obtain ⟨rfl, rfl⟩ := h2
    rw [if_pos ⟨rfl, rfl⟩, mS_ne _ _ _ _ _ _ h, r_II, if_pos ⟨rfl, rfl⟩]
  · rw [if_neg h2, mS_r, mS_r, r_II, if_neg h2]
theorem tM_mS {s : hS} {B : Nat → Int} {N : Nat} (h : tM s B N) (a fi le fo fa : Int32) : tM (mS s a fi le fo fa) B N := by
  obtain ⟨h1, h2, h3⟩ := h
  refine ⟨?_, h2, fun i hi => ?_⟩
  · rw [mS_ne _ _ _ _ _ _ (by decide)]; exact h1
  · rw [mS_ne _ _ _ _ _ _ (by omega)]; exact h3 i hi
theorem tM_sI {s : hS} {B : Nat → Int} {N : Nat} (h : tM s B N) {c k : Nat} {x : Int32} (h1 : ¬ (c = 145 ∧ k = 8)) (h2 : c ≠ 153) : tM (sI s c k x) B N := by
  obtain ⟨a1, a2, a3⟩ := h
  refine ⟨?_, a2, fun i hi => ?_⟩
  · rw [r_II, if_neg (by omega)]; exact a1
  · rw [r_II, if_neg (by omega)]; exact a3 i hi
theorem m_at (s : hS) (a fi le fo fa : Int32) : rI (mS s a fi le fo fa) 145 9 = a := by rw [mS_r]; rfl
theorem m_first (s : hS) (a fi le fo fa : Int32) : rI (mS s a fi le fo fa) 145 10 = fi := by rw [mS_r]; rfl
theorem m_length (s : hS) (a fi le fo fa : Int32) : rI (mS s a fi le fo fa) 145 11 = le := by rw [mS_r]; rfl
theorem m_faultOf (s : hS) (a fi le fo fa : Int32) : rI (mS s a fi le fo fa) 145 12 = fo := by rw [mS_r]; rfl
section
variable {d : Nat} {v : hV} {s : hS} {B : Nat → Int} {N : Nat}
theorem sm_here (h : tM s B N) {fi le fo fa : Int32} {K : Int32 → hS → Prop} {a : Nat} (ha : a ≤ N) (hK : ∀ x : Int32, x.toInt = bat B N (xs cBl B N a) → K x (mS s (nI (xs cBl B N a)) fi le fo fa)) : pcI d 157 [.ref 145] v (mS s (nI a) fi le fo fa) K := by
  refine st_M_here ?_
  obtain ⟨h1, h2, h3⟩ := h
  generalize hm : N - a = m
  induction m generalizing a with
  | zero =>
    have hn : ¬ (a < N ∧ cBl (B a) = true) := fun z => by omega
    rw [xs_stop hn] at hK
    have e2 : rI (mS s (nI a) fi le fo fa) 145 8 = nI N := by rw [mS_ne _ _ _ _ _ _ (by decide)]; exact h1
    refine st_M_here_0 ⟨fun c => absurd c ?_, fun _ => ⟨fun c => absurd c ?_, fun _ => hK _ ?_⟩⟩
    · rw [m_at, e2, nI_toInt (by omega), nI_toInt (by omega)]; omega
    · rw [m_at, e2, nI_toInt (by omega), nI_toInt (by omega)]; omega
    · unfold bat; rw [if_neg (by omega)]; rfl
  | succ m ih =>
    have e2 : rI (mS s (nI a) fi le fo fa) 145 8 = nI N := by rw [mS_ne _ _ _ _ _ _ (by decide)]; exact h1
    have e3 : rI (mS s (nI a) fi le fo fa) 153 a = rI s 153 a := mS_ne _ _ _ _ _ _ (by omega)
    have e4 : (nI a).toInt.toNat = a := by rw [nI_toInt (by omega)]; exact Int.toNat_natCast a
    refine st_M_here_0 ?_
    rw [m_at, e2, e4, e3, nI_toInt (by omega), nI_toInt (by omega), (h3 a (by omega)).1, nI_1]
    refine ⟨fun c => ⟨by omega, fun c3 => ?_, fun c3 => ⟨fun _ => ⟨by omega, ?_⟩, fun z => absurd c z⟩⟩, fun c => absurd (show (a : Int) < N by omega) c⟩
    · rw [mS_at]
      have hy : a < N ∧ cBl (B a) = true := ⟨by omega, decide_eq_true c3⟩
      rw [xs_step hy] at hK
      exact ih (by omega) hK (by omega)
    · have hn : ¬ (a < N ∧ cBl (B a) = true) := fun z => c3 (of_decide_eq_true z.2)
      rw [xs_stop hn] at hK
      refine hK _ ?_
      unfold bat; rw [if_pos (by omega)]; exact (h3 a (by omega)).1
/-- want, when nothing is wrong yet -/
theorem sm_want0 {a fi le fa : Int32} {x e w : Int32} (he : ¬ e.toInt = 0) {K : Int32 → hS → Prop} (h1 : ¬ x.toInt = 0 → K 1 (mS s a fi le 0 fa)) (h0 : x.toInt = 0 → K 0 (mS s a fi le e w)) : pcI d 163 [.ref 145, .int x, .int e, .int w] v (mS s a fi le 0 fa) K := by
  refine st_M_want ?_
  rw [m_faultOf, mS_faults]
  exact ⟨fun c => ⟨fun _ => ⟨fun z => absurd z he, fun _ => h0 c⟩, fun z => absurd rfl z⟩, fun c => ⟨fun _ => h1 c, fun z => absurd rfl z⟩⟩
theorem sm_takeWord (h : tM s B N) {fi le fo fa : Int32} {K : hS → Prop} {a : Nat} (ha : a ≤ N) (hK : K (mS s (nI (xs cL B N (xs cBl B N a))) (nI (xs cBl B N a)) (nI (xs cL B N (xs cBl B N a) - xs cBl B N a)) fo fa)) : pcV (d + 1) 159 [.ref 145] v (mS s (nI a) fi le fo fa) K := by
  have hx := xs_le (P := cBl) (B := B) ha
  have hN := h.2.1
  refine st_M_takeWord (sm_here h ha (fun x _ => ?_))
  generalize xs cBl B N a = p at *
  rw [m_at, mS_first]
  have L : ∀ m q : Nat, N - q ≤ m → p ≤ q → q ≤ N → xs cL B N q = xs cL B N p → ∀ z1, pgV (d + 1) 159 7 [.ref 145, z1] [] v (mS s (nI q) (nI p) le fo fa) K := by
    intro m
    induction m with
    | zero =>
      intro q h1 h2 h3 h4 z1
      have hqs : xs cL B N q = q := xs_stop (fun z => by omega)
      rw [← h4, hqs] at hK
      have e2 : rI (mS s (nI q) (nI p) le fo fa) 145 8 = nI N := by rw [mS_ne _ _ _ _ _ _ (by decide)]; exact h.1
      refine st_M_takeWord_7 ?_
      rw [m_at, m_first, e2, mS_length, pk_sub h2, nI_toInt (by omega), nI_toInt (by omega)]
      exact ⟨fun c => absurd c (by omega), fun _ => hK⟩
    | succ m ih =>
      intro q h1 h2 h3 h4 z1
      have e2 : rI (mS s (nI q) (nI p) le fo fa) 145 8 = nI N := by rw [mS_ne _ _ _ _ _ _ (by decide)]; exact h.1
      have e3 : rI (mS s (nI q) (nI p) le fo fa) 153 q = rI s 153 q := mS_ne _ _ _ _ _ _ (by omega)
      have e4 : (nI q).toInt.toNat = q := by rw [nI_toInt (by omega)]; exact Int.toNat_natCast q
      have e97 : Int64.toInt 97 = 97 := rfl
      have e122 : Int64.toInt 122 = 122 := rfl
      refine st_M_takeWord_7 ?_
      rw [m_at, m_first, e2, mS_length, pk_sub h2, e4, e3, nI_toInt (by omega), nI_toInt (by omega)]
      refine ⟨fun c => ⟨by omega, sp_in (fun c2 => ?_) (fun c2 => ?_)⟩, fun c => ?_⟩
      · rw [m_at, m_first, mS_length, pk_sub h2]
        rw [(h.2.2 q (by omega)).1, e97, e122] at c2
        have hqs : xs cL B N q = q := xs_stop (fun z => c2 (of_decide_eq_true z.2))
        rw [← h4, hqs] at hK
        exact hK
      · rw [m_at, nI_1, mS_at]
        rw [(h.2.2 q (by omega)).1, e97, e122] at c2
        refine ih (q + 1) (by omega) (by omega) (by omega) ?_ z1
        rw [← h4]
        exact (xs_step ⟨by omega, decide_eq_true c2⟩).symm
      · have hqs : xs cL B N q = q := xs_stop (fun z => by omega)
        rw [← h4, hqs] at hK
        exact hK
  exact L _ p (Nat.le_refl _) (Nat.le_refl _) hx rfl _
/-- does word j stand where a word was taken -/
theorem sm_isWord (h : tM s B N) {fo fa : Int32} {a : Int32} {p : Nat} (hp : p ≤ N) {j : Nat} (hj : j < 16) {x1 x2 x3 x4 x5 x6 : Int32} (g1 : x1.toInt = wn j) (g2 : x2.toInt = wc j 0) (g3 : x3.toInt = wc j 1) (g4 : x4.toInt = wc j 2) (g5 : 3 < wn j → x5.toInt = wc j 3) (g6 : 4 < wn j → x6.toInt = wc j 4) {K : Int32 → hS → Prop} (hK : K (if mtb B N p j = true then 1 else 0) (mS s a (nI p) (nI (xs cL B N p - p)) fo fa)) : pcI d 160 [.ref 145, .int x1, .int x2, .int x3, .int x4, .int x5, .int x6] v (mS s a (nI p) (nI (xs cL B N p - p)) fo fa) K := by
  have hw := wn_in j hj
  have hN := h.2.1
  have hq := xs_le (P := cL) (B := B) hp
  have hg := xs_ge (P := cL) (B := B) (N := N) (p := p)
  have F : ∀ k : Int32, 0 ≤ k.toInt → ¬ mtb B N p j = true → pgI d 160 10 [.ref 145, .int x1, .int x2, .int x3, .int x4, .int x5, .int x6, .int 0, .int k] [] v (mS s a (nI p) (nI (xs cL B N p - p)) fo fa) K := by
    intro k hk hn
    rw [if_neg hn] at hK
    exact st_M_isWord_10 ⟨fun _ => ⟨fun _ => ⟨Or.inl rfl, hK⟩, fun z => absurd rfl z⟩, fun _ => ⟨Or.inl rfl, hK⟩⟩
  refine st_M_isWord ?_
  rw [m_length, nI_toInt (by omega), g1]
  refine ⟨fun c => ?_, fun c => F 0 (by decide) (fun z => ?_)⟩
  · have hl : xs cL B N p = p + wn j := by omega
    have L : ∀ m k : Nat, k + m = wn j → (∀ i, i < k → B (p + i) = wc j i) → pgI d 160 10 [.ref 145, .int x1, .int x2, .int x3, .int x4, .int x5, .int x6, .int 1, .int (nI k)] [] v (mS s a (nI p) (nI (xs cL B N p - p)) fo fa) K := by
      intro m
      induction m with
      | zero =>
        intro k hk h1
        have hm : mtb B N p j = true := mtb_of hl hp (fun i hi => h1 i (by omega))
        rw [if_pos hm] at hK
        refine st_M_isWord_10 ⟨fun c2 => absurd c2 ?_, fun _ => ⟨Or.inr rfl, hK⟩⟩
        rw [g1, nI_toInt (by omega)]; omega
      | succ m ih =>
        intro k hk h1
        have e4 : (nI (p + k)).toInt.toNat = p + k := by rw [nI_toInt (by omega)]; exact Int.toNat_natCast _
        have e3 : rI (mS s a (nI p) (nI (xs cL B N p - p)) fo fa) 153 (p + k) = rI s 153 (p + k) := mS_ne _ _ _ _ _ _ (by omega)
        refine st_M_isWord_10 ⟨fun _ => ⟨fun z => absurd z (by decide), fun _ => ?_⟩, fun c2 => absurd ?_ c2⟩
        · rw [m_first, nI_add, e4, e3, (h.2.2 (p + k) (by omega)).1, nI_toInt (by omega), nI_toInt (by omega), nI_1]
          have Z : ∀ y : Int, y = wc j k → (B (p + k) = y → pgI d 160 10 [.ref 145, .int x1, .int x2, .int x3, .int x4, .int x5, .int x6, .int 1, .int (nI (k + 1))] [] v (mS s a (nI p) (nI (xs cL B N p - p)) fo fa) K) ∧ (¬ B (p + k) = y → pgI d 160 10 [.ref 145, .int x1, .int x2, .int x3, .int x4, .int x5, .int x6, .int 0, .int (nI (k + 1))] [] v (mS s a (nI p) (nI (xs cL B N p - p)) fo fa) K) := by
            intro y hy
            refine ⟨fun c3 => ih (k + 1) (by omega) (fun i hi => ?_), fun c3 => F _ (by rw [nI_toInt (by omega)]; omega) (fun z => c3 (by rw [hy]; exact (mtb_iff.mp z).2.2 k (by omega)))⟩
            by_cases hik : i = k
            · rw [hik, c3, hy]
            · exact h1 i (by omega)
          refine ⟨by omega, fun c0 => Z _ ?_, fun c0 => ⟨fun c1 => Z _ ?_, fun c1 => ⟨fun c2 => Z _ ?_, fun c2 => ⟨fun c3 => Z _ ?_, fun c3 => Z _ ?_⟩⟩⟩⟩
          · rw [g2, show k = 0 by omega]
          · rw [g3, show k = 1 by omega]
          · rw [g4, show k = 2 by omega]
          · rw [g5 (by omega), show k = 3 by omega]
          · rw [g6 (by omega), show k = 4 by omega]
        · rw [g1, nI_toInt (by omega)]; omega
    exact L (wn j) 0 (Nat.zero_add _) (fun i hi => absurd hi (Nat.not_lt_zero i))
  · have := mtb_len hj z
    omega
theorem sm_isNext (h : tM s B N) {fi le fo fa : Int32} {a : Nat} (ha : a ≤ N) {j : Nat} (hj : j < 16) {x1 x2 x3 x4 x5 x6 : Int32} (g1 : x1.toInt = wn j) (g2 : x2.toInt = wc j 0) (g3 : x3.toInt = wc j 1) (g4 : x4.toInt = wc j 2) (g5 : 3 < wn j → x5.toInt = wc j 3) (g6 : 4 < wn j → x6.toInt = wc j 4) {K : Int32 → hS → Prop} (hK : ∀ fi le, K (if mtb B N (xs cBl B N a) j = true then 1 else 0) (mS s (if mtb B N (xs cBl B N a) j = true then nI (xs cBl B N a + wn j) else nI (xs cBl B N a)) fi le fo fa)) : pcI (d + 2) 171 [.ref 145, .int x1, .int x2, .int x3, .int x4, .int x5, .int x6] v (mS s (nI a) fi le fo fa) K := by
  refine st_M_isNext (sm_takeWord h ha (sm_isWord h (xs_le ha) hj g1 g2 g3 g4 g5 g6 ?_))
  rw [m_at, m_first, mS_at, mS_at]
  by_cases hm : mtb B N (xs cBl B N a) j = true
  · rw [if_pos hm] at hK ⊢
    rw [mtb_len hj hm]
    refine ⟨fun z => absurd z (by decide), fun _ => ⟨Or.inr rfl, ?_⟩⟩
    have := hK (nI (xs cBl B N a)) (nI (xs cBl B N a + wn j - xs cBl B N a))
    rw [if_pos hm] at this
    exact this
  · rw [if_neg hm] at hK ⊢
    refine ⟨fun _ => ⟨Or.inl rfl, ?_⟩, fun z => absurd rfl z⟩
    have := hK (nI (xs cBl B N a)) (nI (xs cL B N (xs cBl B N a) - xs cBl B N a))
    rw [if_neg hm] at this
    exact this
end
