/-! THE PLAN: chains of cuts -/
def pfx (g : Nat → Int) : Nat → Int
  | 0 => 0
  | k + 1 => pfx g k + g k
def hdL : List Nat → Nat
  | [] => 0
  | k :: _ => k
def dlL : List Nat → Nat → Prop
  | [], _ => True
  | k :: r, n => k < n ∧ dlL r k
def stL : List Nat → Nat
  | [] => 0
  | k :: r => stL r ||| 2 ^ k
def cvL (P : Nat → Int) (q : Int) (tr : Nat → Prop) : List Nat → Prop
  | [] => True
  | k :: r => tr k ∧ P k - P (hdL r) ≤ q ∧ dlL r k ∧ cvL P q tr r
def chL (P : Nat → Int) (q : Int) (tr : Nat → Prop) (r : List Nat) (to : Nat) : Prop := cvL P q tr r ∧ P to - P (hdL r) ≤ q ∧ dlL r to
def grL (P : Nat → Int) (q : Int) (tr : Nat → Prop) (R : Nat) : List Nat → Prop
  | [] => True
  | l :: r => (∀ k, k < R → tr k → P k - P (hdL r) ≤ q → k ≤ l) ∧ ¬ (P R - P (hdL r) ≤ q) ∧ grL P q tr R r
def dmL : List Nat → List Nat → Prop
  | [], [] => True
  | l :: a, k :: b => k ≤ l ∧ dmL a b
  | _, _ => False
def betL (r r2 : List Nat) : Prop := r.length < r2.length ∨ (r.length = r2.length ∧ stL r2 ≤ stL r)
theorem dlL_mo : ∀ {r : List Nat} {n m : Nat}, dlL r n → n ≤ m → dlL r m
  | [], _, _, _, _ => trivial
  | _ :: _, _, _, h, hm => ⟨Nat.lt_of_lt_of_le h.1 hm, h.2⟩
theorem stL_lt : ∀ {r : List Nat} {n : Nat}, dlL r n → stL r < 2 ^ n
  | [], _, _ => Nat.pow_pos (by decide)
  | k :: r, n, h => by
    have h1 := stL_lt h.2
    have h2 : 2 ^ k < 2 ^ n := Nat.pow_lt_pow_right (by decide) h.1
    exact Nat.or_lt_two_pow (Nat.lt_trans h1 h2) h2
theorem stL_add {k : Nat} {r : List Nat} (h : dlL r k) : stL (k :: r) = 2 ^ k + stL r := by
  have h1 := stL_lt h
  have := Nat.two_pow_add_eq_or_of_lt h1 1
  rw [Nat.mul_one] at this
  show stL r ||| 2 ^ k = _
  rw [Nat.or_comm, ← this]
theorem stL_cn {N : Nat} : ∀ {r : List Nat} {n : Nat}, dlL r n → n ≤ N → cn (fun i => (stL r).testBit i) 0 N = r.length
  | [], _, _, _ => cn_z N (fun i _ => Nat.zero_testBit _)
  | k :: r, n, h, hN => by
    have h1 := h.1
    have ih := stL_cn (N := N) h.2 (by omega)
    have hb : (stL r).testBit k = false := Nat.testBit_lt_two_pow (stL_lt h.2)
    show cn (fun i => (stL r ||| 2 ^ k).testBit i) 0 N = r.length + 1
    rw [cn_set k (by omega) hb, ih]
theorem dmL_len : ∀ {a b : List Nat}, dmL a b → a.length = b.length
  | [], [], _ => rfl
  | [], _ :: _, h => absurd h id
  | _ :: _, [], h => absurd h id
  | _ :: a, _ :: b, h => by show a.length + 1 = b.length + 1; rw [dmL_len h.2]
theorem dmL_hd : ∀ {a b : List Nat}, dmL a b → hdL b ≤ hdL a
  | [], [], _ => Nat.le_refl _
  | [], _ :: _, h => absurd h id
  | _ :: _, [], h => absurd h id
  | _ :: _, _ :: _, h => h.1
theorem dmL_st : ∀ {a b : List Nat} {n m : Nat}, dmL a b → dlL a n → dlL b m → stL b ≤ stL a
  | [], [], _, _, _, _, _ => Nat.le_refl _
  | [], _ :: _, _, _, h, _, _ => absurd h id
  | _ :: _, [], _, _, h, _, _ => absurd h id
  | l :: a, k :: b, n, m, h, ha, hb => by
    rw [stL_add ha.2, stL_add hb.2]
    by_cases c : k = l
    · have := dmL_st h.2 ha.2 hb.2
      rw [c]; omega
    · have h1 := h.1
      have h2 := stL_lt hb.2
      have h3 : 2 ^ (k + 1) ≤ 2 ^ l := Nat.pow_le_pow_right (by decide) (by omega)
      rw [Nat.pow_succ] at h3
      omega
section
variable {P : Nat → Int} {q : Int} {tr : Nat → Prop} {R : Nat}
theorem gr_dm (mo : ∀ i j, i ≤ j → P i ≤ P j) : ∀ {gs r : List Nat}, grL P q tr R gs → cvL P q tr r → dlL r R → r.length = gs.length → dmL gs r
  | [], [], _, _, _, _ => trivial
  | [], _ :: _, _, _, _, h => absurd h (by simp)
  | _ :: _, [], _, _, _, h => absurd h (by simp)
  | l :: g, k :: r, hg, hc, hd, hl => by
    have ih := gr_dm mo hg.2.2 hc.2.2.2 (dlL_mo hc.2.2.1 (Nat.le_of_lt hd.1)) (by simpa using hl)
    have h1 := mo _ _ (dmL_hd ih)
    have h2 := hc.2.1
    exact ⟨hg.1 k hd.1 hc.1 (by omega), ih⟩
theorem gr_len (mo : ∀ i j, i ≤ j → P i ≤ P j) : ∀ {gs r : List Nat}, grL P q tr R gs → cvL P q tr r → dlL r R → r.length < gs.length → ¬ (P R - P (hdL r) ≤ q)
  | [], _, _, _, _, h => absurd h (by simp)
  | l :: g, r, hg, hc, hd, hl => by
    have hl : r.length < g.length + 1 := hl
    by_cases c : r.length < g.length
    · exact gr_len mo hg.2.2 hc hd c
    · have ih := gr_dm mo hg.2.2 hc hd (by omega)
      have h1 := mo _ _ (dmL_hd ih)
      have h2 := hg.2.1
      omega
theorem gr_best (mo : ∀ i j, i ≤ j → P i ≤ P j) {gs r : List Nat} (hg : grL P q tr R gs) (hdg : dlL gs R) (hc : chL P q tr r R) : betL gs r := by
  obtain ⟨h1, h2, h3⟩ := hc
  rcases Nat.lt_trichotomy r.length gs.length with h | h | h
  · exact absurd h2 (gr_len mo hg h1 h3 h)
  · exact Or.inr ⟨h.symm, dmL_st (gr_dm mo hg h1 h3 h) hdg h3⟩
  · exact Or.inl h
theorem ch_at (mo : ∀ i j, i ≤ j → P i ≤ P j) {i : Nat} : ∀ {r : List Nat} {to : Nat}, chL P q tr r to → i + 1 ≤ to → ∃ x, (x = 0 ∨ tr x) ∧ x ≤ i ∧ P (i + 1) - P x ≤ q
  | [], to, h, hi => ⟨0, Or.inl rfl, Nat.zero_le _, by have h1 : P to - P 0 ≤ q := h.2.1; have := mo (i + 1) to hi; omega⟩
  | k :: r, to, h, hi => by
    obtain ⟨h1, h2, h3⟩ := h
    have h2 : P to - P k ≤ q := h2
    by_cases c : k ≤ i
    · exact ⟨k, Or.inr h1.1, c, by have := mo (i + 1) to hi; omega⟩
    · exact ch_at mo ⟨h1.2.2.2, h1.2.1, h1.2.2.1⟩ (show i + 1 ≤ k by omega)
end
/-- the best of those that C names, as a number -/
def bV (C : List Nat → Prop) (x : Int32) : Prop := (x.toInt = -1 ∧ ∀ r, ¬ C r) ∨ ∃ r, C r ∧ x = nI (stL r) ∧ ∀ r2, C r2 → betL r r2
theorem bV_un {C : List Nat → Prop} {x y : Int32} (h : bV C x) (h2 : bV C y) : x = y := by
  have em : Int32.toInt (-1) = -1 := rfl
  rcases h with ⟨a1, a2⟩ | ⟨r, a1, a2, a3⟩
  · rcases h2 with ⟨b1, _⟩ | ⟨r, b1, _⟩
    · exact i_inj (by rw [a1, b1])
    · exact absurd b1 (a2 r)
  · rcases h2 with ⟨_, b2⟩ | ⟨r2, b1, b2, b3⟩
    · exact absurd a1 (b2 r)
    · have c1 := a3 r2 b1
      have c2 := b3 r a1
      unfold betL at c1 c2
      rw [a2, b2, show stL r = stL r2 by omega]
theorem bV_cg {C C2 : List Nat → Prop} {x : Int32} (h : bV C x) (e : ∀ r, C r ↔ C2 r) : bV C2 x := by
  rcases h with ⟨a1, a2⟩ | ⟨r, a1, a2, a3⟩
  · exact Or.inl ⟨a1, fun r z => a2 r ((e r).mpr z)⟩
  · exact Or.inr ⟨r, (e r).mp a1, a2, fun r2 z => a3 r2 ((e r2).mpr z)⟩
section
variable {d : Nat} {v : hV} {s s1 : hS} {R : Nat} {m : Int32}
theorem sm_ones {set : Nat} (hs : set < 2 ^ 24) {K : Int32 → hS → Prop} (hK : K (nI (cn (fun i => set.testBit i) 0 24)) s) : pcI d 240 [.int (nI set)] v s K := by
  have hs2 : set < 2147483648 := Nat.lt_of_lt_of_le hs (by decide)
  have G : ∀ j i : Nat, i + j = 24 → pgI d 240 4 [.int (nI set), .int (nI (cn (fun i => set.testBit i) 0 i)), .int (nI i)] [] v s K := by
    intro j
    induction j with
    | zero =>
      intro i hi
      refine st_M_ones_4 ⟨fun z => absurd z (by rw [nI_toInt (by omega)]; omega), fun _ => ?_⟩
      rw [show i = 24 by omega]; exact hK
    | succ j ih =>
      intro i hi
      have h2 := ih (i + 1) (by omega)
      have e : cn (fun i => set.testBit i) 0 (i + 1) = cn (fun i => set.testBit i) 0 i + (if set.testBit (0 + i) = true then 1 else 0) := rfl
      rw [Nat.zero_add] at e
      have q1 : nI i + 1 = nI (i + 1) := by rw [nI_1]
      have eb : ((nI set >>> (nI i &&& 31)) &&& 1) = nI (if set.testBit i = true then 1 else 0) := i_inj (by
        rw [b_t hs2 (by omega)]; split <;> rfl)
      refine st_M_ones_4 ⟨fun _ => ?_, fun z => absurd (by rw [nI_toInt (by omega)]; omega) z⟩
      rw [eb, nI_add, q1, ← e]; exact h2
  exact st_M_ones (G 24 0 rfl)
/-- the months, as both have them -/
def gD (s : hS) (k : Nat) : Int := (rI s 179 k).toInt
def tD (s : hS) (k : Nat) : Prop := ¬ (rI s 180 k).toInt = 0
theorem pfx_b {g : Nat → Int} {R : Nat} (h : ∀ k, k < R → 0 ≤ g k ∧ g k ≤ 30) : ∀ k, k ≤ R → 0 ≤ pfx g k ∧ pfx g k ≤ 30 * k := by
  intro k
  induction k with
  | zero => intro _; exact ⟨Int.le_refl _, Int.le_refl _⟩
  | succ k ih =>
    intro hk
    have := ih (by omega); have := h k (by omega)
    show 0 ≤ pfx g k + g k ∧ pfx g k + g k ≤ 30 * ((k + 1 : Nat) : Int)
    omega
/-- beyond the route nothing is dragged -/
def gE (s : hS) (R k : Nat) : Int := if k < R then gD s k else 0
theorem pfx_mo {g : Nat → Int} (h : ∀ k, 0 ≤ g k) : ∀ i j, i ≤ j → pfx g i ≤ pfx g j := by
  intro i j hij
  induction j with
  | zero => rw [show i = 0 by omega]; exact Int.le_refl _
  | succ j ih =>
    by_cases c : i = j + 1
    · rw [c]; exact Int.le_refl _
    · have := ih (by omega); have := h j
      show pfx g i ≤ pfx g j + g j
      omega
theorem sm_lasts (hR : R ≤ 24) (hg : ∀ k, k < R → 0 ≤ gD s k ∧ gD s k ≤ 30) (hm : 0 ≤ m.toInt ∧ m.toInt ≤ 99) {a b : Nat} (hab : a ≤ b) (hb : b ≤ R) {K : Int32 → hS → Prop} (h1 : pfx (gE s R) b - pfx (gE s R) a ≤ 99 - m.toInt → K 1 s) (h0 : ¬ (pfx (gE s R) b - pfx (gE s R) a ≤ 99 - m.toInt) → K 0 s) : pcI d 238 [.ref 145, .int (nI a), .int (nI b), .int m] v s K := by
  have e99 : Int32.toInt 99 = 99 := rfl
  have ge : ∀ k, 0 ≤ gE s R k ∧ gE s R k ≤ 30 := fun k => by
    unfold gE; split
    · exact hg k (by omega)
    · omega
  have mo := pfx_mo (fun k => (ge k).1)
  have hb2 := pfx_b (R := R) (g := gE s R) (fun k _ => ge k)
  have G : ∀ j i : Nat, i + j = b → a ≤ i → ∀ x4 : Int32, x4.toInt = 99 - (pfx (gE s R) i - pfx (gE s R) a) → pgI d 238 4 [.ref 145, .int (nI a), .int (nI b), .int m, .int x4, .int (nI i)] [] v s K := by
    intro j
    induction j with
    | zero =>
      intro i hi hai x4 hx
      have hi : i = b := by omega
      subst hi
      refine st_M_lasts_4 ?_
      rw [nI_toInt (show i < 2147483648 by omega), nI_toInt (show a < 2147483648 by omega), hx]
      refine ⟨fun z => absurd z (by omega), fun _ => ⟨fun z => h1 ?_, fun _ => ⟨fun z => h0 (by omega), fun z => h1 (by omega)⟩⟩⟩
      rw [show a = i by omega]; omega
    | succ j ih =>
      intro i hi hai x4 hx
      have q1 : nI i + 1 = nI (i + 1) := by rw [nI_1]
      have gi := hg i (by omega)
      have e : gE s R i = gD s i := if_pos (by omega)
      have ep : pfx (gE s R) (i + 1) = pfx (gE s R) i + gE s R i := rfl
      have m1 := mo a i hai
      have b1 := hb2 i (by omega)
      have b2 := hb2 a (by omega)
      have gi2 : (rI s 179 i).toInt = gD s i := rfl
      refine st_M_lasts_4 ?_
      rw [nI_toInt (show i < 2147483648 by omega), nI_toInt (show b < 2147483648 by omega), Int.toNat_natCast, q1]
      refine ⟨fun _ => ⟨by omega, ih (i + 1) (by omega) (by omega) _ ?_⟩, fun z => absurd (by omega) z⟩
      rw [i_sub (by omega), hx, gi2]; omega
  exact st_M_lasts (G (b - a) a (by omega) (Nat.le_refl _) 99 (by rw [e99]; omega))
/-- of two the better one -/
theorem sm_isBetter {C : List Nat → Prop} {r : List Nat} {n : Nat} (hn : n ≤ 24) (hr : dlL r n) (hC : ∀ r2, C r2 → dlL r2 n) {y : Int32} (hy : bV C y) {K : Int32 → hS → Prop} (h1 : bV (fun l => C l ∨ l = r) (nI (stL r)) → K 1 s) (h0 : bV (fun l => C l ∨ l = r) y → K 0 s) : pcI (d + 1) 239 [.int (nI (stL r)), .int y] v s K := by
  have p24 : ∀ l, dlL l n → stL l < 2 ^ 24 := fun l hl => stL_lt (dlL_mo hl hn)
  have c24 : ∀ l, dlL l n → cn (fun i => (stL l).testBit i) 0 24 = l.length := fun l hl => stL_cn hl hn
  have l24 : ∀ l, dlL l n → l.length ≤ 24 := fun l hl => by rw [← c24 l hl]; exact cn_le _ _ _
  have k24 : (2 : Nat) ^ 24 = 16777216 := rfl
  refine st_M_isBetter ?_
  rcases hy with ⟨a1, a2⟩ | ⟨r2, a1, a2, a3⟩
  · refine ⟨fun _ => h1 (Or.inr ⟨r, Or.inr rfl, rfl, fun l hl => ?_⟩), fun z => absurd (by omega) z⟩
    rcases hl with hl | hl
    · exact absurd hl (a2 l)
    · rw [hl]; exact Or.inr ⟨rfl, Nat.le_refl _⟩
  · have d2 := hC r2 a1
    have s1 := p24 r hr
    have s2 := p24 r2 d2
    have l1 := l24 r hr
    have l2 := l24 r2 d2
    have ey : y.toInt = stL r2 := by rw [a2, nI_toInt (by omega)]
    rw [ey]
    refine ⟨fun z => absurd z (by omega), fun _ => ?_⟩
    rw [a2]
    refine sm_ones s1 (sm_ones s2 ?_)
    rw [c24 r hr, c24 r2 d2]
    have B1 : (r.length < r2.length ∨ (r.length = r2.length ∧ stL r2 < stL r)) → K 1 s := fun z => h1 (Or.inr ⟨r, Or.inr rfl, rfl, fun l hl => by
      rcases hl with hl | hl
      · have := a3 l hl; unfold betL at *; omega
      · rw [hl]; exact Or.inr ⟨rfl, Nat.le_refl _⟩⟩)
    have B0 : (r2.length < r.length ∨ (r.length = r2.length ∧ stL r ≤ stL r2)) → K 0 s := fun z => h0 (Or.inr ⟨r2, Or.inl a1, a2, fun l hl => by
      rcases hl with hl | hl
      · exact a3 l hl
      · rw [hl]; unfold betL; omega⟩)
    rw [nI_toInt (show r.length < 2147483648 by omega), nI_toInt (show r2.length < 2147483648 by omega)]
    refine ⟨fun z => B1 (by omega), fun z => sm_ones s1 (sm_ones s2 ?_)⟩
    rw [c24 r hr, c24 r2 d2, nI_toInt (show r.length < 2147483648 by omega), nI_toInt (show r2.length < 2147483648 by omega), nI_toInt (show stL r < 2147483648 by omega)]
    exact ⟨fun y1 => ⟨fun y2 => B1 (by omega), fun y2 => B0 (by omega)⟩, fun y1 => B0 (by omega)⟩
end
