/-! A NIGHT by a RULE: one LOOKS, one DRAWS: as functions of the air -/
def stW (W : Nat → Int64) (j : Nat) (y : Int64) (i : Nat) : Int64 := if i = j then y else W i
theorem stW_s (W : Nat → Int64) (j : Nat) (y : Int64) : stW W j y j = y := if_pos rfl
theorem stW_n {W : Nat → Int64} {j i : Nat} {y : Int64} (h : i ≠ j) : stW W j y i = W i := if_neg h
theorem okM_set {m : Int} {j : Nat} {y : Int64} {W : Nat → Int64} (h : okM m W) (hj : 17 ≤ j) (h22 : j = 22 → 0 ≤ y.toInt ∧ y.toInt ≤ 9) (h23 : j = 23 → 0 ≤ y.toInt ∧ y.toInt ≤ 7) (h24 : j = 24 → 0 ≤ y.toInt ∧ y.toInt ≤ 9) (h25 : j = 25 → y.toInt = 0 ∨ y.toInt = 1) (h26 : j = 26 → 0 ≤ y.toInt ∧ y.toInt ≤ 8) (h27 : j = 27 → 0 ≤ y.toInt ∧ y.toInt ≤ 8) (h28 : j = 28 → 0 ≤ y.toInt ∧ y.toInt < 2147483648) : okM m (stW W j y) := by
  have A : okA (m.toNat / 1200 + 1) (fun i => if i = j then y else W i) := okA_set (okM_A h) hj h22 h23 h24 h25 h26 h27 h28
  obtain ⟨a1, a2, a3, a4⟩ := A
  refine ⟨a1, a2, ⟨a3.1, ?_⟩, a4⟩
  rw [stW_n (by omega)]; exact h.2.2.1.2
theorem okM_congr {m : Int} {W W' : Nat → Int64} (h : okM m W) (e : ∀ i, i < 29 → W' i = W i) : okM m W' := by
  obtain ⟨h1, h2, h3, h4, h5, h6, h7, h8, h9, h10⟩ := h
  unfold okM hSum at *
  rw [e 8 (by decide), e 9 (by decide), e 10 (by decide), e 11 (by decide), e 12 (by decide), e 13 (by decide), e 14 (by decide), e 15 (by decide), e 16 (by decide), e 22 (by decide), e 23 (by decide), e 24 (by decide), e 25 (by decide), e 26 (by decide), e 27 (by decide), e 28 (by decide)]
  exact ⟨fun k hk => by rw [e _ (by omega)]; exact h1 k hk, h2, h3, h4, h5, h6, h7, h8, h9, h10⟩
def wm (W : Nat → Int64) : Int := (W 9 / 20).toInt
theorem wm_0 {m : Int} {W : Nat → Int64} (h : okM m W) : 0 ≤ wm W := by
  have e20 : Int64.toInt 20 = 20 := rfl
  have h9 : 0 ≤ (W 9).toInt := h.1 1 (by decide)
  unfold wm
  rw [l_div h9 (by rw [e20]; decide), e20]; omega
theorem wm_lt {m : Int} {W : Nat → Int64} (h : okM m W) (hm : m ≤ 100000000) : wm W < 1000000000000 := by
  have e20 : Int64.toInt 20 = 20 := rfl
  have h9 : 0 ≤ (W 9).toInt := h.1 1 (by decide)
  obtain ⟨h1, h2, h3, _⟩ := h
  have a0 := h1 0 (by decide); have a2 := h1 2 (by decide); have a3 := h1 3 (by decide); have a4 := h1 4 (by decide); have a5 := h1 5 (by decide); have a6 := h1 6 (by decide); have a7 := h1 7 (by decide)
  unfold hSum at h2
  unfold wm
  rw [l_div h9 (by rw [e20]; decide), e20]
  simp only [Nat.reduceAdd] at a0 a2 a3 a4 a5 a6 a7
  omega
def lkV (T : Nat → Int) (X : rRow) (W : Nat → Int64) : Nat → Int64 := if (lwW T W : Int) < X.2.1 then stW (stW W 26 (Int64.ofInt (((W 23).toInt + 4) % 8))) 27 (Int64.ofInt (((W 23).toInt + 4) % 8)) else W
def lkFi (X : rRow) (W : Nat → Int64) : Int := if wm W < X.2.2.1.1 then (if 9 < (W 22).toInt + X.2.2.1.2 then 9 else (W 22).toInt + X.2.2.1.2) else if X.2.2.2.1 ≠ -1 ∧ X.2.2.2.1 < wm W then (if (W 22).toInt < X.2.2.2.2 then 0 else (W 22).toInt - X.2.2.2.2) else (W 22).toInt
def lkW (T : Nat → Int) (X : rRow) (W : Nat → Int64) : Nat → Int64 := stW (lkV T X W) 22 (Int64.ofInt (lkFi X W))
def lkN (T : Nat → Int) (X : rRow) (W : Nat → Int64) : Int32 := if (lwW T W : Int) < X.2.1 then 1 else 0
theorem lkV_n {T : Nat → Int} {X : rRow} {W : Nat → Int64} {i : Nat} (h : i ≠ 26 ∧ i ≠ 27) : lkV T X W i = W i := by
  unfold lkV; split
  · rw [stW_n h.2, stW_n h.1]
  · rfl
theorem lkFi_b {m : Int} {X : rRow} {W : Nat → Int64} (h : okM m W) (hX : rrOK X) : 0 ≤ lkFi X W ∧ lkFi X W ≤ 9 := by
  have h22 := h.2.2.2.1
  obtain ⟨_, _, x1, x2⟩ := hX
  unfold opOK at x1 x2
  unfold lkFi
  repeat' split <;> omega
theorem lkW_ok {m : Int} {T : Nat → Int} {X : rRow} {W : Nat → Int64} (h : okM m W) (hX : rrOK X) : okM m (lkW T X W) := by
  have b := lkFi_b h hX
  have h23 := h.2.2.2.2.1
  have e : (Int64.ofInt (((W 23).toInt + 4) % 8)).toInt = ((W 23).toInt + 4) % 8 := o_i (by omega)
  have hV : okM m (lkV T X W) := by
    unfold lkV; split
    · exact okM_set (okM_set h (by decide) (by omega) (by omega) (by omega) (by omega) (fun _ => by rw [e]; omega) (by omega) (by omega)) (by decide) (by omega) (by omega) (by omega) (by omega) (by omega) (fun _ => by rw [e]; omega) (by omega)
    · exact h
  exact okM_set hV (by decide) (fun _ => by rw [o_i (by omega)]; exact b) (by omega) (by omega) (by omega) (by omega) (by omega) (by omega)
/-- the seed behind a draw -/
def sdN (y : Int) : Int := (y * 1103515245 + 12345) % 2147483648
theorem sdN_b (y : Int) : 0 ≤ sdN y ∧ sdN y < 2147483648 := by unfold sdN; omega
def gsW (r : nRow) (g : Int) (W : Nat → Int64) : Nat → Int64 :=
  stW (stW (stW W 28 (Int64.ofInt (sdN (sdN (W 28).toInt)))) 24 (Int64.ofInt (if 9 < r.2.1 + sdN (W 28).toInt / 65536 % (g + 1) then 9 else r.2.1 + sdN (W 28).toInt / 65536 % (g + 1)))) 23 (Int64.ofInt ((r.1 + sdN (sdN (W 28).toInt) / 65536 % 3 + 7) % 8))
theorem gsW_ok {m : Int} {r : nRow} {g : Int} {W : Nat → Int64} (h : okM m W) (hr : 0 ≤ r.2.1) (hg : 0 < g) : okM m (gsW r g W) := by
  have b := sdN_b (sdN (W 28).toInt)
  have c1 := Int.emod_nonneg (sdN (W 28).toInt / 65536) (show g + 1 ≠ 0 by omega)
  unfold gsW
  generalize sdN (W 28).toInt / 65536 % (g + 1) = x1 at *
  have b2 : 0 ≤ (r.1 + sdN (sdN (W 28).toInt) / 65536 % 3 + 7) % 8 ∧ (r.1 + sdN (sdN (W 28).toInt) / 65536 % 3 + 7) % 8 ≤ 7 := by omega
  generalize (r.1 + sdN (sdN (W 28).toInt) / 65536 % 3 + 7) % 8 = x2 at *
  refine okM_set (okM_set (okM_set h (by decide) (by omega) (by omega) (by omega) (by omega) (by omega) (by omega) (fun _ => by rw [o_i (by omega)]; exact b)) (by decide) (by omega) (by omega) (fun _ => ?_) (by omega) (by omega) (by omega) (by omega)) (by decide) (by omega) (fun _ => by rw [o_i (by omega)]; exact b2) (by omega) (by omega) (by omega) (by omega) (by omega)
  split
  · exact ⟨by decide, by decide⟩
  · rw [o_i (by omega)]; omega
def rwW (r : nRow) (W : Nat → Int64) : Nat → Int64 := stW (stW (stW W 23 (Int64.ofInt r.1)) 24 (Int64.ofInt r.2.1)) 25 (Int64.ofInt r.2.2.2)
def nr1 (r : nRow) : Prop := (0 ≤ r.1 ∧ r.1 ≤ 7) ∧ (0 ≤ r.2.1 ∧ r.2.1 ≤ 9) ∧ (1 ≤ r.2.2.1 ∧ r.2.2.1 ≤ 99) ∧ (r.2.2.2 = 0 ∨ r.2.2.2 = 1)
theorem rwW_ok {m : Int} {r : nRow} {W : Nat → Int64} (h : okM m W) (hr : nr1 r) : okM m (rwW r W) := by
  obtain ⟨r1, r2, r3, r4⟩ := hr
  exact okM_set (okM_set (okM_set h (by decide) (by omega) (fun _ => by rw [o_i (by omega)]; exact r1) (by omega) (by omega) (by omega) (by omega) (by omega)) (by decide) (by omega) (by omega) (fun _ => by rw [o_i (by omega)]; exact r2) (by omega) (by omega) (by omega) (by omega)) (by decide) (by omega) (by omega) (by omega) (fun _ => by rw [o_i (by omega)]; exact r4) (by omega) (by omega) (by omega)
/-- the air and what is told of the NIGHT -/
abbrev lS : Type := (Nat → Int64) × (Nat → Int32)
def lvK (T : Nat → Int) (X : rRow) (m : Int) (S : lS) : lS := if m % X.1 = 0 then (lkW T X S.1, fun i => if i = 0 then S.2 0 + lkN T X S.1 else S.2 i) else S
def lvG (r : nRow) (g : Int) (S : lS) : lS := if 0 < g then (gsW r g S.1, S.2) else S
def lvD (T : Nat → Int) (S : lS) : lS := (mnW T S.1, fun i => if i = 1 then S.2 1 + (if lwW T (mnW T S.1) < 3 then 1 else 0) else if i = 2 then S.2 2 + (if wm (mnW T S.1) < 100 then 1 else 0) else if i = 3 then S.2 3 + (S.1 22).toInt32 else S.2 i)
def lvM (T : Nat → Int) (X : rRow) (r : nRow) (g m : Int) (S : lS) : lS := lvD T (lvG r g (lvK T X m S))
def lvR (T : Nat → Int) (X : rRow) (r : nRow) (g m : Int) (S : lS) : Nat → lS
  | 0 => S
  | j + 1 => lvM T X r g (m + j) (lvR T X r g m S j)
def lvT (L : List nRow) : Nat → Int
  | 0 => 0
  | k + 1 => lvT L k + (L.getD k (0, 0, 0, 0)).2.2.1
def lvB (r : nRow) (S : lS) : lS := (rwW r S.1, S.2)
def lvN (T : Nat → Int) (X : rRow) (L : List nRow) (g : Int) (S : lS) : Nat → lS
  | 0 => S
  | k + 1 => lvR T X (L.getD k (0, 0, 0, 0)) g (lvT L k) (lvB (L.getD k (0, 0, 0, 0)) (lvN T X L g S k)) (L.getD k (0, 0, 0, 0)).2.2.1.toNat
theorem nr_get {L : List nRow} (h : nrOK L) {k : Nat} (hk : k < L.length) : nr1 (L.getD k (0, 0, 0, 0)) := by
  have e : L.getD k (0, 0, 0, 0) = L[k] := by simp [List.getD, hk]
  rw [e]; exact h.2 _ (List.getElem_mem hk)
theorem lvT_b {L : List nRow} (h : nrOK L) : ∀ k, k ≤ L.length → 0 ≤ lvT L k ∧ lvT L k ≤ 99 * k := by
  intro k
  induction k with
  | zero => intro _; exact ⟨Int.le_refl _, Int.le_refl _⟩
  | succ k ih =>
    intro hk
    have := ih (by omega)
    obtain ⟨_, _, h3, _⟩ := nr_get h (show k < L.length by omega)
    show 0 ≤ lvT L k + (L.getD k (0, 0, 0, 0)).2.2.1 ∧ lvT L k + (L.getD k (0, 0, 0, 0)).2.2.1 ≤ 99 * ((k + 1 : Nat) : Int)
    omega
theorem lvK_ok {b m : Int} {T : Nat → Int} {X : rRow} {S : lS} (h : okM b S.1) (hX : rrOK X) : okM b (lvK T X m S).1 := by
  unfold lvK; split
  · exact lkW_ok h hX
  · exact h
theorem lvG_ok {b : Int} {r : nRow} {g : Int} {S : lS} (h : okM b S.1) (hr : nr1 r) : okM b (lvG r g S).1 := by
  unfold lvG; split
  · exact gsW_ok h hr.2.1.1 (by assumption)
  · exact h
theorem lvM_ok {b m : Int} {T : Nat → Int} {X : rRow} {r : nRow} {g : Int} {S : lS} (h : okM b S.1) (ok : okT T) (hX : rrOK X) (hr : nr1 r) (hb : b ≤ 100000000) : okM (b + 1) (lvM T X r g m S).1 := okM_mn (lvG_ok (lvK_ok h hX) hr) ok hb
theorem lvR_ok {b m : Int} {T : Nat → Int} {X : rRow} {r : nRow} {g : Int} {S : lS} (h : okM b S.1) (ok : okT T) (hX : rrOK X) (hr : nr1 r) : ∀ j : Nat, b + j ≤ 100000000 → okM (b + j) (lvR T X r g m S j).1 := by
  intro j
  induction j with
  | zero => intro _; rw [show b + ((0 : Nat) : Int) = b by omega]; exact h
  | succ j ih =>
    intro hj
    have := lvM_ok (m := m + j) (g := g) (ih (by omega)) ok hX hr (by omega)
    rw [show b + ((j + 1 : Nat) : Int) = b + j + 1 by omega]; exact this
theorem lvN_ok {b : Int} {T : Nat → Int} {X : rRow} {L : List nRow} {g : Int} {S : lS} (h : okM b S.1) (ok : okT T) (hX : rrOK X) (hL : nrOK L) (hb : b ≤ 10000000) : ∀ k : Nat, k ≤ L.length → okM (b + lvT L k) (lvN T X L g S k).1 := by
  intro k
  induction k with
  | zero => intro _; rw [show b + lvT L 0 = b by show b + 0 = b; omega]; exact h
  | succ k ih =>
    intro hk
    have hr := nr_get hL (show k < L.length by omega)
    have hk2 := lvT_b hL (k + 1) hk
    have l12 := hL.1
    have e : lvT L (k + 1) = lvT L k + (L.getD k (0, 0, 0, 0)).2.2.1 := rfl
    have hl : (((L.getD k (0, 0, 0, 0)).2.2.1.toNat : Nat) : Int) = (L.getD k (0, 0, 0, 0)).2.2.1 := by have := hr.2.2.1; omega
    have := lvR_ok (m := lvT L k) (g := g) (S := lvB (L.getD k (0, 0, 0, 0)) (lvN T X L g S k)) (rwW_ok (ih (by omega)) hr) ok hX hr (L.getD k (0, 0, 0, 0)).2.2.1.toNat (by rw [hl]; omega)
    rw [hl] at this
    rw [e, ← Int.add_assoc]
    exact this
