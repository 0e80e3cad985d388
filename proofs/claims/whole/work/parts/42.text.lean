/-! TEXTS: pure reading -/
def xs_f (P : Int → Bool) (B : Nat → Int) (N : Nat) : Nat → Nat → Nat
  | 0, p => p
  | f + 1, p => if p < N ∧ P (B p) = true then xs_f P B N f (p + 1) else p
/-- from p on, past all that P holds of -/
def xs (P : Int → Bool) (B : Nat → Int) (N p : Nat) : Nat := xs_f P B N (N - p) p
theorem xs_step {P : Int → Bool} {B : Nat → Int} {N p : Nat} (h : p < N ∧ P (B p) = true) : xs P B N p = xs P B N (p + 1) := by
  unfold xs
  have e : N - p = (N - (p + 1)) + 1 := by omega
  rw [e]
  show (if p < N ∧ P (B p) = true then _ else _) = _
  rw [if_pos h]
theorem xs_stop {P : Int → Bool} {B : Nat → Int} {N p : Nat} (h : ¬ (p < N ∧ P (B p) = true)) : xs P B N p = p := by
  unfold xs
  cases e : N - p with
  | zero => rfl
  | succ n =>
    show (if p < N ∧ P (B p) = true then _ else _) = _
    rw [if_neg h]
theorem xs_all {P : Int → Bool} {B : Nat → Int} {N : Nat} : ∀ m p, N - p ≤ m → p ≤ xs P B N p ∧ (p ≤ N → xs P B N p ≤ N) ∧ (∀ i, p ≤ i → i < xs P B N p → i < N ∧ P (B i) = true) ∧ ¬ (xs P B N p < N ∧ P (B (xs P B N p)) = true) := by
  intro m
  induction m with
  | zero =>
    intro p hp
    have h : ¬ (p < N ∧ P (B p) = true) := fun z => by omega
    rw [xs_stop h]
    exact ⟨Nat.le_refl _, id, fun i h1 h2 => by omega, h⟩
  | succ m ih =>
    intro p hp
    by_cases h : p < N ∧ P (B p) = true
    · rw [xs_step h]
      obtain ⟨h1, h2, h3, h4⟩ := ih (p + 1) (by omega)
      refine ⟨by omega, fun _ => h2 (by omega), fun i h5 h6 => ?_, h4⟩
      by_cases hi : i = p
      · rw [hi]; exact h
      · exact h3 i (by omega) h6
    · rw [xs_stop h]
      exact ⟨Nat.le_refl _, id, fun i h1 h2 => by omega, h⟩
theorem xs_ge {P : Int → Bool} {B : Nat → Int} {N p : Nat} : p ≤ xs P B N p := (xs_all _ p (Nat.le_refl _)).1
theorem xs_le {P : Int → Bool} {B : Nat → Int} {N p : Nat} (h : p ≤ N) : xs P B N p ≤ N := (xs_all _ p (Nat.le_refl _)).2.1 h
theorem xs_in {P : Int → Bool} {B : Nat → Int} {N p i : Nat} (h1 : p ≤ i) (h2 : i < xs P B N p) : i < N ∧ P (B i) = true := (xs_all _ p (Nat.le_refl _)).2.2.1 i h1 h2
theorem xs_end {P : Int → Bool} {B : Nat → Int} {N p : Nat} : ¬ (xs P B N p < N ∧ P (B (xs P B N p)) = true) := (xs_all _ p (Nat.le_refl _)).2.2.2
theorem xs_eq {P : Int → Bool} {B : Nat → Int} {N p q : Nat} (h1 : p ≤ q) (h2 : ∀ i, p ≤ i → i < q → i < N ∧ P (B i) = true) (h3 : ¬ (q < N ∧ P (B q) = true)) : xs P B N p = q := by
  have a1 := xs_ge (P := P) (B := B) (N := N) (p := p)
  have a3 := xs_end (P := P) (B := B) (N := N) (p := p)
  rcases Nat.lt_trichotomy (xs P B N p) q with h | h | h
  · exact absurd (h2 _ a1 h) a3
  · exact h
  · exact absurd (xs_in h1 h) h3
def cBl (c : Int) : Bool := decide (c = 32)
def cL (c : Int) : Bool := decide (97 ≤ c ∧ c ≤ 122)
def cF (c : Int) : Bool := decide (48 ≤ c ∧ c ≤ 57)
/-- a byte, -1 behind the end -/
def bat (B : Nat → Int) (N i : Nat) : Int := if i < N then B i else -1
/-- the number that k figures spell -/
def dv (B : Nat → Int) (p : Nat) : Nat → Int
  | 0 => 0
  | k + 1 => dv B p k * 10 + (B (p + k) - 48)
/-- the words: their letters -/
def wd (j : Nat) : List Int32 := pd_sb j
def wn (j : Nat) : Nat := (wd j).length
def wc (j i : Nat) : Int := ((wd j).getD i 0).toInt
theorem wn_in : ∀ j, j < 16 → 3 ≤ wn j ∧ wn j ≤ 5 := by decide +kernel
theorem wc_in : ∀ j, j < 16 → ∀ i, i < wn j → 97 ≤ wc j i ∧ wc j i ≤ 122 := by decide +kernel
theorem wc_id : ∀ j, j < 16 → ∀ i, i < wn j → ((((wd j).getD i 0) &&& 255).toUInt32 % 65536).toInt32 = (wd j).getD i 0 := by decide +kernel
/-- word j stands at p -/
def mtb (B : Nat → Int) (N p j : Nat) : Bool := decide (p + wn j ≤ N) && (!(cL (bat B N (p + wn j))) && (List.range (wn j)).all (fun i => decide (B (p + i) = wc j i)))
theorem mtb_iff {B : Nat → Int} {N p j : Nat} : mtb B N p j = true ↔ p + wn j ≤ N ∧ cL (bat B N (p + wn j)) = false ∧ ∀ i, i < wn j → B (p + i) = wc j i := by
  unfold mtb
  rw [Bool.and_eq_true, Bool.and_eq_true, decide_eq_true_iff, List.all_eq_true, Bool.not_eq_true']
  constructor
  · rintro ⟨h1, h2, h3⟩
    exact ⟨h1, h2, fun i hi => of_decide_eq_true (h3 i (List.mem_range.mpr hi))⟩
  · rintro ⟨h1, h2, h3⟩
    exact ⟨h1, h2, fun i hi => decide_eq_true (h3 i (List.mem_range.mp hi))⟩
/-- then the letters from p on are just the word -/
theorem mtb_len {B : Nat → Int} {N p j : Nat} (hj : j < 16) (h : mtb B N p j = true) : xs cL B N p = p + wn j := by
  obtain ⟨h1, h2, h3⟩ := mtb_iff.mp h
  refine xs_eq (by omega) (fun i h4 h5 => ⟨by omega, ?_⟩) (fun z => ?_)
  · have := h3 (i - p) (by omega)
    rw [show p + (i - p) = i by omega] at this
    have w := wc_in j hj (i - p) (by omega)
    unfold cL; rw [this]; exact decide_eq_true w
  · unfold bat at h2
    rw [if_pos z.1] at h2
    rw [z.2] at h2; cases h2
theorem mtb_of {B : Nat → Int} {N p j : Nat} (hl : xs cL B N p = p + wn j) (hp : p ≤ N) (h : ∀ i, i < wn j → B (p + i) = wc j i) : mtb B N p j = true := by
  refine mtb_iff.mpr ⟨hl ▸ xs_le hp, ?_, h⟩
  have := xs_end (P := cL) (B := B) (N := N) (p := p)
  rw [hl] at this
  unfold bat
  by_cases hb : p + wn j < N
  · rw [if_pos hb]
    cases e : cL (B (p + wn j)) with
    | false => rfl
    | true => exact absurd ⟨hb, e⟩ this
  · rw [if_neg hb]; rfl
/-! what is read: a FAULT (its number, its place), or what is told and the place behind it -/
def pSign (B : Nat → Int) (N : Nat) (c : Int) (p : Nat) : Except (Nat × Nat) Nat :=
  if bat B N (xs cBl B N p) = c then .ok (xs cBl B N p + 1) else .error (1, xs cBl B N p)
def pNum (B : Nat → Int) (N : Nat) (lo hi : Int) (p : Nat) : Except (Nat × Nat) (Int × Nat) :=
  if xs cF B N (xs cBl B N p) = xs cBl B N p then .error (1, xs cBl B N p)
  else if 3 < xs cF B N (xs cBl B N p) - xs cBl B N p ∨ dv B (xs cBl B N p) (xs cF B N (xs cBl B N p) - xs cBl B N p) < lo ∨ hi < dv B (xs cBl B N p) (xs cF B N (xs cBl B N p) - xs cBl B N p) then .error (2, xs cBl B N p)
  else .ok (dv B (xs cBl B N p) (xs cF B N (xs cBl B N p) - xs cBl B N p), xs cF B N (xs cBl B N p))
/-! the class's text -/
/-- what is only read holds what it held -/
def pRo (s : hS) : Prop := ∀ c, 1 ≤ c → c < 48 → ∀ k, rI s c k = (pe_ro 0 (fun _ => 0) c).2.1 k
def tX (s : hS) (B : Nat → Int) (N : Nat) : Prop := pRo s ∧ rI s 49 1 = nI N ∧ N ≤ 300 ∧ ∀ i, i < N → (rI s 50 i).toInt = B i ∧ 0 ≤ B i ∧ B i ≤ 255
/-- s with at, fault, place of the text -/
def tS (s : hS) (a f p : Int32) : hS := sI (sI (sI s 49 2 a) 49 3 f) 49 4 p
theorem tS_r (s : hS) (a f p : Int32) (c k : Nat) : rI (tS s a f p) c k = if c = 49 ∧ k = 4 then p else if c = 49 ∧ k = 3 then f else if c = 49 ∧ k = 2 then a else rI s c k := by
  unfold tS; rw [r_II, r_II, r_II]
theorem tS_l (s : hS) (a f p : Int32) (c k : Nat) : rL (tS s a f p) c k = rL s c k := rfl
theorem hS_ext {s s' : hS} (h1 : ∀ c k, rI s c k = rI s' c k) (h2 : ∀ c k, rL s c k = rL s' c k) : s = s' := by
  obtain ⟨a, b⟩ := s
  obtain ⟨a', b'⟩ := s'
  have e1 : a = a' := funext fun c => funext fun k => h1 c k
  have e2 : b = b' := funext fun c => funext fun k => h2 c k
  rw [e1, e2]
theorem tS_at (s : hS) (a f p a' : Int32) : sI (tS s a f p) 49 2 a' = tS s a' f p := by
  refine hS_ext (fun c k => ?_) (fun c k => rfl)
  rw [r_II, tS_r, tS_r]
  by_cases h : c = 49 ∧ k = 2
  · obtain ⟨rfl, rfl⟩ := h; rfl
  · rw [if_neg h, if_neg h, if_neg h]
theorem tS_fp (s : hS) (a f p f' p' : Int32) : sI (sI (tS s a f p) 49 3 f') 49 4 p' = tS s a f' p' := by
  refine hS_ext (fun c k => ?_) (fun c k => rfl)
  rw [r_II, r_II, tS_r, tS_r]
  by_cases h : c = 49 ∧ k = 4
  · rw [if_pos h, if_pos h]
  · rw [if_neg h, if_neg h, if_neg h]
    by_cases h2 : c = 49 ∧ k = 3
    · rw [if_pos h2, if_pos h2]
    · rw [if_neg h2, if_neg h2, if_neg h2]
theorem tX_tS {s : hS} {B : Nat → Int} {N : Nat} (h : tX s B N) (a f p : Int32) : tX (tS s a f p) B N := by
  obtain ⟨h0, h1, h2, h3⟩ := h
  refine ⟨fun c c1 c2 k => ?_, ?_, h2, fun i hi => ?_⟩
  · rw [tS_r, if_neg (by omega), if_neg (by omega), if_neg (by omega)]; exact h0 c c1 c2 k
  · rw [tS_r]; exact h1
  · rw [tS_r]; exact h3 i hi
section
variable {d : Nat} {v : hV} {s : hS} {B : Nat → Int} {N : Nat}
theorem sp_passBlanks (h : tX s B N) {f pl : Int32} {K : hS → Prop} {a : Nat} (ha : a ≤ N) (hK : K (tS s (nI (xs cBl B N a)) f pl)) : pcV d 20 [.ref 49] v (tS s (nI a) f pl) K := by
  refine st_Text_passBlanks ?_
  obtain ⟨h0, h1, h2, h3⟩ := h
  generalize hm : N - a = m
  induction m generalizing a with
  | zero =>
    have hn : ¬ (a < N ∧ cBl (B a) = true) := fun z => by omega
    rw [xs_stop hn] at hK
    refine st_Text_passBlanks_0 ⟨fun c => absurd c ?_, fun _ => hK⟩
    have e1 : rI (tS s (nI a) f pl) 49 2 = nI a := by rw [tS_r]; rfl
    have e2 : rI (tS s (nI a) f pl) 49 1 = nI N := by rw [tS_r]; exact h1
    rw [e1, e2, nI_toInt (by omega), nI_toInt (by omega)]; omega
  | succ m ih =>
    have e1 : rI (tS s (nI a) f pl) 49 2 = nI a := by rw [tS_r]; rfl
    have e2 : rI (tS s (nI a) f pl) 49 1 = nI N := by rw [tS_r]; exact h1
    have e3 : rI (tS s (nI a) f pl) 50 a = rI s 50 a := by rw [tS_r]; rfl
    have e4 : (nI a).toInt.toNat = a := by rw [nI_toInt (by omega)]; exact Int.toNat_natCast a
    refine st_Text_passBlanks_0 ?_
    rw [e1, e2, e4, e3, nI_toInt (by omega), nI_toInt (by omega), (h3 a (by omega)).1, nI_1]
    refine ⟨fun c => ⟨fun c2 => ⟨by omega, fun c3 => ?_, fun c3 => ?_⟩, fun c2 => absurd (show (a : Int) < 300 by omega) c2⟩, fun c => absurd (show (a : Int) < N by omega) c⟩
    · rw [tS_at]
      have hy : a < N ∧ cBl (B a) = true := ⟨by omega, decide_eq_true c3⟩
      rw [xs_step hy] at hK
      exact ih (by omega) hK (by omega)
    · have hn : ¬ (a < N ∧ cBl (B a) = true) := fun z => c3 (of_decide_eq_true z.2)
      rw [xs_stop hn] at hK
      exact hK
theorem sp_byteAt (h : tX s B N) {K : Int32 → hS → Prop} {i : Nat} (hi : i < 2147483648) (hK : ∀ x : Int32, x.toInt = bat B N i → K x s) : pcI d 28 [.ref 49, .int (nI i)] v s K := by
  obtain ⟨h0, h1, h2, h3⟩ := h
  refine st_Text_byteAt ?_
  rw [h1, nI_toInt (by omega), nI_toInt (by omega), Int.toNat_natCast]
  refine ⟨fun c => absurd c (by omega), fun c => ⟨fun c2 => ⟨fun c3 => ⟨by omega, hK _ ?_⟩, fun c3 => absurd (show (i : Int) < 300 by omega) c3⟩, fun c2 => hK _ ?_⟩⟩
  · unfold bat; rw [if_pos (by omega)]; exact (h3 i (by omega)).1
  · unfold bat; rw [if_neg (by omega)]; rfl
theorem sp_isLetterAt (h : tX s B N) {K : Int32 → hS → Prop} {i : Nat} (hi : i < 2147483648) (hK : K (if cL (bat B N i) = true then 1 else 0) s) : pcI (d + 1) 27 [.ref 49, .int (nI i)] v s K := by
  refine st_Text_isLetterAt (sp_byteAt h hi (fun x hx => ?_))
  rw [hx]
  unfold cL at hK
  refine ⟨fun c => ?_, fun c => ⟨fun c2 => ?_, fun c2 => ?_⟩⟩
  · rw [if_neg (fun z => by have := of_decide_eq_true z; omega)] at hK; exact hK
  · rw [if_neg (fun z => by have := of_decide_eq_true z; omega)] at hK; exact hK
  · rw [if_pos (decide_eq_true ⟨by omega, by omega⟩)] at hK; exact hK
theorem sp_isFigureAt (h : tX s B N) {K : Int32 → hS → Prop} {i : Nat} (hi : i < 2147483648) (hK : K (if cF (bat B N i) = true then 1 else 0) s) : pcI (d + 1) 41 [.ref 49, .int (nI i)] v s K := by
  refine st_Text_isFigureAt (sp_byteAt h hi (fun x hx => ?_))
  rw [hx]
  unfold cF at hK
  refine ⟨fun c => ?_, fun c => ⟨fun c2 => ?_, fun c2 => ?_⟩⟩
  · rw [if_neg (fun z => by have := of_decide_eq_true z; omega)] at hK; exact hK
  · rw [if_neg (fun z => by have := of_decide_eq_true z; omega)] at hK; exact hK
  · rw [if_pos (decide_eq_true ⟨by omega, by omega⟩)] at hK; exact hK
theorem sp_blame {a f pl x y : Int32} {K : hS → Prop} (hK : K (if f.toInt = 0 then tS s a x y else tS s a f pl)) : pcV d 38 [.ref 49, .int x, .int y] v (tS s a f pl) K := by
  have e : rI (tS s a f pl) 49 3 = f := by rw [tS_r]; rfl
  refine st_Text_blame ?_
  rw [e, tS_fp]
  exact ⟨fun c => by rw [if_pos c] at hK; exact hK, fun c => by rw [if_neg c] at hK; exact hK⟩
theorem sp_goesOn (h : tX s B N) {f pl : Int32} {K : Int32 → hS → Prop} {a : Nat} (ha : a ≤ N) (h1 : f.toInt = 0 ∧ xs cBl B N a < N → K 1 (tS s (nI (xs cBl B N a)) f pl)) (h0 : ¬ (f.toInt = 0 ∧ xs cBl B N a < N) → K 0 (tS s (nI (xs cBl B N a)) f pl)) : pcI (d + 1) 19 [.ref 49] v (tS s (nI a) f pl) K := by
  refine st_Text_goesOn (sp_passBlanks h ha ?_)
  obtain ⟨-, h2, h3, -⟩ := h
  have hx := xs_le (P := cBl) (B := B) ha
  have e1 : rI (tS s (nI (xs cBl B N a)) f pl) 49 2 = nI (xs cBl B N a) := by rw [tS_r]; rfl
  have e2 : rI (tS s (nI (xs cBl B N a)) f pl) 49 1 = nI N := by rw [tS_r]; exact h2
  have e3 : rI (tS s (nI (xs cBl B N a)) f pl) 49 3 = f := by rw [tS_r]; rfl
  rw [e1, e2, e3, nI_toInt (by omega), nI_toInt (by omega)]
  exact ⟨fun c => ⟨fun c2 => h1 ⟨c, by omega⟩, fun c2 => h0 (fun z => c2 (by omega))⟩, fun c => h0 (fun z => c z.1)⟩
theorem sp_needSign (h : tX s B N) {f pl x : Int32} {K : hS → Prop} {a : Nat} (ha : a ≤ N) (hK : K (match pSign B N x.toInt a with
    | .ok q => tS s (nI q) f pl
    | .error (e, w) => if f.toInt = 0 then tS s (nI w) (nI e) (nI w) else tS s (nI w) f pl)) : pcV (d + 1) 43 [.ref 49, .int x] v (tS s (nI a) f pl) K := by
  refine st_Text_needSign (sp_passBlanks h ha ?_)
  have hx := xs_le (P := cBl) (B := B) ha
  have hN := h.2.2.1
  have e1 : rI (tS s (nI (xs cBl B N a)) f pl) 49 2 = nI (xs cBl B N a) := by rw [tS_r]; rfl
  rw [e1]
  refine sp_byteAt (tX_tS h _ _ _) (by omega) (fun w hw => ?_)
  rw [hw, e1, nI_1, tS_at]
  unfold pSign at hK
  refine ⟨fun c => ?_, fun c => sp_blame ?_⟩
  · rw [if_pos c] at hK; exact hK
  · rw [if_neg c] at hK; exact hK
end
