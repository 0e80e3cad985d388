/-! TEXTS: the tent's, what is read; the class reads so -/
def bnd {α β : Type} (r : Except (Nat × Nat) α) (f : α → Except (Nat × Nat) β) : Except (Nat × Nat) β := match r with
  | .error e => .error e
  | .ok a => f a
theorem xs_xs {P : Int → Bool} {B : Nat → Int} {N p : Nat} : xs P B N (xs P B N p) = xs P B N p := xs_stop xs_end
theorem pNum_xs {B : Nat → Int} {N : Nat} {lo hi : Int} {p : Nat} : pNum B N lo hi (xs cBl B N p) = pNum B N lo hi p := by
  unfold pNum; rw [xs_xs]
theorem pNum_in {B : Nat → Int} {N : Nat} {lo hi : Int} {p : Nat} (hp : p ≤ N) : (∀ z q, pNum B N lo hi p = .ok (z, q) → lo ≤ z ∧ z ≤ hi ∧ p < q ∧ q ≤ N ∧ q = xs cF B N (xs cBl B N p)) ∧ (∀ e w, pNum B N lo hi p = .error (e, w) → (e = 1 ∨ e = 2) ∧ w ≤ N) := by
  have h1 := xs_le (P := cBl) (B := B) hp
  have h2 := xs_ge (P := cBl) (B := B) (N := N) (p := p)
  have h3 := xs_le (P := cF) (B := B) h1
  have h4 := xs_ge (P := cF) (B := B) (N := N) (p := xs cBl B N p)
  unfold pNum
  refine ⟨fun z q h => ?_, fun e w h => ?_⟩
  · by_cases c1 : xs cF B N (xs cBl B N p) = xs cBl B N p
    · rw [if_pos c1] at h; cases h
    · rw [if_neg c1] at h
      by_cases c2 : 3 < xs cF B N (xs cBl B N p) - xs cBl B N p ∨ dv B (xs cBl B N p) (xs cF B N (xs cBl B N p) - xs cBl B N p) < lo ∨ hi < dv B (xs cBl B N p) (xs cF B N (xs cBl B N p) - xs cBl B N p)
      · rw [if_pos c2] at h; cases h
      · rw [if_neg c2] at h
        injection h with h; injection h with h5 h6
        exact ⟨by omega, by omega, by omega, by omega, h6.symm⟩
  · by_cases c1 : xs cF B N (xs cBl B N p) = xs cBl B N p
    · rw [if_pos c1] at h
      injection h with h; injection h with h5 h6
      exact ⟨Or.inl h5.symm, by omega⟩
    · rw [if_neg c1] at h
      by_cases c2 : 3 < xs cF B N (xs cBl B N p) - xs cBl B N p ∨ dv B (xs cBl B N p) (xs cF B N (xs cBl B N p) - xs cBl B N p) < lo ∨ hi < dv B (xs cBl B N p) (xs cF B N (xs cBl B N p) - xs cBl B N p)
      · rw [if_pos c2] at h
        injection h with h; injection h with h5 h6
        exact ⟨Or.inr h5.symm, by omega⟩
      · rw [if_neg c2] at h; cases h
theorem pSign_in {B : Nat → Int} {N : Nat} {c : Int} {p : Nat} (hp : p ≤ N) (hc : 0 ≤ c) : (∀ q, pSign B N c p = .ok q → p < q ∧ q ≤ N) ∧ (∀ e w, pSign B N c p = .error (e, w) → e = 1 ∧ w ≤ N) := by
  have h1 := xs_le (P := cBl) (B := B) hp
  have h2 := xs_ge (P := cBl) (B := B) (N := N) (p := p)
  unfold pSign
  refine ⟨fun q h => ?_, fun e w h => ?_⟩
  · by_cases c1 : bat B N (xs cBl B N p) = c
    · rw [if_pos c1] at h
      injection h with h
      by_cases hb : xs cBl B N p < N
      · omega
      · unfold bat at c1; rw [if_neg hb] at c1; omega
    · rw [if_neg c1] at h; cases h
  · by_cases c1 : bat B N (xs cBl B N p) = c
    · rw [if_pos c1] at h; cases h
    · rw [if_neg c1] at h
      injection h with h; injection h with h5 h6
      exact ⟨h5.symm, by omega⟩
/-- how far the class's text is: s but for at, fault, place -/
def cE (s : hS) (N : Nat) (r : Except (Nat × Nat) Nat) (s' : hS) : Prop := match r with
  | .ok p => p ≤ N ∧ s' = tS s (nI p) 0 (-1)
  | .error (e, w) => 1 ≤ e ∧ e ≤ 4 ∧ w ≤ N ∧ ∃ a, a ≤ N ∧ s' = tS s (nI a) (nI e) (nI w)
section
variable {d : Nat} {v : hV} {s s1 : hS} {B : Nat → Int} {N : Nat} {r : Except (Nat × Nat) Nat}
theorem ce_number (h : tX s B N) (hc : cE s N r s1) {lo hi : Int32} {K : Int32 → hS → Prop} (hK : ∀ x s2, cE s N (bnd r fun p => bnd (pNum B N lo.toInt hi.toInt p) fun y => .ok y.2) s2 → (∀ p z q, r = .ok p → pNum B N lo.toInt hi.toInt p = .ok (z, q) → x.toInt = z) → K x s2) : pcI (d + 2) 40 [.ref 49, .int lo, .int hi] v s1 K := by
  match r, hc, hK with
  | .ok p, hc, hK =>
    obtain ⟨hp, rfl⟩ := hc
    refine sp_number h hp (fun x hx => hK x _ ?_ (fun p2 z q e1 e2 => by injection e1 with e1; subst e1; exact hx z q e2))
    obtain ⟨h1, h2⟩ := pNum_in (B := B) (lo := lo.toInt) (hi := hi.toInt) hp
    cases e : pNum B N lo.toInt hi.toInt p with
    | ok y =>
      obtain ⟨z, q⟩ := y
      obtain ⟨a1, a2, a3, a4, a5⟩ := h1 z q e
      show cE s N (bnd (pNum B N lo.toInt hi.toInt p) _) _
      rw [e, ← a5]
      exact ⟨a4, rfl⟩
    | error y =>
      obtain ⟨f, w⟩ := y
      obtain ⟨a1, a2⟩ := h2 f w e
      show cE s N (bnd (pNum B N lo.toInt hi.toInt p) _) _
      rw [e]
      have hq := xs_le (P := cF) (B := B) (xs_le (P := cBl) (B := B) hp)
      exact ⟨by omega, by omega, a2, _, hq, rfl⟩
  | .error (f, w), hc, hK =>
    obtain ⟨h1, h2, h3, a, ha, rfl⟩ := hc
    refine sp_number h ha (fun x _ => hK x _ ?_ (fun p2 z q e1 _ => by cases e1))
    have hq := xs_le (P := cF) (B := B) (xs_le (P := cBl) (B := B) ha)
    have hf : ¬ (nI f).toInt = 0 := by rw [nI_toInt (by omega)]; omega
    refine ⟨h1, h2, h3, xs cF B N (xs cBl B N a), hq, ?_⟩
    cases pNum B N lo.toInt hi.toInt a with
    | ok y => rfl
    | error y => exact if_neg hf
theorem ce_sign (h : tX s B N) (hc : cE s N r s1) {x : Int32} (hx : 0 ≤ x.toInt) {K : hS → Prop} (hK : ∀ s2, cE s N (bnd r fun p => pSign B N x.toInt p) s2 → K s2) : pcV (d + 1) 43 [.ref 49, .int x] v s1 K := by
  match r, hc, hK with
  | .ok p, hc, hK =>
    obtain ⟨hp, rfl⟩ := hc
    refine sp_needSign h hp (hK _ ?_)
    obtain ⟨h1, h2⟩ := pSign_in (B := B) (c := x.toInt) hp hx
    show cE s N (pSign B N x.toInt p) _
    cases e : pSign B N x.toInt p with
    | ok q => exact ⟨(h1 q e).2, rfl⟩
    | error y =>
      obtain ⟨f, w⟩ := y
      obtain ⟨a1, a2⟩ := h2 f w e
      exact ⟨by omega, by omega, a2, w, a2, if_pos rfl⟩
  | .error (f, w), hc, hK =>
    obtain ⟨h1, h2, h3, a, ha, rfl⟩ := hc
    have hf : ¬ (nI f).toInt = 0 := by rw [nI_toInt (by omega)]; omega
    obtain ⟨h4, h5⟩ := pSign_in (B := B) (c := x.toInt) ha hx
    refine sp_needSign h ha (hK _ ?_)
    cases e : pSign B N x.toInt a with
    | ok q => exact ⟨h1, h2, h3, q, (h4 q e).2, rfl⟩
    | error y =>
      obtain ⟨f2, w2⟩ := y
      exact ⟨h1, h2, h3, w2, (h5 f2 w2 e).2, if_neg hf⟩
theorem ce_takes (h : tX s B N) (hc : cE s N r s1) {j : Nat} (hj : j < 16) {K : Int32 → hS → Prop} (h1 : ∀ x s2, (x = 0 ∨ x = 1) → (∀ p, r = .ok p → x = if mtb B N (xs cBl B N p) j = true then 1 else 0) → cE s N (bnd r fun p => .ok (if mtb B N (xs cBl B N p) j = true then xs cBl B N p + wn j else xs cBl B N p)) s2 → K x s2) : pcI (d + 4) 24 [.ref 49, .ref (8 + j)] v s1 K := by
  match r, hc, h1 with
  | .ok p, hc, h1 =>
    obtain ⟨hp, rfl⟩ := hc
    refine sp_takes h hj hp (h1 _ _ (by by_cases hm : mtb B N (xs cBl B N p) j = true <;> simp [hm]) (fun p2 e => by injection e with e; subst e; rfl) ?_)
    have hx := xs_le (P := cBl) (B := B) hp
    by_cases hm : mtb B N (xs cBl B N p) j = true
    · rw [if_pos hm]
      show cE s N (.ok (if mtb B N (xs cBl B N p) j = true then xs cBl B N p + wn j else xs cBl B N p)) _
      rw [if_pos hm]
      exact ⟨(mtb_iff.mp hm).1, rfl⟩
    · rw [if_neg hm]
      show cE s N (.ok (if mtb B N (xs cBl B N p) j = true then xs cBl B N p + wn j else xs cBl B N p)) _
      rw [if_neg hm]
      exact ⟨hx, rfl⟩
  | .error (f, w), hc, h1 =>
    obtain ⟨h2, h3, h4, a, ha, rfl⟩ := hc
    have hx := xs_le (P := cBl) (B := B) ha
    refine sp_takes h hj ha (h1 _ _ (by by_cases hm : mtb B N (xs cBl B N a) j = true <;> simp [hm]) (fun p2 e => by cases e) ?_)
    by_cases hm : mtb B N (xs cBl B N a) j = true
    · rw [if_pos hm]; exact ⟨h2, h3, h4, _, (mtb_iff.mp hm).1, rfl⟩
    · rw [if_neg hm]; exact ⟨h2, h3, h4, _, hx, rfl⟩
theorem ce_blame (hc : cE s N r s1) {e w : Nat} (he : 1 ≤ e ∧ e ≤ 4) (hw : w ≤ N) {K : hS → Prop} (hK : ∀ s2, cE s N (bnd r fun _ => .error (e, w)) s2 → K s2) : pcV d 38 [.ref 49, .int (nI e), .int (nI w)] v s1 K := by
  match r, hc, hK with
  | .ok p, hc, hK =>
    obtain ⟨hp, rfl⟩ := hc
    exact sp_blame (hK _ ⟨he.1, he.2, hw, p, hp, if_pos rfl⟩)
  | .error (f, w2), hc, hK =>
    obtain ⟨h2, h3, h4, a, ha, rfl⟩ := hc
    have hf : ¬ (nI f).toInt = 0 := by rw [nI_toInt (by omega)]; omega
    exact sp_blame (hK _ ⟨h2, h3, h4, a, ha, if_neg hf⟩)
theorem ce_pass (h : tX s B N) (hc : cE s N r s1) {K : hS → Prop} (hK : ∀ s2, cE s N (bnd r fun p => .ok (xs cBl B N p)) s2 → K s2) : pcV d 20 [.ref 49] v s1 K := by
  match r, hc, hK with
  | .ok p, hc, hK =>
    obtain ⟨hp, rfl⟩ := hc
    exact sp_passBlanks h hp (hK _ ⟨xs_le hp, rfl⟩)
  | .error (f, w2), hc, hK =>
    obtain ⟨h2, h3, h4, a, ha, rfl⟩ := hc
    exact sp_passBlanks h ha (hK _ ⟨h2, h3, h4, _, xs_le ha, rfl⟩)
theorem ce_goesOn (h : tX s B N) (hc : cE s N r s1) {K : Int32 → hS → Prop} (h1 : ∀ p s2, r = .ok p → xs cBl B N p < N → cE s N (.ok (xs cBl B N p)) s2 → K 1 s2) (h0 : ∀ s2, (∀ p, r = .ok p → ¬ xs cBl B N p < N) → cE s N (bnd r fun p => .ok (xs cBl B N p)) s2 → K 0 s2) : pcI (d + 1) 19 [.ref 49] v s1 K := by
  match r, hc, h1, h0 with
  | .ok p, hc, h1, h0 =>
    obtain ⟨hp, rfl⟩ := hc
    exact sp_goesOn h hp (fun c => h1 p _ rfl c.2 ⟨xs_le hp, rfl⟩) (fun c => h0 _ (fun p2 e z => by injection e with e; subst e; exact c ⟨rfl, z⟩) ⟨xs_le hp, rfl⟩)
  | .error (f, w2), hc, h1, h0 =>
    obtain ⟨h2, h3, h4, a, ha, rfl⟩ := hc
    have hf : ¬ (nI f).toInt = 0 := by rw [nI_toInt (by omega)]; omega
    exact sp_goesOn h ha (fun c => absurd c.1 hf) (fun _ => h0 _ (fun p e => by cases e) ⟨h2, h3, h4, _, xs_le ha, rfl⟩)
theorem tS_sI {c k : Nat} {x a f p : Int32} (hc : c ≠ 49) : sI (tS s a f p) c k x = tS (sI s c k x) a f p := by
  refine hS_ext (fun c' k' => ?_) (fun c' k' => rfl)
  rw [r_II, tS_r, tS_r, r_II]
  by_cases h : c' = c ∧ k' = k
  · obtain ⟨rfl, rfl⟩ := h
    rw [if_pos ⟨rfl, rfl⟩, if_neg (fun z => hc z.1), if_neg (fun z => hc z.1), if_neg (fun z => hc z.1), if_pos ⟨rfl, rfl⟩]
  · rw [if_neg h, if_neg h]
theorem tS_sL {c k : Nat} {x : Int64} {a f p : Int32} : sL (tS s a f p) c k x = tS (sL s c k x) a f p := rfl
theorem ce_sI (hc : cE s N r s1) {c k : Nat} {x : Int32} (h : c ≠ 49) : cE (sI s c k x) N r (sI s1 c k x) := by
  match r, hc with
  | .ok p, hc =>
    obtain ⟨hp, rfl⟩ := hc
    exact ⟨hp, tS_sI h⟩
  | .error (f, w2), hc =>
    obtain ⟨h2, h3, h4, a, ha, rfl⟩ := hc
    exact ⟨h2, h3, h4, a, ha, tS_sI h⟩
theorem ce_sL (hc : cE s N r s1) {c k : Nat} {x : Int64} : cE (sL s c k x) N r (sL s1 c k x) := by
  match r, hc with
  | .ok p, hc =>
    obtain ⟨hp, rfl⟩ := hc
    exact ⟨hp, tS_sL⟩
  | .error (f, w2), hc =>
    obtain ⟨h2, h3, h4, a, ha, rfl⟩ := hc
    exact ⟨h2, h3, h4, a, ha, tS_sL⟩
theorem tX_sI (h : tX s B N) {c k : Nat} {x : Int32} (h1 : 51 ≤ c) : tX (sI s c k x) B N := by
  obtain ⟨a1, a2, a3, a4⟩ := h
  refine ⟨fun c' c1 c2 k' => ?_, ?_, a3, fun i hi => ?_⟩
  · rw [r_II, if_neg (by omega)]; exact a1 c' c1 c2 k'
  · rw [r_II, if_neg (by omega)]; exact a2
  · rw [r_II, if_neg (by omega)]; exact a4 i hi
theorem tX_sL (h : tX s B N) {c k : Nat} {x : Int64} : tX (sL s c k x) B N := h
theorem ce_r (hc : cE s N r s1) {c k : Nat} (h : c ≠ 49) : rI s1 c k = rI s c k := by
  match r, hc with
  | .ok p, hc =>
    obtain ⟨hp, rfl⟩ := hc
    rw [tS_r, if_neg (fun z => h z.1), if_neg (fun z => h z.1), if_neg (fun z => h z.1)]
  | .error (f, w2), hc =>
    obtain ⟨h2, h3, h4, a, ha, rfl⟩ := hc
    rw [tS_r, if_neg (fun z => h z.1), if_neg (fun z => h z.1), if_neg (fun z => h z.1)]
theorem ce_fault (hc : cE s N r s1) : (rI s1 49 3).toInt = 0 ↔ ∃ p, r = .ok p := by
  match r, hc with
  | .ok p, hc =>
    obtain ⟨hp, rfl⟩ := hc
    rw [tS_r]; exact ⟨fun _ => ⟨p, rfl⟩, fun _ => rfl⟩
  | .error (f, w2), hc =>
    obtain ⟨h2, h3, h4, a, ha, rfl⟩ := hc
    have e : rI (tS s (nI a) (nI f) (nI w2)) 49 3 = nI f := by rw [tS_r]; rfl
    rw [e, nI_toInt (by omega)]
    exact ⟨fun z => by omega, fun ⟨p, e⟩ => by cases e⟩
end
