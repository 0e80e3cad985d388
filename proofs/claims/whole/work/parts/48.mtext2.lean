/-! TEXTS: the reference's numbers; its relation -/
section
variable {d : Nat} {v : hV} {s s1 : hS} {B : Nat → Int} {N : Nat} {r : Except (Nat × Nat) Nat}
theorem sp_inb {x : Int32} {a b : Int64} {K : Int32 → hS → Prop} (hK : K (if a.toInt ≤ x.toInt ∧ x.toInt ≤ b.toInt then 1 else 0) s) : pcI d 154 [.long x.toInt64, .long a, .long b] v s K := by
  refine st_M_in ⟨fun c => ?_, fun c => ⟨fun c2 => ?_, fun c2 => ?_⟩⟩
  · rw [i_64] at c; rw [if_neg (by omega)] at hK; exact hK
  · rw [i_64] at c2; rw [if_neg (by omega)] at hK; exact hK
  · rw [i_64] at c c2; rw [if_pos ⟨by omega, by omega⟩] at hK; exact hK
theorem sm_takeNumber (h : tM s B N) {fi le fa : Int32} {a : Nat} (ha : a ≤ N) {lo hi : Int32} {K : Int32 → hS → Prop} (hok : ∀ z q, pNum B N lo.toInt hi.toInt a = .ok (z, q) → ∀ x : Int32, x.toInt = z → K x (mS s (nI q) (nI (xs cBl B N a)) le 0 fa)) (her : ∀ e w, pNum B N lo.toInt hi.toInt a = .error (e, w) → ∀ x a', K x (mS s a' (nI (xs cBl B N a)) le (nI e) (nI w))) : pcI (d + 2) 164 [.ref 145, .int lo, .int hi] v (mS s (nI a) fi le 0 fa) K := by
  have hx := xs_le (P := cBl) (B := B) ha
  have hN := h.2.1
  have hB : ∀ i, i < N → 0 ≤ B i ∧ B i ≤ 255 := fun i hi => (h.2.2 i hi).2
  have e48 : Int64.toInt 48 = 48 := rfl
  have e57 : Int64.toInt 57 = 57 := rfl
  refine st_M_takeNumber ?_
  rw [m_faultOf]
  refine ⟨fun c => absurd c (by decide), fun _ => sm_here h ha (fun x hx0 => ?_)⟩
  unfold pNum at hok her
  generalize hp : xs cBl B N a = p at *
  have hx2 := xs_le (P := cF) (B := B) hx
  have hg2 := xs_ge (P := cF) (B := B) (N := N) (p := p)
  rw [m_at, mS_first]
  refine sp_inb ?_
  rw [m_at, hx0, e48, e57]
  by_cases hf : 48 ≤ bat B N p ∧ bat B N p ≤ 57
  · have hpN : p < N := by
      by_cases hb : p < N
      · exact hb
      · unfold bat at hf; rw [if_neg hb] at hf; omega
    have hbp : bat B N p = B p := if_pos hpN
    rw [if_pos hf]
    refine sm_want0 (by decide) (fun _ => ⟨fun z => absurd z (by decide), fun _ => ?_⟩) (fun z => absurd z (by decide))
    have hQ1 : p < xs cF B N p := by
      have := xs_step (P := cF) (B := B) (N := N) (p := p) ⟨hpN, by rw [hbp] at hf; exact decide_eq_true hf⟩
      rw [this]
      exact xs_ge
    generalize hQ : xs cF B N p = Q at *
    have hq : ¬ Q = p := by omega
    rw [if_neg hq] at hok her
    -- behind the figures
    have hT : ∀ x4 : Int32, (Q - p ≤ 3 → x4.toInt = dv B p (Q - p)) → (((nI Q) - (nI p)).toInt < 4 → pcI (d + 1) 154 [.long x4.toInt64, .long lo.toInt64, .long hi.toInt64] v (mS s (nI Q) (nI p) le 0 fa) (fun w5 s5 => (w5.toInt = 0 → pcI (d + 1) 163 [.ref 145, .int 0, .int 2, .int (rI s5 145 10)] v s5 (fun w7 s7 => K x4 s7)) ∧ (¬ w5.toInt = 0 → pcI (d + 1) 163 [.ref 145, .int 1, .int 2, .int (rI s5 145 10)] v s5 (fun w8 s8 => K x4 s8)))) ∧ (¬ ((nI Q) - (nI p)).toInt < 4 → pcI (d + 1) 163 [.ref 145, .int 0, .int 2, .int (nI p)] v (mS s (nI Q) (nI p) le 0 fa) (fun w9 s9 => K x4 s9)) := by
      intro x4 hx4
      rw [pk_sub hg2, nI_toInt (by omega)]
      refine ⟨fun c => sp_in (fun c2 => ?_) (fun c2 => ?_), fun c => sm_want0 (by decide) (fun z => absurd rfl z) (fun _ => ?_)⟩
      · rw [i_64, i_64, hx4 (by omega)] at c2
        rw [m_first]
        have hq2 : 3 < Q - p ∨ dv B p (Q - p) < lo.toInt ∨ hi.toInt < dv B p (Q - p) := by omega
        refine sm_want0 (by decide) (fun z => absurd rfl z) (fun _ => her 2 p (by rw [if_pos hq2]) _ _)
      · rw [i_64, i_64, hx4 (by omega)] at c2
        rw [m_first]
        have hq2 : ¬ (3 < Q - p ∨ dv B p (Q - p) < lo.toInt ∨ hi.toInt < dv B p (Q - p)) := by omega
        exact sm_want0 (by decide) (fun _ => hok _ _ (by rw [if_neg hq2]) _ (hx4 (by omega))) (fun z => absurd z (by decide))
      · have hq2 : 3 < Q - p ∨ dv B p (Q - p) < lo.toInt ∨ hi.toInt < dv B p (Q - p) := by omega
        exact her 2 p (by rw [if_pos hq2]) _ _
    have L : ∀ m q : Nat, N - q ≤ m → p ≤ q → q ≤ N → xs cF B N q = Q → (∀ i, p ≤ i → i < q → cF (B i) = true) → ∀ (x4 : Int32) (z3 z5 : Value), (q - p ≤ 3 → x4.toInt = dv B p (q - p)) → (0 ≤ x4.toInt ∧ x4.toInt ≤ 999999) → pgI (d + 2) 164 27 [.ref 145, .int lo, .int hi, z3, .int x4, z5] [] v (mS s (nI q) (nI p) le 0 fa) K := by
      intro m
      induction m with
      | zero =>
        intro q h1 h2 h3 h4 h5 x4 z3 z5 h6 h7
        have hqs : xs cF B N q = q := xs_stop (fun z => by omega)
        have hqQ : q = Q := by rw [← hqs]; exact h4
        subst hqQ
        have e2 : rI (mS s (nI q) (nI p) le 0 fa) 145 8 = nI N := by rw [mS_ne _ _ _ _ _ _ (by decide)]; exact h.1
        refine st_M_takeNumber_27 ?_
        rw [m_at, e2, m_first, nI_toInt (by omega), nI_toInt (by omega)]
        exact ⟨fun c => absurd c (by omega), fun _ => hT x4 h6⟩
      | succ m ih =>
        intro q h1 h2 h3 h4 h5 x4 z3 z5 h6 h7
        have e2 : rI (mS s (nI q) (nI p) le 0 fa) 145 8 = nI N := by rw [mS_ne _ _ _ _ _ _ (by decide)]; exact h.1
        have e3 : rI (mS s (nI q) (nI p) le 0 fa) 153 q = rI s 153 q := mS_ne _ _ _ _ _ _ (by omega)
        have e4 : (nI q).toInt.toNat = q := by rw [nI_toInt (by omega)]; exact Int.toNat_natCast q
        refine st_M_takeNumber_27 ?_
        rw [m_at, e2, m_first, e4, e3, nI_toInt (by omega), nI_toInt (by omega)]
        refine ⟨fun c => ⟨by omega, sp_in (fun c2 => ?_) (fun c2 => ?_)⟩, fun c => ?_⟩
        · rw [(h.2.2 q (by omega)).1, e48, e57] at c2
          have hqs : xs cF B N q = q := xs_stop (fun z => c2 (of_decide_eq_true z.2))
          have hqQ : q = Q := by rw [← hqs]; exact h4
          subst hqQ
          rw [m_at, m_first]
          exact hT x4 h6
        · rw [(h.2.2 q (by omega)).1, e48, e57] at c2
          have hc : cF (B q) = true := decide_eq_true c2
          rw [xs_step ⟨by omega, hc⟩] at h4
          have h5' : ∀ i, p ≤ i → i < q + 1 → cF (B i) = true := fun i i1 i2 => by
            by_cases hi : i = q
            · rw [hi]; exact hc
            · exact h5 i i1 (by omega)
          rw [m_at, nI_1, mS_at, nI_toInt (by omega), Int.toNat_natCast, e3]
          refine ⟨fun c3 => ih (q + 1) (by omega) (by omega) (by omega) h4 h5' _ _ _ (fun hle => ?_) h7, fun c3 => ⟨by omega, ih (q + 1) (by omega) (by omega) (by omega) h4 h5' _ _ _ (fun hle => ?_) ?_⟩⟩
          · exfalso
            have := dv_in (p := p) hB (q - p) (fun i hi => h5 _ (by omega) (by omega))
            have hp3 : (10 : Int) ^ (q - p) ≤ 10 ^ 2 := by
              have : q - p = 0 ∨ q - p = 1 ∨ q - p = 2 := by omega
              rcases this with e | e | e <;> rw [e] <;> decide
            have := h6 (by omega)
            omega
          all_goals
            have e10 : Int32.toInt 10 = 10 := rfl
            have e48' : Int32.toInt 48 = 48 := rfl
            have a1 : (10 * x4).toInt = 10 * x4.toInt := by
              rw [i_mul, e10]
              rw [e10]; omega
            have a2 : (10 * x4 + rI s 153 q).toInt = 10 * x4.toInt + B q := by
              rw [i_add, a1, (h.2.2 q (by omega)).1]
              rw [a1, (h.2.2 q (by omega)).1]; omega
            have a3 : (10 * x4 + rI s 153 q - 48).toInt = 10 * x4.toInt + B q - 48 := by
              rw [i_sub, a2, e48']
              rw [a2, e48']; omega
            rw [a3]
          · have := h6 (by omega)
            rw [this, show q + 1 - p = (q - p) + 1 by omega]
            show _ = dv B p (q - p) * 10 + (B (p + (q - p)) - 48)
            rw [show p + (q - p) = q by omega]; omega
          · omega
        · have hqs : xs cF B N q = q := xs_stop (fun z => by omega)
          have hqQ : q = Q := by rw [← hqs]; exact h4
          subst hqQ
          exact hT x4 h6
    exact L _ p (Nat.le_refl _) (Nat.le_refl _) hx hQ (fun i h1 h2 => by omega) 0 _ _ (fun _ => by rw [Nat.sub_self]; rfl) (by decide)
  · rw [if_neg hf]
    have hq : xs cF B N p = p := xs_stop (fun z => hf (by unfold bat; rw [if_pos z.1]; exact of_decide_eq_true z.2))
    exact sm_want0 (by decide) (fun z => absurd rfl z) (fun _ => ⟨fun _ => her 1 p (by rw [if_pos hq]) _ _, fun z => absurd rfl z⟩)
theorem sm_takeEnd (h : tM s B N) {fi le fa : Int32} {a : Nat} (ha : a ≤ N) {K : hS → Prop} (hK : K (match pSign B N 59 a with
    | .ok q => mS s (nI q) fi le 0 fa
    | .error (e, w) => mS s (nI w) fi le (nI e) (nI w))) : pcV (d + 1) 168 [.ref 145] v (mS s (nI a) fi le 0 fa) K := by
  refine st_M_takeEnd ?_
  rw [m_faultOf]
  refine ⟨fun _ => sm_here h ha (fun x hx => ?_), fun z => absurd rfl z⟩
  rw [m_at, hx]
  unfold pSign at hK
  refine ⟨fun c => ?_, fun c => ?_⟩
  · rw [if_pos c] at hK
    refine sm_want0 (by decide) (fun _ => ⟨fun z => absurd z (by decide), fun _ => ?_⟩) (fun z => absurd z (by decide))
    rw [m_at, nI_1, mS_at]; exact hK
  · rw [if_neg c] at hK
    exact sm_want0 (by decide) (fun z => absurd rfl z) (fun _ => ⟨fun _ => hK, fun z => absurd rfl z⟩)
/-- how far the reference is: s but for at, first, length, faultOf, fault -/
def mE (s : hS) (N : Nat) (r : Except (Nat × Nat) Nat) (s' : hS) : Prop := match r with
  | .ok p => p ≤ N ∧ ∃ fi le, s' = mS s (nI p) fi le 0 (-1)
  | .error (e, w) => 1 ≤ e ∧ e ≤ 4 ∧ w ≤ N ∧ ∃ a fi le, s' = mS s a fi le (nI e) (nI w)
theorem me_number (h : tM s B N) (hc : mE s N r s1) {lo hi : Int32} {K : Int32 → hS → Prop} (hK : ∀ x s2, mE s N (bnd r fun p => bnd (pNum B N lo.toInt hi.toInt p) fun y => .ok y.2) s2 → (∀ p z q, r = .ok p → pNum B N lo.toInt hi.toInt p = .ok (z, q) → x.toInt = z) → (∀ p, r = .ok p → rI s2 145 10 = nI (xs cBl B N p)) → K x s2) : pcI (d + 2) 164 [.ref 145, .int lo, .int hi] v s1 K := by
  match r, hc, hK with
  | .ok p, hc, hK =>
    obtain ⟨hp, fi, le, rfl⟩ := hc
    obtain ⟨h1, h2⟩ := pNum_in (B := B) (lo := lo.toInt) (hi := hi.toInt) hp
    refine sm_takeNumber h hp (fun z q e x hx => hK x _ ?_ (fun p2 z2 q2 e1 e2 => ?_) (fun p2 e1 => ?_)) (fun f w e x a' => hK x _ ?_ (fun p2 z2 q2 e1 e2 => ?_) (fun p2 e1 => ?_))
    · obtain ⟨a1, a2, a3, a4, a5⟩ := h1 z q e
      show mE s N (bnd (pNum B N lo.toInt hi.toInt p) _) _
      rw [e]
      exact ⟨a4, _, _, rfl⟩
    · injection e1 with e1; subst e1
      rw [e] at e2; injection e2 with e2; injection e2 with e3 e4
      rw [hx, e3]
    · injection e1 with e1; subst e1
      rw [m_first]
    · obtain ⟨a1, a2⟩ := h2 f w e
      show mE s N (bnd (pNum B N lo.toInt hi.toInt p) _) _
      rw [e]
      exact ⟨by omega, by omega, a2, _, _, _, rfl⟩
    · injection e1 with e1; subst e1
      rw [e] at e2; cases e2
    · injection e1 with e1; subst e1
      rw [m_first]
  | .error (f, w), hc, hK =>
    have hc' := hc
    obtain ⟨h1, h2, h3, a, fi, le, rfl⟩ := hc
    refine st_M_takeNumber ?_
    rw [m_faultOf, nI_toInt (by omega)]
    exact ⟨fun _ => hK _ _ hc' (fun p z q e _ => by cases e) (fun p e => by cases e), fun c => absurd (show (0 : Int) < f by omega) c⟩
theorem me_end (h : tM s B N) (hc : mE s N r s1) {K : hS → Prop} (hK : ∀ s2, mE s N (bnd r fun p => pSign B N 59 p) s2 → K s2) : pcV (d + 1) 168 [.ref 145] v s1 K := by
  match r, hc, hK with
  | .ok p, hc, hK =>
    obtain ⟨hp, fi, le, rfl⟩ := hc
    obtain ⟨h1, h2⟩ := pSign_in (B := B) (c := 59) hp (by decide)
    refine sm_takeEnd h hp (hK _ ?_)
    show mE s N (pSign B N 59 p) _
    cases e : pSign B N 59 p with
    | ok q => exact ⟨(h1 q e).2, fi, le, rfl⟩
    | error y =>
      obtain ⟨f, w⟩ := y
      obtain ⟨a1, a2⟩ := h2 f w e
      exact ⟨by omega, by omega, a2, _, fi, le, rfl⟩
  | .error (f, w), hc, hK =>
    have hc' := hc
    obtain ⟨h1, h2, h3, a, fi, le, rfl⟩ := hc
    refine st_M_takeEnd ?_
    rw [m_faultOf, nI_toInt (by omega)]
    exact ⟨fun c => absurd c (by omega), fun _ => hK _ hc'⟩
theorem me_sI (hc : mE s N r s1) {c k : Nat} {x : Int32} (h : ¬ (c = 145 ∧ 9 ≤ k ∧ k ≤ 13)) : mE (sI s c k x) N r (sI s1 c k x) := by
  match r, hc with
  | .ok p, hc =>
    obtain ⟨hp, fi, le, rfl⟩ := hc
    exact ⟨hp, fi, le, mS_sI _ _ _ _ _ _ h⟩
  | .error (f, w2), hc =>
    obtain ⟨h2, h3, h4, a, fi, le, rfl⟩ := hc
    exact ⟨h2, h3, h4, a, fi, le, mS_sI _ _ _ _ _ _ h⟩
theorem me_r (hc : mE s N r s1) {c k : Nat} (h : ¬ (c = 145 ∧ 9 ≤ k ∧ k ≤ 13)) : rI s1 c k = rI s c k := by
  match r, hc with
  | .ok p, hc =>
    obtain ⟨hp, fi, le, rfl⟩ := hc
    exact mS_ne _ _ _ _ _ _ h
  | .error (f, w2), hc =>
    obtain ⟨h2, h3, h4, a, fi, le, rfl⟩ := hc
    exact mS_ne _ _ _ _ _ _ h
theorem me_fault (hc : mE s N r s1) : (rI s1 145 12).toInt = 0 ↔ ∃ p, r = .ok p := by
  match r, hc with
  | .ok p, hc =>
    obtain ⟨hp, fi, le, rfl⟩ := hc
    rw [m_faultOf]; exact ⟨fun _ => ⟨p, rfl⟩, fun _ => rfl⟩
  | .error (f, w2), hc =>
    obtain ⟨h2, h3, h4, a, fi, le, rfl⟩ := hc
    rw [m_faultOf, nI_toInt (by omega)]
    exact ⟨fun z => by omega, fun ⟨p, e⟩ => by cases e⟩
theorem me_here (h : tM s B N) {p : Nat} (hc : mE s N (.ok p) s1) {K : Int32 → hS → Prop} (hK : ∀ (x : Int32) s2, x.toInt = bat B N (xs cBl B N p) → mE s N (.ok (xs cBl B N p)) s2 → K x s2) : pcI d 157 [.ref 145] v s1 K := by
  obtain ⟨hp, fi, le, rfl⟩ := hc
  exact sm_here h hp (fun x hx => hK x _ hx ⟨xs_le hp, fi, le, rfl⟩)
end
