/-! TEXTS: tent(), both -/
theorem pNum_rng {B : Nat → Int} {N : Nat} {lo hi : Int} {p : Nat} {x : Int × Nat} (h : pNum B N lo hi p = .ok x) : lo ≤ x.1 ∧ x.1 ≤ hi := by
  unfold pNum at h
  by_cases c1 : xs cF B N (xs cBl B N p) = xs cBl B N p
  · rw [if_pos c1] at h; cases h
  · rw [if_neg c1] at h
    by_cases c2 : 3 < xs cF B N (xs cBl B N p) - xs cBl B N p ∨ dv B (xs cBl B N p) (xs cF B N (xs cBl B N p) - xs cBl B N p) < lo ∨ hi < dv B (xs cBl B N p) (xs cF B N (xs cBl B N p) - xs cBl B N p)
    · rw [if_pos c2] at h; cases h
    · rw [if_neg c2] at h
      injection h with h
      rw [← h]
      show lo ≤ dv B (xs cBl B N p) (xs cF B N (xs cBl B N p) - xs cBl B N p) ∧ dv B (xs cBl B N p) (xs cF B N (xs cBl B N p) - xs cBl B N p) ≤ hi
      omega
/-- PLACES and strengths in their bounds, no PLACE twice -/
def rgOK (L : rgL) : Prop := (∀ x ∈ L, (0 ≤ x.1 ∧ x.1 ≤ 23) ∧ 1 ≤ x.2 ∧ x.2 ≤ 999) ∧ (L.map Prod.fst).Nodup
def tdOK (D : TD) : Prop := (∀ k, k < 9 → loV k ≤ D.1 k ∧ D.1 k ≤ hiV k) ∧ rgOK D.2.2.1 ∧ rgOK D.2.2.2
theorem pRing_ok {B : Nat → Int} {N : Nat} {L : rgL} {first p : Nat} {x : rgL × Nat} (hL : rgOK L) (h : pRing B N L first p = .ok x) : rgOK x.1 := by
  unfold pRing at h
  by_cases c : 16 ≤ L.length
  · rw [if_pos c] at h; cases h
  · rw [if_neg c] at h
    obtain ⟨y, h1, h2⟩ := bnd_ok h
    by_cases c2 : L.any (fun z => decide (z.1 = y.1)) = true
    · rw [if_pos c2] at h2; cases h2
    · rw [if_neg c2] at h2
      obtain ⟨z, h3, h4⟩ := bnd_ok h2
      obtain ⟨q, h5, h6⟩ := bnd_ok h4
      injection h6 with h6
      rw [← h6]
      have a1 := pNum_rng h1
      have a2 := pNum_rng h3
      refine ⟨fun w hw => ?_, ?_⟩
      · rcases List.mem_append.mp hw with hw | hw
        · exact hL.1 w hw
        · rw [List.mem_singleton.mp hw]; exact ⟨a1, a2⟩
      · rw [List.map_append, List.nodup_append]
        refine ⟨hL.2, by simp, fun a ha b hb => ?_⟩
        have hb : b = y.1 := List.mem_singleton.mp hb
        rw [hb]
        intro e
        obtain ⟨w, hw, he⟩ := List.mem_map.mp ha
        exact c2 (List.any_eq_true.mpr ⟨w, hw, decide_eq_true (he.trans e)⟩)
theorem pVals_ok {B : Nat → Int} {N : Nat} {V : Nat → Int} {j p : Nat} (hj : j < 8) {x : (Nat → Int) × Nat} (hV : ∀ k, k < 9 → loV k ≤ V k ∧ V k ≤ hiV k) (h : pVals B N V j p = .ok x) : ∀ k, k < 9 → loV k ≤ x.1 k ∧ x.1 k ≤ hiV k := by
  unfold pVals at h
  obtain ⟨y, h1, h2⟩ := bnd_ok h
  have a1 := pNum_rng h1
  intro k hk
  by_cases c : j = 5
  · rw [if_pos c] at h2
    obtain ⟨z, h3, h4⟩ := bnd_ok h2
    obtain ⟨q, h5, h6⟩ := bnd_ok h4
    injection h6 with h6
    have a2 := pNum_rng h3
    rw [← h6]
    show loV k ≤ (if k = 6 then z.1 else if k = fvN j then y.1 else V k) ∧ (if k = 6 then z.1 else if k = fvN j then y.1 else V k) ≤ hiV k
    by_cases k6 : k = 6
    · rw [if_pos k6, k6]; exact a2
    · rw [if_neg k6]
      by_cases k5 : k = fvN j
      · rw [if_pos k5, k5]; exact a1
      · rw [if_neg k5]; exact hV k hk
  · rw [if_neg c] at h2
    obtain ⟨q, h5, h6⟩ := bnd_ok h2
    injection h6 with h6
    rw [← h6]
    show loV k ≤ (if k = fvN j then y.1 else V k) ∧ (if k = fvN j then y.1 else V k) ≤ hiV k
    by_cases k5 : k = fvN j
    · rw [if_pos k5, k5]; exact a1
    · rw [if_neg k5]; exact hV k hk
theorem pClause_ok {B : Nat → Int} {N : Nat} {D : TD} {p : Nat} {x : TD × Nat} (hD : tdOK D) (h : pClause B N D p = .ok x) : tdOK x.1 := by
  obtain ⟨d1, d2, d3⟩ := hD
  unfold pClause at h
  by_cases c1 : pKind B N p = 10
  · rw [if_pos c1] at h; cases h
  rw [if_neg c1] at h
  by_cases c2 : pKind B N p = 8
  · rw [if_pos c2] at h
    obtain ⟨y, h1, h2⟩ := bnd_ok h
    injection h2 with h2
    rw [← h2]; exact ⟨d1, pRing_ok d2 h1, d3⟩
  rw [if_neg c2] at h
  by_cases c3 : pKind B N p = 9
  · rw [if_pos c3] at h
    obtain ⟨y, h1, h2⟩ := bnd_ok h
    injection h2 with h2
    rw [← h2]; exact ⟨d1, d2, pRing_ok d3 h1⟩
  rw [if_neg c3] at h
  by_cases c4 : D.2.1 (pKind B N p) = true
  · rw [if_pos c4] at h; cases h
  rw [if_neg c4] at h
  obtain ⟨y, h1, h2⟩ := bnd_ok h
  injection h2 with h2
  have := pK_le (B := B) (N := N) (p := p) 10 0 rfl
  have hk : pKind B N p ≤ 10 := this
  rw [← h2]; exact ⟨pVals_ok (by omega) d1 h1, d2, d3⟩
theorem pTent0_ok : tdOK pTent0 := by
  refine ⟨by decide, ⟨fun x hx => ?_, by decide⟩, ⟨fun x hx => ?_, by decide⟩⟩ <;> cases hx
theorem pTent_ok {B : Nat → Int} {N : Nat} : ∀ f (D : TD) (p n : Nat) (x : TD × Nat), tdOK D → pTent B N f D p n = .ok x → tdOK x.1 := by
  intro f
  induction f with
  | zero =>
    intro D p n x hD h
    injection h with h
    rw [← h]; exact hD
  | succ f ih =>
    intro D p n x hD h
    by_cases c : xs cBl B N p < N
    · have e : pTent B N (f + 1) D p n = bnd (pClause B N D (xs cBl B N p)) fun x => pTent B N f x.1 x.2 (n + 1) := if_pos c
      rw [e] at h
      obtain ⟨y, h1, h2⟩ := bnd_ok h
      exact ih y.1 y.2 (n + 1) x (pClause_ok hD h1) h2
    · have e : pTent B N (f + 1) D p n = .ok (D, n) := if_neg c
      rw [e] at h
      injection h with h
      rw [← h]; exact hD
/-! what is held of texts and of the tent -/
def pX (s : hS) : Prop := pRo s ∧ ∃ N, N ≤ 300 ∧ rI s 49 1 = nI N ∧ rI s 145 8 = nI N ∧ (∀ i, i < N → rI s 50 i = rI s 153 i ∧ 0 ≤ (rI s 153 i).toInt ∧ (rI s 153 i).toInt ≤ 255) ∧ rI s 49 4 = rI s 145 13
def pT (v : hV) (s : hS) : Prop := ∃ D : TD, tdOK D ∧ (∀ k, k < 9 → (rI s (vT v + 1) k).toInt = D.1 k ∧ (rI s 148 k).toInt = D.1 k) ∧ dR (vT v + 3) s D.2.2.1 ∧ dR (vT v + 9) s D.2.2.2 ∧ dP 0 0 s D.2.2.1 ∧ dP 1 16 s D.2.2.2
/-- the tents and the nights told and in the making are what they can be -/
def kV (v : hV) : Prop := (kT (vT v) ∧ kT (vU v) ∧ vT v ≠ vU v) ∧ (kN (vN v) ∧ kN (vM v) ∧ vN v ≠ vM v)
/-- tents changed over -/
def swT (v : hV) : hV := (vL v, vU v, vT v, vN v, vM v)
def swN (v : hV) : hV := (vL v, vT v, vU v, vM v, vN v)
theorem tr_sw : ∀ n m : Bool, ∀ c, c < 182 → 48 < c → pu_TR 51 66 (if n then 81 else 86) (if m then 81 else 86) c = pu_TR 66 51 (if n then 81 else 86) (if m then 81 else 86) c := by decide +kernel
theorem tr_s0 : ∀ a b n m : Nat, ∀ s, s < 22 → (s ≠ 1 → s ≠ 2 → s ≠ 3 → s ≠ 4 → pm_at none (pu_TR a b n m 48) s = pm_at none (pu_TR 0 0 0 0 48) s) ∧ pm_at none (pu_TR a b n m 48) 1 = some a ∧ pm_at none (pu_TR a b n m 48) 2 = some b ∧ pm_at none (pu_TR a b n m 48) 3 = some n ∧ pm_at none (pu_TR a b n m 48) 4 = some m := by
  intro a b n m s hs
  match s, hs with
  | 0, _ => exact ⟨fun h1 h2 h3 h4 => rfl, rfl, rfl, rfl, rfl⟩
  | 1, _ => exact ⟨fun h1 h2 h3 h4 => absurd rfl h1, rfl, rfl, rfl, rfl⟩
  | 2, _ => exact ⟨fun h1 h2 h3 h4 => absurd rfl h2, rfl, rfl, rfl, rfl⟩
  | 3, _ => exact ⟨fun h1 h2 h3 h4 => absurd rfl h3, rfl, rfl, rfl, rfl⟩
  | 4, _ => exact ⟨fun h1 h2 h3 h4 => absurd rfl h4, rfl, rfl, rfl, rfl⟩
  | 5, _ => exact ⟨fun h1 h2 h3 h4 => rfl, rfl, rfl, rfl, rfl⟩
  | 6, _ => exact ⟨fun h1 h2 h3 h4 => rfl, rfl, rfl, rfl, rfl⟩
  | 7, _ => exact ⟨fun h1 h2 h3 h4 => rfl, rfl, rfl, rfl, rfl⟩
  | 8, _ => exact ⟨fun h1 h2 h3 h4 => rfl, rfl, rfl, rfl, rfl⟩
  | 9, _ => exact ⟨fun h1 h2 h3 h4 => rfl, rfl, rfl, rfl, rfl⟩
  | 10, _ => exact ⟨fun h1 h2 h3 h4 => rfl, rfl, rfl, rfl, rfl⟩
  | 11, _ => exact ⟨fun h1 h2 h3 h4 => rfl, rfl, rfl, rfl, rfl⟩
  | 12, _ => exact ⟨fun h1 h2 h3 h4 => rfl, rfl, rfl, rfl, rfl⟩
  | 13, _ => exact ⟨fun h1 h2 h3 h4 => rfl, rfl, rfl, rfl, rfl⟩
  | 14, _ => exact ⟨fun h1 h2 h3 h4 => rfl, rfl, rfl, rfl, rfl⟩
  | 15, _ => exact ⟨fun h1 h2 h3 h4 => rfl, rfl, rfl, rfl, rfl⟩
  | 16, _ => exact ⟨fun h1 h2 h3 h4 => rfl, rfl, rfl, rfl, rfl⟩
  | 17, _ => exact ⟨fun h1 h2 h3 h4 => rfl, rfl, rfl, rfl, rfl⟩
  | 18, _ => exact ⟨fun h1 h2 h3 h4 => rfl, rfl, rfl, rfl, rfl⟩
  | 19, _ => exact ⟨fun h1 h2 h3 h4 => rfl, rfl, rfl, rfl, rfl⟩
  | 20, _ => exact ⟨fun h1 h2 h3 h4 => rfl, rfl, rfl, rfl, rfl⟩
  | 21, _ => exact ⟨fun h1 h2 h3 h4 => rfl, rfl, rfl, rfl, rfl⟩
  | s + 22, h => exact absurd h (by omega)
theorem tr_len : ∀ a b n m : Nat, (pu_TR a b n m 48).length ≤ 22 := fun _ _ _ _ => Nat.le_of_ble_eq_true rfl
theorem tr_swN : ∀ n m : Bool, ∀ c, c < 182 → 48 < c → pu_TR (if n then 51 else 66) (if m then 51 else 66) 81 86 c = pu_TR (if n then 51 else 66) (if m then 51 else 66) 86 81 c := by decide +kernel
theorem pu_R_ext {a b n m a' b' n' m' : Nat} (h : ∀ c, c < 182 → 48 < c → pu_TR a b n m c = pu_TR a' b' n' m' c) {c : Nat} (hc : c ≠ 48) (s : Nat) : pu_R a b n m c s = pu_R a' b' n' m' c s := by
  show cond (Nat.ble 48 c) (pm_at none (pu_TR a b n m c) s) _ = cond (Nat.ble 48 c) (pm_at none (pu_TR a' b' n' m' c) s) _
  by_cases h1 : 48 ≤ c
  · rw [Nat.ble_eq_true_of_le h1]
    show pm_at none (pu_TR a b n m c) s = pm_at none (pu_TR a' b' n' m' c) s
    by_cases h2 : c < 182
    · rw [h c h2 (by omega)]
    · have e1 : ∀ a b n m, pu_TR a b n m c = [] := fun a b n m => by
        show cond (Nat.ble 182 c) [] _ = _
        rw [Nat.ble_eq_true_of_le (by omega)]; rfl
      rw [e1, e1]
  · rw [pu_b47 h1]; rfl
theorem pu_R_48 (a b n m : Nat) (s : Nat) : pu_R a b n m 48 s = pm_at none (pu_TR a b n m 48) s := rfl
/-- both references stored, the tents are changed over -/
theorem sw_tent {v : hV} (hv : kV v) (s : hS) : pm_setR (pm_setR (hh v s) 48 1 (some (vU v))) 48 2 (some (vT v)) = hh (swT v) s := by
  obtain ⟨l0, t, u, n, m⟩ := v
  obtain ⟨⟨h1, h2, h3⟩, h4, h5, h6⟩ := hv
  have h1 : t = 51 ∨ t = 66 := h1
  have h2 : u = 51 ∨ u = 66 := h2
  have h3 : t ≠ u := h3
  have h4 : n = 81 ∨ n = 86 := h4
  have h5 : m = 81 ∨ m = 86 := h5
  have hR : (fun c => pm_up (pm_up (pu_R t u n m) 48 (va_up (pu_R t u n m 48) 1 (some u))) 48 (va_up (pm_up (pu_R t u n m) 48 (va_up (pu_R t u n m 48) 1 (some u)) 48) 2 (some t)) c) = pu_R u t n m := by
    funext c
    funext k
    by_cases hc : c = 48
    · subst hc
      show va_up (va_up (pu_R t u n m 48) 1 (some u)) 2 (some t) k = _
      show (if k = 2 then some t else if k = 1 then some u else pu_R t u n m 48 k) = _
      rw [pu_R_48, pu_R_48]
      by_cases hk : k < 22
      · obtain ⟨a0, a1, a2, a3, a4⟩ := tr_s0 t u n m k hk
        obtain ⟨b0, b1, b2, b3, b4⟩ := tr_s0 u t n m k hk
        by_cases k2 : k = 2
        · rw [if_pos k2, k2, b2]
        · rw [if_neg k2]
          by_cases k1 : k = 1
          · rw [if_pos k1, k1, b1]
          · rw [if_neg k1]
            by_cases k3 : k = 3
            · rw [k3, a3, b3]
            · by_cases k4 : k = 4
              · rw [k4, a4, b4]
              · rw [a0 k1 k2 k3 k4, b0 k1 k2 k3 k4]
      · rw [if_neg (by omega), if_neg (by omega), pm_at_far _ _ _ (by have := tr_len t u n m; omega), pm_at_far _ _ _ (by have := tr_len u t n m; omega)]
    · show (if c = 48 then _ else (if c = 48 then _ else pu_R t u n m c)) k = _
      rw [if_neg hc, if_neg hc]
      refine pu_R_ext (fun c c1 c2 => ?_) hc k
      have e1 : ∀ q, (q = 81 ∨ q = 86) → ∃ b : Bool, q = if b then 81 else 86 := fun q hq => by
        rcases hq with rfl | rfl
        · exact ⟨true, rfl⟩
        · exact ⟨false, rfl⟩
      obtain ⟨bn, rfl⟩ := e1 n h4
      obtain ⟨bm, rfl⟩ := e1 m h5
      rcases h1 with rfl | rfl <;> rcases h2 with rfl | rfl
      · exact absurd rfl h3
      · exact tr_sw bn bm c c1 c2
      · exact (tr_sw bn bm c c1 c2).symm
      · exact absurd rfl h3
  show ((182, 4061, pu_K l0), s.1, s.2, _) = ((182, 4061, pu_K l0), s.1, s.2, pu_R u t n m)
  exact congrArg (fun R => ((182, 4061, pu_K l0), s.1, s.2, R)) hR
theorem sw_night {v : hV} (hv : kV v) (s : hS) : pm_setR (pm_setR (hh v s) 48 3 (some (vM v))) 48 4 (some (vN v)) = hh (swN v) s := by
  obtain ⟨l0, t, u, n, m⟩ := v
  obtain ⟨⟨h1, h2, h3⟩, h4, h5, h6⟩ := hv
  have h1 : t = 51 ∨ t = 66 := h1
  have h2 : u = 51 ∨ u = 66 := h2
  have h4 : n = 81 ∨ n = 86 := h4
  have h5 : m = 81 ∨ m = 86 := h5
  have h6 : n ≠ m := h6
  have hR : (fun c => pm_up (pm_up (pu_R t u n m) 48 (va_up (pu_R t u n m 48) 3 (some m))) 48 (va_up (pm_up (pu_R t u n m) 48 (va_up (pu_R t u n m 48) 3 (some m)) 48) 4 (some n)) c) = pu_R t u m n := by
    funext c
    funext k
    by_cases hc : c = 48
    · subst hc
      show (if k = 4 then some n else if k = 3 then some m else pu_R t u n m 48 k) = _
      rw [pu_R_48, pu_R_48]
      by_cases hk : k < 22
      · obtain ⟨a0, a1, a2, a3, a4⟩ := tr_s0 t u n m k hk
        obtain ⟨b0, b1, b2, b3, b4⟩ := tr_s0 t u m n k hk
        by_cases k2 : k = 4
        · rw [if_pos k2, k2, b4]
        · rw [if_neg k2]
          by_cases k1 : k = 3
          · rw [if_pos k1, k1, b3]
          · rw [if_neg k1]
            by_cases k3 : k = 1
            · rw [k3, a1, b1]
            · by_cases k4 : k = 2
              · rw [k4, a2, b2]
              · rw [a0 k3 k4 k1 k2, b0 k3 k4 k1 k2]
      · rw [if_neg (by omega), if_neg (by omega), pm_at_far _ _ _ (by have := tr_len t u n m; omega), pm_at_far _ _ _ (by have := tr_len t u m n; omega)]
    · show (if c = 48 then _ else (if c = 48 then _ else pu_R t u n m c)) k = _
      rw [if_neg hc, if_neg hc]
      refine pu_R_ext (fun c c1 c2 => ?_) hc k
      have e1 : ∀ q, (q = 51 ∨ q = 66) → ∃ b : Bool, q = if b then 51 else 66 := fun q hq => by
        rcases hq with rfl | rfl
        · exact ⟨true, rfl⟩
        · exact ⟨false, rfl⟩
      obtain ⟨bn, rfl⟩ := e1 t h1
      obtain ⟨bm, rfl⟩ := e1 u h2
      rcases h4 with rfl | rfl <;> rcases h5 with rfl | rfl
      · exact absurd rfl h6
      · exact tr_swN bn bm c c1 c2
      · exact (tr_swN bn bm c c1 c2).symm
      · exact absurd rfl h6
  show ((182, 4061, pu_K l0), s.1, s.2, _) = ((182, 4061, pu_K l0), s.1, s.2, pu_R t u m n)
  exact congrArg (fun R => ((182, 4061, pu_K l0), s.1, s.2, R)) hR
