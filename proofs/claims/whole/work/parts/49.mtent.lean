/-! TEXTS: the reference reads a tent's clause -/
/-- a ring in the reference: how many at slot m, from place o on -/
def dP (m o : Nat) (s : hS) (L : rgL) : Prop := rI s 152 m = nI L.length ∧ L.length ≤ 16 ∧ ∀ k, k < L.length → (rI s 150 (o + k)).toInt = (L.getD k (0, 0)).1 ∧ (rI s 151 (o + k)).toInt = (L.getD k (0, 0)).2
def fP (m o c k : Nat) : Prop := (c = 152 ∧ k = m) ∨ (c = 150 ∧ o ≤ k ∧ k < o + 16) ∨ (c = 151 ∧ o ≤ k ∧ k < o + 16)
theorem dP_fr {m o : Nat} {s s1 : hS} {L : rgL} {W : Nat → Nat → Prop} (h : dP m o s L) (hf : Fr W s s1) (hw : ∀ c k, fP m o c k → ¬ W c k) : dP m o s1 L := by
  obtain ⟨h1, h2, h3⟩ := h
  refine ⟨by rw [hf.i (hw _ _ (Or.inl ⟨rfl, rfl⟩))]; exact h1, h2, fun k hk => ?_⟩
  rw [hf.i (hw _ _ (Or.inr (Or.inl ⟨rfl, by omega, by omega⟩))), hf.i (hw _ _ (Or.inr (Or.inr ⟨rfl, by omega, by omega⟩)))]
  exact h3 k hk
/-- without the sign at its end -/
def pRing0 (B : Nat → Int) (N : Nat) (L : rgL) (first p : Nat) : Except (Nat × Nat) (rgL × Nat) :=
  if 16 ≤ L.length then .error (3, first) else
  bnd (pNum B N 0 23 p) fun x =>
  if L.any (fun y => decide (y.1 = x.1)) = true then .error (4, xs cBl B N p) else
  bnd (pNum B N 1 999 x.2) fun y => .ok (L ++ [(x.1, y.1)], y.2)
theorem pRing_0 {B : Nat → Int} {N : Nat} {L : rgL} {first p : Nat} : pRing B N L first p = bnd (pRing0 B N L first p) fun x => bnd (pSign B N 59 x.2) fun q => .ok (x.1, q) := by
  unfold pRing pRing0
  by_cases h : 16 ≤ L.length
  · rw [if_pos h, if_pos h]; rfl
  · rw [if_neg h, if_neg h]
    cases pNum B N 0 23 p with
    | error e => rfl
    | ok x =>
      simp only [bnd]
      by_cases h2 : L.any (fun y => decide (y.1 = x.1)) = true
      · rw [if_pos h2, if_pos h2]
      · rw [if_neg h2, if_neg h2]
        cases pNum B N 1 999 x.2 with
        | error e => rfl
        | ok y => rfl
section
variable {d : Nat} {v : hV} {s s1 : hS} {B : Nat → Int} {N : Nat}
theorem sm_takePost (h : tM s B N) {fi : Nat} {le : Int32} (hfi : fi ≤ N) {p : Nat} (hp : p ≤ N) {kd : Nat} (hkd : kd ≤ 1) {L : rgL} (hd : dP (2 + kd) (32 + 16 * kd) s L) {K : hS → Prop} (hK : ∀ sb s2, Fr (fP (2 + kd) (32 + 16 * kd)) s sb → tM sb B N → mE sb N (bnd (pRing0 B N L fi p) fun x => .ok x.2) s2 → (∀ x, pRing0 B N L fi p = .ok x → dP (2 + kd) (32 + 16 * kd) sb x.1) → K s2) : pcV (d + 3) 162 [.ref 145, .int (nI kd)] v (mS s (nI p) (nI fi) le 0 (-1)) K := by
  have e2k : (2 : Int32) + nI kd = nI (2 + kd) := nI_add 2 kd
  have e16 : (32 : Int32) + 16 * nI kd = nI (32 + 16 * kd) := by
    have : (16 : Int32) * nI kd = nI (16 * kd) := pk_mul 16 kd
    rw [this]; exact nI_add 32 _
  have e0 : Int32.toInt 0 = 0 := rfl
  have e23 : Int32.toInt 23 = 23 := rfl
  have e1 : Int32.toInt 1 = 1 := rfl
  have e999 : Int32.toInt 999 = 999 := rfl
  have hm0 : rI (mS s (nI p) (nI fi) le 0 (-1)) 152 (2 + kd) = nI L.length := by rw [mS_ne _ _ _ _ _ _ (by omega)]; exact hd.1
  have hL16 := hd.2.1
  refine st_M_takePost ?_
  rw [e2k, e16, nI_toInt (by omega), Int.toNat_natCast, hm0, m_first, nI_toInt (by omega)]
  refine ⟨by omega, fun c => ?_, fun c => ?_⟩
  · have hL : ¬ 16 ≤ L.length := by omega
    refine sm_want0 (by decide) (fun _ => ⟨fun z => absurd z (by decide), fun _ => ?_⟩) (fun z => absurd z (by decide))
    refine me_number (r := .ok p) h ⟨hp, _, _, rfl⟩ (fun w4 s4 hc4 hv4 hf4 => ?_)
    rw [e0, e23] at hc4 hv4
    have hc4 : mE s N (bnd (pNum B N 0 23 p) fun y => .ok y.2) s4 := hc4
    have hf4 := hf4 p rfl
    -- the tail, from r5 on
    have T : ∀ (r5 : Except (Nat × Nat) Nat) (s5 : hS), mE s N r5 s5 → (∀ q, r5 = .ok q → ∃ z, pNum B N 0 23 p = .ok (z, q) ∧ ¬ L.any (fun y => decide (y.1 = z)) = true) → (bnd (pRing0 B N L fi p) fun x => (.ok x.2 : Except (Nat × Nat) Nat)) = bnd r5 (fun q => bnd (pNum B N 1 999 q) fun y => .ok y.2) → (0 ≤ (nI (32 + 16 * kd) + nI L.length).toInt ∧ (nI (32 + 16 * kd) + nI L.length).toInt < 64) ∧ (pcI (d + 2) 164 [.ref 145, .int 1, .int 999] v (sI s5 150 (nI (32 + 16 * kd) + nI L.length).toInt.toNat w4) (fun w6 s6 => (0 ≤ (nI (32 + 16 * kd) + nI L.length).toInt ∧ (nI (32 + 16 * kd) + nI L.length).toInt < 64) ∧ ((0 ≤ (nI (2 + kd)).toInt ∧ (nI (2 + kd)).toInt < 4) ∧ (K (sI (sI s6 151 (nI (32 + 16 * kd) + nI L.length).toInt.toNat w6) 152 (nI (2 + kd)).toInt.toNat (nI L.length + 1)))))) := by
      intro r5 s5 hc5 hok hre
      rw [nI_add, nI_toInt (by omega), Int.toNat_natCast, nI_toInt (by omega), Int.toNat_natCast, nI_1]
      refine ⟨by omega, me_number (s := sI s 150 (32 + 16 * kd + L.length) w4) (tM_sI h (by omega) (by decide)) (me_sI hc5 (by omega)) (fun w6 s6 hc6 hv6 _ => ⟨by omega, by omega, ?_⟩)⟩
      rw [e1, e999] at hc6 hv6
      rw [← hre] at hc6
      have hfr : Fr (fP (2 + kd) (32 + 16 * kd)) s (sI (sI (sI s 150 (32 + 16 * kd + L.length) w4) 151 (32 + 16 * kd + L.length) w6) 152 (2 + kd) (nI (L.length + 1))) := (((Fr.rf _ s).sI (by unfold fP; omega)).sI (by unfold fP; omega)).sI (by unfold fP; omega)
      refine hK _ _ hfr (tM_sI (tM_sI (tM_sI h (by omega) (by decide)) (by omega) (by decide)) (by omega) (by decide)) (me_sI (me_sI hc6 (by omega)) (by omega)) ?_
      rintro ⟨L', q'⟩ hx
      have hrw : ∃ z4 q4 z6 q6 : _, pNum B N 0 23 p = .ok (z4, q4) ∧ ¬ L.any (fun y => decide (y.1 = z4)) = true ∧ r5 = .ok q4 ∧ pNum B N 1 999 q4 = .ok (z6, q6) := by
        rw [hx] at hre
        cases r5 with
        | error e => cases hre
        | ok q4 =>
          obtain ⟨z4, hz4, hn4⟩ := hok q4 rfl
          cases e6 : pNum B N 1 999 q4 with
          | error e => simp only [bnd, e6] at hre; cases hre
          | ok y => exact ⟨z4, q4, y.1, y.2, hz4, hn4, rfl, e6⟩
      obtain ⟨z4, q4, z6, q6, a1, a2, a3, a4⟩ := hrw
      have v3 : w4.toInt = z4 := hv4 p _ _ rfl a1
      have v6 : w6.toInt = z6 := hv6 q4 _ _ a3 a4
      have hL' : L' = L ++ [(z4, z6)] := by
        unfold pRing0 at hx
        rw [if_neg hL, a1] at hx
        simp only [bnd] at hx
        rw [if_neg a2, a4] at hx
        injection hx with hx; injection hx with hx1 hx2; exact hx1.symm
      rw [hL']
      refine ⟨?_, by rw [List.length_append]; simp; omega, fun k hk2 => ?_⟩
      · rw [r_II, if_pos ⟨rfl, rfl⟩, List.length_append]; rfl
      · rw [List.length_append] at hk2
        have hk2 : k < L.length + 1 := hk2
        have R1 : rI (sI (sI (sI s 150 (32 + 16 * kd + L.length) w4) 151 (32 + 16 * kd + L.length) w6) 152 (2 + kd) (nI (L.length + 1))) 150 (32 + 16 * kd + k) = if k = L.length then w4 else rI s 150 (32 + 16 * kd + k) := by
          rw [r_II, if_neg (by omega), r_II, if_neg (by omega), r_II]
          by_cases hkl : k = L.length
          · rw [if_pos ⟨rfl, by omega⟩, if_pos hkl]
          · rw [if_neg (by omega), if_neg hkl]
        have R2 : rI (sI (sI (sI s 150 (32 + 16 * kd + L.length) w4) 151 (32 + 16 * kd + L.length) w6) 152 (2 + kd) (nI (L.length + 1))) 151 (32 + 16 * kd + k) = if k = L.length then w6 else rI s 151 (32 + 16 * kd + k) := by
          rw [r_II, if_neg (by omega), r_II]
          by_cases hkl : k = L.length
          · rw [if_pos ⟨rfl, by omega⟩, if_pos hkl]
          · rw [if_neg (by omega), if_neg hkl, r_II, if_neg (by omega)]
        rw [R1, R2]
        by_cases hkl : k = L.length
        · rw [if_pos hkl, if_pos hkl, hkl, List.getD_eq_getElem?_getD, List.getElem?_append_right (Nat.le_refl _), Nat.sub_self]
          exact ⟨v3, v6⟩
        · rw [if_neg hkl, if_neg hkl, List.getD_eq_getElem?_getD, List.getElem?_append_left (by omega), ← List.getD_eq_getElem?_getD]
          exact hd.2.2 k (by omega)
    -- a fault is there: the loop ends at once
    have E : ∀ (f w : Nat) (s5 : hS), mE s N (.error (f, w)) s5 → (bnd (pRing0 B N L fi p) fun x => (.ok x.2 : Except (Nat × Nat) Nat)) = .error (f, w) → ∀ (k : Int32) (z6 : Value), pgV (d + 3) 162 32 [.ref 145, .int (nI kd), .int (nI L.length), .int (nI (32 + 16 * kd)), .int w4, .int k, z6] [] v s5 K := by
      intro f w s5 hc5 hre k z6
      have hT := T (.error (f, w)) s5 hc5 (fun q e => by cases e) hre
      rw [← e2k] at hT
      refine st_M_takePost_32 ⟨fun _ => ⟨fun z => absurd ((me_fault hc5).mp z) (fun ⟨p, e⟩ => by cases e), fun _ => ?_⟩, fun _ => ?_⟩
      · exact hT
      · exact hT
    cases e4 : pNum B N 0 23 p with
    | error y =>
      obtain ⟨f, w⟩ := y
      rw [e4] at hc4
      exact E f w s4 hc4 (by unfold pRing0; rw [if_neg hL, e4]; rfl) 0 _
    | ok y =>
      obtain ⟨z, q⟩ := y
      rw [e4] at hc4
      have hc4 : mE s N (.ok q) s4 := hc4
      have v4 : w4.toInt = z := hv4 p z q rfl e4
      have G : ∀ m i : Nat, L.length - i ≤ m → i ≤ L.length → (∀ k, k < i → (L.getD k (0, 0)).1 ≠ z) → ∀ (s5 : hS) (z6 : Value), mE s N (.ok q) s5 → rI s5 145 10 = nI (xs cBl B N p) → pgV (d + 3) 162 32 [.ref 145, .int (nI kd), .int (nI L.length), .int (nI (32 + 16 * kd)), .int w4, .int (nI i), z6] [] v s5 K := by
        intro m
        induction m with
        | zero =>
          intro i hm hi hk s5 z6 hc5 hf5
          have hn : ¬ L.any (fun y => decide (y.1 = z)) = true := fun zz => by
            obtain ⟨y, hy, he⟩ := List.any_eq_true.mp zz
            obtain ⟨k, hk2, rfl⟩ := List.getElem_of_mem hy
            have := hk k (by omega)
            rw [List.getD_eq_getElem?_getD, List.getElem?_eq_getElem hk2] at this
            exact this (of_decide_eq_true he)
          have hT := T (.ok q) s5 hc5 (fun q2 e => by injection e with e; subst e; exact ⟨z, e4, hn⟩) (by
            unfold pRing0; rw [if_neg hL, e4]; simp only [bnd]; rw [if_neg hn]; cases pNum B N 1 999 q <;> rfl)
          rw [← e2k] at hT
          refine st_M_takePost_32 ⟨fun c => absurd c ?_, fun _ => hT⟩
          rw [nI_toInt (by omega), nI_toInt (by omega)]; omega
        | succ m ih =>
          intro i hm hi hk s5 z6 hc5 hf5
          refine st_M_takePost_32 ⟨fun c2 => ⟨fun _ => ?_, fun c3 => absurd ((me_fault hc5).mpr ⟨q, rfl⟩) c3⟩, fun c2 => ?_⟩
          · rw [nI_toInt (by omega), nI_toInt (by omega)] at c2
            have h4 := (hd.2.2 i (by omega)).1
            have h5 : rI s5 150 (32 + 16 * kd + i) = rI s 150 (32 + 16 * kd + i) := me_r hc5 (by omega)
            rw [nI_add, nI_toInt (by omega), Int.toNat_natCast, h5, h4, v4, hf5, nI_1]
            obtain ⟨hqN, f5, l5, rfl⟩ := hc5
            refine ⟨by omega, fun c3 => ?_, fun c3 => ?_⟩
            · refine sm_want0 (by decide) (fun zz => absurd rfl zz) (fun _ => ?_)
              have hy : L.any (fun y => decide (y.1 = z)) = true := by
                refine List.any_eq_true.mpr ⟨L[i], List.getElem_mem (by omega), ?_⟩
                rw [List.getD_eq_getElem?_getD, List.getElem?_eq_getElem (by omega)] at c3
                exact decide_eq_true c3
              exact E 4 (xs cBl B N p) _ ⟨by decide, by decide, xs_le hp, _, _, _, rfl⟩ (by unfold pRing0; rw [if_neg hL, e4]; simp only [bnd]; rw [if_pos hy]) _ _
            · refine sm_want0 (by decide) (fun _ => ?_) (fun zz => absurd zz (by decide))
              refine ih (i + 1) (by omega) (by omega) (fun k hk2 => ?_) _ _ ⟨hqN, f5, l5, rfl⟩ hf5
              by_cases hki : k = i
              · rw [hki]; exact c3
              · exact hk k (by omega)
          · rw [nI_toInt (by omega), nI_toInt (by omega)] at c2
            have hn : ¬ L.any (fun y => decide (y.1 = z)) = true := fun zz => by
              obtain ⟨y, hy, he⟩ := List.any_eq_true.mp zz
              obtain ⟨k, hk2, rfl⟩ := List.getElem_of_mem hy
              have := hk k (by omega)
              rw [List.getD_eq_getElem?_getD, List.getElem?_eq_getElem hk2] at this
              exact this (of_decide_eq_true he)
            have hT := T (.ok q) s5 hc5 (fun q2 e => by injection e with e; subst e; exact ⟨z, e4, hn⟩) (by
              unfold pRing0; rw [if_neg hL, e4]; simp only [bnd]; rw [if_neg hn]; cases pNum B N 1 999 q <;> rfl)
            rw [← e2k] at hT
            exact hT
      exact G _ 0 (Nat.le_refl _) (Nat.zero_le _) (fun k hk => absurd hk (Nat.not_lt_zero k)) s4 _ hc4 hf4
  · have hL : 16 ≤ L.length := by omega
    have e : pRing0 B N L fi p = .error (3, fi) := by unfold pRing0; rw [if_pos hL]
    refine sm_want0 (by decide) (fun z => absurd rfl z) (fun _ => ⟨fun _ => ?_, fun z => absurd rfl z⟩)
    refine hK s _ (Fr.rf _ _) h ?_ (fun x hx => by rw [e] at hx; cases hx)
    rw [e]
    exact ⟨by decide, by decide, hfi, _, _, _, rfl⟩
end
