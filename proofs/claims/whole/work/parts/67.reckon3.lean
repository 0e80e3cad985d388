/-! AIR: DRAW, LOW, count(): the pair -/
section
variable {d : Nat} {v : hV} {s s1 : hS} {n : Nat} {W : Nat → Int64} {T : Nat → Int}
theorem cA_heat (a k : Nat) (s : hS) (hk : k < 8) : cA a s (8 + k) = rL s (a + 2) k := by
  have : ∀ k, k < 8 → aL (8 + k) = true ∧ aC (8 + k) = 2 ∧ aK (8 + k) = k := by decide
  obtain ⟨h1, h2, h3⟩ := this k hk
  unfold cA; rw [if_pos h1, h2, h3]
theorem cA_smoke (a k : Nat) (s : hS) (hk : k < 8) : cA a s k = rL s (a + 1) k := by
  have : ∀ k, k < 8 → aL k = true ∧ aC k = 1 ∧ aK k = k := by decide
  obtain ⟨h1, h2, h3⟩ := this k hk
  unfold cA; rw [if_pos h1, h2, h3]
theorem sp_draw {t a : Nat} (ht : kT t) (ha : kA a) (hL : pLT s) (hT : tvC t s T) (hc : cVec a s W) (ho : okA n W) {K : Int32 → hS → Prop} (hK : ∀ r : Int32, r.toInt = drW T W → K r s) : pcI (d + 3) 64 [.ref a, .ref t] v s K := by
  have e400 : Int64.toInt (-400) = -400 := rfl
  have e700 : Int64.toInt 700 = 700 := rfl
  have L : ∀ j i : Nat, i + j = 8 → ∀ z3 z5 : Value, pgI (d + 3) 64 4 [.ref a, .ref t, .long (wsm W i), z3, .int (nI i), z5] [] v s K := by
    intro j
    induction j with
    | zero =>
      intro i hi z3 z5
      have hi : i = 8 := by omega
      subst hi
      refine st_Air_draw_4 ht ha ⟨fun c => absurd c (by decide), fun _ => sp_open ht ha hT hc (fun o ho2 => sp_lift ha hL hc ho (fun l hl => ?_))⟩
      have eo : o.toInt64 = Int64.ofInt (opI T W) := l_of (by rw [i_64]; exact ho2)
      have el : l.toInt64 = Int64.ofInt (lfW W) := l_of (by rw [i_64]; exact hl)
      rw [eo, el]
      show pcL (d + 2) _ [.long 700, .long (rawW T W)] v s _
      refine st_Math_minL ⟨fun c => st_Math_maxL ⟨fun c2 => hK _ ?_, fun c2 => hK _ ?_⟩, fun c => st_Math_maxL ⟨fun c2 => hK _ ?_, fun c2 => hK _ ?_⟩⟩
      · rw [e400] at c2; rw [e700] at c
        unfold drW; rw [if_neg (by omega), if_neg (by omega), l_32 (by omega)]
      · rw [e400] at c2; rw [e700] at c
        unfold drW
        by_cases c3 : (rawW T W).toInt < -400
        · rw [if_pos c3]; rfl
        · rw [if_neg c3, if_neg (by omega)]; rw [show (rawW T W).toInt = -400 by omega]; rfl
      · rw [e700] at c
        unfold drW
        by_cases c3 : 700 < (rawW T W).toInt
        · rw [if_neg (by omega), if_pos c3]; rfl
        · rw [if_neg (by omega), if_neg c3, show (rawW T W).toInt = 700 by omega]; rfl
      · exact absurd (by decide) c2
    | succ j ih =>
      intro i hi z3 z5
      refine st_Air_draw_4 ht ha ⟨fun _ => st_Air_warmth ha ?_, fun c => absurd (by rw [nI_toInt (by omega)]; omega) c⟩
      rw [nI_toInt (by omega), Int.toNat_natCast, nI_1, ← cA_heat a i s (by omega), hc _ (by omega : 8 + i < 29)]
      exact ⟨by omega, ih (i + 1) (by omega) _ _⟩
  exact st_Air_draw ht ha (L 8 0 rfl _ _)
theorem sm_draw {X : Nat} (hX : X ≤ 96) (hT : tvM s T) (hm : mVec X s W) (ho : okA n W) {K : Int64 → hS → Prop} (hK : ∀ r : Int64, r.toInt = drW T W → K r s) : pcL (d + 2) 185 [.ref 145, .int (nI X)] v s K := by
  have L : ∀ j i : Nat, i + j = 8 → ∀ z3 z5 : Value, pgL (d + 2) 185 4 [.ref 145, .int (nI X), .long (wsm W i), z3, .int (nI i), z5] [] v s K := by
    intro j
    induction j with
    | zero =>
      intro i hi z3 z5
      have hi : i = 8 := by omega
      subst hi
      refine st_M_drawOf_4 ⟨fun c => absurd c (by decide), fun _ => sm_open hX hT hm (fun o ho2 => sm_lift hX hm ho (fun l hl => ?_))⟩
      rw [l_of ho2, l_of hl]
      show ((rawW T W).toInt < -400 → _) ∧ (¬ (rawW T W).toInt < -400 → (700 < (rawW T W).toInt → _) ∧ (¬ 700 < (rawW T W).toInt → K (rawW T W) s))
      refine ⟨fun c => hK _ ?_, fun c => ⟨fun c2 => hK _ ?_, fun c2 => hK _ ?_⟩⟩
      · unfold drW; rw [if_pos c]; rfl
      · unfold drW; rw [if_neg c, if_pos c2]; rfl
      · unfold drW; rw [if_neg c, if_neg c2]
    | succ j ih =>
      intro i hi z3 z5
      have p1 : ((nI X + 8) + nI i).toInt.toNat = X + (8 + i) ∧ 0 ≤ ((nI X + 8) + nI i).toInt ∧ ((nI X + 8) + nI i).toInt < 128 := by
        rw [show (8 : Int32) = nI 8 from rfl, nI_add, nI_add, nI_toInt (by omega)]; omega
      refine st_M_drawOf_4 ⟨fun _ => st_M_warmth ?_, fun c => absurd (by rw [nI_toInt (by omega)]; omega) c⟩
      rw [p1.1, hm _ (by omega : 8 + i < 29), nI_1]
      exact ⟨p1.2, ih (i + 1) (by omega) _ _⟩
  exact st_M_drawOf (L 8 0 rfl _ _)
theorem sp_low {t a : Nat} (ht : kT t) (ha : kA a) (hT : tvC t s T) (hc : cVec a s W) {K : Int32 → hS → Prop} (hK : K (nI (lwW T W)) s) : pcI (d + 1) 78 [.ref a, .ref t] v s K := by
  refine st_Air_low ht ha (sp_of (k := 7) ht (by decide) hT (fun l hl => ?_))
  have L : ∀ j i : Nat, i + j = 8 → lwF T W j i = lwW T W → pgI (d + 1) 78 6 [.ref a, .ref t, .int l, .int (nI i)] [] v s K := by
    intro j
    induction j with
    | zero =>
      intro i hi e
      have hi : i = 8 := by omega
      subst hi
      refine st_Air_low_6 ha ⟨fun c => absurd c (by decide), fun _ => ?_⟩
      rw [← e] at hK; exact hK
    | succ j ih =>
      intro i hi e
      refine st_Air_low_6 ha ⟨fun _ => ?_, fun c => absurd (by rw [nI_toInt (by omega)]; omega) c⟩
      rw [nI_toInt (by omega), Int.toNat_natCast, nI_1, ← cA_smoke a i s (by omega), hc _ (by omega : i < 29), i_64, hl]
      unfold lwF at e
      refine ⟨by omega, fun c => ih (i + 1) (by omega) (by rw [if_pos c] at e; exact e), fun c => ?_⟩
      rw [if_neg c] at e
      rw [e]; exact hK
  exact L 8 0 rfl rfl
theorem sm_low {X : Nat} (hX : X ≤ 96) (hT : tvM s T) (hm : mVec X s W) {K : Int32 → hS → Prop} (hK : K (nI (lwW T W)) s) : pcI d 192 [.ref 145, .int (nI X)] v s K := by
  have L : ∀ j i : Nat, i + j = 8 → lwF T W j i = lwW T W → pgI d 192 2 [.ref 145, .int (nI X), .int (nI i)] [] v s K := by
    intro j
    induction j with
    | zero =>
      intro i hi e
      have hi : i = 8 := by omega
      subst hi
      refine st_M_lowOf_2 ⟨fun c => absurd c (by decide), fun _ => ?_⟩
      rw [← e] at hK; exact hK
    | succ j ih =>
      intro i hi e
      have p1 : (nI X + nI i).toInt.toNat = X + i ∧ 0 ≤ (nI X + nI i).toInt ∧ (nI X + nI i).toInt < 128 := by
        rw [nI_add, nI_toInt (by omega)]; omega
      refine st_M_lowOf_2 ⟨fun _ => ⟨p1.2, ?_⟩, fun c => absurd (by rw [nI_toInt (by omega)]; omega) c⟩
      rw [p1.1, nI_1, hm _ (by omega : i < 29), i_64, hT 7 (by decide)]
      unfold lwF at e
      refine ⟨fun c => ih (i + 1) (by omega) (by rw [if_pos c] at e; exact e), fun c => ?_⟩
      rw [if_neg c] at e
      rw [e]; exact hK
  exact st_M_lowOf (L 8 0 rfl rfl)
end
