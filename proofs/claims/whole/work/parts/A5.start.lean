/-! WHAT IS SO AT THE LAW'S LOOP, AT FIRST -/
/-- the first state, an empty script -/
noncomputable def sZ : hS := (fun c k => cond (Nat.ble 48 c) (pm_at 0 (pu_TI c) k) ((pe_ro 0 (fun _ => 0) c).2.1 k), fun c k => cond (Nat.ble 48 c) (pm_at 0 (pu_TL c) k) 0)
def tdZ : TD := (fun k => [2, 20, 40, 30, 10, 300, 60, 150, 0].getD k 0, fun _ => false, [], [])
theorem rgOK_nil : rgOK [] := ⟨fun x hx => absurd hx List.not_mem_nil, List.nodup_nil⟩
theorem no_lt {P : Nat → Prop} : ∀ k, k < 0 → P k := fun k h => absurd h (Nat.not_lt_zero k)
theorem sZ_X : pX sZ := by
  refine ⟨fun c h1 h2 k => ?_, 0, by decide, by decide +kernel, by decide +kernel, no_lt, by decide +kernel⟩
  show cond (Nat.ble 48 c) (pm_at 0 (pu_TI c) k) _ = _
  rw [pu_b47 (by omega)]; rfl
theorem sZ_T : pT (0, 51, 66, 81, 86) sZ := by
  refine ⟨tdZ, ⟨by decide, rgOK_nil, rgOK_nil⟩, ?_, ⟨?_, by decide, no_lt⟩, ⟨?_, by decide, no_lt⟩, ⟨?_, by decide, no_lt⟩, ⟨?_, by decide, no_lt⟩⟩
  · show ∀ k, k < 9 → (rI sZ 52 k).toInt = tdZ.1 k ∧ (rI sZ 148 k).toInt = tdZ.1 k
    decide +kernel
  · show rI sZ 54 2 = 0
    decide +kernel
  · show rI sZ 60 2 = 0
    decide +kernel
  · show rI sZ 152 0 = 0
    decide +kernel
  · show rI sZ 152 1 = 0
    decide +kernel
theorem sZ_N : pN (0, 51, 66, 81, 86) sZ := by
  refine ⟨[], ⟨by decide, fun x hx => absurd hx List.not_mem_nil⟩, ⟨?_, by decide, no_lt⟩, no_lt, ?_⟩
  · show rI sZ 81 4 = 0
    decide +kernel
  · show rI sZ 145 16 = 0
    decide +kernel
theorem sZ_U : pU sZ := ⟨0, by decide, by decide +kernel, by decide +kernel, no_lt⟩
theorem sZ_W : pNow 0 sZ := by
  refine ⟨?_, ?_⟩
  · have e : ∀ i, i < 29 → (if aL i = true then rL sZ (92 + aC i) (aK i) else (rI sZ (92 + aC i) (aK i)).toInt64) = rL sZ 146 (0 + i) := by decide +kernel
    exact e
  · refine ⟨?_, ?_, ?_, ?_, ?_, ?_, ?_, ?_, ?_, ?_⟩
    · show ∀ k, k < 8 → 0 ≤ (rL sZ 146 (0 + (8 + k))).toInt
      decide +kernel
    · show (rL sZ 146 (0 + 8)).toInt + (rL sZ 146 (0 + 9)).toInt + (rL sZ 146 (0 + 10)).toInt + (rL sZ 146 (0 + 11)).toInt + (rL sZ 146 (0 + 12)).toInt + (rL sZ 146 (0 + 13)).toInt + (rL sZ 146 (0 + 14)).toInt + (rL sZ 146 (0 + 15)).toInt ≤ 8991 * (rL sZ 146 (0 + 16)).toInt
      decide +kernel
    · show 0 ≤ (rL sZ 146 (0 + 16)).toInt ∧ (rL sZ 146 (0 + 16)).toInt ≤ 0
      decide +kernel
    · show 0 ≤ (rL sZ 146 (0 + 22)).toInt ∧ (rL sZ 146 (0 + 22)).toInt ≤ 9
      decide +kernel
    · show 0 ≤ (rL sZ 146 (0 + 23)).toInt ∧ (rL sZ 146 (0 + 23)).toInt ≤ 7
      decide +kernel
    · show 0 ≤ (rL sZ 146 (0 + 24)).toInt ∧ (rL sZ 146 (0 + 24)).toInt ≤ 9
      decide +kernel
    · show (rL sZ 146 (0 + 25)).toInt = 0 ∨ (rL sZ 146 (0 + 25)).toInt = 1
      decide +kernel
    · show 0 ≤ (rL sZ 146 (0 + 26)).toInt ∧ (rL sZ 146 (0 + 26)).toInt ≤ 8
      decide +kernel
    · show 0 ≤ (rL sZ 146 (0 + 27)).toInt ∧ (rL sZ 146 (0 + 27)).toInt ≤ 8
      decide +kernel
    · show 0 ≤ (rL sZ 146 (0 + 28)).toInt ∧ (rL sZ 146 (0 + 28)).toInt < 2147483648
      decide +kernel
theorem sZ_I : pI 0 sZ := by
  have e : ∀ i, i < 2 → rI sZ 97 i = rI sZ 147 i ∧ (rI sZ 147 i).toInt = 0 := by decide +kernel
  exact fun i hi => ⟨(e i hi).1, Or.inl (e i hi).2⟩
theorem sZ_V : pV sZ := by
  have e : ∀ k, k < 4 → rI sZ 103 k = rI sZ 157 k := by decide +kernel
  exact e
theorem sZ_L : pLT sZ := by
  have e : ∀ k, k < 8 → (rI sZ 5 k).toInt = lbT k := by decide +kernel
  exact e
theorem sZ_P : pPR sZ := by
  have e : ∀ k, k < 5 → (rI sZ 6 k).toInt = prT k ∧ (rI sZ 7 k).toInt = puT k := by decide +kernel
  exact e
theorem sZ_G : pG sZ := ⟨0, by decide, by decide +kernel, by decide +kernel, no_lt⟩
theorem sZ_O : pO (0, 51, 66, 81, 86) sZ := Or.inl ⟨by decide +kernel, by decide +kernel⟩
theorem sZ_A : pA sZ := by
  have e : rI sZ 145 33 = 0 := by decide +kernel
  refine ⟨by decide +kernel, ?_, ?_⟩
  · show 0 ≤ (rI sZ 145 33).toInt ∧ (rI sZ 145 33).toInt ≤ 8
    rw [e]; decide
  · show ∀ k : Nat, (k : Int) < (rI sZ 145 33).toInt → _
    rw [e]
    intro k hk
    have e0 : Int32.toInt 0 = 0 := rfl
    rw [e0] at hk
    omega
theorem sZ_D : pD sZ := ⟨0, by decide, by decide +kernel, by decide +kernel, no_lt⟩
theorem sZ_H : pH sZ := ⟨0, 0, by decide, by decide, by decide +kernel, by decide +kernel, by decide +kernel, by decide +kernel, no_lt, no_lt⟩
theorem sZ_Hk : pHk sZ := Or.inl (by decide +kernel)
theorem sZ_B : pB (0, 51, 66, 81, 86) sZ := ⟨by decide +kernel, Or.inl (by decide +kernel)⟩
theorem sZ_k : kV (0, 51, 66, 81, 86) := ⟨⟨Or.inl rfl, Or.inr rfl, by decide⟩, ⟨Or.inl rfl, Or.inr rfl, by decide⟩⟩
theorem sZ_rep : repV 0 (0, 51, 66, 81, 86) sZ := ⟨sZ_k, sZ_X, sZ_T, sZ_N, sZ_U, sZ_W, sZ_I, sZ_V, sZ_L, sZ_P, sZ_G, sZ_O, sZ_A, sZ_D, ⟨sZ_H, sZ_Hk⟩, sZ_B⟩
/-- another script, the rest as before -/
theorem repV_other {n : Nat} {v : hV} {s s2 : hS} (h : repV n v s) (hf : Fr (fun c _ => c = 0) s s2) : repV n v s2 := by
  obtain ⟨hv, hX, hT, hN, hU, hW, hI, hV, hLT, hPR, hG, hO, hA, hD, ⟨hH, hHk⟩, hB⟩ := id h
  have kt : vT v = 51 ∨ vT v = 66 := hv.1.1
  have kn : vN v = 81 ∨ vN v = 86 := hv.2.1
  exact ⟨hv, gX_fr hX hf (fun c k z f => by simp only [gX] at z <;> omega), gT_fr hT hf (fun c k z f => by simp only [gT, fR2, fP] at z <;> omega), gN_fr hN hf (fun c k z f => by simp only [gN, fN] at z <;> omega), gU_fr hU hf (fun c k z f => by simp only [gU] at z <;> omega), gW_fr hW hf (fun c k z f => by simp only [gW] at z <;> omega), gI_fr hI hf (fun c k z f => by simp only [gI] at z <;> omega), gV_fr hV hf (fun k => ⟨(fun z => absurd z (by decide)), (fun z => absurd z (by decide))⟩), pLT_fr hLT hf (fun k hk => (fun z => absurd z (by decide))), gPR_fr hPR hf (fun k => ⟨(fun z => absurd z (by decide)), (fun z => absurd z (by decide))⟩), gG_fr hG hf (fun c k z f => by simp only [gG] at z <;> omega), gO_fr hO hf (fun c k z f => by simp only [gO, fR2, fP] at z <;> omega), pA_fr hA hf ⟨(fun z => absurd z (by decide)), (fun z => absurd z (by decide))⟩ (fun k => ⟨(fun z => absurd z (by decide)), (fun z => absurd z (by decide)), (fun z => absurd z (by decide)), (fun z => absurd z (by decide)), (fun z => absurd z (by decide)), (fun z => absurd z (by decide))⟩), gDr_fr hD hf (fun c k z f => by simp only [gDr] at z <;> omega), ⟨pH_fr2 hH hf ⟨(fun z => absurd z (by decide)), (fun z => absurd z (by decide)), (fun z => absurd z (by decide)), (fun z => absurd z (by decide))⟩ (fun k => ⟨(fun z => absurd z (by decide)), (fun z => absurd z (by decide)), (fun z => absurd z (by decide)), (fun z => absurd z (by decide))⟩), pHk_fr hHk hf (fun k => ⟨(fun z => absurd z (by decide)), (fun z => absurd z (by decide)), (fun z => absurd z (by decide)), (fun z => absurd z (by decide))⟩)⟩, pB_fr hB hf (fun c k a b f => by omega) (fun k f => by omega)⟩
theorem rep_start (L : Nat) (xs : Nat → Int32) : Rep 0 (51, 66, 81, 86, pu_I0 L xs, pu_L0) := by
  have hf : Fr (fun c _ => c = 0) sZ (pu_I0 L xs, pu_L0) := by
    intro c k hc
    refine ⟨?_, rfl⟩
    show cond (Nat.ble 48 c) (pm_at 0 (pu_TI c) k) ((pe_ro L xs c).2.1 k) = cond (Nat.ble 48 c) (pm_at 0 (pu_TI c) k) ((pe_ro 0 (fun _ => 0) c).2.1 k)
    have hc : ¬ c = 0 := hc
    rw [pe_ro, pe_ro, if_neg hc, if_neg hc]
  exact repV_other sZ_rep hf
