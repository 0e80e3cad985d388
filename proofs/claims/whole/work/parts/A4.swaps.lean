/-! TENT AND NIGHT: the pairs that change what is read where -/
section
variable {v : hV} {s s2 : hS} {n : Nat}
theorem tent_rep (h : repV n v s) (hf : Fr (fun c k => fCt v c k ∨ fMt c k) s s2) (hx : pX s2) (ht : tOK (swT v) s2) : repV (n + 1) (swT v) s2 := by
  obtain ⟨hv, hX, hT, hN, hU, hW, hI, hV, hLT, hPR, hG, hO, hA, hD, ⟨hH, hHk⟩, hB⟩ := id h
  obtain ⟨⟨kt, ku, kne⟩, ⟨kn, km, kne2⟩⟩ := id hv
  unfold kT at kt ku
  unfold kN at kn km
  obtain ⟨t1, t2, t3, t4, t5, t6, t7, t8⟩ := ht
  have eN : pN v s2 := gN_fr hN hf (fun c k z f => by simp only [gN, fN, fCt, fMt, fD, fR, fFr, fM, fP, fW] at z f <;> omega)
  have eW : pNow n s2 := pNow_fresh hW t2 t3 (fun i h22 hi => by
    have hn := aCK_fr i h22 hi
    have hle := aC_le i hi
    refine ⟨cA_fr hf ?_, hf.l ?_⟩
    · simp only [fCt, fMt, fD, fR, fFr, fM, fP, fW] <;> omega
    · simp only [fCt, fMt, fD, fR, fFr, fM, fP, fW] <;> omega)
  have eU : pU s2 := gU_fr hU hf (fun c k z f => by simp only [gU, fCt, fMt, fD, fR, fFr, fM, fP, fW] at z f <;> omega)
  have eI : pI (n + 1) s2 := pI_mono (gI_fr hI hf (fun c k z f => by simp only [gI, fCt, fMt, fD, fR, fFr, fM, fP, fW] at z f <;> omega))
  have eV : pV s2 := gV_fr hV hf (fun k => ⟨by simp only [fCt, fMt, fD, fR, fFr, fM, fP, fW] <;> omega, by simp only [fCt, fMt, fD, fR, fFr, fM, fP, fW] <;> omega⟩)
  have eL : pLT s2 := pLT_fr hLT hf (fun k hk => by simp only [fCt, fMt, fD, fR, fFr, fM, fP, fW] <;> omega)
  have eP : pPR s2 := gPR_fr hPR hf (fun k => ⟨by simp only [fCt, fMt, fD, fR, fFr, fM, fP, fW] <;> omega, by simp only [fCt, fMt, fD, fR, fFr, fM, fP, fW] <;> omega⟩)
  have eA : pA s2 := pA_fr hA hf ⟨by simp only [fCt, fMt, fD, fR, fFr, fM, fP, fW] <;> omega, by simp only [fCt, fMt, fD, fR, fFr, fM, fP, fW] <;> omega⟩ (fun k => ⟨by simp only [fCt, fMt, fD, fR, fFr, fM, fP, fW] <;> omega, by simp only [fCt, fMt, fD, fR, fFr, fM, fP, fW] <;> omega, by simp only [fCt, fMt, fD, fR, fFr, fM, fP, fW] <;> omega, by simp only [fCt, fMt, fD, fR, fFr, fM, fP, fW] <;> omega, by simp only [fCt, fMt, fD, fR, fFr, fM, fP, fW] <;> omega, by simp only [fCt, fMt, fD, fR, fFr, fM, fP, fW] <;> omega⟩)
  have eD : pD s2 := gDr_fr hD hf (fun c k z f => by simp only [gDr, fCt, fMt, fD, fR, fFr, fM, fP, fW] at z f <;> omega)
  have eH : pH s2 ∧ pHk s2 := ⟨pH_fr2 hH hf ⟨by simp only [fCt, fMt, fD, fR, fFr, fM, fP, fW] <;> omega, by simp only [fCt, fMt, fD, fR, fFr, fM, fP, fW] <;> omega, by simp only [fCt, fMt, fD, fR, fFr, fM, fP, fW] <;> omega, by simp only [fCt, fMt, fD, fR, fFr, fM, fP, fW] <;> omega⟩ (fun k => ⟨by simp only [fCt, fMt, fD, fR, fFr, fM, fP, fW] <;> omega, by simp only [fCt, fMt, fD, fR, fFr, fM, fP, fW] <;> omega, by simp only [fCt, fMt, fD, fR, fFr, fM, fP, fW] <;> omega, by simp only [fCt, fMt, fD, fR, fFr, fM, fP, fW] <;> omega⟩), pHk_fr hHk hf (fun k => ⟨by simp only [fCt, fMt, fD, fR, fFr, fM, fP, fW] <;> omega, by simp only [fCt, fMt, fD, fR, fFr, fM, fP, fW] <;> omega, by simp only [fCt, fMt, fD, fR, fFr, fM, fP, fW] <;> omega, by simp only [fCt, fMt, fD, fR, fFr, fM, fP, fW] <;> omega⟩)⟩
  have eB : pB (swT v) s2 := ⟨by rw [hf.l (by simp only [fCt, fMt, fD, fR, fFr, fM, fP, fW] <;> omega)]; exact hB.1, Or.inl (by rw [t8]; rfl)⟩
  exact ⟨⟨⟨ku, kt, fun z => kne z.symm⟩, ⟨kn, km, kne2⟩⟩, hx, t1, eN, eU, pNow_mono eW, eI, eV, eL, eP, ⟨0, by decide, t4, t5, fun i hi => absurd hi (Nat.not_lt_zero i)⟩, Or.inl ⟨t6, t7⟩, eA, eD, eH, eB⟩
theorem night_rep (h : repV n v s) (hf : Fr (fun c k => fNc v c k ∨ fNm c k) s s2) (hx : pX s2) (ht : pN (swN v) s2) : repV (n + 1) (swN v) s2 := by
  obtain ⟨hv, hX, hT, hN, hU, hW, hI, hV, hLT, hPR, hG, hO, hA, hD, ⟨hH, hHk⟩, hB⟩ := id h
  obtain ⟨⟨kt, ku, kne⟩, ⟨kn, km, kne2⟩⟩ := id hv
  unfold kT at kt ku
  unfold kN at kn km
  have eT : pT v s2 := gT_fr hT hf (fun c k z f => by simp only [gT, fR2, fP, fNc, fNm, fN] at z f <;> omega)
  have eW : pNow n s2 := gW_fr hW hf (fun c k z f => by simp only [gW, fNc, fNm, fN] at z f <;> omega)
  have eG : pG s2 := gG_fr hG hf (fun c k z f => by simp only [gG, fNc, fNm, fN] at z f <;> omega)
  have eO : pO v s2 := gO_fr hO hf (fun c k z f => by simp only [gO, fR2, fP, fNc, fNm, fN] at z f <;> omega)
  have eB : pB v s2 := pB_fr hB hf (fun c k a b => by simp only [fNc, fNm, fN] <;> omega) (fun k => by simp only [fNc, fNm, fN] <;> omega)
  have eU : pU s2 := gU_fr hU hf (fun c k z f => by simp only [gU, fNc, fNm, fN] at z f <;> omega)
  have eI : pI (n + 1) s2 := pI_mono (gI_fr hI hf (fun c k z f => by simp only [gI, fNc, fNm, fN] at z f <;> omega))
  have eV : pV s2 := gV_fr hV hf (fun k => ⟨by simp only [fNc, fNm, fN] <;> omega, by simp only [fNc, fNm, fN] <;> omega⟩)
  have eL : pLT s2 := pLT_fr hLT hf (fun k hk => by simp only [fNc, fNm, fN] <;> omega)
  have eP : pPR s2 := gPR_fr hPR hf (fun k => ⟨by simp only [fNc, fNm, fN] <;> omega, by simp only [fNc, fNm, fN] <;> omega⟩)
  have eA : pA s2 := pA_fr hA hf ⟨by simp only [fNc, fNm, fN] <;> omega, by simp only [fNc, fNm, fN] <;> omega⟩ (fun k => ⟨by simp only [fNc, fNm, fN] <;> omega, by simp only [fNc, fNm, fN] <;> omega, by simp only [fNc, fNm, fN] <;> omega, by simp only [fNc, fNm, fN] <;> omega, by simp only [fNc, fNm, fN] <;> omega, by simp only [fNc, fNm, fN] <;> omega⟩)
  have eD : pD s2 := gDr_fr hD hf (fun c k z f => by simp only [gDr, fNc, fNm, fN] at z f <;> omega)
  have eH : pH s2 ∧ pHk s2 := ⟨pH_fr2 hH hf ⟨by simp only [fNc, fNm, fN] <;> omega, by simp only [fNc, fNm, fN] <;> omega, by simp only [fNc, fNm, fN] <;> omega, by simp only [fNc, fNm, fN] <;> omega⟩ (fun k => ⟨by simp only [fNc, fNm, fN] <;> omega, by simp only [fNc, fNm, fN] <;> omega, by simp only [fNc, fNm, fN] <;> omega, by simp only [fNc, fNm, fN] <;> omega⟩), pHk_fr hHk hf (fun k => ⟨by simp only [fNc, fNm, fN] <;> omega, by simp only [fNc, fNm, fN] <;> omega, by simp only [fNc, fNm, fN] <;> omega, by simp only [fNc, fNm, fN] <;> omega⟩)⟩
  exact ⟨⟨⟨kt, ku, kne⟩, ⟨km, kn, fun z => kne2 z.symm⟩⟩, hx, eT, ht, eU, pNow_mono eW, eI, eV, eL, eP, eG, eO, eA, eD, eH, eB⟩
theorem tent_keep (h : repV n v s) (hf : Fr (fun c k => fCe v c k ∨ fMe c k) s s2) (hx : pX s2) : repV (n + 1) v s2 := by
  obtain ⟨⟨⟨kt, ku, kne⟩, ⟨kn, km, kne2⟩⟩, -⟩ := id h
  unfold kT at kt ku
  unfold kN at kn km
  exact repV_go h hf (Or.inl (hx)) (Or.inr (fun c k z f => by simp only [gT, fR2, fP, fCe, fMe, fD, fR, fM, fP] at z f <;> omega)) (Or.inr (fun c k z f => by simp only [gN, fN, fCe, fMe, fD, fR, fM, fP] at z f <;> omega)) (Or.inr (fun c k z f => by simp only [gU, fCe, fMe, fD, fR, fM, fP] at z f <;> omega)) (Or.inr (Or.inr (fun c k z f => by simp only [gW, fCe, fMe, fD, fR, fM, fP] at z f <;> omega))) (Or.inr (fun c k z f => by simp only [gI, fCe, fMe, fD, fR, fM, fP] at z f <;> omega)) (Or.inr (fun c k z f => by simp only [gV, fCe, fMe, fD, fR, fM, fP] at z f <;> omega)) (fun c k z f => by simp only [gLT, gPR, fCe, fMe, fD, fR, fM, fP] at z f <;> omega) (Or.inr (fun c k z f => by simp only [gG, fCe, fMe, fD, fR, fM, fP] at z f <;> omega)) (Or.inr (fun c k z f => by simp only [gO, fR2, fP, fCe, fMe, fD, fR, fM, fP] at z f <;> omega)) (Or.inr (fun c k z f => by simp only [gA, fCe, fMe, fD, fR, fM, fP] at z f <;> omega)) (Or.inr (fun c k z f => by simp only [gDr, fCe, fMe, fD, fR, fM, fP] at z f <;> omega)) (Or.inr (fun c k z f => by simp only [gH, fCe, fMe, fD, fR, fM, fP] at z f <;> omega)) (Or.inr (fun c k z f => by simp only [gB, fCe, fMe, fD, fR, fM, fP] at z f <;> omega))
theorem qp_tent {e L : Nat} : pl_pairI L Rep (e + 12) 15 155 [] := by
  intro n S hn hR
  obtain ⟨t, u, a, b, s⟩ := S
  have h : repV n (L, t, u, a, b) s := hR
  refine pc_mono (th_tent (v := (L, t, u, a, b)) h.1 h.2.1) ?_
  rintro r h1 ⟨x, v1, s1, rfl, rfl, hl, h0, hm⟩
  obtain ⟨L1, t1, u1, a1, b1⟩ := v1
  have hl : L1 = L := hl
  subst L1
  refine ⟨x, (t1, u1, a1, b1, s1), rfl, rfl, funext h0, pc_mono hm ?_⟩
  rintro r h2 ⟨x2, s2, rfl, rfl, rfl, hx2, hc⟩
  refine ⟨(t1, u1, a1, b1, s2), rfl, rfl, ?_⟩
  show repV (n + 1) (L, t1, u1, a1, b1) s2
  rcases hc with ⟨hv, hf⟩ | ⟨hv, hf, ht⟩
  · rw [hv]; exact tent_keep h hf hx2
  · rw [hv] at ht
    rw [hv]
    exact tent_rep h hf hx2 ht
theorem night_keep (h : repV n v s) (hf : Fr (fun c k => fNc v c k ∨ fNe c k) s s2) (hx : pX s2) : repV (n + 1) v s2 := by
  obtain ⟨⟨⟨kt, ku, kne⟩, ⟨kn, km, kne2⟩⟩, -⟩ := id h
  unfold kT at kt ku
  unfold kN at kn km
  exact repV_go h hf (Or.inl (hx)) (Or.inr (fun c k z f => by simp only [gT, fR2, fP, fNc, fNe, fN, fNd] at z f <;> omega)) (Or.inr (fun c k z f => by simp only [gN, fN, fNc, fNe, fN, fNd] at z f <;> omega)) (Or.inr (fun c k z f => by simp only [gU, fNc, fNe, fN, fNd] at z f <;> omega)) (Or.inr (Or.inr (fun c k z f => by simp only [gW, fNc, fNe, fN, fNd] at z f <;> omega))) (Or.inr (fun c k z f => by simp only [gI, fNc, fNe, fN, fNd] at z f <;> omega)) (Or.inr (fun c k z f => by simp only [gV, fNc, fNe, fN, fNd] at z f <;> omega)) (fun c k z f => by simp only [gLT, gPR, fNc, fNe, fN, fNd] at z f <;> omega) (Or.inr (fun c k z f => by simp only [gG, fNc, fNe, fN, fNd] at z f <;> omega)) (Or.inr (fun c k z f => by simp only [gO, fR2, fP, fNc, fNe, fN, fNd] at z f <;> omega)) (Or.inr (fun c k z f => by simp only [gA, fNc, fNe, fN, fNd] at z f <;> omega)) (Or.inr (fun c k z f => by simp only [gDr, fNc, fNe, fN, fNd] at z f <;> omega)) (Or.inr (fun c k z f => by simp only [gH, fNc, fNe, fN, fNd] at z f <;> omega)) (Or.inr (fun c k z f => by simp only [gB, fNc, fNe, fN, fNd] at z f <;> omega))
theorem qp_night {e L : Nat} : pl_pairI L Rep (e + 12) 47 170 [] := by
  intro n S hn hR
  obtain ⟨t, u, a, b, s⟩ := S
  have h : repV n (L, t, u, a, b) s := hR
  refine pc_mono (th_night (v := (L, t, u, a, b)) h.1 h.2.1) ?_
  rintro r h1 ⟨x, v1, s1, rfl, rfl, hl, h0, hm⟩
  obtain ⟨L1, t1, u1, a1, b1⟩ := v1
  have hl : L1 = L := hl
  subst L1
  refine ⟨x, (t1, u1, a1, b1, s1), rfl, rfl, funext h0, pc_mono hm ?_⟩
  rintro r h2 ⟨x2, s2, rfl, rfl, rfl, hx2, hc⟩
  refine ⟨(t1, u1, a1, b1, s2), rfl, rfl, ?_⟩
  show repV (n + 1) (L, t1, u1, a1, b1) s2
  rcases hc with ⟨hv, hf⟩ | ⟨hv, hf, ht⟩
  · rw [hv]; exact night_keep h hf hx2
  · rw [hv] at ht
    rw [hv]
    exact night_rep h hf hx2 ht
end
