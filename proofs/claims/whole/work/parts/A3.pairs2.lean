/-! EACH PAIR OF METHODS KEEPS WHAT IS SO BETWEEN TWO CALLS, the others -/
theorem qp_storm {e L : Nat} (x0 : Int32) (x1 : Int32) : pl_pairI L Rep (e + 12) 99 203 [.int x0, .int x1] := pair_I (fun n v s hn h => by
  obtain ⟨hv, hX, hT, hN, hU, hW, hI, hV, hLT, hPR, hG, hO, hA, hD, ⟨hH, hHk⟩, hB⟩ := id h
  have kt : vT v = 51 ∨ vT v = 66 := hv.1.1
  have kn : vN v = 81 ∨ vN v = 86 := hv.2.1
  refine ⟨_, _, th_storm hv.1.1 hT hPR _ _, fun k f => ?_, fun s2 hf hp => ?_⟩
  · simp only [fStm, fSt, fSm, fRs] at f <;> omega
  · have hp : pG s2 ∨ s2 = s := hp
    rcases hp with hp | hp
    · exact repV_go h hf (Or.inr (fun c k z f => by simp only [gX, fStm, fSt, fSm, fRs] at z f <;> omega)) (Or.inr (fun c k z f => by simp only [gT, fR2, fP, fStm, fSt, fSm, fRs] at z f <;> omega)) (Or.inr (fun c k z f => by simp only [gN, fN, fStm, fSt, fSm, fRs] at z f <;> omega)) (Or.inr (fun c k z f => by simp only [gU, fStm, fSt, fSm, fRs] at z f <;> omega)) (Or.inr (Or.inr (fun c k z f => by simp only [gW, fStm, fSt, fSm, fRs] at z f <;> omega))) (Or.inr (fun c k z f => by simp only [gI, fStm, fSt, fSm, fRs] at z f <;> omega)) (Or.inr (fun c k z f => by simp only [gV, fStm, fSt, fSm, fRs] at z f <;> omega)) (fun c k z f => by simp only [gLT, gPR, fStm, fSt, fSm, fRs] at z f <;> omega) (Or.inl (hp)) (Or.inr (fun c k z f => by simp only [gO, fR2, fP, fStm, fSt, fSm, fRs] at z f <;> omega)) (Or.inr (fun c k z f => by simp only [gA, fStm, fSt, fSm, fRs] at z f <;> omega)) (Or.inr (fun c k z f => by simp only [gDr, fStm, fSt, fSm, fRs] at z f <;> omega)) (Or.inr (fun c k z f => by simp only [gH, fStm, fSt, fSm, fRs] at z f <;> omega)) (Or.inr (fun c k z f => by simp only [gB, fStm, fSt, fSm, fRs] at z f <;> omega))
    · rw [hp]; exact repV_mono h)
theorem qp_gone {e L : Nat} (x0 : Int32) (x1 : Int32) : pl_pairI L Rep (e + 12) 109 212 [.int x0, .int x1] := pair_I (fun n v s hn h => by
  obtain ⟨hv, hX, hT, hN, hU, hW, hI, hV, hLT, hPR, hG, hO, hA, hD, ⟨hH, hHk⟩, hB⟩ := id h
  have kt : vT v = 51 ∨ vT v = 66 := hv.1.1
  have kn : vN v = 81 ∨ vN v = 86 := hv.2.1
  refine ⟨_, _, th_gone hG _ _, fun k f => ?_, fun s2 hf hp => ?_⟩
  · simp only [fG] at f <;> omega
  · have hp : s2 = s := hp
    rw [hp]; exact repV_mono h)
theorem qp_weakest {e L : Nat} (x0 : Int32) (x1 : Int32) : pl_pairI L Rep (e + 12) 110 213 [.int x0, .int x1] := pair_I (fun n v s hn h => by
  obtain ⟨hv, hX, hT, hN, hU, hW, hI, hV, hLT, hPR, hG, hO, hA, hD, ⟨hH, hHk⟩, hB⟩ := id h
  have kt : vT v = 51 ∨ vT v = 66 := hv.1.1
  have kn : vN v = 81 ∨ vN v = 86 := hv.2.1
  refine ⟨_, _, th_weakest hv.1.1 hT hPR _ _, fun k f => ?_, fun s2 hf hp => ?_⟩
  · simp only [fWk, fSt, fSm, fRs] at f <;> omega
  · have hp : True := hp
    exact repV_go h hf (Or.inr (fun c k z f => by simp only [gX, fWk, fSt, fSm, fRs] at z f <;> omega)) (Or.inr (fun c k z f => by simp only [gT, fR2, fP, fWk, fSt, fSm, fRs] at z f <;> omega)) (Or.inr (fun c k z f => by simp only [gN, fN, fWk, fSt, fSm, fRs] at z f <;> omega)) (Or.inr (fun c k z f => by simp only [gU, fWk, fSt, fSm, fRs] at z f <;> omega)) (Or.inr (Or.inr (fun c k z f => by simp only [gW, fWk, fSt, fSm, fRs] at z f <;> omega))) (Or.inr (fun c k z f => by simp only [gI, fWk, fSt, fSm, fRs] at z f <;> omega)) (Or.inr (fun c k z f => by simp only [gV, fWk, fSt, fSm, fRs] at z f <;> omega)) (fun c k z f => by simp only [gLT, gPR, fWk, fSt, fSm, fRs] at z f <;> omega) (Or.inr (fun c k z f => by simp only [gG, fWk, fSt, fSm, fRs] at z f <;> omega)) (Or.inr (fun c k z f => by simp only [gO, fR2, fP, fWk, fSt, fSm, fRs] at z f <;> omega)) (Or.inr (fun c k z f => by simp only [gA, fWk, fSt, fSm, fRs] at z f <;> omega)) (Or.inr (fun c k z f => by simp only [gDr, fWk, fSt, fSm, fRs] at z f <;> omega)) (Or.inr (fun c k z f => by simp only [gH, fWk, fSt, fSm, fRs] at z f <;> omega)) (Or.inr (fun c k z f => by simp only [gB, fWk, fSt, fSm, fRs] at z f <;> omega)))
theorem qp_act {e L : Nat} (x0 : Int32) (x1 : Int32) (x2 : Int32) : pl_pairI L Rep (e + 12) 111 214 [.int x0, .int x1, .int x2] := pair_I (fun n v s hn h => by
  obtain ⟨hv, hX, hT, hN, hU, hW, hI, hV, hLT, hPR, hG, hO, hA, hD, ⟨hH, hHk⟩, hB⟩ := id h
  have kt : vT v = 51 ∨ vT v = 66 := hv.1.1
  have kn : vN v = 81 ∨ vN v = 86 := hv.2.1
  refine ⟨_, _, th_act hA _ _ _, fun k f => ?_, fun s2 hf hp => ?_⟩
  · simp only [fA] at f <;> omega
  · have hp : pA s2 := hp
    exact repV_go h hf (Or.inr (fun c k z f => by simp only [gX, fA] at z f <;> omega)) (Or.inr (fun c k z f => by simp only [gT, fR2, fP, fA] at z f <;> omega)) (Or.inr (fun c k z f => by simp only [gN, fN, fA] at z f <;> omega)) (Or.inr (fun c k z f => by simp only [gU, fA] at z f <;> omega)) (Or.inr (Or.inr (fun c k z f => by simp only [gW, fA] at z f <;> omega))) (Or.inr (fun c k z f => by simp only [gI, fA] at z f <;> omega)) (Or.inr (fun c k z f => by simp only [gV, fA] at z f <;> omega)) (fun c k z f => by simp only [gLT, gPR, fA] at z f <;> omega) (Or.inr (fun c k z f => by simp only [gG, fA] at z f <;> omega)) (Or.inr (fun c k z f => by simp only [gO, fR2, fP, fA] at z f <;> omega)) (Or.inl (hp)) (Or.inr (fun c k z f => by simp only [gDr, fA] at z f <;> omega)) (Or.inr (fun c k z f => by simp only [gH, fA] at z f <;> omega)) (Or.inr (fun c k z f => by simp only [gB, fA] at z f <;> omega)))
theorem qp_clear {e L : Nat} : pl_pairI L Rep (e + 12) 114 215 [] := pair_I (fun n v s hn h => by
  obtain ⟨hv, hX, hT, hN, hU, hW, hI, hV, hLT, hPR, hG, hO, hA, hD, ⟨hH, hHk⟩, hB⟩ := id h
  have kt : vT v = 51 ∨ vT v = 66 := hv.1.1
  have kn : vN v = 81 ∨ vN v = 86 := hv.2.1
  refine ⟨_, _, th_clear hA, fun k f => ?_, fun s2 hf hp => ?_⟩
  · simp only [fA] at f <;> omega
  · have hp : pA s2 := hp
    exact repV_go h hf (Or.inr (fun c k z f => by simp only [gX, fA] at z f <;> omega)) (Or.inr (fun c k z f => by simp only [gT, fR2, fP, fA] at z f <;> omega)) (Or.inr (fun c k z f => by simp only [gN, fN, fA] at z f <;> omega)) (Or.inr (fun c k z f => by simp only [gU, fA] at z f <;> omega)) (Or.inr (Or.inr (fun c k z f => by simp only [gW, fA] at z f <;> omega))) (Or.inr (fun c k z f => by simp only [gI, fA] at z f <;> omega)) (Or.inr (fun c k z f => by simp only [gV, fA] at z f <;> omega)) (fun c k z f => by simp only [gLT, gPR, fA] at z f <;> omega) (Or.inr (fun c k z f => by simp only [gG, fA] at z f <;> omega)) (Or.inr (fun c k z f => by simp only [gO, fR2, fP, fA] at z f <;> omega)) (Or.inl (hp)) (Or.inr (fun c k z f => by simp only [gDr, fA] at z f <;> omega)) (Or.inr (fun c k z f => by simp only [gH, fA] at z f <;> omega)) (Or.inr (fun c k z f => by simp only [gB, fA] at z f <;> omega)))
theorem qp_least {e L : Nat} : pl_pairI L Rep (e + 12) 115 216 [] := pair_I (fun n v s hn h => by
  obtain ⟨hv, hX, hT, hN, hU, hW, hI, hV, hLT, hPR, hG, hO, hA, hD, ⟨hH, hHk⟩, hB⟩ := id h
  have kt : vT v = 51 ∨ vT v = 66 := hv.1.1
  have kn : vN v = 81 ∨ vN v = 86 := hv.2.1
  refine ⟨_, _, th_least hA, fun k f => ?_, fun s2 hf hp => ?_⟩
  · simp only [fA] at f <;> omega
  · have hp : pA s2 := hp
    exact repV_go h hf (Or.inr (fun c k z f => by simp only [gX, fA] at z f <;> omega)) (Or.inr (fun c k z f => by simp only [gT, fR2, fP, fA] at z f <;> omega)) (Or.inr (fun c k z f => by simp only [gN, fN, fA] at z f <;> omega)) (Or.inr (fun c k z f => by simp only [gU, fA] at z f <;> omega)) (Or.inr (Or.inr (fun c k z f => by simp only [gW, fA] at z f <;> omega))) (Or.inr (fun c k z f => by simp only [gI, fA] at z f <;> omega)) (Or.inr (fun c k z f => by simp only [gV, fA] at z f <;> omega)) (fun c k z f => by simp only [gLT, gPR, fA] at z f <;> omega) (Or.inr (fun c k z f => by simp only [gG, fA] at z f <;> omega)) (Or.inr (fun c k z f => by simp only [gO, fR2, fP, fA] at z f <;> omega)) (Or.inl (hp)) (Or.inr (fun c k z f => by simp only [gDr, fA] at z f <;> omega)) (Or.inr (fun c k z f => by simp only [gH, fA] at z f <;> omega)) (Or.inr (fun c k z f => by simp only [gB, fA] at z f <;> omega)))
theorem qp_tripod {e L : Nat} (x0 : Int32) (x1 : Int32) (x2 : Int32) : pl_pairI L Rep (e + 12) 119 220 [.int x0, .int x1, .int x2] := pair_I (fun n v s hn h => by
  obtain ⟨hv, hX, hT, hN, hU, hW, hI, hV, hLT, hPR, hG, hO, hA, hD, ⟨hH, hHk⟩, hB⟩ := id h
  have kt : vT v = 51 ∨ vT v = 66 := hv.1.1
  have kn : vN v = 81 ∨ vN v = 86 := hv.2.1
  refine ⟨_, _, th_tripod hv.1.1 hT _ _ _, fun k f => ?_, fun s2 hf hp => ?_⟩
  · simp only [fTr, fBu] at f <;> omega
  · have hp : pO v s2 ∨ s2 = s := hp
    rcases hp with hp | hp
    · exact repV_go h hf (Or.inr (fun c k z f => by simp only [gX, fTr, fBu] at z f <;> omega)) (Or.inr (fun c k z f => by simp only [gT, fR2, fP, fTr, fBu] at z f <;> omega)) (Or.inr (fun c k z f => by simp only [gN, fN, fTr, fBu] at z f <;> omega)) (Or.inr (fun c k z f => by simp only [gU, fTr, fBu] at z f <;> omega)) (Or.inr (Or.inr (fun c k z f => by simp only [gW, fTr, fBu] at z f <;> omega))) (Or.inr (fun c k z f => by simp only [gI, fTr, fBu] at z f <;> omega)) (Or.inr (fun c k z f => by simp only [gV, fTr, fBu] at z f <;> omega)) (fun c k z f => by simp only [gLT, gPR, fTr, fBu] at z f <;> omega) (Or.inr (fun c k z f => by simp only [gG, fTr, fBu] at z f <;> omega)) (Or.inl (hp)) (Or.inr (fun c k z f => by simp only [gA, fTr, fBu] at z f <;> omega)) (Or.inr (fun c k z f => by simp only [gDr, fTr, fBu] at z f <;> omega)) (Or.inr (fun c k z f => by simp only [gH, fTr, fBu] at z f <;> omega)) (Or.inr (fun c k z f => by simp only [gB, fTr, fBu] at z f <;> omega))
    · rw [hp]; exact repV_mono h)
theorem qp_fork {e L : Nat} (x0 : Int32) : pl_pairI L Rep (e + 12) 128 221 [.int x0] := pair_I (fun n v s hn h => by
  obtain ⟨hv, hX, hT, hN, hU, hW, hI, hV, hLT, hPR, hG, hO, hA, hD, ⟨hH, hHk⟩, hB⟩ := id h
  have kt : vT v = 51 ∨ vT v = 66 := hv.1.1
  have kn : vN v = 81 ∨ vN v = 86 := hv.2.1
  refine ⟨_, _, th_fork hv.1.1 hT hO _, fun k f => ?_, fun s2 hf hp => ?_⟩
  · simp only [fTr, fBu] at f <;> omega
  · have hp : s2 = s := hp
    rw [hp]; exact repV_mono h)
theorem qp_order {e L : Nat} (x0 : Int32) : pl_pairI L Rep (e + 12) 129 223 [.int x0] := pair_I (fun n v s hn h => by
  obtain ⟨hv, hX, hT, hN, hU, hW, hI, hV, hLT, hPR, hG, hO, hA, hD, ⟨hH, hHk⟩, hB⟩ := id h
  have kt : vT v = 51 ∨ vT v = 66 := hv.1.1
  have kn : vN v = 81 ∨ vN v = 86 := hv.2.1
  refine ⟨_, _, th_order hO _, fun k f => ?_, fun s2 hf hp => ?_⟩
  · simp only [fOr] at f <;> omega
  · have hp : True := hp
    exact repV_go h hf (Or.inr (fun c k z f => by simp only [gX, fOr] at z f <;> omega)) (Or.inr (fun c k z f => by simp only [gT, fR2, fP, fOr] at z f <;> omega)) (Or.inr (fun c k z f => by simp only [gN, fN, fOr] at z f <;> omega)) (Or.inr (fun c k z f => by simp only [gU, fOr] at z f <;> omega)) (Or.inr (Or.inr (fun c k z f => by simp only [gW, fOr] at z f <;> omega))) (Or.inr (fun c k z f => by simp only [gI, fOr] at z f <;> omega)) (Or.inr (fun c k z f => by simp only [gV, fOr] at z f <;> omega)) (fun c k z f => by simp only [gLT, gPR, fOr] at z f <;> omega) (Or.inr (fun c k z f => by simp only [gG, fOr] at z f <;> omega)) (Or.inr (fun c k z f => by simp only [gO, fR2, fP, fOr] at z f <;> omega)) (Or.inr (fun c k z f => by simp only [gA, fOr] at z f <;> omega)) (Or.inr (fun c k z f => by simp only [gDr, fOr] at z f <;> omega)) (Or.inr (fun c k z f => by simp only [gH, fOr] at z f <;> omega)) (Or.inr (fun c k z f => by simp only [gB, fOr] at z f <;> omega)))
theorem qp_hide {e L : Nat} (x0 : Int32) : pl_pairI L Rep (e + 12) 130 228 [.int x0] := pair_I (fun n v s hn h => by
  obtain ⟨hv, hX, hT, hN, hU, hW, hI, hV, hLT, hPR, hG, hO, hA, hD, ⟨hH, hHk⟩, hB⟩ := id h
  have kt : vT v = 51 ∨ vT v = 66 := hv.1.1
  have kn : vN v = 81 ∨ vN v = 86 := hv.2.1
  refine ⟨_, _, th_hide hH _, fun k f => ?_, fun s2 hf hp => ?_⟩
  · simp only [fH] at f <;> omega
  · have hp : pH s2 ∧ (s2 = s ∨ pHn s2) := hp
    rcases hp.2 with hp2 | hp2
    · rw [hp2]; exact repV_mono h
    · exact repV_go h hf (Or.inr (fun c k z f => by simp only [gX, fH] at z f <;> omega)) (Or.inr (fun c k z f => by simp only [gT, fR2, fP, fH] at z f <;> omega)) (Or.inr (fun c k z f => by simp only [gN, fN, fH] at z f <;> omega)) (Or.inr (fun c k z f => by simp only [gU, fH] at z f <;> omega)) (Or.inr (Or.inr (fun c k z f => by simp only [gW, fH] at z f <;> omega))) (Or.inr (fun c k z f => by simp only [gI, fH] at z f <;> omega)) (Or.inr (fun c k z f => by simp only [gV, fH] at z f <;> omega)) (fun c k z f => by simp only [gLT, gPR, fH] at z f <;> omega) (Or.inr (fun c k z f => by simp only [gG, fH] at z f <;> omega)) (Or.inr (fun c k z f => by simp only [gO, fR2, fP, fH] at z f <;> omega)) (Or.inr (fun c k z f => by simp only [gA, fH] at z f <;> omega)) (Or.inr (fun c k z f => by simp only [gDr, fH] at z f <;> omega)) (Or.inl (⟨hp.1, pHk_n hp2⟩)) (Or.inr (fun c k z f => by simp only [gB, fH] at z f <;> omega)))
theorem qp_piece {e L : Nat} (x0 : Int32) : pl_pairI L Rep (e + 12) 132 229 [.int x0] := pair_I (fun n v s hn h => by
  obtain ⟨hv, hX, hT, hN, hU, hW, hI, hV, hLT, hPR, hG, hO, hA, hD, ⟨hH, hHk⟩, hB⟩ := id h
  have kt : vT v = 51 ∨ vT v = 66 := hv.1.1
  have kn : vN v = 81 ∨ vN v = 86 := hv.2.1
  refine ⟨_, _, th_piece hH _, fun k f => ?_, fun s2 hf hp => ?_⟩
  · simp only [fH] at f <;> omega
  · have hp : pH s2 ∧ (s2 = s ∨ pHn s2) := hp
    rcases hp.2 with hp2 | hp2
    · rw [hp2]; exact repV_mono h
    · exact repV_go h hf (Or.inr (fun c k z f => by simp only [gX, fH] at z f <;> omega)) (Or.inr (fun c k z f => by simp only [gT, fR2, fP, fH] at z f <;> omega)) (Or.inr (fun c k z f => by simp only [gN, fN, fH] at z f <;> omega)) (Or.inr (fun c k z f => by simp only [gU, fH] at z f <;> omega)) (Or.inr (Or.inr (fun c k z f => by simp only [gW, fH] at z f <;> omega))) (Or.inr (fun c k z f => by simp only [gI, fH] at z f <;> omega)) (Or.inr (fun c k z f => by simp only [gV, fH] at z f <;> omega)) (fun c k z f => by simp only [gLT, gPR, fH] at z f <;> omega) (Or.inr (fun c k z f => by simp only [gG, fH] at z f <;> omega)) (Or.inr (fun c k z f => by simp only [gO, fR2, fP, fH] at z f <;> omega)) (Or.inr (fun c k z f => by simp only [gA, fH] at z f <;> omega)) (Or.inr (fun c k z f => by simp only [gDr, fH] at z f <;> omega)) (Or.inl (⟨hp.1, pHk_n hp2⟩)) (Or.inr (fun c k z f => by simp only [gB, fH] at z f <;> omega)))
theorem qp_scrap {e L : Nat} : pl_pairI L Rep (e + 12) 134 230 [] := pair_I (fun n v s hn h => by
  obtain ⟨hv, hX, hT, hN, hU, hW, hI, hV, hLT, hPR, hG, hO, hA, hD, ⟨hH, hHk⟩, hB⟩ := id h
  have kt : vT v = 51 ∨ vT v = 66 := hv.1.1
  have kn : vN v = 81 ∨ vN v = 86 := hv.2.1
  refine ⟨_, _, th_scrap hH, fun k f => ?_, fun s2 hf hp => ?_⟩
  · simp only [fH] at f <;> omega
  · have hp : pH s2 ∧ pHn s2 := hp
    exact repV_go h hf (Or.inr (fun c k z f => by simp only [gX, fH] at z f <;> omega)) (Or.inr (fun c k z f => by simp only [gT, fR2, fP, fH] at z f <;> omega)) (Or.inr (fun c k z f => by simp only [gN, fN, fH] at z f <;> omega)) (Or.inr (fun c k z f => by simp only [gU, fH] at z f <;> omega)) (Or.inr (Or.inr (fun c k z f => by simp only [gW, fH] at z f <;> omega))) (Or.inr (fun c k z f => by simp only [gI, fH] at z f <;> omega)) (Or.inr (fun c k z f => by simp only [gV, fH] at z f <;> omega)) (fun c k z f => by simp only [gLT, gPR, fH] at z f <;> omega) (Or.inr (fun c k z f => by simp only [gG, fH] at z f <;> omega)) (Or.inr (fun c k z f => by simp only [gO, fR2, fP, fH] at z f <;> omega)) (Or.inr (fun c k z f => by simp only [gA, fH] at z f <;> omega)) (Or.inr (fun c k z f => by simp only [gDr, fH] at z f <;> omega)) (Or.inl (⟨hp.1, pHk_n hp.2⟩)) (Or.inr (fun c k z f => by simp only [gB, fH] at z f <;> omega)))
theorem qp_cut {e L : Nat} (x0 : Int32) : pl_pairI L Rep (e + 12) 136 231 [.int x0] := pair_I (fun n v s hn h => by
  obtain ⟨hv, hX, hT, hN, hU, hW, hI, hV, hLT, hPR, hG, hO, hA, hD, ⟨hH, hHk⟩, hB⟩ := id h
  have kt : vT v = 51 ∨ vT v = 66 := hv.1.1
  have kn : vN v = 81 ∨ vN v = 86 := hv.2.1
  refine ⟨_, _, th_cut hH hHk _, fun k f => ?_, fun s2 hf hp => ?_⟩
  · simp only [fH] at f <;> omega
  · have hp : pH s2 ∧ pHk s2 := hp
    exact repV_go h hf (Or.inr (fun c k z f => by simp only [gX, fH] at z f <;> omega)) (Or.inr (fun c k z f => by simp only [gT, fR2, fP, fH] at z f <;> omega)) (Or.inr (fun c k z f => by simp only [gN, fN, fH] at z f <;> omega)) (Or.inr (fun c k z f => by simp only [gU, fH] at z f <;> omega)) (Or.inr (Or.inr (fun c k z f => by simp only [gW, fH] at z f <;> omega))) (Or.inr (fun c k z f => by simp only [gI, fH] at z f <;> omega)) (Or.inr (fun c k z f => by simp only [gV, fH] at z f <;> omega)) (fun c k z f => by simp only [gLT, gPR, fH] at z f <;> omega) (Or.inr (fun c k z f => by simp only [gG, fH] at z f <;> omega)) (Or.inr (fun c k z f => by simp only [gO, fR2, fP, fH] at z f <;> omega)) (Or.inr (fun c k z f => by simp only [gA, fH] at z f <;> omega)) (Or.inr (fun c k z f => by simp only [gDr, fH] at z f <;> omega)) (Or.inl (hp)) (Or.inr (fun c k z f => by simp only [gB, fH] at z f <;> omega)))
theorem qp_month {e L : Nat} (x0 : Int32) (x1 : Int32) (hx : x1 = 0 ∨ x1 = 1) : pl_pairI L Rep (e + 12) 144 235 [.int x0, .int x1] := pair_I (fun n v s hn h => by
  obtain ⟨hv, hX, hT, hN, hU, hW, hI, hV, hLT, hPR, hG, hO, hA, hD, ⟨hH, hHk⟩, hB⟩ := id h
  have kt : vT v = 51 ∨ vT v = 66 := hv.1.1
  have kn : vN v = 81 ∨ vN v = 86 := hv.2.1
  refine ⟨_, _, th_month hD _ _ hx, fun k f => ?_, fun s2 hf hp => ?_⟩
  · simp only [fDr] at f <;> omega
  · have hp : pD s2 := hp
    exact repV_go h hf (Or.inr (fun c k z f => by simp only [gX, fDr] at z f <;> omega)) (Or.inr (fun c k z f => by simp only [gT, fR2, fP, fDr] at z f <;> omega)) (Or.inr (fun c k z f => by simp only [gN, fN, fDr] at z f <;> omega)) (Or.inr (fun c k z f => by simp only [gU, fDr] at z f <;> omega)) (Or.inr (Or.inr (fun c k z f => by simp only [gW, fDr] at z f <;> omega))) (Or.inr (fun c k z f => by simp only [gI, fDr] at z f <;> omega)) (Or.inr (fun c k z f => by simp only [gV, fDr] at z f <;> omega)) (fun c k z f => by simp only [gLT, gPR, fDr] at z f <;> omega) (Or.inr (fun c k z f => by simp only [gG, fDr] at z f <;> omega)) (Or.inr (fun c k z f => by simp only [gO, fR2, fP, fDr] at z f <;> omega)) (Or.inr (fun c k z f => by simp only [gA, fDr] at z f <;> omega)) (Or.inl (hp)) (Or.inr (fun c k z f => by simp only [gH, fDr] at z f <;> omega)) (Or.inr (fun c k z f => by simp only [gB, fDr] at z f <;> omega)))
theorem qp_stay {e L : Nat} : pl_pairI L Rep (e + 12) 145 236 [] := pair_I (fun n v s hn h => by
  obtain ⟨hv, hX, hT, hN, hU, hW, hI, hV, hLT, hPR, hG, hO, hA, hD, ⟨hH, hHk⟩, hB⟩ := id h
  have kt : vT v = 51 ∨ vT v = 66 := hv.1.1
  have kn : vN v = 81 ∨ vN v = 86 := hv.2.1
  refine ⟨_, _, th_stay hD, fun k f => ?_, fun s2 hf hp => ?_⟩
  · simp only [fDr] at f <;> omega
  · have hp : pD s2 := hp
    exact repV_go h hf (Or.inr (fun c k z f => by simp only [gX, fDr] at z f <;> omega)) (Or.inr (fun c k z f => by simp only [gT, fR2, fP, fDr] at z f <;> omega)) (Or.inr (fun c k z f => by simp only [gN, fN, fDr] at z f <;> omega)) (Or.inr (fun c k z f => by simp only [gU, fDr] at z f <;> omega)) (Or.inr (Or.inr (fun c k z f => by simp only [gW, fDr] at z f <;> omega))) (Or.inr (fun c k z f => by simp only [gI, fDr] at z f <;> omega)) (Or.inr (fun c k z f => by simp only [gV, fDr] at z f <;> omega)) (fun c k z f => by simp only [gLT, gPR, fDr] at z f <;> omega) (Or.inr (fun c k z f => by simp only [gG, fDr] at z f <;> omega)) (Or.inr (fun c k z f => by simp only [gO, fR2, fP, fDr] at z f <;> omega)) (Or.inr (fun c k z f => by simp only [gA, fDr] at z f <;> omega)) (Or.inl (hp)) (Or.inr (fun c k z f => by simp only [gH, fDr] at z f <;> omega)) (Or.inr (fun c k z f => by simp only [gB, fDr] at z f <;> omega)))
theorem qp_plan {e L : Nat} (x0 : Int32) : pl_pairI L Rep (e + 12) 146 237 [.int x0] := pair_I (fun n v s hn h => by
  obtain ⟨hv, hX, hT, hN, hU, hW, hI, hV, hLT, hPR, hG, hO, hA, hD, ⟨hH, hHk⟩, hB⟩ := id h
  have kt : vT v = 51 ∨ vT v = 66 := hv.1.1
  have kn : vN v = 81 ∨ vN v = 86 := hv.2.1
  refine ⟨_, _, th_plan hD _, fun k f => ?_, fun s2 hf hp => ?_⟩
  · simp only [fDr] at f <;> omega
  · have hp : pD s2 := hp
    exact repV_go h hf (Or.inr (fun c k z f => by simp only [gX, fDr] at z f <;> omega)) (Or.inr (fun c k z f => by simp only [gT, fR2, fP, fDr] at z f <;> omega)) (Or.inr (fun c k z f => by simp only [gN, fN, fDr] at z f <;> omega)) (Or.inr (fun c k z f => by simp only [gU, fDr] at z f <;> omega)) (Or.inr (Or.inr (fun c k z f => by simp only [gW, fDr] at z f <;> omega))) (Or.inr (fun c k z f => by simp only [gI, fDr] at z f <;> omega)) (Or.inr (fun c k z f => by simp only [gV, fDr] at z f <;> omega)) (fun c k z f => by simp only [gLT, gPR, fDr] at z f <;> omega) (Or.inr (fun c k z f => by simp only [gG, fDr] at z f <;> omega)) (Or.inr (fun c k z f => by simp only [gO, fR2, fP, fDr] at z f <;> omega)) (Or.inr (fun c k z f => by simp only [gA, fDr] at z f <;> omega)) (Or.inl (hp)) (Or.inr (fun c k z f => by simp only [gH, fDr] at z f <;> omega)) (Or.inr (fun c k z f => by simp only [gB, fDr] at z f <;> omega)))
theorem qp_seed {e L : Nat} (x0 : Int32) : pl_pairI L Rep (e + 12) 147 241 [.int x0] := pair_I (fun n v s hn h => by
  obtain ⟨hv, hX, hT, hN, hU, hW, hI, hV, hLT, hPR, hG, hO, hA, hD, ⟨hH, hHk⟩, hB⟩ := id h
  have kt : vT v = 51 ∨ vT v = 66 := hv.1.1
  have kn : vN v = 81 ∨ vN v = 86 := hv.2.1
  refine ⟨_, _, th_seed hW _, fun k f => ?_, fun s2 hf hp => ?_⟩
  · simp only [fA0] at f <;> omega
  · have hp : pNow n s2 := hp
    exact repV_go h hf (Or.inr (fun c k z f => by simp only [gX, fA0] at z f <;> omega)) (Or.inr (fun c k z f => by simp only [gT, fR2, fP, fA0] at z f <;> omega)) (Or.inr (fun c k z f => by simp only [gN, fN, fA0] at z f <;> omega)) (Or.inr (fun c k z f => by simp only [gU, fA0] at z f <;> omega)) (Or.inr (Or.inl (hp))) (Or.inr (fun c k z f => by simp only [gI, fA0] at z f <;> omega)) (Or.inr (fun c k z f => by simp only [gV, fA0] at z f <;> omega)) (fun c k z f => by simp only [gLT, gPR, fA0] at z f <;> omega) (Or.inr (fun c k z f => by simp only [gG, fA0] at z f <;> omega)) (Or.inr (fun c k z f => by simp only [gO, fR2, fP, fA0] at z f <;> omega)) (Or.inr (fun c k z f => by simp only [gA, fA0] at z f <;> omega)) (Or.inr (fun c k z f => by simp only [gDr, fA0] at z f <;> omega)) (Or.inr (fun c k z f => by simp only [gH, fA0] at z f <;> omega)) (Or.inr (fun c k z f => by simp only [gB, fA0] at z f <;> omega)))
theorem qp_keep {e L : Nat} (x0 : Int32) : pl_pairI L Rep (e + 12) 148 242 [.int x0] := pair_I (fun n v s hn h => by
  obtain ⟨hv, hX, hT, hN, hU, hW, hI, hV, hLT, hPR, hG, hO, hA, hD, ⟨hH, hHk⟩, hB⟩ := id h
  have kt : vT v = 51 ∨ vT v = 66 := hv.1.1
  have kn : vN v = 81 ∨ vN v = 86 := hv.2.1
  refine ⟨_, _, th_keep hW hI _, fun k f => ?_, fun s2 hf hp => ?_⟩
  · simp only [fI] at f <;> omega
  · have hp : pI n s2 := hp
    exact repV_go h hf (Or.inr (fun c k z f => by simp only [gX, fI] at z f <;> omega)) (Or.inr (fun c k z f => by simp only [gT, fR2, fP, fI] at z f <;> omega)) (Or.inr (fun c k z f => by simp only [gN, fN, fI] at z f <;> omega)) (Or.inr (fun c k z f => by simp only [gU, fI] at z f <;> omega)) (Or.inr (Or.inr (fun c k z f => by simp only [gW, fI] at z f <;> omega))) (Or.inl (hp)) (Or.inr (fun c k z f => by simp only [gV, fI] at z f <;> omega)) (fun c k z f => by simp only [gLT, gPR, fI] at z f <;> omega) (Or.inr (fun c k z f => by simp only [gG, fI] at z f <;> omega)) (Or.inr (fun c k z f => by simp only [gO, fR2, fP, fI] at z f <;> omega)) (Or.inr (fun c k z f => by simp only [gA, fI] at z f <;> omega)) (Or.inr (fun c k z f => by simp only [gDr, fI] at z f <;> omega)) (Or.inr (fun c k z f => by simp only [gH, fI] at z f <;> omega)) (Or.inr (fun c k z f => by simp only [gB, fI] at z f <;> omega)))
theorem qp_goBack {e L : Nat} (x0 : Int32) : pl_pairI L Rep (e + 12) 150 243 [.int x0] := pair_I (fun n v s hn h => by
  obtain ⟨hv, hX, hT, hN, hU, hW, hI, hV, hLT, hPR, hG, hO, hA, hD, ⟨hH, hHk⟩, hB⟩ := id h
  have kt : vT v = 51 ∨ vT v = 66 := hv.1.1
  have kn : vN v = 81 ∨ vN v = 86 := hv.2.1
  refine ⟨_, _, th_goBack hW hI _, fun k f => ?_, fun s2 hf hp => ?_⟩
  · simp only [fA0] at f <;> omega
  · have hp : pNow n s2 := hp
    exact repV_go h hf (Or.inr (fun c k z f => by simp only [gX, fA0] at z f <;> omega)) (Or.inr (fun c k z f => by simp only [gT, fR2, fP, fA0] at z f <;> omega)) (Or.inr (fun c k z f => by simp only [gN, fN, fA0] at z f <;> omega)) (Or.inr (fun c k z f => by simp only [gU, fA0] at z f <;> omega)) (Or.inr (Or.inl (hp))) (Or.inr (fun c k z f => by simp only [gI, fA0] at z f <;> omega)) (Or.inr (fun c k z f => by simp only [gV, fA0] at z f <;> omega)) (fun c k z f => by simp only [gLT, gPR, fA0] at z f <;> omega) (Or.inr (fun c k z f => by simp only [gG, fA0] at z f <;> omega)) (Or.inr (fun c k z f => by simp only [gO, fR2, fP, fA0] at z f <;> omega)) (Or.inr (fun c k z f => by simp only [gA, fA0] at z f <;> omega)) (Or.inr (fun c k z f => by simp only [gDr, fA0] at z f <;> omega)) (Or.inr (fun c k z f => by simp only [gH, fA0] at z f <;> omega)) (Or.inr (fun c k z f => by simp only [gB, fA0] at z f <;> omega)))
