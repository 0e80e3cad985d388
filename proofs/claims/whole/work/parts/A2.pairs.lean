/-! EACH PAIR OF METHODS KEEPS WHAT IS SO BETWEEN TWO CALLS -/
theorem qp_feed {e L : Nat} (x0 : Int32) (x1 : Int64) : pl_pairI L Rep (e + 12) 13 153 [.int x0, .long x1] := pair_I (fun n v s hn h => by
  obtain ⟨hv, hX, hT, hN, hU, hW, hI, hV, hLT, hPR, hG, hO, hA, hD, ⟨hH, hHk⟩, hB⟩ := id h
  have kt : vT v = 51 ∨ vT v = 66 := hv.1.1
  have kn : vN v = 81 ∨ vN v = 86 := hv.2.1
  refine ⟨_, _, th_feed hX _ _, fun k f => ?_, fun s2 hf hp => ?_⟩
  · simp only [fX] at f <;> omega
  · have hp : pX s2 := hp
    exact repV_go h hf (Or.inl (hp)) (Or.inr (fun c k z f => by simp only [gT, fR2, fP, fX] at z f <;> omega)) (Or.inr (fun c k z f => by simp only [gN, fN, fX] at z f <;> omega)) (Or.inr (fun c k z f => by simp only [gU, fX] at z f <;> omega)) (Or.inr (Or.inr (fun c k z f => by simp only [gW, fX] at z f <;> omega))) (Or.inr (fun c k z f => by simp only [gI, fX] at z f <;> omega)) (Or.inr (fun c k z f => by simp only [gV, fX] at z f <;> omega)) (fun c k z f => by simp only [gLT, gPR, fX] at z f <;> omega) (Or.inr (fun c k z f => by simp only [gG, fX] at z f <;> omega)) (Or.inr (fun c k z f => by simp only [gO, fR2, fP, fX] at z f <;> omega)) (Or.inr (fun c k z f => by simp only [gA, fX] at z f <;> omega)) (Or.inr (fun c k z f => by simp only [gDr, fX] at z f <;> omega)) (Or.inr (fun c k z f => by simp only [gH, fX] at z f <;> omega)) (Or.inr (fun c k z f => by simp only [gB, fX] at z f <;> omega)))
theorem qp_rule {e L : Nat} : pl_pairI L Rep (e + 12) 50 172 [] := pair_I (fun n v s hn h => by
  obtain ⟨hv, hX, hT, hN, hU, hW, hI, hV, hLT, hPR, hG, hO, hA, hD, ⟨hH, hHk⟩, hB⟩ := id h
  have kt : vT v = 51 ∨ vT v = 66 := hv.1.1
  have kn : vN v = 81 ∨ vN v = 86 := hv.2.1
  refine ⟨_, _, th_rule hX hU, fun k f => ?_, fun s2 hf hp => ?_⟩
  · simp only [fU] at f <;> omega
  · have hp : pX s2 ∧ pU s2 := hp
    exact repV_go h hf (Or.inl (hp.1)) (Or.inr (fun c k z f => by simp only [gT, fR2, fP, fU] at z f <;> omega)) (Or.inr (fun c k z f => by simp only [gN, fN, fU] at z f <;> omega)) (Or.inl (hp.2)) (Or.inr (Or.inr (fun c k z f => by simp only [gW, fU] at z f <;> omega))) (Or.inr (fun c k z f => by simp only [gI, fU] at z f <;> omega)) (Or.inr (fun c k z f => by simp only [gV, fU] at z f <;> omega)) (fun c k z f => by simp only [gLT, gPR, fU] at z f <;> omega) (Or.inr (fun c k z f => by simp only [gG, fU] at z f <;> omega)) (Or.inr (fun c k z f => by simp only [gO, fR2, fP, fU] at z f <;> omega)) (Or.inr (fun c k z f => by simp only [gA, fU] at z f <;> omega)) (Or.inr (fun c k z f => by simp only [gDr, fU] at z f <;> omega)) (Or.inr (fun c k z f => by simp only [gH, fU] at z f <;> omega)) (Or.inr (fun c k z f => by simp only [gB, fU] at z f <;> omega)))
theorem qp_fault {e L : Nat} : pl_pairI L Rep (e + 12) 52 173 [] := pair_I (fun n v s hn h => by
  obtain ⟨hv, hX, hT, hN, hU, hW, hI, hV, hLT, hPR, hG, hO, hA, hD, ⟨hH, hHk⟩, hB⟩ := id h
  have kt : vT v = 51 ∨ vT v = 66 := hv.1.1
  have kn : vN v = 81 ∨ vN v = 86 := hv.2.1
  refine ⟨_, _, th_fault hX, fun k f => ?_, fun s2 hf hp => ?_⟩
  · simp only [fX] at f <;> omega
  · have hp : s2 = s := hp
    rw [hp]; exact repV_mono h)
theorem qp_told {e L : Nat} (x0 : Int32) : pl_pairI L Rep (e + 12) 53 174 [.int x0] := pair_I (fun n v s hn h => by
  obtain ⟨hv, hX, hT, hN, hU, hW, hI, hV, hLT, hPR, hG, hO, hA, hD, ⟨hH, hHk⟩, hB⟩ := id h
  have kt : vT v = 51 ∨ vT v = 66 := hv.1.1
  have kn : vN v = 81 ∨ vN v = 86 := hv.2.1
  refine ⟨_, _, th_told hv hT hN hU _, fun k f => ?_, fun s2 hf hp => ?_⟩
  · simp only [fX] at f <;> omega
  · have hp : s2 = s := hp
    rw [hp]; exact repV_mono h)
theorem qp_pole {e L : Nat} (x0 : Int32) (x1 : Int32) : pl_pairI L Rep (e + 12) 54 175 [.int x0, .int x1] := pair_I (fun n v s hn h => by
  obtain ⟨hv, hX, hT, hN, hU, hW, hI, hV, hLT, hPR, hG, hO, hA, hD, ⟨hH, hHk⟩, hB⟩ := id h
  have kt : vT v = 51 ∨ vT v = 66 := hv.1.1
  have kn : vN v = 81 ∨ vN v = 86 := hv.2.1
  refine ⟨_, _, th_pole hv hT _ _, fun k f => ?_, fun s2 hf hp => ?_⟩
  · simp only [fX] at f <;> omega
  · have hp : s2 = s := hp
    rw [hp]; exact repV_mono h)
theorem qp_peg {e L : Nat} (x0 : Int32) (x1 : Int32) : pl_pairI L Rep (e + 12) 56 177 [.int x0, .int x1] := pair_I (fun n v s hn h => by
  obtain ⟨hv, hX, hT, hN, hU, hW, hI, hV, hLT, hPR, hG, hO, hA, hD, ⟨hH, hHk⟩, hB⟩ := id h
  have kt : vT v = 51 ∨ vT v = 66 := hv.1.1
  have kn : vN v = 81 ∨ vN v = 86 := hv.2.1
  refine ⟨_, _, th_peg hv hT _ _, fun k f => ?_, fun s2 hf hp => ?_⟩
  · simp only [fX] at f <;> omega
  · have hp : s2 = s := hp
    rw [hp]; exact repV_mono h)
theorem qp_ear {e L : Nat} (x0 : Int32) (x1 : Int32) : pl_pairI L Rep (e + 12) 57 178 [.int x0, .int x1] := pair_I (fun n v s hn h => by
  obtain ⟨hv, hX, hT, hN, hU, hW, hI, hV, hLT, hPR, hG, hO, hA, hD, ⟨hH, hHk⟩, hB⟩ := id h
  have kt : vT v = 51 ∨ vT v = 66 := hv.1.1
  have kn : vN v = 81 ∨ vN v = 86 := hv.2.1
  refine ⟨_, _, th_ear hW _ _, fun k f => ?_, fun s2 hf hp => ?_⟩
  · simp only [fA0] at f <;> omega
  · have hp : pNow n s2 := hp
    exact repV_go h hf (Or.inr (fun c k z f => by simp only [gX, fA0] at z f <;> omega)) (Or.inr (fun c k z f => by simp only [gT, fR2, fP, fA0] at z f <;> omega)) (Or.inr (fun c k z f => by simp only [gN, fN, fA0] at z f <;> omega)) (Or.inr (fun c k z f => by simp only [gU, fA0] at z f <;> omega)) (Or.inr (Or.inl (hp))) (Or.inr (fun c k z f => by simp only [gI, fA0] at z f <;> omega)) (Or.inr (fun c k z f => by simp only [gV, fA0] at z f <;> omega)) (fun c k z f => by simp only [gLT, gPR, fA0] at z f <;> omega) (Or.inr (fun c k z f => by simp only [gG, fA0] at z f <;> omega)) (Or.inr (fun c k z f => by simp only [gO, fR2, fP, fA0] at z f <;> omega)) (Or.inr (fun c k z f => by simp only [gA, fA0] at z f <;> omega)) (Or.inr (fun c k z f => by simp only [gDr, fA0] at z f <;> omega)) (Or.inr (fun c k z f => by simp only [gH, fA0] at z f <;> omega)) (Or.inr (fun c k z f => by simp only [gB, fA0] at z f <;> omega)))
theorem qp_wind {e L : Nat} (x0 : Int32) (x1 : Int32) : pl_pairI L Rep (e + 12) 58 179 [.int x0, .int x1] := pair_I (fun n v s hn h => by
  obtain ⟨hv, hX, hT, hN, hU, hW, hI, hV, hLT, hPR, hG, hO, hA, hD, ⟨hH, hHk⟩, hB⟩ := id h
  have kt : vT v = 51 ∨ vT v = 66 := hv.1.1
  have kn : vN v = 81 ∨ vN v = 86 := hv.2.1
  refine ⟨_, _, th_wind hW _ _, fun k f => ?_, fun s2 hf hp => ?_⟩
  · simp only [fA0] at f <;> omega
  · have hp : pNow n s2 := hp
    exact repV_go h hf (Or.inr (fun c k z f => by simp only [gX, fA0] at z f <;> omega)) (Or.inr (fun c k z f => by simp only [gT, fR2, fP, fA0] at z f <;> omega)) (Or.inr (fun c k z f => by simp only [gN, fN, fA0] at z f <;> omega)) (Or.inr (fun c k z f => by simp only [gU, fA0] at z f <;> omega)) (Or.inr (Or.inl (hp))) (Or.inr (fun c k z f => by simp only [gI, fA0] at z f <;> omega)) (Or.inr (fun c k z f => by simp only [gV, fA0] at z f <;> omega)) (fun c k z f => by simp only [gLT, gPR, fA0] at z f <;> omega) (Or.inr (fun c k z f => by simp only [gG, fA0] at z f <;> omega)) (Or.inr (fun c k z f => by simp only [gO, fR2, fP, fA0] at z f <;> omega)) (Or.inr (fun c k z f => by simp only [gA, fA0] at z f <;> omega)) (Or.inr (fun c k z f => by simp only [gDr, fA0] at z f <;> omega)) (Or.inr (fun c k z f => by simp only [gH, fA0] at z f <;> omega)) (Or.inr (fun c k z f => by simp only [gB, fA0] at z f <;> omega)))
theorem qp_wet {e L : Nat} (x0 : Int32) (hx : x0 = 0 ∨ x0 = 1) : pl_pairI L Rep (e + 12) 60 180 [.int x0] := pair_I (fun n v s hn h => by
  obtain ⟨hv, hX, hT, hN, hU, hW, hI, hV, hLT, hPR, hG, hO, hA, hD, ⟨hH, hHk⟩, hB⟩ := id h
  have kt : vT v = 51 ∨ vT v = 66 := hv.1.1
  have kn : vN v = 81 ∨ vN v = 86 := hv.2.1
  refine ⟨_, _, th_wet hW _ hx, fun k f => ?_, fun s2 hf hp => ?_⟩
  · simp only [fA0] at f <;> omega
  · have hp : pNow n s2 := hp
    exact repV_go h hf (Or.inr (fun c k z f => by simp only [gX, fA0] at z f <;> omega)) (Or.inr (fun c k z f => by simp only [gT, fR2, fP, fA0] at z f <;> omega)) (Or.inr (fun c k z f => by simp only [gN, fN, fA0] at z f <;> omega)) (Or.inr (fun c k z f => by simp only [gU, fA0] at z f <;> omega)) (Or.inr (Or.inl (hp))) (Or.inr (fun c k z f => by simp only [gI, fA0] at z f <;> omega)) (Or.inr (fun c k z f => by simp only [gV, fA0] at z f <;> omega)) (fun c k z f => by simp only [gLT, gPR, fA0] at z f <;> omega) (Or.inr (fun c k z f => by simp only [gG, fA0] at z f <;> omega)) (Or.inr (fun c k z f => by simp only [gO, fR2, fP, fA0] at z f <;> omega)) (Or.inr (fun c k z f => by simp only [gA, fA0] at z f <;> omega)) (Or.inr (fun c k z f => by simp only [gDr, fA0] at z f <;> omega)) (Or.inr (fun c k z f => by simp only [gH, fA0] at z f <;> omega)) (Or.inr (fun c k z f => by simp only [gB, fA0] at z f <;> omega)))
theorem qp_fire {e L : Nat} (x0 : Int32) : pl_pairI L Rep (e + 12) 61 181 [.int x0] := pair_I (fun n v s hn h => by
  obtain ⟨hv, hX, hT, hN, hU, hW, hI, hV, hLT, hPR, hG, hO, hA, hD, ⟨hH, hHk⟩, hB⟩ := id h
  have kt : vT v = 51 ∨ vT v = 66 := hv.1.1
  have kn : vN v = 81 ∨ vN v = 86 := hv.2.1
  refine ⟨_, _, th_fire hW _, fun k f => ?_, fun s2 hf hp => ?_⟩
  · simp only [fA0] at f <;> omega
  · have hp : pNow n s2 := hp
    exact repV_go h hf (Or.inr (fun c k z f => by simp only [gX, fA0] at z f <;> omega)) (Or.inr (fun c k z f => by simp only [gT, fR2, fP, fA0] at z f <;> omega)) (Or.inr (fun c k z f => by simp only [gN, fN, fA0] at z f <;> omega)) (Or.inr (fun c k z f => by simp only [gU, fA0] at z f <;> omega)) (Or.inr (Or.inl (hp))) (Or.inr (fun c k z f => by simp only [gI, fA0] at z f <;> omega)) (Or.inr (fun c k z f => by simp only [gV, fA0] at z f <;> omega)) (fun c k z f => by simp only [gLT, gPR, fA0] at z f <;> omega) (Or.inr (fun c k z f => by simp only [gG, fA0] at z f <;> omega)) (Or.inr (fun c k z f => by simp only [gO, fR2, fP, fA0] at z f <;> omega)) (Or.inr (fun c k z f => by simp only [gA, fA0] at z f <;> omega)) (Or.inr (fun c k z f => by simp only [gDr, fA0] at z f <;> omega)) (Or.inr (fun c k z f => by simp only [gH, fA0] at z f <;> omega)) (Or.inr (fun c k z f => by simp only [gB, fA0] at z f <;> omega)))
theorem qp_run {e L : Nat} (x0 : Int32) : pl_pairI L Rep (e + 12) 62 182 [.int x0] := pair_I (fun n v s hn h => by
  obtain ⟨hv, hX, hT, hN, hU, hW, hI, hV, hLT, hPR, hG, hO, hA, hD, ⟨hH, hHk⟩, hB⟩ := id h
  have kt : vT v = 51 ∨ vT v = 66 := hv.1.1
  have kn : vN v = 81 ∨ vN v = 86 := hv.2.1
  refine ⟨_, _, th_run hW (by omega) hv.1.1 hT hLT _, fun k f => ?_, fun s2 hf hp => ?_⟩
  · simp only [fA0] at f <;> omega
  · have hp : pNow (n + 1) s2 := hp
    exact repV_go h hf (Or.inr (fun c k z f => by simp only [gX, fA0] at z f <;> omega)) (Or.inr (fun c k z f => by simp only [gT, fR2, fP, fA0] at z f <;> omega)) (Or.inr (fun c k z f => by simp only [gN, fN, fA0] at z f <;> omega)) (Or.inr (fun c k z f => by simp only [gU, fA0] at z f <;> omega)) (Or.inl (hp)) (Or.inr (fun c k z f => by simp only [gI, fA0] at z f <;> omega)) (Or.inr (fun c k z f => by simp only [gV, fA0] at z f <;> omega)) (fun c k z f => by simp only [gLT, gPR, fA0] at z f <;> omega) (Or.inr (fun c k z f => by simp only [gG, fA0] at z f <;> omega)) (Or.inr (fun c k z f => by simp only [gO, fR2, fP, fA0] at z f <;> omega)) (Or.inr (fun c k z f => by simp only [gA, fA0] at z f <;> omega)) (Or.inr (fun c k z f => by simp only [gDr, fA0] at z f <;> omega)) (Or.inr (fun c k z f => by simp only [gH, fA0] at z f <;> omega)) (Or.inr (fun c k z f => by simp only [gB, fA0] at z f <;> omega)))
theorem qp_fresh {e L : Nat} : pl_pairI L Rep (e + 12) 79 193 [] := pair_I (fun n v s hn h => by
  obtain ⟨hv, hX, hT, hN, hU, hW, hI, hV, hLT, hPR, hG, hO, hA, hD, ⟨hH, hHk⟩, hB⟩ := id h
  have kt : vT v = 51 ∨ vT v = 66 := hv.1.1
  have kn : vN v = 81 ∨ vN v = 86 := hv.2.1
  refine ⟨_, _, th_fresh hW, fun k f => ?_, fun s2 hf hp => ?_⟩
  · simp only [fA0] at f <;> omega
  · have hp : pNow n s2 := hp
    exact repV_go h hf (Or.inr (fun c k z f => by simp only [gX, fA0] at z f <;> omega)) (Or.inr (fun c k z f => by simp only [gT, fR2, fP, fA0] at z f <;> omega)) (Or.inr (fun c k z f => by simp only [gN, fN, fA0] at z f <;> omega)) (Or.inr (fun c k z f => by simp only [gU, fA0] at z f <;> omega)) (Or.inr (Or.inl (hp))) (Or.inr (fun c k z f => by simp only [gI, fA0] at z f <;> omega)) (Or.inr (fun c k z f => by simp only [gV, fA0] at z f <;> omega)) (fun c k z f => by simp only [gLT, gPR, fA0] at z f <;> omega) (Or.inr (fun c k z f => by simp only [gG, fA0] at z f <;> omega)) (Or.inr (fun c k z f => by simp only [gO, fR2, fP, fA0] at z f <;> omega)) (Or.inr (fun c k z f => by simp only [gA, fA0] at z f <;> omega)) (Or.inr (fun c k z f => by simp only [gDr, fA0] at z f <;> omega)) (Or.inr (fun c k z f => by simp only [gH, fA0] at z f <;> omega)) (Or.inr (fun c k z f => by simp only [gB, fA0] at z f <;> omega)))
theorem qp_layer {e L : Nat} (x0 : Int32) (x1 : Int32) : pl_pairL L Rep (e + 12) 80 194 [.int x0, .int x1] := pair_L (fun n v s hn h => by
  obtain ⟨hv, hX, hT, hN, hU, hW, hI, hV, hLT, hPR, hG, hO, hA, hD, ⟨hH, hHk⟩, hB⟩ := id h
  have kt : vT v = 51 ∨ vT v = 66 := hv.1.1
  have kn : vN v = 81 ∨ vN v = 86 := hv.2.1
  refine ⟨_, _, th_layer hW _ _, fun k f => ?_, fun s2 hf hp => ?_⟩
  · simp only [fA0] at f <;> omega
  · have hp : s2 = s := hp
    rw [hp]; exact repV_mono h)
theorem qp_count {e L : Nat} (x0 : Int32) : pl_pairL L Rep (e + 12) 81 195 [.int x0] := pair_L (fun n v s hn h => by
  obtain ⟨hv, hX, hT, hN, hU, hW, hI, hV, hLT, hPR, hG, hO, hA, hD, ⟨hH, hHk⟩, hB⟩ := id h
  have kt : vT v = 51 ∨ vT v = 66 := hv.1.1
  have kn : vN v = 81 ∨ vN v = 86 := hv.2.1
  refine ⟨_, _, th_count hW hv.1.1 hT hX hLT _, fun k f => ?_, fun s2 hf hp => ?_⟩
  · simp only [fA0] at f <;> omega
  · have hp : s2 = s := hp
    rw [hp]; exact repV_mono h)
theorem qp_best {e L : Nat} (x0 : Int32) (x1 : Int32) (x2 : Int32) (x3 : Int32) : pl_pairI L Rep (e + 12) 82 196 [.int x0, .int x1, .int x2, .int x3] := pair_I (fun n v s hn h => by
  obtain ⟨hv, hX, hT, hN, hU, hW, hI, hV, hLT, hPR, hG, hO, hA, hD, ⟨hH, hHk⟩, hB⟩ := id h
  have kt : vT v = 51 ∨ vT v = 66 := hv.1.1
  have kn : vN v = 81 ∨ vN v = 86 := hv.2.1
  refine ⟨_, _, th_best hW hv.1.1 hT hLT hB _ _ _ _, fun k f => ?_, fun s2 hf hp => ?_⟩
  · simp only [fBe, fBm] at f <;> omega
  · have hp : pB v s2 := hp
    exact repV_go h hf (Or.inr (fun c k z f => by simp only [gX, fBe, fBm] at z f <;> omega)) (Or.inr (fun c k z f => by simp only [gT, fR2, fP, fBe, fBm] at z f <;> omega)) (Or.inr (fun c k z f => by simp only [gN, fN, fBe, fBm] at z f <;> omega)) (Or.inr (fun c k z f => by simp only [gU, fBe, fBm] at z f <;> omega)) (Or.inr (Or.inr (fun c k z f => by simp only [gW, fBe, fBm] at z f <;> omega))) (Or.inr (fun c k z f => by simp only [gI, fBe, fBm] at z f <;> omega)) (Or.inr (fun c k z f => by simp only [gV, fBe, fBm] at z f <;> omega)) (fun c k z f => by simp only [gLT, gPR, fBe, fBm] at z f <;> omega) (Or.inr (fun c k z f => by simp only [gG, fBe, fBm] at z f <;> omega)) (Or.inr (fun c k z f => by simp only [gO, fR2, fP, fBe, fBm] at z f <;> omega)) (Or.inr (fun c k z f => by simp only [gA, fBe, fBm] at z f <;> omega)) (Or.inr (fun c k z f => by simp only [gDr, fBe, fBm] at z f <;> omega)) (Or.inr (fun c k z f => by simp only [gH, fBe, fBm] at z f <;> omega)) (Or.inl (hp)))
theorem qp_live {e L : Nat} (x0 : Int32) (x1 : Int32) : pl_pairI L Rep (e + 12) 88 198 [.int x0, .int x1] := pair_I (fun n v s hn h => by
  obtain ⟨hv, hX, hT, hN, hU, hW, hI, hV, hLT, hPR, hG, hO, hA, hD, ⟨hH, hHk⟩, hB⟩ := id h
  have kt : vT v = 51 ∨ vT v = 66 := hv.1.1
  have kn : vN v = 81 ∨ vN v = 86 := hv.2.1
  refine ⟨_, _, th_live hW (by omega) hv hT hLT hN hU _ _, fun k f => ?_, fun s2 hf hp => ?_⟩
  · simp only [fA0, fV] at f <;> omega
  · have hp : (pNow (n + 1) s2 ∧ pV s2) ∨ s2 = s := hp
    rcases hp with hp | hp
    · exact repV_go h hf (Or.inr (fun c k z f => by simp only [gX, fA0, fV] at z f <;> omega)) (Or.inr (fun c k z f => by simp only [gT, fR2, fP, fA0, fV] at z f <;> omega)) (Or.inr (fun c k z f => by simp only [gN, fN, fA0, fV] at z f <;> omega)) (Or.inr (fun c k z f => by simp only [gU, fA0, fV] at z f <;> omega)) (Or.inl (hp.1)) (Or.inr (fun c k z f => by simp only [gI, fA0, fV] at z f <;> omega)) (Or.inl (hp.2)) (fun c k z f => by simp only [gLT, gPR, fA0, fV] at z f <;> omega) (Or.inr (fun c k z f => by simp only [gG, fA0, fV] at z f <;> omega)) (Or.inr (fun c k z f => by simp only [gO, fR2, fP, fA0, fV] at z f <;> omega)) (Or.inr (fun c k z f => by simp only [gA, fA0, fV] at z f <;> omega)) (Or.inr (fun c k z f => by simp only [gDr, fA0, fV] at z f <;> omega)) (Or.inr (fun c k z f => by simp only [gH, fA0, fV] at z f <;> omega)) (Or.inr (fun c k z f => by simp only [gB, fA0, fV] at z f <;> omega))
    · rw [hp]; exact repV_mono h)
theorem qp_lived {e L : Nat} (x0 : Int32) : pl_pairI L Rep (e + 12) 98 202 [.int x0] := pair_I (fun n v s hn h => by
  obtain ⟨hv, hX, hT, hN, hU, hW, hI, hV, hLT, hPR, hG, hO, hA, hD, ⟨hH, hHk⟩, hB⟩ := id h
  have kt : vT v = 51 ∨ vT v = 66 := hv.1.1
  have kn : vN v = 81 ∨ vN v = 86 := hv.2.1
  refine ⟨_, _, th_lived hV _, fun k f => ?_, fun s2 hf hp => ?_⟩
  · simp only [fV] at f <;> omega
  · have hp : s2 = s := hp
    rw [hp]; exact repV_mono h)
