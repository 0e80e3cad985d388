/-! A STORM, in the class: round by round -/
/-- what is told of it, in the cells g .. g + 3 -/
def gTl (g : Nat) (m : Nat) (l : Nat → Nat × Int) (s : hS) : Prop := ∀ i, i < m → rI s (g + 1) i = nI ((l i).1 / 16) ∧ rI s (g + 2) i = nI ((l i).1 % 16) ∧ (rI s (g + 3) i).toInt = (l i).2
def stC (t g : Nat) (NP NG : Nat) (bs : Nat → Int) (s : hS) (S : bSt) : Prop := cRg (t + 3) 0 NP bs S.1 S.2.1 s ∧ cRg (t + 9) 16 NG bs S.1 S.2.1 s ∧ gTl g S.2.2.1 S.2.2.2 s
def fSt (t g c k : Nat) : Prop := fRs (t + 3) c k ∨ fRs (t + 9) c k ∨ (g ≤ c ∧ c ≤ g + 3)
section
variable {d : Nat} {v : hV} {s s1 : hS} {t g : Nat} {LP LG : rgL} {pl mg bs : Nat → Int} {rp : Int} {S : bSt}
/-- of the tent's rings -/
def tRg (t : Nat) (s : hS) (LP LG : rgL) (pl mg : Nat → Int) : Prop := dR (t + 3) s LP ∧ dR (t + 9) s LG ∧ (∀ i, i < LP.length → pl i = (LP.getD i (0, 0)).1 ∧ mg i = (LP.getD i (0, 0)).2) ∧ ∀ i, i < LG.length → pl (16 + i) = (LG.getD i (0, 0)).1 ∧ mg (16 + i) = (LG.getD i (0, 0)).2
theorem tRg_fr {F : Nat → Nat → Prop} (h : tRg t s LP LG pl mg) (hf : Fr F s s1) (h0 : ¬ F (t + 3) 2 ∧ ¬ F (t + 9) 2) (h1 : ∀ k, ¬ F (t + 4) k ∧ ¬ F (t + 5) k ∧ ¬ F (t + 10) k ∧ ¬ F (t + 11) k) : tRg t s1 LP LG pl mg :=
  ⟨dR_rs h.1 hf h0.1 (fun k => (h1 k).1) (fun k => (h1 k).2.1), dR_rs h.2.1 hf h0.2 (fun k => (h1 k).2.2.1) (fun k => (h1 k).2.2.2), h.2.2⟩
theorem rgP (ht : tRg t s LP LG pl mg) (hr : rgS LP.length LG.length pl mg bs rp) (h : okS LP.length LG.length bs S) : rgL1 0 LP pl mg bs S.1 S.2.1 := by
  refine ⟨hr.1.1, fun i hi => ?_⟩
  rw [Nat.zero_add]
  have e := ht.2.2.1 i hi
  have h3 := hr.2.2.1 i (Or.inl hi)
  have := hr.1
  exact ⟨⟨e.1, h3.1⟩, ⟨e.2, h3.2⟩, hr.2.1 i (by omega), fun z => ⟨h.2.1 i, by have := ok_b h hr z; have := hr.2.1 i (by omega); omega⟩⟩
theorem rgG (ht : tRg t s LP LG pl mg) (hr : rgS LP.length LG.length pl mg bs rp) (h : okS LP.length LG.length bs S) : rgL1 16 LG pl mg bs S.1 S.2.1 := by
  refine ⟨hr.1.2, fun i hi => ?_⟩
  have e := ht.2.2.2 i hi
  have h3 := hr.2.2.1 (16 + i) (Or.inr (by omega))
  have := hr.1
  exact ⟨⟨e.1, h3.1⟩, ⟨e.2, h3.2⟩, hr.2.1 _ (by omega), fun z => ⟨h.2.1 _, by have := ok_b h hr z; have := hr.2.1 (16 + i) (by omega); omega⟩⟩
theorem hal (hr : rgS LP.length LG.length pl mg bs rp) (h : okS LP.length LG.length bs S) : ∀ k, S.1 k = true → 0 ≤ S.2.1 k ∧ S.2.1 k ≤ 15552 := fun k z => ⟨h.2.1 k, by have := ok_b h hr z; have := hr.2.1 k (ok_32 h hr z); omega⟩
theorem outP (h : okS LP.length LG.length bs S) : ∀ k, 0 + LP.length ≤ k → k < 0 + 16 → S.1 k = false := fun k h1 h2 => by
  cases hh : S.1 k with
  | false => rfl
  | true => have := h.1 k hh; omega
theorem outG (h : okS LP.length LG.length bs S) (hl : LP.length ≤ 16) : ∀ k, 16 + LG.length ≤ k → k < 16 + 16 → S.1 k = false := fun k h1 h2 => by
  cases hh : S.1 k with
  | false => rfl
  | true => have := h.1 k hh; omega
theorem w0_L (h : okS LP.length LG.length bs S) (hl : LP.length ≤ 16) : w0S mg bs rp S.1 S.2.1 = wF (fun k => ldL bs 0 S.2.1 k - mg k) S.1 LP.length 0 (-1, 0) := by
  unfold w0S
  rw [wF_len _ hl (outP h)]
  refine wF_cg _ _ _ (fun k _ h2 _ => ?_)
  unfold exS ldS ldL
  rw [if_pos (show k < 16 by omega)]
theorem w1_L (h : okS LP.length LG.length bs S) (hl : LP.length ≤ 16) (hl2 : LG.length ≤ 16) : w1S mg bs rp S.1 S.2.1 = wF (fun k => ldL bs (lesS rp S.1) S.2.1 k - mg k) S.1 LG.length 16 (-1, 0) := by
  unfold w1S
  rw [wF_len _ hl2 (outG h hl)]
  refine wF_cg _ _ _ (fun k h1 _ _ => ?_)
  unfold exS ldS ldL
  rw [if_neg (show ¬ k < 16 by omega)]
theorem lo_out {H : Nat → Bool} {O : Nat → Int} {k j : Nat} {y : Int} (h : ∀ b, kd k ≤ b → b < kd k + 16 → j ≠ b) : loO pl H O k y j = O j := by
  unfold loO
  rcases nb_cases (pl := pl) (dropH H k) k with ⟨e1, e2, _⟩ | ⟨A, B, e1, e2, ⟨A1, A2, _⟩, ⟨B1, B2, _⟩⟩
  · rw [if_pos e1]
  · rw [e1, e2, if_neg (by omega)]
    unfold addO
    have := h A A1 A2
    have := h B B1 B2
    rw [if_neg (by omega), if_neg (by omega)]
/-- a pole BREAKS -/
theorem sp_breaks (ht : kT t) (hg : kG g) (hR : tRg t s LP LG pl mg) (hr : rgS LP.length LG.length pl mg bs rp) (h : okS LP.length LG.length bs S) (hc : stC t g LP.length LG.length bs s S) (hm : rI s g 3 = nI S.2.2.1) {x3 x4 x6 : Int32} {z7 : Value} {k : Nat} (hk : k < LP.length) (hH : S.1 k = true) (hm32 : S.2.2.1 < 32) {K : Int32 → hS → Prop} (hK : ∀ s2, Fr (fSt t g) s s2 → stC t g LP.length LG.length bs s2 (nxS pl mg bs rp S k) → rI s2 g 3 = nI S.2.2.1 → K 1 s2) : pgI (d + 3) 103 41 [.ref g, .ref (t + 3), .ref (t + 9), .int x3, .int x4, .int (nI k), .int x6, z7] [] v s K := by
  have hl16 := hr.1
  have e3 : (nI S.2.2.1).toInt.toNat = S.2.2.1 ∧ 0 ≤ (nI S.2.2.1).toInt ∧ (nI S.2.2.1).toInt < 32 := by rw [nI_toInt (by omega)]; omega
  have hrP : kR (t + 3) := by unfold kT at ht; unfold kR; omega
  have htg : t + 14 < g := by unfold kT at ht; unfold kG at hg; omega
  have le0 : ldS bs rp S.1 S.2.1 k = ldL bs 0 S.2.1 k := by unfold ldS ldL; rw [if_pos (show k < 16 by omega)]
  have exk : exS mg bs rp S.1 S.2.1 k = ldL bs 0 S.2.1 k - mg k := by unfold exS; rw [le0]
  have kdk : kd k = 0 := by unfold kd; rw [if_pos (by omega)]
  obtain ⟨hc1, hc2, hc3⟩ := hc
  have hal' := hal hr h
  have RP := rgP hR hr h
  refine st_Storm_goesRound_41 ht hg (st_Storm_goesRound_44 ht hg ⟨fun z => absurd z (by decide), fun _ => st_Storm_goesRound_54 ht hg ?_⟩)
  rw [hm, e3.1]
  refine ⟨e3.2, fun z => absurd z (by decide), fun _ => st_Storm_goesRound_64 ht hg ?_⟩
  rw [e3.1]
  refine ⟨e3.2, fun z => absurd z (by decide), fun _ => ?_⟩
  generalize hs1 : sI (sI s (g + 1) S.2.2.1 0) (g + 2) S.2.2.1 (nI k) = s1
  have f1 : Fr (fun c j => (c = g + 1 ∨ c = g + 2) ∧ j = S.2.2.1) s s1 := by rw [← hs1]; exact ((Fr.rf _ s).sI ⟨Or.inl rfl, rfl⟩).sI ⟨Or.inr rfl, rfl⟩
  have R1 := tRg_fr hR f1 ⟨by omega, by omega⟩ (fun j => ⟨by omega, by omega, by omega, by omega⟩)
  have C1 : cRg (t + 3) 0 LP.length bs S.1 S.2.1 s1 := cRg_fr hc1 f1 (fun c j _ _ => by omega)
  refine sp_excess (r := t + 3) (a := 0) (le := 0) hrP hk R1.1 RP C1 (by rw [Nat.zero_add]; exact hal' k hH) rfl (by decide) (fun w hw => ?_)
  rw [Nat.zero_add, ← exk] at hw
  have m0 : ∀ x, rI (sI s (g + 1) S.2.2.1 x) g 3 = nI S.2.2.1 := fun x => by rw [r_II, if_neg (by omega)]; exact hm
  rw [m0]
  refine st_Storm_goesRound_80 ht hg ?_
  rw [e3.1]
  refine ⟨e3.2, fun z => absurd z (by decide), fun _ => ?_⟩
  generalize hs2 : sI s1 (g + 3) S.2.2.1 w = s2
  have f2 : Fr (fun c j => (c = g + 1 ∨ c = g + 2 ∨ c = g + 3) ∧ j = S.2.2.1) s s2 := by rw [← hs2]; exact (f1.mo (fun c j z => ⟨by omega, z.2⟩)).sI ⟨by omega, rfl⟩
  have R2 := tRg_fr hR f2 ⟨by omega, by omega⟩ (fun j => ⟨by omega, by omega, by omega, by omega⟩)
  have C2 : cRg (t + 3) 0 LP.length bs S.1 S.2.1 s2 := cRg_fr hc1 f2 (fun c j _ _ => by omega)
  have D2 : cRg (t + 9) 16 LG.length bs S.1 S.2.1 s2 := cRg_fr hc2 f2 (fun c j _ _ => by omega)
  refine sp_lose (r := t + 3) (a := 0) (le := 0) (Or.inl rfl) hrP R2.1 RP C2 (outP h) hal' hk (by rw [Nat.zero_add]; exact hH) rfl (by decide) (fun s3 f3 C3 => ?_)
  rw [Nat.zero_add, ← le0] at C3
  have D3 : cRg (t + 9) 16 LG.length bs S.1 S.2.1 s3 := cRg_fr D2 f3 (fun c j _ _ => by unfold fRs; omega)
  have T3 : ∀ c j, g ≤ c → c ≤ g + 3 → rI s3 c j = rI s2 c j := fun c j h1 h2 => f3.i (by unfold fRs; omega)
  refine st_Storm_goesRound_92 (hK s3 ((f2.mo (fun c j z => by unfold fSt; omega)).tr (f3.mo (fun c j z => Or.inl z))) ⟨C3, ⟨fun i hi => ?_, ?_⟩, fun i hi => ?_⟩ ?_)
  · have e1 : dropH S.1 k (16 + i) = S.1 (16 + i) := if_neg (by omega)
    have e2 : loO pl S.1 S.2.1 k (ldS bs rp S.1 S.2.1 k) (16 + i) = S.2.1 (16 + i) := lo_out (fun b _ hb => by omega)
    obtain ⟨q1, q2, q3⟩ := D3.1 i hi
    exact ⟨by rw [q1]; show _ = if dropH S.1 k (16 + i) = true then _ else _; rw [e1], by rw [q2]; exact e2.symm, q3⟩
  · rw [D3.2]; show nI _ = nI (cn (dropH S.1 k) 16 16); rw [cn_drop_out 16 (by omega)]
  · have hi : i < S.2.2.1 + 1 := hi
    show rI s3 (g + 1) i = nI ((if i = S.2.2.1 then (k, exS mg bs rp S.1 S.2.1 k) else S.2.2.2 i).1 / 16) ∧ rI s3 (g + 2) i = nI ((if i = S.2.2.1 then (k, exS mg bs rp S.1 S.2.1 k) else S.2.2.2 i).1 % 16) ∧ (rI s3 (g + 3) i).toInt = (if i = S.2.2.1 then (k, exS mg bs rp S.1 S.2.1 k) else S.2.2.2 i).2
    rw [T3 _ _ (by omega) (by omega), T3 _ _ (by omega) (by omega), T3 _ _ (by omega) (by omega)]
    by_cases ci : i = S.2.2.1
    · rw [if_pos ci, ci, ← hs2, ← hs1]
      refine ⟨?_, ?_, ?_⟩
      · rw [r_II, if_neg (by omega), r_II, if_neg (by omega), r_II, if_pos ⟨rfl, rfl⟩, show k / 16 = 0 by omega]; rfl
      · rw [r_II, if_neg (by omega), r_II, if_pos ⟨rfl, rfl⟩, show k % 16 = k by omega]
      · rw [r_II, if_pos ⟨rfl, rfl⟩]; exact hw
    · rw [if_neg ci, f2.i (by omega), f2.i (by omega), f2.i (by omega)]
      exact hc3 i (by omega)
  · rw [T3 _ _ (by omega) (by omega), f2.i (by omega)]; exact hm
/-- a peg GOES -/
theorem sp_goes (ht : kT t) (hg : kG g) (hR : tRg t s LP LG pl mg) (hr : rgS LP.length LG.length pl mg bs rp) (h : okS LP.length LG.length bs S) (hc : stC t g LP.length LG.length bs s S) (hm : rI s g 3 = nI S.2.2.1) {x3 x4 x5 : Int32} {z7 : Value} (hx4 : x4.toInt = lesS rp S.1) {k : Nat} (hk : k < LG.length) (hH : S.1 (16 + k) = true) (hm32 : S.2.2.1 < 32) {K : Int32 → hS → Prop} (hK : ∀ s2, Fr (fSt t g) s s2 → stC t g LP.length LG.length bs s2 (nxS pl mg bs rp S (16 + k)) → rI s2 g 3 = nI S.2.2.1 → K 1 s2) : pgI (d + 3) 103 43 [.ref g, .ref (t + 3), .ref (t + 9), .int x3, .int x4, .int x5, .int (nI k), z7] [] v s K := by
  have hl16 := hr.1
  have e3 : (nI S.2.2.1).toInt.toNat = S.2.2.1 ∧ 0 ≤ (nI S.2.2.1).toInt ∧ (nI S.2.2.1).toInt < 32 := by rw [nI_toInt (by omega)]; omega
  have hrP : kR (t + 9) := by unfold kT at ht; unfold kR; omega
  have htg : t + 14 < g := by unfold kT at ht; unfold kG at hg; omega
  have hle := les_b hr S.1
  have le0 : ldS bs rp S.1 S.2.1 (16 + k) = ldL bs (lesS rp S.1) S.2.1 (16 + k) := by unfold ldS ldL; rw [if_neg (show ¬ 16 + k < 16 by omega)]
  have exk : exS mg bs rp S.1 S.2.1 (16 + k) = ldL bs (lesS rp S.1) S.2.1 (16 + k) - mg (16 + k) := by unfold exS; rw [le0]
  have kdk : kd (16 + k) = 16 := by unfold kd; rw [if_neg (by omega)]
  obtain ⟨hc1, hc2, hc3⟩ := hc
  have hal' := hal hr h
  have RP := rgG hR hr h
  refine st_Storm_goesRound_43 ht hg (st_Storm_goesRound_44 ht hg ⟨fun _ => st_Storm_goesRound_54 ht hg ?_, fun z => absurd rfl z⟩)
  rw [hm, e3.1]
  refine ⟨e3.2, fun _ => st_Storm_goesRound_64 ht hg ?_, fun z => absurd rfl z⟩
  rw [e3.1]
  refine ⟨e3.2, fun _ => ?_, fun z => absurd rfl z⟩
  generalize hs1 : sI (sI s (g + 1) S.2.2.1 1) (g + 2) S.2.2.1 (nI k) = s1
  have f1 : Fr (fun c j => (c = g + 1 ∨ c = g + 2) ∧ j = S.2.2.1) s s1 := by rw [← hs1]; exact ((Fr.rf _ s).sI ⟨Or.inl rfl, rfl⟩).sI ⟨Or.inr rfl, rfl⟩
  have R1 := tRg_fr hR f1 ⟨by omega, by omega⟩ (fun j => ⟨by omega, by omega, by omega, by omega⟩)
  have C1 : cRg (t + 9) 16 LG.length bs S.1 S.2.1 s1 := cRg_fr hc2 f1 (fun c j _ _ => by omega)
  refine sp_excess (r := t + 9) (a := 16) (le := lesS rp S.1) hrP hk R1.2.1 RP C1 (hal' _ hH) hx4 hle (fun w hw => ?_)
  rw [← exk] at hw
  have m0 : ∀ x, rI (sI s (g + 1) S.2.2.1 x) g 3 = nI S.2.2.1 := fun x => by rw [r_II, if_neg (by omega)]; exact hm
  rw [m0]
  refine st_Storm_goesRound_80 ht hg ?_
  rw [e3.1]
  refine ⟨e3.2, fun _ => ?_, fun z => absurd rfl z⟩
  generalize hs2 : sI s1 (g + 3) S.2.2.1 w = s2
  have f2 : Fr (fun c j => (c = g + 1 ∨ c = g + 2 ∨ c = g + 3) ∧ j = S.2.2.1) s s2 := by rw [← hs2]; exact (f1.mo (fun c j z => ⟨by omega, z.2⟩)).sI ⟨by omega, rfl⟩
  have R2 := tRg_fr hR f2 ⟨by omega, by omega⟩ (fun j => ⟨by omega, by omega, by omega, by omega⟩)
  have C2 : cRg (t + 9) 16 LG.length bs S.1 S.2.1 s2 := cRg_fr hc2 f2 (fun c j _ _ => by omega)
  have D2 : cRg (t + 3) 0 LP.length bs S.1 S.2.1 s2 := cRg_fr hc1 f2 (fun c j _ _ => by omega)
  refine sp_lose (r := t + 9) (a := 16) (le := lesS rp S.1) (Or.inr rfl) hrP R2.2.1 RP C2 (outG h hl16.1) hal' hk hH hx4 hle (fun s3 f3 C3 => ?_)
  rw [← le0] at C3
  have D3 : cRg (t + 3) 0 LP.length bs S.1 S.2.1 s3 := cRg_fr D2 f3 (fun c j _ _ => by unfold fRs; omega)
  have T3 : ∀ c j, g ≤ c → c ≤ g + 3 → rI s3 c j = rI s2 c j := fun c j h1 h2 => f3.i (by unfold fRs; omega)
  refine st_Storm_goesRound_92 (hK s3 ((f2.mo (fun c j z => by unfold fSt; omega)).tr (f3.mo (fun c j z => Or.inr (Or.inl z)))) ⟨⟨fun i hi => ?_, ?_⟩, C3, fun i hi => ?_⟩ ?_)
  · have e1 : dropH S.1 (16 + k) (0 + i) = S.1 (0 + i) := if_neg (by omega)
    have e2 : loO pl S.1 S.2.1 (16 + k) (ldS bs rp S.1 S.2.1 (16 + k)) (0 + i) = S.2.1 (0 + i) := lo_out (fun b hb _ => by omega)
    obtain ⟨q1, q2, q3⟩ := D3.1 i hi
    exact ⟨by rw [q1]; show _ = if dropH S.1 (16 + k) (0 + i) = true then _ else _; rw [e1], by rw [q2]; exact e2.symm, q3⟩
  · rw [D3.2]; show nI _ = nI (cn (dropH S.1 (16 + k)) 0 16); rw [cn_drop_out 16 (by omega)]
  · have hi : i < S.2.2.1 + 1 := hi
    show rI s3 (g + 1) i = nI ((if i = S.2.2.1 then (16 + k, exS mg bs rp S.1 S.2.1 (16 + k)) else S.2.2.2 i).1 / 16) ∧ rI s3 (g + 2) i = nI ((if i = S.2.2.1 then (16 + k, exS mg bs rp S.1 S.2.1 (16 + k)) else S.2.2.2 i).1 % 16) ∧ (rI s3 (g + 3) i).toInt = (if i = S.2.2.1 then (16 + k, exS mg bs rp S.1 S.2.1 (16 + k)) else S.2.2.2 i).2
    rw [T3 _ _ (by omega) (by omega), T3 _ _ (by omega) (by omega), T3 _ _ (by omega) (by omega)]
    by_cases ci : i = S.2.2.1
    · rw [if_pos ci, ci, ← hs2, ← hs1]
      refine ⟨?_, ?_, ?_⟩
      · rw [r_II, if_neg (by omega), r_II, if_neg (by omega), r_II, if_pos ⟨rfl, rfl⟩, show (16 + k) / 16 = 1 by omega]; rfl
      · rw [r_II, if_neg (by omega), r_II, if_pos ⟨rfl, rfl⟩, show (16 + k) % 16 = k by omega]
      · rw [r_II, if_pos ⟨rfl, rfl⟩]; exact hw
    · rw [if_neg ci, f2.i (by omega), f2.i (by omega), f2.i (by omega)]
      exact hc3 i (by omega)
  · rw [T3 _ _ (by omega) (by omega), f2.i (by omega)]; exact hm
theorem sp_round (ht : kT t) (hg : kG g) (hR : tRg t s LP LG pl mg) (hr : rgS LP.length LG.length pl mg bs rp) (h : okS LP.length LG.length bs S) (hc : stC t g LP.length LG.length bs s S) (hm : rI s g 3 = nI S.2.2.1) {x : Int32} (hx : x.toInt = rp) {K : Int32 → hS → Prop} (h0 : (wS mg bs rp S.1 S.2.1).1 = -1 → K 0 s) (h1 : ¬ (wS mg bs rp S.1 S.2.1).1 = -1 → ∀ s2, Fr (fSt t g) s s2 → stC t g LP.length LG.length bs s2 (nxS pl mg bs rp S (wS mg bs rp S.1 S.2.1).1.toNat) → rI s2 g 3 = nI S.2.2.1 → K 1 s2) : pcI (d + 4) 103 [.ref g, .ref (t + 3), .ref (t + 9), .int x] v s K := by
  have hl16 := hr.1
  have hrP : kR (t + 3) := by unfold kT at ht; unfold kR; omega
  have hrG : kR (t + 9) := by unfold kT at ht; unfold kR; omega
  have hle := les_b hr S.1
  have hrp := hr.2.2.2.1
  have RP := rgP hR hr h
  have RG := rgG hR hr h
  obtain ⟨hc1, hc2, hc3⟩ := hc
  have n6 : (rI s (t + 9) 6).toInt = cn S.1 16 16 := by rw [hc2.2, nI_toInt (by have := cn_le S.1 16 16; omega)]
  have a0 : wOK (exS mg bs rp S.1 S.2.1) S.1 0 16 (w0S mg bs rp S.1 S.2.1) := wF_ok 16 0 _ (Nat.le_refl _) (by decide) (Or.inl rfl)
  have a1 : wOK (exS mg bs rp S.1 S.2.1) S.1 16 32 (w1S mg bs rp S.1 S.2.1) := wF_ok 16 16 _ (Nat.le_refl _) (by decide) (Or.inl rfl)
  have Z : ∀ (k0 : Int32) (z3 z4 z5 z6 z7 : Value), k0.toInt = lesS rp S.1 → pgI (d + 4) 103 9 [.ref g, .ref (t + 3), .ref (t + 9), .int x, z4, z5, z6, z7] [.int k0] v s K := by
    intro k0 z3 z4 z5 z6 z7 hk0
    refine st_Storm_goesRound_9 ht hg (sp_worst (r := t + 3) (a := 0) (le := 0) hrP hR.1 RP hc1 rfl (by decide) (fun w1 hw1 => sp_worst (r := t + 9) (a := 16) (le := lesS rp S.1) hrG hR.2.1 RG hc2 hk0 hle (fun w2 hw2 => ?_)))
    rw [← w0_L (rp := rp) h hl16.1] at hw1
    rw [← w1_L h hl16.1 hl16.2] at hw2
    have hm32 : ∀ k, S.1 k = true → S.2.2.1 < 32 := fun k hk => by
      have := cn_pos (a := 0) (n := 32) (Nat.zero_le k) (by have := ok_32 h hr hk; omega) hk
      have := h.2.2.2.1; omega
    rcases a0 with e0 | ⟨k, k1, k2, k3, e0, k4⟩
    · have w1m : w1.toInt = -1 := by rw [hw1, e0]; rfl
      rcases a1 with e1 | ⟨q, q1, q2, q3, e1, q4⟩
      · have w2m : w2.toInt = -1 := by rw [hw2, e1]; rfl
        exact ⟨fun _ => ⟨fun _ => h0 (by unfold wS; rw [e0, e1]; rfl), fun z => absurd w2m z⟩, fun z => absurd w1m z⟩
      · have hqL : q < 16 + LG.length := by have := h.1 q q3; omega
        have w2e : w2.toInt = q - 16 := by rw [hw2, e1]; unfold ofs; rw [if_neg (by simp only []; omega)]; rfl
        have w2n : w2 = nI (q - 16) := i_inj (by rw [w2e, nI_toInt (by omega)]; omega)
        have eW : wS mg bs rp S.1 S.2.1 = ((q : Int), exS mg bs rp S.1 S.2.1 q) := by unfold wS; rw [e0, e1, if_pos q4]
        refine ⟨fun _ => ⟨fun z => absurd z (by omega), fun _ => st_Storm_goesRound_26 ht hg ⟨fun z => absurd z (by omega), fun _ => ⟨fun _ => ?_, fun z => absurd w1m z⟩⟩⟩, fun z => absurd w1m z⟩
        rw [eW] at h1
        rw [w2n]
        refine sp_goes ht hg hR hr h ⟨hc1, hc2, hc3⟩ hm hk0 (k := q - 16) (by omega) (by rw [show 16 + (q - 16) = q by omega]; exact q3) (hm32 q q3) (fun s2 f2 c2 m2 => ?_)
        rw [show 16 + (q - 16) = q by omega] at c2
        exact h1 (by simp only []; omega) s2 f2 c2 m2
    · have hkL : k < LP.length := by have := h.1 k k3; omega
      have w1e : w1.toInt = k := by rw [hw1, e0]; unfold ofs; rw [if_neg (by simp only []; omega)]; simp only []; omega
      have w1n : w1 = nI k := i_inj (by rw [w1e, nI_toInt (by omega)])
      have exk : exS mg bs rp S.1 S.2.1 k = ldL bs 0 S.2.1 (0 + k) - mg (0 + k) := by unfold exS ldS ldL; rw [if_pos (show k < 16 by omega), Nat.zero_add]
      have BR : (wS mg bs rp S.1 S.2.1 = ((k : Int), exS mg bs rp S.1 S.2.1 k)) → ∀ (x6 : Int32) (z3 z7 : Value), pgI (d + 4) 103 41 [.ref g, .ref (t + 3), .ref (t + 9), .int x, .int k0, .int w1, .int x6, z7] [] v s K := by
        intro eW x6 z3 z7
        rw [eW] at h1
        rw [w1n]
        exact sp_breaks ht hg hR hr h ⟨hc1, hc2, hc3⟩ hm hkL k3 (hm32 k k3) (fun s2 f2 c2 m2 => h1 (by simp only []; omega) s2 f2 c2 m2)
      refine ⟨fun z => absurd z (by omega), fun _ => st_Storm_goesRound_26 ht hg ?_⟩
      rcases a1 with e1 | ⟨q, q1, q2, q3, e1, q4⟩
      · have w2m : w2.toInt = -1 := by rw [hw2, e1]; rfl
        exact ⟨fun _ => BR (by unfold wS; rw [e0, e1, if_neg (by simp only []; omega)]) _ .null _, fun z => absurd w2m z⟩
      · have hqL : q < 16 + LG.length := by have := h.1 q q3; omega
        have w2e : w2.toInt = q - 16 := by rw [hw2, e1]; unfold ofs; rw [if_neg (by simp only []; omega)]; rfl
        have w2n : w2 = nI (q - 16) := i_inj (by rw [w2e, nI_toInt (by omega)]; omega)
        have exq : exS mg bs rp S.1 S.2.1 q = ldL bs (lesS rp S.1) S.2.1 (16 + (q - 16)) - mg (16 + (q - 16)) := by unfold exS ldS ldL; rw [if_neg (show ¬ q < 16 by omega), show 16 + (q - 16) = q by omega]
        refine ⟨fun z => absurd z (by omega), fun _ => ⟨fun z => absurd z (by omega), fun _ => ?_⟩⟩
        rw [w1n, w2n] at *
        refine sp_excess (r := t + 3) (a := 0) (le := 0) hrP hkL hR.1 RP hc1 (by rw [Nat.zero_add]; exact hal hr h k k3) rfl (by decide) (fun w3 hw3 => sp_excess (r := t + 9) (a := 16) (le := lesS rp S.1) hrG (by omega) hR.2.1 RG hc2 (by rw [show 16 + (q - 16) = q by omega]; exact hal hr h q q3) hk0 hle (fun w4 hw4 => ⟨fun c => ?_, fun c => ?_⟩))
        · rw [← exk] at hw3; rw [← exq] at hw4
          rw [hw3, hw4] at c
          have eW : wS mg bs rp S.1 S.2.1 = ((q : Int), exS mg bs rp S.1 S.2.1 q) := by unfold wS; rw [e0, e1, if_pos c]
          rw [eW] at h1
          refine sp_goes ht hg hR hr h ⟨hc1, hc2, hc3⟩ hm hk0 (k := q - 16) (by omega) (by rw [show 16 + (q - 16) = q by omega]; exact q3) (hm32 q q3) (fun s2 f2 c2 m2 => ?_)
          rw [show 16 + (q - 16) = q by omega] at c2
          exact h1 (by simp only []; omega) s2 f2 c2 m2
        · rw [← exk] at hw3; rw [← exq] at hw4
          rw [hw3, hw4] at c
          exact BR (by unfold wS; rw [e0, e1, if_neg c]) _ .null _
  refine st_Storm_goesRound ht hg ⟨fun c => ?_, fun c => ?_⟩
  · rw [n6] at c ⊢
    refine ⟨by omega, Z _ .null _ _ _ _ ?_⟩
    rw [i_div (by rw [hx]; exact hrp.1) (by rw [n6]; exact c), hx, n6]
    unfold lesS; rw [if_pos (by omega)]
  · rw [n6] at c
    refine Z _ .null _ _ _ _ ?_
    unfold lesS; rw [if_neg (by omega)]; rfl
end
