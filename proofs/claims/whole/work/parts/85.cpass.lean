/-! A NIGHT by a RULE, in the class: all of it -/
section
variable {d : Nat} {v : hV} {s s1 : hS} {m : Int} {T : Nat → Int} {W U : Nat → Int64} {X : rRow}
theorem tCl_fr {t : Nat → Int32} {F : Nat → Nat → Prop} (h : tCl s t) (hf : Fr F s s1) (hw : ∀ k, ¬ F 103 k) : tCl s1 t := fun k hk => by rw [hf.i (hw k)]; exact h k hk
theorem tCl_cg {t t2 : Nat → Int32} (h : tCl s t) (e : ∀ k, k < 4 → t k = t2 k) : tCl s t2 := fun k hk => by rw [h k hk, e k hk]
def qC (s0 : hS) (S : lS) (s1 : hS) : Prop := Fr fLc s0 s1 ∧ cVec 92 s1 S.1 ∧ tCl s1 S.2
theorem i_a0 (x : Int32) : x + 0 = x := i_inj (by
  have e : Int32.toInt 0 = 0 := rfl
  have := i_rng x
  rw [i_add (by rw [e]; omega), e]; omega)
theorem sp_pass {t n u : Nat} (ht : kT t) (hn : kN n) (hu : kU u) (hLT : pLT s) (hT : tvC t s T) (ok : okT T) {L : List nRow} (hN : dN n s L) (hL : nrOK L) (hU : dU u s X) (hX : rrOK X) {g : Int32} (hg : 0 ≤ g.toInt ∧ g.toInt ≤ 9) (hc : cVec 92 s W) (ho : okM m W) (hm : m ≤ 1000000) {K : hS → Prop} (hK : ∀ s2, qC s (lvN T X L g.toInt (W, fun _ => 0) L.length) s2 → K s2) : pcV (d + 6) 89 [.ref n, .ref u, .int g, .ref 92, .ref t, .ref 103] v s K := by
  have e1 : Int32.toInt 1 = 1 := rfl
  have ft : ∀ k, ¬ fLc (t + 1) k := fun k => by unfold fLc fAi; unfold kT at ht; omega
  have fu : ∀ k, ¬ fLc u k := fun k => by unfold fLc fAi; unfold kU at hu; omega
  have fn : ∀ c k, fN n c k → ¬ fLc c k := fun c k => by unfold fN fLc fAi; unfold kN at hn; omega
  have f5 : ∀ k, ¬ fLc 5 k := fun k => by unfold fLc fAi; omega
  have fa : ∀ (c _ : Nat), 92 ≤ c → c ≤ 92 + 3 → ¬ c = 103 := fun c _ h1 h2 h3 => by omega
  have hl12 := hL.1
  -- a MINUTE behind the gust
  have MD : ∀ (S : lS) (s1 : hS) (b : Int) (i j k : Int32), qC s S s1 → okM b S.1 → b ≤ 100000000 → (∀ s2, qC s (lvD T S) s2 → pgV (d + 6) 89 40 [.ref n, .ref u, .int g, .ref 92, .ref t, .ref 103, .int (i + 1), .int j, .int (k + 1)] [] v s2 K) → pgV (d + 6) 89 66 [.ref n, .ref u, .int g, .ref 92, .ref t, .ref 103, .int i, .int j, .int k] [] v s1 K := by
    intro S s1 b i j k hq hb hbb hk
    obtain ⟨q1, q2, q3⟩ := hq
    have g22 : rI s1 92 9 = (S.1 22).toInt32 := by
      have : (rI s1 92 9).toInt64 = S.1 22 := q2 22 (by decide)
      rw [← this, i_64_32]
    refine st_Night_pass_66 ht hn hu ?_
    rw [g22]
    refine sp_add (j := 3) (by decide) q3 (fun s2 f2 t2 => ?_)
    have q1b : Fr fLc s s2 := q1.tr (f2.mo (fun c k z => Or.inr z))
    have c2 := cVec_fr q2 f2 fa
    refine sp_goMinute ht (Or.inl rfl) (pLT_fr hLT q1b (fun k _ => f5 k)) (tvC_fr hT q1b (fun k _ => ft k)) ok c2 (okM_A hb) (by omega) (fun s3 f3 c3 => ?_)
    have q3b : Fr fLc s s3 := q1b.tr (f3.mo (fun c k z => by unfold fMin at z; unfold fLc fAi; omega))
    have t3 := tCl_fr t2 f3 (fun k => by unfold fMin; omega)
    have hb3 := okM_mn hb ok hbb
    have hl8 : lwW T (mnW T S.1) ≤ 8 := by have := lwF_le T (mnW T S.1) 8 0; unfold lwW; omega
    -- the end
    have E : ∀ (y z : Int32), y = (if lwW T (mnW T S.1) < 3 then 1 else 0) → z = (if wm (mnW T S.1) < 100 then 1 else 0) → ∀ (s4 : hS), Fr fLc s s4 → cVec 92 s4 (mnW T S.1) → tCl s4 (fun i => if i = 1 then S.2 1 + y else if i = 3 then S.2 3 + (S.1 22).toInt32 else S.2 i) → pgV (d + 6) 89 96 [.ref n, .ref u, .int g, .ref 92, .ref t, .ref 103, .int i, .int j, .int k] [.int z, .int 2, .ref 103] v s4 K := by
      intro y z hy hz s4 f4 c4 t4
      refine st_Night_pass_96 ht hn hu (sp_add (j := 2) (by decide) t4 (fun s5 f5 t5 => ?_))
      refine hk s5 ⟨f4.tr (f5.mo (fun c k z => Or.inr z)), cVec_fr c4 f5 fa, tCl_cg t5 (fun i hi => ?_)⟩
      have hi : i = 0 ∨ i = 1 ∨ i = 2 ∨ i = 3 := by omega
      rw [hy, hz]
      rcases hi with rfl | rfl | rfl | rfl <;> rfl
    have M : ∀ y : Int32, y = (if lwW T (mnW T S.1) < 3 then 1 else 0) → pgV (d + 6) 89 84 [.ref n, .ref u, .int g, .ref 92, .ref t, .ref 103, .int i, .int j, .int k] [.int y, .int 1, .ref 103] v s3 K := by
      intro y hy
      refine st_Night_pass_84 ht hn hu (sp_add (j := 1) (by decide) t3 (fun s4 f4 t4 => st_Air_warmth (Or.inl rfl) ⟨by decide, ?_⟩))
      have c4 := cVec_fr c3 f4 fa
      have e9 : (rL s4 (92 + 2) (Int32.toInt 1).toNat / 20).toInt = wm (mnW T S.1) := by
        show (rL s4 (92 + 2) 1 / 20).toInt = _
        have : rL s4 (92 + 2) 1 = mnW T S.1 9 := by rw [← c4 9 (by decide)]; exact (cA_heat 92 1 s4 (by decide)).symm
        rw [this]; rfl
      have q4b : Fr fLc s s4 := q3b.tr (f4.mo (fun c k z => Or.inr z))
      have t4b : tCl s4 (fun i => if i = 1 then S.2 1 + y else if i = 3 then S.2 3 + (S.1 22).toInt32 else S.2 i) := tCl_cg t4 (fun i hi => by
        have hi : i = 0 ∨ i = 1 ∨ i = 2 ∨ i = 3 := by omega
        rcases hi with rfl | rfl | rfl | rfl <;> rfl)
      rw [e9]
      exact ⟨fun c => E y 1 hy (by rw [if_pos c]) s4 q4b c4 t4b, fun c => E y 0 hy (by rw [if_neg c]) s4 q4b c4 t4b⟩
    refine sp_low ht (Or.inl rfl) (tvC_fr hT q3b (fun k _ => ft k)) c3 ?_
    rw [nI_toInt (by omega)]
    exact ⟨fun c => M 1 (by rw [if_pos (by omega)]), fun c => M 0 (by rw [if_neg (by omega)])⟩
  -- a whole MINUTE
  have ST : ∀ (S : lS) (s1 : hS) (b : Int) (i k : Int32) (q : Nat), qC s S s1 → okM b S.1 → b ≤ 100000000 → q < L.length → 0 ≤ i.toInt → k.toInt < (L.getD q (0, 0, 0, 0)).2.2.1 → (∀ s2, qC s (lvM T X (L.getD q (0, 0, 0, 0)) g.toInt i.toInt S) s2 → pgV (d + 6) 89 40 [.ref n, .ref u, .int g, .ref 92, .ref t, .ref 103, .int (i + 1), .int (nI q), .int (k + 1)] [] v s2 K) → pgV (d + 6) 89 40 [.ref n, .ref u, .int g, .ref 92, .ref t, .ref 103, .int i, .int (nI q), .int k] [] v s1 K := by
    intro S s1 b i k q hq hb hbb hqL hi0 hkk hk
    have hr := nr_get hL hqL
    have q1 := hq.1
    have N1 := dN_fr hN q1 fn
    have U1 := dU_fr hU q1 fu
    -- the gust
    have GG : ∀ (S : lS) (s1 : hS), qC s S s1 → okM b S.1 → (∀ s2, qC s (lvD T (lvG (L.getD q (0, 0, 0, 0)) g.toInt S)) s2 → pgV (d + 6) 89 40 [.ref n, .ref u, .int g, .ref 92, .ref t, .ref 103, .int (i + 1), .int (nI q), .int (k + 1)] [] v s2 K) → pgV (d + 6) 89 59 [.ref n, .ref u, .int g, .ref 92, .ref t, .ref 103, .int i, .int (nI q), .int k] [] v s1 K := by
      intro S s1 hq hb hk
      obtain ⟨q1, q2, q3⟩ := hq
      refine st_Night_pass_59 ht hn hu ⟨fun c => sp_gust hn (dN_fr hN q1 fn) hL hqL ⟨c, hg.2⟩ q2 hb (fun s2 f2 c2 => ?_), fun c => ?_⟩
      · have e : lvG (L.getD q (0, 0, 0, 0)) g.toInt S = (gsW (L.getD q (0, 0, 0, 0)) g.toInt S.1, S.2) := by unfold lvG; rw [if_pos c]
        rw [e] at hk
        exact MD (gsW (L.getD q (0, 0, 0, 0)) g.toInt S.1, S.2) s2 b i (nI q) k ⟨q1.tr (f2.mo (fun c k z => Or.inl z)), c2, tCl_fr q3 f2 (fun k => by unfold fAi; omega)⟩ (gsW_ok hb hr.2.1.1 c) hbb hk
      · have e : lvG (L.getD q (0, 0, 0, 0)) g.toInt S = S := by unfold lvG; rw [if_neg c]
        rw [e] at hk
        exact MD S s1 b i (nI q) k ⟨q1, q2, q3⟩ hb hbb hk
    obtain ⟨_, N2, N3⟩ := N1
    obtain ⟨_, _, a3, _⟩ := N3 q hqL
    refine st_Night_pass_40 ht hn hu ?_
    rw [nI_toInt (by omega), Int.toNat_natCast, a3]
    refine ⟨by omega, fun _ => sp_looksAt hu U1 hX hi0 (fun c => ⟨fun z => absurd z (by decide), fun _ => ?_⟩) (fun c => ⟨fun _ => ?_, fun z => absurd rfl z⟩), fun z => absurd hkk z⟩
    · have e : lvK T X i.toInt S = (lkW T X S.1, fun i => if i = 0 then S.2 0 + lkN T X S.1 else S.2 i) := by unfold lvK; rw [if_pos c]
      have hk2 : ∀ s2, qC s (lvD T (lvG (L.getD q (0, 0, 0, 0)) g.toInt (lvK T X i.toInt S))) s2 → _ := hk
      rw [e] at hk2
      refine sp_mind ht hu (tvC_fr hT q1 (fun k _ => ft k)) U1 hX hq.2.1 hb (by omega) (fun r s2 f2 c2 r1 r0 => ?_)
      have q2b : Fr fLc s s2 := q1.tr (f2.mo (fun c k z => Or.inl z))
      have t2 := tCl_fr hq.2.2 f2 (fun k => by unfold fAi; omega)
      by_cases cc : (lwW T S.1 : Int) < X.2.1
      · rw [r1 cc]
        refine ⟨fun z => absurd z (by decide), fun _ => sp_add (j := 0) (by decide) t2 (fun s3 f3 t3 => ?_)⟩
        refine GG (lkW T X S.1, fun i => if i = 0 then S.2 0 + lkN T X S.1 else S.2 i) s3 ⟨q2b.tr (f3.mo (fun c k z => Or.inr z)), cVec_fr c2 f3 fa, tCl_cg t3 (fun i hi => ?_)⟩ (lkW_ok hb hX) hk2
        unfold lkN; rw [if_pos cc]
      · rw [r0 cc]
        refine ⟨fun _ => ?_, fun z => absurd rfl z⟩
        refine GG (lkW T X S.1, fun i => if i = 0 then S.2 0 + lkN T X S.1 else S.2 i) s2 ⟨q2b, c2, tCl_cg t2 (fun i hi => ?_)⟩ (lkW_ok hb hX) hk2
        unfold lkN; rw [if_neg cc]
        by_cases i0 : i = 0
        · rw [i0]; show S.2 0 = S.2 0 + 0; rw [i_a0]
        · show S.2 i = if i = 0 then _ else S.2 i; rw [if_neg i0]
    · have e : lvK T X i.toInt S = S := by unfold lvK; rw [if_neg c]
      have hk2 : ∀ s2, qC s (lvD T (lvG (L.getD q (0, 0, 0, 0)) g.toInt (lvK T X i.toInt S))) s2 → _ := hk
      rw [e] at hk2
      exact GG S s1 hq hb hk2
  -- the MINUTES of a row
  have RW : ∀ (j i : Nat) (S0 : lS) (s1 : hS) (b : Int) (q : Nat) (x6 : Int32), i + j = (L.getD q (0, 0, 0, 0)).2.2.1.toNat → q < L.length → x6.toInt = lvT L q + i → okM b S0.1 → b ≤ 10000000 → qC s (lvR T X (L.getD q (0, 0, 0, 0)) g.toInt (lvT L q) S0 i) s1 → (∀ s2 (y6 : Int32), y6.toInt = lvT L (q + 1) → qC s (lvR T X (L.getD q (0, 0, 0, 0)) g.toInt (lvT L q) S0 (L.getD q (0, 0, 0, 0)).2.2.1.toNat) s2 → ∀ z8, pgV (d + 6) 89 16 [.ref n, .ref u, .int g, .ref 92, .ref t, .ref 103, .int y6, .int (nI (q + 1)), z8] [] v s2 K) → pgV (d + 6) 89 40 [.ref n, .ref u, .int g, .ref 92, .ref t, .ref 103, .int x6, .int (nI q), .int (nI i)] [] v s1 K := by
    intro j
    induction j with
    | zero =>
      intro i S0 s1 b q x6 hij hqL hx6 hb hbb hq hk
      have hi : i = (L.getD q (0, 0, 0, 0)).2.2.1.toNat := by omega
      have hr := nr_get hL hqL
      have r3 := hr.2.2.1
      obtain ⟨_, N2, N3⟩ := dN_fr hN hq.1 fn
      obtain ⟨_, _, a3, _⟩ := N3 q hqL
      refine st_Night_pass_40 ht hn hu ?_
      rw [nI_toInt (by omega), Int.toNat_natCast, a3, nI_toInt (by omega), nI_1]
      refine ⟨by omega, fun z => absurd z (by omega), fun _ => hk s1 x6 ?_ (by rw [← hi]; exact hq) _⟩
      show _ = lvT L q + (L.getD q (0, 0, 0, 0)).2.2.1
      omega
    | succ j ih =>
      intro i S0 s1 b q x6 hij hqL hx6 hb hbb hq hk
      have hr := nr_get hL hqL
      have r3 := hr.2.2.1
      have hT0 := lvT_b hL q (by omega)
      refine ST _ s1 (b + i) x6 (nI i) q hq (lvR_ok hb ok hX hr i (by omega)) (by omega) hqL (by omega) (by rw [nI_toInt (by omega)]; omega) (fun s2 h2 => ?_)
      rw [nI_1]
      refine ih (i + 1) S0 s2 b q (x6 + 1) (by omega) hqL ?_ hb hbb ?_ hk
      · rw [i_add (by rw [e1]; omega), e1]; omega
      · rw [hx6] at h2; exact h2
  -- the rows
  have NN : ∀ (j q : Nat) (s1 : hS) (x6 : Int32) (z8 : Value), q + j = L.length → x6.toInt = lvT L q → qC s (lvN T X L g.toInt (W, fun _ => 0) q) s1 → pgV (d + 6) 89 16 [.ref n, .ref u, .int g, .ref 92, .ref t, .ref 103, .int x6, .int (nI q), z8] [] v s1 K := by
    intro j
    induction j with
    | zero =>
      intro q s1 x6 z8 hqj hx6 hq
      have hq0 : q = L.length := by omega
      obtain ⟨N1, N2, N3⟩ := dN_fr hN hq.1 fn
      refine st_Night_pass_16 ht hn hu ?_
      have N1 : rI s1 n 4 = nI L.length := N1
      rw [N1, nI_toInt (by omega), nI_toInt (by omega)]
      exact ⟨fun z => absurd z (by omega), fun _ => hK s1 (by rw [← hq0]; exact hq)⟩
    | succ j ih =>
      intro q s1 x6 z8 hqj hx6 hq
      have hqL : q < L.length := by omega
      obtain ⟨N1, N2, N3⟩ := dN_fr hN hq.1 fn
      have N1 : rI s1 n 4 = nI L.length := N1
      obtain ⟨a1, a2, a3, a4⟩ := N3 q hqL
      have hr := nr_get hL hqL
      have hTq := lvT_b hL q (by omega)
      have oq := lvN_ok (g := g.toInt) (S := (W, fun _ => 0)) ho ok hX hL (by omega) q (by omega)
      refine st_Night_pass_16 ht hn hu ?_
      rw [N1, nI_toInt (by omega), nI_toInt (by omega), Int.toNat_natCast]
      refine ⟨fun _ => ⟨by omega, by omega, by omega, by rw [a4]; exact hr.2.2.2, ?_⟩, fun z => absurd (by omega) z⟩
      have V1 := cVec_I (j := 23) (x := rI s1 (n + 1) q) hq.2.1 (by decide) rfl
      have V2 := cVec_I (j := 24) (x := rI s1 (n + 2) q) V1 (by decide) rfl
      have V3 := cVec_I (j := 25) (x := rI s1 (n + 4) q) V2 (by decide) rfl
      have F3 : Fr fAi s1 (sI (sI (sI s1 92 10 (rI s1 (n + 1) q)) 92 11 (rI s1 (n + 2) q)) 92 12 (rI s1 (n + 4) q)) := (((Fr.rf _ s1).sI ⟨by decide, by decide⟩).sI ⟨by decide, by decide⟩).sI ⟨by decide, by decide⟩
      refine RW (L.getD q (0, 0, 0, 0)).2.2.1.toNat 0 (lvB (L.getD q (0, 0, 0, 0)) (lvN T X L g.toInt (W, fun _ => 0) q)) _ (m + lvT L q) q x6 (by omega) hqL (by rw [hx6]; omega) (rwW_ok oq hr) (by omega) ⟨hq.1.tr (F3.mo (fun c k z => Or.inl z)), ?_, tCl_fr hq.2.2 F3 (fun k => by unfold fAi; omega)⟩ (fun s2 y6 hy6 h2 z8 => ih (q + 1) s2 y6 z8 (by omega) hy6 h2)
      rw [l_of ((i_64 _).trans a1), l_of ((i_64 _).trans a2), l_of ((i_64 _).trans a4)] at V3
      exact V3
  -- the beginning
  have Z : ∀ (j i : Nat) (s1 : hS), i + j = 4 → Fr fLc s s1 → cVec 92 s1 W → (∀ k, k < i → rI s1 103 k = 0) → pgV (d + 6) 89 2 [.ref n, .ref u, .int g, .ref 92, .ref t, .ref 103, .int (nI i), .null, .null] [] v s1 K := by
    intro j
    induction j with
    | zero =>
      intro i s1 hij hf hv hz
      have hi : i = 4 := by omega
      subst hi
      exact st_Night_pass_2 ht hn hu ⟨fun z => absurd z (by decide), fun _ => NN L.length 0 s1 0 _ (by omega) rfl ⟨hf, hv, hz⟩⟩
    | succ j ih =>
      intro i s1 hij hf hv hz
      refine st_Night_pass_2 ht hn hu ⟨fun _ => ?_, fun z => absurd (by rw [nI_toInt (by omega)]; omega) z⟩
      rw [nI_toInt (by omega), Int.toNat_natCast, nI_1]
      refine ⟨by omega, ih (i + 1) _ (by omega) (hf.sI (Or.inr rfl)) (cVec_fr hv ((Fr.rf (fun c _ => c = 103) s1).sI rfl) fa) (fun k hk => ?_)⟩
      rw [r_II]
      by_cases c : k = i
      · rw [if_pos ⟨rfl, c⟩]
      · rw [if_neg (fun z => c z.2)]; exact hz k (by omega)
  exact st_Night_pass ht hn hu (Z 4 0 s (by decide) (Fr.rf _ _) hc (fun k hk => absurd hk (Nat.not_lt_zero k)))
end
