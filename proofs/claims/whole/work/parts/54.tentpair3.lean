/-! TEXTS: tent(), the pair -/
theorem pX_tX {s : hS} (h : pX s) : ∃ (B : Nat → Int) (N : Nat), tX s B N ∧ tM s B N ∧ rI s 49 4 = rI s 145 13 := by
  obtain ⟨h0, N, h1, h2, h3, h4, h5⟩ := h
  refine ⟨fun i => (rI s 153 i).toInt, N, ⟨h0, h2, h1, fun i hi => ?_⟩, ⟨h3, h1, fun i hi => ⟨rfl, (h4 i hi).2⟩⟩, h5⟩
  rw [(h4 i hi).1]; exact ⟨rfl, (h4 i hi).2⟩
theorem tM_fr {s s1 : hS} {B : Nat → Int} {N : Nat} {W : Nat → Nat → Prop} (h : tM s B N) (hf : Fr W s s1) (h1 : ¬ W 145 8) (h2 : ∀ k, ¬ W 153 k) : tM s1 B N := by
  obtain ⟨a1, a2, a3⟩ := h
  exact ⟨by rw [hf.i h1]; exact a1, a2, fun i hi => by rw [hf.i (h2 i)]; exact a3 i hi⟩
theorem pRo_fr {s s1 : hS} {W : Nat → Nat → Prop} (h : pRo s) (hf : Fr W s s1) (h1 : ∀ c k, c < 48 → ¬ W c k) : pRo s1 := fun c c1 c2 k => by
  rw [hf.i (h1 c k c2)]; exact h c c1 c2 k
/-- an empty text -/
theorem pX_empty {s : hS} (h0 : pRo s) (h1 : rI s 49 1 = 0) (h2 : rI s 145 8 = 0) (h3 : rI s 49 4 = rI s 145 13) : pX s := ⟨h0, 0, by decide, h1, h2, fun i hi => absurd hi (Nat.not_lt_zero i), h3⟩
/-- behind a good tent() -/
def tOK (v1 : hV) (s2 : hS) : Prop := pT v1 s2 ∧ frZ 92 s2 ∧ (∀ k, k < 22 → rL s2 146 k = 0) ∧ rI s2 104 3 = 0 ∧ rI s2 145 26 = 0 ∧ rI s2 117 2 = 0 ∧ rI s2 145 37 = 0 ∧ rI s2 98 5 = 0
theorem th_tent {d : Nat} {v : hV} {s : hS} (hv : kV v) (hx : pX s) : pc (d + 8) 15 [.ref 48] (hh v s) (fun r h1 => ∃ x v1 s1, r = some (.int x) ∧ h1 = hh v1 s1 ∧ vL v1 = vL v ∧ (∀ k, rI s1 0 k = rI s 0 k) ∧ pcI (d + 8) 155 [.ref 145] v1 s1 (fun x2 s2 => x2 = x ∧ pX s2 ∧ ((v1 = v ∧ Fr (fun c k => fCe v c k ∨ fMe c k) s s2) ∨ (v1 = swT v ∧ Fr (fun c k => fCt v c k ∨ fMt c k) s s2 ∧ tOK v1 s2)))) := by
  obtain ⟨B, N, h1, h2, h3⟩ := pX_tX hx
  have hk := kT_in hv.1.2.1
  have hN := h1.2.2.1
  have hC : ∀ c k, fCt v c k → 49 ≤ c ∧ c ≤ 117 ∧ c ≠ 50 := fun c k z => by unfold fCt fD fR fFr at z; omega
  have hCe : ∀ c k, fCe v c k → 49 ≤ c ∧ c ≤ 80 ∧ c ≠ 50 := fun c k z => by unfold fCe fD fR at z; omega
  have hM : ∀ c k, fMt c k → 145 ≤ c := fun c k z => by unfold fMt fM fW fP at z; omega
  have hMe : ∀ c k, fMe c k → 145 ≤ c := fun c k z => by unfold fMe fM fP at z; omega
  refine sp_Stent hv h1 (fun e w he x s1 hxv hf hm hp => ?_) (fun D n he s1 hc => ?_)
  · refine ⟨x, v, s1, rfl, rfl, rfl, fun k => hf.i (fun z => by have := hCe _ _ z; omega), ?_⟩
    have h2' : tM s1 B N := tM_fr h2 hf (fun z => by have := hCe _ _ z; omega) (fun k z => by have := hCe _ _ z; omega)
    refine sm_tent h2' (fun e2 w2 he2 f1 f2 f3 x2 s2 hx2 hf2 ht2 hp2 => ?_) (fun D n he2 => by rw [he] at he2; cases he2)
    rw [he] at he2
    injection he2 with he2
    injection he2 with ea eb
    subst ea; subst eb
    have hff : Fr (fun c k => fCe v c k ∨ fMe c k) s s2 := (hf.mo (fun c k z => Or.inl z)).tr (hf2.mo (fun c k z => Or.inr z))
    refine ⟨i_inj (by rw [hx2, hxv]), ?_, Or.inl ⟨rfl, hff⟩⟩
    refine pX_empty (pRo_fr h1.1 hff (fun c k hc z => ?_)) ?_ ht2 ?_
    · rcases z with z | z
      · have := hCe _ _ z; omega
      · have := hMe _ _ z; omega
    · rw [hf2.i (fun z => by have := hMe _ _ z; omega)]; exact hm
    · rw [hf2.i (fun z => by have := hMe _ _ z; omega), hp, hp2]
  · obtain ⟨hf, hd, hm, hp, hz, g1, g2, g3⟩ := hc
    refine ⟨_, swT v, s1, rfl, rfl, rfl, fun k => hf.i (fun z => by have := hC _ _ z; omega), ?_⟩
    have h2' : tM s1 B N := tM_fr h2 hf (fun z => by have := hC _ _ z; omega) (fun k z => by have := hC _ _ z; omega)
    refine sm_tent h2' (fun e2 w2 he2 => by rw [he] at he2; cases he2) (fun D2 n2 he2 s2 hfin => ?_)
    rw [he] at he2
    injection he2 with he2
    injection he2 with ea eb
    subst ea; subst eb
    obtain ⟨hf2, m1, m2, m3, m4, m5, m6, m7, m8⟩ := hfin
    have hff : Fr (fun c k => fCt v c k ∨ fMt c k) s s2 := (hf.mo (fun c k z => Or.inl z)).tr (hf2.mo (fun c k z => Or.inr z))
    have lo : ∀ c k, c < 145 → rI s2 c k = rI s1 c k := fun c k hc => hf2.i (fun z => by have := hM _ _ z; omega)
    have lol : ∀ c k, c < 145 → rL s2 c k = rL s1 c k := fun c k hc => hf2.l (fun z => by have := hM _ _ z; omega)
    refine ⟨rfl, ?_, Or.inr ⟨rfl, hff, ⟨D, pTent_ok 300 pTent0 0 0 (D, n) pTent0_ok he, fun k hk2 => ⟨?_, m1 k hk2⟩, ?_, ?_, m2, m3⟩, ⟨fun k hk2 => ?_, fun k k2 k6 => ?_, ?_⟩, m8, ?_, m6, ?_, m7, ?_⟩⟩
    · refine pX_empty (pRo_fr h1.1 hff (fun c k hc z => ?_)) ?_ m4 ?_
      · rcases z with z | z
        · have := hC _ _ z; omega
        · have := hM _ _ z; omega
      · rw [lo _ _ (by decide)]; exact hm
      · rw [lo _ _ (by decide), hp, m5]
    · show (rI s2 (vU v + 1) k).toInt = D.1 k
      rw [lo _ _ (by omega)]; exact hd.1 k hk2
    · exact dR_fr (r := vU v + 3) hd.2.2.1 hf2 (fun c k z z2 => by have := hM _ _ z2; unfold fR at z; omega)
    · exact dR_fr (r := vU v + 9) hd.2.2.2 hf2 (fun c k z z2 => by have := hM _ _ z2; unfold fR at z; omega)
    · rw [lol _ _ (by decide), lol _ _ (by decide)]; exact hz.1 k hk2
    · rw [lol _ _ (by decide)]; exact hz.2.1 k k2 k6
    · rw [lo _ _ (by decide)]; exact hz.2.2
    · rw [lo _ _ (by decide)]; exact g1
    · rw [lo _ _ (by decide)]; exact g2
    · rw [lo _ _ (by decide)]; exact g3
