/-! THE CUT in the class: which hide each piece is cut of -/
section
variable {d : Nat} {v : hV} {s s1 : hS} {hl pl : Nat → Int} {H P : Nat} {L : Nat → Int}
theorem upL_b {h : Nat} {y : Int} (hL : ∀ g, 0 ≤ L g ∧ L g ≤ 999) (hy : 0 ≤ y ∧ y ≤ 999) : ∀ g, 0 ≤ upL L h y g ∧ upL L h y g ≤ 999 := fun g => by
  unfold upL
  split
  · exact hy
  · exact hL g
theorem sp_deal (hC : cHi hl pl H P s) {S : Nat} (hSb : S < 2 ^ H) (ht : rI s 125 7 = nI S) (hok : okC hl pl H P S) {K : hS → Prop} (hK : ∀ s2, Fr (fun c _ => c = 128 ∨ c = 129 ∨ c = 130) s s2 → (∀ k, k < P → rI s2 130 k = nI (hsF pl H P k (LsF pl H P (lsC hl S) k))) → K s2) : pcV (d + 4) 143 [.ref 125] v s K := by
  obtain ⟨⟨hH, hP8⟩, c2, c3, c4, c5⟩ := hC
  have hC : cHi hl pl H P s := ⟨⟨hH, hP8⟩, c2, c3, c4, c5⟩
  have hpw := pw8 hH
  have em1 : Int32.toInt (-1) = -1 := rfl
  have hLb := lsC_b (hl := hl) (fun g hg => (c4 g hg).2) hSb
  have hp : ∀ i, i < P → 1 ≤ pl i ∧ pl i ≤ 999 := fun i hi => (c5 i hi).2
  have hLs := LsF_ok (L := lsC hl S) hLb hp hok
  generalize hLe : lsC hl S = L at *
  have G : ∀ j i : Nat, i + j = P → ∀ (s1 : hS) (z2 : Value), Fr (fun c _ => c = 128 ∨ c = 129 ∨ c = 130) s s1 → lfC H (LsF pl H P L i) s1 → (∀ k, k < i → rI s1 130 k = nI (hsF pl H P k (LsF pl H P L k))) → pgV (d + 4) 143 7 [.ref 125, .int (nI i), z2] [] v s1 K := by
    intro j
    induction j with
    | zero =>
      intro i hi s1 z2 hf hlf hq
      refine st_Hides_deal_7 ?_
      rw [hf.i (show ¬ ((125 : Nat) = 128 ∨ (125 : Nat) = 129 ∨ (125 : Nat) = 130) by decide), c3, nI_toInt (show i < 2147483648 by omega), nI_toInt (show P < 2147483648 by omega)]
      exact ⟨fun z => absurd z (by omega), fun _ => hK s1 hf (fun k hk => hq k (by omega))⟩
    | succ j ih =>
      intro i hi s1 z2 hf hlf hq
      have q1 : nI i + 1 = nI (i + 1) := by rw [nI_1]
      obtain ⟨lb, lf⟩ := hLs i (by omega)
      obtain ⟨⟨g1, g2, g3⟩, g4⟩ := hsF_ok (i := i) (by omega) lb hp lf
      have c5i := c5 i (by omega)
      have hLn : LsF pl H P L (i + 1) = upL (LsF pl H P L i) (hsF pl H P i (LsF pl H P L i)) (LsF pl H P L i (hsF pl H P i (LsF pl H P L i)) - pl i) := rfl
      generalize hLi : LsF pl H P L i = Li at *
      generalize hs : hsF pl H P i Li = h0 at *
      have IN : ∀ j2 h : Nat, h + j2 = h0 → ∀ s2 : hS, Fr (fun c k => c = 128 ∨ c = 129 ∨ (c = 130 ∧ k = i)) s1 s2 → lfC H Li s2 → rI s2 130 i = -1 → pgV (d + 4) 143 18 [.ref 125, .int (nI i), .int (nI h)] [] v s2 K := by
        intro j2
        induction j2 with
        | zero =>
          intro h hh s2 hf2 hl2 hm
          have hh : h = h0 := by omega
          have q2 : nI h + 1 = nI (h + 1) := by rw [nI_1]
          have FF := hf.tr (hf2.mo (W' := fun c _ => c = 128 ∨ c = 129 ∨ c = 130) (fun c k z => by omega))
          have HC2 : cHi hl pl H P s2 := cHi_fr hC FF (by omega) (fun k => by omega)
          have e127 : (rI s2 127 i).toInt = pl i := (HC2.2.2.2.2 i (by omega)).1
          have elh : (rI s2 128 h).toInt = Li h := hl2 h (by omega)
          have lbh := lb h
          refine st_Hides_deal_18 ?_
          rw [HC2.2.1, nI_toInt (show h < 2147483648 by omega), nI_toInt (show H < 2147483648 by omega), nI_toInt (show i < 2147483648 by omega), Int.toNat_natCast, Int.toNat_natCast, hm, em1, elh, e127, q1]
          refine ⟨fun _ => ⟨by omega, ⟨fun _ => ⟨by omega, by omega, fun c => absurd g2 (by rw [← hh]; omega), fun _ => ⟨by omega, by omega, by omega, ?_⟩⟩, fun z => absurd rfl z⟩⟩, fun z => absurd (by omega) z⟩
          have F3 : Fr (fun c _ => c = 128) s2 (sI s2 128 h (rI s2 128 h - rI s2 127 i)) := (Fr.rf _ s2).sI rfl
          have HC3 : cHi hl pl H P (sI s2 128 h (rI s2 128 h - rI s2 127 i)) := cHi_fr HC2 F3 (by omega) (fun k => by omega)
          have L3 : lfC H (upL Li h (Li h - pl i)) (sI s2 128 h (rI s2 128 h - rI s2 127 i)) := fun g hg => by
            rw [r_II]
            unfold upL
            by_cases cg : g = h
            · rw [if_pos ⟨rfl, cg⟩, if_pos cg, i_sub (by omega), elh, e127]
            · rw [if_neg (fun z => cg z.2), if_neg cg]; exact hl2 g hg
          have hbb := upL_b (L := Li) (h := h) (y := Li h - pl i) lb (by rw [hh]; rw [hh] at lbh; omega)
          rw [← hh] at g3 hLn
          refine sp_fitsFrom (d := d + 1) HC3 L3 hbb (f := i + 1) (by omega) (fun _ s3 f3 => ⟨fun z => absurd z (by decide), fun _ => ⟨by omega, ?_⟩⟩) (fun z => absurd g3 z)
          have FT := (hf2.tr (F3.mo (W' := fun c k => c = 128 ∨ c = 129 ∨ (c = 130 ∧ k = i)) (fun c k z => by omega))).tr (f3.mo (W' := fun c k => c = 128 ∨ c = 129 ∨ (c = 130 ∧ k = i)) (fun c k z => by omega))
          have F4 : Fr (fun c k => c = 128 ∨ c = 129 ∨ (c = 130 ∧ k = i)) s1 (sI s3 130 i (nI h)) := FT.sI (Or.inr (Or.inr ⟨rfl, rfl⟩))
          have F5 := hf.tr (F4.mo (W' := fun c _ => c = 128 ∨ c = 129 ∨ c = 130) (fun c k z => by omega))
          have L5 : lfC H (LsF pl H P L (i + 1)) (sI s3 130 i (nI h)) := fun g hg => by
            rw [hLn, r_II, if_neg (fun z => absurd z.1 (by decide)), f3.i (show ¬ (128 : Nat) = 129 by decide)]
            exact L3 g hg
          have Q5 : ∀ k, k < i + 1 → rI (sI s3 130 i (nI h)) 130 k = nI (hsF pl H P k (LsF pl H P L k)) := fun k hk => by
            by_cases ck : k = i
            · rw [ck, r_II, if_pos ⟨rfl, rfl⟩, hLi, hs, hh]
            · rw [F4.i (by omega)]; exact hq k (by omega)
          have NX := fun z2 => ih (i + 1) (by omega) (sI s3 130 i (nI h)) z2 F5 L5 Q5
          have eh : rI (sI s3 130 i (nI h)) 130 i = nI h := by rw [r_II, if_pos ⟨rfl, rfl⟩]
          have e2 : rI (sI s3 130 i (nI h)) 125 2 = nI H := by rw [F5.i (by omega)]; exact c2
          rw [q2]
          refine st_Hides_deal_18 ?_
          rw [e2, nI_toInt (show i < 2147483648 by omega), Int.toNat_natCast, eh, nI_toInt (show h < 2147483648 by omega), q1]
          exact ⟨fun _ => ⟨by omega, fun z => absurd z (by omega), fun _ => NX _⟩, fun _ => NX _⟩
        | succ j2 ih2 =>
          intro h hh s2 hf2 hl2 hm
          have q2 : nI h + 1 = nI (h + 1) := by rw [nI_1]
          have FF := hf.tr (hf2.mo (W' := fun c _ => c = 128 ∨ c = 129 ∨ c = 130) (fun c k z => by omega))
          have HC2 : cHi hl pl H P s2 := cHi_fr hC FF (by omega) (fun k => by omega)
          have e127 : (rI s2 127 i).toInt = pl i := (HC2.2.2.2.2 i (by omega)).1
          have elh : (rI s2 128 h).toInt = Li h := hl2 h (by omega)
          have lbh := lb h
          have hng := g4 h (by omega)
          refine st_Hides_deal_18 ?_
          rw [HC2.2.1, nI_toInt (show h < 2147483648 by omega), nI_toInt (show H < 2147483648 by omega), nI_toInt (show i < 2147483648 by omega), Int.toNat_natCast, Int.toNat_natCast, hm, em1, elh, e127, q2, q1]
          refine ⟨fun _ => ⟨by omega, ⟨fun _ => ⟨by omega, by omega, fun c => ih2 (h + 1) (by omega) s2 hf2 hl2 hm, fun cc => ⟨by omega, by omega, by omega, ?_⟩⟩, fun z => absurd rfl z⟩⟩, fun z => absurd (by omega) z⟩
          have F3 : Fr (fun c _ => c = 128) s2 (sI s2 128 h (rI s2 128 h - rI s2 127 i)) := (Fr.rf _ s2).sI rfl
          have HC3 : cHi hl pl H P (sI s2 128 h (rI s2 128 h - rI s2 127 i)) := cHi_fr HC2 F3 (by omega) (fun k => by omega)
          have e3h : (rI s2 128 h - rI s2 127 i).toInt = Li h - pl i := by rw [i_sub (by omega), elh, e127]
          have L3 : lfC H (upL Li h (Li h - pl i)) (sI s2 128 h (rI s2 128 h - rI s2 127 i)) := fun g hg => by
            rw [r_II]
            unfold upL
            by_cases cg : g = h
            · rw [if_pos ⟨rfl, cg⟩, if_pos cg, e3h]
            · rw [if_neg (fun z => cg z.2), if_neg cg]; exact hl2 g hg
          have hbb := upL_b (L := Li) (h := h) (y := Li h - pl i) lb (by omega)
          refine sp_fitsFrom (d := d + 1) HC3 L3 hbb (f := i + 1) (by omega) (fun z => absurd ⟨by omega, by omega, z⟩ hng) (fun _ s3 f3 => ⟨fun _ => ⟨by omega, by omega, by omega, ?_⟩, fun z => absurd rfl z⟩)
          have FT := (hf2.tr (F3.mo (W' := fun c k => c = 128 ∨ c = 129 ∨ (c = 130 ∧ k = i)) (fun c k z => by omega))).tr (f3.mo (W' := fun c k => c = 128 ∨ c = 129 ∨ (c = 130 ∧ k = i)) (fun c k z => by omega))
          have a3 : rI s3 128 h = rI s2 128 h - rI s2 127 i := by rw [f3.i (show ¬ (128 : Nat) = 129 by decide), r_II, if_pos ⟨rfl, rfl⟩]
          have b3 : rI s3 127 i = rI s2 127 i := by rw [f3.i (show ¬ (127 : Nat) = 129 by decide), F3.i (show ¬ (127 : Nat) = 128 by decide)]
          refine ih2 (h + 1) (by omega) _ (FT.sI (Or.inl rfl)) (fun g hg => ?_) ?_
          · rw [r_II]
            by_cases cg : g = h
            · rw [if_pos ⟨rfl, cg⟩, a3, b3, i_add (by rw [e3h]; omega), e3h, e127, cg]; omega
            · rw [if_neg (fun z => cg z.2), f3.i (show ¬ (128 : Nat) = 129 by decide), r_II, if_neg (fun z => cg z.2)]
              exact hl2 g hg
          · rw [r_II, if_neg (fun z => absurd z.1 (by decide)), f3.i (show ¬ (130 : Nat) = 129 by decide), F3.i (show ¬ (130 : Nat) = 128 by decide)]
            exact hm
      have HC1 : cHi hl pl H P s1 := cHi_fr hC hf (by omega) (fun k => by omega)
      refine st_Hides_deal_7 ?_
      rw [HC1.2.2.1, nI_toInt (show i < 2147483648 by omega), nI_toInt (show P < 2147483648 by omega), Int.toNat_natCast]
      refine ⟨fun _ => ⟨by omega, IN h0 0 (by omega) _ ((Fr.rf _ s1).sI (Or.inr (Or.inr ⟨rfl, rfl⟩))) (fun g hg => ?_) (by rw [r_II, if_pos ⟨rfl, rfl⟩])⟩, fun z => absurd (by omega) z⟩
      rw [r_II, if_neg (fun z => absurd z.1 (by decide))]; exact hlf g hg
  refine st_Hides_deal ?_
  rw [ht]
  refine sp_suffices (d := d) hC hSb (fun _ s2 f2 hlf => ?_) (fun z => absurd hok z)
  exact G P 0 (by omega) s2 _ (f2.mo (fun c k z => by omega)) (hLe ▸ hlf) (fun k hk => absurd hk (Nat.not_lt_zero k))
/-- what the class knows of THE CUT -/
def ctC (hl pl : Nat → Int) (H P : Nat) (s : hS) : Prop := ∃ y, fbS (okC hl pl H P) (lwC hl H) (2 ^ H) (rI s 125 7).toInt y ∧ (¬ (rI s 125 7).toInt = -1 → ∀ k, k < P → rI s 130 k = nI (hsF pl H P k (LsF pl H P (lsC hl (rI s 125 7).toInt.toNat) k)))
theorem sp_solve (hC : cHi hl pl H P s) (hk : (rI s 125 8).toInt = 0 ∨ ctC hl pl H P s) {K : hS → Prop} (hK : ∀ s2, Fr (fun c k => c = 128 ∨ c = 129 ∨ c = 130 ∨ (c = 125 ∧ (k = 7 ∨ k = 8))) s s2 → ctC hl pl H P s2 → K s2) : pcV (d + 5) 137 [.ref 125] v s K := by
  have hpw := pw8 hC.1.1
  refine st_Hides_solve ⟨fun _ => ?_, fun z => hK s (Fr.rf _ _) (hk.resolve_left z)⟩
  have F0 : Fr (fun c k => c = 128 ∨ c = 129 ∨ c = 130 ∨ (c = 125 ∧ (k = 7 ∨ k = 8))) s (sI s 125 8 1) := (Fr.rf _ s).sI (by omega)
  refine sp_leastSet (d := d) (cHi_fr hC F0 (by omega) (fun k => by omega)) (fun w y s2 hb f2 => ?_)
  have F2 := (F0.tr (f2.mo (W' := fun c k => c = 128 ∨ c = 129 ∨ c = 130 ∨ (c = 125 ∧ (k = 7 ∨ k = 8))) (fun c k z => by omega))).sI (c := 125) (k := 7) (x := w) (by omega)
  have e7 : rI (sI s2 125 7 w) 125 7 = w := by rw [r_II, if_pos ⟨rfl, rfl⟩]
  refine ⟨fun z => hK _ F2 ⟨y, by rw [e7]; exact hb, fun c => absurd (by rw [e7]; exact z) c⟩, fun z => ?_⟩
  have hbc := hb
  rcases hb with ⟨b1, _⟩ | ⟨S, b1, b2, b3, b4, b5⟩
  · exact absurd b1 z
  · have ew : w = nI S := i_inj (by rw [b2, nI_toInt (by have := hC.1.1; omega)])
    refine sp_deal (d := d) (cHi_fr hC F2 (by omega) (fun k => by omega)) b1 (by rw [e7]; exact ew) b4 (fun s3 f3 hq => ?_)
    have e73 : rI s3 125 7 = w := by rw [f3.i (by omega)]; exact e7
    refine hK s3 (F2.tr (f3.mo (fun c k z => by omega))) ⟨y, by rw [e73]; exact hbc, fun _ k hk => ?_⟩
    rw [e73, b2, Int.toNat_natCast]; exact hq k hk
end
