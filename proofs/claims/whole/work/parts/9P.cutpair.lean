/-! cut(): the pair -/
section
variable {d : Nat} {v : hV} {s s1 : hS} {hl pl : Nat → Int} {H P : Nat} {L : Nat → Int}
noncomputable def cuW (hl pl : Nat → Int) (H P : Nat) (X x : Int) : Int := if x = -1 ∨ X = -1 then X else if 0 ≤ x ∧ x < P then ((hsF pl H P x.toNat (LsF pl H P (lsC hl X.toNat) x.toNat) : Nat) : Int) else -1
theorem sm_cut (hC : cHm hl pl H P s) (x : Int32) {K : Int32 → hS → Prop} (hK : ∀ (w : Int32) (X y : Int) (s2 : hS), fbS (okC hl pl H P) (lwC hl H) (2 ^ H) X y → w.toInt = cuW hl pl H P X x.toInt → Fr (fun c _ => c = 176 ∨ c = 177 ∨ c = 178) s s2 → K w s2) : pcI (d + 4) 231 [.ref 145, .int x] v s K := by
  obtain ⟨⟨hH, hP8⟩, c2, c3, c4, c5⟩ := hC
  have hC : cHm hl pl H P s := ⟨⟨hH, hP8⟩, c2, c3, c4, c5⟩
  have hpw := pw8 hH
  have hpP := pw8 hP8
  have e1 : Int32.toInt 1 = 1 := rfl
  have e0 : Int32.toInt 0 = 0 := rfl
  have em1 : Int32.toInt (-1) = -1 := rfl
  have hh : ∀ g, g < H → 1 ≤ hl g ∧ hl g ≤ 999 := fun g hg => (c4 g hg).2
  have hp : ∀ i, i < P → 1 ≤ pl i ∧ pl i ≤ 999 := fun i hi => (c5 i hi).2
  have eP : ((1 : Int32) <<< (nI P &&& 31)) - 1 = nI (2 ^ P - 1) := by
    rw [b_sh (by omega)]
    exact i_inj (by rw [i_sub (by rw [nI_toInt (by omega), e1]; omega), nI_toInt (by omega), e1, nI_toInt (by omega)]; omega)
  refine st_M_cut (sm_hidesOf (d := d) hC (fun w y s1 hb f1 => ?_))
  rcases hb with ⟨b1, b2, b3⟩ | ⟨S, b1, b2, b3, b4, b5⟩
  · refine ⟨fun _ => hK w (-1) y s1 (Or.inl ⟨rfl, b2, b3⟩) (by unfold cuW; rw [if_pos (Or.inr rfl)]; exact b1) f1, fun z => absurd (by omega) z⟩
  · have hbC : fbS (okC hl pl H P) (lwC hl H) (2 ^ H) (S : Int) y := Or.inr ⟨S, b1, rfl, b3, b4, b5⟩
    refine ⟨fun z => absurd z (by omega), fun _ => ⟨fun hx => hK w S y s1 hbC (by unfold cuW; rw [if_pos (Or.inl hx)]; exact b2) f1, fun hx => ?_⟩⟩
    have ew : w = nI S := i_inj (by rw [b2, nI_toInt (by omega)])
    rw [ew]
    have hcw : cuW hl pl H P S x.toInt = if 0 ≤ x.toInt ∧ x.toInt < P then ((hsF pl H P x.toInt.toNat (LsF pl H P (lsC hl S) x.toInt.toNat) : Nat) : Int) else -1 := by
      unfold cuW
      rw [if_neg (fun z => z.elim hx (fun z => by omega)), Int.toNat_natCast]
    have hLb := lsC_b (hl := hl) hh b1
    have hLs := LsF_ok (L := lsC hl S) hLb hp b4
    have hLn := fun g (hg : S.testBit g = false) => LsF_nul (H := H) (P := P) (L := lsC hl S) (g := g) hLb hp b4 (by unfold lsC; rw [hg, if_neg (by decide)])
    have hL0 : ∀ g, S.testBit g = true → LsF pl H P (lsC hl S) 0 g = hl g := fun g hg => by show lsC hl S g = hl g; unfold lsC; rw [if_pos hg]
    generalize lsC hl S = L at *
    have G : ∀ j i : Nat, i + j = P → (0 ≤ x.toInt → x.toInt < P → (i : Int) ≤ x.toInt) → ∀ (s2 : hS) (z5 z6 : Value), Fr (fun c _ => c = 176 ∨ c = 177 ∨ c = 178) s s2 → lfM H (fun g => if S.testBit g = true then LsF pl H P L i g else hl g) s2 → pgI (d + 4) 231 35 [.ref 145, .int x, .int (nI S), .int (nI (mskC P i)), .int (nI i), z5, z6] [] v s2 K := by
      intro j
      induction j with
      | zero =>
        intro i hi hxi s2 z5 z6 f2 hlf
        refine st_M_cut_35 ?_
        rw [f2.i (show ¬ ((145 : Nat) = 176 ∨ (145 : Nat) = 177 ∨ (145 : Nat) = 178) by decide), c3, nI_toInt (show i < 2147483648 by omega), nI_toInt (show P < 2147483648 by omega)]
        refine ⟨fun z => absurd z (by omega), fun _ => hK (-1) S y s2 hbC (by rw [hcw, em1, if_neg (fun z => by have := hxi z.1 z.2; omega)]) f2⟩
      | succ j ih =>
        intro i hi hxi s2 z5 z6 f2 hlf
        have q1 : nI i + 1 = nI (i + 1) := by rw [nI_1]
        obtain ⟨lb, lf⟩ := hLs i (by omega)
        have ln := fun g hg => hLn g hg i (by omega)
        obtain ⟨⟨g1, g2, g3⟩, g4⟩ := hsF_ok (i := i) (by omega) lb hp lf
        have hpi := hp i (by omega)
        have hLi1 : LsF pl H P L (i + 1) = upL (LsF pl H P L i) (hsF pl H P i (LsF pl H P L i)) (LsF pl H P L i (hsF pl H P i (LsF pl H P L i)) - pl i) := rfl
        have hxw : (i : Int) = x.toInt → cuW hl pl H P S x.toInt = (hsF pl H P i (LsF pl H P L i) : Nat) := fun z => by
          rw [hcw, if_pos ⟨by omega, by omega⟩, show x.toInt.toNat = i by omega]
        have hmk := mskC_lt (P := P) (k := i + 1) (by omega)
        generalize hLi : LsF pl H P L i = Li at *
        generalize hs : hsF pl H P i Li = h0 at *
        -- the call
        have CALL : ∀ (h : Nat) (s3 : hS), h < H → S.testBit h = true → pl i ≤ Li h → Fr (fun c _ => c = 176 ∨ c = 177 ∨ c = 178) s s3 → lfM H (fun g => if S.testBit g = true then Li g else hl g) s3 → ∀ (K2 : Int32 → hS → Prop), (∀ s5, Fr (fun c _ => c = 177 ∨ c = 178) (sI s3 176 h (rI s3 176 h - rI s3 175 i)) s5 → gdC pl H P i Li h → K2 1 s5) → (∀ s5, Fr (fun c _ => c = 177 ∨ c = 178) (sI s3 176 h (rI s3 176 h - rI s3 175 i)) s5 → ¬ gdC pl H P i Li h → K2 0 s5) → pcI (d + 3) 233 [.ref 145, .int (nI (mskC P (i + 1))), .int (nI S)] v (sI s3 176 h (rI s3 176 h - rI s3 175 i)) K2 := by
          intro h s3 hhH hb hle f3 hl3 K2 k1 k0
          have HC3 : cHm hl pl H P s3 := cHm_fr hC f3 (by omega) (fun k => by omega)
          have e175 : (rI s3 175 i).toInt = pl i := (HC3.2.2.2.2 i (by omega)).1
          have e176 : (rI s3 176 h).toInt = Li h := by have := hl3 h hhH; simp only [hb, if_true] at this; exact this
          have lbh := lb h
          have F4 : Fr (fun c _ => c = 176) s3 (sI s3 176 h (rI s3 176 h - rI s3 175 i)) := (Fr.rf _ s3).sI rfl
          have HC4 := cHm_fr HC3 F4 (by omega) (fun k => by omega)
          have L4 : lfM H (fun g => if S.testBit g = true then upL Li h (Li h - pl i) g else hl g) (sI s3 176 h (rI s3 176 h - rI s3 175 i)) := fun g hg => by
            rw [r_II]
            show _ = if S.testBit g = true then upL Li h (Li h - pl i) g else hl g
            unfold upL
            by_cases cg : g = h
            · rw [if_pos ⟨rfl, cg⟩, cg, if_pos hb, if_pos rfl, i_sub (by omega), e176, e175]
            · rw [if_neg (fun z => cg z.2), if_neg cg]; exact hl3 g hg
          have em : (fun g => if S.testBit g = true then (if S.testBit g = true then upL Li h (Li h - pl i) g else hl g) else 0) = upL Li h (Li h - pl i) := funext (fun g => by
            by_cases cb : S.testBit g = true
            · rw [if_pos cb, if_pos cb]
            · rw [if_neg cb]
              have cb : S.testBit g = false := by cases hq : S.testBit g with | false => rfl | true => exact absurd hq cb
              unfold upL
              rw [if_neg (fun z => by rw [z, hb] at cb; exact absurd cb (by decide)), ln g cb])
          refine sm_isCut (d := d + 1) HC4 L4 (fun g hg => ?_) hmk b1 (fun hf s5 f5 => ?_) (fun hf s5 f5 => ?_)
          · show 0 ≤ if S.testBit g = true then upL Li h (Li h - pl i) g else hl g
            have := hh g hg
            have := lb g
            unfold upL
            split
            · split <;> omega
            · omega
          · rw [em] at hf
            exact k1 s5 f5 ⟨hhH, hle, hf⟩
          · rw [em] at hf
            exact k0 s5 f5 (fun z => hf z.2.2)
        have IN : ∀ j2 h : Nat, h + j2 = h0 → ∀ s3 : hS, Fr (fun c _ => c = 176 ∨ c = 177 ∨ c = 178) s s3 → lfM H (fun g => if S.testBit g = true then Li g else hl g) s3 → pgI (d + 4) 231 51 [.ref 145, .int x, .int (nI S), .int (nI (mskC P (i + 1))), .int (nI i), .int (nI h), .int 0] [] v s3 K := by
          intro j2
          induction j2 with
          | zero =>
            intro h hhe s3 f3 hl3
            have hhe : h = h0 := by omega
            subst hhe
            have q2 : nI h + 1 = nI (h + 1) := by rw [nI_1]
            have hb : S.testBit h = true := by
              cases hq : S.testBit h with
              | true => rfl
              | false => have := ln h hq; omega
            have HC3 : cHm hl pl H P s3 := cHm_fr hC f3 (by omega) (fun k => by omega)
            have e175 : (rI s3 175 i).toInt = pl i := (HC3.2.2.2.2 i (by omega)).1
            have e176 : (rI s3 176 h).toInt = Li h := by have := hl3 h g1; simp only [hb, if_true] at this; exact this
            have lbh := lb h
            have e3h : (rI s3 176 h - rI s3 175 i).toInt = Li h - pl i := by rw [i_sub (by omega), e176, e175]
            refine st_M_cut_51 ⟨fun _ => sm_has (by omega) (by omega) (fun _ => ⟨fun z => absurd z (by decide), fun _ => ?_⟩) (fun z => by rw [hb] at z; exact absurd z (by decide)), fun z => absurd rfl z⟩
            rw [nI_toInt (show h < 2147483648 by omega), nI_toInt (show i < 2147483648 by omega), Int.toNat_natCast, Int.toNat_natCast, e176, e175]
            refine ⟨by omega, by omega, fun z => absurd z (by omega), fun _ => ⟨by omega, by omega, by omega, CALL h s3 g1 hb g2 f3 hl3 _ (fun s5 f5 _ => ⟨by omega, fun z => absurd z (by decide), fun _ => ⟨by omega, ?_⟩⟩) (fun s5 f5 z => absurd ⟨g1, g2, g3⟩ z)⟩⟩
            have F5 : Fr (fun c _ => c = 176 ∨ c = 177 ∨ c = 178) s s5 := (f3.sI (Or.inl rfl)).tr (f5.mo (fun c k z => Or.inr z))
            have a5 : rI s5 176 h = rI s3 176 h - rI s3 175 i := by rw [f5.i (by omega), r_II, if_pos ⟨rfl, rfl⟩]
            have L6 : lfM H (fun g => if S.testBit g = true then LsF pl H P L (i + 1) g else hl g) (sI s5 176 h (rI s5 176 h + 0)) := fun g hg => by
              rw [r_II, hLi1]
              show _ = if S.testBit g = true then upL Li h (Li h - pl i) g else hl g
              unfold upL
              by_cases cg : g = h
              · rw [if_pos ⟨rfl, cg⟩, a5, i_a0, e3h, cg, if_pos hb, if_pos rfl]
              · rw [if_neg (fun z => cg z.2), if_neg cg, f5.i (by omega), r_II, if_neg (fun z => cg z.2)]; exact hl3 g hg
            rw [q2]
            refine st_M_cut_51 ⟨fun z => absurd z (by decide), fun _ => ?_⟩
            have eb : nI (h + 1) - 1 = nI h := i_inj (by rw [i_sub (by rw [nI_toInt (by omega), e1]; omega), nI_toInt (by omega), e1, nI_toInt (by omega)]; omega)
            rw [nI_toInt (show i < 2147483648 by omega), eb, q1]
            refine ⟨fun z => hK (nI h) S y _ hbC (by rw [nI_toInt (by omega), hxw z]) (F5.sI (Or.inl rfl)), fun z => ih (i + 1) (by omega) (fun a b => by have := hxi a b; omega) _ _ _ (F5.sI (Or.inl rfl)) L6⟩
          | succ j2 ih2 =>
            intro h hhe s3 f3 hl3
            have q2 : nI h + 1 = nI (h + 1) := by rw [nI_1]
            have hng := g4 h (by omega)
            have HC3 : cHm hl pl H P s3 := cHm_fr hC f3 (by omega) (fun k => by omega)
            have e175 : (rI s3 175 i).toInt = pl i := (HC3.2.2.2.2 i (by omega)).1
            have lbh := lb h
            refine st_M_cut_51 ⟨fun _ => ?_, fun z => absurd rfl z⟩
            rw [q2, nI_toInt (show h < 2147483648 by omega), nI_toInt (show i < 2147483648 by omega), Int.toNat_natCast, Int.toNat_natCast]
            refine sm_has (by omega) (by omega) (fun hb => ⟨fun z => absurd z (by decide), fun _ => ?_⟩) (fun _ => ⟨fun _ => ih2 (h + 1) (by omega) s3 f3 hl3, fun z => absurd rfl z⟩)
            have e176 : (rI s3 176 h).toInt = Li h := by have := hl3 h (by omega); simp only [hb, if_true] at this; exact this
            rw [e176, e175]
            refine ⟨by omega, by omega, fun _ => ih2 (h + 1) (by omega) s3 f3 hl3, fun cc => ⟨by omega, by omega, by omega, CALL h s3 (by omega) hb (by omega) f3 hl3 _ (fun s5 f5 z => absurd z hng) (fun s5 f5 _ => ⟨by omega, fun _ => ⟨by omega, by omega, ?_⟩, fun z => absurd rfl z⟩)⟩⟩
            have e3h : (rI s3 176 h - rI s3 175 i).toInt = Li h - pl i := by rw [i_sub (by omega), e176, e175]
            have F5 : Fr (fun c _ => c = 176 ∨ c = 177 ∨ c = 178) s s5 := (f3.sI (Or.inl rfl)).tr (f5.mo (fun c k z => Or.inr z))
            have a5 : rI s5 176 h = rI s3 176 h - rI s3 175 i := by rw [f5.i (by omega), r_II, if_pos ⟨rfl, rfl⟩]
            have b5 : rI s5 175 i = rI s3 175 i := by rw [f5.i (by omega), r_II, if_neg (fun z => absurd z.1 (by decide))]
            refine ih2 (h + 1) (by omega) _ (F5.sI (Or.inl rfl)) (fun g hg => ?_)
            rw [r_II]
            by_cases cg : g = h
            · rw [if_pos ⟨rfl, cg⟩, a5, b5, i_add (by rw [e3h]; omega), e3h, e175, cg]
              show _ = if S.testBit h = true then Li h else hl h
              rw [if_pos hb]; omega
            · rw [if_neg (fun z => cg z.2), f5.i (by omega), r_II, if_neg (fun z => cg z.2)]; exact hl3 g hg
        have HC2 : cHm hl pl H P s2 := cHm_fr hC f2 (by omega) (fun k => by omega)
        refine st_M_cut_35 ?_
        rw [HC2.2.2.1, nI_toInt (show i < 2147483648 by omega), nI_toInt (show P < 2147483648 by omega), msk_and (by omega) hP8]
        exact ⟨fun _ => IN h0 0 (by omega) s2 f2 hlf, fun z => absurd (by omega) z⟩
    have CP : ∀ j g : Nat, g + j = H → ∀ s2 : hS, Fr (fun c _ => c = 176 ∨ c = 177 ∨ c = 178) s s2 → (∀ k, k < g → (rI s2 176 k).toInt = hl k) → pgI (d + 4) 231 12 [.ref 145, .int x, .int (nI S), .int (nI g), .null, .null, .null] [] v s2 K := by
      intro j
      induction j with
      | zero =>
        intro g hg s2 f2 hq
        refine st_M_cut_12 ?_
        have HC2 : cHm hl pl H P s2 := cHm_fr hC f2 (by omega) (fun k => by omega)
        rw [HC2.2.1, HC2.2.2.1, eP, nI_toInt (show g < 2147483648 by omega), nI_toInt (show H < 2147483648 by omega)]
        refine ⟨fun z => absurd z (by omega), fun _ => ?_⟩
        have GG := G P 0 (by omega) (fun a _ => a) s2 .null .null f2 (fun k hk => ?_)
        · rw [mskC_0] at GG; exact GG
        · rw [hq k (by omega)]
          show hl k = if S.testBit k = true then LsF pl H P L 0 k else hl k
          by_cases cb : S.testBit k = true
          · rw [if_pos cb, hL0 k cb]
          · rw [if_neg cb]
      | succ j ih =>
        intro g hg s2 f2 hq
        have q1 : nI g + 1 = nI (g + 1) := by rw [nI_1]
        have HC2 : cHm hl pl H P s2 := cHm_fr hC f2 (by omega) (fun k => by omega)
        refine st_M_cut_12 ?_
        rw [HC2.2.1, nI_toInt (show g < 2147483648 by omega), nI_toInt (show H < 2147483648 by omega), Int.toNat_natCast, q1]
        refine ⟨fun _ => ⟨by omega, by omega, ih (g + 1) (by omega) _ (f2.sI (Or.inl rfl)) (fun k hk => ?_)⟩, fun z => absurd (by omega) z⟩
        rw [r_II]
        by_cases ck : k = g
        · rw [if_pos ⟨rfl, ck⟩, ck]; exact (HC2.2.2.2.1 g (by omega)).1
        · rw [if_neg (fun z => ck z.2)]; exact hq k (by omega)
    exact CP H 0 (by omega) s1 f1 (fun k hk => absurd hk (Nat.not_lt_zero k))
/-- what the class knows of THE CUT is right -/
def pHk (s : hS) : Prop := (rI s 125 8).toInt = 0 ∨ ctC (fun g => (rI s 126 g).toInt) (fun i => (rI s 127 i).toInt) (rI s 125 2).toInt.toNat (rI s 125 3).toInt.toNat s
theorem pHk_n (h : pHn s) : pHk s := Or.inl (by have h : rI s 125 8 = 0 := h; rw [h]; rfl)
theorem pHk_fr {F : Nat → Nat → Prop} (h : pHk s) (hf : Fr F s s1) (h1 : ∀ k, ¬ F 125 k ∧ ¬ F 126 k ∧ ¬ F 127 k ∧ ¬ F 130 k) : pHk s1 := by
  have a : ∀ k, rI s1 125 k = rI s 125 k := fun k => hf.i (h1 k).1
  have b : ∀ k, rI s1 126 k = rI s 126 k := fun k => hf.i (h1 k).2.1
  have c : ∀ k, rI s1 127 k = rI s 127 k := fun k => hf.i (h1 k).2.2.1
  have e : ∀ k, rI s1 130 k = rI s 130 k := fun k => hf.i (h1 k).2.2.2
  unfold pHk ctC at *
  simp only [a, b, c, e]
  exact h
theorem pH_fr2 (h : pH s) {F : Nat → Nat → Prop} (hf : Fr F s s1) (h1 : ¬ F 125 2 ∧ ¬ F 125 3 ∧ ¬ F 145 44 ∧ ¬ F 145 46) (h2 : ∀ k, ¬ F 126 k ∧ ¬ F 127 k ∧ ¬ F 174 k ∧ ¬ F 175 k) : pH s1 := by
  obtain ⟨H, P, a1, a2, a3, a4, a5, a6, a7, a8⟩ := h
  refine ⟨H, P, a1, a2, ?_, ?_, ?_, ?_, fun k hk => ?_, fun k hk => ?_⟩
  · show rI s1 125 2 = _; rw [hf.i h1.1]; exact a3
  · show rI s1 145 44 = _; rw [hf.i h1.2.2.1]; exact a4
  · show rI s1 125 3 = _; rw [hf.i h1.2.1]; exact a5
  · show rI s1 145 46 = _; rw [hf.i h1.2.2.2]; exact a6
  · show rI s1 126 k = rI s1 174 k ∧ 1 ≤ (rI s1 174 k).toInt ∧ (rI s1 174 k).toInt ≤ 999
    rw [hf.i (h2 k).1, hf.i (h2 k).2.2.1]; exact a7 k hk
  · show rI s1 127 k = rI s1 175 k ∧ 1 ≤ (rI s1 175 k).toInt ∧ (rI s1 175 k).toInt ≤ 999
    rw [hf.i (h2 k).2.1, hf.i (h2 k).2.2.2]; exact a8 k hk
theorem th_cut (h : pH s) (hk : pHk s) (x : Int32) : prI fH v (d + 6) 136 231 [.int x] s (fun s2 => pH s2 ∧ pHk s2) := by
  have hh := h
  obtain ⟨H, P, a1, a2, a3, a4, a5, a6, a7, a8⟩ := h
  have a3 : rI s 125 2 = nI H := a3
  have a5 : rI s 125 3 = nI P := a5
  have eH : (rI s 125 2).toInt.toNat = H := by rw [a3, nI_toInt (by omega), Int.toNat_natCast]
  have eP : (rI s 125 3).toInt.toNat = P := by rw [a5, nI_toInt (by omega), Int.toNat_natCast]
  have hp := pw8 a1
  have e0 : Int32.toInt 0 = 0 := rfl
  have em1 : Int32.toInt (-1) = -1 := rfl
  have HC : cHi (fun g => (rI s 126 g).toInt) (fun i => (rI s 127 i).toInt) H P s := ⟨⟨a1, a2⟩, a3, a5, fun g hg => ⟨rfl, by
    have := a7 g hg
    have e : rI s 126 g = rI s 174 g := this.1
    show 1 ≤ (rI s 126 g).toInt ∧ (rI s 126 g).toInt ≤ 999
    rw [e]; exact this.2⟩, fun g hg => ⟨rfl, by
    have := a8 g hg
    have e : rI s 127 g = rI s 175 g := this.1
    show 1 ≤ (rI s 127 g).toInt ∧ (rI s 127 g).toInt ≤ 999
    rw [e]; exact this.2⟩⟩
  have HM : cHm (fun g => (rI s 126 g).toInt) (fun i => (rI s 127 i).toInt) H P s := ⟨⟨a1, a2⟩, a4, a6, fun g hg => ⟨by
    have e : rI s 126 g = rI s 174 g := (a7 g hg).1
    show _ = (rI s 126 g).toInt
    rw [e], (HC.2.2.2.1 g hg).2⟩, fun g hg => ⟨by
    have e : rI s 127 g = rI s 175 g := (a8 g hg).1
    show _ = (rI s 127 g).toInt
    rw [e], (HC.2.2.2.2 g hg).2⟩⟩
  unfold pHk at hk
  rw [eH, eP] at hk
  refine st_S_cut (sp_solve (d := d) HC hk (fun s1 f1 hct => ?_))
  have F1 : Fr fH s s1 := f1.mo (fun c k z => by unfold fH; omega)
  have hH1 : pH s1 := pH_fr2 hh f1 (by omega) (fun k => by omega)
  have e125 : rI s1 125 2 = rI s 125 2 ∧ rI s1 125 3 = rI s 125 3 := ⟨f1.i (by omega), f1.i (by omega)⟩
  have e6 : ∀ k, rI s1 126 k = rI s 126 k := fun k => f1.i (by omega)
  have e7 : ∀ k, rI s1 127 k = rI s 127 k := fun k => f1.i (by omega)
  have hk1 : pHk s1 := by
    refine Or.inr ?_
    rw [e125.1, e125.2, eH, eP]
    simp only [e6, e7]
    exact hct
  have HM1 := cHm_fr HM f1 (by omega) (fun k => by omega)
  have PC : pcI (d + 4) 231 [.ref 145, .int x] v s1 (fun w s2 => w.toInt = cuW (fun g => (rI s 126 g).toInt) (fun i => (rI s 127 i).toInt) H P (rI s1 125 7).toInt x.toInt ∧ Fr fH s1 s2 ∧ pH s2 ∧ pHk s2) := by
    obtain ⟨y, hy, _⟩ := hct
    refine sm_cut HM1 x (fun w X y2 s2 hX hw f2 => ⟨?_, f2.mo (fun c k z => by unfold fH; omega), pH_fr2 hH1 f2 (by omega) (fun k => by omega), pHk_fr hk1 f2 (fun k => by omega)⟩)
    rw [hw, (fbS_un hX hy).1]
  have FIN : ∀ w : Int32, w.toInt = cuW (fun g => (rI s 126 g).toInt) (fun i => (rI s 127 i).toInt) H P (rI s1 125 7).toInt x.toInt → Fr fH s s1 ∧ pcI (d + 6) 231 [.ref 145, .int x] v s1 (fun w2 s2 => w2 = w ∧ Fr fH s1 s2 ∧ (pH s2 ∧ pHk s2)) := fun w hw => ⟨F1, by
    have := sm_cut (d := d + 2) HM1 x (K := fun w2 s2 => w2 = w ∧ Fr fH s1 s2 ∧ (pH s2 ∧ pHk s2)) (v := v) (fun w2 X y2 s2 hX hw2 f2 => ⟨?_, f2.mo (fun c k z => by unfold fH; omega), pH_fr2 hH1 f2 (by omega) (fun k => by omega), pHk_fr hk1 f2 (fun k => by omega)⟩)
    · exact this
    · obtain ⟨y, hy, _⟩ := hct
      exact i_inj (by rw [hw2, hw, (fbS_un hX hy).1])⟩
  obtain ⟨y, hy, hfrom⟩ := hct
  have e53 : rI s1 125 3 = nI P := by rw [e125.2]; exact a5
  rw [e53, nI_toInt (show P < 2147483648 by omega)]
  refine ⟨fun c => FIN _ ?_, fun c => ⟨fun c2 => FIN _ ?_, fun c2 => ⟨fun c3 => ⟨fun c4 => FIN _ ?_, fun c4 => ⟨by omega, FIN _ ?_⟩⟩, fun c3 => FIN _ ?_⟩⟩⟩
  · unfold cuW; rw [if_pos (Or.inl c)]
  · unfold cuW
    by_cases c4 : (rI s1 125 7).toInt = -1
    · rw [if_pos (Or.inr c4), c4, em1]
    · rw [if_neg (fun z => z.elim c c4), if_neg (fun z => by omega), em1]
  · unfold cuW; rw [if_pos (Or.inr c4), c4, em1]
  · unfold cuW
    rw [if_neg (fun z => z.elim c c4), if_pos ⟨by omega, c3⟩, hfrom c4 x.toInt.toNat (by omega), nI_toInt]
    have hSx : ∃ S : Nat, S < 2 ^ H ∧ (rI s1 125 7).toInt = S ∧ okC (fun g => (rI s 126 g).toInt) (fun i => (rI s 127 i).toInt) H P S := by
      rcases hy with ⟨b1, _⟩ | ⟨S, b1, b2, _, b4, _⟩
      · exact absurd b1 c4
      · exact ⟨S, b1, b2, b4⟩
    obtain ⟨S, b1, b2, b4⟩ := hSx
    rw [b2, Int.toNat_natCast]
    have hLs := LsF_ok (L := lsC (fun g => (rI s 126 g).toInt) S) (lsC_b (fun g hg => (HC.2.2.2.1 g hg).2) b1) (fun i hi => (HC.2.2.2.2 i hi).2) b4 x.toInt.toNat (by omega)
    have := (hsF_ok (i := x.toInt.toNat) (by omega) hLs.1 (fun i hi => (HC.2.2.2.2 i hi).2) hLs.2).1.1
    omega
  · unfold cuW
    by_cases c4 : (rI s1 125 7).toInt = -1
    · rw [if_pos (Or.inr c4), c4, em1]
    · rw [if_neg (fun z => z.elim c c4), if_neg (fun z => by omega), em1]
end
