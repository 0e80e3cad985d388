/-! TEXTS: the reference reads a night -/
def eN (o : Nat) (s : hS) (L : List nRow) : Prop := ∀ k, k < L.length → (rI s 154 (o + 4 * k)).toInt = (L.getD k (0, 0, 0, 0)).1 ∧ (rI s 154 (o + 4 * k + 1)).toInt = (L.getD k (0, 0, 0, 0)).2.1 ∧ (rI s 154 (o + 4 * k + 2)).toInt = (L.getD k (0, 0, 0, 0)).2.2.1 ∧ (rI s 154 (o + 4 * k + 3)).toInt = (L.getD k (0, 0, 0, 0)).2.2.2
def fNd (c k : Nat) : Prop := c = 154 ∧ 48 ≤ k
def fNe (c k : Nat) : Prop := fNd c k ∨ (c = 145 ∧ 8 ≤ k ∧ k ≤ 14)
def fNm (c k : Nat) : Prop := c = 154 ∨ (c = 145 ∧ ((8 ≤ k ∧ k ≤ 14) ∨ k = 16))
section
variable {d : Nat} {v : hV} {s s1 : hS} {B : Nat → Int} {N : Nat}
theorem me_isNext (h : tM s B N) {p : Nat} (hc : mE s N (.ok p) s1) {j : Nat} (hj : j < 16) {x1 x2 x3 x4 x5 x6 : Int32} (g1 : x1.toInt = wn j) (g2 : x2.toInt = wc j 0) (g3 : x3.toInt = wc j 1) (g4 : x4.toInt = wc j 2) (g5 : 3 < wn j → x5.toInt = wc j 3) (g6 : 4 < wn j → x6.toInt = wc j 4) {K : Int32 → hS → Prop} (hK : ∀ s2, mE s N (.ok (if mtb B N (xs cBl B N p) j = true then xs cBl B N p + wn j else xs cBl B N p)) s2 → K (if mtb B N (xs cBl B N p) j = true then 1 else 0) s2) : pcI (d + 2) 171 [.ref 145, .int x1, .int x2, .int x3, .int x4, .int x5, .int x6] v s1 K := by
  obtain ⟨hp, fi, le, rfl⟩ := hc
  refine sm_isNext h hp hj g1 g2 g3 g4 g5 g6 (fun fi le => hK _ ?_)
  by_cases hm : mtb B N (xs cBl B N p) j = true
  · rw [if_pos hm, if_pos hm]; exact ⟨(mtb_iff.mp hm).1, fi, le, rfl⟩
  · rw [if_neg hm, if_neg hm]; exact ⟨xs_le hp, fi, le, rfl⟩
theorem sm_night (h : tM s B N) {K : Int32 → hS → Prop} (her : ∀ e w, pNight B N 300 [] 0 = .error (e, w) → 1 ≤ e → e ≤ 4 → w ≤ N → ∀ (x : Int32) s3, x.toInt = -10 - e → Fr fNe s s3 → rI s3 145 8 = 0 → rI s3 145 13 = nI w → K x s3) (hok : ∀ L, pNight B N 300 [] 0 = .ok L → ∀ s3, Fr fNm s s3 → eN 0 s3 L → rI s3 145 16 = nI L.length → rI s3 145 8 = 0 → rI s3 145 13 = -1 → K (nI L.length) s3) : pcI (d + 4) 170 [.ref 145] v s K := by
  have hN := h.2.1
  refine st_M_night (st_M_beginReading ?_)
  rw [mS_begin]
  have E4 : ∀ (e w : Nat) (sb s1 : hS) (x1 : Int32) (z2 : Value), pNight B N 300 [] 0 = .error (e, w) → Fr fNd s sb → mE sb N (.error (e, w)) s1 → pgI (d + 4) 170 4 [.ref 145, .int x1, z2] [] v s1 K := by
    intro e w sb s1 x1 z2 he hf hc
    refine st_M_night_4 ⟨fun c => absurd ((me_fault hc).mp c) (fun ⟨p, e⟩ => by cases e), fun _ => st_M_night_96 ?_⟩
    obtain ⟨f1, f2, f3, a, fi, le, rfl⟩ := hc
    rw [m_faultOf, nI_toInt (by omega)]
    refine ⟨fun _ => her e w he f1 f2 f3 _ _ ?_ ?_ ?_ ?_, fun c => absurd (show (0 : Int) < e by omega) c⟩
    · have e10 : Int32.toInt (-10) = -10 := rfl
      have : (nI e).toInt = e := nI_toInt (by omega)
      rw [i_sub, e10, this]
      rw [e10, this]; omega
    · intro c k n
      have h1 : ¬ fNd c k := fun z => n (Or.inl z)
      have h2 : ¬ (c = 145 ∧ 8 ≤ k ∧ k ≤ 14) := fun z => n (Or.inr z)
      refine ⟨?_, ?_⟩
      · rw [r_II, if_neg (by omega), mS_ne _ _ _ _ _ _ (by omega)]; exact hf.i h1
      · exact hf.l h1
    · rw [r_II, if_pos ⟨rfl, rfl⟩]
    · rw [r_II, if_neg (by decide), mS_r, if_pos ⟨rfl, rfl⟩]
  have E93 : ∀ (e w : Nat) (sb s1 : hS) (x1 : Int32) (z2 : Value), pNight B N 300 [] 0 = .error (e, w) → Fr fNd s sb → tM sb B N → mE sb N (.error (e, w)) s1 → pgI (d + 4) 170 93 [.ref 145, .int x1, z2] [] v s1 K := by
    intro e w sb s1 x1 z2 he hf hx hc
    exact st_M_night_93 (me_end hx hc (fun s2 hc2 => E4 e w sb s2 x1 z2 he hf hc2))
  have F : ∀ (L : List nRow) (p : Nat) (sb s1 : hS) (z2 : Value), L.length ≤ 12 → pNight B N 300 [] 0 = .ok L → Fr fNd s sb → mE sb N (.ok p) s1 → eN 48 sb L → pgI (d + 4) 170 96 [.ref 145, .int (nI L.length), z2] [] v s1 K := by
    intro L p sb s1 z2 hL he hf hc hd
    have hfo := (me_fault hc).mpr ⟨p, rfl⟩
    obtain ⟨hpN, fi, le, rfl⟩ := hc
    refine st_M_night_96 ⟨fun c => absurd hfo (by omega), fun _ => ?_⟩
    have hf4 : Fr fNm s (sI (mS sb (nI p) fi le 0 (-1)) 145 8 0) := fun c k n => by
      have h1 : ¬ fNd c k := fun z => n (Or.inl z.1)
      have h2 : ¬ (c = 145 ∧ 8 ≤ k ∧ k ≤ 14) := fun z => n (Or.inr ⟨z.1, Or.inl z.2⟩)
      refine ⟨?_, ?_⟩
      · rw [r_II, if_neg (by omega), mS_ne _ _ _ _ _ _ (by omega)]; exact hf.i h1
      · exact hf.l h1
    generalize hs4 : sI (mS sb (nI p) fi le 0 (-1)) 145 8 0 = s4 at hf4
    have r4 : ∀ k, rI s4 154 k = rI sb 154 k := fun k => by
      rw [← hs4, r_II, if_neg (by omega), mS_ne _ _ _ _ _ _ (by omega)]
    have t4 : rI s4 145 8 = 0 := by rw [← hs4, r_II, if_pos ⟨rfl, rfl⟩]
    have f4 : rI s4 145 13 = -1 := by rw [← hs4, r_II, if_neg (by decide), mS_r, if_pos ⟨rfl, rfl⟩]
    have L3 : ∀ m i : Nat, i + m = 48 → ∀ s5, Fr (fun c k => c = 154 ∧ k < 48) s4 s5 → (∀ k, k < i → rI s5 154 k = rI s4 154 (48 + k)) → pgI (d + 4) 170 109 [.ref 145, .int (nI L.length), .int (nI i)] [] v s5 K := by
      intro m
      induction m with
      | zero =>
        intro i hi s5 hf5 h1
        refine st_M_night_109 ⟨fun c => absurd c ?_, fun _ => hok L he _ ?_ (fun k hk => ?_) ?_ ?_ ?_⟩
        · rw [nI_toInt (by omega)]; omega
        · exact (hf4.tr (hf5.mo (fun c k z => Or.inl z.1))).sI (Or.inr ⟨rfl, Or.inr rfl⟩)
        · have hk12 : k < 12 := by omega
          rw [r_II, if_neg (by omega), r_II, if_neg (by omega), r_II, if_neg (by omega), r_II, if_neg (by omega)]
          rw [h1 _ (by omega), h1 _ (by omega), h1 _ (by omega), h1 _ (by omega), r4, r4, r4, r4]
          have := hd k hk
          rw [show 48 + (0 + 4 * k) = 48 + 4 * k by omega, show 48 + (0 + 4 * k + 1) = 48 + 4 * k + 1 by omega, show 48 + (0 + 4 * k + 2) = 48 + 4 * k + 2 by omega, show 48 + (0 + 4 * k + 3) = 48 + 4 * k + 3 by omega]
          exact this
        · rw [r_II, if_pos ⟨rfl, rfl⟩]
        · rw [r_II, if_neg (by decide), hf5.i (by decide)]; exact t4
        · rw [r_II, if_neg (by decide), hf5.i (by decide)]; exact f4
      | succ m ih =>
        intro i hi s5 hf5 h1
        refine st_M_night_109 ⟨fun _ => ?_, fun c => absurd ?_ c⟩
        · have e48 : (48 : Int32) + nI i = nI (48 + i) := nI_add 48 i
          rw [e48, nI_toInt (by omega), nI_toInt (by omega), Int.toNat_natCast, Int.toNat_natCast, nI_1]
          refine ⟨by omega, by omega, ih (i + 1) (by omega) _ (hf5.sI ⟨rfl, by omega⟩) (fun k hk => ?_)⟩
          rw [r_II]
          by_cases hki : k = i
          · rw [if_pos ⟨rfl, hki⟩, hki]; exact hf5.i (by omega)
          · rw [if_neg (fun z => hki z.2)]; exact h1 k (by omega)
        · rw [nI_toInt (by omega)]; omega
    exact L3 48 0 rfl s4 (Fr.rf _ _) (fun k hk => absurd hk (Nat.not_lt_zero k))
  have G : ∀ f i p : Nat, i + f = 300 → i ≤ p → ∀ (L : List nRow) (sb s1 : hS) (z2 : Value), nrOK L → Fr fNd s sb → tM sb B N → mE sb N (.ok p) s1 → eN 48 sb L → pNight B N 300 [] 0 = pNight B N f L p → pgI (d + 4) 170 4 [.ref 145, .int (nI L.length), z2] [] v s1 K := by
    intro f
    induction f with
    | zero =>
      intro i p hn hnp L sb s1 z2 hL hf hx hc hd he
      refine st_M_night_4 ⟨fun _ => me_here hx hc (fun x s2 hxv hc2 => ⟨fun _ => F L _ sb s2 _ hL.1 he hf hc2 hd, fun c => ?_⟩), fun c => absurd ((me_fault hc).mpr ⟨_, rfl⟩) c⟩
      have hxN := xs_ge (P := cBl) (B := B) (N := N) (p := p)
      unfold bat at hxv
      rw [if_neg (by omega)] at hxv
      omega
    | succ f ih =>
      intro i p hn hnp L sb s1 z2 hL hf hx hc hd he
      have hxN := xs_ge (P := cBl) (B := B) (N := N) (p := p)
      refine st_M_night_4 ⟨fun _ => me_here hx hc (fun x s2 hxv hc2 => ⟨fun cx => ?_, fun cx => ?_⟩), fun c => absurd ((me_fault hc).mpr ⟨_, rfl⟩) c⟩
      · have hnl : ¬ xs cBl B N p < N := fun z => by
          unfold bat at hxv; rw [if_pos z] at hxv
          have := (h.2.2 _ z).2.1
          omega
        have e1 : pNight B N (f + 1) L p = .ok L := if_neg hnl
        rw [e1] at he
        exact F L _ sb s2 _ hL.1 he hf hc2 hd
      · have hlt : xs cBl B N p < N := by
          by_cases z : xs cBl B N p < N
          · exact z
          · unfold bat at hxv; rw [if_neg z] at hxv; omega
        have e1 : pNight B N (f + 1) L p = bnd (pRow B N L (xs cBl B N p)) fun x => pNight B N f x.1 x.2 := if_pos hlt
        rw [e1] at he
        have hxx : xs cBl B N (xs cBl B N p) = xs cBl B N p := xs_xs
        generalize xs cBl B N p = q at *
        obtain ⟨hqN, fi, le, rfl⟩ := hc2
        have hL12 := hL.1
        refine sm_takeWord hx hqN ?_
        rw [hxx]
        refine sm_isWord hx hqN (j := 10) (by decide) (by decide +kernel) (by decide +kernel) (by decide +kernel) (by decide +kernel) (by decide +kernel) (by decide +kernel) ?_
        rw [m_first]
        by_cases hm : mtb B N q 10 = true
        · rw [if_pos hm]
          have hl := mtb_len (by decide) hm
          refine sm_want0 (by decide) (fun _ => ⟨fun z => absurd z (by decide), fun _ => ?_⟩) (fun z => absurd z (by decide))
          rw [nI_toInt (by omega)]
          refine ⟨fun c => st_M_night_33 ?_, fun c => st_M_night_33 ?_⟩
          · have hLn : ¬ 12 ≤ L.length := by omega
            rw [m_first]
            refine sm_want0 (by decide) (fun _ => ⟨fun z => absurd z (by decide), fun _ => ?_⟩) (fun z => absurd z (by decide))
            have e4 : (4 : Int32) * nI L.length = nI (4 * L.length) := pk_mul 4 _
            have e48 : (48 : Int32) + nI (4 * L.length) = nI (48 + 4 * L.length) := nI_add 48 _
            rw [e4, e48]
            have a1 : nI (48 + 4 * L.length) + 1 = nI (48 + 4 * L.length + 1) := nI_1 _
            have a2 : nI (48 + 4 * L.length) + 2 = nI (48 + 4 * L.length + 2) := nI_add _ 2
            have a3 : nI (48 + 4 * L.length) + 3 = nI (48 + 4 * L.length + 3) := nI_add _ 3
            rw [a1, a2, a3, nI_toInt (by omega), nI_toInt (by omega), nI_toInt (by omega), Int.toNat_natCast, Int.toNat_natCast, Int.toNat_natCast]
            have e0 : Int32.toInt 0 = 0 := rfl
            have e01 : Int32.toInt 1 = 1 := rfl
            have e7 : Int32.toInt 7 = 7 := rfl
            have e9 : Int32.toInt 9 = 9 := rfl
            have e99 : Int32.toInt 99 = 99 := rfl
            have hc0 : mE sb N (.ok (q + wn 10)) (mS sb (nI (xs cL B N q)) (nI q) (nI (xs cL B N q - q)) 0 (-1)) := ⟨by rw [← hl]; exact xs_le hqN, _, _, by rw [hl]⟩
            refine me_number hx hc0 (fun w3 s3 hc3 hv3 _ => ⟨by omega, ?_⟩)
            rw [e0, e7] at hc3 hv3
            have x3 := tM_sI (c := 154) (k := 48 + 4 * L.length) (x := w3) hx (by omega) (by decide)
            have b3 := me_sI (c := 154) (k := 48 + 4 * L.length) (x := w3) hc3 (by omega)
            refine me_number x3 b3 (fun w4 s4 hc4 hv4 _ => ⟨by omega, ?_⟩)
            rw [e0, e9] at hc4 hv4
            have x4 := tM_sI (c := 154) (k := 48 + 4 * L.length + 1) (x := w4) x3 (by omega) (by decide)
            have b4 := me_sI (c := 154) (k := 48 + 4 * L.length + 1) (x := w4) hc4 (by omega)
            refine me_number x4 b4 (fun w5 s5 hc5 hv5 _ => ⟨by omega, ?_⟩)
            rw [e01, e99] at hc5 hv5
            have x5 := tM_sI (c := 154) (k := 48 + 4 * L.length + 2) (x := w5) x4 (by omega) (by decide)
            have b5 := me_sI (c := 154) (k := 48 + 4 * L.length + 2) (x := w5) hc5 (by omega)
            have hf5 : Fr fNd s (sI (sI (sI sb 154 (48 + 4 * L.length) w3) 154 (48 + 4 * L.length + 1) w4) 154 (48 + 4 * L.length + 2) w5) := ((hf.sI ⟨rfl, by omega⟩).sI ⟨rfl, by omega⟩).sI ⟨rfl, by omega⟩
            have hR : pRow B N L q = bnd (pNum B N 0 7 (q + wn 10)) fun x => bnd (pNum B N 0 9 x.2) fun y => bnd (pNum B N 1 99 y.2) fun z => bnd (pSign B N 59 (if mtb B N (xs cBl B N z.2) 11 = true then xs cBl B N z.2 + wn 11 else xs cBl B N z.2)) fun q => .ok (L ++ [(x.1, y.1, z.1, if mtb B N (xs cBl B N z.2) 11 = true then 1 else 0)], q) := by
              unfold pRow; rw [if_neg (fun z => z hm), if_neg hLn]
            -- a fault in one of the numbers
            have D : ∀ (e w : Nat) (w8 : Int32), (bnd (bnd (bnd (.ok (q + wn 10)) fun p => bnd (pNum B N 0 7 p) fun y => .ok y.2) fun p => bnd (pNum B N 0 9 p) fun y => .ok y.2) fun p => bnd (pNum B N 1 99 p) fun y => (.ok y.2 : Except (Nat × Nat) Nat)) = .error (e, w) → ∀ s6, mE (sI (sI (sI sb 154 (48 + 4 * L.length) w3) 154 (48 + 4 * L.length + 1) w4) 154 (48 + 4 * L.length + 2) w5) N (.error (e, w)) s6 → pgI (d + 4) 170 91 [.ref 145, .int (nI L.length), .int (nI (48 + 4 * L.length))] [.int w8, .int (nI (48 + 4 * L.length + 3)), .ref 154] v s6 K := by
              intro e w w8 hre s6 hc6
              refine st_M_night_91 ?_
              rw [nI_toInt (by omega), Int.toNat_natCast]
              refine ⟨by omega, E93 e w _ _ _ _ ?_ (hf5.sI ⟨rfl, by omega⟩) (tM_sI x5 (by omega) (by decide)) (me_sI hc6 (by omega))⟩
              rw [he, hR]
              simp only [bnd] at hre ⊢
              cases e1 : pNum B N 0 7 (q + wn 10) with
              | error y => rw [e1] at hre; injection hre with hre; subst hre; rfl
              | ok y1 =>
                rw [e1] at hre; simp only [] at hre ⊢
                cases e2 : pNum B N 0 9 y1.2 with
                | error y => rw [e2] at hre; injection hre with hre; subst hre; rfl
                | ok y2 =>
                  rw [e2] at hre; simp only [] at hre ⊢
                  cases e3 : pNum B N 1 99 y2.2 with
                  | error y => rw [e3] at hre; injection hre with hre; subst hre; rfl
                  | ok y3 => rw [e3] at hre; cases hre
            refine ⟨fun cf => ?_, fun cf => ?_⟩
            · obtain ⟨p5, hp5⟩ := (me_fault hc5).mp cf
              have hchain : ∃ y1 y2 y3 : Int × Nat, pNum B N 0 7 (q + wn 10) = .ok y1 ∧ pNum B N 0 9 y1.2 = .ok y2 ∧ pNum B N 1 99 y2.2 = .ok y3 ∧ p5 = y3.2 := by
                obtain ⟨a, ha, hb⟩ := bnd_ok hp5
                obtain ⟨y3, hy3, hz3⟩ := bnd_ok hb
                obtain ⟨a2, ha2, hb2⟩ := bnd_ok ha
                obtain ⟨y2, hy2, hz2⟩ := bnd_ok hb2
                obtain ⟨a1, ha1, hb1⟩ := bnd_ok ha2
                obtain ⟨y1, hy1, hz1⟩ := bnd_ok hb1
                injection ha1 with ha1; injection hz1 with hz1; injection hz2 with hz2; injection hz3 with hz3
                subst ha1; subst hz1; subst hz2
                exact ⟨y1, y2, y3, hy1, hy2, hy3, hz3.symm⟩
              obtain ⟨y1, y2, y3, g1, g2, g3, rfl⟩ := hchain
              rw [hp5] at b5
              have v3 := hv3 (q + wn 10) y1.1 y1.2 rfl g1
              have v4 := hv4 y1.2 y2.1 y2.2 (by simp only [bnd, g1]) g2
              have v5 := hv5 y2.2 y3.1 y3.2 (by simp only [bnd, g1, g2]) g3
              refine me_isNext x5 b5 (j := 11) (by decide) (by decide +kernel) (by decide +kernel) (by decide +kernel) (by decide +kernel) (by decide +kernel) (by decide +kernel) (fun s7 hc7 => ?_)
              have key : ∀ w8 : Int32, w8.toInt = (if mtb B N (xs cBl B N y3.2) 11 = true then 1 else 0) → pgI (d + 4) 170 91 [.ref 145, .int (nI L.length), .int (nI (48 + 4 * L.length))] [.int w8, .int (nI (48 + 4 * L.length + 3)), .ref 154] v s7 K := by
                intro w8 hw8
                refine st_M_night_91 ?_
                rw [nI_toInt (by omega), Int.toNat_natCast, nI_1]
                have x7 := tM_sI (c := 154) (k := 48 + 4 * L.length + 3) (x := w8) x5 (by omega) (by decide)
                have b7 := me_sI (c := 154) (k := 48 + 4 * L.length + 3) (x := w8) hc7 (by omega)
                have hf7 : Fr fNd s (sI (sI (sI (sI sb 154 (48 + 4 * L.length) w3) 154 (48 + 4 * L.length + 1) w4) 154 (48 + 4 * L.length + 2) w5) 154 (48 + 4 * L.length + 3) w8) := hf5.sI ⟨rfl, by omega⟩
                refine ⟨by omega, st_M_night_93 (me_end x7 b7 (fun s9 hc9 => ?_))⟩
                have hc9 : mE _ N (pSign B N 59 (if mtb B N (xs cBl B N y3.2) 11 = true then xs cBl B N y3.2 + wn 11 else xs cBl B N y3.2)) s9 := hc9
                cases e9' : pSign B N 59 (if mtb B N (xs cBl B N y3.2) 11 = true then xs cBl B N y3.2 + wn 11 else xs cBl B N y3.2) with
                | error y =>
                  obtain ⟨e, w⟩ := y
                  rw [e9'] at hc9
                  refine E4 e w _ s9 _ _ ?_ hf7 hc9
                  rw [he, hR]
                  simp only [bnd, g1, g2, g3, e9']
                | ok q9 =>
                  rw [e9'] at hc9
                  have hrow : pRow B N L q = .ok (L ++ [(y1.1, y2.1, y3.1, if mtb B N (xs cBl B N y3.2) 11 = true then 1 else 0)], q9) := by
                    rw [hR]; simp only [bnd, g1, g2, g3, e9']
                  have hro := pRow_ok hL hrow
                  rw [hrow] at he
                  have hlen : (L ++ [(y1.1, y2.1, y3.1, if mtb B N (xs cBl B N y3.2) 11 = true then (1 : Int) else 0)]).length = L.length + 1 := by rw [List.length_append]; rfl
                  have := ih (i + 1) q9 (by omega) (by have := hro.2; omega) (L ++ [(y1.1, y2.1, y3.1, if mtb B N (xs cBl B N y3.2) 11 = true then 1 else 0)]) _ s9 (.int (nI (48 + 4 * L.length))) hro.1 hf7 x7 hc9 (fun k hk => ?_) he
                  · rw [hlen] at this; exact this
                  · rw [hlen] at hk
                    rw [getD_app hk]
                    have RR : ∀ i w, i ≤ 3 → (i = 0 → w = w3) → (i = 1 → w = w4) → (i = 2 → w = w5) → (i = 3 → w = w8) → rI (sI (sI (sI (sI sb 154 (48 + 4 * L.length) w3) 154 (48 + 4 * L.length + 1) w4) 154 (48 + 4 * L.length + 2) w5) 154 (48 + 4 * L.length + 3) w8) 154 (48 + 4 * k + i) = if k = L.length then w else rI sb 154 (48 + 4 * k + i) := by
                      intro i w i3 g0 g1 g2 g3
                      rw [r_II, r_II, r_II, r_II]
                      by_cases hkl : k = L.length
                      · rw [if_pos hkl]
                        have : i = 0 ∨ i = 1 ∨ i = 2 ∨ i = 3 := by omega
                        rcases this with e | e | e | e
                        · rw [if_neg (show ¬ (154 = 154 ∧ 48 + 4 * k + i = 48 + 4 * L.length + 3) by omega), if_neg (show ¬ (154 = 154 ∧ 48 + 4 * k + i = 48 + 4 * L.length + 2) by omega), if_neg (show ¬ (154 = 154 ∧ 48 + 4 * k + i = 48 + 4 * L.length + 1) by omega), if_pos ⟨rfl, by omega⟩, g0 e]
                        · rw [if_neg (show ¬ (154 = 154 ∧ 48 + 4 * k + i = 48 + 4 * L.length + 3) by omega), if_neg (show ¬ (154 = 154 ∧ 48 + 4 * k + i = 48 + 4 * L.length + 2) by omega), if_pos ⟨rfl, by omega⟩, g1 e]
                        · rw [if_neg (show ¬ (154 = 154 ∧ 48 + 4 * k + i = 48 + 4 * L.length + 3) by omega), if_pos ⟨rfl, by omega⟩, g2 e]
                        · rw [if_pos ⟨rfl, by omega⟩, g3 e]
                      · rw [if_neg hkl, if_neg (show ¬ (154 = 154 ∧ 48 + 4 * k + i = 48 + 4 * L.length + 3) by omega), if_neg (show ¬ (154 = 154 ∧ 48 + 4 * k + i = 48 + 4 * L.length + 2) by omega), if_neg (show ¬ (154 = 154 ∧ 48 + 4 * k + i = 48 + 4 * L.length + 1) by omega), if_neg (show ¬ (154 = 154 ∧ 48 + 4 * k + i = 48 + 4 * L.length) by omega)]
                    rw [show 48 + 4 * k = 48 + 4 * k + 0 from rfl, RR 0 w3 (by decide) (fun _ => rfl) (by omega) (by omega) (by omega), show 48 + 4 * k + 0 + 1 = 48 + 4 * k + 1 from rfl, show 48 + 4 * k + 0 + 2 = 48 + 4 * k + 2 from rfl, show 48 + 4 * k + 0 + 3 = 48 + 4 * k + 3 from rfl, RR 1 w4 (by decide) (by omega) (fun _ => rfl) (by omega) (by omega), RR 2 w5 (by decide) (by omega) (by omega) (fun _ => rfl) (by omega), RR 3 w8 (by decide) (by omega) (by omega) (by omega) (fun _ => rfl)]
                    by_cases hkl : k = L.length
                    · rw [if_pos hkl, if_pos hkl, if_pos hkl, if_pos hkl, if_pos hkl]
                      exact ⟨v3, v4, v5, hw8⟩
                    · rw [if_neg hkl, if_neg hkl, if_neg hkl, if_neg hkl, if_neg hkl]
                      exact hd k (by omega)
              by_cases hw : mtb B N (xs cBl B N y3.2) 11 = true
              · rw [if_pos hw] at key ⊢
                exact st_M_one ⟨fun z => absurd z (by decide), fun _ => key 1 rfl⟩
              · rw [if_neg hw] at key ⊢
                exact st_M_one ⟨fun _ => key 0 rfl, fun z => absurd rfl z⟩
            · cases e5 : (bnd (bnd (bnd (.ok (q + wn 10)) fun p => bnd (pNum B N 0 7 p) fun y => .ok y.2) fun p => bnd (pNum B N 0 9 p) fun y => .ok y.2) fun p => bnd (pNum B N 1 99 p) fun y => (.ok y.2 : Except (Nat × Nat) Nat)) with
              | ok p5 => exact absurd ((me_fault hc5).mpr ⟨p5, e5⟩) cf
              | error y =>
                obtain ⟨e, w⟩ := y
                rw [e5] at b5
                exact D e w 0 e5 _ b5
          · have hLn : 12 ≤ L.length := by omega
            rw [m_first]
            have hr : pRow B N L q = .error (3, q) := by unfold pRow; rw [if_neg (fun z => z hm), if_pos hLn]
            refine sm_want0 (by decide) (fun z => absurd rfl z) (fun _ => ⟨fun _ => E93 3 q sb _ _ _ (by rw [he, hr]; rfl) hf hx ⟨by decide, by decide, hqN, _, _, _, rfl⟩, fun z => absurd rfl z⟩)
        · rw [if_neg hm]
          have hr : pRow B N L q = .error (1, q) := by unfold pRow; rw [if_pos hm]
          exact sm_want0 (by decide) (fun z => absurd rfl z) (fun _ => ⟨fun _ => E93 1 q sb _ _ _ (by rw [he, hr]; rfl) hf hx ⟨by decide, by decide, hqN, _, _, _, rfl⟩, fun z => absurd rfl z⟩)
  exact G 300 0 0 rfl (Nat.le_refl _) [] s _ _ ⟨by decide, fun x hx => by cases hx⟩ (Fr.rf _ _) h ⟨Nat.zero_le _, _, _, rfl⟩ (fun k hk => absurd hk (Nat.not_lt_zero k)) rfl
end
