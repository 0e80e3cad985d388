/-! TEXTS: a night's, what is read; both read so -/
abbrev nRow : Type := Int × Int × Int × Int
def pRow (B : Nat → Int) (N : Nat) (L : List nRow) (p : Nat) : Except (Nat × Nat) (List nRow × Nat) :=
  if ¬ mtb B N p 10 = true then .error (1, p)
  else if 12 ≤ L.length then .error (3, p)
  else bnd (pNum B N 0 7 (p + wn 10)) fun x => bnd (pNum B N 0 9 x.2) fun y => bnd (pNum B N 1 99 y.2) fun z =>
    bnd (pSign B N 59 (if mtb B N (xs cBl B N z.2) 11 = true then xs cBl B N z.2 + wn 11 else xs cBl B N z.2)) fun q =>
    .ok (L ++ [(x.1, y.1, z.1, if mtb B N (xs cBl B N z.2) 11 = true then 1 else 0)], q)
def pNight (B : Nat → Int) (N : Nat) : Nat → List nRow → Nat → Except (Nat × Nat) (List nRow)
  | 0, L, _ => .ok L
  | f + 1, L, p => if xs cBl B N p < N then bnd (pRow B N L (xs cBl B N p)) fun x => pNight B N f x.1 x.2 else .ok L
def nrOK (L : List nRow) : Prop := L.length ≤ 12 ∧ ∀ x ∈ L, (0 ≤ x.1 ∧ x.1 ≤ 7) ∧ (0 ≤ x.2.1 ∧ x.2.1 ≤ 9) ∧ (1 ≤ x.2.2.1 ∧ x.2.2.1 ≤ 99) ∧ (x.2.2.2 = 0 ∨ x.2.2.2 = 1)
theorem pRow_ok {B : Nat → Int} {N : Nat} {L : List nRow} {p : Nat} {x : List nRow × Nat} (hL : nrOK L) (h : pRow B N L p = .ok x) : nrOK x.1 ∧ p < x.2 := by
  unfold pRow at h
  by_cases c1 : mtb B N p 10 = true
  · rw [if_neg (fun z => z c1)] at h
    by_cases c2 : 12 ≤ L.length
    · rw [if_pos c2] at h; cases h
    · rw [if_neg c2] at h
      obtain ⟨a, h1, h2⟩ := bnd_ok h
      obtain ⟨b, h3, h4⟩ := bnd_ok h2
      obtain ⟨c, h5, h6⟩ := bnd_ok h4
      obtain ⟨q, h7, h8⟩ := bnd_ok h6
      injection h8 with h8
      rw [← h8]
      have a1 := pNum_le h1
      have a2 := pNum_le h3
      have a3 := pNum_le h5
      have a4 := pSign_lt h7
      have a5 := xs_ge (P := cBl) (B := B) (N := N) (p := c.2)
      refine ⟨⟨by rw [List.length_append]; show L.length + 1 ≤ 12; omega, fun w hw => ?_⟩, ?_⟩
      · rcases List.mem_append.mp hw with hw | hw
        · exact hL.2 w hw
        · rw [List.mem_singleton.mp hw]
          refine ⟨pNum_rng h1, pNum_rng h3, pNum_rng h5, ?_⟩
          by_cases hm : mtb B N (xs cBl B N c.2) 11 = true
          · exact Or.inr (if_pos hm)
          · exact Or.inl (if_neg hm)
      · show p < q
        by_cases hm : mtb B N (xs cBl B N c.2) 11 = true
        · rw [if_pos hm] at a4; omega
        · rw [if_neg hm] at a4; omega
  · rw [if_pos c1] at h; cases h
theorem pNight_ok {B : Nat → Int} {N : Nat} : ∀ f (L : List nRow) (p : Nat) (x : List nRow), nrOK L → pNight B N f L p = .ok x → nrOK x := by
  intro f
  induction f with
  | zero =>
    intro L p x hL h
    injection h with h
    rw [← h]; exact hL
  | succ f ih =>
    intro L p x hL h
    by_cases c : xs cBl B N p < N
    · have e : pNight B N (f + 1) L p = bnd (pRow B N L (xs cBl B N p)) fun x => pNight B N f x.1 x.2 := if_pos c
      rw [e] at h
      obtain ⟨y, h1, h2⟩ := bnd_ok h
      exact ih y.1 y.2 x (pRow_ok hL h1).1 h2
    · have e : pNight B N (f + 1) L p = .ok L := if_neg c
      rw [e] at h
      injection h with h
      rw [← h]; exact hL
/-- a night in the class -/
def dN (n : Nat) (s : hS) (L : List nRow) : Prop := rI s n 4 = nI L.length ∧ L.length ≤ 12 ∧ ∀ k, k < L.length → (rI s (n + 1) k).toInt = (L.getD k (0, 0, 0, 0)).1 ∧ (rI s (n + 2) k).toInt = (L.getD k (0, 0, 0, 0)).2.1 ∧ (rI s (n + 3) k).toInt = (L.getD k (0, 0, 0, 0)).2.2.1 ∧ (rI s (n + 4) k).toInt = (L.getD k (0, 0, 0, 0)).2.2.2
def fN (n c _k : Nat) : Prop := n ≤ c ∧ c ≤ n + 4
theorem getD_app {α : Type} {L : List α} {x z : α} {k : Nat} (hk : k < L.length + 1) : (L ++ [x]).getD k z = if k = L.length then x else L.getD k z := by
  by_cases h : k = L.length
  · rw [if_pos h, h, List.getD_eq_getElem?_getD, List.getElem?_append_right (Nat.le_refl _), Nat.sub_self]; rfl
  · rw [if_neg h, List.getD_eq_getElem?_getD, List.getElem?_append_left (by omega), ← List.getD_eq_getElem?_getD]
section
variable {d : Nat} {v : hV} {s s1 : hS} {B : Nat → Int} {N : Nat}
theorem sp_readRow (h : tX s B N) {p : Nat} (hc : cE s N (.ok p) s1) (hp : xs cBl B N p = p) {n : Nat} (hn : kN n) {L : List nRow} (hd : dN n s L) {K : hS → Prop} (hK : ∀ sb s2, Fr (fN n) s sb → tX sb B N → cE sb N (bnd (pRow B N L p) fun x => .ok x.2) s2 → (∀ x, pRow B N L p = .ok x → dN n sb x.1) → K s2) : pcV (d + 5) 49 [.ref n, .ref 49] v s1 K := by
  have hk : 81 ≤ n ∧ n ≤ 86 := by unfold kN at hn; omega
  have hpN := hc.1
  have hm0 := hd.1
  have hm1 := hd.2.1
  have ew : rI s1 49 2 = nI p := by rw [hc.2, tS_r]; rfl
  have e0 : Int32.toInt 0 = 0 := rfl
  have e1 : Int32.toInt 1 = 1 := rfl
  have e7 : Int32.toInt 7 = 7 := rfl
  have e9 : Int32.toInt 9 = 9 := rfl
  have e99 : Int32.toInt 99 = 99 := rfl
  have e59 : Int32.toInt 59 = 59 := rfl
  refine st_Night_readRow hn (ce_takes h hc (j := 10) (by decide) (fun x s2 hx01 hx hc2 => ?_))
  have hx := hx p rfl
  have hc2 : cE s N (.ok (if mtb B N (xs cBl B N p) 10 = true then xs cBl B N p + wn 10 else xs cBl B N p)) s2 := hc2
  rw [hp] at hx hc2
  rw [ew]
  by_cases hm : mtb B N p 10 = true
  · rw [if_pos hm] at hx hc2
    refine ⟨fun z => absurd z (by rw [hx]; decide), fun _ => ?_⟩
    have r2 : rI s2 n 4 = nI L.length := by rw [ce_r hc2 (by omega)]; exact hm0
    rw [r2, nI_toInt (by omega), Int.toNat_natCast]
    refine ⟨fun c => ?_, fun c => ?_⟩
    · have hL : ¬ 12 ≤ L.length := by omega
      refine ce_number h hc2 (fun w5 s5 hc5 hv5 => ⟨by omega, ?_⟩)
      rw [e0, e7] at hc5 hv5
      have r5 : rI s5 n 4 = nI L.length := by rw [ce_r hc5 (by omega)]; exact hm0
      have b5 := ce_sI (c := n + 1) (k := L.length) (x := w5) hc5 (by omega)
      have x5 := tX_sI (c := n + 1) (k := L.length) (x := w5) h (by omega)
      rw [r5, nI_toInt (by omega), Int.toNat_natCast]
      refine ce_number x5 b5 (fun w6 s6 hc6 hv6 => ⟨by omega, ?_⟩)
      rw [e0, e9] at hc6 hv6
      have r6 : rI s6 n 4 = nI L.length := by rw [ce_r hc6 (by omega), r_II, if_neg (by omega)]; exact hm0
      have b6 := ce_sI (c := n + 2) (k := L.length) (x := w6) hc6 (by omega)
      have x6 := tX_sI (c := n + 2) (k := L.length) (x := w6) x5 (by omega)
      rw [r6, nI_toInt (by omega), Int.toNat_natCast]
      refine ce_number x6 b6 (fun w7 s7 hc7 hv7 => ⟨by omega, ?_⟩)
      rw [e1, e99] at hc7 hv7
      have r7 : rI s7 n 4 = nI L.length := by rw [ce_r hc7 (by omega), r_II, if_neg (by omega), r_II, if_neg (by omega)]; exact hm0
      have b7 := ce_sI (c := n + 3) (k := L.length) (x := w7) hc7 (by omega)
      have x7 := tX_sI (c := n + 3) (k := L.length) (x := w7) x6 (by omega)
      rw [r7, nI_toInt (by omega), Int.toNat_natCast]
      refine ce_takes x7 b7 (j := 11) (by decide) (fun w8 s8 h01 hv8 hc8 => ⟨⟨by omega, by rcases h01 with rfl | rfl; exact Or.inl rfl; exact Or.inr rfl⟩, ?_⟩)
      have b8 := ce_sI (c := n + 4) (k := L.length) (x := w8) hc8 (by omega)
      have x8 := tX_sI (c := n + 4) (k := L.length) (x := w8) x7 (by omega)
      refine ce_sign x8 b8 (by decide) (fun s9 hc9 => ?_)
      rw [e59] at hc9
      have r9 : rI s9 n 4 = nI L.length := by rw [ce_r hc9 (by omega), r_II, if_neg (by omega), r_II, if_neg (by omega), r_II, if_neg (by omega), r_II, if_neg (by omega)]; exact hm0
      rw [r9]
      have eP : (bnd (pRow B N L p) fun x => (.ok x.2 : Except (Nat × Nat) Nat)) = bnd (bnd (bnd (bnd (bnd (.ok (p + wn 10)) fun p => bnd (pNum B N 0 7 p) fun y => .ok y.2) fun p => bnd (pNum B N 0 9 p) fun y => .ok y.2) fun p => bnd (pNum B N 1 99 p) fun y => .ok y.2) fun p => .ok (if mtb B N (xs cBl B N p) 11 = true then xs cBl B N p + wn 11 else xs cBl B N p)) fun p => pSign B N 59 p := by
        unfold pRow
        rw [if_neg (fun z => z hm), if_neg hL]
        simp only [bnd]
        cases pNum B N 0 7 (p + wn 10) with
        | error y => rfl
        | ok y =>
          simp only []
          cases pNum B N 0 9 y.2 with
          | error y => rfl
          | ok y =>
            simp only []
            cases pNum B N 1 99 y.2 with
            | error y => rfl
            | ok y =>
              simp only []
              cases pSign B N 59 (if mtb B N (xs cBl B N y.2) 11 = true then xs cBl B N y.2 + wn 11 else xs cBl B N y.2) <;> rfl
      rw [← eP] at hc9
      have hf : Fr (fN n) s (sI (sI (sI (sI (sI s (n + 1) L.length w5) (n + 2) L.length w6) (n + 3) L.length w7) (n + 4) L.length w8) n 4 (nI L.length + 1)) := (((((Fr.rf _ s).sI (by unfold fN; omega)).sI (by unfold fN; omega)).sI (by unfold fN; omega)).sI (by unfold fN; omega)).sI (by unfold fN; omega)
      refine hK _ _ hf (tX_sI x8 (by omega)) (ce_sI hc9 (by omega)) (fun y hy => ?_)
      unfold pRow at hy
      rw [if_neg (fun z => z hm), if_neg hL] at hy
      obtain ⟨a, h1, h2⟩ := bnd_ok hy
      obtain ⟨b, h3, h4⟩ := bnd_ok h2
      obtain ⟨c', h5, h6⟩ := bnd_ok h4
      obtain ⟨q, h7, h8⟩ := bnd_ok h6
      injection h8 with h8
      have v5 := hv5 (p + wn 10) a.1 a.2 rfl h1
      have v6 := hv6 a.2 b.1 b.2 (by simp only [bnd, h1]) h3
      have v7 := hv7 b.2 c'.1 c'.2 (by simp only [bnd, h1, h3]) h5
      have v8 := hv8 c'.2 (by simp only [bnd, h1, h3, h5])
      rw [← h8]
      refine ⟨?_, by rw [List.length_append]; show L.length + 1 ≤ 12; omega, fun k hk2 => ?_⟩
      · rw [r_II, if_pos ⟨rfl, rfl⟩, nI_1, List.length_append]; rfl
      · rw [List.length_append] at hk2
        have hk2 : k < L.length + 1 := hk2
        rw [getD_app hk2]
        have RR : ∀ i w, 1 ≤ i → i ≤ 4 → (i = 1 → w = w5) → (i = 2 → w = w6) → (i = 3 → w = w7) → (i = 4 → w = w8) → rI (sI (sI (sI (sI (sI s (n + 1) L.length w5) (n + 2) L.length w6) (n + 3) L.length w7) (n + 4) L.length w8) n 4 (nI L.length + 1)) (n + i) k = if k = L.length then w else rI s (n + i) k := by
          intro i w i1 i4 g1 g2 g3 g4
          simp only [r_II]
          rw [if_neg (by omega)]
          by_cases hkl : k = L.length
          · rw [if_pos hkl]
            have : i = 1 ∨ i = 2 ∨ i = 3 ∨ i = 4 := by omega
            rcases this with e | e | e | e
            · rw [if_neg (by omega), if_neg (by omega), if_neg (by omega), if_pos ⟨by omega, hkl⟩, g1 e]
            · rw [if_neg (by omega), if_neg (by omega), if_pos ⟨by omega, hkl⟩, g2 e]
            · rw [if_neg (by omega), if_pos ⟨by omega, hkl⟩, g3 e]
            · rw [if_pos ⟨by omega, hkl⟩, g4 e]
          · rw [if_neg hkl, if_neg (fun z => hkl z.2), if_neg (fun z => hkl z.2), if_neg (fun z => hkl z.2), if_neg (fun z => hkl z.2)]
        rw [RR 1 w5 (by decide) (by decide) (fun _ => rfl) (by omega) (by omega) (by omega), RR 2 w6 (by decide) (by decide) (by omega) (fun _ => rfl) (by omega) (by omega), RR 3 w7 (by decide) (by decide) (by omega) (by omega) (fun _ => rfl) (by omega), RR 4 w8 (by decide) (by decide) (by omega) (by omega) (by omega) (fun _ => rfl)]
        by_cases hkl : k = L.length
        · rw [if_pos hkl, if_pos hkl, if_pos hkl, if_pos hkl, if_pos hkl]
          refine ⟨v5, v6, v7, ?_⟩
          rw [v8]
          show _ = if mtb B N (xs cBl B N c'.2) 11 = true then (1 : Int) else 0
          by_cases hw : mtb B N (xs cBl B N c'.2) 11 = true
          · rw [if_pos hw, if_pos hw]; rfl
          · rw [if_neg hw, if_neg hw]; rfl
        · rw [if_neg hkl, if_neg hkl, if_neg hkl, if_neg hkl, if_neg hkl]; exact hd.2.2 k (by omega)
    · have hL : 12 ≤ L.length := by omega
      have e : pRow B N L p = .error (3, p) := by unfold pRow; rw [if_neg (fun z => z hm), if_pos hL]
      exact ce_blame (e := 3) hc2 (by omega) hpN (fun s3 hc3 => hK s s3 (Fr.rf _ _) h (by rw [e]; exact hc3) (fun x hx => by rw [e] at hx; cases hx))
  · rw [if_neg hm] at hx hc2
    refine ⟨fun _ => ?_, fun z => absurd (by rw [hx]; rfl) z⟩
    have e : pRow B N L p = .error (1, p) := by unfold pRow; rw [if_pos hm]
    exact ce_blame (e := 1) hc2 (by omega) hpN (fun s3 hc3 => hK s s3 (Fr.rf _ _) h (by rw [e]; exact hc3) (fun x hx => by rw [e] at hx; cases hx))
def cN2 (r : Except (Nat × Nat) (List nRow)) (sb s2 : hS) (n : Nat) : Prop := match r with
  | .ok L => dN n sb L ∧ ∃ a, s2 = sI (sI (tS sb a 0 (-1)) 49 1 0) 49 2 0
  | .error (e, w) => 1 ≤ e ∧ e ≤ 4 ∧ w ≤ 300 ∧ ∃ a, s2 = sI (sI (tS sb a (nI e) (nI w)) 49 1 0) 49 2 0
theorem sp_nightRead (h : tX s B N) {n : Nat} (hn : kN n) {K : hS → Prop} (hK : ∀ sb s2, Fr (fN n) s sb → cN2 (pNight B N 300 [] 0) sb s2 n → K s2) : pcV (d + 6) 48 [.ref n, .ref 49] v s K := by
  have hk : 81 ≤ n ∧ n ≤ 86 := by unfold kN at hn; omega
  have hN := h.2.2.1
  refine st_Night_read hn (st_Text_begin ?_)
  rw [tS_begin]
  have L : ∀ m (i p : Nat) (R : List nRow) (sb s1 : hS), i + m = 300 → Fr (fN n) s sb → tX sb B N → dN n sb R → cE sb N (.ok p) s1 → (∀ sb s2, Fr (fN n) s sb → cN2 (pNight B N m R p) sb s2 n → K s2) → pgV (d + 6) 48 7 [.ref n, .ref 49, .int (nI i)] [] v s1 K := by
    intro m
    induction m with
    | zero =>
      intro i p R sb s1 hi hf hx hd hc hK
      refine st_Night_read_7 hn ⟨fun c => absurd c ?_, fun _ => st_Text_end ?_⟩
      · rw [nI_toInt (by omega)]; omega
      · exact hK sb _ hf ⟨hd, nI p, by rw [hc.2]⟩
    | succ m ih =>
      intro i p R sb s1 hi hf hx hd hc hK
      refine st_Night_read_7 hn ⟨fun _ => ce_goesOn hx hc (fun p2 s2 e hlt hc2 => ?_) (fun s2 hlt hc2 => ?_), fun c => absurd ?_ c⟩
      · injection e with e; subst e
        refine ⟨fun z => absurd z (by decide), fun _ => ?_⟩
        have e1 : pNight B N (m + 1) R p = bnd (pRow B N R (xs cBl B N p)) fun x => pNight B N m x.1 x.2 := if_pos hlt
        rw [e1] at hK
        refine sp_readRow hx hc2 xs_xs hn hd (fun sb3 s3 hf3 hx3 hc3 hd3 => ?_)
        rw [nI_1]
        cases e2 : pRow B N R (xs cBl B N p) with
        | ok y =>
          rw [e2] at hc3 hK
          exact ih (i + 1) y.2 y.1 sb3 s3 (by omega) (hf.tr hf3) hx3 (hd3 y e2) hc3 hK
        | error y =>
          obtain ⟨f, w⟩ := y
          rw [e2] at hc3 hK
          have hc3 : cE sb3 N (.error (f, w)) s3 := hc3
          obtain ⟨f1, f2, f3, -⟩ := hc3
          have Z : ∀ s4, cE sb3 N (.error (f, w)) s4 → pcV (d + 5) 45 [.ref 49] v s4 (fun s5 => K s5) := by
            intro s4 hc4
            obtain ⟨_, _, _, a, ha, rfl⟩ := hc4
            exact st_Text_end (hK sb3 _ (hf.tr hf3) ⟨f1, f2, by omega, nI a, rfl⟩)
          refine st_Night_read_7 hn ⟨fun _ => ce_goesOn hx3 hc3 (fun p2 s2 e _ _ => by cases e) (fun s4 _ hc4 => ⟨fun _ => Z s4 hc4, fun z => absurd rfl z⟩), fun _ => Z s3 hc3⟩
      · refine ⟨fun _ => st_Text_end ?_, fun z => absurd rfl z⟩
        have hlt := hlt p rfl
        have e1 : pNight B N (m + 1) R p = .ok R := if_neg hlt
        rw [e1] at hK
        have hc2 : cE sb N (.ok (xs cBl B N p)) s2 := hc2
        exact hK sb _ hf ⟨hd, nI (xs cBl B N p), by rw [hc2.2]⟩
      · rw [nI_toInt (by omega)]; omega
  exact L 300 0 0 [] (sI s n 4 0) _ rfl ((Fr.rf _ s).sI (by unfold fN; omega)) (tX_sI h (by omega)) ⟨by rw [r_II, if_pos ⟨rfl, rfl⟩]; rfl, by decide, fun k hk => absurd hk (Nat.not_lt_zero k)⟩ ⟨Nat.zero_le _, rfl⟩ hK
end
