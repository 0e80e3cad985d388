/-! A STORM, in the reference -/
def fSm (c k : Nat) : Prop := c = 158 ∨ c = 159 ∨ c = 160 ∨ c = 163 ∨ c = 164 ∨ (c = 145 ∧ k = 27)
def mPl (NP NG : Nat) (pl mg : Nat → Int) (s : hS) : Prop := rI s 152 0 = nI NP ∧ rI s 152 1 = nI NG ∧ ∀ k, H0D NP NG k = true → (rI s 150 k).toInt = pl k ∧ (rI s 151 k).toInt = mg k
def mHo (H : Nat → Bool) (s : hS) : Prop := ∀ k, k < 32 → rI s 160 k = (if H k = true then 1 else 0)
def mOn (NP NG : Nat) (bs : Nat → Int) (O : Nat → Int) (s : hS) : Prop := ∀ k, H0D NP NG k = true → (rL s 159 k).toInt = O k ∧ (rL s 158 k).toInt = bs k
def mTl (m : Nat) (l : Nat → Nat × Int) (s : hS) : Prop := rI s 145 27 = nI m ∧ ∀ i, i < m → rI s 163 i = nI (l i).1 ∧ (rL s 164 i).toInt = (l i).2
section
variable {d : Nat} {v : hV} {s s1 : hS} {NP NG : Nat} {pl mg bs : Nat → Int} {rp : Int} {S : bSt} {H : Nat → Bool} {O : Nat → Int}
theorem mPl_fr {F : Nat → Nat → Prop} (h : mPl NP NG pl mg s) (hf : Fr F s s1) (hw : ∀ k, ¬ F 152 k ∧ ¬ F 150 k ∧ ¬ F 151 k) : mPl NP NG pl mg s1 := by
  obtain ⟨h1, h2, h3⟩ := h
  refine ⟨by rw [hf.i (hw _).1]; exact h1, by rw [hf.i (hw _).1]; exact h2, fun k hk => ?_⟩
  rw [hf.i (hw _).2.1, hf.i (hw _).2.2]; exact h3 k hk
theorem mHo_fr {F : Nat → Nat → Prop} (h : mHo H s) (hf : Fr F s s1) (hw : ∀ k, ¬ F 160 k) : mHo H s1 := fun k hk => by rw [hf.i (hw k)]; exact h k hk
theorem mOn_fr {F : Nat → Nat → Prop} (h : mOn NP NG bs O s) (hf : Fr F s s1) (hw : ∀ k, ¬ F 159 k ∧ ¬ F 158 k) : mOn NP NG bs O s1 := fun k hk => by rw [hf.l (hw k).1, hf.l (hw k).2]; exact h k hk
theorem bit_b {b : Bool} : ((if b = true then (1 : Int32) else 0).toInt = 0 ↔ b = false) := by cases b <;> decide
theorem sm_holding {kn N : Nat} (hk : kn = 0 ∧ N = NP ∨ kn = 1 ∧ N = NG) (hN : NP ≤ 16 ∧ NG ≤ 16) (hP : mPl NP NG pl mg s) (hH : mHo H s) (hV : ∀ k, H k = true → k < NP ∨ 16 ≤ k ∧ k < 16 + NG) {K : Int32 → hS → Prop} (hK : K (nI (cn H (16 * kn) 16)) s) : pcI (d + 1) 209 [.ref 145, .int (nI kn)] v s K := by
  have hm : rI s 152 kn = nI N := by rcases hk with ⟨rfl, rfl⟩ | ⟨rfl, rfl⟩; exact hP.1; exact hP.2.1
  have hN16 : N ≤ 16 := by omega
  have hkn : kn ≤ 1 := by omega
  have e16 : (16 : Int32) * nI kn = nI (16 * kn) := pk_mul 16 kn
  have hc : cn H (16 * kn) 16 = cn H (16 * kn) N := by
    have e := cn_add H (16 * kn) N (16 - N)
    rw [show N + (16 - N) = 16 by omega] at e
    rw [e, cn_z (16 - N) (fun i hi => ?_), Nat.add_zero]
    cases hh : H (16 * kn + N + i) with
    | false => rfl
    | true => have := hV _ hh; omega
  rw [hc] at hK
  have G : ∀ j i : Nat, i + j = N → pgI (d + 1) 209 6 [.ref 145, .int (nI kn), .int (nI (cn H (16 * kn) i)), .int (nI (16 * kn + i))] [] v s K := by
    intro j
    induction j with
    | zero =>
      intro i hi
      refine st_M_holding_6 ?_
      rw [nI_toInt (show kn < 2147483648 by omega), Int.toNat_natCast, hm, e16, nI_add, nI_toInt (by omega), nI_toInt (by omega)]
      refine ⟨by omega, fun z => absurd z (by omega), fun _ => ?_⟩
      rw [show i = N by omega]; exact hK
    | succ j ih =>
      intro i hi
      have hh := hH (16 * kn + i) (by omega)
      refine st_M_holding_6 ?_
      rw [nI_toInt (show kn < 2147483648 by omega), Int.toNat_natCast, hm, e16, nI_add, nI_toInt (show 16 * kn + N < 2147483648 by omega), nI_toInt (show 16 * kn + i < 2147483648 by omega), Int.toNat_natCast, hh]
      refine ⟨by omega, fun _ => ⟨by omega, ?_⟩, fun z => absurd (by omega) z⟩
      rw [nI_1]
      have hi2 := ih (i + 1) (by omega)
      have ec : cn H (16 * kn) (i + 1) = cn H (16 * kn) i + (if H (16 * kn + i) = true then 1 else 0) := rfl
      rw [ec, ← Nat.add_assoc] at hi2
      cases hb : H (16 * kn + i) with
      | true =>
        rw [hb, if_pos rfl] at hi2
        refine sm_one (fun z => absurd z (by decide)) (fun _ => ?_)
        rw [nI_1]; exact hi2
      | false =>
        rw [hb, if_neg (by decide), Nat.add_zero] at hi2
        refine sm_one (fun _ => ?_) (fun z => absurd rfl z)
        rw [i_a0]; exact hi2
  refine st_M_holding ?_
  rw [e16]
  exact G N 0 (by omega)
theorem sm_load (hr : rgS NP NG pl mg bs rp) (h : okS NP NG bs S) (hP : mPl NP NG pl mg s) (hH : mHo S.1 s) (hO : mOn NP NG bs S.2.1 s) (hT : (rI s 148 8).toInt = rp) {k : Nat} (hk : S.1 k = true) {K : Int64 → hS → Prop} (hK : ∀ w : Int64, w.toInt = ldS bs rp S.1 S.2.1 k → K w s) : pcL (d + 2) 208 [.ref 145, .int (nI k)] v s K := by
  have h32 := ok_32 h hr hk
  obtain ⟨o1, o2⟩ := hO k (H0D_t.mpr (h.1 k hk))
  have hb := ok_b h hr hk
  have hbs := hr.2.1 k h32
  have hO0 := h.2.1 k
  have hrp := hr.2.2.2.1
  have e0 : Int64.toInt 0 = 0 := rfl
  refine st_M_load ?_
  rw [nI_toInt (by omega), Int.toNat_natCast]
  refine ⟨fun c => ⟨by omega, fun c2 => absurd c2 (by omega), fun _ => ⟨by omega, hK _ ?_⟩⟩, fun c => ⟨by omega, ?_⟩⟩
  · rw [l_add (by omega), o1, o2]; unfold ldS; rw [if_pos (show k < 16 by omega), Int.sub_zero, if_neg (by omega)]
  · have hp := cn_pos (a := 16) (n := 16) (by omega) (by omega) hk
    have hle := cn_le S.1 16 16
    refine sm_holding (kn := 1) (N := NG) (Or.inr ⟨rfl, rfl⟩) hr.1 hP hH h.1 ?_
    show (nI (cn S.1 16 16)).toInt ≠ 0 ∧ _
    have en : (nI (cn S.1 16 16)).toInt = cn S.1 16 16 := nI_toInt (by omega)
    have ed : (rI s 148 8 / nI (cn S.1 16 16)).toInt = lesS rp S.1 := by
      rw [i_div (by omega) (by omega), en, hT]; unfold lesS; rw [if_pos hp]
    have hlb := les_b hr S.1
    have es : (rL s 158 k - (rI s 148 8 / nI (cn S.1 16 16)).toInt64).toInt = bs k - lesS rp S.1 := by rw [l_sub (by rw [i_64, ed]; omega), i_64, ed, o2]
    rw [es]
    refine ⟨by omega, fun c2 => ⟨by omega, hK _ ?_⟩, fun c2 => ⟨by omega, hK _ ?_⟩⟩
    · rw [l_add (by rw [e0]; omega), e0, o1]; unfold ldS; rw [if_neg (show ¬ k < 16 by omega), if_pos c2]
    · rw [l_add (by rw [es]; omega), es, o1]; unfold ldS; rw [if_neg (show ¬ k < 16 by omega), if_neg c2]
theorem sm_worst (hr : rgS NP NG pl mg bs rp) (h : okS NP NG bs S) (hP : mPl NP NG pl mg s) (hH : mHo S.1 s) (hO : mOn NP NG bs S.2.1 s) (hT : (rI s 148 8).toInt = rp) {K : Int32 → hS → Prop} (hK : ∀ w : Int32, w.toInt = (wS mg bs rp S.1 S.2.1).1 → K w s) : pcI (d + 3) 207 [.ref 145] v s K := by
  rw [← wS_all] at hK
  have G : ∀ j i : Nat, i + j = 32 → ∀ (p : Int × Int) (x1 : Int32) (y2 : Int64) (z3 : Value), x1.toInt = p.1 → y2.toInt = p.2 → wF (exS mg bs rp S.1 S.2.1) S.1 j i p = wF (exS mg bs rp S.1 S.2.1) S.1 32 0 (-1, 0) → pgI (d + 3) 207 6 [.ref 145, .int x1, .long y2, z3, .int (nI i)] [] v s K := by
    intro j
    induction j with
    | zero =>
      intro i hi p x1 y2 z3 h1 h2 hp
      refine st_M_worst_6 ?_
      rw [nI_toInt (by omega)]
      exact ⟨fun z => absurd z (by omega), fun _ => hK x1 (by rw [← hp]; exact h1)⟩
    | succ j ih =>
      intro i hi p x1 y2 z3 h1 h2 hp
      rw [wF_s] at hp
      refine st_M_worst_6 ?_
      rw [nI_toInt (by omega), Int.toNat_natCast, hH i (by omega), bit_b, nI_1]
      refine ⟨fun _ => ⟨by omega, fun c => ?_, fun c => ?_⟩, fun z => absurd (by omega) z⟩
      · rw [if_neg (fun z => by rw [c] at z; exact absurd z.1 (by decide))] at hp
        exact ih (i + 1) (by omega) p x1 y2 _ h1 h2 hp
      · have hHi : S.1 i = true := by
          cases hh : S.1 i with
          | true => rfl
          | false => exact absurd hh c
        have hs := (hP.2.2 i (H0D_t.mpr (h.1 i hHi))).2
        have hmg := (hr.2.2.1 i (h.1 i hHi)).2
        have hl := ld_b h hr hHi
        have E : ∀ w : Int64, w.toInt = ldS bs rp S.1 S.2.1 i → (w - (rI s 151 i).toInt64).toInt = exS mg bs rp S.1 S.2.1 i := fun w hw => by
          rw [l_sub (by rw [i_64, hs, hw]; omega), i_64, hs, hw]; rfl
        refine sm_load hr h hP hH hO hT hHi (fun w hw => ⟨by omega, ?_⟩)
        rw [E w hw, h2]
        refine ⟨fun c2 => sm_load hr h hP hH hO hT hHi (fun w2 hw2 => ⟨by omega, ?_⟩), fun c2 => ?_⟩
        · rw [if_pos ⟨hHi, c2⟩] at hp
          exact ih (i + 1) (by omega) _ (nI i) _ _ (nI_toInt (by omega)) (E w2 hw2) hp
        · rw [if_neg (fun z => c2 z.2)] at hp
          exact ih (i + 1) (by omega) p x1 y2 _ h1 h2 hp
  exact st_M_worst (G 32 0 rfl (-1, 0) (-1) 0 _ rfl rfl rfl)
theorem fS_eq {x y f st : Int} (hx : 0 ≤ x ∧ x ≤ 23) (hy : 0 ≤ y ∧ y ≤ 23) (hf : 1 ≤ f ∧ f ≤ 23) (hst : st = 1 ∨ st = -1) : (y = (x + st * f + 48) % 24) ↔ ((y - x) * st) % 24 = f := by
  rcases hst with rfl | rfl <;> omega
theorem sm_neighbour (hr : rgS NP NG pl mg bs rp) (hP : mPl NP NG pl mg s) {k : Nat} (hk : k < NP ∨ 16 ≤ k ∧ k < 16 + NG) (hH : mHo H s) (hV : ∀ j, H j = true → j < NP ∨ 16 ≤ j ∧ j < 16 + NG) (hHk : H k = false) {x : Int32} (hx : x.toInt = 1 ∨ x.toInt = -1) {K : Int32 → hS → Prop} (hK : ∀ w : Int32, w.toInt = nbS pl H k x.toInt → K w s) : pcI d 211 [.ref 145, .int (nI k), .int x] v s K := by
  have hN := hr.1
  have e16 : Int32.toInt 16 = 16 := rfl
  have e24 : Int32.toInt 24 = 24 := rfl
  have e48 : Int32.toInt 48 = 48 := rfl
  obtain ⟨kn, N, hkn, hkd, hkN, hN16⟩ : ∃ kn N, (kn = 0 ∧ N = NP ∨ kn = 1 ∧ N = NG) ∧ kd k = 16 * kn ∧ k / 16 = kn ∧ N ≤ 16 := by
    by_cases c : k < 16
    · exact ⟨0, NP, Or.inl ⟨rfl, rfl⟩, by unfold kd; rw [if_pos c], by omega, hN.1⟩
    · exact ⟨1, NG, Or.inr ⟨rfl, rfl⟩, by unfold kd; rw [if_neg c], by omega, hN.2⟩
  have hm : rI s 152 kn = nI N := by rcases hkn with ⟨rfl, rfl⟩ | ⟨rfl, rfl⟩; exact hP.1; exact hP.2.1
  have hkn1 : kn ≤ 1 := by omega
  have hq : nI k / 16 = nI kn := by
    refine i_inj ?_
    rw [i_div (by rw [nI_toInt (by omega)]; omega) (by rw [e16]; decide), nI_toInt (by omega), nI_toInt (by omega), e16]; omega
  have hm16 : (16 : Int32) * nI kn = nI (16 * kn) := pk_mul 16 kn
  have VN : ∀ j, 16 * kn ≤ j → j < 16 * kn + N → (j < NP ∨ 16 ≤ j ∧ j < 16 + NG) := fun j h1 h2 => by omega
  have VH : ∀ j, 16 * kn ≤ j → j < 16 * kn + 16 → H j = true → j < 16 * kn + N := fun j h1 h2 h3 => by
    have := hV j h3; omega
  have hpk := (hr.2.2.1 k hk).1
  have hpk2 := (hP.2.2 k (H0D_t.mpr hk)).1
  have nb := nb_ok (pl := pl) H k x.toInt
  rw [hkd] at nb
  have hRd : nbS pl H k x.toInt = (nF (fS pl k x.toInt) H 16 (16 * kn) (-1, 24)).1 := by unfold nbS; rw [hkd]
  generalize nF (fS pl k x.toInt) H 16 (16 * kn) (-1, 24) = R at nb hRd
  have f24 : ∀ j, fS pl k x.toInt j < 24 := fun j => by unfold fS; omega
  -- the places of one distance
  have IN : ∀ (f : Nat), 1 ≤ f → f < 24 → (∀ j, 16 * kn ≤ j → j < 16 * kn + 16 → H j = true → (f : Int) ≤ fS pl k x.toInt j) → ((∀ j, 16 * kn ≤ j → j < 16 * kn + 16 → H j = true → (f + 1 : Int) ≤ fS pl k x.toInt j) → ∀ z5 z6, pgI d 211 6 [.ref 145, .int (nI k), .int x, .int (nI kn), .int (nI (f + 1)), z5, z6] [] v s K) → ∀ (x5 : Int32), x5.toInt = (pl k + x.toInt * f + 48) % 24 → ∀ j i : Nat, i + j = N → (∀ q, 16 * kn ≤ q → q < 16 * kn + i → H q = true → fS pl k x.toInt q ≠ f) → pgI d 211 26 [.ref 145, .int (nI k), .int x, .int (nI kn), .int (nI f), .int x5, .int (nI (16 * kn + i))] [] v s K := by
    intro f hf1 hf2 hinv hnext x5 hx5 j
    induction j with
    | zero =>
      intro i hi hq2
      refine st_M_neighbour_26 ?_
      have q1 : nI f + 1 = nI (f + 1) := by rw [nI_1]
      rw [nI_toInt (show kn < 2147483648 by omega), Int.toNat_natCast, hm, hm16, nI_add, nI_toInt (by omega), nI_toInt (by omega), q1]
      refine ⟨by omega, fun z => absurd z (by omega), fun _ => hnext (fun q h1 h2 h3 => ?_) _ _⟩
      have := VH q h1 h2 h3
      have a := hinv q h1 h2 h3
      have b := hq2 q h1 (by omega) h3
      omega
    | succ j ih =>
      intro i hi hq2
      have hv := VN (16 * kn + i) (by omega) (by omega)
      have hpj := (hr.2.2.1 _ hv).1
      have hpj2 := (hP.2.2 _ (H0D_t.mpr hv)).1
      have nx : ¬ (H (16 * kn + i) = true ∧ fS pl k x.toInt (16 * kn + i) = f) → pgI d 211 26 [.ref 145, .int (nI k), .int x, .int (nI kn), .int (nI f), .int x5, .int (nI (16 * kn + i + 1))] [] v s K := fun hn => ih (i + 1) (by omega) (fun q h1 h2 h3 h4 => by
        by_cases cq : q = 16 * kn + i
        · rw [cq] at h3 h4; exact hn ⟨h3, h4⟩
        · exact hq2 q h1 (by omega) h3 h4)
      refine st_M_neighbour_26 ?_
      rw [nI_toInt (show kn < 2147483648 by omega), Int.toNat_natCast, hm, hm16, nI_add, nI_toInt (show 16 * kn + N < 2147483648 by omega), nI_toInt (show 16 * kn + i < 2147483648 by omega), Int.toNat_natCast, hH _ (by omega), bit_b, nI_1, hpj2, hx5]
      refine ⟨by omega, fun _ => ⟨by omega, fun c => nx (fun z => by rw [c] at z; exact absurd z.1 (by decide)), fun c => ⟨by omega, fun c2 => ?_, fun c2 => nx (fun z => c2 ((fS_eq hpk hpj (by omega) hx).mpr z.2))⟩⟩, fun z => absurd (by omega) z⟩
      have hHi : H (16 * kn + i) = true := by
        cases hh : H (16 * kn + i) with
        | true => rfl
        | false => exact absurd hh c
      have hF : fS pl k x.toInt (16 * kn + i) = f := (fS_eq hpk hpj (by omega) hx).mp c2
      refine hK _ ?_
      rw [hRd, nI_toInt (by omega)]
      rcases nb with ⟨_, n2⟩ | ⟨w, w1, w2, w3, w4, w5⟩
      · rw [n2 _ (by omega) (by omega)] at hHi; exact absurd hHi (by decide)
      · have a := w5 _ (by omega) (by omega) hHi
        have b := hinv w w1 w2 w3
        have hw := VH w w1 w2 w3
        have hpw := (hr.2.2.1 w (VN w w1 hw)).1
        have hFw : fS pl k x.toInt w = f := by omega
        have ew : pl w = pl (16 * kn + i) := ((fS_eq hpk hpw (by omega) hx).mpr hFw).trans c2.symm
        have := hr.2.2.2.2 w (16 * kn + i) (by omega) ew
        rw [w4, this]
  have OUT : ∀ j f : Nat, f + j = 24 → 1 ≤ f → (∀ q, 16 * kn ≤ q → q < 16 * kn + 16 → H q = true → (f : Int) ≤ fS pl k x.toInt q) → ∀ z5 z6, pgI d 211 6 [.ref 145, .int (nI k), .int x, .int (nI kn), .int (nI f), z5, z6] [] v s K := by
    intro j
    induction j with
    | zero =>
      intro f hf hf1 hinv z5 z6
      refine st_M_neighbour_6 ?_
      rw [nI_toInt (show f < 2147483648 by omega)]
      refine ⟨fun z => absurd z (by omega), fun _ => hK _ ?_⟩
      rw [hRd]
      rcases nb with ⟨n1, _⟩ | ⟨w, w1, w2, w3, w4, w5⟩
      · rw [n1]; rfl
      · have a := hinv w w1 w2 w3
        have b := f24 w
        omega
    | succ j ih =>
      intro f hf hf1 hinv z5 z6
      refine st_M_neighbour_6 ?_
      rw [nI_toInt (show f < 2147483648 by omega), nI_toInt (show k < 2147483648 by omega), Int.toNat_natCast, hm16]
      refine ⟨fun _ => ⟨by omega, ?_⟩, fun z => absurd (by omega) z⟩
      have ef : (nI f).toInt = f := nI_toInt (by omega)
      have hxb : -24 ≤ x.toInt * f ∧ x.toInt * f ≤ 24 := by rcases hx with e | e <;> rw [e] <;> omega
      have e1 : (x * nI f).toInt = x.toInt * f := by rw [i_mul (by rw [ef]; omega), ef]
      have e2 : (rI s 150 k + x * nI f).toInt = pl k + x.toInt * f := by rw [i_add (by rw [e1, hpk2]; omega), e1, hpk2]
      have e3 : (rI s 150 k + x * nI f + 48).toInt = pl k + x.toInt * f + 48 := by rw [i_add (by rw [e2, e48]; omega), e2, e48]
      have e4 := i_rem (a := rI s 150 k + x * nI f + 48) (b := 24) (by rw [e3]; omega) (by decide)
      rw [e3, e24] at e4
      exact IN f hf1 (by omega) hinv (fun hn z5 z6 => ih (f + 1) (by omega) (by omega) hn z5 z6) _ e4 N 0 (by omega) (fun q h1 h2 => absurd h2 (by omega))
  refine st_M_neighbour ?_
  rw [hq]
  refine OUT 23 1 rfl (Nat.le_refl _) (fun q h1 h2 h3 => ?_) _ _
  have hqv := hV q h3
  have hpq := (hr.2.2.1 q hqv).1
  have h0 : 0 ≤ fS pl k x.toInt q := by unfold fS; omega
  by_cases c : fS pl k x.toInt q = 0
  · have ep : pl q = pl k := by
      unfold fS at c
      rcases hx with e | e <;> rw [e] at c <;> omega
    have hqk : q = k := hr.2.2.2.2 q k (by omega) ep
    rw [hqk, hHk] at h3; exact absurd h3 (by decide)
  · show ((1 : Nat) : Int) ≤ _; omega
theorem sm_lose (hr : rgS NP NG pl mg bs rp) (hP : mPl NP NG pl mg s) (h : okS NP NG bs S) {k : Nat} (hk : S.1 k = true) (hH : mHo S.1 s) (hO : mOn NP NG bs S.2.1 s) {y : Int64} (hy : y.toInt = ldS bs rp S.1 S.2.1 k) {K : hS → Prop} (hK : ∀ s2, Fr (fun c _ => c = 159 ∨ c = 160) s s2 → mHo (dropH S.1 k) s2 → mOn NP NG bs (loO pl S.1 S.2.1 k (ldS bs rp S.1 S.2.1 k)) s2 → K s2) : pcV (d + 1) 210 [.ref 145, .int (nI k), .long y] v s K := by
  have e1 : Int32.toInt 1 = 1 := rfl
  have em1 : Int32.toInt (-1) = -1 := rfl
  have e2 : Int64.toInt 2 = 2 := rfl
  have hkv := h.1 k hk
  have hN := hr.1
  have hlb := ld_b h hr hk
  have hdr : ∀ j, dropH S.1 k j = true → S.1 j = true := fun j hj => by
    unfold dropH at hj; split at hj
    · exact absurd hj (by decide)
    · exact hj
  refine st_M_lose ?_
  rw [nI_toInt (show k < 2147483648 by omega), Int.toNat_natCast]
  refine ⟨by omega, ?_⟩
  generalize hs1 : sI s 160 k 0 = s1
  have f1 : Fr (fun c _ => c = 159 ∨ c = 160) s s1 := by rw [← hs1]; exact (Fr.rf _ s).sI (Or.inr rfl)
  have P1 := mPl_fr hP f1 (fun j => ⟨by omega, by omega, by omega⟩)
  have H1 : mHo (dropH S.1 k) s1 := fun j hj => by
    rw [← hs1, r_II]
    by_cases c : j = k
    · have e : dropH S.1 k j = false := if_pos c
      rw [if_pos ⟨rfl, c⟩, e]; rfl
    · have e : dropH S.1 k j = S.1 j := if_neg c
      rw [if_neg (fun z => c z.2), e]; exact hH j hj
  have O1 : mOn NP NG bs S.2.1 s1 := fun j hj => by rw [← hs1, r_LI, r_LI]; exact hO j hj
  have V1 : ∀ j, dropH S.1 k j = true → j < NP ∨ 16 ≤ j ∧ j < 16 + NG := fun j hj => h.1 j (hdr j hj)
  refine sm_neighbour hr P1 hkv H1 V1 (if_pos rfl) (Or.inl rfl) (fun w1 hw1 => sm_neighbour hr P1 hkv H1 V1 (if_pos rfl) (Or.inr rfl) (fun w2 hw2 => ?_))
  rw [e1] at hw1
  rw [em1] at hw2
  have wd : (y / 2).toInt = y.toInt / 2 := by rw [l_div (by omega) (by rw [e2]; decide), e2]
  have wr : (y - y / 2).toInt = y.toInt - y.toInt / 2 := by rw [l_sub (by rw [wd]; omega), wd]
  rcases nb_cases (pl := pl) (dropH S.1 k) k with ⟨n1, n2, _⟩ | ⟨A, B, n1, n2, ⟨A1, A2, A3⟩, ⟨B1, B2, B3⟩⟩
  · rw [n1] at hw1
    refine ⟨fun _ => hK s1 f1 H1 ?_, fun z => absurd (by omega) z⟩
    have : loO pl S.1 S.2.1 k (ldS bs rp S.1 S.2.1 k) = S.2.1 := by unfold loO; rw [if_pos n1]
    rw [this]; exact O1
  · rw [n1] at hw1
    rw [n2] at hw2
    have A4 := V1 A A3
    have B4 := V1 B B3
    have w1n : w1.toInt.toNat = A := by omega
    have w2n : w2.toInt.toNat = B := by omega
    have bA := ok_b h hr (hdr A A3)
    have bB := ok_b h hr (hdr B B3)
    have b2A := hr.2.1 A (by omega)
    have b2B := hr.2.1 B (by omega)
    have oA := h.2.1 A
    have oB := h.2.1 B
    have qA := (O1 A (H0D_t.mpr A4)).1
    have qB := (O1 B (H0D_t.mpr B4)).1
    rw [w1n, w2n]
    refine ⟨fun z => absurd z (by omega), fun _ => ⟨by omega, by omega, by omega, by omega, ?_⟩⟩
    have a1 : (rL s1 159 A + y / 2).toInt = S.2.1 A + y.toInt / 2 := by rw [l_add (by rw [qA, wd]; omega), qA, wd]
    generalize hs2 : sL s1 159 A (rL s1 159 A + y / 2) = s2
    have q2 : ∀ j, H0D NP NG j = true → (rL s2 159 j).toInt = addO S.2.1 A (y.toInt / 2) j := fun j hj => by
      rw [← hs2, r_LL]; unfold addO
      by_cases c : j = A
      · rw [if_pos ⟨rfl, c⟩, a1, if_pos (by omega), c]
      · rw [if_neg (fun z => c z.2), if_neg (by omega)]; exact (O1 j hj).1
    have qB2 := q2 B (H0D_t.mpr B4)
    have bB2 : 0 ≤ addO S.2.1 A (y.toInt / 2) B ∧ addO S.2.1 A (y.toInt / 2) B ≤ 60000 := by unfold addO; split <;> omega
    have a2 : (rL s2 159 B + (y - y / 2)).toInt = addO S.2.1 A (y.toInt / 2) B + (y.toInt - y.toInt / 2) := by rw [l_add (by rw [qB2, wr]; omega), qB2, wr]
    refine hK _ (by rw [← hs2]; exact (f1.sL (Or.inl rfl)).sL (Or.inl rfl)) (fun j hj => by rw [r_IL, ← hs2, r_IL]; exact H1 j hj) (fun j hj => ⟨?_, ?_⟩)
    · unfold loO
      rw [n1, n2, if_neg (by omega), ← hy, r_LL]
      by_cases c : j = B
      · rw [if_pos ⟨rfl, c⟩, a2]
        conv => rhs; unfold addO
        rw [if_pos (by omega), c]; rfl
      · rw [if_neg (fun z => c z.2), q2 j hj]
        conv => rhs; unfold addO
        rw [if_neg (by omega)]; rfl
    · rw [r_LL, if_neg (by omega), ← hs2, r_LL, if_neg (by omega)]; exact (O1 j hj).2
end
