/-! THE CUT, in the class -/
def lsC (hl : Nat → Int) (S g : Nat) : Int := if S.testBit g = true then hl g else 0
def mskC (P k : Nat) : Nat := (2 ^ (P - k) - 1) <<< k
def okC (hl pl : Nat → Int) (H P S : Nat) : Prop := feC pl P (lsC hl S) H (2 ^ P - 1)
def lwC (hl : Nat → Int) (H S : Nat) : Int := 8000 - lnC hl H S
/-- the piece i can be cut of the hide h, all behind it then still -/
def gdC (pl : Nat → Int) (H P i : Nat) (L : Nat → Int) (h : Nat) : Prop := h < H ∧ pl i ≤ L h ∧ feC pl P (upL L h (L h - pl i)) H (mskC P (i + 1))
noncomputable def hsF (pl : Nat → Int) (H P i : Nat) (L : Nat → Int) : Nat := Classical.epsilon (fun h => gdC pl H P i L h ∧ ∀ h2, h2 < h → ¬ gdC pl H P i L h2)
noncomputable def LsF (pl : Nat → Int) (H P : Nat) (L : Nat → Int) : Nat → Nat → Int
  | 0 => L
  | i + 1 => upL (LsF pl H P L i) (hsF pl H P i (LsF pl H P L i)) (LsF pl H P L i (hsF pl H P i (LsF pl H P L i)) - pl i)
theorem least_P {q : Nat → Prop} (h : ∃ i, q i) : ∃ i, q i ∧ ∀ j, j < i → ¬ q j := by
  obtain ⟨i, hi⟩ := h
  induction i using Nat.strongRecOn with
  | _ i ih =>
    by_cases c : ∃ j, j < i ∧ q j
    · obtain ⟨j, j1, j2⟩ := c
      exact ih j j1 j2
    · exact ⟨i, hi, fun j hj hq => c ⟨j, hj, hq⟩⟩
theorem mskC_lt {P k : Nat} (hk : k ≤ P) : mskC P k < 2 ^ P := by
  unfold mskC
  rw [Nat.shiftLeft_eq]
  have h1 : 2 ^ P = 2 ^ (P - k) * 2 ^ k := by rw [← Nat.pow_add]; congr 1; omega
  have h2 : 0 < 2 ^ (P - k) := Nat.pow_pos (by decide)
  have h3 : 0 < 2 ^ k := Nat.pow_pos (by decide)
  rw [h1]
  exact Nat.mul_lt_mul_of_pos_right (by omega) h3
theorem mskC_bit {P k i : Nat} : (mskC P k).testBit i = (decide (k ≤ i) && decide (i < P)) := by
  unfold mskC
  rw [Nat.testBit_shiftLeft, Nat.testBit_two_pow_sub_one]
  by_cases c : k ≤ i
  · rw [decide_eq_true c, Bool.true_and, Bool.true_and]
    exact decide_eq_decide.mpr (by omega)
  · rw [decide_eq_false c, Bool.false_and, Bool.false_and]
theorem mskC_suc {P i : Nat} (hi : i < P) : mskC P i = mskC P (i + 1) ||| 2 ^ i ∧ (mskC P (i + 1)).testBit i = false ∧ (mskC P i).testBit i = true := by
  refine ⟨Nat.eq_of_testBit_eq (fun q => ?_), ?_, ?_⟩
  · rw [Nat.testBit_or, mskC_bit, mskC_bit, Nat.testBit_two_pow]
    by_cases c : i = q
    · subst c; rw [decide_eq_true (Nat.le_refl i), decide_eq_true hi, decide_eq_true (rfl : i = i), Bool.or_true]; rfl
    · rw [decide_eq_false c, Bool.or_false]
      have : decide (i ≤ q) = decide (i + 1 ≤ q) := decide_eq_decide.mpr (by omega)
      rw [this]
  · rw [mskC_bit, decide_eq_false (by omega), Bool.false_and]
  · rw [mskC_bit, decide_eq_true (Nat.le_refl i), decide_eq_true hi]; rfl
theorem mskC_0 (P : Nat) : mskC P 0 = 2 ^ P - 1 := by
  unfold mskC; rw [Nat.shiftLeft_zero, Nat.sub_zero]
section
variable {hl pl : Nat → Int} {H P : Nat} {L : Nat → Int}
theorem hsF_ok {i : Nat} (hi : i < P) (hL : ∀ g, 0 ≤ L g ∧ L g ≤ 999) (hp : ∀ i, i < P → 1 ≤ pl i ∧ pl i ≤ 999) (hf : feC pl P L H (mskC P i)) : gdC pl H P i L (hsF pl H P i L) ∧ ∀ h2, h2 < hsF pl H P i L → ¬ gdC pl H P i L h2 := by
  obtain ⟨m1, m2, m3⟩ := mskC_suc hi
  obtain ⟨g, g1, g2, g3⟩ := feC_pick hi hf m3 (mskC P (i + 1)) m1 m2 (fun g _ => (hL g).1) (fun i hi => by have := hp i hi; omega)
  have := least_P (q := gdC pl H P i L) ⟨g, g1, g2, g3⟩
  exact Classical.epsilon_spec (p := fun h => gdC pl H P i L h ∧ ∀ h2, h2 < h → ¬ gdC pl H P i L h2) this
theorem LsF_ok (hL : ∀ g, 0 ≤ L g ∧ L g ≤ 999) (hp : ∀ i, i < P → 1 ≤ pl i ∧ pl i ≤ 999) (hf : feC pl P L H (2 ^ P - 1)) : ∀ i, i ≤ P → (∀ g, 0 ≤ LsF pl H P L i g ∧ LsF pl H P L i g ≤ 999) ∧ feC pl P (LsF pl H P L i) H (mskC P i) := by
  intro i
  induction i with
  | zero => intro _; exact ⟨hL, by rw [mskC_0]; exact hf⟩
  | succ i ih =>
    intro hi
    obtain ⟨a1, a2⟩ := ih (by omega)
    obtain ⟨⟨b1, b2, b3⟩, _⟩ := hsF_ok (by omega) a1 hp a2
    refine ⟨fun g => ?_, b3⟩
    have hpi := hp i (by omega)
    have := a1 (hsF pl H P i (LsF pl H P L i))
    show 0 ≤ upL _ _ _ g ∧ upL _ _ _ g ≤ 999
    unfold upL
    split
    · omega
    · exact a1 g
theorem lsC_b {S : Nat} (hh : ∀ g, g < H → 1 ≤ hl g ∧ hl g ≤ 999) (hS : S < 2 ^ H) : ∀ g, 0 ≤ lsC hl S g ∧ lsC hl S g ≤ 999 := fun g => by
  unfold lsC
  by_cases c : S.testBit g = true
  · rw [if_pos c]
    have : g < H := Nat.lt_of_not_le (fun z => by
      rw [Nat.testBit_lt_two_pow (Nat.lt_of_lt_of_le hS (Nat.pow_le_pow_right (by decide) z))] at c; exact absurd c (by decide))
    have := hh g this; omega
  · rw [if_neg c]; omega
theorem sm_lsC (S : Nat) : smS (lsC hl S) H = lnC hl H S := rfl
end
section
variable {d : Nat} {v : hV} {s s1 : hS} {hl pl : Nat → Int} {H P : Nat} {L : Nat → Int}
/-- hides and pieces, as the class has them -/
def cHi (hl pl : Nat → Int) (H P : Nat) (s : hS) : Prop := (H ≤ 8 ∧ P ≤ 8) ∧ rI s 125 2 = nI H ∧ rI s 125 3 = nI P ∧ (∀ g, g < H → (rI s 126 g).toInt = hl g ∧ 1 ≤ hl g ∧ hl g ≤ 999) ∧ ∀ i, i < P → (rI s 127 i).toInt = pl i ∧ 1 ≤ pl i ∧ pl i ≤ 999
def lfC (H : Nat) (L : Nat → Int) (s : hS) : Prop := ∀ g, g < H → (rI s 128 g).toInt = L g
theorem cHi_fr {F : Nat → Nat → Prop} (h : cHi hl pl H P s) (hf : Fr F s s1) (h1 : ¬ F 125 2 ∧ ¬ F 125 3) (h2 : ∀ k, ¬ F 126 k ∧ ¬ F 127 k) : cHi hl pl H P s1 := by
  obtain ⟨a0, a1, a2, a3, a4⟩ := h
  refine ⟨a0, by rw [hf.i h1.1]; exact a1, by rw [hf.i h1.2]; exact a2, fun g hg => by rw [hf.i (h2 g).1]; exact a3 g hg, fun i hi => by rw [hf.i (h2 i).2]; exact a4 i hi⟩
theorem lfC_fr {F : Nat → Nat → Prop} (h : lfC H L s) (hf : Fr F s s1) (h2 : ∀ k, ¬ F 128 k) : lfC H L s1 := fun g hg => by rw [hf.i (h2 g)]; exact h g hg
theorem bhC_b {so p : Int} (hL : ∀ g, 0 ≤ L g ∧ L g ≤ 999) (h0 : 0 ≤ so ∧ so ≤ (H : Int) * 1024) (hp : 0 ≤ p) : 0 ≤ bhC L H so p ∧ bhC L H so p ≤ (H : Int) * 1024 := by
  unfold bhC
  generalize hg : (so / 1024).toNat = g
  have hgH : g ≤ H := by omega
  have hx : 0 ≤ so % 1024 := by omega
  rcases bhF_at L p (H - g) g (so % 1024) with e | ⟨g2, x2, h1, h2, h3, h4, h5⟩
  · rw [e, show g + (H - g) = H by omega]; omega
  · rw [h5]
    have := hL g2
    have : 0 ≤ x2 := by rcases h3 with ⟨_, h3⟩ | ⟨_, h3⟩ <;> omega
    omega
theorem sp_behind (hC : cHi hl pl H P s) (hf : lfC H L s) (hL : ∀ g, 0 ≤ L g ∧ L g ≤ 999) {so p : Int} {x1 x2 : Int32} (h1 : x1.toInt = so) (h0 : 0 ≤ so ∧ so ≤ (H : Int) * 1024) (h2 : x2.toInt = p) (hp : 1 ≤ p ∧ p ≤ 999) {K : Int32 → hS → Prop} (hK : ∀ w : Int32, w.toInt = bhC L H so p → K w s) : pcI d 141 [.ref 125, .int x1, .int x2] v s K := by
  have e24 : Int32.toInt 1024 = 1024 := rfl
  have e0 : Int32.toInt 0 = 0 := rfl
  have hH := hC.1.1
  have d1 : (x1 / 1024).toInt = so / 1024 := by rw [i_div (by omega) (by rw [e24]; decide), h1, e24]
  have r1 : (x1 - x1 / 1024 * 1024).toInt = so % 1024 := by rw [i_rem (by omega) (by rw [e24]; decide), h1, e24]
  have G : ∀ j g : Nat, g + j = H → ∀ (x3 : Int32) (x : Int), x3.toInt = x → 0 ≤ x ∧ x ≤ 1023 → bhF L p j g x = bhC L H so p → ∀ z1, pgI d 141 8 [.ref 125, z1, .int x2, .int x3, .int (nI g)] [] v s K := by
    intro j
    induction j with
    | zero =>
      intro g hg x3 x h3 hx hb z1
      have q : nI H * 1024 = nI (H * 1024) := pk_mul H 1024
      refine st_Hides_behind_8 ?_
      rw [hC.2.1, nI_toInt (show g < 2147483648 by omega), nI_toInt (show H < 2147483648 by omega)]
      refine ⟨fun z => absurd z (by omega), fun _ => hK _ ?_⟩
      rw [q, nI_toInt (by omega), ← hb]
      show _ = (g : Int) * 1024
      omega
    | succ j ih =>
      intro g hg x3 x h3 hx hb z1
      have q1 : nI g + 1 = nI (g + 1) := by rw [nI_1]
      have eb : bhF L p (j + 1) g x = if L g < x + p then bhF L p j (g + 1) 0 else (g : Int) * 1024 + x + p := rfl
      have ea : (x3 + x2).toInt = x + p := by rw [i_add (by omega), h3, h2]
      rw [eb] at hb
      refine st_Hides_behind_8 ?_
      rw [hC.2.1, nI_toInt (show g < 2147483648 by omega), nI_toInt (show H < 2147483648 by omega), Int.toNat_natCast, hf g (by omega), ea, q1]
      refine ⟨fun _ => ⟨by omega, fun c => ?_, fun c => hK _ ?_⟩, fun z => absurd (by omega) z⟩
      · rw [if_pos c] at hb
        exact ih (g + 1) (by omega) 0 0 e0 (by omega) hb _
      · rw [if_neg c] at hb
        have q : nI g * 1024 = nI (g * 1024) := pk_mul g 1024
        have s1 : (nI g * 1024 + x3).toInt = (g : Int) * 1024 + x := by rw [q, i_add (by rw [nI_toInt (by omega)]; omega), nI_toInt (by omega), h3]; omega
        rw [i_add (by rw [s1]; omega), s1, h2, ← hb]
  refine st_Hides_behind ?_
  have eg : x1 / 1024 = nI (so / 1024).toNat := i_inj (by rw [d1, nI_toInt (by omega)]; omega)
  rw [eg] at r1 ⊢
  have GG := G (H - (so / 1024).toNat) (so / 1024).toNat (by omega) _ (so % 1024) r1 (by omega) (by unfold bhC; rfl)
  exact GG _
theorem eqC_up {p ρ ρ2 : Nat → Int} {M r : Nat} (h : eqC p M H L ρ r) (e : ∀ k, k ≤ r → ρ k = ρ2 k) : eqC p M H L ρ2 r := by
  unfold eqC at *
  rw [← e r (Nat.le_refl _), h]
  by_cases c : r = 0
  · rw [if_pos c, if_pos c]
  · rw [if_neg c, if_neg c]
    refine mfF_cg M 0 _ (fun i _ _ hq => ?_)
    have hb : r.testBit i = true := by
      have hq : (!(r.testBit i)) = false := hq
      cases hh : r.testBit i with
      | true => rfl
      | false => rw [hh] at hq; exact absurd hq (by decide)
    have := (xor_bit hb).2.2.2
    show bhC L H (ρ (r ^^^ 2 ^ i)) (p i) = bhC L H (ρ2 (r ^^^ 2 ^ i)) (p i)
    rw [e _ (by omega)]
theorem b_xor {set i : Nat} (hi : i < 31) : nI set ^^^ ((1 : Int32) <<< (nI i &&& 31)) = nI (set ^^^ 2 ^ i) := by
  rw [b_sh hi, n_xor]
theorem sp_fitsFrom (hC : cHi hl pl H P s) (hlf : lfC H L s) (hL : ∀ g, 0 ≤ L g ∧ L g ≤ 999) {f : Nat} (hf : f ≤ P) {K : Int32 → hS → Prop} (h1 : feC pl P L H (mskC P f) → ∀ s2, Fr (fun c _ => c = 129) s s2 → K 1 s2) (h0 : ¬ feC pl P L H (mskC P f) → ∀ s2, Fr (fun c _ => c = 129) s s2 → K 0 s2) : pcI (d + 2) 140 [.ref 125, .int (nI f)] v s K := by
  obtain ⟨⟨hH, hP8⟩, c2, c3, c4, c5⟩ := hC
  have hC : cHi hl pl H P s := ⟨⟨hH, hP8⟩, c2, c3, c4, c5⟩
  have e1 : Int32.toInt 1 = 1 := rfl
  have sub : nI P - nI f = nI (P - f) := i_inj (by rw [i_sub (by rw [nI_toInt (by omega), nI_toInt (by omega)]; omega), nI_toInt (by omega), nI_toInt (by omega), nI_toInt (by omega)]; omega)
  have qH : nI H * 1024 = nI (H * 1024) := pk_mul H 1024
  have hfe : feC pl P L H (mskC P f) ↔ feC (fun i => pl (f + i)) (P - f) L H (2 ^ (P - f) - 1) := by
    have := feC_sh (p := pl) (L := L) (f := f) (M := P - f) (h := H) (r := 2 ^ (P - f) - 1)
    rw [show f + (P - f) = P by omega] at this
    exact this
  rw [hfe] at h1 h0
  generalize hM : P - f = M at *
  have hM8 : M ≤ 8 := by omega
  have hpw := pw8 hM8
  refine st_Hides_fitsFrom ?_
  rw [c3, sub, c2, qH, nI_toInt (show M < 2147483648 by omega)]
  refine ⟨fun hpos => ?_, fun hz => h1 ?_ s (Fr.rf _ _)⟩
  · have hp' : ∀ i, i < M → 1 ≤ pl (f + i) ∧ pl (f + i) ≤ 999 := fun i hi => by have := c5 (f + i) (by omega); omega
    have eN : (nI (H * 1024)).toInt = (H : Int) * 1024 := by rw [nI_toInt (by omega)]; omega
    have esh : ((1 : Int32) <<< (nI M &&& 31)) = nI (2 ^ M) := b_sh (by omega)
    have G : ∀ j r : Nat, r + j = 2 ^ M → 1 ≤ r → ∀ (s1 : hS) (z5 : Value), Fr (fun c _ => c = 129) s s1 → (∀ q, q < r → eqC (fun i => pl (f + i)) M H L (fun k => (rI s1 129 k).toInt) q ∧ 0 ≤ (rI s1 129 q).toInt ∧ (rI s1 129 q).toInt ≤ (H : Int) * 1024) → pgI (d + 2) 140 21 [.ref 125, .int (nI f), .int (nI M), .int (nI (H * 1024)), .int (nI r), z5] [] v s1 K := by
      intro j
      induction j with
      | zero =>
        intro r hr hr1 s1 z5 hf1 hq
        have hr : r = 2 ^ M := by omega
        have ea : (nI (2 ^ M) - 1).toInt = ((2 ^ M - 1 : Nat) : Int) := by rw [i_sub (by rw [nI_toInt (by omega), e1]; omega), nI_toInt (by omega), e1]; omega
        refine st_Hides_fitsFrom_21 ?_
        rw [esh, nI_toInt (show r < 2147483648 by omega), nI_toInt (show 2 ^ M < 2147483648 by omega), ea, Int.toNat_natCast, Int.toNat_natCast, eN]
        have hi := eqC_iff (p := fun i => pl (f + i)) (M := M) (H := H) (L := L) (ρ := fun k => (rI s1 129 k).toInt) hL (fun i hi => (hp' i hi).1) (fun q hq2 => (hq q (by omega)).1) (r := 2 ^ M - 1) (by omega) (by
          have : 2 ^ 1 ≤ 2 ^ M := Nat.pow_le_pow_right (by decide) (by omega)
          omega)
        have hi : (rI s1 129 (2 ^ M - 1)).toInt < (H : Int) * 1024 ↔ _ := hi
        rw [hi]
        exact ⟨fun z => absurd z (by omega), fun _ => ⟨by omega, fun z => h1 z s1 hf1, fun z => h0 z s1 hf1⟩⟩
      | succ j ih =>
        intro r hr hr1 s1 z5 hf1 hq
        have er : (nI r).toInt = r := nI_toInt (by omega)
        have q1 : nI r + 1 = nI (r + 1) := by rw [nI_1]
        have LP : ∀ jj i : Nat, i + jj = M → ∀ s2 : hS, Fr (fun c k => c = 129 ∧ k = r) s1 s2 → mfF (fun i => bhC L H (rI s1 129 (r ^^^ 2 ^ i)).toInt (pl (f + i))) (fun i => !(r.testBit i)) jj i (rI s2 129 r).toInt = mfF (fun i => bhC L H (rI s1 129 (r ^^^ 2 ^ i)).toInt (pl (f + i))) (fun i => !(r.testBit i)) M 0 ((H : Int) * 1024) → (0 ≤ (rI s2 129 r).toInt ∧ (rI s2 129 r).toInt ≤ (H : Int) * 1024) → pgI (d + 2) 140 33 [.ref 125, .int (nI f), .int (nI M), .int (nI (H * 1024)), .int (nI r), .int (nI i)] [] v s2 K := by
          intro jj
          induction jj with
          | zero =>
            intro i hi s2 hf2 hm hb
            refine st_Hides_fitsFrom_33 ?_
            rw [nI_toInt (show i < 2147483648 by omega), nI_toInt (show M < 2147483648 by omega), q1]
            refine ⟨fun z => absurd z (by omega), fun _ => ih (r + 1) (by omega) (by omega) s2 _ (hf1.tr (hf2.mo (fun c k z => z.1))) (fun q hq2 => ?_)⟩
            by_cases cq : q = r
            · subst cq
              refine ⟨?_, hb⟩
              have hm : (rI s2 129 q).toInt = mfF (fun i => bhC L H (rI s1 129 (q ^^^ 2 ^ i)).toInt (pl (f + i))) (fun i => !(q.testBit i)) M 0 ((H : Int) * 1024) := hm
              unfold eqC
              rw [if_neg (by omega)]
              show (rI s2 129 q).toInt = _
              rw [hm]
              refine mfF_cg M 0 _ (fun i _ _ hq => ?_)
              have hb : q.testBit i = true := by
                have hq : (!(q.testBit i)) = false := hq
                cases hh : q.testBit i with
                | true => rfl
                | false => rw [hh] at hq; exact absurd hq (by decide)
              have := (xor_bit hb).2.2.2
              show bhC L H (rI s1 129 (q ^^^ 2 ^ i)).toInt (pl (f + i)) = bhC L H (rI s2 129 (q ^^^ 2 ^ i)).toInt (pl (f + i))
              rw [hf2.i (by omega)]
            · have := hq q (by omega)
              refine ⟨eqC_up this.1 (fun k hk => ?_), by rw [hf2.i (by omega)]; exact this.2⟩
              show (rI s1 129 k).toInt = (rI s2 129 k).toInt
              rw [hf2.i (by omega)]
          | succ jj ihj =>
            intro i hi s2 hf2 hm hb
            have q2 : nI i + 1 = nI (i + 1) := by rw [nI_1]
            have efi : (nI f + nI i).toInt = ((f + i : Nat) : Int) := by rw [nI_add, nI_toInt (by omega)]
            have hff := hf1.tr (hf2.mo (W' := fun c _ => c = 129) (fun c k z => z.1))
            have em : ∀ acc, mfF (fun i => bhC L H (rI s1 129 (r ^^^ 2 ^ i)).toInt (pl (f + i))) (fun i => !(r.testBit i)) (jj + 1) i acc = mfF (fun i => bhC L H (rI s1 129 (r ^^^ 2 ^ i)).toInt (pl (f + i))) (fun i => !(r.testBit i)) jj (i + 1) (if (!(r.testBit i)) = true then acc else mn2 acc (bhC L H (rI s1 129 (r ^^^ 2 ^ i)).toInt (pl (f + i)))) := fun acc => rfl
            rw [em] at hm
            refine st_Hides_fitsFrom_33 ?_
            rw [nI_toInt (show i < 2147483648 by omega), nI_toInt (show M < 2147483648 by omega), b_0 (by omega) (by omega), er, Int.toNat_natCast, efi, Int.toNat_natCast, q2, b_xor (by omega)]
            refine ⟨fun _ => ⟨fun c => ?_, fun c => ⟨by omega, ?_⟩⟩, fun z => absurd (by omega) z⟩
            · rw [if_pos (show (!(r.testBit i)) = true by rw [c]; rfl)] at hm
              exact ihj (i + 1) (by omega) s2 hf2 hm hb
            · have c : r.testBit i = true := by cases hh : r.testBit i with | true => rfl | false => exact absurd hh c
              have lt := (xor_bit c).2.2.2
              rw [if_neg (show ¬ (!(r.testBit i)) = true by rw [c]; decide)] at hm
              rw [nI_toInt (show r ^^^ 2 ^ i < 2147483648 by omega), Int.toNat_natCast]
              have hp5 := c5 (f + i) (by omega)
              have hso := (hq (r ^^^ 2 ^ i) (by omega)).2
              have e5 : rI s2 129 (r ^^^ 2 ^ i) = rI s1 129 (r ^^^ 2 ^ i) := hf2.i (by omega)
              have e6 : rI s2 127 (f + i) = rI s 127 (f + i) := hff.i (by omega)
              have hbb := bhC_b (H := H) (L := L) (so := (rI s1 129 (r ^^^ 2 ^ i)).toInt) (p := pl (f + i)) hL hso (by omega)
              refine ⟨by omega, by omega, sp_behind (so := (rI s1 129 (r ^^^ 2 ^ i)).toInt) (p := pl (f + i)) (cHi_fr hC hff (by omega) (fun k => by omega)) (lfC_fr hlf hff (fun k => by omega)) hL (by rw [e5]) hso (by rw [e6]; exact hp5.1) (by omega) (fun w hw => ?_)⟩
              have ST : ∀ w4 : Int32, w4.toInt = mn2 (rI s2 129 r).toInt (bhC L H (rI s1 129 (r ^^^ 2 ^ i)).toInt (pl (f + i))) → (0 ≤ (r : Int) ∧ (r : Int) < 256) ∧ pgI (d + 2) 140 33 [.ref 125, .int (nI f), .int (nI M), .int (nI (H * 1024)), .int (nI r), .int (nI (i + 1))] [] v (sI s2 129 r w4) K := fun w4 hw4 => by
                refine ⟨by omega, ihj (i + 1) (by omega) _ (hf2.sI ⟨rfl, rfl⟩) ?_ ?_⟩
                · rw [r_II, if_pos ⟨rfl, rfl⟩, hw4]; exact hm
                · rw [r_II, if_pos ⟨rfl, rfl⟩, hw4]; unfold mn2; split <;> omega
              refine st_Math_min ⟨fun c2 => ST _ ?_, fun c2 => ST _ ?_⟩
              · rw [hw] at c2 ⊢; rw [mn2, if_pos c2]
              · rw [hw] at c2; rw [mn2, if_neg c2]
        refine st_Hides_fitsFrom_21 ?_
        rw [esh, er, nI_toInt (show 2 ^ M < 2147483648 by omega), Int.toNat_natCast]
        refine ⟨fun _ => ⟨by omega, LP M 0 (by omega) _ ((Fr.rf _ s1).sI ⟨rfl, rfl⟩) ?_ ?_⟩, fun z => absurd (by omega) z⟩
        · rw [r_II, if_pos ⟨rfl, rfl⟩, eN]
        · rw [r_II, if_pos ⟨rfl, rfl⟩, eN]; omega
    refine G (2 ^ M - 1) 1 (by omega) (Nat.le_refl _) _ _ ((Fr.rf _ s).sI rfl) (fun q hq => ?_)
    have hq : q = 0 := by omega
    subst hq
    have ez : (rI (sI s 129 0 0) 129 0).toInt = 0 := by rw [r_II, if_pos ⟨rfl, rfl⟩]; rfl
    refine ⟨?_, by rw [ez]; omega⟩
    unfold eqC
    rw [if_pos rfl]; exact ez
  · have hM0 : M = 0 := by omega
    rw [hM0]
    exact feC_up (fun g => (hL g).1) (show feC (fun i => pl (f + i)) 0 L 0 (2 ^ 0 - 1) from rfl) H (Nat.zero_le _)
theorem sp_suffices (hC : cHi hl pl H P s) {S : Nat} (hSb : S < 2 ^ H) {K : Int32 → hS → Prop} (h1 : okC hl pl H P S → ∀ s2, Fr (fun c _ => c = 128 ∨ c = 129) s s2 → lfC H (lsC hl S) s2 → K 1 s2) (h0 : ¬ okC hl pl H P S → ∀ s2, Fr (fun c _ => c = 128 ∨ c = 129) s s2 → K 0 s2) : pcI (d + 3) 139 [.ref 125, .int (nI S)] v s K := by
  obtain ⟨⟨hH, hP8⟩, c2, c3, c4, c5⟩ := hC
  have hC : cHi hl pl H P s := ⟨⟨hH, hP8⟩, c2, c3, c4, c5⟩
  have hpw := pw8 hH
  have hLb := lsC_b (hl := hl) (fun g hg => (c4 g hg).2) hSb
  have G : ∀ j i : Nat, i + j = H → ∀ s1 : hS, Fr (fun c _ => c = 128) s s1 → (∀ g, g < i → (rI s1 128 g).toInt = lsC hl S g) → pgI (d + 3) 139 2 [.ref 125, .int (nI S), .int (nI i)] [] v s1 K := by
    intro j
    induction j with
    | zero =>
      intro i hi s1 hf hq
      have F1 : Fr (fun c _ => c = 128 ∨ c = 129) s s1 := hf.mo (fun c k z => Or.inl z)
      refine st_Hides_suffices_2 ?_
      rw [hf.i (show ¬ (125 : Nat) = 128 by decide), c2, nI_toInt (show i < 2147483648 by omega), nI_toInt (show H < 2147483648 by omega)]
      have hlf : lfC H (lsC hl S) s1 := fun g hg => hq g (by omega)
      refine ⟨fun z => absurd z (by omega), fun _ => sp_fitsFrom (f := 0) (cHi_fr hC hf (by omega) (fun k => by omega)) hlf hLb (Nat.zero_le _) (fun hfe s2 f2 => ⟨Or.inr rfl, h1 (by unfold okC; rw [← mskC_0]; exact hfe) s2 (F1.tr (f2.mo (fun c k z => Or.inr z))) (lfC_fr hlf f2 (fun k => by omega))⟩) (fun hfe s2 f2 => ⟨Or.inl rfl, h0 (fun z => hfe (by unfold okC at z; rw [mskC_0]; exact z)) s2 (F1.tr (f2.mo (fun c k z => Or.inr z)))⟩)⟩
    | succ j ih =>
      intro i hi s1 hf hq
      have q1 : nI i + 1 = nI (i + 1) := by rw [nI_1]
      have e6 : rI s1 126 i = rI s 126 i := hf.i (by omega)
      refine st_Hides_suffices_2 ?_
      rw [hf.i (show ¬ (125 : Nat) = 128 by decide), c2, nI_toInt (show i < 2147483648 by omega), nI_toInt (show H < 2147483648 by omega), b_0 (by omega) (by omega), Int.toNat_natCast, q1, e6]
      have NX : ∀ w : Int32, w.toInt = lsC hl S i → pgI (d + 3) 139 2 [.ref 125, .int (nI S), .int (nI (i + 1))] [] v (sI s1 128 i w) K := fun w hw => by
        refine ih (i + 1) (by omega) _ (hf.sI rfl) (fun g hg => ?_)
        rw [r_II]
        by_cases cg : g = i
        · rw [if_pos ⟨rfl, cg⟩, cg]; exact hw
        · rw [if_neg (fun z => cg z.2)]; exact hq g (by omega)
      refine ⟨fun _ => ⟨fun c => ⟨by omega, NX 0 (by unfold lsC; rw [c]; rfl)⟩, fun c => ⟨by omega, by omega, NX _ ?_⟩⟩, fun z => absurd (by omega) z⟩
      have c : S.testBit i = true := by cases hh : S.testBit i with | true => rfl | false => exact absurd hh c
      rw [(c4 i (by omega)).1]; unfold lsC; rw [if_pos c]
  exact st_Hides_suffices (G H 0 (by omega) s (Fr.rf _ _) (fun g hg => absurd hg (Nat.not_lt_zero g)))
theorem lnC_b (hh : ∀ g, g < H → 1 ≤ hl g ∧ hl g ≤ 999) (S : Nat) : ∀ n, n ≤ H → 0 ≤ lnC hl n S ∧ lnC hl n S ≤ 999 * n := by
  intro n
  induction n with
  | zero => intro _; exact ⟨Int.le_refl _, Int.le_refl _⟩
  | succ n ih =>
    intro hn
    have := ih (by omega)
    have := hh n (by omega)
    unfold lnC at *
    show 0 ≤ smS _ n + (if S.testBit n = true then hl n else 0) ∧ smS _ n + (if S.testBit n = true then hl n else 0) ≤ 999 * ((n + 1 : Nat) : Int)
    split <;> omega
theorem sp_lengthOf (hC : cHi hl pl H P s) {S : Nat} (hSb : S < 2 ^ H) {K : Int32 → hS → Prop} (hK : ∀ w : Int32, w.toInt = lnC hl H S → K w s) : pcI d 142 [.ref 125, .int (nI S)] v s K := by
  obtain ⟨⟨hH, hP8⟩, c2, c3, c4, c5⟩ := hC
  have hpw := pw8 hH
  have hb := lnC_b (fun g hg => (c4 g hg).2) S
  have G : ∀ j i : Nat, i + j = H → ∀ x2 : Int32, x2.toInt = lnC hl i S → pgI d 142 4 [.ref 125, .int (nI S), .int x2, .int (nI i)] [] v s K := by
    intro j
    induction j with
    | zero =>
      intro i hi x2 h2
      refine st_Hides_lengthOf_4 ?_
      rw [c2, nI_toInt (show i < 2147483648 by omega), nI_toInt (show H < 2147483648 by omega)]
      exact ⟨fun z => absurd z (by omega), fun _ => hK x2 (by rw [h2, show i = H by omega])⟩
    | succ j ih =>
      intro i hi x2 h2
      have q1 : nI i + 1 = nI (i + 1) := by rw [nI_1]
      have e : lnC hl (i + 1) S = lnC hl i S + (if S.testBit i = true then hl i else 0) := rfl
      have c4i := c4 i (by omega)
      have hbi := hb i (by omega)
      refine st_Hides_lengthOf_4 ?_
      rw [c2, nI_toInt (show i < 2147483648 by omega), nI_toInt (show H < 2147483648 by omega), b_0 (by omega) (by omega), Int.toNat_natCast, q1]
      refine ⟨fun _ => ⟨fun c => ih (i + 1) (by omega) _ ?_, fun c => ⟨by omega, ih (i + 1) (by omega) _ ?_⟩⟩, fun z => absurd (by omega) z⟩
      · rw [i_a0, h2, e, c, if_neg (by decide)]; omega
      · have c : S.testBit i = true := by cases hh : S.testBit i with | true => rfl | false => exact absurd hh c
        rw [i_add (by omega), h2, c4i.1, e, if_pos c]
  exact st_Hides_lengthOf (G H 0 (by omega) 0 rfl)
end
