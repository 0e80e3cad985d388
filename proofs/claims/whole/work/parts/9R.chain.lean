/-! LEAST TIME: the class's way, act by act -/
def stA (a rd lo hi : Int) : Int := if a = 1 then mx2 rd lo else mx2 rd hi
def loA (a e hi : Int) : Int := if a = 1 then mn2 e hi else e
def hiA (a e hi : Int) : Int := if a = 1 then mx2 e hi else e
section
variable (N : Nat) (m a : Nat → Int) (af : Nat → Nat)
def chR : Nat → Nat → Int → Int → Int → (Nat → Int) → Int → Prop
  | 0, _, _, hi, _, _, hf => hf = hi
  | j + 1, S, lo, hi, last, E, hf => ∃ k, k < N ∧ S.testBit k = false ∧ subB (af k) S ∧ last ≤ stA (a k) (rdA (af k) E k) lo hi ∧ chR j (S ||| 2 ^ k) (loA (a k) (stA (a k) (rdA (af k) E k) lo hi + m k) hi) (hiA (a k) (stA (a k) (rdA (af k) E k) lo hi + m k) hi) (stA (a k) (rdA (af k) E k) lo hi) (upL E k (stA (a k) (rdA (af k) E k) lo hi + m k)) hf
end
section
variable {N : Nat} {m a : Nat → Int} {af : Nat → Nat}
theorem or_bit {S k q : Nat} : (S ||| 2 ^ k).testBit q = (if q = k then true else S.testBit q) := by
  rw [Nat.testBit_or]
  by_cases c : q = k
  · rw [c, Nat.testBit_two_pow_self, Bool.or_true, if_pos rfl]
  · rw [Nat.testBit_two_pow_of_ne (fun z => c z.symm), Bool.or_false, if_neg c]
theorem orS_lt {S k N : Nat} (hSb : S < 2 ^ N) (hk : k < N) : S ||| 2 ^ k < 2 ^ N := Nat.or_lt_two_pow hSb (Nat.pow_lt_pow_right (by decide) hk)
theorem upL_at {L : Nat → Int} {h : Nat} {y : Int} : upL L h y h = y := by unfold upL; rw [if_pos rfl]
theorem upL_ne {L : Nat → Int} {h g : Nat} {y : Int} (hg : g ≠ h) : upL L h y g = L g := by unfold upL; rw [if_neg hg]
/-- a schedule in which no act can begin earlier is one of the class's ways -/
theorem chR_ex (ok : okT2 N m a af) {b : Nat → Int} {z : Int} (hm : smin N m a af b z) : ∀ (j S : Nat) (lo hi last : Int) (E : Nat → Int), S < 2 ^ N → cntS N S + j = N → (∀ i, i < N → S.testBit i = true → E i = b i + m i) → (∀ k, k < N → S.testBit k = false → last ≤ b k) → ((∀ t, lo ≤ t → bzS N m a b S t ≤ 1) ∧ ∀ t, hi ≤ t → bzS N m a b S t ≤ 0) → (∀ t, last ≤ t → (t < lo → 2 ≤ bzS N m a b S t) ∧ (t < hi → 1 ≤ bzS N m a b S t)) → hi ≤ z → lo ≤ hi → ∃ hf, hf ≤ z ∧ chR N m a af j S lo hi last E hf := by
  intro j
  induction j with
  | zero => intro S lo hi last E _ _ _ _ _ _ hz _; exact ⟨hi, hz, rfl⟩
  | succ j ih =>
    intro S lo hi last E hSb hc hE hl hu hd hz hlh
    obtain ⟨⟨f1, f2, f3⟩, ⟨z0, z1⟩, _⟩ := id hm
    obtain ⟨k, hk, hb, hkm⟩ := next_ex (b := b) (cntS_lt hSb (by omega))
    have mk := ok.2 k hk
    have inS : ∀ i, (af k).testBit i = true → i < k ∧ S.testBit i = true := fun i hi => by
      have hik : i < k := Nat.lt_of_not_le (fun z => by
        rw [Nat.testBit_lt_two_pow (Nat.lt_of_lt_of_le mk.2.2.2 (Nat.pow_le_pow_right (by decide) z))] at hi; exact absurd hi (by decide))
      refine ⟨hik, ?_⟩
      cases hq : S.testBit i with
      | true => rfl
      | false =>
        have := hkm i (by omega) hq
        have := f2 k hk i (by omega) hi
        have := (ok.2 i (by omega)).1
        omega
    have hb0 := f1 k hk
    have hrd : rdA (af k) E k ≤ b k := rdA_le hb0 k (fun i hik hi => by
      rw [hE i (by omega) (inS i hi).2]; exact f2 k hk i (by omega) hi)
    have hrn := rdA_nn (af k) E k
    have hrg : ∀ i, i < N → (af k).testBit i = true → b i + m i ≤ rdA (af k) E k := fun i hi hib => by
      rw [← hE i hi (inS i hib).2]; exact rdA_ge k i (inS i hib).1 hib
    have hlk := hl k hk hb
    have atk : bzA m a b (b k) k = a k := by unfold bzA; rw [if_pos ⟨Int.le_refl _, by omega⟩]
    have cap : bzS N m a b S (b k) + a k ≤ 2 := by
      have h1 := bzS_le ok b (S ||| 2 ^ k) (b k)
      rw [bzS_up hk hb, atk] at h1
      have := f3 (b k)
      omega
    have hdk := hd (b k) hlk
    have hlo : lo ≤ b k := Int.not_lt.mp (fun c => by have := hdk.1 c; have := mk.2.2.1; omega)
    have hhi : a k = 2 → hi ≤ b k := fun c2 => Int.not_lt.mp (fun c => by have := hdk.2 c; omega)
    have hle : stA (a k) (rdA (af k) E k) lo hi ≤ b k ∧ rdA (af k) E k ≤ stA (a k) (rdA (af k) E k) lo hi ∧ (a k = 1 → lo ≤ stA (a k) (rdA (af k) E k) lo hi) ∧ (a k = 2 → hi ≤ stA (a k) (rdA (af k) E k) lo hi) := by
      unfold stA mx2
      rcases mk.2.2.1 with c | c
      · rw [if_pos c]; split <;> omega
      · have := hhi c
        rw [if_neg (by omega)]; split <;> omega
    have heq : stA (a k) (rdA (af k) E k) lo hi = b k := by
      refine Classical.byContradiction (fun hn => ?_)
      refine smin_no ok hm hk (s := b k - 1) (by omega) (by omega) (fun i hi hib => by have := hrg i hi hib; omega) (fun t t1 t2 _ => ?_)
      have ht : t = b k - 1 := by omega
      rw [bzS_eq (S := S) (fun q hq hqb => by have := hkm q hq hqb; omega)]
      rcases mk.2.2.1 with c | c
      · have := hu.1 t (by have := hle.2.2.1 c; omega); omega
      · have := hu.2 t (by have := hle.2.2.2 c; omega); omega
    have hzk := z1 k hk
    have hbA : ∀ t, 0 ≤ bzA m a b t k ∧ bzA m a b t k ≤ a k ∧ (b k + m k ≤ t → bzA m a b t k = 0) ∧ (b k ≤ t → t < b k + m k → bzA m a b t k = a k) := fun t => by
      have := mk.2.2.1
      unfold bzA
      split <;> omega
    have hnn : ∀ t, 0 ≤ bzS N m a b S t := fun t => smS_nn N (fun q hq => by
      show 0 ≤ if S.testBit q = true then bzA m a b t q else 0
      have := bzA_b (b := b) (t := t) ok hq
      split <;> omega)
    have HH := ih (S ||| 2 ^ k) (loA (a k) (b k + m k) hi) (hiA (a k) (b k + m k) hi) (b k) (upL E k (b k + m k)) (orS_lt hSb hk) (by rw [cntS_up hk hb]; omega) (fun i hi hib => ?_) (fun q hq hqb => ?_) ⟨fun t ht => ?_, fun t ht => ?_⟩ (fun t ht => ?_) ?_ ?_
    · obtain ⟨hf, h1, h2⟩ := HH
      refine ⟨hf, h1, k, hk, hb, fun i hi => (inS i hi).2, ?_, ?_⟩
      · rw [heq]; exact hlk
      · rw [heq]; exact h2
    · by_cases c : i = k
      · rw [c, upL_at]
      · rw [upL_ne c]
        rw [or_bit, if_neg c] at hib
        exact hE i hi hib
    · rw [or_bit] at hqb
      by_cases c : q = k
      · rw [if_pos c] at hqb; exact absurd hqb (by decide)
      · rw [if_neg c] at hqb; exact hkm q hq hqb
    · rw [bzS_up hk hb]
      have h3 := hbA t
      unfold loA mn2 at ht
      rcases mk.2.2.1 with c | c
      · rw [if_pos c] at ht
        by_cases c2 : hi < b k + m k
        · rw [if_pos c2] at ht
          have := hu.2 t ht; omega
        · rw [if_neg c2] at ht
          have := hu.1 t (by omega)
          have := h3.2.2.1 ht; omega
      · rw [if_neg (by omega)] at ht
        have := hu.2 t (by have := hhi c; omega)
        have := h3.2.2.1 ht; omega
    · rw [bzS_up hk hb]
      have h3 := hbA t
      unfold hiA mx2 at ht
      rcases mk.2.2.1 with c | c
      · rw [if_pos c] at ht
        have hte : b k + m k ≤ t ∧ hi ≤ t := by split at ht <;> omega
        have := hu.2 t hte.2
        have := h3.2.2.1 hte.1; omega
      · rw [if_neg (by omega)] at ht
        have := hu.2 t (by have := hhi c; omega)
        have := h3.2.2.1 ht; omega
    · rw [bzS_up hk hb]
      have h3 := hbA t
      have h4 := hnn t
      have h5 := hd t (by omega)
      unfold loA hiA mn2 mx2
      rcases mk.2.2.1 with c | c
      · rw [if_pos c, if_pos c]
        refine ⟨fun hx => ?_, fun hx => ?_⟩
        · have hte : t < b k + m k ∧ t < hi := by split at hx <;> omega
          have := h5.2 hte.2
          have := h3.2.2.2 ht hte.1
          omega
        · by_cases c2 : t < b k + m k
          · have := h3.2.2.2 ht c2; omega
          · have : t < hi := by split at hx <;> omega
            have := h5.2 this; omega
      · rw [if_neg (by omega), if_neg (by omega)]
        refine ⟨fun ht2 => ?_, fun ht2 => ?_⟩
        · have := h3.2.2.2 ht ht2; omega
        · have := h3.2.2.2 ht ht2; omega
    · unfold hiA mx2
      split
      · split <;> omega
      · exact hzk
    · unfold loA hiA mn2 mx2
      split
      · split <;> split <;> omega
      · exact Int.le_refl _
theorem bzS_cg {b b2 : Nat → Int} {S : Nat} {t : Int} (h : ∀ i, i < N → S.testBit i = true → b i = b2 i) : bzS N m a b S t = bzS N m a b2 S t := smS_cg N (fun k hk => by
  show (if S.testBit k = true then bzA m a b t k else 0) = if S.testBit k = true then bzA m a b2 t k else 0
  by_cases c : S.testBit k = true
  · rw [if_pos c, if_pos c]; unfold bzA; rw [h k hk c]
  · rw [if_neg c, if_neg c])
/-- each way of the class is a schedule -/
theorem chR_fea (ok : okT2 N m a af) : ∀ (j S : Nat) (lo hi last : Int) (E : Nat → Int) (hf : Int), chR N m a af j S lo hi last E hf → S < 2 ^ N → cntS N S + j = N → (∀ i, i < N → S.testBit i = true → 0 ≤ E i - m i ∧ E i ≤ hi) → (∀ k, k < N → S.testBit k = true → ∀ i, i < N → (af k).testBit i = true → S.testBit i = true ∧ E i ≤ E k - m k) → (∀ t, bzS N m a (fun i => E i - m i) S t ≤ 2) → ((∀ t, lo ≤ t → bzS N m a (fun i => E i - m i) S t ≤ 1) ∧ ∀ t, hi ≤ t → bzS N m a (fun i => E i - m i) S t ≤ 0) → 0 ≤ lo → lo ≤ hi → (∃ b, fea N m a af b ∧ mkz N m b hf) ∧ hi ≤ hf := by
  intro j
  induction j with
  | zero =>
    intro S lo hi last E hf hch hSb hc hE hp h2 hu h0 hlh
    have hch : hf = hi := hch
    have hall := cntS_eq hSb (show cntS N S = N by omega)
    refine ⟨⟨fun i => E i - m i, ⟨fun k hk => (hE k hk (hall k hk)).1, fun k hk i hi hib => ?_, fun t => ?_⟩, by omega, fun k hk => ?_⟩, by omega⟩
    · have := (hp k hk (hall k hk) i hi hib).2
      show E i - m i + m i ≤ E k - m k
      omega
    · rw [bzS_eq (S := S) (fun k hk hkb => by rw [hall k hk] at hkb; exact absurd hkb (by decide))]; exact h2 t
    · have := (hE k hk (hall k hk)).2
      show E k - m k + m k ≤ hf
      omega
  | succ j ih =>
    intro S lo hi last E hf ⟨k, hk, hb, hsb, hls, hch⟩ hSb hc hE hp h2 hu h0 hlh
    have mk := ok.2 k hk
    have hrn := rdA_nn (af k) E k
    have hst : rdA (af k) E k ≤ stA (a k) (rdA (af k) E k) lo hi ∧ (a k = 1 → lo ≤ stA (a k) (rdA (af k) E k) lo hi) ∧ (a k = 2 → hi ≤ stA (a k) (rdA (af k) E k) lo hi) := by
      unfold stA mx2
      rcases mk.2.2.1 with c | c
      · rw [if_pos c]; split <;> omega
      · rw [if_neg (by omega)]; split <;> omega
    have hlt : ∀ i, (af k).testBit i = true → i < k := fun i hi => Nat.lt_of_not_le (fun z => by
      rw [Nat.testBit_lt_two_pow (Nat.lt_of_lt_of_le mk.2.2.2 (Nat.pow_le_pow_right (by decide) z))] at hi; exact absurd hi (by decide))
    have hrg : ∀ i, (af k).testBit i = true → E i ≤ rdA (af k) E k := fun i hib => rdA_ge k i (hlt i hib) hib
    generalize hs : stA (a k) (rdA (af k) E k) lo hi = st at *
    have ebs : ∀ t, bzS N m a (fun i => upL E k (st + m k) i - m i) S t = bzS N m a (fun i => E i - m i) S t := fun t => bzS_cg (fun i hi hib => by
      show upL E k (st + m k) i - m i = E i - m i
      rw [upL_ne (fun z => by rw [z, hb] at hib; exact absurd hib (by decide))])
    have ebA : ∀ t, bzA m a (fun i => upL E k (st + m k) i - m i) t k = if st ≤ t ∧ t < st + m k then a k else 0 := fun t => by
      unfold bzA
      show (if upL E k (st + m k) k - m k ≤ t ∧ t < upL E k (st + m k) k - m k + m k then a k else 0) = _
      rw [upL_at, show st + m k - m k = st by omega]
    have hee : hi ≤ hiA (a k) (st + m k) hi ∧ st + m k ≤ hiA (a k) (st + m k) hi ∧ 0 ≤ loA (a k) (st + m k) hi ∧ loA (a k) (st + m k) hi ≤ hiA (a k) (st + m k) hi := by
      unfold hiA loA mx2 mn2
      rcases mk.2.2.1 with c | c
      · rw [if_pos c, if_pos c]; split <;> split <;> omega
      · have := hst.2.2 c
        rw [if_neg (by omega), if_neg (by omega)]; omega
    have := ih (S ||| 2 ^ k) _ _ _ _ hf hch (orS_lt hSb hk) (by rw [cntS_up hk hb]; omega) (fun i hi hib => ?_) (fun q hq hqb i hi hib => ?_) (fun t => ?_) ⟨fun t ht => ?_, fun t ht => ?_⟩ hee.2.2.1 hee.2.2.2
    · exact ⟨this.1, by omega⟩
    · by_cases c : i = k
      · rw [c, upL_at]; omega
      · rw [upL_ne c]
        rw [or_bit, if_neg c] at hib
        have := hE i hi hib
        omega
    · rw [or_bit] at hqb
      rw [or_bit]
      by_cases c : q = k
      · rw [c] at hib
        have hik := hlt i hib
        rw [c, upL_at, upL_ne (show i ≠ k by omega), if_neg (show ¬ i = k by omega)]
        have := hrg i hib
        exact ⟨hsb i hib, by omega⟩
      · rw [if_neg c] at hqb
        obtain ⟨p1, p2⟩ := hp q hq hqb i hi hib
        have ci : i ≠ k := fun z => by rw [z, hb] at p1; exact absurd p1 (by decide)
        rw [upL_ne c, upL_ne ci, if_neg ci]
        exact ⟨p1, p2⟩
    · rw [bzS_up hk hb, ebs, ebA]
      have := h2 t
      by_cases c2 : st ≤ t ∧ t < st + m k
      · rw [if_pos c2]
        rcases mk.2.2.1 with c | c
        · have := hu.1 t (by have := hst.2.1 c; omega); omega
        · have := hu.2 t (by have := hst.2.2 c; omega); omega
      · rw [if_neg c2]; omega
    · rw [bzS_up hk hb, ebs, ebA]
      unfold loA mn2 at ht
      rcases mk.2.2.1 with c | c
      · rw [if_pos c] at ht
        have := hst.2.1 c
        by_cases c2 : hi < st + m k
        · rw [if_pos c2] at ht
          have := hu.2 t ht
          split <;> omega
        · rw [if_neg c2] at ht
          have := hu.1 t (by omega)
          rw [if_neg (by omega)]; omega
      · rw [if_neg (by omega)] at ht
        have := hu.2 t (by have := hst.2.2 c; omega)
        rw [if_neg (by omega)]; omega
    · rw [bzS_up hk hb, ebs, ebA]
      have hte : st + m k ≤ t ∧ hi ≤ t := by omega
      have := hu.2 t hte.2
      rw [if_neg (by omega)]; omega
end
