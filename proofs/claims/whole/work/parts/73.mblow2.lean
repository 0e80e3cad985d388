/-! A MINUTE, in the reference: blow -/
def upS (r : Nat → Int64) (c : Nat) (B L : Int64) (k j : Nat) : Int64 := if j < k then upR r c B L j else if j = k then (if k = 0 then r 0 else r k + upG r c B L (k - 1)) else r j
/-- both rows by one, the others as given -/
def twoU (p q : Nat → Int64) (W : Nat → Int64) (i : Nat) : Int64 := if i < 8 then p i else if i < 16 then q (i - 8) else W i
def blW (T : Nat → Int) (W : Nat → Int64) (i : Nat) : Int64 := if i < 8 then flR T (drW T W) (fun k => W k) i else if i < 16 then flR T (drW T W) (fun k => W (8 + k)) (i - 8) else if i = 18 then W 18 + flO T (drW T W) (fun k => W k) else if i = 20 then W 20 + flO T (drW T W) (fun k => W (8 + k)) else W i
theorem mVec_congr {X : Nat} {s : hS} {U U2 : Nat → Int64} (h : mVec X s U) (e : ∀ i, i < 29 → U i = U2 i) : mVec X s U2 := fun i hi => by rw [h i hi, e i hi]
theorem stU_t (U : Nat → Int64) (f t : Nat) (y : Int64) {i : Nat} (h : i = t) : stU U f t y i = U t + y := by unfold stU; rw [if_pos h]
theorem stU_f (U : Nat → Int64) (f t : Nat) (y : Int64) {i : Nat} (h : i ≠ t) (h2 : i = f) : stU U f t y i = U f - y := by unfold stU; rw [if_neg h, if_pos h2]
theorem stU_n (U : Nat → Int64) (f t : Nat) (y : Int64) {i : Nat} (h : i ≠ t) (h2 : i ≠ f) : stU U f t y i = U i := by unfold stU; rw [if_neg h, if_neg h2]
/-- how one step of both rows looks -/
theorem two_st {p q p2 q2 W : Nat → Int64} {f t : Nat} {y z : Int64} (hf : f < 8) (ht : t < 8) (hft : f ≠ t) (hp : ∀ j, j < 8 → p2 j = if j = t then p t + y else if j = f then p f - y else p j) (hq : ∀ j, j < 8 → q2 j = if j = t then q t + z else if j = f then q f - z else q j) : ∀ i, i < 29 → stU (stU (twoU p q W) f (8 * 0 + t) y) (8 + f) (8 * 1 + t) z i = twoU p2 q2 W i := by
  intro i hi
  have tp : ∀ {p q : Nat → Int64} (i : Nat), i < 8 → twoU p q W i = p i := fun i h => if_pos h
  have tq : ∀ {p q : Nat → Int64} (j : Nat), j < 8 → twoU p q W (8 + j) = q j := fun j h => by unfold twoU; rw [if_neg (show ¬ 8 + j < 8 by omega), if_pos (show 8 + j < 16 by omega), Nat.add_sub_cancel_left]
  have tw : ∀ {p q : Nat → Int64} (i : Nat), ¬ i < 16 → twoU p q W i = W i := fun i h => by unfold twoU; rw [if_neg (show ¬ i < 8 by omega), if_neg h]
  by_cases c : i < 8
  · rw [stU_n _ _ _ _ (show i ≠ 8 * 1 + t by omega) (show i ≠ 8 + f by omega), tp i c, hp i c]
    by_cases a : i = t
    · rw [if_pos a, stU_t _ _ _ _ (show i = 8 * 0 + t by omega), show 8 * 0 + t = t by omega, tp t ht]
    · rw [if_neg a]
      by_cases b : i = f
      · rw [if_pos b, stU_f _ _ _ _ (show i ≠ 8 * 0 + t by omega) b, tp f hf]
      · rw [if_neg b, stU_n _ _ _ _ (show i ≠ 8 * 0 + t by omega) b, tp i c]
  · by_cases c2 : i < 16
    · obtain ⟨j, hj, rfl⟩ : ∃ j, j < 8 ∧ i = 8 + j := ⟨i - 8, by omega, by omega⟩
      rw [tq j hj, hq j hj]
      by_cases a : j = t
      · rw [if_pos a, stU_t _ _ _ _ (show 8 + j = 8 * 1 + t by omega), stU_n _ _ _ _ (show 8 * 1 + t ≠ 8 * 0 + t by omega) (show 8 * 1 + t ≠ f by omega), show 8 * 1 + t = 8 + t by omega, tq t ht]
      · rw [if_neg a]
        by_cases b : j = f
        · rw [if_pos b, stU_f _ _ _ _ (show 8 + j ≠ 8 * 1 + t by omega) (show 8 + j = 8 + f by omega), stU_n _ _ _ _ (show 8 + f ≠ 8 * 0 + t by omega) (show 8 + f ≠ f by omega), tq f hf]
        · rw [if_neg b, stU_n _ _ _ _ (show 8 + j ≠ 8 * 1 + t by omega) (show 8 + j ≠ 8 + f by omega), stU_n _ _ _ _ (show 8 + j ≠ 8 * 0 + t by omega) (show 8 + j ≠ f by omega), tq j hj]
    · rw [stU_n _ _ _ _ (show i ≠ 8 * 1 + t by omega) (show i ≠ 8 + f by omega), stU_n _ _ _ _ (show i ≠ 8 * 0 + t by omega) (show i ≠ f by omega), tw i c2, tw i c2]
theorem up_st {r : Nat → Int64} {c k : Nat} {B L : Int64} (hk : k < 7) : ∀ j, j < 8 → upS r c B L (k + 1) j = if j = k + 1 then upS r c B L k (k + 1) + upG r c B L k else if j = k then upS r c B L k k - upG r c B L k else upS r c B L k j := by
  intro j hj
  have e1 : upS r c B L k (k + 1) = r (k + 1) := by unfold upS; rw [if_neg (by omega), if_neg (by omega)]
  have e2 : upS r c B L k k = if k = 0 then r 0 else r k + upG r c B L (k - 1) := by unfold upS; rw [if_neg (by omega), if_pos rfl]
  rw [e1, e2]
  by_cases a : j = k + 1
  · rw [if_pos a]
    unfold upS
    rw [if_neg (show ¬ j < k + 1 by omega), if_pos a, if_neg (by omega), Nat.add_sub_cancel]
  · rw [if_neg a]
    by_cases b : j = k
    · rw [if_pos b]
      have e : upS r c B L (k + 1) j = upR r c B L j := by unfold upS; rw [if_pos (by omega)]
      rw [e, b]; unfold upR
      by_cases c0 : k = 0
      · rw [if_pos c0, if_pos c0, c0]
      · rw [if_neg c0, if_neg c0, ac1]
    · rw [if_neg b]
      unfold upS
      by_cases c0 : j < k
      · rw [if_pos (show j < k + 1 by omega), if_pos c0]
      · rw [if_neg (show ¬ j < k + 1 by omega), if_neg a, if_neg c0, if_neg b]
theorem dn_st {r : Nat → Int64} {c k : Nat} {B L : Int64} (hk : k < 7) : ∀ j, j < 8 → dnS r c B L (k + 1) j = if j = k then dnS r c B L k k + dnG r c B L k else if j = k + 1 then dnS r c B L k (k + 1) - dnG r c B L k else dnS r c B L k j := by
  intro j hj
  have e1 : dnS r c B L k (k + 1) = r (k + 1) := by unfold dnS; rw [if_neg (by omega), if_neg (by omega)]
  have e2 : dnS r c B L k k = if k = 0 then r k else r k - dnG r c B L (k - 1) := by
    unfold dnS; rw [if_neg (by omega)]
    by_cases c0 : k = 0
    · rw [if_neg (by omega), if_pos c0]
    · rw [if_pos ⟨rfl, c0⟩, if_neg c0]
  rw [e1, e2]
  by_cases b : j = k
  · rw [if_pos b]
    have e : dnS r c B L (k + 1) j = if j = 0 then r 0 + dnG r c B L 0 else r j - dnG r c B L (j - 1) + dnG r c B L j := by unfold dnS; rw [if_pos (show j < k + 1 by omega)]
    rw [e, b]
    by_cases c0 : k = 0
    · rw [if_pos c0, if_pos c0, c0]
    · rw [if_neg c0, if_neg c0]
  · rw [if_neg b]
    by_cases a : j = k + 1
    · rw [if_pos a]; unfold dnS
      rw [if_neg (show ¬ j < k + 1 by omega), if_pos ⟨a, by omega⟩, a, Nat.add_sub_cancel]
    · rw [if_neg a]; unfold dnS
      by_cases c0 : j < k
      · rw [if_pos (show j < k + 1 by omega), if_pos c0]
      · rw [if_neg (show ¬ j < k + 1 by omega), if_neg (by omega), if_neg c0, if_neg (by omega)]
/-- what goes out, of both rows -/
theorem out_st {p q p2 q2 W W2 : Nat → Int64} {f : Nat} {y z : Int64} (hf : f < 8) (hp : ∀ j, j < 8 → p2 j = if j = f then p f - y else p j) (hq : ∀ j, j < 8 → q2 j = if j = f then q f - z else q j) (hW : ∀ i, i < 29 → 16 ≤ i → W2 i = if i = 18 then W 18 + y else if i = 20 then W 20 + z else W i) : ∀ i, i < 29 → stU (stU (twoU p q W) f (18 + 2 * 0) y) (8 + f) (18 + 2 * 1) z i = twoU p2 q2 W2 i := by
  intro i hi
  have tp : ∀ {p q W : Nat → Int64} (i : Nat), i < 8 → twoU p q W i = p i := fun i h => if_pos h
  have tq : ∀ {p q W : Nat → Int64} (j : Nat), j < 8 → twoU p q W (8 + j) = q j := fun j h => by unfold twoU; rw [if_neg (show ¬ 8 + j < 8 by omega), if_pos (show 8 + j < 16 by omega), Nat.add_sub_cancel_left]
  have tw : ∀ {p q W : Nat → Int64} (i : Nat), ¬ i < 16 → twoU p q W i = W i := fun i h => by unfold twoU; rw [if_neg (show ¬ i < 8 by omega), if_neg h]
  by_cases c : i < 8
  · rw [stU_n _ _ _ _ (show i ≠ 18 + 2 * 1 by omega) (show i ≠ 8 + f by omega), tp i c, hp i c]
    by_cases b : i = f
    · rw [if_pos b, stU_f _ _ _ _ (show i ≠ 18 + 2 * 0 by omega) b, tp f hf]
    · rw [if_neg b, stU_n _ _ _ _ (show i ≠ 18 + 2 * 0 by omega) b, tp i c]
  · by_cases c2 : i < 16
    · obtain ⟨j, hj, rfl⟩ : ∃ j, j < 8 ∧ i = 8 + j := ⟨i - 8, by omega, by omega⟩
      rw [tq j hj, hq j hj]
      by_cases b : j = f
      · rw [if_pos b, stU_f _ _ _ _ (show 8 + j ≠ 18 + 2 * 1 by omega) (show 8 + j = 8 + f by omega), stU_n _ _ _ _ (show 8 + f ≠ 18 + 2 * 0 by omega) (show 8 + f ≠ f by omega), tq f hf]
      · rw [if_neg b, stU_n _ _ _ _ (show 8 + j ≠ 18 + 2 * 1 by omega) (show 8 + j ≠ 8 + f by omega), stU_n _ _ _ _ (show 8 + j ≠ 18 + 2 * 0 by omega) (show 8 + j ≠ f by omega), tq j hj]
    · rw [tw i c2, hW i hi (by omega)]
      by_cases a : i = 18
      · rw [if_pos a, stU_n _ _ _ _ (show i ≠ 18 + 2 * 1 by omega) (show i ≠ 8 + f by omega), stU_t _ _ _ _ (show i = 18 + 2 * 0 by omega), show 18 + 2 * 0 = 18 from rfl, tw 18 (by decide)]
      · rw [if_neg a]
        by_cases b : i = 20
        · rw [if_pos b, stU_t _ _ _ _ (show i = 18 + 2 * 1 by omega), stU_n _ _ _ _ (show 18 + 2 * 1 ≠ 18 + 2 * 0 by omega) (show 18 + 2 * 1 ≠ f by omega), show 18 + 2 * 1 = 20 from rfl, tw 20 (by decide)]
        · rw [if_neg b, stU_n _ _ _ _ (show i ≠ 18 + 2 * 1 by omega) (show i ≠ 8 + f by omega), stU_n _ _ _ _ (show i ≠ 18 + 2 * 0 by omega) (show i ≠ f by omega), tw i c2]
