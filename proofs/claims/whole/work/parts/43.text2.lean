/-! TEXTS: words and numbers of the class's text -/
section
variable {d : Nat} {v : hV} {s : hS} {B : Nat → Int} {N : Nat}
theorem sp_length (h : pRo s) {j : Nat} (hj : j < 16) {K : Int32 → hS → Prop} (hK : K (nI (wn j)) s) : pcI (d + 1) 25 [.ref (8 + j)] v s K := by
  match j, hj, hK with
  | 0, _, hK =>
    refine st_String_length0 (st_String_coder0 ?_)
    rw [show rI s 8 1 = 0 from h 8 (by decide) (by decide) 1]
    refine ⟨by decide, ?_⟩
    have e : ((5 : Int32) >>> ((0 : Int32) &&& 31)) = nI (wn 0) := by decide +kernel
    show K ((5 : Int32) >>> ((0 : Int32) &&& 31)) s
    rw [e]; exact hK
  | 1, _, hK =>
    refine st_String_length1 (st_String_coder1 ?_)
    rw [show rI s 9 1 = 0 from h 9 (by decide) (by decide) 1]
    refine ⟨by decide, ?_⟩
    have e : ((4 : Int32) >>> ((0 : Int32) &&& 31)) = nI (wn 1) := by decide +kernel
    show K ((4 : Int32) >>> ((0 : Int32) &&& 31)) s
    rw [e]; exact hK
  | 2, _, hK =>
    refine st_String_length2 (st_String_coder2 ?_)
    rw [show rI s 10 1 = 0 from h 10 (by decide) (by decide) 1]
    refine ⟨by decide, ?_⟩
    have e : ((3 : Int32) >>> ((0 : Int32) &&& 31)) = nI (wn 2) := by decide +kernel
    show K ((3 : Int32) >>> ((0 : Int32) &&& 31)) s
    rw [e]; exact hK
  | 3, _, hK =>
    refine st_String_length3 (st_String_coder3 ?_)
    rw [show rI s 11 1 = 0 from h 11 (by decide) (by decide) 1]
    refine ⟨by decide, ?_⟩
    have e : ((4 : Int32) >>> ((0 : Int32) &&& 31)) = nI (wn 3) := by decide +kernel
    show K ((4 : Int32) >>> ((0 : Int32) &&& 31)) s
    rw [e]; exact hK
  | 4, _, hK =>
    refine st_String_length4 (st_String_coder4 ?_)
    rw [show rI s 12 1 = 0 from h 12 (by decide) (by decide) 1]
    refine ⟨by decide, ?_⟩
    have e : ((4 : Int32) >>> ((0 : Int32) &&& 31)) = nI (wn 4) := by decide +kernel
    show K ((4 : Int32) >>> ((0 : Int32) &&& 31)) s
    rw [e]; exact hK
  | 5, _, hK =>
    refine st_String_length5 (st_String_coder5 ?_)
    rw [show rI s 13 1 = 0 from h 13 (by decide) (by decide) 1]
    refine ⟨by decide, ?_⟩
    have e : ((4 : Int32) >>> ((0 : Int32) &&& 31)) = nI (wn 5) := by decide +kernel
    show K ((4 : Int32) >>> ((0 : Int32) &&& 31)) s
    rw [e]; exact hK
  | 6, _, hK =>
    refine st_String_length6 (st_String_coder6 ?_)
    rw [show rI s 14 1 = 0 from h 14 (by decide) (by decide) 1]
    refine ⟨by decide, ?_⟩
    have e : ((5 : Int32) >>> ((0 : Int32) &&& 31)) = nI (wn 6) := by decide +kernel
    show K ((5 : Int32) >>> ((0 : Int32) &&& 31)) s
    rw [e]; exact hK
  | 7, _, hK =>
    refine st_String_length7 (st_String_coder7 ?_)
    rw [show rI s 15 1 = 0 from h 15 (by decide) (by decide) 1]
    refine ⟨by decide, ?_⟩
    have e : ((4 : Int32) >>> ((0 : Int32) &&& 31)) = nI (wn 7) := by decide +kernel
    show K ((4 : Int32) >>> ((0 : Int32) &&& 31)) s
    rw [e]; exact hK
  | 8, _, hK =>
    refine st_String_length8 (st_String_coder8 ?_)
    rw [show rI s 16 1 = 0 from h 16 (by decide) (by decide) 1]
    refine ⟨by decide, ?_⟩
    have e : ((4 : Int32) >>> ((0 : Int32) &&& 31)) = nI (wn 8) := by decide +kernel
    show K ((4 : Int32) >>> ((0 : Int32) &&& 31)) s
    rw [e]; exact hK
  | 9, _, hK =>
    refine st_String_length9 (st_String_coder9 ?_)
    rw [show rI s 17 1 = 0 from h 17 (by decide) (by decide) 1]
    refine ⟨by decide, ?_⟩
    have e : ((3 : Int32) >>> ((0 : Int32) &&& 31)) = nI (wn 9) := by decide +kernel
    show K ((3 : Int32) >>> ((0 : Int32) &&& 31)) s
    rw [e]; exact hK
  | 10, _, hK =>
    refine st_String_length10 (st_String_coder10 ?_)
    rw [show rI s 18 1 = 0 from h 18 (by decide) (by decide) 1]
    refine ⟨by decide, ?_⟩
    have e : ((4 : Int32) >>> ((0 : Int32) &&& 31)) = nI (wn 10) := by decide +kernel
    show K ((4 : Int32) >>> ((0 : Int32) &&& 31)) s
    rw [e]; exact hK
  | 11, _, hK =>
    refine st_String_length11 (st_String_coder11 ?_)
    rw [show rI s 19 1 = 0 from h 19 (by decide) (by decide) 1]
    refine ⟨by decide, ?_⟩
    have e : ((3 : Int32) >>> ((0 : Int32) &&& 31)) = nI (wn 11) := by decide +kernel
    show K ((3 : Int32) >>> ((0 : Int32) &&& 31)) s
    rw [e]; exact hK
  | 12, _, hK =>
    refine st_String_length12 (st_String_coder12 ?_)
    rw [show rI s 20 1 = 0 from h 20 (by decide) (by decide) 1]
    refine ⟨by decide, ?_⟩
    have e : ((4 : Int32) >>> ((0 : Int32) &&& 31)) = nI (wn 12) := by decide +kernel
    show K ((4 : Int32) >>> ((0 : Int32) &&& 31)) s
    rw [e]; exact hK
  | 13, _, hK =>
    refine st_String_length13 (st_String_coder13 ?_)
    rw [show rI s 21 1 = 0 from h 21 (by decide) (by decide) 1]
    refine ⟨by decide, ?_⟩
    have e : ((5 : Int32) >>> ((0 : Int32) &&& 31)) = nI (wn 13) := by decide +kernel
    show K ((5 : Int32) >>> ((0 : Int32) &&& 31)) s
    rw [e]; exact hK
  | 14, _, hK =>
    refine st_String_length14 (st_String_coder14 ?_)
    rw [show rI s 22 1 = 0 from h 22 (by decide) (by decide) 1]
    refine ⟨by decide, ?_⟩
    have e : ((4 : Int32) >>> ((0 : Int32) &&& 31)) = nI (wn 14) := by decide +kernel
    show K ((4 : Int32) >>> ((0 : Int32) &&& 31)) s
    rw [e]; exact hK
  | 15, _, hK =>
    refine st_String_length15 (st_String_coder15 ?_)
    rw [show rI s 23 1 = 0 from h 23 (by decide) (by decide) 1]
    refine ⟨by decide, ?_⟩
    have e : ((4 : Int32) >>> ((0 : Int32) &&& 31)) = nI (wn 15) := by decide +kernel
    show K ((4 : Int32) >>> ((0 : Int32) &&& 31)) s
    rw [e]; exact hK
  | j + 16, hj, _ => exact absurd hj (by omega)
theorem sp_charAt (h : pRo s) {j i : Nat} (hj : j < 16) (hi : i < wn j) {K : Int32 → hS → Prop} (hK : K ((wd j).getD i 0) s) : pcI (d + 3) 29 [.ref (8 + j), .int (nI i)] v s K := by
  have hw := wn_in j hj
  have hc := wc_in j hj i hi
  have he := wc_id j hj i hi
  have e0 : (nI i).toInt = i := nI_toInt (by omega)
  unfold wc at hc
  match j, hj, hi, hK, hc, he, hw with
  | 0, _, hi, hK, hc, he, _ =>
    refine st_String_charAt0 (st_String_isLatin10 ⟨fun _ => ⟨fun z => absurd z (by decide), fun _ => ?_⟩, fun c => absurd ?_ c⟩)
    · refine st_StringLatin1_charAt0 (st_String_checkIndex (st_Preconditions_checkIndex ?_))
      have hn : wn 0 = 5 := by decide +kernel
      have el : Int32.toInt 5 = 5 := rfl
      rw [e0, Int.toNat_natCast, show rI s 24 i = (wd 0).getD i 0 from h 24 (by decide) (by decide) i, he]
      refine ⟨fun c => absurd c (by omega), fun _ => ⟨fun _ => ⟨⟨by omega, by omega⟩, ⟨by omega, by omega⟩, ⟨by omega, by omega⟩, hK⟩, fun c => absurd (show (i : Int) < Int32.toInt 5 by omega) c⟩⟩
    · rw [show rI s 8 1 = 0 from h 8 (by decide) (by decide) 1]; rfl
  | 1, _, hi, hK, hc, he, _ =>
    refine st_String_charAt1 (st_String_isLatin11 ⟨fun _ => ⟨fun z => absurd z (by decide), fun _ => ?_⟩, fun c => absurd ?_ c⟩)
    · refine st_StringLatin1_charAt1 (st_String_checkIndex (st_Preconditions_checkIndex ?_))
      have hn : wn 1 = 4 := by decide +kernel
      have el : Int32.toInt 4 = 4 := rfl
      rw [e0, Int.toNat_natCast, show rI s 25 i = (wd 1).getD i 0 from h 25 (by decide) (by decide) i, he]
      refine ⟨fun c => absurd c (by omega), fun _ => ⟨fun _ => ⟨⟨by omega, by omega⟩, ⟨by omega, by omega⟩, ⟨by omega, by omega⟩, hK⟩, fun c => absurd (show (i : Int) < Int32.toInt 4 by omega) c⟩⟩
    · rw [show rI s 9 1 = 0 from h 9 (by decide) (by decide) 1]; rfl
  | 2, _, hi, hK, hc, he, _ =>
    refine st_String_charAt2 (st_String_isLatin12 ⟨fun _ => ⟨fun z => absurd z (by decide), fun _ => ?_⟩, fun c => absurd ?_ c⟩)
    · refine st_StringLatin1_charAt2 (st_String_checkIndex (st_Preconditions_checkIndex ?_))
      have hn : wn 2 = 3 := by decide +kernel
      have el : Int32.toInt 3 = 3 := rfl
      rw [e0, Int.toNat_natCast, show rI s 26 i = (wd 2).getD i 0 from h 26 (by decide) (by decide) i, he]
      refine ⟨fun c => absurd c (by omega), fun _ => ⟨fun _ => ⟨⟨by omega, by omega⟩, ⟨by omega, by omega⟩, ⟨by omega, by omega⟩, hK⟩, fun c => absurd (show (i : Int) < Int32.toInt 3 by omega) c⟩⟩
    · rw [show rI s 10 1 = 0 from h 10 (by decide) (by decide) 1]; rfl
  | 3, _, hi, hK, hc, he, _ =>
    refine st_String_charAt3 (st_String_isLatin13 ⟨fun _ => ⟨fun z => absurd z (by decide), fun _ => ?_⟩, fun c => absurd ?_ c⟩)
    · refine st_StringLatin1_charAt3 (st_String_checkIndex (st_Preconditions_checkIndex ?_))
      have hn : wn 3 = 4 := by decide +kernel
      have el : Int32.toInt 4 = 4 := rfl
      rw [e0, Int.toNat_natCast, show rI s 27 i = (wd 3).getD i 0 from h 27 (by decide) (by decide) i, he]
      refine ⟨fun c => absurd c (by omega), fun _ => ⟨fun _ => ⟨⟨by omega, by omega⟩, ⟨by omega, by omega⟩, ⟨by omega, by omega⟩, hK⟩, fun c => absurd (show (i : Int) < Int32.toInt 4 by omega) c⟩⟩
    · rw [show rI s 11 1 = 0 from h 11 (by decide) (by decide) 1]; rfl
  | 4, _, hi, hK, hc, he, _ =>
    refine st_String_charAt4 (st_String_isLatin14 ⟨fun _ => ⟨fun z => absurd z (by decide), fun _ => ?_⟩, fun c => absurd ?_ c⟩)
    · refine st_StringLatin1_charAt4 (st_String_checkIndex (st_Preconditions_checkIndex ?_))
      have hn : wn 4 = 4 := by decide +kernel
      have el : Int32.toInt 4 = 4 := rfl
      rw [e0, Int.toNat_natCast, show rI s 28 i = (wd 4).getD i 0 from h 28 (by decide) (by decide) i, he]
      refine ⟨fun c => absurd c (by omega), fun _ => ⟨fun _ => ⟨⟨by omega, by omega⟩, ⟨by omega, by omega⟩, ⟨by omega, by omega⟩, hK⟩, fun c => absurd (show (i : Int) < Int32.toInt 4 by omega) c⟩⟩
    · rw [show rI s 12 1 = 0 from h 12 (by decide) (by decide) 1]; rfl
  | 5, _, hi, hK, hc, he, _ =>
    refine st_String_charAt5 (st_String_isLatin15 ⟨fun _ => ⟨fun z => absurd z (by decide), fun _ => ?_⟩, fun c => absurd ?_ c⟩)
    · refine st_StringLatin1_charAt5 (st_String_checkIndex (st_Preconditions_checkIndex ?_))
      have hn : wn 5 = 4 := by decide +kernel
      have el : Int32.toInt 4 = 4 := rfl
      rw [e0, Int.toNat_natCast, show rI s 29 i = (wd 5).getD i 0 from h 29 (by decide) (by decide) i, he]
      refine ⟨fun c => absurd c (by omega), fun _ => ⟨fun _ => ⟨⟨by omega, by omega⟩, ⟨by omega, by omega⟩, ⟨by omega, by omega⟩, hK⟩, fun c => absurd (show (i : Int) < Int32.toInt 4 by omega) c⟩⟩
    · rw [show rI s 13 1 = 0 from h 13 (by decide) (by decide) 1]; rfl
  | 6, _, hi, hK, hc, he, _ =>
    refine st_String_charAt6 (st_String_isLatin16 ⟨fun _ => ⟨fun z => absurd z (by decide), fun _ => ?_⟩, fun c => absurd ?_ c⟩)
    · refine st_StringLatin1_charAt6 (st_String_checkIndex (st_Preconditions_checkIndex ?_))
      have hn : wn 6 = 5 := by decide +kernel
      have el : Int32.toInt 5 = 5 := rfl
      rw [e0, Int.toNat_natCast, show rI s 30 i = (wd 6).getD i 0 from h 30 (by decide) (by decide) i, he]
      refine ⟨fun c => absurd c (by omega), fun _ => ⟨fun _ => ⟨⟨by omega, by omega⟩, ⟨by omega, by omega⟩, ⟨by omega, by omega⟩, hK⟩, fun c => absurd (show (i : Int) < Int32.toInt 5 by omega) c⟩⟩
    · rw [show rI s 14 1 = 0 from h 14 (by decide) (by decide) 1]; rfl
  | 7, _, hi, hK, hc, he, _ =>
    refine st_String_charAt7 (st_String_isLatin17 ⟨fun _ => ⟨fun z => absurd z (by decide), fun _ => ?_⟩, fun c => absurd ?_ c⟩)
    · refine st_StringLatin1_charAt7 (st_String_checkIndex (st_Preconditions_checkIndex ?_))
      have hn : wn 7 = 4 := by decide +kernel
      have el : Int32.toInt 4 = 4 := rfl
      rw [e0, Int.toNat_natCast, show rI s 31 i = (wd 7).getD i 0 from h 31 (by decide) (by decide) i, he]
      refine ⟨fun c => absurd c (by omega), fun _ => ⟨fun _ => ⟨⟨by omega, by omega⟩, ⟨by omega, by omega⟩, ⟨by omega, by omega⟩, hK⟩, fun c => absurd (show (i : Int) < Int32.toInt 4 by omega) c⟩⟩
    · rw [show rI s 15 1 = 0 from h 15 (by decide) (by decide) 1]; rfl
  | 8, _, hi, hK, hc, he, _ =>
    refine st_String_charAt8 (st_String_isLatin18 ⟨fun _ => ⟨fun z => absurd z (by decide), fun _ => ?_⟩, fun c => absurd ?_ c⟩)
    · refine st_StringLatin1_charAt8 (st_String_checkIndex (st_Preconditions_checkIndex ?_))
      have hn : wn 8 = 4 := by decide +kernel
      have el : Int32.toInt 4 = 4 := rfl
      rw [e0, Int.toNat_natCast, show rI s 32 i = (wd 8).getD i 0 from h 32 (by decide) (by decide) i, he]
      refine ⟨fun c => absurd c (by omega), fun _ => ⟨fun _ => ⟨⟨by omega, by omega⟩, ⟨by omega, by omega⟩, ⟨by omega, by omega⟩, hK⟩, fun c => absurd (show (i : Int) < Int32.toInt 4 by omega) c⟩⟩
    · rw [show rI s 16 1 = 0 from h 16 (by decide) (by decide) 1]; rfl
  | 9, _, hi, hK, hc, he, _ =>
    refine st_String_charAt9 (st_String_isLatin19 ⟨fun _ => ⟨fun z => absurd z (by decide), fun _ => ?_⟩, fun c => absurd ?_ c⟩)
    · refine st_StringLatin1_charAt9 (st_String_checkIndex (st_Preconditions_checkIndex ?_))
      have hn : wn 9 = 3 := by decide +kernel
      have el : Int32.toInt 3 = 3 := rfl
      rw [e0, Int.toNat_natCast, show rI s 33 i = (wd 9).getD i 0 from h 33 (by decide) (by decide) i, he]
      refine ⟨fun c => absurd c (by omega), fun _ => ⟨fun _ => ⟨⟨by omega, by omega⟩, ⟨by omega, by omega⟩, ⟨by omega, by omega⟩, hK⟩, fun c => absurd (show (i : Int) < Int32.toInt 3 by omega) c⟩⟩
    · rw [show rI s 17 1 = 0 from h 17 (by decide) (by decide) 1]; rfl
  | 10, _, hi, hK, hc, he, _ =>
    refine st_String_charAt10 (st_String_isLatin110 ⟨fun _ => ⟨fun z => absurd z (by decide), fun _ => ?_⟩, fun c => absurd ?_ c⟩)
    · refine st_StringLatin1_charAt10 (st_String_checkIndex (st_Preconditions_checkIndex ?_))
      have hn : wn 10 = 4 := by decide +kernel
      have el : Int32.toInt 4 = 4 := rfl
      rw [e0, Int.toNat_natCast, show rI s 34 i = (wd 10).getD i 0 from h 34 (by decide) (by decide) i, he]
      refine ⟨fun c => absurd c (by omega), fun _ => ⟨fun _ => ⟨⟨by omega, by omega⟩, ⟨by omega, by omega⟩, ⟨by omega, by omega⟩, hK⟩, fun c => absurd (show (i : Int) < Int32.toInt 4 by omega) c⟩⟩
    · rw [show rI s 18 1 = 0 from h 18 (by decide) (by decide) 1]; rfl
  | 11, _, hi, hK, hc, he, _ =>
    refine st_String_charAt11 (st_String_isLatin111 ⟨fun _ => ⟨fun z => absurd z (by decide), fun _ => ?_⟩, fun c => absurd ?_ c⟩)
    · refine st_StringLatin1_charAt11 (st_String_checkIndex (st_Preconditions_checkIndex ?_))
      have hn : wn 11 = 3 := by decide +kernel
      have el : Int32.toInt 3 = 3 := rfl
      rw [e0, Int.toNat_natCast, show rI s 35 i = (wd 11).getD i 0 from h 35 (by decide) (by decide) i, he]
      refine ⟨fun c => absurd c (by omega), fun _ => ⟨fun _ => ⟨⟨by omega, by omega⟩, ⟨by omega, by omega⟩, ⟨by omega, by omega⟩, hK⟩, fun c => absurd (show (i : Int) < Int32.toInt 3 by omega) c⟩⟩
    · rw [show rI s 19 1 = 0 from h 19 (by decide) (by decide) 1]; rfl
  | 12, _, hi, hK, hc, he, _ =>
    refine st_String_charAt12 (st_String_isLatin112 ⟨fun _ => ⟨fun z => absurd z (by decide), fun _ => ?_⟩, fun c => absurd ?_ c⟩)
    · refine st_StringLatin1_charAt12 (st_String_checkIndex (st_Preconditions_checkIndex ?_))
      have hn : wn 12 = 4 := by decide +kernel
      have el : Int32.toInt 4 = 4 := rfl
      rw [e0, Int.toNat_natCast, show rI s 36 i = (wd 12).getD i 0 from h 36 (by decide) (by decide) i, he]
      refine ⟨fun c => absurd c (by omega), fun _ => ⟨fun _ => ⟨⟨by omega, by omega⟩, ⟨by omega, by omega⟩, ⟨by omega, by omega⟩, hK⟩, fun c => absurd (show (i : Int) < Int32.toInt 4 by omega) c⟩⟩
    · rw [show rI s 20 1 = 0 from h 20 (by decide) (by decide) 1]; rfl
  | 13, _, hi, hK, hc, he, _ =>
    refine st_String_charAt13 (st_String_isLatin113 ⟨fun _ => ⟨fun z => absurd z (by decide), fun _ => ?_⟩, fun c => absurd ?_ c⟩)
    · refine st_StringLatin1_charAt13 (st_String_checkIndex (st_Preconditions_checkIndex ?_))
      have hn : wn 13 = 5 := by decide +kernel
      have el : Int32.toInt 5 = 5 := rfl
      rw [e0, Int.toNat_natCast, show rI s 37 i = (wd 13).getD i 0 from h 37 (by decide) (by decide) i, he]
      refine ⟨fun c => absurd c (by omega), fun _ => ⟨fun _ => ⟨⟨by omega, by omega⟩, ⟨by omega, by omega⟩, ⟨by omega, by omega⟩, hK⟩, fun c => absurd (show (i : Int) < Int32.toInt 5 by omega) c⟩⟩
    · rw [show rI s 21 1 = 0 from h 21 (by decide) (by decide) 1]; rfl
  | 14, _, hi, hK, hc, he, _ =>
    refine st_String_charAt14 (st_String_isLatin114 ⟨fun _ => ⟨fun z => absurd z (by decide), fun _ => ?_⟩, fun c => absurd ?_ c⟩)
    · refine st_StringLatin1_charAt14 (st_String_checkIndex (st_Preconditions_checkIndex ?_))
      have hn : wn 14 = 4 := by decide +kernel
      have el : Int32.toInt 4 = 4 := rfl
      rw [e0, Int.toNat_natCast, show rI s 38 i = (wd 14).getD i 0 from h 38 (by decide) (by decide) i, he]
      refine ⟨fun c => absurd c (by omega), fun _ => ⟨fun _ => ⟨⟨by omega, by omega⟩, ⟨by omega, by omega⟩, ⟨by omega, by omega⟩, hK⟩, fun c => absurd (show (i : Int) < Int32.toInt 4 by omega) c⟩⟩
    · rw [show rI s 22 1 = 0 from h 22 (by decide) (by decide) 1]; rfl
  | 15, _, hi, hK, hc, he, _ =>
    refine st_String_charAt15 (st_String_isLatin115 ⟨fun _ => ⟨fun z => absurd z (by decide), fun _ => ?_⟩, fun c => absurd ?_ c⟩)
    · refine st_StringLatin1_charAt15 (st_String_checkIndex (st_Preconditions_checkIndex ?_))
      have hn : wn 15 = 4 := by decide +kernel
      have el : Int32.toInt 4 = 4 := rfl
      rw [e0, Int.toNat_natCast, show rI s 39 i = (wd 15).getD i 0 from h 39 (by decide) (by decide) i, he]
      refine ⟨fun c => absurd c (by omega), fun _ => ⟨fun _ => ⟨⟨by omega, by omega⟩, ⟨by omega, by omega⟩, ⟨by omega, by omega⟩, hK⟩, fun c => absurd (show (i : Int) < Int32.toInt 4 by omega) c⟩⟩
    · rw [show rI s 23 1 = 0 from h 23 (by decide) (by decide) 1]; rfl
  | j + 16, hj, _, _, _, _, _ => exact absurd hj (by omega)
theorem kW_of {j : Nat} (hj : j < 16) : kW (8 + j) := by unfold kW; omega
theorem sp_takes (h : tX s B N) {j : Nat} (hj : j < 16) {f pl : Int32} {K : Int32 → hS → Prop} {a : Nat} (ha : a ≤ N) (hK : K (if mtb B N (xs cBl B N a) j = true then 1 else 0) (if mtb B N (xs cBl B N a) j = true then tS s (nI (xs cBl B N a + wn j)) f pl else tS s (nI (xs cBl B N a)) f pl)) : pcI (d + 4) 24 [.ref 49, .ref (8 + j)] v (tS s (nI a) f pl) K := by
  have hw := wn_in j hj
  have hx := xs_le (P := cBl) (B := B) ha
  have hN := h.2.2.1
  generalize hq : xs cBl B N a = q at *
  have h' := tX_tS h (nI q) f pl
  have e1 : rI (tS s (nI q) f pl) 49 2 = nI q := by rw [tS_r]; rfl
  have e2 : rI (tS s (nI q) f pl) 49 1 = nI N := by rw [tS_r]; exact h.2.1
  refine st_Text_takes (kW_of hj) (sp_passBlanks h ha ?_)
  rw [hq]
  refine sp_length h'.1 hj ?_
  rw [e1, e2, nI_add, nI_toInt (by omega), nI_toInt (by omega)]
  refine ⟨fun c => ?_, fun c => sp_isLetterAt h' (by omega) ⟨fun c2 => ?_, fun c2 => ?_⟩⟩
  · have hn : ¬ mtb B N q j = true := fun z => by have := (mtb_iff.mp z).1; omega
    rw [if_neg hn, if_neg hn] at hK; exact hK
  · have hl : cL (bat B N (q + wn j)) = false := by
      cases e : cL (bat B N (q + wn j)) with
      | false => rfl
      | true => rw [e] at c2; exact absurd c2 (by decide)
    have L : ∀ m i : Nat, wn j - i ≤ m → i ≤ wn j → (∀ k, k < i → B (q + k) = wc j k) → pgI (d + 4) 24 23 [.ref 49, .ref (8 + j), .int (nI (wn j)), .int (nI i)] [] v (tS s (nI q) f pl) K := by
      intro m
      induction m with
      | zero =>
        intro i h1 h2 h3
        refine st_Text_takes_23 (kW_of hj) ⟨fun z => absurd z ?_, fun _ => ?_⟩
        · rw [nI_toInt (by omega), nI_toInt (by omega)]; omega
        · have hm : mtb B N q j = true := mtb_iff.mpr ⟨by omega, hl, fun k hk => h3 k (by omega)⟩
          rw [if_pos hm, if_pos hm] at hK
          rw [e1, nI_add, tS_at]; exact hK
      | succ m ih =>
        intro i h1 h2 h3
        refine st_Text_takes_23 (kW_of hj) ⟨fun z => ?_, fun z => ?_⟩
        · rw [nI_toInt (by omega), nI_toInt (by omega)] at z
          rw [e1, nI_add]
          refine sp_byteAt h' (by omega) (fun x hx => sp_charAt h'.1 hj (by omega) ?_)
          have hb : bat B N (q + i) = B (q + i) := if_pos (by omega)
          rw [hx, hb]
          refine ⟨fun c3 => ?_, fun c3 => ?_⟩
          · rw [nI_1]
            refine ih (i + 1) (by omega) (by omega) (fun k hk => ?_)
            by_cases hki : k = i
            · rw [hki]; exact c3
            · exact h3 k (by omega)
          · have hn : ¬ mtb B N q j = true := fun z => c3 ((mtb_iff.mp z).2.2 i (by omega))
            rw [if_neg hn, if_neg hn] at hK; exact hK
        · rw [nI_toInt (by omega), nI_toInt (by omega)] at z
          have hm : mtb B N q j = true := mtb_iff.mpr ⟨by omega, hl, fun k hk => h3 k (by omega)⟩
          rw [if_pos hm, if_pos hm] at hK
          rw [e1, nI_add, tS_at]; exact hK
    exact L _ 0 (Nat.le_refl _) (by omega) (fun k hk => by omega)
  · have hn : ¬ mtb B N q j = true := fun z => by
      have := (mtb_iff.mp z).2.1
      rw [this] at c2; exact c2 rfl
    rw [if_neg hn, if_neg hn] at hK; exact hK
/-- how the parse state goes on behind a number -/
def nSt (s : hS) (f pl : Int32) : Except (Nat × Nat) (Int × Nat) → Nat → hS
  | .ok _, q => tS s (nI q) f pl
  | .error (e, w), q => if f.toInt = 0 then tS s (nI q) (nI e) (nI w) else tS s (nI q) f pl
theorem dv_in {p : Nat} (hB : ∀ i, i < N → 0 ≤ B i ∧ B i ≤ 255) : ∀ k, (∀ i, i < k → cF (B (p + i)) = true) → 0 ≤ dv B p k ∧ dv B p k < 10 ^ k := by
  intro k
  induction k with
  | zero =>
    intro _
    show (0 : Int) ≤ 0 ∧ (0 : Int) < 10 ^ 0
    exact ⟨by decide, by decide⟩
  | succ k ih =>
    intro hk
    have h1 := ih (fun i hi => hk i (by omega))
    have h2 := of_decide_eq_true (hk k (by omega))
    show 0 ≤ dv B p k * 10 + (B (p + k) - 48) ∧ dv B p k * 10 + (B (p + k) - 48) < 10 ^ (k + 1)
    have e : (10 : Int) ^ (k + 1) = 10 ^ k * 10 := Int.pow_succ 10 k
    rw [e]
    omega
theorem sp_number (h : tX s B N) {f pl lo hi : Int32} {K : Int32 → hS → Prop} {a : Nat} (ha : a ≤ N) (hK : ∀ x : Int32, (∀ z q, pNum B N lo.toInt hi.toInt a = .ok (z, q) → x.toInt = z) → K x (nSt s f pl (pNum B N lo.toInt hi.toInt a) (xs cF B N (xs cBl B N a)))) : pcI (d + 2) 40 [.ref 49, .int lo, .int hi] v (tS s (nI a) f pl) K := by
  have hx := xs_le (P := cBl) (B := B) ha
  have hN := h.2.2.1
  have hB : ∀ i, i < N → 0 ≤ B i ∧ B i ≤ 255 := fun i hi => (h.2.2.2 i hi).2
  refine st_Text_number (sp_passBlanks h ha ?_)
  unfold pNum at hK
  generalize hp : xs cBl B N a = p at *
  have hx2 := xs_le (P := cF) (B := B) hx
  have hg2 := xs_ge (P := cF) (B := B) (N := N) (p := p)
  have e0 : rI (tS s (nI p) f pl) 49 2 = nI p := by rw [tS_r]; rfl
  rw [e0]
  generalize hQ : xs cF B N p = Q at *
  have hT : ∀ x : Int32, x.toInt = dv B p (min (Q - p) 3) → ((nI Q).toInt = (nI p).toInt → pcV (d + 1) 38 [.ref 49, .int 1, .int (nI p)] v (tS s (nI Q) f pl) (fun s5 => K x s5)) ∧ (¬ (nI Q).toInt = (nI p).toInt → (3 < (nI Q - nI p).toInt → pcV (d + 1) 38 [.ref 49, .int 2, .int (nI p)] v (tS s (nI Q) f pl) (fun s5 => K x s5)) ∧ (¬ 3 < (nI Q - nI p).toInt → (x.toInt < lo.toInt → pcV (d + 1) 38 [.ref 49, .int 2, .int (nI p)] v (tS s (nI Q) f pl) (fun s5 => K x s5)) ∧ (¬ x.toInt < lo.toInt → (hi.toInt < x.toInt → pcV (d + 1) 38 [.ref 49, .int 2, .int (nI p)] v (tS s (nI Q) f pl) (fun s5 => K x s5)) ∧ (¬ hi.toInt < x.toInt → K x (tS s (nI Q) f pl))))) := by
    intro x hxv
    rw [pk_sub hg2, nI_toInt (by omega), nI_toInt (by omega), nI_toInt (by omega)]
    refine ⟨fun c => sp_blame ?_, fun c => ⟨fun c2 => sp_blame ?_, fun c2 => ?_⟩⟩
    · have hq : Q = p := by omega
      have := hK x (fun z q hz => by rw [if_pos hq] at hz; cases hz)
      rw [if_pos hq] at this
      exact this
    · have hq : ¬ Q = p := by omega
      have hq2 : 3 < Q - p ∨ dv B p (Q - p) < lo.toInt ∨ hi.toInt < dv B p (Q - p) := Or.inl (by omega)
      have := hK x (fun z q hz => by rw [if_neg hq, if_pos hq2] at hz; cases hz)
      rw [if_neg hq, if_pos hq2] at this
      exact this
    · have hq : ¬ Q = p := by omega
      have hmin : min (Q - p) 3 = Q - p := by omega
      rw [hmin] at hxv
      rw [hxv]
      refine ⟨fun c3 => sp_blame ?_, fun c3 => ⟨fun c4 => sp_blame ?_, fun c4 => ?_⟩⟩
      · have hq2 : 3 < Q - p ∨ dv B p (Q - p) < lo.toInt ∨ hi.toInt < dv B p (Q - p) := Or.inr (Or.inl c3)
        have := hK x (fun z q hz => by rw [if_neg hq, if_pos hq2] at hz; cases hz)
        rw [if_neg hq, if_pos hq2] at this
        exact this
      · have hq2 : 3 < Q - p ∨ dv B p (Q - p) < lo.toInt ∨ hi.toInt < dv B p (Q - p) := Or.inr (Or.inr c4)
        have := hK x (fun z q hz => by rw [if_neg hq, if_pos hq2] at hz; cases hz)
        rw [if_neg hq, if_pos hq2] at this
        exact this
      · have hq2 : ¬ (3 < Q - p ∨ dv B p (Q - p) < lo.toInt ∨ hi.toInt < dv B p (Q - p)) := by omega
        have := hK x (fun z q hz => by rw [if_neg hq, if_neg hq2] at hz; injection hz with hz; injection hz with hz1 hz2; rw [hxv, hz1])
        rw [if_neg hq, if_neg hq2] at this
        exact this
  have L : ∀ m q : Nat, N - q ≤ m → p ≤ q → q ≤ N → xs cF B N q = Q → (∀ i, p ≤ i → i < q → cF (B i) = true) → ∀ x : Int32, x.toInt = dv B p (min (q - p) 3) → pgI (d + 2) 40 7 [.ref 49, .int lo, .int hi, .int (nI p), .int x] [] v (tS s (nI q) f pl) K := by
    intro m
    induction m with
    | zero =>
      intro q h1 h2 h3 h4 h5 x hxv
      have hqs : xs cF B N q = q := xs_stop (fun z => by omega)
      have hqQ : q = Q := by rw [← hqs]; exact h4
      subst hqQ
      have e1 : rI (tS s (nI q) f pl) 49 2 = nI q := by rw [tS_r]; rfl
      have e2 : rI (tS s (nI q) f pl) 49 1 = nI N := by rw [tS_r]; exact h.2.1
      refine st_Text_number_7 ⟨fun c => absurd c ?_, fun _ => ?_⟩
      · rw [e1, e2, nI_toInt (by omega), nI_toInt (by omega)]; omega
      · rw [e1]; exact hT x hxv
    | succ m ih =>
      intro q h1 h2 h3 h4 h5 x hxv
      have e1 : rI (tS s (nI q) f pl) 49 2 = nI q := by rw [tS_r]; rfl
      have e2 : rI (tS s (nI q) f pl) 49 1 = nI N := by rw [tS_r]; exact h.2.1
      refine st_Text_number_7 ⟨fun c => ?_, fun c => ?_⟩
      · rw [e1, e2, nI_toInt (by omega), nI_toInt (by omega)] at c
        rw [e1]
        have hb : bat B N q = B q := if_pos (by omega)
        refine sp_isFigureAt (tX_tS h _ _ _) (by omega) ?_
        rw [hb, e1, pk_sub h2]
        by_cases hc : cF (B q) = true
        · rw [if_pos hc]
          refine ⟨fun z => absurd z (by decide), fun _ => ?_⟩
          rw [xs_step ⟨by omega, hc⟩] at h4
          have h5' : ∀ i, p ≤ i → i < q + 1 → cF (B i) = true := fun i i1 i2 => by
            by_cases hi : i = q
            · rw [hi]; exact hc
            · exact h5 i i1 (by omega)
          rw [nI_toInt (by omega), nI_1, tS_at]
          refine ⟨fun c3 => sp_byteAt (tX_tS h _ _ _) (by omega) (fun w hw => ?_), fun c3 => ?_⟩
          · rw [e1, nI_1, tS_at]
            refine ih (q + 1) (by omega) (by omega) (by omega) h4 h5' _ ?_
            rw [hb] at hw
            have hd := dv_in (p := p) hB (q - p) (fun i hi => h5 _ (by omega) (by omega))
            have hf := of_decide_eq_true hc
            have hmin : min (q - p) 3 = q - p := by omega
            have hmin2 : min (q + 1 - p) 3 = (q - p) + 1 := by omega
            rw [hmin] at hxv
            have hp3 : (10 : Int) ^ (q - p) ≤ 10 ^ 2 := by
              have : q - p = 0 ∨ q - p = 1 ∨ q - p = 2 := by omega
              rcases this with e | e | e <;> rw [e] <;> decide
            have e10 : Int32.toInt 10 = 10 := rfl
            have e48 : Int32.toInt 48 = 48 := rfl
            have e3 : (x * 10).toInt = dv B p (q - p) * 10 := by
              rw [i_mul, hxv, e10]
              rw [hxv, e10]; omega
            have e4 : (x * 10 + w).toInt = dv B p (q - p) * 10 + B q := by
              rw [i_add, e3, hw]
              rw [e3, hw]; omega
            have e5 : (x * 10 + w - 48).toInt = dv B p (q - p) * 10 + B q - 48 := by
              rw [i_sub, e4, e48]
              rw [e4, e48]; omega
            rw [e5, hmin2]
            show _ = dv B p (q - p) * 10 + (B (p + (q - p)) - 48)
            rw [show p + (q - p) = q by omega]; omega
          · refine ih (q + 1) (by omega) (by omega) (by omega) h4 h5' _ ?_
            have hmin : min (q - p) 3 = 3 := by omega
            have hmin2 : min (q + 1 - p) 3 = 3 := by omega
            rw [hmin2]; rw [hmin] at hxv; exact hxv
        · rw [if_neg hc]
          have hqs : xs cF B N q = q := xs_stop (fun z => hc z.2)
          have hqQ : q = Q := by rw [← hqs]; exact h4
          subst hqQ
          refine ⟨fun _ => ?_, fun z => absurd rfl z⟩
          have := hT x hxv
          rw [pk_sub hg2] at this
          exact this
      · rw [e1, e2, nI_toInt (by omega), nI_toInt (by omega)] at c
        have hqs : xs cF B N q = q := xs_stop (fun z => by omega)
        have hqQ : q = Q := by rw [← hqs]; exact h4
        subst hqQ
        rw [e1]; exact hT x hxv
  exact L _ p (Nat.le_refl _) (Nat.le_refl _) hx hQ (fun i h1 h2 => by omega) 0 (by rw [Nat.sub_self]; rfl)
end
