theorem SO.add {k s e v mk : Int32} {L : List WT} (h : SO L) : SO (addL k s e v mk L) := by
  unfold addL
  by_cases c : ∃ w ∈ L, isW k s w
  · rw [if_pos c]
    refine h.map (fun w => ?_)
    by_cases d : isW k s w
    · rw [if_pos d]; exact tch_ks v mk w
    · rw [if_neg d]; exact ⟨rfl, rfl, rfl⟩
  · rw [if_neg c]
    exact h.ins (fun x hx z => c ⟨x, hx, z⟩)
theorem absL_sub : ∀ (L : List WT) (w : WT), (absL w L).Sublist L
  | [], _ => List.Sublist.refl _
  | x :: L, w => by
    show (if meets w x then absL (absorb w x) L else x :: absL w L).Sublist (x :: L)
    by_cases c : meets w x
    · rw [if_pos c]; exact (absL_sub L _).cons x
    · rw [if_neg c]; exact (absL_sub L w).cons_cons x
theorem SO.abs {w : WT} {L : List WT} (h : SO L) : SO (absL w L) := h.sublist (absL_sub L w)
theorem UQ.abs {w : WT} {L : List WT} (h : UQ L) : UQ (absL w L) := h.sublist (absL_sub L w)
theorem SO.adds {k sz v mk : Int32} : ∀ (ss : List Int32) {L : List WT}, SO L → SO (addsL k sz v mk ss L)
  | [], _, h => h
  | _ :: ss, _, h => SO.adds ss h.add
theorem UQ.adds {k sz v mk : Int32} : ∀ (ss : List Int32) {L : List WT}, UQ L → UQ (addsL k sz v mk ss L)
  | [], _, h => h
  | _ :: ss, _, h => UQ.adds ss h.add
theorem UQ.em {mk : Int32} {L : List WT} (h : UQ L) (hs : SO L) : UQ (emW mk L) := by
  rw [(em_sorted hs).1]
  refine h.map (fun w => ?_)
  unfold emF
  by_cases c : wE w ≤ mk
  · rw [if_pos c]
    by_cases d : wO w = 0
    · rw [if_pos d]; exact ⟨rfl, rfl⟩
    · rw [if_neg d]; exact ⟨rfl, rfl⟩
  · rw [if_neg c]; exact ⟨rfl, rfl⟩
theorem SO.em {mk : Int32} {L : List WT} (hs : SO L) : SO (emW mk L) := by
  rw [(em_sorted hs).1]
  refine hs.map (fun w => ?_)
  unfold emF
  by_cases c : wE w ≤ mk
  · rw [if_pos c]
    by_cases d : wO w = 0
    · rw [if_pos d]; exact ⟨rfl, rfl, rfl⟩
    · rw [if_neg d]; exact ⟨rfl, rfl, rfl⟩
  · rw [if_neg c]; exact ⟨rfl, rfl, rfl⟩
/-- a merged window meets none that stays, and has the key -/
theorem absW_K : ∀ (L : List WT) (w : WT), wK (absW w L) = wK w
  | [], _ => rfl
  | x :: L, w => by
    show wK (if meets w x then absW (absorb w x) L else absW w L) = _
    by_cases c : meets w x
    · rw [if_pos c, absW_K L]; rfl
    · rw [if_neg c, absW_K L]
