section PURE6
theorem qRead : QRead RR := by
  intro x y Jd JK ⟨⟨hi, ho⟩, hr⟩ q
  obtain ⟨r1, r2, r3, r4, r5, r6, r7, r8, r9⟩ := id hr
  unfold fRead
  rw [← r2.1, ← r3.1, ← r3.2.1]
  by_cases c : sIx q < 3
  · rw [if_pos c, if_pos c]
    by_cases c1 : gOf (cN x) (sIx q) < (sEv (cS x) (sIx q)).length
    · rw [if_pos c1, if_pos c1]
      by_cases c2 : gOf (cN x) (sIx q) - gTk (cN x) (sIx q) < 4
      · rw [if_pos c2, if_pos c2]
        generalize sIx q = s at *
        obtain ⟨i1, i2, i3, i4, i5, i6, i7, i8, i9, i10, i11, i12, i13, i14, i15, i16⟩ := id hi
        have up : ∀ j, j < 3 → gOf (cN x) j ≤ up1 (gOf (cN x)) s (gOf (cN x) s + 1) j := fun j _ => by
          show _ ≤ if j = s then _ else _
          by_cases d : j = s
          · rw [if_pos d, d]; omega
          · rw [if_neg d]; exact Nat.le_refl _
        refine ⟨⟨rfl, fun _ => rfl⟩, ⟨⟨i1, i2, ⟨fun j hj => ?_, i3.2⟩, i4, i5, i6, i7, i8, i9, i10, i11, i12, i13, ⟨i14.1, fun z j hj => ?_⟩, fun z => absurd z (by show ¬ (1 : Int32) = 0; decide +kernel), i16⟩, ho⟩, r1, r2, ⟨?_, r3.2.1, r3.2.2⟩, r4, r5, r6, ?_, r8, r9⟩
        · obtain ⟨a1, a2, a3⟩ := i3.1 j hj
          refine ⟨Nat.le_trans a1 (up j hj), ?_, ?_⟩
          · show (if j = s then gOf (cN x) s + 1 else gOf (cN x) j) ≤ _
            by_cases d : j = s
            · rw [if_pos d, d]; exact c1
            · rw [if_neg d]; exact a2
          · show (if j = s then gOf (cN x) s + 1 else gOf (cN x) j) ≤ gTk (cN x) j + 4
            by_cases d : j = s
            · rw [if_pos d]; rw [d] at a1 ⊢; omega
            · rw [if_neg d]; exact a3
        · obtain ⟨b1, b2, b3⟩ := i14.2 z j hj
          exact ⟨b1, Nat.le_trans b2 (up j hj), b3⟩
        · show up1 (gOf (cN x)) s _ = up1 (gOf (cN y)) s _
          rw [r3.1]
        · show ((1 : Int32), tS (cT x), tU (cT x), tW (cT x)) = (1, tS (cT y), tU (cT y), tW (cT y))
          rw [r7]
      · rw [if_neg c2, if_neg c2]; exact ⟨⟨rfl, fun _ => rfl⟩, ⟨hi, ho⟩, hr⟩
    · rw [if_neg c1, if_neg c1]; exact ⟨⟨rfl, fun _ => rfl⟩, ⟨hi, ho⟩, hr⟩
  · rw [if_neg c, if_neg c]; exact ⟨⟨rfl, fun _ => rfl⟩, ⟨hi, ho⟩, hr⟩
/-- a snapshot -/
theorem snap_inv {x : XS} (h : Inv x) (hb : ∀ s, s < 3 → gTk (cN x) s ≤ bA (cB x) s ∧ bA (cB x) s ≤ gOf (cN x) s) (ht : ¬ tB (cT x) = 0) : Inv (snapS x) := by
  obtain ⟨⟨i1, i2, i3, i4, i5, i6, i7, i8, i9, i10, i11, i12, i13, i14, i15, i16⟩, ho⟩ := h
  refine ⟨⟨i1, i2, i3, ⟨fun s hs => ?_, i3.2⟩, i5, fun s _ => Nat.le_refl _, i7, ?_, ho, i10, i11, i11, ⟨Nat.le_trans i13.1 i13.2.1, Nat.le_refl _, ?_⟩, i14, fun z => absurd z ht, i16⟩, ho⟩
  · obtain ⟨a1, a2, a3⟩ := i3.1 s hs
    obtain ⟨b1, b2⟩ := hb s hs
    exact ⟨b1, Nat.le_trans b2 a2, Nat.le_trans b2 a3⟩
  · show WOK (cJ x) (hst x (gHl (cN x))) (gMk (cN x)) ((kL (cK x)).take (kL (cK x)).length) (gWi (cN x))
    rw [List.take_length]; exact i7
  · have := i4.2.2.1
    show hC (cH x) ≤ gHl (cN x)
    have := i13.2.2
    omega
theorem snap_rel {x y : XS} {Jd : List Nat} {JK : Nat} (hi : Inv0 x) (h : Rel x y Jd JK) : Rel (snapS x) (rSnap y (bA (cB x))) Jd Jd.length := by
  obtain ⟨r1, r2, r3, r4, r5, r6, r7, r8, r9⟩ := h
  refine ⟨r1, r2, r3, ⟨rfl, r3.2.1, r3.2.2.1, r3.2.2.2.1, r3.2.2.2.2.1, r3.2.2.2.2.2⟩, ⟨r5.1, r5.2.2.1.len, r5.2.2.1, ?_, r5.2.2.2.2⟩, r6, ?_, r8, ?_⟩
  · show REq ((kL (cK x)).take (kL (cK x)).length) ((kL (cK y)).take (kL (cK y)).length)
    rw [List.take_length, List.take_length]; exact r5.2.2.1
  · show (tB (cT x), tS (cT x) + 1, (1 : Int32), tW (cT x)) = (tB (cT y), tS (cT y) + 1, 1, tW (cT y))
    rw [r7]
  · show Jd.length = (jdO (cS x) ((hL (cH x)).take (gHl (cN x)))).length
    rw [hi.2.2.2.2.1, List.take_length, r8]
theorem brX_inv {x : XS} (h : Inv x) : Inv (brX x) := by
  obtain ⟨⟨i1, i2, i3, i4, i5, i6, i7, i8, i9, i10, i11, i12, i13, i14, i15, i16⟩, ho⟩ := h
  exact ⟨⟨i1, i2, i3, i4, i5, i6, i7, i8, i9, i10, i11, i12, i13, ⟨fun s hs => (i3.1 s hs).2.1, fun _ s hs => ⟨(i3.1 s hs).1, Nat.le_refl _, fun z => absurd rfl z⟩⟩, fun z => absurd z (by show ¬ (1 : Int32) = 0; decide +kernel), i16⟩, ho⟩
theorem qBar : QBar RR := by
  intro x y Jd JK ⟨hI, hr⟩
  obtain ⟨r1, r2, r3, r4, r5, r6, r7, r8, r9⟩ := id hr
  have hb := brX_inv hI
  have l3 : ∀ s, s < 3 → gOf (cN y) s ≤ (sEv (cS x) s).length := fun s hs => by rw [← r3.1]; exact (hI.1.2.2.1.1 s hs).2.1
  refine ⟨fun c => ?_, fun c1 c2 => ?_, fun c1 c2 => ?_⟩
  · unfold fBarrier
    rw [if_neg (by rw [r6.1]; exact c)]
    exact ⟨rfl, hI, hr⟩
  · unfold fBarrier
    rw [if_pos (by rw [r6.1]; exact c1), if_pos (by rw [r1]; exact c2)]
    have hr2 : Rel (brX x) (brN y) Jd JK := by
      refine ⟨r1, r2, r3, r4, r5, ⟨?_, fun z => absurd ?_ z, r6.2.2⟩, ?_, r8, r9⟩
      · show cJ x 5 = bU (cB y)
        rw [r1, c1, c2]
      · show cJ x 5 = 0
        rw [r1]; exact c2
      · show ((1 : Int32), tS (cT x), tU (cT x), tW (cT x)) = (1, tS (cT y), tU (cT y), tW (cT y))
        rw [r7]
    refine ⟨⟨rfl, fun _ => ?_⟩, snap_inv hb (fun s hs => ⟨(hI.1.2.2.1.1 s hs).1, Nat.le_refl _⟩) (by show ¬ (1 : Int32) = 0; decide +kernel), ?_⟩
    · show tS (cT x) + 1 = tS (cT y) + 1
      rw [r7]
    · have := snap_rel hb.1 hr2
      have e : bA (cB (brX x)) = gOf (cN y) := r3.1
      rw [e] at this
      exact this
  · unfold fBarrier
    rw [if_pos (by rw [r6.1]; exact c1), if_neg (by rw [r1]; exact c2)]
    refine ⟨⟨rfl, fun _ => ?_⟩, hb, r1, r2, r3, r4, r5, ⟨?_, fun _ => ⟨r3.1, rfl⟩, l3⟩, ?_, r8, r9⟩
    · show tS (cT x) = tS (cT y)
      rw [r7]
    · show cJ x 5 = 1
      rcases hI.1.1.2.2.2.2.2 with e | e
      · rw [r1] at e; exact absurd e c2
      · exact e
    · show ((1 : Int32), tS (cT x), tU (cT x), tW (cT x)) = (1, tS (cT y), tU (cT y), tW (cT y))
      rw [r7]
/-- what the taking of an event owes -/
def TakeLem : Prop := ∀ (jb : Nat → Int32) (H : List ET) (mk : Int32) (L W : List WT) (v : V3) (src : Int32), JOK jb → HNum H → VOK v → WOK jb H mk L W → OutD W mk →
  WOK jb (H ++ [(src, v.1, v.2.1, v.2.2, mk)]) mk (L ++ (admP jb v mk W).2.1) (admP jb v mk W).1 ∧ (¬ jb 0 = 2 → StepOK (jb 2) (jb 1) (jb 3) mk v.1) ∧
  ∀ V, W.Perm V → (jb 0 = 2 → GapOK jb v V) ∧ ∀ W' Rr n, AdR jb v mk V W' Rr n → (admP jb v mk W).1.Perm W' ∧ REq (admP jb v mk W).2.1 Rr ∧ ((admP jb v mk W).2.2 = 0 ↔ n = 0)
theorem prP_sym {r : Int32} {a b : ET} : prP r a b ↔ prP r b a := by
  have dt : (if eT b ≤ eT a then eT a - eT b else eT b - eT a) = (if eT a ≤ eT b then eT b - eT a else eT a - eT b) := by
    by_cases c : eT b ≤ eT a
    · rw [if_pos c]
      by_cases d : eT a ≤ eT b
      · rw [if_pos d, Int32.le_antisymm c d]
      · rw [if_neg d]
    · rw [if_neg c, if_pos (Int32.le_of_lt (Int32.not_le.mp c))]
  constructor
  · rintro ⟨h1, h2, h3, h4, h5⟩
    exact ⟨by rw [Int32.add_comm]; exact h1, h2.symm, by rw [← dt]; exact h3, h5, h4⟩
  · rintro ⟨h1, h2, h3, h4, h5⟩
    exact ⟨by rw [Int32.add_comm]; exact h1, h2.symm, by rw [dt]; exact h3, h5, h4⟩
theorem cntQ_P {r : Int32} {e : ET} : ∀ (L : List ET) (c : Int32), cntQ r e c L = cntP r e c L
  | [], _ => rfl
  | z :: L, c => by
    unfold cntQ cntP
    by_cases d : prP r e z
    · rw [if_pos d, if_pos (prP_sym.mp d)]; exact cntQ_P L _
    · rw [if_neg d, if_neg (fun q => d (prP_sym.mp q))]; exact cntQ_P L _
theorem cntP_c {r : Int32} {e : ET} : ∀ (L : List ET) (c : Int32), cntP r e c L = c + cntP r e 0 L
  | [], c => (Int32.add_zero c).symm
  | z :: L, c => by
    unfold cntP
    by_cases d : prP r z e
    · rw [if_pos d, if_pos d, cntP_c L (c + 1), cntP_c L (0 + 1), Int32.zero_add, Int32.add_assoc]
    · rw [if_neg d, if_neg d]; exact cntP_c L c
theorem cntA_snoc {r : Int32} {e : ET} : ∀ (L b : List ET) (c : Int32), cntA r c b (L ++ [e]) = cntQ r e (cntA r c b L) (b ++ L)
  | [], b, c => by
    show cntQ r e c b = cntQ r e c (b ++ [])
    rw [List.append_nil]
  | z :: L, b, c => by
    show cntA r _ (b ++ [z]) (L ++ [e]) = cntQ r e (cntA r _ (b ++ [z]) L) (b ++ z :: L)
    rw [cntA_snoc L (b ++ [z]) _, List.append_assoc]
    rfl
end PURE6
