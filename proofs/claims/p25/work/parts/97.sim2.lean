section PURE10
theorem bar_inv {x : XS} {s : Nat} {u : Int32} (h : Inv x) (hs : s < 3) (hu : ¬ bU (cB x) = 0) (hb : bA (cB x) s = gTk (cN x) s) : Inv (setB x (bA (cB x), up1 (bT (cB x)) s 1, u)) := by
  obtain ⟨⟨i1, i2, i3, i4, i5, i6, i7, i8, i9, i10, i11, i12, i13, i14, i15, i16⟩, ho⟩ := h
  refine ⟨⟨i1, i2, i3, i4, i5, i6, i7, i8, i9, i10, i11, i12, i13, ⟨i14.1, fun _ j hj => ?_⟩, fun z => ?_, i16⟩, ho⟩
  · obtain ⟨b1, b2, b3⟩ := i14.2 hu j hj
    refine ⟨b1, b2, fun z => ?_⟩
    have z : ¬ (if j = s then 1 else bT (cB x) j) = 0 := z
    by_cases d : j = s
    · rw [d]; exact hb
    · rw [if_neg d] at z; exact b3 z
  · exact absurd (i15 z).2.2.2.2.1 hu
theorem qTake (hT : TakeLem) : QTake RR := by
  intro x y Jd JK ⟨hI, hr⟩ q
  obtain ⟨r1, r2, r3, r4, r5, r6, r7, r8, r9⟩ := id hr
  refine ⟨fun c => ?_, fun s hs hq => ⟨fun h1 h2 => ?_, fun hu ht hb => ?_, fun h1 hl v hv W' Rr W n ha hW => ?_⟩⟩
  · unfold fTake
    rw [if_neg c]
    exact ⟨rfl, hI, hr⟩
  · rw [← r6.1] at h1 h2
    rw [← r3.1, ← r3.2.1] at h2
    have ev : ¬ gTk (cN x) s < gOf (cN x) s → (fEv x s).1 = 2 ∧ RR (fEv x s).2.2 y Jd JK := fun z => by
      unfold fEv
      rw [if_neg z]
      exact ⟨rfl, hI, hr⟩
    unfold fTake
    rw [if_pos (by omega), hq]
    by_cases c : bU (cB x) = 0
    · rw [if_pos c]; exact ev (h2 (Or.inl c))
    · rw [if_neg c]
      obtain ⟨e1, e2⟩ := r6.2.1 c
      have h1 := h1 c
      rw [← e1, ← e2, ← r3.2.1] at h1
      rw [← e2] at h2
      by_cases c2 : bT (cB x) s = 0
      · rw [if_pos c2, if_neg (h1.resolve_left (fun z => z c2))]
        exact ev (h2 (Or.inr c2))
      · rw [if_neg c2]; exact ⟨rfl, hI, hr⟩
  · have hu' : ¬ bU (cB x) = 0 := by rw [r6.1]; exact hu
    obtain ⟨e1, e2⟩ := r6.2.1 hu'
    rw [← e2] at ht ⊢
    rw [← e1, ← r3.2.1] at hb
    have tb : ¬ tB (cT x) = 0 := fun z => hu' (hI.1.2.2.2.2.2.2.2.2.2.2.2.2.2.2.1 z).2.2.2.2.1
    have ft : fTake x q = fTb x s := by
      unfold fTake
      rw [if_pos (by omega), hq, if_neg hu', if_pos ht, if_pos hb]
    rw [ft]
    have rel : ∀ u, Rel (setB x (bA (cB x), up1 (bT (cB x)) s 1, u)) (setB y (bA (cB y), up1 (bT (cB x)) s 1, u)) Jd JK := fun u => ⟨r1, r2, r3, r4, r5, ⟨rfl, fun _ => ⟨e1, rfl⟩, r6.2.2⟩, r7, r8, r9⟩
    unfold fTb isAll
    refine ⟨fun c => ?_, fun c => ?_⟩
    · have c' : up1 (bT (cB x)) s 1 0 = 0 ∨ up1 (bT (cB x)) s 1 1 = 0 ∨ up1 (bT (cB x)) s 1 2 = 0 := by
        by_cases d0 : up1 (bT (cB x)) s 1 0 = 0
        · exact Or.inl d0
        · by_cases d1 : up1 (bT (cB x)) s 1 1 = 0
          · exact Or.inr (Or.inl d1)
          · by_cases d2 : up1 (bT (cB x)) s 1 2 = 0
            · exact Or.inr (Or.inr d2)
            · exact absurd ⟨d0, d1, d2⟩ c
      rw [if_pos c']
      refine ⟨⟨rfl, fun _ => rfl⟩, bar_inv hI hs hu' hb, ?_⟩
      unfold rTb3
      rw [← e2, ← r6.1]
      exact rel _
    · have c' : ¬ (up1 (bT (cB x)) s 1 0 = 0 ∨ up1 (bT (cB x)) s 1 1 = 0 ∨ up1 (bT (cB x)) s 1 2 = 0) := fun z => by
        rcases z with z | z | z
        · exact c.1 z
        · exact c.2.1 z
        · exact c.2.2 z
      rw [if_neg c']
      have iv := bar_inv (u := 0) hI hs hu' hb
      refine ⟨⟨rfl, fun _ => rfl⟩, snap_inv iv (fun j hj => ?_) tb, ?_⟩
      · obtain ⟨b1, b2, -⟩ := hI.1.2.2.2.2.2.2.2.2.2.2.2.2.2.1.2 hu' j hj
        exact ⟨b1, b2⟩
      · unfold rTb4
        rw [← e2]
        have := snap_rel iv.1 (rel 0)
        have e3 : bA (cB (setB x (bA (cB x), up1 (bT (cB x)) s 1, 0))) = bA (cB y) := e1
        rw [e3] at this
        exact this
  · have hl' : gTk (cN x) s < gOf (cN x) s := by rw [r3.1, r3.2.1]; exact hl
    have hv' : (sEv (cS x) s)[gTk (cN x) s]? = some v := by rw [r3.2.1, r2.1]; exact hv
    have hb' : ¬ bU (cB x) = 0 → bT (cB x) s = 0 ∧ ¬ bA (cB x) s = gTk (cN x) s := fun z => by
      obtain ⟨e1, e2⟩ := r6.2.1 z
      rw [e1, e2, r3.2.1]
      exact h1 (by rw [← r6.1]; exact z)
    have ft : fTake x q = fEv x s := by
      unfold fTake
      rw [if_pos (by omega), hq]
      by_cases c : bU (cB x) = 0
      · rw [if_pos c]
      · rw [if_neg c, if_pos (hb' c).1, if_neg (hb' c).2]
    have ev : fEv x s = (0, tkAns x v, lookS (tkEv x s (gTk (cN x) s) v)) := by
      unfold fEv
      rw [if_pos hl', sEv_at hv']
    rw [ft, ev]
    have iv := tk_inv hT hI hs rfl hl' hv' hb'
    have et : gTk (cN y) s = gTk (cN x) s := by rw [r3.2.1]
    rw [et] at hW ⊢
    obtain ⟨t1, t2⟩ := tk_rel hT hI hr hs rfl hv' ha
    exact ⟨⟨rfl, fun _ => t2⟩, look_inv iv, look_rel iv t1 hW⟩
theorem simRR (hCA : CAlem) (hT : TakeLem) : SimR RR := ⟨qSide hT, qJob, qSlack, qAppend, qRead, qConfirm hCA, qSW, qOff, qIn, qOpen, qSum, qRes, qAnew, qAsk, qIdle, qFail hCA, qWork hCA, qBar, qTake hT⟩
end PURE10
