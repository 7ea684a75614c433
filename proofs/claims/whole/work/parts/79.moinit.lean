section MOINIT
variable {E : EV} {Post : Res → GH → Prop}
/-- the rows' fields in the order in which they are made -/
def lK : List Nat := [9, 10, 11, 12, 13, 14, 15, 16, 17, 21, 22, 23, 24, 25, 26, 27, 28, 30, 32, 34, 35, 36, 37, 38, 39, 45, 46, 47, 48, 49, 50, 52, 53, 54]
def pK (k : Nat) : Nat := lK.idxOf k
theorem pK_lt : ∀ k, k < 58 → aK k = true → pK k < 34 ∧ lK[pK k]? = some k := by decide +kernel
theorem pK_in : ∀ k, k < 58 → aK k = true → ∀ j, j < 58 → aK j = true → pK k = pK j → k = j := by decide +kernel
theorem lK_aK : ∀ n, n < 34 → ∀ k, k < 58 → lK[n]? = some k → aK k = true ∧ pK k = n := by decide +kernel
theorem aK_lt {k : Nat} (h : aK k = true) : k < 58 := by
  unfold aK at h; simp at h; omega
def bM (m k : Nat) : Nat := m + 1 + pK k
theorem injM (m : Nat) : InjB m (bM m) := ⟨fun i j hi hj h => pK_in i (aK_lt hi) hi j (aK_lt hj) hj (by unfold bM at h; omega), fun i _ h => by unfold bM at h; omega⟩
/-- the object while it is made: n rows stand -/
def IM (G0 : GH) (o0 : Nat → Nat) (m : Nat) (G : GH) (n : Nat) (F : Nat → Int32) (g : Nat) : Prop :=
  (∃ o, Stq [m] G0 o0 G o ∧ ∀ q, m ≤ q → q < gz G → o q = m) ∧ gT G m = 11 ∧ gz G = m + 1 + n ∧ gs G = g ∧ (∀ k, k < 58 → aK k = true → pK k < n → gR G (640 + k) m = some (bM m k) ∧ gT G (bM m k) = aG k ∧ gN G (bM m k) = aN k ∧ ∀ i, gA G (bM m k) i = 0) ∧ ∀ k, k < 58 → gI G (640 + k) m = F k
theorem IM.tg {G0 G : GH} {o0 : Nat → Nat} {m n g : Nat} {F : Nat → Int32} (h : IM G0 o0 m G n F g) : gT G m = 11 := h.2.1
theorem IM.wI {G0 G : GH} {o0 : Nat → Nat} {m n g : Nat} {F : Nat → Int32} (h : IM G0 o0 m G n F g) (k : Nat) (v : Int32) : IM G0 o0 m (sI G (640 + k) m v) n (up1 F k v) g := by
  obtain ⟨⟨o, s, ho⟩, t, z, q, r, f⟩ := h
  refine ⟨⟨o, s.wI (fun hm => ?_), ho⟩, t, z, q, r, fun j hj => ?_⟩
  · rw [← s.ow hm, ho m (Nat.le_refl _) (by omega)]; exact in1
  · show gI (sI G (640 + k) m v) (640 + j) m = if j = k then v else F j
    by_cases c : j = k
    · rw [if_pos c, c, gI_eq]
    · rw [if_neg c, gI_ne (by omega)]; exact f j hj
theorem IM.row {G0 G : GH} {o0 : Nat → Nat} {m n g : Nat} {F : Nat → Int32} (h : IM G0 o0 m G n F g) {k t l : Nat} (hk : k < 58) (ha : aK k = true) (hp : pK k = n) (ht : aG k = t) (hl : aN k = l) : IM G0 o0 m (sR (al G t l) (640 + k) m (some (gz G))) (n + 1) F (g + l) := by
  obtain ⟨⟨o, s, ho⟩, tm, z, q, r, f⟩ := h
  have hm : m ≠ gz G := by omega
  have eb : gz G = bM m k := by unfold bM; omega
  refine ⟨⟨uo o (gz G) m, (s.al m).wR (fun hm' => ?_), fun j h1 h2 => ?_⟩, ?_, ?_, ?_, fun j hj hja hjn => ?_, fun j hj => ?_⟩
  · rw [← s.ow hm', ho m (Nat.le_refl _) (by omega)]; exact in1
  · have h2 : j < gz G + 1 := h2
    by_cases c : j = gz G
    · rw [c, uo_eq]
    · rw [uo_ne c]; exact ho j h1 (by omega)
  · show gT (al G t l) m = 11
    rw [gT_al, if_neg hm]; exact tm
  · show gz G + 1 = _
    omega
  · show gs G + l = _
    omega
  · by_cases c : j = k
    · rw [c]
      refine ⟨by rw [← eb]; exact gR_sR_eq, ?_, ?_, fun i => ?_⟩
      · show gT (al G t l) (bM m k) = _
        rw [gT_al, if_pos eb.symm, ht]
      · show gN (al G t l) (bM m k) = _
        rw [gN_al, if_pos eb.symm, hl]
      · show gA (al G t l) (bM m k) i = _
        rw [gA_al, if_pos eb.symm]
    · have hjn' : pK j ≠ n := fun z => c (pK_in j hj hja k hk ha (by omega))
      obtain ⟨a1, a2, a3, a4⟩ := r j hj hja (by omega)
      have hne : bM m j ≠ gz G := by unfold bM; omega
      refine ⟨?_, ?_, ?_, fun i => ?_⟩
      · rw [gR_sR, if_neg (fun z => c (by omega)), gR_al, if_neg hm]; exact a1
      · show gT (al G t l) (bM m j) = _
        rw [gT_al, if_neg hne]; exact a2
      · show gN (al G t l) (bM m j) = _
        rw [gN_al, if_neg hne]; exact a3
      · show gA (al G t l) (bM m j) i = _
        rw [gA_al, if_neg hne]; exact a4 i
  · show gI (al G t l) (640 + j) m = F j
    rw [gI_al, if_neg hm]; exact f j hj
end MOINIT
