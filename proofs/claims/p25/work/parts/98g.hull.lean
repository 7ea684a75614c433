section HULL
abbrev inW (z : Int) (w : WT) : Prop := (wS w).toInt ≤ z ∧ z < (wE w).toInt
abbrev itW (z : Int) (w : WT) : Prop := (wS w).toInt < z ∧ z < (wE w).toInt
theorem abs_S (w x : WT) : (wS (absorb w x)).toInt = min (wS w).toInt (wS x).toInt := mnI_int _ _
theorem abs_E (w x : WT) : (wE (absorb w x)).toInt = max (wE w).toInt (wE x).toInt := mxI_int _ _
theorem meets_int {w x : WT} : meets w x ↔ wK w = wK x ∧ (wS w).toInt < (wE x).toInt ∧ (wS x).toInt < (wE w).toInt := by
  unfold meets
  rw [Int32.lt_iff_toInt_lt, Int32.lt_iff_toInt_lt]
/-- the hull of overlapping windows meets no more than the first did -/
theorem hull_meets : ∀ (M : List WT) (w y : WT), DJ M → (∀ x ∈ M, meets w x ∧ (wS x).toInt < (wE x).toInt) → (wS w).toInt < (wE w).toInt → (wS y).toInt < (wE y).toInt → (∀ x ∈ M, wK x = wK y → wE x ≤ wS y ∨ wE y ≤ wS x) → (meets (mkA w M) y ↔ meets w y)
  | [], _, _, _, _, _, _, _ => Iff.rfl
  | x :: M, w, y, hd, hm, hw, hy, hq => by
    obtain ⟨d1, d2⟩ := List.pairwise_cons.mp hd
    obtain ⟨m1, m2⟩ := hm x (by simp)
    have ew := abs_S w x
    have ee := abs_E w x
    have ih := hull_meets M (absorb w x) y d2 (fun z hz => ⟨(meets_abs hw m2 (hm z (by simp [hz])).2 m1 (d1 z hz)).mpr (hm z (by simp [hz])).1, (hm z (by simp [hz])).2⟩) (by omega) hy (fun z hz => hq z (by simp [hz]))
    exact ih.trans (meets_abs hw m2 hy m1 (hq x (by simp)))
/-- what lies in the hull lies in one of them -/
theorem hull_in : ∀ (M : List WT) (w : WT), DJ M → (∀ x ∈ M, meets w x ∧ (wS x).toInt < (wE x).toInt) → (wS w).toInt < (wE w).toInt → ∀ z : Int, (inW z (mkA w M) ↔ inW z w ∨ ∃ x ∈ M, inW z x) ∧ (itW z (mkA w M) → itW z w ∨ ∃ x ∈ M, itW z x)
  | [], w, _, _, _, z => ⟨⟨Or.inl, fun h => h.elim id (fun ⟨x, hx, _⟩ => absurd hx (by simp))⟩, Or.inl⟩
  | x :: M, w, hd, hm, hw, z => by
    obtain ⟨d1, d2⟩ := List.pairwise_cons.mp hd
    obtain ⟨m1, m2⟩ := hm x (by simp)
    have ew := abs_S w x
    have ee := abs_E w x
    obtain ⟨-, o1, o2⟩ := meets_int.mp m1
    have a1 : inW z (absorb w x) ↔ inW z w ∨ inW z x := by
      unfold inW
      rw [ew, ee]
      omega
    have a2 : itW z (absorb w x) → itW z w ∨ itW z x := by
      unfold itW
      rw [ew, ee]
      omega
    obtain ⟨i1, i2⟩ := hull_in M (absorb w x) d2 (fun z hz => ⟨(meets_abs hw m2 (hm z (by simp [hz])).2 m1 (d1 z hz)).mpr (hm z (by simp [hz])).1, (hm z (by simp [hz])).2⟩) (by omega) z
    refine ⟨?_, fun h => ?_⟩
    · show inW z (mkA (absorb w x) M) ↔ _
      rw [i1, a1]
      constructor
      · rintro ((h | h) | ⟨y, hy, h⟩)
        · exact Or.inl h
        · exact Or.inr ⟨x, by simp, h⟩
        · exact Or.inr ⟨y, by simp [hy], h⟩
      · rintro (h | ⟨y, hy, h⟩)
        · exact Or.inl (Or.inl h)
        · rcases List.mem_cons.mp hy with e | hy
          · exact Or.inl (Or.inr (e ▸ h))
          · exact Or.inr ⟨y, hy, h⟩
    · rcases i2 h with h | ⟨y, hy, h⟩
      · rcases a2 h with h | h
        · exact Or.inl h
        · exact Or.inr ⟨x, by simp, h⟩
      · exact Or.inr ⟨y, by simp [hy], h⟩
theorem mkA_E : ∀ (M : List WT) (w : WT), wE (mkA w M) = wE w ∨ ∃ x ∈ M, wE (mkA w M) = wE x
  | [], _ => Or.inl rfl
  | x :: M, w => by
    rcases mkA_E M (absorb w x) with h | ⟨y, hy, h⟩
    · have h : wE (mkA w (x :: M)) = mxI (wE w) (wE x) := h
      unfold mxI at h
      split at h
      · exact Or.inr ⟨x, by simp, h⟩
      · exact Or.inl h
    · exact Or.inr ⟨y, by simp [hy], h⟩
theorem mkA_le : ∀ (M : List WT) (w : WT), ((wS (mkA w M)).toInt ≤ (wS w).toInt ∧ (wE w).toInt ≤ (wE (mkA w M)).toInt) ∧ ∀ x ∈ M, (wS (mkA w M)).toInt ≤ (wS x).toInt ∧ (wE x).toInt ≤ (wE (mkA w M)).toInt
  | [], _ => ⟨⟨Int.le_refl _, Int.le_refl _⟩, fun x hx => absurd hx (by simp)⟩
  | x :: M, w => by
    obtain ⟨⟨a1, a2⟩, a3⟩ := mkA_le M (absorb w x)
    have ew := abs_S w x
    have ee := abs_E w x
    have a1 : (wS (mkA w (x :: M))).toInt ≤ (wS (absorb w x)).toInt := a1
    have a2 : (wE (absorb w x)).toInt ≤ (wE (mkA w (x :: M))).toInt := a2
    refine ⟨⟨by omega, by omega⟩, fun y hy => ?_⟩
    rcases List.mem_cons.mp hy with e | hy
    · subst e; exact ⟨by omega, by omega⟩
    · exact a3 y hy
/-- sums over windows -/
def smC : List WT → Int32
  | [] => 0
  | x :: M => wC x + smC M
def smM : List WT → Int32
  | [] => 0
  | x :: M => wM x + smM M
theorem mkA_sum : ∀ (M : List WT) (w : WT), wC (mkA w M) = wC w + smC M ∧ wM (mkA w M) = wM w + smM M
  | [], w => ⟨(Int32.add_zero _).symm, (Int32.add_zero _).symm⟩
  | x :: M, w => by
    obtain ⟨h1, h2⟩ := mkA_sum M (absorb w x)
    have h1 : wC (mkA w (x :: M)) = wC w + wC x + smC M := h1
    have h2 : wM (mkA w (x :: M)) = wM w + wM x + smM M := h2
    rw [h1, h2, Int32.add_assoc, Int32.add_assoc]
    exact ⟨rfl, rfl⟩
/-- what is counted of a history in a window of the third kind -/
def gz1 (jb : Nat → Int32) (H : List ET) (w : WT) : WT := gat (jb 0) (jb 1) (jb 3) (wK w) (wE w) (wK w, wS w, wE w, 0, 0, 0) H
theorem gat_fix {kd sz gr key en : Int32} : ∀ (H : List ET) (w : WT), wK (gat kd sz gr key en w H) = wK w ∧ wS (gat kd sz gr key en w H) = wS w ∧ wE (gat kd sz gr key en w H) = wE w ∧ wO (gat kd sz gr key en w H) = wO w
  | [], _ => ⟨rfl, rfl, rfl, rfl⟩
  | e :: H, w => by
    have ih := gat_fix (kd := kd) (sz := sz) (gr := gr) (key := key) (en := en) H (if admE kd sz gr key en e then (if eT e < wS w then w else if wE w ≤ eT e then w else addV w (eV e)) else w)
    have h0 : ∀ u : WT, (u = w ∨ u = addV w (eV e)) → wK u = wK w ∧ wS u = wS w ∧ wE u = wE w ∧ wO u = wO w := fun u h => by
      rcases h with h | h <;> rw [h] <;> exact ⟨rfl, rfl, rfl, rfl⟩
    have h1 := h0 (if admE kd sz gr key en e then (if eT e < wS w then w else if wE w ≤ eT e then w else addV w (eV e)) else w) (by
      split
      · split
        · exact Or.inl rfl
        · split
          · exact Or.inl rfl
          · exact Or.inr rfl
      · exact Or.inl rfl)
    exact ⟨ih.1.trans h1.1, ih.2.1.trans h1.2.1, ih.2.2.1.trans h1.2.2.1, ih.2.2.2.trans h1.2.2.2⟩
theorem gz_snoc {jb : Nat → Int32} (hk : jb 0 = 2) (H : List ET) (e : ET) (w : WT) : gz1 jb (H ++ [e]) w = if adG jb (wK w) e ∧ inW (eT e).toInt w then addV (gz1 jb H w) (eV e) else gz1 jb H w := by
  unfold gz1
  rw [gat_snoc]
  obtain ⟨-, f2, f3, -⟩ := gat_fix (kd := jb 0) (sz := jb 1) (gr := jb 3) (key := wK w) (en := wE w) H (wK w, wS w, wE w, 0, 0, 0)
  rw [f2, f3]
  show (if admE (jb 0) (jb 1) (jb 3) (wK w) (wE w) e then (if eT e < wS w then _ else if wE w ≤ eT e then _ else _) else _) = _
  have ea : admE (jb 0) (jb 1) (jb 3) (wK w) (wE w) e ↔ adG jb (wK w) e := by
    unfold admE adG
    rw [if_pos hk]
  by_cases c : adG jb (wK w) e
  · rw [if_pos (ea.mpr c)]
    by_cases c1 : eT e < wS w
    · have := i32_lt c1
      rw [if_pos c1, if_neg (fun z => by have := z.2.1; omega)]
    · have d1 := i32_nlt c1
      rw [if_neg c1]
      by_cases c2 : wE w ≤ eT e
      · have := i32_le c2
        rw [if_pos c2, if_neg (fun z => by have := z.2.2; omega)]
      · have d2 := i32_nle c2
        rw [if_neg c2, if_pos ⟨c, d1, d2⟩]
  · rw [if_neg (fun z => c (ea.mp z)), if_neg (fun z => c z.1)]
/-- the hull's count is the sum of theirs -/
theorem gz_sum {jb : Nat → Int32} (hk : jb 0 = 2) {h : WT} {M : List WT} (hM : ∀ x ∈ M, wK x = wK h) (hd : DJ M) : ∀ (n : Nat) (H : List ET), H.length = n → (∀ e ∈ H, adG jb (wK h) e → (inW (eT e).toInt h ↔ ∃ x ∈ M, inW (eT e).toInt x)) → wC (gz1 jb H h) = smC (M.map (gz1 jb H)) ∧ wM (gz1 jb H h) = smM (M.map (gz1 jb H)) := by
  have zero : ∀ L : List WT, smC (L.map (gz1 jb [])) = 0 ∧ smM (L.map (gz1 jb [])) = 0 := fun L => by
    induction L with
    | nil => exact ⟨rfl, rfl⟩
    | cons x L ih =>
      show (0 : Int32) + smC (L.map _) = 0 ∧ (0 : Int32) + smM (L.map _) = 0
      rw [ih.1, ih.2]
      exact ⟨rfl, rfl⟩
  -- one more event, in none of them or in one
  have one : ∀ (H : List ET) (e : ET) (L : List WT), (∀ x ∈ L, wK x = wK h) → DJ L → smC (L.map (gz1 jb (H ++ [e]))) = smC (L.map (gz1 jb H)) + (if adG jb (wK h) e ∧ ∃ x ∈ L, inW (eT e).toInt x then 1 else 0) ∧ smM (L.map (gz1 jb (H ++ [e]))) = smM (L.map (gz1 jb H)) + (if adG jb (wK h) e ∧ ∃ x ∈ L, inW (eT e).toInt x then eV e else 0) := by
    intro H e L
    induction L with
    | nil =>
      intro _ _
      have no : ¬ (adG jb (wK h) e ∧ ∃ x ∈ ([] : List WT), inW (eT e).toInt x) := fun ⟨_, x, hx, _⟩ => absurd hx (by simp)
      rw [if_neg no, if_neg no]
      exact ⟨rfl, rfl⟩
    | cons x L ih =>
      intro hk2 hd2
      obtain ⟨d1, d2⟩ := List.pairwise_cons.mp hd2
      obtain ⟨i1, i2⟩ := ih (fun y hy => hk2 y (by simp [hy])) d2
      show wC (gz1 jb (H ++ [e]) x) + smC (L.map _) = wC (gz1 jb H x) + smC (L.map _) + _ ∧ wM (gz1 jb (H ++ [e]) x) + smM (L.map _) = wM (gz1 jb H x) + smM (L.map _) + _
      rw [i1, i2, gz_snoc hk, hk2 x (by simp)]
      by_cases c : adG jb (wK h) e ∧ inW (eT e).toInt x
      · have no : ¬ (adG jb (wK h) e ∧ ∃ y ∈ L, inW (eT e).toInt y) := by
          rintro ⟨-, y, hy, b1, b2⟩
          have c1 := c.2.1
          have c2 := c.2.2
          rcases d1 y hy ((hk2 x (by simp)).trans (hk2 y (by simp [hy])).symm) with z | z
          · have := i32_le z; omega
          · have := i32_le z; omega
        have yes : adG jb (wK h) e ∧ ∃ y ∈ x :: L, inW (eT e).toInt y := ⟨c.1, x, by simp, c.2⟩
        rw [if_pos c, if_neg no, if_neg no, if_pos yes, if_pos yes, Int32.add_zero, Int32.add_zero]
        constructor
        · show wC (gz1 jb H x) + 1 + _ = _
          ac_rfl
        · show wM (gz1 jb H x) + eV e + _ = _
          ac_rfl
      · rw [if_neg c]
        have iff : (adG jb (wK h) e ∧ ∃ y ∈ x :: L, inW (eT e).toInt y) ↔ (adG jb (wK h) e ∧ ∃ y ∈ L, inW (eT e).toInt y) := by
          constructor
          · rintro ⟨a, y, hy, b⟩
            rcases List.mem_cons.mp hy with e1 | hy
            · exact absurd ⟨a, e1 ▸ b⟩ c
            · exact ⟨a, y, hy, b⟩
          · rintro ⟨a, y, hy, b⟩
            exact ⟨a, y, by simp [hy], b⟩
        by_cases q : adG jb (wK h) e ∧ ∃ y ∈ L, inW (eT e).toInt y
        · rw [if_pos q, if_pos q, if_pos (iff.mpr q), if_pos (iff.mpr q), Int32.add_assoc, Int32.add_assoc]
          exact ⟨rfl, rfl⟩
        · rw [if_neg q, if_neg q, if_neg (fun z => q (iff.mp z)), if_neg (fun z => q (iff.mp z)), Int32.add_assoc, Int32.add_assoc]
          exact ⟨rfl, rfl⟩
  intro n
  induction n with
  | zero =>
    intro H hH _
    have e : H = [] := List.length_eq_zero_iff.mp hH
    subst e
    rw [(zero M).1, (zero M).2]
    exact ⟨rfl, rfl⟩
  | succ n ih =>
    intro H hH hc
    obtain ⟨g, e, hg⟩ : ∃ g e, H = g ++ [e] := by
      rcases List.eq_nil_or_concat H with c | ⟨g, e, c⟩
      · rw [c] at hH; simp at hH
      · exact ⟨g, e, by rw [c]; simp⟩
    subst hg
    have hl : g.length = n := by rw [List.length_append] at hH; simp at hH; exact hH
    obtain ⟨i1, i2⟩ := ih g hl (fun z hz => hc z (by simp [hz]))
    obtain ⟨o1, o2⟩ := one g e M hM hd
    rw [gz_snoc hk, o1, o2, ← i1, ← i2]
    by_cases a : adG jb (wK h) e
    · have he := hc e (by simp) a
      by_cases b : inW (eT e).toInt h
      · rw [if_pos ⟨a, b⟩, if_pos ⟨a, he.mp b⟩, if_pos ⟨a, he.mp b⟩]
        exact ⟨rfl, rfl⟩
      · rw [if_neg (fun z => b z.2), if_neg (fun z => b (he.mpr z.2)), if_neg (fun z => b (he.mpr z.2)), Int32.add_zero, Int32.add_zero]
        exact ⟨rfl, rfl⟩
    · rw [if_neg (fun z => a z.1), if_neg (fun z => a z.1), if_neg (fun z => a z.1), Int32.add_zero, Int32.add_zero]
      exact ⟨rfl, rfl⟩
end HULL
