section PURE8
theorem jc1_c {r : Int32} {a : JV} : ∀ (L : List JV) (c : Int32), jc1 r a c L = c + jc1 r a 0 L
  | [], c => (Int32.add_zero c).symm
  | b :: L, c => by
    unfold jc1
    by_cases d : jp r a b
    · rw [if_pos d, if_pos d, jc1_c L (c + 1), jc1_c L (0 + 1), Int32.zero_add, Int32.add_assoc]
    · rw [if_neg d, if_neg d]; exact jc1_c L c
theorem jc1_snoc {r : Int32} {a x : JV} : ∀ (L : List JV) (c : Int32), jc1 r a c (L ++ [x]) = jc1 r a c L + (if jp r a x then 1 else 0)
  | [], c => by
    show (if jp r a x then c + 1 else c) = c + _
    by_cases d : jp r a x
    · rw [if_pos d, if_pos d]
    · rw [if_neg d, if_neg d, Int32.add_zero]
  | b :: L, c => jc1_snoc L _
def cL (r : Int32) (x : JV) : List JV → Int32
  | [] => 0
  | a :: L => (if jp r a x then 1 else 0) + cL r x L
theorem jc2_c {r : Int32} {L0 : List JV} : ∀ (L : List JV) (c : Int32), jc2 r L0 c L = c + jc2 r L0 0 L
  | [], c => (Int32.add_zero c).symm
  | a :: L, c => by
    show jc2 r L0 (jc1 r a c L0) L = c + jc2 r L0 (jc1 r a 0 L0) L
    rw [jc2_c L (jc1 r a c L0), jc2_c L (jc1 r a 0 L0), jc1_c L0 c, Int32.add_assoc]
theorem jc2_l {r : Int32} {L0 : List JV} {x : JV} : ∀ (L : List JV) (c : Int32), jc2 r (L0 ++ [x]) c L = jc2 r L0 c L + cL r x L
  | [], c => (Int32.add_zero c).symm
  | a :: L, c => by
    show jc2 r (L0 ++ [x]) (jc1 r a c (L0 ++ [x])) L = jc2 r L0 (jc1 r a c L0) L + ((if jp r a x then 1 else 0) + cL r x L)
    rw [jc2_l L, jc1_snoc, jc2_c L (jc1 r a c L0 + _), jc2_c L (jc1 r a c L0)]
    ac_rfl
theorem jc2_snoc {r : Int32} {L0 : List JV} {x : JV} : ∀ (L : List JV) (c : Int32), jc2 r L0 c (L ++ [x]) = jc1 r x (jc2 r L0 c L) L0
  | [], _ => rfl
  | _ :: L, _ => jc2_snoc L _
theorem jc2_all {r : Int32} {M : List JV} {x : JV} (hx : ¬ jp r x x) : jc2 r (M ++ [x]) 0 (M ++ [x]) = jc2 r M 0 M + (cL r x M + jc1 r x 0 M) := by
  rw [jc2_snoc, jc1_c, jc1_snoc, if_neg hx, jc2_l, Int32.add_zero, Int32.add_assoc]
/-- a joined one -/
abbrev jnd (sc : SC) (e : Nat × Nat) : Prop := e.1 < 2 ∧ sEm sc e.1 e.2 ≤ ((sEv sc e.1).getD e.2 (0, 0, 0)).1
theorem jv_of {sc : SC} {e : Nat × Nat} (h : e.2 < 40) : jv sc (40 * e.1 + e.2) = (40 * e.1 + e.2, (sEv sc e.1).getD e.2 (0, 0, 0)) := by
  have h1 : (40 * e.1 + e.2) / 40 = e.1 := by omega
  have h2 : (40 * e.1 + e.2) % 40 = e.2 := by omega
  unfold jv
  rw [h1, h2]
theorem dt_ok {r a b : Int32} (ha : 0 ≤ a.toInt ∧ a.toInt ≤ 999) (hb : 0 ≤ b.toInt ∧ b.toInt ≤ 999) : (¬ r < (if b ≤ a then a - b else b - a)) ↔ ¬ r < a - b ∧ ¬ r < -(a - b) := by
  have s1 : (a - b).toInt = a.toInt - b.toInt := by
    rw [Int32.toInt_sub]
    exact Int.bmod_eq_of_le (by omega) (by omega)
  have s2 : (b - a).toInt = b.toInt - a.toInt := by
    rw [Int32.toInt_sub]
    exact Int.bmod_eq_of_le (by omega) (by omega)
  have s3 : (-(a - b)).toInt = -(a.toInt - b.toInt) := by
    rw [Int32.toInt_neg, s1]
    exact Int.bmod_eq_of_le (by omega) (by omega)
  rw [Int32.lt_iff_toInt_lt, Int32.lt_iff_toInt_lt, Int32.lt_iff_toInt_lt, s1, s3]
  by_cases c : b ≤ a
  · have := i32_le c
    rw [if_pos c, s1]
    omega
  · have := i32_nle c
    rw [if_neg c, s2]
    omega
theorem prP_jp {r : Int32} {sc : SC} {z e : Nat × Nat} (hz : z.1 < 3 ∧ z.2 < 40) (he : e.1 < 3 ∧ e.2 < 40) (nz : 0 ≤ ((sEv sc z.1).getD z.2 (0, 0, 0)).1.toInt ∧ ((sEv sc z.1).getD z.2 (0, 0, 0)).1.toInt ≤ 999) (ne : 0 ≤ ((sEv sc e.1).getD e.2 (0, 0, 0)).1.toInt ∧ ((sEv sc e.1).getD e.2 (0, 0, 0)).1.toInt ≤ 999) :
    prP r (hE sc z) (hE sc e) ↔ jnd sc z ∧ jnd sc e ∧ (jp r (jv sc (40 * z.1 + z.2)) (jv sc (40 * e.1 + e.2)) ∨ jp r (jv sc (40 * e.1 + e.2)) (jv sc (40 * z.1 + z.2))) := by
  rw [jv_of hz.2, jv_of he.2]
  unfold jnd
  have dz := dt_ok (r := r) nz ne
  have de := dt_ok (r := r) ne nz
  show (nI z.1 + nI e.1 = 1 ∧ ((sEv sc z.1).getD z.2 (0, 0, 0)).2.1 = ((sEv sc e.1).getD e.2 (0, 0, 0)).2.1 ∧ ¬ r < (if ((sEv sc e.1).getD e.2 (0, 0, 0)).1 ≤ ((sEv sc z.1).getD z.2 (0, 0, 0)).1 then ((sEv sc z.1).getD z.2 (0, 0, 0)).1 - ((sEv sc e.1).getD e.2 (0, 0, 0)).1 else ((sEv sc e.1).getD e.2 (0, 0, 0)).1 - ((sEv sc z.1).getD z.2 (0, 0, 0)).1) ∧ sEm sc z.1 z.2 ≤ ((sEv sc z.1).getD z.2 (0, 0, 0)).1 ∧ sEm sc e.1 e.2 ≤ ((sEv sc e.1).getD e.2 (0, 0, 0)).1) ↔ _
  generalize ((sEv sc z.1).getD z.2 (0, 0, 0)) = vz at *
  generalize ((sEv sc e.1).getD e.2 (0, 0, 0)) = ve at *
  have es : nI z.1 + nI e.1 = 1 ↔ z.1 + e.1 = 1 := by
    rw [nI_add]
    exact nI_eq (b := 1) (by omega) (by omega)
  have dt : (if ve.1 ≤ vz.1 then vz.1 - ve.1 else ve.1 - vz.1) = (if vz.1 ≤ ve.1 then ve.1 - vz.1 else vz.1 - ve.1) := by
    by_cases c : ve.1 ≤ vz.1
    · rw [if_pos c]
      by_cases d : vz.1 ≤ ve.1
      · rw [if_pos d, Int32.le_antisymm c d]
      · rw [if_neg d]
    · rw [if_neg c, if_pos (Int32.le_of_lt (Int32.not_le.mp c))]
  constructor
  · rintro ⟨h1, h2, h3, h4, h5⟩
    have h1 := es.mp h1
    refine ⟨⟨by omega, h4⟩, ⟨by omega, h5⟩, ?_⟩
    by_cases c : z.1 = 0
    · exact Or.inl ⟨by show 40 * z.1 + z.2 < 40; omega, by show ¬ 40 * e.1 + e.2 < 40; omega, h2, (dz.mp h3).1, (dz.mp h3).2⟩
    · have h3 : ¬ r < (if vz.1 ≤ ve.1 then ve.1 - vz.1 else vz.1 - ve.1) := by rw [← dt]; exact h3
      exact Or.inr ⟨by show 40 * e.1 + e.2 < 40; omega, by show ¬ 40 * z.1 + z.2 < 40; omega, h2.symm, (de.mp h3).1, (de.mp h3).2⟩
  · rintro ⟨⟨a1, a2⟩, ⟨b1, b2⟩, h⟩
    rcases h with ⟨c1, c2, c3, c4, c5⟩ | ⟨c1, c2, c3, c4, c5⟩
    · have c1 : 40 * z.1 + z.2 < 40 := c1
      have c2 : ¬ 40 * e.1 + e.2 < 40 := c2
      exact ⟨es.mpr (by omega), c3, dz.mpr ⟨c4, c5⟩, a2, b2⟩
    · have c1 : 40 * e.1 + e.2 < 40 := c1
      have c2 : ¬ 40 * z.1 + z.2 < 40 := c2
      refine ⟨es.mpr (by omega), c3.symm, ?_, a2, b2⟩
      show ¬ r < (if ve.1 ≤ vz.1 then vz.1 - ve.1 else ve.1 - vz.1)
      rw [dt]; exact de.mpr ⟨c4, c5⟩
theorem jp_not {r : Int32} {a b : JV} (h : jp r a b) : ¬ jp r b a := fun z => h.2.1 z.1
theorem jdO_cons {sc : SC} {z : Nat × Nat} {h : List (Nat × Nat)} : jdO sc (z :: h) = if jnd sc z then (40 * z.1 + z.2) :: jdO sc h else jdO sc h := by
  unfold jdO
  by_cases c : jnd sc z
  · rw [if_pos c, List.filter_cons_of_pos (by rw [decide_eq_true_eq]; exact c)]; rfl
  · rw [if_neg c, List.filter_cons_of_neg (by rw [decide_eq_true_eq]; exact c)]
def OKE (sc : SC) (z : Nat × Nat) : Prop := (z.1 < 3 ∧ z.2 < 40) ∧ 0 ≤ ((sEv sc z.1).getD z.2 (0, 0, 0)).1.toInt ∧ ((sEv sc z.1).getD z.2 (0, 0, 0)).1.toInt ≤ 999
theorem pair_one {r : Int32} {sc : SC} {e : Nat × Nat} (he : OKE sc e) : ∀ h : List (Nat × Nat), (∀ z ∈ h, OKE sc z) → cntP r (hE sc e) 0 (h.map (hE sc)) = if jnd sc e then cL r (jv sc (40 * e.1 + e.2)) ((jdO sc h).map (jv sc)) + jc1 r (jv sc (40 * e.1 + e.2)) 0 ((jdO sc h).map (jv sc)) else 0
  | [], _ => by
    split
    · rfl
    · rfl
  | z :: h, hz => by
    have ih := pair_one (r := r) he h (fun y hy => hz y (by simp [hy]))
    have oz := hz z (by simp)
    have pj := prP_jp (r := r) oz.1 he.1 oz.2 he.2
    rw [List.map_cons, jdO_cons]
    show cntP r (hE sc e) (if prP r (hE sc z) (hE sc e) then 0 + 1 else 0) (h.map (hE sc)) = _
    rw [cntP_c, ih]
    by_cases cz : jnd sc z
    · rw [if_pos cz, List.map_cons]
      by_cases ce : jnd sc e
      · rw [if_pos ce, if_pos ce]
        show _ = ((if jp r (jv sc (40 * z.1 + z.2)) (jv sc (40 * e.1 + e.2)) then 1 else 0) + cL r _ _) + jc1 r _ (if jp r (jv sc (40 * e.1 + e.2)) (jv sc (40 * z.1 + z.2)) then 0 + 1 else 0) _
        rw [jc1_c _ (if jp r (jv sc (40 * e.1 + e.2)) (jv sc (40 * z.1 + z.2)) then 0 + 1 else 0)]
        by_cases c1 : jp r (jv sc (40 * z.1 + z.2)) (jv sc (40 * e.1 + e.2))
        · rw [if_pos (pj.mpr ⟨cz, ce, Or.inl c1⟩), if_pos c1, if_neg (jp_not c1), Int32.zero_add, Int32.zero_add, Int32.add_assoc]
        · by_cases c2 : jp r (jv sc (40 * e.1 + e.2)) (jv sc (40 * z.1 + z.2))
          · rw [if_pos (pj.mpr ⟨cz, ce, Or.inr c2⟩), if_neg c1, if_pos c2, Int32.zero_add, Int32.zero_add]
            ac_rfl
          · rw [if_neg (fun q => (pj.mp q).2.2.elim c1 c2), if_neg c1, if_neg c2, Int32.zero_add, Int32.zero_add, Int32.zero_add]
      · rw [if_neg ce, if_neg ce, if_neg (fun q => ce (pj.mp q).2.1)]; rfl
    · rw [if_neg cz, if_neg (fun q => cz (pj.mp q).1), Int32.zero_add]
theorem pair_all {r : Int32} {sc : SC} : ∀ (n : Nat) (h : List (Nat × Nat)), h.length = n → (∀ z ∈ h, OKE sc z) → cntA r 0 [] (h.map (hE sc)) = jc2 r ((jdO sc h).map (jv sc)) 0 ((jdO sc h).map (jv sc)) := by
  intro n
  induction n with
  | zero =>
    intro h hn _
    have e : h = [] := List.length_eq_zero_iff.mp hn
    subst e; rfl
  | succ n ih =>
    intro h hn hz
    obtain ⟨g, e, hg⟩ : ∃ g e, h = g ++ [e] := by
      rcases List.eq_nil_or_concat h with c | ⟨g, e, c⟩
      · rw [c] at hn; simp at hn
      · exact ⟨g, e, by rw [c]; simp⟩
    subst hg
    have hl : g.length = n := by rw [List.length_append] at hn; simp at hn; exact hn
    have ihg := ih g hl (fun z h => hz z (by simp [h]))
    have he := hz e (by simp)
    rw [List.map_append, List.map_cons, List.map_nil, cntA_snoc, List.nil_append, cntQ_P, cntP_c, ihg, pair_one he g (fun z h => hz z (by simp [h])), jdO_app]
    have e1 : jdO sc [e] = if jnd sc e then [40 * e.1 + e.2] else [] := jdO_cons
    rw [e1]
    by_cases c : jnd sc e
    · rw [if_pos c, if_pos c, List.map_append, List.map_cons, List.map_nil, jc2_all (fun z => z.2.1 z.1)]
    · rw [if_neg c, if_neg c, List.append_nil, Int32.add_zero]
end PURE8
