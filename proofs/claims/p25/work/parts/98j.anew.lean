section ANEW
/-- an event that a window would have begun before -/
def badE (jb : Nat → Int32) (q s : Int32) (e : ET) : Prop := adG jb q e ∧ ¬ s ≤ eT e ∧ ¬ eT e + jb 1 ≤ s
theorem adm_G {jb : Nat → Int32} (hk : jb 0 = 2) {q en : Int32} {e : ET} : admE (jb 0) (jb 1) (jb 3) q en e ↔ adG jb q e := by
  unfold admE adG
  rw [if_pos hk]
theorem ebg1_spec {jb : Nat → Int32} (hk : jb 0 = 2) {q s : Int32} : ∀ (L : List ET) (f : Int32), (f = 0 ∨ f = 1) → ((∃ e ∈ L, badE jb q s e) → ebg1 (jb 0) (jb 1) (jb 3) q s f L = none) ∧ ((∀ e ∈ L, ¬ badE jb q s e) → ∃ f', ebg1 (jb 0) (jb 1) (jb 3) q s f L = some f' ∧ (f' = 0 ↔ f = 0 ∧ ∀ e ∈ L, adG jb q e → ¬ eT e = s))
  | [], f, _ => ⟨fun ⟨e, he, _⟩ => absurd he (by simp), fun _ => ⟨f, rfl, ⟨fun h => ⟨h, fun e he => absurd he (by simp)⟩, fun h => h.1⟩⟩⟩
  | e :: L, f, hf => by
    have o1 : (f ||| (if eT e = s then 1 else 0)) = (if eT e = s then 1 else f) := by
      by_cases c : eT e = s
      · rw [if_pos c, if_pos c]
        rcases hf with h | h <;> rw [h] <;> decide +kernel
      · rw [if_neg c, if_neg c, Int32.or_zero]
    have o2 : (if eT e = s then (1 : Int32) else f) = 0 ∨ (if eT e = s then (1 : Int32) else f) = 1 := by
      split
      · exact Or.inr rfl
      · exact hf
    obtain ⟨i1, i2⟩ := ebg1_spec hk (q := q) (s := s) L (if eT e = s then 1 else f) o2
    obtain ⟨j1, j2⟩ := ebg1_spec hk (q := q) (s := s) L f hf
    unfold ebg1
    rw [o1, Int32.or_zero]
    by_cases a : adG jb q e
    · rw [if_pos ((adm_G hk).mpr a)]
      have fin : ¬ badE jb q s e → ((∃ z ∈ e :: L, badE jb q s z) → ebg1 (jb 0) (jb 1) (jb 3) q s (if eT e = s then 1 else f) L = none) ∧ ((∀ z ∈ e :: L, ¬ badE jb q s z) → ∃ f', ebg1 (jb 0) (jb 1) (jb 3) q s (if eT e = s then 1 else f) L = some f' ∧ (f' = 0 ↔ f = 0 ∧ ∀ z ∈ e :: L, adG jb q z → ¬ eT z = s)) := fun nb => by
        refine ⟨fun ⟨z, hz, hb⟩ => i1 ?_, fun h => ?_⟩
        · rcases List.mem_cons.mp hz with e1 | hz
          · exact absurd (e1 ▸ hb) nb
          · exact ⟨z, hz, hb⟩
        · obtain ⟨f', e1, e2⟩ := i2 (fun z hz => h z (by simp [hz]))
          refine ⟨f', e1, e2.trans ?_⟩
          by_cases c : eT e = s
          · rw [if_pos c]
            exact ⟨fun z => absurd z.1 (by decide +kernel), fun z => absurd c (z.2 e (by simp) a)⟩
          · rw [if_neg c]
            exact ⟨fun z => ⟨z.1, fun y hy => (List.mem_cons.mp hy).elim (fun q _ => q ▸ c) (z.2 y)⟩, fun z => ⟨z.1, fun y hy => z.2 y (by simp [hy])⟩⟩
      by_cases c1 : s ≤ eT e
      · rw [if_pos c1]; exact fin (fun z => z.2.1 c1)
      · rw [if_neg c1]
        by_cases c2 : eT e + jb 1 ≤ s
        · rw [if_pos c2]; exact fin (fun z => z.2.2 c2)
        · rw [if_neg c2]
          exact ⟨fun _ => rfl, fun h => absurd ⟨a, c1, c2⟩ (h e (by simp))⟩
    · rw [if_neg (fun z => a ((adm_G hk).mp z))]
      refine ⟨fun ⟨z, hz, hb⟩ => j1 ?_, fun h => ?_⟩
      · rcases List.mem_cons.mp hz with e1 | hz
        · exact absurd (e1 ▸ hb).1 a
        · exact ⟨z, hz, hb⟩
      · obtain ⟨f', e1, e2⟩ := j2 (fun z hz => h z (by simp [hz]))
        exact ⟨f', e1, e2.trans ⟨fun z => ⟨z.1, fun y hy hay => (List.mem_cons.mp hy).elim (fun q => absurd (q ▸ hay) a) (fun hy => z.2 y hy hay)⟩, fun z => ⟨z.1, fun y hy => z.2 y (by simp [hy])⟩⟩⟩
/-- one round: it is still, or an event's end is reached that was not -/
theorem fur_spec {jb : Nat → Int32} (hk : jb 0 = 2) {q s : Int32} {E : Int} (hp : 1 ≤ (jb 1).toInt) : ∀ (L : List ET) (f : Int32), (∀ e ∈ L, (eT e + jb 1).toInt = (eT e).toInt + (jb 1).toInt) → (∀ e ∈ L, adG jb q e → s.toInt ≤ (eT e).toInt → (eT e).toInt < E → (eT e).toInt + (jb 1).toInt ≤ E) → f.toInt ≤ E →
    (f.toInt ≤ (fur (jb 0) (jb 1) (jb 3) q s f L).toInt ∧ (fur (jb 0) (jb 1) (jb 3) q s f L).toInt ≤ E) ∧ (fur (jb 0) (jb 1) (jb 3) q s f L = f → ∀ e ∈ L, adG jb q e → s.toInt ≤ (eT e).toInt → (eT e).toInt < f.toInt → (eT e).toInt + (jb 1).toInt ≤ f.toInt) ∧ (¬ fur (jb 0) (jb 1) (jb 3) q s f L = f → ∃ e ∈ L, adG jb q e ∧ s.toInt ≤ (eT e).toInt ∧ f.toInt < (eT e).toInt + (jb 1).toInt ∧ (eT e).toInt + (jb 1).toInt ≤ (fur (jb 0) (jb 1) (jb 3) q s f L).toInt)
  | [], f, _, _, hE => ⟨⟨Int.le_refl _, hE⟩, fun _ e he => absurd he (by simp), fun h => absurd rfl h⟩
  | e :: L, f, hz, hb, hE => by
    have he := hz e (by simp)
    have hstep : ∃ g, fur (jb 0) (jb 1) (jb 3) q s f (e :: L) = fur (jb 0) (jb 1) (jb 3) q s g L ∧ ((g = f ∧ (adG jb q e → s.toInt ≤ (eT e).toInt → (eT e).toInt < f.toInt → (eT e).toInt + (jb 1).toInt ≤ f.toInt)) ∨ (adG jb q e ∧ s.toInt ≤ (eT e).toInt ∧ (eT e).toInt < f.toInt ∧ f.toInt < (eT e).toInt + (jb 1).toInt ∧ g.toInt = (eT e).toInt + (jb 1).toInt)) := by
      refine ⟨_, rfl, ?_⟩
      by_cases a : adG jb q e
      · rw [if_pos ((adm_G hk).mpr a)]
        by_cases c1 : eT e < s
        · have := i32_lt c1
          rw [if_pos c1]; exact Or.inl ⟨rfl, fun _ h => by omega⟩
        · have d1 := i32_nlt c1
          rw [if_neg c1]
          by_cases c2 : f ≤ eT e
          · have := i32_le c2
            rw [if_pos c2]; exact Or.inl ⟨rfl, fun _ _ h => by omega⟩
          · have d2 := i32_nle c2
            rw [if_neg c2]
            by_cases c3 : f < eT e + jb 1
            · have d3 := i32_lt c3
              rw [if_pos c3]; exact Or.inr ⟨a, d1, d2, by omega, he⟩
            · have d3 := i32_nlt c3
              rw [if_neg c3]; exact Or.inl ⟨rfl, fun _ _ _ => by omega⟩
      · rw [if_neg (fun z => a ((adm_G hk).mp z))]
        exact Or.inl ⟨rfl, fun z => absurd z a⟩
    obtain ⟨g, e1, e2⟩ := hstep
    rw [e1]
    rcases e2 with ⟨e2, e3⟩ | ⟨b1, b2, b3, b4, b5⟩
    · subst e2
      obtain ⟨i1, i2, i3⟩ := fur_spec hk hp L g (fun z h => hz z (by simp [h])) (fun z h => hb z (by simp [h])) hE
      refine ⟨i1, fun h z hz' => ?_, fun h => ?_⟩
      · rcases List.mem_cons.mp hz' with q | hz'
        · rw [q]; exact e3
        · exact i2 h z hz'
      · obtain ⟨z, z1, z2⟩ := i3 h
        exact ⟨z, by simp [z1], z2⟩
    · have gE : g.toInt ≤ E := by
        have := hb e (by simp) b1 b2 (by omega)
        omega
      obtain ⟨i1, i2, i3⟩ := fur_spec hk hp L g (fun z h => hz z (by simp [h])) (fun z h => hb z (by simp [h])) gE
      refine ⟨⟨by omega, i1.2⟩, fun h => ?_, fun h => ⟨e, by simp, b1, b2, b4, by omega⟩⟩
      rw [h] at i1
      omega
end ANEW
