section ANEW2
theorem flt_all {p : ET → Bool} : ∀ L : List ET, L.length ≤ (L.filter p).length → ∀ e ∈ L, p e = true
  | [], _, e, he => absurd he (by simp)
  | x :: L, h, e, he => by
    have l := List.length_filter_le p L
    by_cases c : p x = true
    · rw [List.filter_cons_of_pos c, List.length_cons, List.length_cons] at h
      rcases List.mem_cons.mp he with q | he
      · rw [q]; exact c
      · exact flt_all L (by omega) e he
    · rw [List.filter_cons_of_neg c, List.length_cons] at h
      omega
theorem flt_le {p p' : ET → Bool} : ∀ L : List ET, (∀ e ∈ L, p e = true → p' e = true) → (L.filter p).length ≤ (L.filter p').length ∧ ((∃ e ∈ L, ¬ p e = true ∧ p' e = true) → (L.filter p).length + 1 ≤ (L.filter p').length)
  | [], _ => ⟨Nat.le_refl _, fun ⟨e, he, _⟩ => absurd he (by simp)⟩
  | x :: L, h => by
    obtain ⟨i1, i2⟩ := flt_le L (fun e he => h e (by simp [he]))
    have n : ∀ (r : ET → Bool), ((x :: L).filter r).length = (if r x = true then 1 else 0) + (L.filter r).length := fun r => by
      by_cases c : r x = true
      · rw [List.filter_cons_of_pos c, if_pos c, List.length_cons]; omega
      · rw [List.filter_cons_of_neg c, if_neg c]; omega
    rw [n, n]
    have hx := h x (by simp)
    refine ⟨?_, fun ⟨e, he, e1, e2⟩ => ?_⟩
    · by_cases c : p x = true
      · rw [if_pos c, if_pos (hx c)]; omega
      · rw [if_neg c]; omega
    · rcases List.mem_cons.mp he with q | he
      · rw [if_neg (by rw [← q]; exact e1), if_pos (by rw [← q]; exact e2)]; omega
      · have := i2 ⟨e, he, e1, e2⟩
        by_cases c : p x = true
        · rw [if_pos c, if_pos (hx c)]; omega
        · rw [if_neg c]; omega
def cntF (jb : Nat → Int32) (q s : Int32) (f : Int32) (H : List ET) : Nat := (H.filter (fun e => decide (adG jb q e ∧ s.toInt ≤ (eT e).toInt ∧ (eT e).toInt + (jb 1).toInt ≤ f.toInt))).length
theorem ebg2_spec {jb : Nat → Int32} (hk : jb 0 = 2) {q s : Int32} {E : Int} (hp : 1 ≤ (jb 1).toInt) {H : List ET} (hz : ∀ e ∈ H, (eT e + jb 1).toInt = (eT e).toInt + (jb 1).toInt) (hb : ∀ e ∈ H, adG jb q e → s.toInt ≤ (eT e).toInt → (eT e).toInt < E → (eT e).toInt + (jb 1).toInt ≤ E) : ∀ (n : Nat) (f : Int32), f.toInt ≤ E → H.length ≤ cntF jb q s f H + n → (f.toInt ≤ (ebg2 (jb 0) (jb 1) (jb 3) q s H n f).toInt ∧ (ebg2 (jb 0) (jb 1) (jb 3) q s H n f).toInt ≤ E) ∧ ∀ e ∈ H, adG jb q e → s.toInt ≤ (eT e).toInt → (eT e).toInt < (ebg2 (jb 0) (jb 1) (jb 3) q s H n f).toInt → (eT e).toInt + (jb 1).toInt ≤ (ebg2 (jb 0) (jb 1) (jb 3) q s H n f).toInt
  | 0, f, hE, hc => ⟨⟨Int.le_refl _, hE⟩, fun e he _ _ _ => (of_decide_eq_true (flt_all H hc e he)).2.2⟩
  | n + 1, f, hE, hc => by
    obtain ⟨⟨i1, i2⟩, i3, i4⟩ := fur_spec hk (q := q) (s := s) hp H f hz hb hE
    unfold ebg2
    by_cases c : fur (jb 0) (jb 1) (jb 3) q s f H = f
    · rw [if_pos c]
      exact ⟨⟨Int.le_refl _, hE⟩, i3 c⟩
    · rw [if_neg c]
      obtain ⟨e, e1, e2, e3, e4, e5⟩ := i4 c
      have k := (flt_le (p := fun e => decide (adG jb q e ∧ s.toInt ≤ (eT e).toInt ∧ (eT e).toInt + (jb 1).toInt ≤ f.toInt)) (p' := fun e => decide (adG jb q e ∧ s.toInt ≤ (eT e).toInt ∧ (eT e).toInt + (jb 1).toInt ≤ (fur (jb 0) (jb 1) (jb 3) q s f H).toInt)) H (fun e _ h => by
        have h := of_decide_eq_true h
        exact decide_eq_true ⟨h.1, h.2.1, by omega⟩)).2 ⟨e, e1, fun h => by
          have h := of_decide_eq_true h
          omega, decide_eq_true ⟨e2, e3, e5⟩⟩
      obtain ⟨⟨j1, j2⟩, j3⟩ := ebg2_spec hk hp hz hb n (fur (jb 0) (jb 1) (jb 3) q s f H) i2 (by unfold cntF at hc ⊢; omega)
      exact ⟨⟨by omega, j2⟩, j3⟩
theorem ca_gap {jb : Nat → Int32} {H : List ET} {mk : Int32} {L W : List WT} (hj : JOK jb) (hH : HNum H) (hk : jb 0 = 2) (hlen : H.length < 2147483648) (h : WOK jb H mk L W) (hd : OutD W mk) (q s w : Int32) (s0 : 0 ≤ s.toInt) (s1 : s.toInt ≤ 999) : anw jb H H.length mk q s w = resN w (lastR q s none L) := by
  obtain ⟨h1, h2, h3, h4, h5, h6, h7⟩ := h
  obtain ⟨d1, d2, d3⟩ := h4.2 hk
  have hp := hj.2.1
  have hz : ∀ e ∈ H, (eT e + jb 1).toInt = (eT e).toInt + (jb 1).toInt := fun e he => by
    have := (hH e he).1
    exact i32_add (by omega) (by omega)
  have cov : ∀ e ∈ H, adG jb q e → ∃ u ∈ W, wK u = q ∧ (wS u).toInt ≤ (eT e).toInt ∧ (eT e).toInt + (jb 1).toInt ≤ (wE u).toInt := fun e he ha => by
    obtain ⟨u, u1, u2, u3, u4⟩ := d2 e he q ha
    have u4 := i32_le u4
    rw [hz e he] at u4
    exact ⟨u, u1, u2, i32_le u3, u4⟩
  have same : ∀ {a b : WT}, a ∈ W → b ∈ W → wK a = q → wK b = q → ∀ z : Int, inW z a → inW z b → a = b := fun {a b} ha hb ka kb z za zb => by
    by_cases c : a = b
    · exact c
    · rcases DJ.sy d3 ha hb (ka.trans kb.symm) c with t | t
      · have := i32_le t
        have := za.2
        have := zb.1
        omega
      · have := i32_le t
        have := zb.2
        have := za.1
        omega
  have eA : endA jb H q s H.length = endG (jb 0) (jb 1) (jb 3) q s H H.length := if_pos hk
  unfold anw
  rw [eA]
  obtain ⟨b1, b2⟩ := ebg1_spec hk (q := q) (s := s) H 0 (Or.inl rfl)
  by_cases ex : ∃ u ∈ W, isW q s u
  · obtain ⟨u, hu, hc⟩ := ex
    obtain ⟨⟨e0, a1, a2, a3⟩, con, gt⟩ := d1 u hu
    rw [hc.1] at a2
    rw [hc.2] at a3
    obtain ⟨⟨-, -, -, n4, -, -⟩, o1, n, n1, n2, n3⟩ := h3 u hu
    have inu : inW s.toInt u := ⟨by rw [hc.2]; exact Int.le_refl _, by rw [← hc.2]; exact n4⟩
    have nb : ∀ e ∈ H, ¬ badE jb q s e := fun e he hb => by
      obtain ⟨u', v1, v2, v3, v4⟩ := cov e he hb.1
      have c1 := i32_nle hb.2.1
      have c2 := i32_nle hb.2.2
      rw [hz e he] at c2
      have eu := same v1 hu v2 hc.1 s.toInt ⟨by omega, by omega⟩ inu
      rw [eu, hc.2] at v3
      omega
    obtain ⟨f', e1, e2⟩ := b2 nb
    have f0 : ¬ f' = 0 := fun z => (e2.mp z).2 e0 a1 a2 a3
    have hb : ∀ e ∈ H, adG jb q e → s.toInt ≤ (eT e).toInt → (eT e).toInt < (wE u).toInt → (eT e).toInt + (jb 1).toInt ≤ (wE u).toInt := fun e he ha g1 g2 => by
      obtain ⟨u', v1, v2, v3, v4⟩ := cov e he ha
      have eu := same v1 hu v2 hc.1 (eT e).toInt ⟨v3, by omega⟩ ⟨by rw [hc.2]; exact g1, g2⟩
      rw [← eu]; exact v4
    have ss : (s + jb 1).toInt = s.toInt + (jb 1).toInt := i32_add (by omega) (by omega)
    have le0 : (s + jb 1).toInt ≤ (wE u).toInt := by
      have := hb e0 a1 a2 (by rw [a3]; exact Int.le_refl _) (by rw [a3]; exact inu.2)
      rw [a3] at this
      omega
    obtain ⟨⟨r1, r2⟩, r3⟩ := ebg2_spec hk hp.1 hz hb H.length (s + jb 1) le0 (Nat.le_add_left _ _)
    have eG : endG (jb 0) (jb 1) (jb 3) q s H H.length = wE u := by
      unfold endG
      rw [e1]
      show (if f' = 0 then -1 else ebg2 (jb 0) (jb 1) (jb 3) q s H H.length (s + jb 1)) = wE u
      rw [if_neg f0]
      apply Int32.toInt_inj.mp
      by_cases c : (ebg2 (jb 0) (jb 1) (jb 3) q s H H.length (s + jb 1)).toInt = (wE u).toInt
      · exact c
      · exfalso
        obtain ⟨e, g1, g2, g3, g4, g5⟩ := con (ebg2 (jb 0) (jb 1) (jb 3) q s H H.length (s + jb 1)) (by rw [hc.2, Int32.lt_iff_toInt_lt]; omega) (by rw [Int32.lt_iff_toInt_lt]; omega)
        rw [hc.1] at g2
        rw [hc.2] at g5
        have g3 := i32_lt g3
        have g4 := i32_lt g4
        rw [hz e g1] at g4
        have := r3 e g1 g2 (i32_le g5) g3
        omega
    rw [eG, if_neg (i32_m1 (by have := inu.2; omega))]
    rw [hc.1, hc.2] at gt
    by_cases c2 : wE u ≤ mk
    · rw [if_pos c2]
      unfold anwG
      rw [gt, if_neg (fun z => by
        have z : wC u = 0 := z
        rw [n3] at z
        have := (nI_eq (a := n) (b := 0) (by omega) (by omega)).mp z
        omega), told_in h5 hu hc (hd u hu c2)]
      rfl
    · rw [if_neg c2]
      refine (told_out h5 (fun u' hu' hc' => ?_)).symm
      have eu := h2.eq hu' hu (hc'.1.trans hc.1.symm) (hc'.2.trans hc.2.symm)
      rw [eu]
      by_cases o : wO u = 0
      · exact o
      · exact absurd (o1 o) c2
  · have no : ∀ u ∈ W, ¬ isW q s u := fun u hu hc => ex ⟨u, hu, hc⟩
    rw [told_out h5 (fun u hu hc => absurd hc (no u hu))]
    have eG : endG (jb 0) (jb 1) (jb 3) q s H H.length = -1 := by
      unfold endG
      by_cases hb : ∃ e ∈ H, badE jb q s e
      · rw [b1 hb]
      · have nb : ∀ e ∈ H, ¬ badE jb q s e := fun e he z => hb ⟨e, he, z⟩
        obtain ⟨f', e1, e2⟩ := b2 nb
        rw [e1]
        show (if f' = 0 then -1 else _) = _
        refine if_pos (e2.mpr ⟨rfl, fun e he ha hs => ?_⟩)
        obtain ⟨u, v1, v2, v3, v4⟩ := cov e he ha
        rw [hs] at v3 v4
        have ns : ¬ (wS u).toInt = s.toInt := fun z => no u v1 ⟨v2, Int32.toInt_inj.mp z⟩
        obtain ⟨e', g1, g2, g3, g4, -⟩ := (d1 u v1).2.1 s (by rw [Int32.lt_iff_toInt_lt]; omega) (by rw [Int32.lt_iff_toInt_lt]; omega)
        rw [v2] at g2
        exact nb e' g1 ⟨g2, Int32.not_le.mpr g3, Int32.not_le.mpr g4⟩
    rw [eG, if_pos rfl]
theorem caLem_small {jb : Nat → Int32} {H : List ET} {mk : Int32} {L W : List WT} (hl : H.length < 2147483648) (hj : JOK jb) (hH : HNum H) (h : WOK jb H mk L W) (hd : OutD W mk) (q s w : Int32) (s0 : 0 ≤ s.toInt) (s1 : s.toInt ≤ 999) : anw jb H H.length mk q s w = resN w (lastR q s none L) := by
  by_cases hk : jb 0 = 2
  · exact ca_gap hj hH hk hl h hd q s w s0 s1
  · exact ca_step hj hk hl h hd q s w s0 s1 H.length
end ANEW2
