section STEPS
theorem Dst.perm {jb : Nat → Int32} {H : List ET} {W V : List WT} (h : Dst jb H W) (p : W.Perm V) : Dst jb H V := ⟨fun w hw => h.1 w (p.mem_iff.mpr hw), fun k s a1 a2 a3 a4 => h.2 k s a1 a2 a3 (fun w hw => a4 w (p.mem_iff.mp hw))⟩
theorem WOK.o1 {jb : Nat → Int32} {H : List ET} {mk : Int32} {L W : List WT} (h : WOK jb H mk L W) : O1 mk W := fun w hw => ⟨(h.2.2.1 w hw).1.2.2.2.2.2, (h.2.2.1 w hw).2.1⟩
theorem fl1_0 {ss : List Int32} (hl : ss.length ≤ 8) : fl1 0 ss = 0 ↔ nI ss.length = 0 := by
  cases ss with
  | nil => exact ⟨fun _ => rfl, fun _ => rfl⟩
  | cons a l =>
    refine ⟨fun z => absurd z (by show ¬ (1 : Int32) = 0; decide +kernel), fun z => ?_⟩
    have := (nI_eq (a := (a :: l).length) (b := 0) (by omega) (by omega)).mp z
    simp at this
theorem take_step {jb : Nat → Int32} {H : List ET} {mk : Int32} {L W : List WT} {v : V3} {src : Int32} (hj : JOK jb) (hv : VOK v) (hk : ¬ jb 0 = 2) (h : WOK jb H mk L W) : WOK jb (H ++ [(src, v.1, v.2.1, v.2.2, mk)]) mk (L ++ (admP jb v mk W).2.1) (admP jb v mk W).1 ∧
    ∀ V, W.Perm V → ∀ W' Rr n, AdR jb v mk V W' Rr n → (admP jb v mk W).1.Perm W' ∧ REq (admP jb v mk W).2.1 Rr ∧ ((admP jb v mk W).2.2 = 0 ↔ n = 0) := by
  have ho := h.o1
  obtain ⟨h1, h2, h3, h4, h5, h6, h7⟩ := h
  obtain ⟨⟨-, -, t3, t4, -⟩, hm⟩ := stA_facts mk hj hv
  have ea : admP jb v mk W = (addsL v.2.1 (jb 1) v.2.2 mk (stA jb v mk) W, addsR v.2.1 (jb 1) v.2.2 mk (stA jb v mk) W, fl1 0 (stA jb v mk)) := by
    unfold admP
    rw [if_neg hk]; rfl
  have t3 : (stA jb v mk).Nodup := t3
  have t4 : (stA jb v mk).length ≤ 8 := t4
  rw [ea]
  have pm := addsL_pm (k := v.2.1) (sz := jb 1) (v := v.2.2) (stA jb v mk) t3 ho (List.Perm.refl W)
  obtain ⟨c1, c2⟩ := adds_cnt (k := v.2.1) (sz := jb 1) (v := v.2.2) (stA jb v mk) h2 ho
  obtain ⟨M, eM, -, hM⟩ := addN_app v.2.1 (jb 1) (stA jb v mk) W
  refine ⟨⟨SO.adds _ h1, UQ.adds _ h2, fun w' hw' => ?_, ⟨fun _ => ?_, fun z => absurd z hk⟩, h5.step t3 h2 ho, ?_, ?_⟩, fun V p W' Rr n ha => ?_⟩
  · have hw' := pm.mem_iff.mp hw'
    rw [cmW_eq] at hw'
    obtain ⟨w, hw, e⟩ := List.mem_map.mp hw'
    subst e
    rw [eM] at hw
    have base : WNum w ∧ (¬ wO w = 0 → wE w ≤ mk) ∧ ∃ n, n ≤ H.length ∧ wC w = nI n ∧ (w ∈ W → 1 ≤ n) := by
      rcases List.mem_append.mp hw with z | z
      · obtain ⟨a1, a2, n, n1, n2, n3⟩ := h3 w z
        exact ⟨a1, a2, n, n2, n3, fun _ => n1⟩
      · obtain ⟨a1, a2, a3⟩ := hM w z
        obtain ⟨b1, b2, b3, b4, b5⟩ := (hm _).mp a2
        have hz := hj.2.1
        have hv2 := hv.2.1
        have e : (wS w + jb 1).toInt = (wS w).toInt + (jb 1).toInt := i32_add (by omega) (by omega)
        have eE : wE w = wS w + jb 1 := by rw [a3]
        have eO : wO w = 0 := by rw [a3]
        refine ⟨⟨by rw [a1]; exact hv.2.2, b2, by omega, by rw [eE, e]; omega, by rw [eE, e]; omega, Or.inl eO⟩, fun q => absurd eO q, 0, Nat.zero_le _, by rw [a3]; rfl, fun q => ?_⟩
        exfalso
        have hu : UQ (W ++ M) := by rw [← eM]; exact h2.addN _
        have := (List.pairwise_append.mp hu).2.2 w q w z
        exact this ⟨rfl, rfl⟩
    obtain ⟨a1, a2, n, n1, n2, n3⟩ := base
    obtain ⟨g1, g2, g3, g4⟩ := gA1_k (k := v.2.1) (v := v.2.2) (ss := stA jb v mk) w
    refine ⟨⟨by rw [g1]; exact a1.1, by rw [g2]; exact a1.2.1, by rw [g2]; exact a1.2.2.1, by rw [g2, g3]; exact a1.2.2.2.1, by rw [g3]; exact a1.2.2.2.2.1, by rw [g4]; exact a1.2.2.2.2.2⟩, by rw [g3, g4]; exact a2, ?_⟩
    rw [List.length_append]
    by_cases q : wK w = v.2.1 ∧ wS w ∈ stA jb v mk
    · refine ⟨n + 1, by omega, by simp; omega, ?_⟩
      have eg : gA1 v.2.1 v.2.2 (stA jb v mk) w = addV w v.2.2 := if_pos q
      rw [eg]
      show wC w + 1 = _
      rw [n2, nI_1]
    · have eg : gA1 v.2.1 v.2.2 (stA jb v mk) w = w := if_neg q
      rcases List.mem_append.mp hw with z | z
      · exact ⟨n, n3 z, by omega, by rw [eg]; exact n2⟩
      · exact absurd ⟨(hM w z).1, (hM w z).2.1⟩ q
  · exact (step_dst hj hv hk (h4.1 hk) (fun w hw => (h3 w hw).1)).perm pm.symm
  · rw [List.length_append, List.length_append]
    simp only [List.length_cons, List.length_nil]
    omega
  · rw [List.length_append]
    simp only [List.length_cons, List.length_nil]
    omega
  · rcases ha with ⟨z, -⟩ | ⟨z, -⟩ | ⟨-, ss, e1, e2, e3, e4⟩
    · exact absurd z hk
    · exact absurd z hk
    · have e1 : ss = stA jb v mk := e1
      subst e1
      rw [e2, e3, e4]
      exact ⟨addsL_pm _ t3 ho p, step_req t3 h2 ho p, fl1_0 t4⟩
theorem i32_m1 {a : Int32} (h : 0 ≤ a.toInt) : ¬ a = -1 := fun z => by
  rw [z] at h
  exact absurd h (by decide +kernel)
/-- what a window's number says of what was told last -/
theorem told_in {L W : List WT} {q s w : Int32} {u : WT} (h5 : Tl L W) (hu : u ∈ W) (hq : isW q s u) (hO : ¬ wO u = 0) : resN w (lastR q s none L) = numW w u := by
  have := h5.1 u hu hO
  rw [hq.1, hq.2] at this
  rw [this]
  show (if wO (setO u 1) = 0 then (-1000000 : Int32) else numW w (setO u 1)) = numW w u
  rw [if_neg (by show ¬ (1 : Int32) = 0; decide +kernel)]
  rfl
theorem told_out {L W : List WT} {q s w : Int32} (h5 : Tl L W) (hn : ∀ u ∈ W, isW q s u → wO u = 0) : resN w (lastR q s none L) = -1000000 := by
  have := h5.2 q s hn
  match hl : lastR q s none L with
  | none => rfl
  | some r =>
    show (if wO r = 0 then (-1000000 : Int32) else numW w r) = _
    rw [if_pos (this r hl)]
theorem ca_step {jb : Nat → Int32} {H : List ET} {mk : Int32} {L W : List WT} (hj : JOK jb) (hk : ¬ jb 0 = 2) (hlen : H.length < 2147483648) (h : WOK jb H mk L W) (hd : OutD W mk) (q s w : Int32) (s0 : 0 ≤ s.toInt) (s1 : s.toInt ≤ 999) (cl : Nat) : anw jb H cl mk q s w = resN w (lastR q s none L) := by
  obtain ⟨h1, h2, h3, h4, h5, h6, h7⟩ := h
  obtain ⟨d1, d2⟩ := h4.1 hk
  have hz := hj.2.1
  have e : (s + jb 1).toInt = s.toInt + (jb 1).toInt := i32_add (by omega) (by omega)
  have eA : endA jb H q s cl = if laS (jb 2) s = s then s + jb 1 else -1 := if_neg hk
  unfold anw
  rw [eA]
  by_cases c : laS (jb 2) s = s
  · rw [if_pos c, if_neg (i32_m1 (by omega))]
    by_cases ex : ∃ u ∈ W, isW q s u
    · obtain ⟨u, hu, hc⟩ := ex
      obtain ⟨f1, f2, f3⟩ := d1 u hu
      obtain ⟨a1, a2, n, n1, n2, n3⟩ := h3 u hu
      rw [hc.1, hc.2] at f3
      rw [hc.2] at f1
      rw [f1] at f3
      by_cases c2 : s + jb 1 ≤ mk
      · rw [if_pos c2]
        unfold anwG
        rw [f3, if_neg (fun z => by
          have z : wC u = 0 := z
          rw [n3] at z
          have := (nI_eq (a := n) (b := 0) (by omega) (by omega)).mp z
          omega), told_in h5 hu hc (hd u hu (by rw [f1]; exact c2))]
        rfl
      · rw [if_neg c2]
        refine (told_out h5 (fun u' hu' hc' => ?_)).symm
        have eu := h2.eq hu' hu (hc'.1.trans hc.1.symm) (hc'.2.trans hc.2.symm)
        subst eu
        by_cases q : wO u' = 0
        · exact q
        · exact absurd (by rw [← f1]; exact a2 q) c2
    · have no : ∀ u ∈ W, ¬ isW q s u := fun u hu hc => ex ⟨u, hu, hc⟩
      have f3 := d2 q s s0 s1 c no
      rw [told_out h5 (fun u hu hc => absurd hc (no u hu))]
      unfold anwG
      rw [f3]
      split
      · exact if_pos rfl
      · rfl
  · rw [if_neg c, if_pos rfl]
    refine (told_out h5 (fun u hu hc => ?_)).symm
    exact absurd (by have := (d1 u hu).2.1; rw [hc.2] at this; exact this) c
end STEPS
