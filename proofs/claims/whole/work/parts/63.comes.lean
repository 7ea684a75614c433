section COMES
variable {E : EV} {G : GH} {Post : Res → GH → Prop} {m : Nat} {B : Nat → Nat} {F : Nat → Int32} {T : Nat → Nat → Int32} {th : Int32} {y : XS} {Jd : List Nat} {JK : Nat}
theorem getElem?_mem' {α : Type} {L : List α} {w : α} (h : w ∈ L) : ∃ i : Nat, L[i]? = some w := by
  obtain ⟨j, hj, he⟩ := List.getElem_of_mem h
  exact ⟨j, by rw [List.getElem?_eq_getElem hj, he]⟩
theorem c_window {key s : Int32} (hB : InjB m B) (h : MoS G m B F T) (ha : AB F T th y Jd JK) (hl : (gWi (cN y)).length < 990)
    (k1 : ∀ i w, (gWi (cN y))[i]? = some w → isW key s w → Post (.inl (some (.int (nI i)))) G)
    (k2 : (∀ w ∈ gWi (cN y), ¬ isW key s w) → ∀ G' F' T', MoS G' m B F' T' → MSt G m B G' → AB F' T' th (setWn y (gWi (cN y) ++ [(key, s, s + cJ y 1, 0, 0, 0)])) Jd JK → (∀ j, (j < 23 ∨ 28 < j) → T' j = T j) → (∀ j, j ≠ 29 → F' j = F j) → Post (.inl (some (.int (nI (gWi (cN y)).length)))) G') : Cl E 1 m_Mo_window [.ref m, .int key, .int s] G Post := by
  obtain ⟨x1, x2, x3, x4, x5, x6, x7, x8, x9, x10, x11, x12, x13, x14, x15, x16, x17, x18⟩ := id ha
  obtain ⟨n0, n1, n2⟩ := id x8
  have e29 : gI G 669 m = nI (gWi (cN y)).length := (h.int 29 (by decide) (by decide)).trans n0
  have ix : ∀ j, 23 ≤ j → j ≤ 28 → ∀ a, a < 1000 → IX (nI a) a (gN G (B j)) := fun j h1 h2 a ha => h.ix j (by unfold aK; simp; omega) (by unfold aN; rw [if_neg (by omega), if_neg (by omega), if_pos (by omega)]; exact ha)
  have loop : ∀ (d i : Nat), d + i = (gWi (cN y)).length → (∀ j w, j < i → (gWi (cN y))[j]? = some w → ¬ isW key s w) → J E 1 m_Mo_window 2 [some (.ref m), some (.int key), some (.int s), some (.int (nI i))] [] G Post := by
    intro d
    induction d with
    | zero =>
      intro i hdi hp
      have ei : i = (gWi (cN y)).length := by omega
      generalize hn : (gWi (cN y)).length = n at *
      refine wp_Mo_window_2 m key s (nI i) ⟨h.tg, ?_⟩
      rw [e29, ei]
      have e2 : gI G 642 m = cJ y 1 := (h.int 2 (by decide) (by decide)).trans x2.2.1
      rw [e2]
      have h1 := h.wA hB 23 n key rfl
      have h2 := h1.wA hB 24 n s rfl
      have h3 := h2.wA hB 25 n (s + cJ y 1) rfl
      have h4 := h3.wA hB 26 n 0 rfl
      have h5 := h4.wA hB 27 n 0 rfl
      have h6 := h5.wA hB 28 n 0 rfl
      have h7 := h6.wI 29 (nI n + 1)
      refine ⟨fun _ => ⟨B 23, h.rf 23 rfl, h.at' 23 rfl, n, ix 23 (by decide) (by decide) n (by omega), B 24, h.rf 24 rfl, h.at' 24 rfl, n, ix 24 (by decide) (by decide) n (by omega), B 25, h.rf 25 rfl, h.at' 25 rfl, n, ix 25 (by decide) (by decide) n (by omega), B 26, h.rf 26 rfl, h.at' 26 rfl, n, ix 26 (by decide) (by decide) n (by omega), B 27, h.rf 27 rfl, h.at' 27 rfl, n, ix 27 (by decide) (by decide) n (by omega), fun G27 hG27 => ?_⟩, fun z => absurd (by rw [nI_leI (by omega) (by omega)]; omega) z⟩
      subst hG27
      refine ⟨B 28, h.rf 28 rfl, h.at' 28 rfl, n, ix 28 (by decide) (by decide) n (by omega), ?_⟩
      have er : nI n + 1 - 1 = nI n := by rw [nI_1]; exact nI_sub (a := n + 1) (b := 1) (by omega)
      rw [er]
      refine k2 (fun w hw => ?_) _ _ _ h7 ((((((MSt.rf.wA rfl).wA rfl).wA rfl).wA rfl).wA rfl).wA rfl).wI ⟨x1, x2, x3, x4, x5, x6, x7, ⟨?_, ?_, fun j v hv => ?_⟩, x9, x10, x11, x12, x13, x14, x15, x16, x17, x18⟩ (fun j hj => ?_) (fun j hj => if_neg hj)
      · obtain ⟨j, hj⟩ := getElem?_mem' hw
        exact hp j w (by have := (List.getElem?_eq_some_iff.mp hj).1; omega) hj
      · show nI n + 1 = nI (gWi (cN y) ++ [_]).length
        rw [nI_1, List.length_append, hn]; rfl
      · show (gWi (cN y) ++ [_]).length ≤ 990
        rw [List.length_append, hn]; exact hl
      · have hv : (gWi (cN y) ++ [(key, s, s + cJ y 1, 0, 0, 0)])[j]? = some v := hv
        rw [getElem?_snoc', hn] at hv
        by_cases c : j = n
        · rw [if_pos c] at hv
          cases hv
          rw [c]
          exact ⟨u2, u2, u2, u2, u2, u2, Or.inl rfl⟩
        · rw [if_neg c] at hv
          obtain ⟨q1, q2, q3, q4, q5, q6, q7⟩ := n2 j v hv
          exact ⟨(u2n c).trans q1, (u2n c).trans q2, (u2n c).trans q3, (u2n c).trans q4, (u2n c).trans q5, (u2n c).trans q6, q7⟩
      · funext q
        show up2 (up2 (up2 (up2 (up2 (up2 T 23 n _) 24 n _) 25 n _) 26 n _) 27 n _) 28 n _ j q = T j q
        unfold up2
        rw [if_neg (by omega), if_neg (by omega), if_neg (by omega), if_neg (by omega), if_neg (by omega), if_neg (by omega)]
    | succ d ih =>
      intro i hdi hp
      obtain ⟨w, hw⟩ : ∃ w, (gWi (cN y))[i]? = some w := ⟨_, List.getElem?_eq_getElem (by omega)⟩
      obtain ⟨q1, q2, q3, q4, q5, q6, q7⟩ := n2 i w hw
      have go : ¬ isW key s w → J E 1 m_Mo_window 2 [some (.ref m), some (.int key), some (.int s), some (.int (nI (i + 1)))] [] G Post := fun hh => ih (i + 1) (by omega) (fun j u hj hu => by
        by_cases c : j = i
        · rw [c, hw] at hu; cases hu; exact hh
        · exact hp j u (by omega) hu)
      refine wp_Mo_window_2 m key s (nI i) ⟨h.tg, ?_⟩
      rw [e29, nI_leI (by omega) (by omega), show nI i + 1 = nI (i + 1) from nI_1 i]
      refine ⟨fun z => absurd z (by omega), fun _ => ⟨B 23, h.rf 23 rfl, Or.inl (h.at' 23 rfl), i, ix 23 (by decide) (by decide) i (by omega), ?_⟩⟩
      rw [h.rd 23 rfl, show T 23 i = wK w from q1]
      refine ⟨fun c => go (fun z => c z.1), fun c1 => ⟨B 24, h.rf 24 rfl, Or.inl (h.at' 24 rfl), i, ix 24 (by decide) (by decide) i (by omega), ?_⟩⟩
      rw [h.rd 24 rfl, show T 24 i = wS w from q2]
      exact ⟨fun c => go (fun z => c z.2), fun c2 => k1 i w hw ⟨c1, c2⟩⟩
  refine j_enter (L := [some (.ref m), some (.int key), some (.int s), none]) me_Mo_window (cat_c rfl (cat_c rfl (cat_c rfl cat_n))) (Nat.le_of_ble_eq_true rfl) rfl (wp_Mo_window_0 m key s ?_)
  exact loop _ 0 rfl (fun j w hj => absurd hj (Nat.not_lt_zero _))
/-- the windows that are wanting are made -/
def addN (k sz : Int32) : List WT → List Int32 → List WT
  | W, [] => W
  | W, s :: ss => addN k sz (if ∃ w ∈ W, isW k s w then W else W ++ [(k, s, s + sz, 0, 0, 0)]) ss
theorem addN_app (k sz : Int32) : ∀ (ss : List Int32) (W : List WT), ∃ N, addN k sz W ss = W ++ N ∧ N.length ≤ ss.length ∧ ∀ w ∈ N, wK w = k ∧ wS w ∈ ss ∧ w = (k, wS w, wS w + sz, 0, 0, 0)
  | [], W => ⟨[], by simp [addN], by simp, fun w h => absurd h List.not_mem_nil⟩
  | s :: ss, W => by
    unfold addN
    by_cases c : ∃ w ∈ W, isW k s w
    · rw [if_pos c]
      obtain ⟨N, e, l, hN⟩ := addN_app k sz ss W
      exact ⟨N, e, by simp; omega, fun w hw => ⟨(hN w hw).1, List.mem_cons_of_mem _ (hN w hw).2.1, (hN w hw).2.2⟩⟩
    · rw [if_neg c]
      obtain ⟨N, e, l, hN⟩ := addN_app k sz ss (W ++ [(k, s, s + sz, 0, 0, 0)])
      refine ⟨(k, s, s + sz, 0, 0, 0) :: N, by rw [e, List.append_assoc]; rfl, by simp; omega, fun w hw => ?_⟩
      rcases List.mem_cons.mp hw with hw | hw
      · rw [hw]; exact ⟨rfl, List.mem_cons_self, rfl⟩
      · exact ⟨(hN w hw).1, List.mem_cons_of_mem _ (hN w hw).2.1, (hN w hw).2.2⟩
theorem UQ_addN {k sz : Int32} : ∀ (ss : List Int32) {W : List WT}, UQ W → UQ (addN k sz W ss)
  | [], _, h => h
  | s :: ss, W, h => by
    unfold addN
    by_cases c : ∃ w ∈ W, isW k s w
    · rw [if_pos c]; exact UQ_addN ss h
    · rw [if_neg c]
      refine UQ_addN ss ?_
      unfold UQ at h ⊢
      rw [List.pairwise_append]
      refine ⟨h, List.pairwise_singleton _ _, fun a ha b hb => ?_⟩
      rw [List.mem_singleton.mp hb]
      exact fun z => c ⟨a, ha, z⟩
theorem UQ.addN {k sz : Int32} (ss : List Int32) {W : List WT} (h : UQ W) : UQ (addN k sz W ss) := UQ_addN ss h
end COMES
