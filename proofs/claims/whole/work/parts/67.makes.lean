def rowIs (T : Nat → Nat → Int32) (j : Nat) (w : WT) : Prop := T 23 j = wK w ∧ T 24 j = wS w ∧ T 25 j = wE w ∧ T 26 j = wC w ∧ T 27 j = wM w ∧ T 28 j = wO w ∧ (wO w = 0 ∨ wO w = 1)
abbrev tou (its low high : Int32) (w : WT) : Prop := wK w = its ∧ ¬ high ≤ wS w ∧ ¬ wE w ≤ low
section MAKES
variable {E : EV} {G : GH} {Post : Res → GH → Prop} {m : Nat} {B : Nat → Nat} {F : Nat → Int32} {T : Nat → Nat → Int32} {th : Int32} {y : XS} {Jd : List Nat} {JK : Nat}
theorem c_drops {i : Nat} (hB : InjB m B) (h : MoS G m B F T) (ha : AB F T th y Jd JK) (hi : i < (gWi (cN y)).length)
    (k : ∀ G' F' T', MoS G' m B F' T' → MSt G m B G' → AB F' T' th (setWn y ((gWi (cN y)).eraseIdx i)) Jd JK → (∀ j, (j < 23 ∨ 28 < j) → T' j = T j) → Post (.inl none) G') : Cl E 1 m_Mo_drops [.ref m, .int (nI i)] G Post := by
  obtain ⟨x1, x2, x3, x4, x5, x6, x7, x8, x9, x10, x11, x12, x13, x14, x15, x16, x17, x18⟩ := ha
  obtain ⟨n0, n1, n2⟩ := id x8
  have hlen : ((gWi (cN y)).eraseIdx i).length = (gWi (cN y)).length - 1 := List.length_eraseIdx_of_lt hi
  have e29 : gI G 669 m = nI (gWi (cN y)).length := (h.int 29 (by decide) (by decide)).trans n0
  generalize hW : gWi (cN y) = W at *
  have loop : ∀ (d q : Nat) (G1 : GH) (T1 : Nat → Nat → Int32), d + q = W.length - 1 → i ≤ q → MoS G1 m B (up1 F 29 (nI (W.length - 1))) T1 → MSt G m B G1 → (∀ j, (j < 23 ∨ 28 < j) → T1 j = T j) → (∀ (j : Nat) w, (W.eraseIdx i)[j]? = some w → j < q → rowIs T1 j w) → (∀ (j : Nat) w, W[j]? = some w → q ≤ j → rowIs T1 j w) → J E 1 m_Mo_drops 12 [some (.ref m), none, some (.int (nI q))] [] G1 Post := by
    intro d
    induction d with
    | zero =>
      intro q G1 T1 hdq hiq h1 s1 t1 r1 r2
      refine wp_Mo_drops_12 m (nI q) ⟨h1.tg, ?_⟩
      rw [show gI G1 669 m = nI (W.length - 1) from h1.int 29 (by decide) (by decide), nI_leI (by omega) (by omega)]
      refine ⟨fun _ => ?_, fun z => absurd (by omega) z⟩
      have u : ∀ j, (j < 23 ∨ 28 < j) → ∀ q, T1 j q = T j q := fun j hj q => congrFun (t1 j hj) q
      refine k G1 _ T1 h1 s1 ?_ t1
      refine ⟨x1, x2, x3, fun s hs => ?_, fun s hs => ?_, x6, x7, ⟨?_, ?_, fun j w hw => r1 j w hw (by have il : j < (W.eraseIdx i).length := (List.getElem?_eq_some_iff.mp hw).1; omega)⟩, ⟨x9.1, x9.2.1, fun j v hv => ⟨(u 32 (by omega) j).trans (x9.2.2 j v hv).1, (x9.2.2 j v hv).2⟩⟩, fun s hs => ?_, x11, x12, ⟨x13.1, x13.2.1, fun j w hw => ?_⟩, x14, ⟨x15.1, x15.2.1, fun j w hw => ?_⟩, x16, x17, ⟨x18.1, fun s hs => ?_⟩⟩
      · obtain ⟨a1, a2, a3, a4, a5⟩ := x4 s hs
        exact ⟨(u 12 (by omega) s).trans a1, a2, (u 15 (by omega) s).trans a3, (u 16 (by omega) s).trans a4, fun i v hv => ⟨(u 9 (by omega) _).trans (a5 i v hv).1, (u 10 (by omega) _).trans (a5 i v hv).2.1, (u 11 (by omega) _).trans (a5 i v hv).2.2⟩⟩
      · obtain ⟨a1, a2, a3⟩ := x5 s hs
        exact ⟨(u 13 (by omega) s).trans a1, (u 14 (by omega) s).trans a2, (u 17 (by omega) s).trans a3⟩
      · show nI (W.length - 1) = nI (W.eraseIdx i).length
        rw [hlen]
      · show (W.eraseIdx i).length ≤ 990
        rw [hlen]; omega
      · obtain ⟨a1, a2, a3⟩ := x10 s hs
        exact ⟨(u 52 (by omega) s).trans a1, (u 53 (by omega) s).trans a2, (u 54 (by omega) s).trans a3⟩
      · obtain ⟨a1, a2, a3, a4, a5, a6, a7⟩ := x13.2.2 j w hw
        exact ⟨(u 45 (by omega) j).trans a1, (u 46 (by omega) j).trans a2, (u 47 (by omega) j).trans a3, (u 48 (by omega) j).trans a4, (u 49 (by omega) j).trans a5, (u 50 (by omega) j).trans a6, a7⟩
      · obtain ⟨a1, a2, a3, a4, a5, a6⟩ := x15.2.2 j w hw
        exact ⟨(u 34 (by omega) j).trans a1, (u 35 (by omega) j).trans a2, (u 36 (by omega) j).trans a3, (u 37 (by omega) j).trans a4, (u 38 (by omega) j).trans a5, (u 39 (by omega) j).trans a6⟩
      · exact ⟨(u 21 (by omega) s).trans (x18.2 s hs).1, (u 22 (by omega) s).trans (x18.2 s hs).2⟩
    | succ d ih =>
      intro q G1 T1 hdq hiq h1 s1 t1 r1 r2
      obtain ⟨w, hw⟩ : ∃ w, W[q + 1]? = some w := ⟨_, List.getElem?_eq_getElem (by omega)⟩
      obtain ⟨q1, q2, q3, q4, q5, q6, q7⟩ := r2 (q + 1) w hw (by omega)
      have ix : ∀ j, 23 ≤ j → j ≤ 28 → ∀ a, a < 1000 → IX (nI a) a (gN G1 (B j)) := fun j g1 g2 a ha => h1.ix j (by unfold aK; simp; omega) (by unfold aN; rw [if_neg (by omega), if_neg (by omega), if_pos (by omega)]; exact ha)
      refine wp_Mo_drops_12 m (nI q) ⟨h1.tg, ?_⟩
      rw [show gI G1 669 m = nI (W.length - 1) from h1.int 29 (by decide) (by decide), nI_leI (by omega) (by omega), nI_1 q]
      have p1 := h1.wA hB 23 q (wK w) rfl
      have p2 := p1.wA hB 24 q (wS w) rfl
      have p3 := p2.wA hB 25 q (wE w) rfl
      have p4 := p3.wA hB 26 q (wC w) rfl
      have p5 := p4.wA hB 27 q (wM w) rfl
      have p6 := p5.wA hB 28 q (wO w) rfl
      refine ⟨fun z => absurd z (by omega), fun _ => ⟨B 23, h1.rf 23 rfl, Or.inl (h1.at' 23 rfl), q + 1, ix 23 (by decide) (by decide) (q + 1) (by omega), h1.at' 23 rfl, q, ix 23 (by decide) (by decide) q (by omega), B 24, h1.rf 24 rfl, Or.inl (h1.at' 24 rfl), q + 1, ix 24 (by decide) (by decide) (q + 1) (by omega), h1.at' 24 rfl, q, ix 24 (by decide) (by decide) q (by omega), B 25, h1.rf 25 rfl, Or.inl (h1.at' 25 rfl), q + 1, ix 25 (by decide) (by decide) (q + 1) (by omega), h1.at' 25 rfl, q, ix 25 (by decide) (by decide) q (by omega), fun G26 hG26 => ?_⟩⟩
      rw [show gA G1 (B 23) (q + 1) = wK w from (h1.rd 23 rfl _).trans q1, show gA (sA G1 (B 23) q (wK w)) (B 24) (q + 1) = wS w from (p1.rd 24 rfl _).trans q2, show gA (sA (sA G1 (B 23) q (wK w)) (B 24) q (wS w)) (B 25) (q + 1) = wE w from (p2.rd 25 rfl _).trans q3] at hG26
      subst hG26
      refine ⟨B 26, h1.rf 26 rfl, Or.inl (h1.at' 26 rfl), q + 1, ix 26 (by decide) (by decide) (q + 1) (by omega), h1.at' 26 rfl, q, ix 26 (by decide) (by decide) q (by omega), B 27, h1.rf 27 rfl, Or.inl (h1.at' 27 rfl), q + 1, ix 27 (by decide) (by decide) (q + 1) (by omega), h1.at' 27 rfl, q, ix 27 (by decide) (by decide) q (by omega), B 28, h1.rf 28 rfl, h1.at' 28 rfl, q + 1, ix 28 (by decide) (by decide) (q + 1) (by omega), q, ix 28 (by decide) (by decide) q (by omega), ?_⟩
      rw [show gA (sA (sA (sA G1 (B 23) q (wK w)) (B 24) q (wS w)) (B 25) q (wE w)) (B 26) (q + 1) = wC w from (p3.rd 26 rfl _).trans q4, show gA (sA (sA (sA (sA G1 (B 23) q (wK w)) (B 24) q (wS w)) (B 25) q (wE w)) (B 26) q (wC w)) (B 27) (q + 1) = wM w from (p4.rd 27 rfl _).trans q5, show gA (sA (sA (sA (sA (sA G1 (B 23) q (wK w)) (B 24) q (wS w)) (B 25) q (wE w)) (B 26) q (wC w)) (B 27) q (wM w)) (B 28) (q + 1) = wO w from (p5.rd 28 rfl _).trans q6]
      refine ⟨q7, fun G52 hG52 => ?_⟩
      subst hG52
      refine ih (q + 1) _ _ (by omega) (by omega) p6 (s1.tr ((((((MSt.rf.wA rfl).wA rfl).wA rfl).wA rfl).wA rfl).wA rfl)) (fun j hj => ?_) (fun j v hv hjq => ?_) (fun j v hv hjq => ?_)
      · funext z
        show up2 (up2 (up2 (up2 (up2 (up2 T1 23 q _) 24 q _) 25 q _) 26 q _) 27 q _) 28 q _ j z = T j z
        unfold up2
        rw [if_neg (by omega), if_neg (by omega), if_neg (by omega), if_neg (by omega), if_neg (by omega), if_neg (by omega)]
        exact congrFun (t1 j hj) z
      · by_cases c : j = q
        · rw [c] at hv ⊢
          rw [List.getElem?_eraseIdx, if_neg (by omega), hw] at hv
          cases hv
          exact ⟨u2, u2, u2, u2, u2, u2, q7⟩
        · obtain ⟨a1, a2, a3, a4, a5, a6, a7⟩ := r1 j v hv (by omega)
          exact ⟨(u2n c).trans a1, (u2n c).trans a2, (u2n c).trans a3, (u2n c).trans a4, (u2n c).trans a5, (u2n c).trans a6, a7⟩
      · have c : j ≠ q := by omega
        obtain ⟨a1, a2, a3, a4, a5, a6, a7⟩ := r2 j v hv (by omega)
        exact ⟨(u2n c).trans a1, (u2n c).trans a2, (u2n c).trans a3, (u2n c).trans a4, (u2n c).trans a5, (u2n c).trans a6, a7⟩
  refine j_enter (L := [some (.ref m), some (.int (nI i)), none]) me_Mo_drops (cat_c rfl (cat_c rfl cat_n)) (Nat.le_of_ble_eq_true rfl) rfl (wp_Mo_drops_0 m (nI i) ⟨h.tg, ?_⟩)
  rw [e29, show nI W.length - 1 = nI (W.length - 1) from nI_sub (b := 1) (by omega)]
  refine loop (W.length - 1 - i) i _ T (by omega) (Nat.le_refl _) (h.wI 29 _) MSt.rf.wI (fun _ _ => rfl) (fun j w hw hj => ?_) (fun j w hw _ => n2 j w hw)
  rw [List.getElem?_eraseIdx, if_pos hj] at hw
  exact n2 j w hw
theorem c_touching {its low high : Int32} {W : List WT} (h : MoS G m B F T) (hw : aW (F 29) T 23 W)
    (k1 : (∀ w ∈ W, ¬ tou its low high w) → Post (.inl (some (.int (-1)))) G) (k2 : ∀ i w, W[i]? = some w → tou its low high w → Post (.inl (some (.int (nI i)))) G) : Cl E 1 m_Mo_touching [.ref m, .int its, .int low, .int high] G Post := by
  obtain ⟨n0, n1, n2⟩ := hw
  have e29 : gI G 669 m = nI W.length := (h.int 29 (by decide) (by decide)).trans n0
  have ix : ∀ j, 23 ≤ j → j ≤ 28 → ∀ a, a < 1000 → IX (nI a) a (gN G (B j)) := fun j h1 h2 a ha => h.ix j (by unfold aK; simp; omega) (by unfold aN; rw [if_neg (by omega), if_neg (by omega), if_pos (by omega)]; exact ha)
  have loop : ∀ (d i : Nat) (p : Int32), d + i = W.length → ((p = -1 ∧ ∀ j w, j < i → W[j]? = some w → ¬ tou its low high w) ∨ ∃ f w, p = nI f ∧ f < i ∧ W[f]? = some w ∧ tou its low high w) → J E 1 m_Mo_touching 6 [some (.ref m), some (.int its), some (.int low), some (.int high), some (.int p), some (.int (nI i)), none] [] G Post := by
    intro d
    induction d with
    | zero =>
      intro i p hdi hp
      refine wp_Mo_touching_6 m its low high p (nI i) ⟨h.tg, ?_⟩
      rw [e29, nI_leI (by omega) (by omega)]
      refine ⟨fun _ => ?_, fun z => absurd (by omega) z⟩
      rcases hp with ⟨e, hp⟩ | ⟨f, w, e, -, hf, hd⟩
      · rw [e]
        refine k1 (fun w hw => ?_)
        obtain ⟨j, hj⟩ := getElem?_mem' hw
        exact hp j w (by have := (List.getElem?_eq_some_iff.mp hj).1; omega) hj
      · rw [e]; exact k2 f w hf hd
    | succ d ih =>
      intro i p hdi hp
      obtain ⟨w, hw⟩ : ∃ w, W[i]? = some w := ⟨_, List.getElem?_eq_getElem (by omega)⟩
      obtain ⟨q1, q2, q3, q4, q5, q6, q7⟩ := n2 i w hw
      have old : (¬ tou its low high w ∨ ¬ p = -1) → J E 1 m_Mo_touching 6 [some (.ref m), some (.int its), some (.int low), some (.int high), some (.int p), some (.int (nI (i + 1))), none] [] G Post := fun hc => ih (i + 1) p (by omega) (by
        rcases hp with ⟨e, hp⟩ | ⟨f, w', e, hl, hf, hd⟩
        · refine Or.inl ⟨e, fun j u hj hu => ?_⟩
          by_cases c : j = i
          · rw [c, hw] at hu; cases hu
            exact hc.elim id (fun z => absurd e z)
          · exact hp j u (by omega) hu
        · exact Or.inr ⟨f, w', e, by omega, hf, hd⟩)
      have new : tou its low high w → J E 1 m_Mo_touching 6 [some (.ref m), some (.int its), some (.int low), some (.int high), some (.int (nI i)), some (.int (nI (i + 1))), none] [] G Post := fun hc => ih (i + 1) (nI i) (by omega) (Or.inr ⟨i, w, rfl, by omega, hw, hc⟩)
      refine wp_Mo_touching_6 m its low high p (nI i) ⟨h.tg, ?_⟩
      rw [e29, nI_leI (by omega) (by omega), nI_1 i]
      refine ⟨fun z => absurd z (by omega), fun _ => ⟨B 23, h.rf 23 rfl, Or.inl (h.at' 23 rfl), i, ix 23 (by decide) (by decide) i (by omega), ?_⟩⟩
      rw [h.rd 23 rfl, show T 23 i = wK w from q1]
      refine ⟨fun z => old (Or.inl (fun y => z y.1)), fun z1 => ⟨B 24, h.rf 24 rfl, Or.inl (h.at' 24 rfl), i, ix 24 (by decide) (by decide) i (by omega), ?_⟩⟩
      rw [h.rd 24 rfl, show T 24 i = wS w from q2]
      refine ⟨fun z => old (Or.inl (fun y => y.2.1 z)), fun z2 => ⟨B 25, h.rf 25 rfl, Or.inl (h.at' 25 rfl), i, ix 25 (by decide) (by decide) i (by omega), ?_⟩⟩
      rw [h.rd 25 rfl, show T 25 i = wE w from q3]
      refine ⟨fun z => old (Or.inl (fun y => y.2.2 z)), fun z3 => ⟨fun e => new ⟨z1, z2, z3⟩, fun e => ?_⟩⟩
      obtain ⟨f, w', ef, hl, hf, hdf⟩ : ∃ f w, p = nI f ∧ f < i ∧ W[f]? = some w ∧ tou its low high w := by
        rcases hp with ⟨e', -⟩ | hp
        · exact absurd e' e
        · exact hp
      have oldp := old (Or.inr e)
      subst ef
      exact ⟨f, ix 24 (by decide) (by decide) f (by omega), fun _ => oldp, fun _ => new ⟨z1, z2, z3⟩⟩
  refine j_enter (L := [some (.ref m), some (.int its), some (.int low), some (.int high), none, none, none]) me_Mo_touching (cat_c rfl (cat_c rfl (cat_c rfl (cat_c rfl cat_n)))) (Nat.le_of_ble_eq_true rfl) rfl (wp_Mo_touching_0 m its low high ?_)
  exact loop W.length 0 (-1) rfl (Or.inl ⟨rfl, fun j w hj => absurd hj (Nat.not_lt_zero _)⟩)
end MAKES
