theorem nI_ne1 {n : Nat} (h : n < 100000) : ¬ nI n = -1 := fun z => by
  have e := congrArg Int32.toInt z
  rw [nI_toInt (by omega)] at e
  have e1 : (-1 : Int32).toInt = -1 := by decide +kernel
  rw [e1] at e
  omega
theorem set_split {α : Type} {w : α} : ∀ {W : List α} {i : Nat}, W[i]? = some w → ∃ l1 l2, W = l1 ++ w :: l2 ∧ ∀ v, W.set i v = l1 ++ v :: l2
  | [], i, h => by simp at h
  | x :: W, 0, h => by
    have e : x = w := by simpa using h
    exact ⟨[], W, by rw [e]; rfl, fun v => rfl⟩
  | x :: W, i + 1, h => by
    obtain ⟨l1, l2, e1, e2⟩ := set_split (W := W) (i := i) (by simpa using h)
    exact ⟨x :: l1, l2, by rw [e1]; rfl, fun v => by rw [List.set_cons_succ, e2]; rfl⟩
abbrev due (mk : Int32) (w : WT) : Prop := wO w = 0 ∧ wE w ≤ mk
theorem emF_due {mk : Int32} {w : WT} (h : due mk w) : emF mk w = setO w 1 := by
  unfold emF
  rw [if_pos h.2, if_pos h.1]
theorem emF_set {mk : Int32} {w : WT} : emF mk (setO w 1) = setO w 1 := by
  unfold emF
  by_cases c : wE (setO w 1) ≤ mk
  · rw [if_pos c, if_neg (show ¬ wO (setO w 1) = 0 from (by decide : ¬ (1 : Int32) = 0))]
  · rw [if_neg c]
theorem emF_not {mk : Int32} {w : WT} (h : ¬ due mk w) : emF mk w = w := by
  unfold emF
  by_cases c : wE w ≤ mk
  · rw [if_pos c, if_neg (fun z => h ⟨z, c⟩)]
  · rw [if_neg c]
section GROWS
variable {E : EV} {G : GH} {Post : Res → GH → Prop} {m : Nat} {B : Nat → Nat} {F : Nat → Int32} {T : Nat → Nat → Int32} {th : Int32} {y : XS} {Jd : List Nat} {JK : Nat}
theorem aW.setO {n : Int32} {W : List WT} {i : Nat} {w : WT} {v : Int32} (h : aW n T 23 W) (hi : W[i]? = some w) (hv : v = 0 ∨ v = 1) : aW n (up2 T 28 i v) 23 (W.set i (setO w v)) := by
  refine ⟨by rw [List.length_set]; exact h.1, by rw [List.length_set]; exact h.2.1, fun j u hu => ?_⟩
  rw [List.getElem?_set] at hu
  have il := (List.getElem?_eq_some_iff.mp hi).1
  by_cases c : i = j
  · rw [if_pos c, if_pos (by omega)] at hu
    cases hu
    obtain ⟨q1, q2, q3, q4, q5, q6, q7⟩ := h.2.2 i w hi
    rw [← c]
    exact ⟨q1, q2, q3, q4, q5, u2, hv⟩
  · rw [if_neg c] at hu
    obtain ⟨q1, q2, q3, q4, q5, q6, q7⟩ := h.2.2 j u hu
    exact ⟨q1, q2, q3, q4, q5, (u2n (fun z => c z.symm)).trans q6, q7⟩
theorem c_first {W : List WT} {mk : Int32} (h : MoS G m B F T) (hm : F 18 = mk) (hw : aW (F 29) T 23 W)
    (k1 : (∀ w ∈ W, ¬ due mk w) → Post (.inl (some (.int (-1)))) G) (k2 : ∀ i w, W[i]? = some w → due mk w → Post (.inl (some (.int (nI i)))) G) : Cl E 2 m_Mo_first [.ref m] G Post := by
  obtain ⟨n0, n1, n2⟩ := hw
  have e29 : gI G 669 m = nI W.length := (h.int 29 (by decide) (by decide)).trans n0
  have e18 : gI G 658 m = mk := (h.int 18 (by decide) (by decide)).trans hm
  have loop : ∀ (d i : Nat) (p : Int32), d + i = W.length → ((p = -1 ∧ ∀ j w, j < i → W[j]? = some w → ¬ due mk w) ∨ ∃ f w, p = nI f ∧ f < i ∧ W[f]? = some w ∧ due mk w) → J E 2 m_Mo_first 4 [some (.ref m), some (.int p), some (.int (nI i)), none] [] G Post := by
    intro d
    induction d with
    | zero =>
      intro i p hdi hp
      refine wp_Mo_first_4 m p (nI i) ⟨h.tg, ?_⟩
      rw [e29, nI_leI (by omega) (by omega)]
      refine ⟨fun _ => ?_, fun z => absurd (by omega) z⟩
      rcases hp with ⟨e, hp⟩ | ⟨f, w, e, -, hf, hd⟩
      · rw [e]
        refine k1 (fun w hw => ?_)
        obtain ⟨j, hj, he⟩ := List.getElem_of_mem hw
        exact hp j w (by omega) (by rw [List.getElem?_eq_getElem hj, he])
      · rw [e]; exact k2 f w hf hd
    | succ d ih =>
      intro i p hdi hp
      obtain ⟨w, hw⟩ : ∃ w, W[i]? = some w := ⟨_, List.getElem?_eq_getElem (by omega)⟩
      obtain ⟨q1, q2, q3, q4, q5, q6, q7⟩ := n2 i w hw
      have ix : ∀ j, 23 ≤ j → j ≤ 28 → ∀ a, a < 1000 → IX (nI a) a (gN G (B j)) := fun j h1 h2 a ha => h.ix j (by unfold aK; simp; omega) (by unfold aN; rw [if_neg (by omega), if_neg (by omega), if_pos (by omega)]; exact ha)
      have old : (¬ due mk w ∨ ¬ p = -1) → J E 2 m_Mo_first 4 [some (.ref m), some (.int p), some (.int (nI (i + 1))), none] [] G Post := fun hc => ih (i + 1) p (by omega) (by
        rcases hp with ⟨e, hp⟩ | ⟨f, w', e, hl, hf, hd⟩
        · refine Or.inl ⟨e, fun j u hj hu => ?_⟩
          by_cases c : j = i
          · rw [c, hw] at hu; cases hu
            exact hc.elim id (fun z => absurd e z)
          · exact hp j u (by omega) hu
        · exact Or.inr ⟨f, w', e, by omega, hf, hd⟩)
      have new : due mk w → J E 2 m_Mo_first 4 [some (.ref m), some (.int (nI i)), some (.int (nI (i + 1))), none] [] G Post := fun hc => ih (i + 1) (nI i) (by omega) (Or.inr ⟨i, w, rfl, by omega, hw, hc⟩)
      refine wp_Mo_first_4 m p (nI i) ⟨h.tg, ?_⟩
      rw [e29, nI_leI (by omega) (by omega), e18, nI_1]
      refine ⟨fun z => absurd z (by omega), fun _ => ⟨B 28, h.rf 28 rfl, h.at' 28 rfl, i, ix 28 (by decide) (by decide) i (by omega), ?_⟩⟩
      rw [h.rd 28 rfl, show T 28 i = wO w from q6]
      refine ⟨fun z => old (Or.inl (fun y => z y.1)), fun z => ⟨B 25, h.rf 25 rfl, Or.inl (h.at' 25 rfl), i, ix 25 (by decide) (by decide) i (by omega), ?_⟩⟩
      rw [h.rd 25 rfl, show T 25 i = wE w from q3]
      refine ⟨fun l => old (Or.inl (fun y => Int32.not_lt.mpr y.2 l)), fun l => ?_⟩
      have hd : due mk w := ⟨z, Int32.not_lt.mp l⟩
      refine ⟨fun e => new hd, fun e => ?_⟩
      obtain ⟨f, w', ef, hl, hf, hdf⟩ : ∃ f w, p = nI f ∧ f < i ∧ W[f]? = some w ∧ due mk w := by
        rcases hp with ⟨e', -⟩ | hp
        · exact absurd e' e
        · exact hp
      have oldp := old (Or.inr e)
      subst ef
      refine ⟨f, ix 25 (by decide) (by decide) f (by omega), fun _ => ⟨B 23, h.rf 23 rfl, Or.inl (h.at' 23 rfl), i, ix 23 (by decide) (by decide) i (by omega), f, ix 23 (by decide) (by decide) f (by omega), fun _ => ⟨B 24, h.rf 24 rfl, Or.inl (h.at' 24 rfl), i, ix 24 (by decide) (by decide) i (by omega), f, ix 24 (by decide) (by decide) f (by omega), fun _ => oldp, fun _ => new hd⟩, fun _ => ⟨fun _ => oldp, fun _ => new hd⟩⟩, fun _ => ⟨fun _ => oldp, fun _ => new hd⟩⟩
  refine j_enter (L := [some (.ref m), none, none, none]) me_Mo_first (cat_c rfl cat_n) (Nat.le_of_ble_eq_true rfl) rfl (wp_Mo_first_0 m ?_)
  exact loop W.length 0 (-1) rfl (Or.inl ⟨rfl, fun j w hj => absurd hj (Nat.not_lt_zero _)⟩)
def setMk (y : XS) (mk : Int32) : XS := (cJ y, cS y, (gOf (cN y), gTk (cN y), gGr (cN y), mk, gHl (cN y), gDr (cN y), gPa (cN y), gWi (cN y)), cP y, cH y, cK y, cB y, cT y)
/-- emitting all that are due, one by one -/
theorem grows_loop {mk : Int32} {L0 W : List WT} {G0 : GH} (hB : InjB m B) (hL : L0.length + W.length ≤ 3900)
    (k : ∀ G' R, MS G' m B th (setWn (setLk (setMk y mk) (L0 ++ R)) (W.map (emF mk))) Jd JK → R.Perm ((W.filter (fun w => decide (due mk w))).map (fun w => setO w 1)) → MSt G0 m B G' → Post (.inl none) G') :
    ∀ (n : Nat) (Wc R : List WT) (G : GH) (F : Nat → Int32) (T : Nat → Nat → Int32), (Wc.filter (fun w => decide (due mk w))).length = n → MoS G m B F T → AB F T th (setWn (setLk (setMk y mk) (L0 ++ R)) Wc) Jd JK → MSt G0 m B G → Wc.map (emF mk) = W.map (emF mk) → (R ++ (Wc.filter (fun w => decide (due mk w))).map (fun w => setO w 1)).Perm ((W.filter (fun w => decide (due mk w))).map (fun w => setO w 1)) → R.length + n ≤ W.length →
    ∀ p : Int32, ((p = -1 ∧ ∀ w ∈ Wc, ¬ due mk w) ∨ ∃ i w, p = nI i ∧ Wc[i]? = some w ∧ due mk w) → J E 3 m_Mo_grows 89 [some (.ref m), none, some (.int p)] [] G Post := by
  intro n
  induction n with
  | zero =>
    intro Wc R G F T hn h ha hst hmap hperm hlen p hp
    have hnone : Wc.filter (fun w => decide (due mk w)) = [] := List.length_eq_zero_iff.mp hn
    refine wp_Mo_grows_89 m p ⟨fun _ => ?_, fun z => ?_⟩
    · have hid : Wc.map (emF mk) = Wc := by
        conv => rhs; rw [← List.map_id Wc]
        refine List.map_congr_left (fun w hw => emF_not (fun z => ?_))
        have : w ∈ Wc.filter (fun w => decide (due mk w)) := List.mem_filter.mpr ⟨hw, decide_eq_true z⟩
        rw [hnone] at this
        exact absurd this List.not_mem_nil
      rw [hnone, List.map_nil, List.append_nil] at hperm
      refine k G R ⟨F, T, h, ?_⟩ hperm hst
      rw [← hmap, hid]
      exact ha
    · rcases hp with ⟨e, -⟩ | ⟨i, w, e, hi, hd⟩
      · exact absurd e z
      · have : w ∈ Wc.filter (fun w => decide (due mk w)) := List.mem_filter.mpr ⟨List.mem_of_getElem? hi, decide_eq_true hd⟩
        rw [hnone] at this
        exact absurd this List.not_mem_nil
  | succ n ih =>
    intro Wc R G F T hn h ha hst hmap hperm hlen p hp
    have hW : aW (F 29) T 23 Wc := ha.2.2.2.2.2.2.2.1
    obtain ⟨n0, n1, n2⟩ := id hW
    rcases hp with ⟨e, hp⟩ | ⟨i, w, e, hi, hd⟩
    · have : Wc.filter (fun w => decide (due mk w)) = [] := List.filter_eq_nil_iff.mpr (fun w hw => by simpa using hp w hw)
      rw [this] at hn
      simp at hn
    · have il := (List.getElem?_eq_some_iff.mp hi).1
      subst e
      obtain ⟨q1, q2, q3, q4, q5, q6, q7⟩ := n2 i w hi
      refine wp_Mo_grows_89 m (nI i) ⟨fun z => absurd z (nI_ne1 (by omega)), fun _ => ⟨h.tg, ?_⟩⟩
      refine c_sends hB h ha (by omega) ⟨q1, q2, q3, q4, q5⟩ (Or.inl rfl) ?_ (fun G1 F1 T1 h1 s1 a1 t1 f1 => ?_)
      · show (L0 ++ R).length < 3900
        rw [List.length_append]; omega
      have eT : T1 28 = T 28 := t1 28 (by omega)
      refine wp_Mo_grows_100 m (nI i) ⟨h1.tg, B 28, h1.rf 28 rfl, h1.at' 28 rfl, i, h1.ix 28 rfl (by unfold aN; simp; omega), ?_⟩
      have h2 := h1.wA hB 28 i 1 rfl
      have hW2 : aW (F1 29) (up2 T1 28 i 1) 23 (Wc.set i (setO w 1)) := aW.setO a1.2.2.2.2.2.2.2.1 hi (Or.inr rfl)
      obtain ⟨x1, x2, x3, x4, x5, x6, x7, x8, x9, x10, x11, x12, x13, x14, x15, x16, x17, x18⟩ := a1
      have ha2 : AB F1 (up2 T1 28 i 1) th (setWn (setLk (setMk y mk) (L0 ++ (R ++ [setO w 1]))) (Wc.set i (setO w 1))) Jd JK := by
        rw [← List.append_assoc]
        exact ⟨x1, x2, x3, x4, x5, x6, x7, hW2, x9, x10, x11, x12, x13, x14, x15, x16, x17, x18⟩
      have s2 : MSt G0 m B (sA G1 (B 28) i 1) := hst.tr (s1.wA rfl)
      generalize sA G1 (B 28) i 1 = G2 at *
      obtain ⟨l1, l2, e1, e2⟩ := set_split hi
      have hnd : ¬ due mk (setO w 1) := fun z => absurd z.1 (by show ¬ (1 : Int32) = 0; decide)
      have ef : Wc.filter (fun w => decide (due mk w)) = l1.filter (fun w => decide (due mk w)) ++ w :: l2.filter (fun w => decide (due mk w)) := by
        rw [e1, List.filter_append, List.filter_cons, if_pos (decide_eq_true hd)]
      have ef2 : (Wc.set i (setO w 1)).filter (fun w => decide (due mk w)) = l1.filter (fun w => decide (due mk w)) ++ l2.filter (fun w => decide (due mk w)) := by
        rw [e2, List.filter_append, List.filter_cons, if_neg (by simpa using hnd)]
      have g1 : ((Wc.set i (setO w 1)).filter (fun w => decide (due mk w))).length = n := by
        rw [ef, List.length_append, List.length_cons] at hn
        rw [ef2, List.length_append]; omega
      have g2 : (Wc.set i (setO w 1)).map (emF mk) = W.map (emF mk) := by
        rw [← hmap, e2, e1, List.map_append, List.map_append, List.map_cons, List.map_cons, emF_set, emF_due hd]
      have g3 : ((R ++ [setO w 1]) ++ ((Wc.set i (setO w 1)).filter (fun w => decide (due mk w))).map (fun w => setO w 1)).Perm ((W.filter (fun w => decide (due mk w))).map (fun w => setO w 1)) := by
        refine List.Perm.trans ?_ hperm
        rw [ef, ef2, List.append_assoc]
        refine List.Perm.append_left R ?_
        rw [List.map_append, List.map_append, List.map_cons, List.singleton_append]
        exact List.perm_middle.symm
      have next : ∀ p : Int32, ((p = -1 ∧ ∀ w' ∈ Wc.set i (setO w 1), ¬ due mk w') ∨ ∃ j w', p = nI j ∧ (Wc.set i (setO w 1))[j]? = some w' ∧ due mk w') → J E 3 m_Mo_grows 89 [some (.ref m), none, some (.int p)] [] G2 Post :=
        ih (Wc.set i (setO w 1)) (R ++ [setO w 1]) G2 F1 _ g1 h2 ha2 s2 g2 g3 (by rw [List.length_append]; simp; omega)
      refine c_first h2 ha2.2.2.2.2.2.1 hW2 (fun z => wp_Mo_grows_111 m (-1) (next (-1) (Or.inl ⟨rfl, z⟩))) (fun j w' hj hd' => wp_Mo_grows_111 m (nI j) (next (nI j) (Or.inr ⟨j, w', rfl, hj, hd'⟩)))
end GROWS
