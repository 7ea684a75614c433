def wsF : Int32 → List WT → Int32
  | f, [] => f
  | f, x :: L => wsF (if wO x = 0 then f else 1) L
theorem wsF_snoc (x : WT) : ∀ (M : List WT) (f : Int32), wsF f (M ++ [x]) = if wO x = 0 then wsF f M else 1
  | [], f => rfl
  | z :: M, f => wsF_snoc x M _
theorem wsF_01 : ∀ (M : List WT) (f : Int32), (f = 0 ∨ f = 1) → (wsF f M = 0 ∨ wsF f M = 1)
  | [], f, h => h
  | x :: M, f, h => wsF_01 M _ (by by_cases c : wO x = 0 <;> simp [c, h])
def bkF (M : List WT) : List WT := M.flatMap (fun x => if wO x = 0 then [] else [setO x 0])
theorem bkF_snoc (M : List WT) (x : WT) : bkF (M ++ [x]) = bkF M ++ (if wO x = 0 then [] else [setO x 0]) := by
  unfold bkF
  rw [List.flatMap_append, List.flatMap_singleton]
theorem bkF_len : ∀ M : List WT, (bkF M).length ≤ M.length
  | [] => Nat.le_refl _
  | x :: M => by
    have h := bkF_len M
    unfold bkF at h ⊢
    rw [List.flatMap_cons, List.length_append, List.length_cons]
    generalize M.flatMap (fun x => if wO x = 0 then [] else [setO x 0]) = z at *
    by_cases c : wO x = 0
    · rw [if_pos c]; simp; omega
    · rw [if_neg c]; simp; omega
section MAKES2
variable {E : EV} {G : GH} {Post : Res → GH → Prop} {m : Nat} {B : Nat → Nat} {F : Nat → Int32} {T : Nat → Nat → Int32} {th : Int32} {y : XS} {Jd : List Nat} {JK : Nat}
def mkA (w0 : WT) (M : List WT) : WT := M.foldl absorb w0
def mkM (w0 : WT) (mk : Int32) (M : List WT) : WT := if ¬ wsF 0 M = 0 ∧ wE (mkA w0 M) ≤ mk then setO (mkA w0 M) 1 else mkA w0 M
def mkE (w0 : WT) (mk : Int32) (M : List WT) : List WT := if ¬ wsF 0 M = 0 ∧ wE (mkA w0 M) ≤ mk then [setO (mkA w0 M) 1] else []
theorem mkA_O {w0 : WT} : ∀ (M : List WT), wO (mkA w0 M) = wO w0 ∧ wK (mkA w0 M) = wK w0 := by
  intro M
  induction M generalizing w0 with
  | nil => exact ⟨rfl, rfl⟩
  | cons x M ih => exact ih (w0 := absorb w0 x)
theorem mkA_snoc {w0 x : WT} {M : List WT} : mkA w0 (M ++ [x]) = absorb (mkA w0 M) x := by
  unfold mkA
  rw [List.foldl_append]; rfl
theorem aW.three {n : Int32} {W : List WT} {i : Nat} {w u : WT} {a b c : Int32} (h : aW n T 23 W) (hi : W[i]? = some w) (hu : wK u = wK w ∧ wS u = wS w ∧ wE u = a ∧ wC u = b ∧ wM u = c ∧ wO u = wO w) : aW n (up2 (up2 (up2 T 25 i a) 26 i b) 27 i c) 23 (W.set i u) := by
  refine ⟨by rw [List.length_set]; exact h.1, by rw [List.length_set]; exact h.2.1, fun j z hz => ?_⟩
  rw [List.getElem?_set] at hz
  have il := (List.getElem?_eq_some_iff.mp hi).1
  by_cases q : i = j
  · rw [if_pos q, if_pos (by omega)] at hz
    cases hz
    obtain ⟨q1, q2, q3, q4, q5, q6, q7⟩ := h.2.2 i w hi
    rw [← q]
    exact ⟨q1.trans hu.1.symm, q2.trans hu.2.1.symm, u2.trans hu.2.2.1.symm, u2.trans hu.2.2.2.1.symm, u2.trans hu.2.2.2.2.1.symm, q6.trans hu.2.2.2.2.2.symm, by rw [hu.2.2.2.2.2]; exact q7⟩
  · rw [if_neg q] at hz
    obtain ⟨q1, q2, q3, q4, q5, q6, q7⟩ := h.2.2 j z hz
    exact ⟨q1, q2, (u2n (fun z => q z.symm)).trans q3, (u2n (fun z => q z.symm)).trans q4, (u2n (fun z => q z.symm)).trans q5, q6, q7⟩
theorem c_makes {v : V3} {sz gr mk : Int32} {e : Nat} {w0 : WT} (hB : InjB m B) (h : MoS G m B F T) (ha : AB F T th y Jd JK) (hj : cJ y 1 = sz ∧ cJ y 3 = gr ∧ gMk (cN y) = mk) (hv : T 9 e = v.1 ∧ T 10 e = v.2.1 ∧ T 11 e = v.2.2) (he : e < 120) (hw0 : w0 = (v.2.1, v.1, v.1 + sz, 1, v.2.2, 0)) (hL : (kL (cK y)).length + (gWi (cN y)).length + 1 ≤ 3890) (hl : (gWi (cN y)).length + 1 ≤ 989)
    (hno : ∀ M : List WT, M.Perm ((gWi (cN y)).filter (fun w => decide (tou v.2.1 v.1 (v.1 + sz) w))) → ∀ w ∈ (gWi (cN y)).filter (fun w => decide (¬ tou v.2.1 v.1 (v.1 + sz) w)), ¬ isW v.2.1 (wS (mkA w0 M)) w)
    (k0 : v.1 + sz + gr ≤ mk → Post (.inl (some (.int 0))) G)
    (k1 : ¬ v.1 + sz + gr ≤ mk → ∀ G' M, M.Perm ((gWi (cN y)).filter (fun w => decide (tou v.2.1 v.1 (v.1 + sz) w))) → MS G' m B th (setWn (setLk y ((kL (cK y) ++ bkF M) ++ mkE w0 mk M)) ((gWi (cN y)).filter (fun w => decide (¬ tou v.2.1 v.1 (v.1 + sz) w)) ++ [mkM w0 mk M])) Jd JK → MSt G m B G' → Post (.inl (some (.int 1))) G') : Cl E 2 m_Mo_makes [.ref m, .int (nI e)] G Post := by
  have x2 : aJ F (cJ y) := ha.2.1
  have e642 : gI G 642 m = sz := ((h.int 2 (by decide) (by decide)).trans x2.2.1).trans hj.1
  have e644 : gI G 644 m = gr := ((h.int 4 (by decide) (by decide)).trans x2.2.2.2.1).trans hj.2.1
  have x6 : F 18 = gMk (cN y) := ha.2.2.2.2.2.1
  have e658 : gI G 658 m = mk := ((h.int 18 (by decide) (by decide)).trans x6).trans hj.2.2
  generalize hW : gWi (cN y) = W at *
  refine j_enter (L := [some (.ref m), some (.int (nI e)), none, none, none, none, none, none, none, none, none]) me_Mo_makes (cat_c rfl (cat_c rfl cat_n)) (Nat.le_of_ble_eq_true rfl) rfl (wp_Mo_makes_0 m (nI e) ⟨h.tg, B 9, h.rf 9 rfl, Or.inl (h.at' 9 rfl), e, h.ix 9 rfl (by unfold aN; simp; omega), ?_⟩)
  rw [h.rd 9 rfl, hv.1, e642, e644, e658]
  refine ⟨fun c => ?_, fun c => k0 (Int32.not_lt.mp c)⟩
  have hk1 := k1 (Int32.not_le.mpr c)
  clear k0 k1
  refine ⟨B 11, h.rf 11 rfl, Or.inl (h.at' 11 rfl), e, h.ix 11 rfl (by unfold aN; simp; omega), B 10, h.rf 10 rfl, Or.inl (h.at' 10 rfl), e, h.ix 10 rfl (by unfold aN; simp; omega), ?_⟩
  rw [h.rd 11 rfl, h.rd 10 rfl, hv.2.1, hv.2.2]
  -- the loop
  have loop : ∀ (n : Nat) (Wc M : List WT) (G1 : GH) (F1 : Nat → Int32) (T1 : Nat → Nat → Int32), (Wc.filter (fun w => decide (tou v.2.1 v.1 (v.1 + sz) w))).length = n → MoS G1 m B F1 T1 → AB F1 T1 th (setWn (setLk y (kL (cK y) ++ bkF M)) Wc) Jd JK → MSt G m B G1 → Wc.filter (fun w => decide (¬ tou v.2.1 v.1 (v.1 + sz) w)) = W.filter (fun w => decide (¬ tou v.2.1 v.1 (v.1 + sz) w)) → (M ++ Wc.filter (fun w => decide (tou v.2.1 v.1 (v.1 + sz) w))).Perm (W.filter (fun w => decide (tou v.2.1 v.1 (v.1 + sz) w))) → M.length + Wc.length ≤ W.length → (T1 9 e = v.1 ∧ T1 10 e = v.2.1 ∧ T1 11 e = v.2.2) →
      ∀ p : Int32, ((p = -1 ∧ ∀ w ∈ Wc, ¬ tou v.2.1 v.1 (v.1 + sz) w) ∨ ∃ i w, p = nI i ∧ Wc[i]? = some w ∧ tou v.2.1 v.1 (v.1 + sz) w) → J E 2 m_Mo_makes 68 [some (.ref m), some (.int (nI e)), some (.int v.1), some (.int (v.1 + sz)), some (.int (wS (mkA w0 M))), some (.int (wE (mkA w0 M))), some (.int (wC (mkA w0 M))), some (.int (wM (mkA w0 M))), some (.int (wsF 0 M)), some (.int p), none] [] G1 Post := by
    intro n
    induction n with
    | zero =>
      intro Wc M G1 F1 T1 hn h1 a1 s1 hf hp hlen hv1 p hp'
      have hnone : Wc.filter (fun w => decide (tou v.2.1 v.1 (v.1 + sz) w)) = [] := List.length_eq_zero_iff.mp hn
      rw [hnone, List.append_nil] at hp
      have hall : Wc.filter (fun w => decide (¬ tou v.2.1 v.1 (v.1 + sz) w)) = Wc := List.filter_eq_self.mpr (fun w hw => by
        rw [decide_eq_true_eq]
        intro z
        have : w ∈ Wc.filter (fun w => decide (tou v.2.1 v.1 (v.1 + sz) w)) := List.mem_filter.mpr ⟨hw, decide_eq_true z⟩
        rw [hnone] at this
        exact List.not_mem_nil this)
      rw [hall] at hf
      refine wp_Mo_makes_68 m _ _ _ _ _ _ _ _ p ⟨fun _ => ⟨h1.tg, B 10, h1.rf 10 rfl, Or.inl (h1.at' 10 rfl), e, h1.ix 10 rfl (by unfold aN; simp; omega), ?_⟩, fun z => ?_⟩
      rotate_left
      · rcases hp' with ⟨e', -⟩ | ⟨i, w, e', hi, hd⟩
        · exact absurd e' z
        · have : w ∈ Wc.filter (fun w => decide (tou v.2.1 v.1 (v.1 + sz) w)) := List.mem_filter.mpr ⟨List.mem_of_getElem? hi, decide_eq_true hd⟩
          rw [hnone] at this
          exact absurd this List.not_mem_nil
      rw [h1.rd 10 rfl, hv1.2.1]
      have hWl : Wc.length < 990 := by omega
      refine c_window hB h1 a1 hWl (fun a w hw hs => ?_) (fun _ G2 F2 T2 h2 s2 a2 t2 f2 => ?_)
      · have hw : Wc[a]? = some w := hw
        exact absurd hs (hno M hp w (by rw [← hf]; exact List.mem_of_getElem? hw))
      -- the window is made
      have a2' : AB F2 T2 th (setWn (setLk y (kL (cK y) ++ bkF M)) (Wc ++ [(v.2.1, wS (mkA w0 M), wS (mkA w0 M) + cJ y 1, 0, 0, 0)])) Jd JK := a2
      have nl : (gWi (cN (setWn (setLk y (kL (cK y) ++ bkF M)) Wc))).length = Wc.length := rfl
      rw [nl]
      generalize hq : Wc.length = q at *
      have hq1 : (Wc ++ [(v.2.1, wS (mkA w0 M), wS (mkA w0 M) + cJ y 1, 0, 0, 0)])[q]? = some (v.2.1, wS (mkA w0 M), wS (mkA w0 M) + cJ y 1, 0, 0, 0) := by rw [← hq]; exact List.getElem?_concat_length
      have hset : ∀ u, (Wc ++ [(v.2.1, wS (mkA w0 M), wS (mkA w0 M) + cJ y 1, 0, 0, 0)]).set q u = Wc ++ [u] := fun u => by
        rw [List.set_append_right _ _ (by omega), hq, Nat.sub_self]; rfl
      have p1 := h2.wA hB 25 q (wE (mkA w0 M)) rfl
      have p2 := p1.wA hB 26 q (wC (mkA w0 M)) rfl
      have p3 := p2.wA hB 27 q (wM (mkA w0 M)) rfl
      have kO : wO (mkA w0 M) = 0 ∧ wK (mkA w0 M) = v.2.1 := by
        have := mkA_O (w0 := w0) M
        rw [hw0] at this ⊢
        exact this
      have hW3 : aW (F2 29) (up2 (up2 (up2 T2 25 q (wE (mkA w0 M))) 26 q (wC (mkA w0 M))) 27 q (wM (mkA w0 M))) 23 (Wc ++ [mkA w0 M]) := by
        rw [← hset]
        exact aW.three a2'.2.2.2.2.2.2.2.1 hq1 ⟨kO.2, rfl, rfl, rfl, rfl, kO.1⟩
      obtain ⟨y1, y2, y3, y4, y5, y6, y7, y8, y9, y10, y11, y12, y13, y14, y15, y16, y17, y18⟩ := a2'
      have a3 : AB F2 (up2 (up2 (up2 T2 25 q (wE (mkA w0 M))) 26 q (wC (mkA w0 M))) 27 q (wM (mkA w0 M))) th (setWn (setLk y (kL (cK y) ++ bkF M)) (Wc ++ [mkA w0 M])) Jd JK :=
        ⟨y1, y2, y3, y4, y5, y6, y7, hW3, y9, y10, y11, y12, y13, y14, y15, y16, y17, y18⟩
      have s3 : MSt G m B (sA (sA (sA G2 (B 25) q (wE (mkA w0 M))) (B 26) q (wC (mkA w0 M))) (B 27) q (wM (mkA w0 M))) := s1.tr (s2.tr (((MSt.rf.wA rfl).wA rfl).wA rfl))
      have ixq : ∀ j, 23 ≤ j → j ≤ 28 → IX (nI q) q (gN G2 (B j)) := fun j g1 g2 => h2.ix j (by unfold aK; simp; omega) (by unfold aN; rw [if_neg (by omega), if_neg (by omega), if_pos (by omega)]; omega)
      refine wp_Mo_makes_181 m _ _ _ _ (nI q) ⟨h2.tg, B 25, h2.rf 25 rfl, h2.at' 25 rfl, q, ixq 25 (by decide) (by decide), B 26, h2.rf 26 rfl, h2.at' 26 rfl, q, ixq 26 (by decide) (by decide), B 27, h2.rf 27 rfl, h2.at' 27 rfl, q, ixq 27 (by decide) (by decide), ?_⟩
      have e658' : gI G2 658 m = mk := ((h2.int 18 (by decide) (by decide)).trans y6).trans hj.2.2
      rw [e658']
      generalize sA (sA (sA G2 (B 25) q (wE (mkA w0 M))) (B 26) q (wC (mkA w0 M))) (B 27) q (wM (mkA w0 M)) = G3 at *
      have plain : ¬ (¬ wsF 0 M = 0 ∧ wE (mkA w0 M) ≤ mk) → Post (.inl (some (.int 1))) G3 := fun hc => by
        refine hk1 G3 M hp ⟨F2, _, p3, ?_⟩ s3
        unfold mkM mkE
        rw [if_neg hc, if_neg hc, List.append_nil, ← hf]
        exact a3
      refine ⟨fun z => plain (fun y => y.1 z), fun z => ⟨fun z2 => plain (fun y => Int32.not_lt.mpr y.2 z2), fun z2 => ?_⟩⟩
      have hc : ¬ wsF 0 M = 0 ∧ wE (mkA w0 M) ≤ mk := ⟨z, Int32.not_lt.mp z2⟩
      have hq3 : (Wc ++ [mkA w0 M])[q]? = some (mkA w0 M) := by rw [← hq]; exact List.getElem?_concat_length
      obtain ⟨r1, r2, r3, r4, r5, r6, r7⟩ := hW3.2.2 q _ hq3
      have hbl := bkF_len M
      refine c_sends hB p3 a3 (by omega) ⟨r1, r2, r3, r4, r5⟩ (Or.inl rfl) ?_ (fun G4 F4 T4 h4 s4 a4 t4 f4 => ?_)
      · show (kL (cK y) ++ bkF M).length < 3900
        rw [List.length_append]; omega
      refine wp_Mo_makes_231 m (nI q) ⟨h4.tg, B 28, h4.rf 28 rfl, h4.at' 28 rfl, q, h4.ix 28 rfl (by unfold aN; simp; omega), ?_⟩
      have hW5 : aW (F4 29) (up2 T4 28 q 1) 23 (Wc ++ [setO (mkA w0 M) 1]) := by
        have : aW (F4 29) (up2 T4 28 q 1) 23 ((Wc ++ [mkA w0 M]).set q (setO (mkA w0 M) 1)) := aW.setO (v := 1) a4.2.2.2.2.2.2.2.1 hq3 (Or.inr rfl)
        rw [List.set_append_right _ _ (by omega), hq, Nat.sub_self] at this
        exact this
      obtain ⟨z1, z2, z3, z4, z5, z6, z7, z8, z9, z10, z11, z12, z13, z14, z15, z16, z17, z18⟩ := a4
      refine hk1 _ M hp ⟨F4, _, h4.wA hB 28 q 1 rfl, ?_⟩ (s3.tr (s4.wA rfl))
      unfold mkM mkE
      rw [if_pos hc, if_pos hc, ← hf]
      exact ⟨z1, z2, z3, z4, z5, z6, z7, hW5, z9, z10, z11, z12, z13, z14, z15, z16, z17, z18⟩
    | succ n ih =>
      intro Wc M G1 F1 T1 hn h1 a1 s1 hf hp hlen hv1 p hp'
      rcases hp' with ⟨e', hp'⟩ | ⟨i, w, e', hi, hd⟩
      · have : Wc.filter (fun w => decide (tou v.2.1 v.1 (v.1 + sz) w)) = [] := List.filter_eq_nil_iff.mpr (fun w hw => by simpa using hp' w hw)
        rw [this] at hn
        simp at hn
      subst e'
      have il := (List.getElem?_eq_some_iff.mp hi).1
      have hW1 : aW (F1 29) T1 23 Wc := a1.2.2.2.2.2.2.2.1
      obtain ⟨q1, q2, q3, q4, q5, q6, q7⟩ := hW1.2.2 i w hi
      obtain ⟨l1, l2, e1, el, -⟩ := set_splitL hi
      have ee : Wc.eraseIdx i = l1 ++ l2 := by rw [e1, List.eraseIdx_append_of_length_le (by omega), el, Nat.sub_self]; rfl
      have g1 : ((Wc.eraseIdx i).filter (fun w => decide (tou v.2.1 v.1 (v.1 + sz) w))).length = n := by
        rw [e1, List.filter_append, List.filter_cons, if_pos (decide_eq_true hd), List.length_append, List.length_cons] at hn
        rw [ee, List.filter_append, List.length_append]; omega
      have g2 : (Wc.eraseIdx i).filter (fun w => decide (¬ tou v.2.1 v.1 (v.1 + sz) w)) = W.filter (fun w => decide (¬ tou v.2.1 v.1 (v.1 + sz) w)) := by
        rw [← hf, ee, e1, List.filter_append, List.filter_append, List.filter_cons, if_neg (by rw [decide_eq_true_eq]; exact fun z => z hd)]
      have g3 : ((M ++ [w]) ++ (Wc.eraseIdx i).filter (fun w => decide (tou v.2.1 v.1 (v.1 + sz) w))).Perm (W.filter (fun w => decide (tou v.2.1 v.1 (v.1 + sz) w))) := by
        refine List.Perm.trans ?_ hp
        rw [ee, e1, List.append_assoc, List.filter_append, List.filter_append, List.filter_cons, if_pos (decide_eq_true hd)]
        exact List.Perm.append_left M (by rw [List.singleton_append]; exact List.perm_middle.symm)
      have g4 : (M ++ [w]).length + (Wc.eraseIdx i).length ≤ W.length := by
        rw [List.length_append, List.length_eraseIdx_of_lt il]; simp; omega
      have ix : ∀ j, 23 ≤ j → j ≤ 28 → IX (nI i) i (gN G1 (B j)) := fun j g1 g2 => h1.ix j (by unfold aK; simp; omega) (by unfold aN; rw [if_neg (by omega), if_neg (by omega), if_pos (by omega)]; have := hW1.2.1; omega)
      -- behind the sink: from an object whose sink has M ++ [w]
      have dr : ∀ (G2 : GH) (F2 : Nat → Int32) (T2 : Nat → Nat → Int32), MoS G2 m B F2 T2 → AB F2 T2 th (setWn (setLk y (kL (cK y) ++ bkF (M ++ [w]))) Wc) Jd JK → MSt G m B G2 → (T2 9 e = v.1 ∧ T2 10 e = v.2.1 ∧ T2 11 e = v.2.2) → Cl E 1 m_Mo_drops [.ref m, .int (nI i)] G2 (aft E 2 m_Mo_makes 149 [some (.ref m), some (.int (nI e)), some (.int v.1), some (.int (v.1 + sz)), some (.int (wS (mkA w0 (M ++ [w])))), some (.int (wE (mkA w0 (M ++ [w])))), some (.int (wC (mkA w0 (M ++ [w])))), some (.int (wM (mkA w0 (M ++ [w])))), some (.int (wsF 0 (M ++ [w]))), none, none] [] Post) := by
        intro G2 F2 T2 h2 a2 s2 v2
        refine c_drops hB h2 a2 il (fun G3 F3 T3 h3 s3 a3 t3 => ?_)
        have a3' : AB F3 T3 th (setWn (setLk y (kL (cK y) ++ bkF (M ++ [w]))) (Wc.eraseIdx i)) Jd JK := a3
        have v3 : T3 9 e = v.1 ∧ T3 10 e = v.2.1 ∧ T3 11 e = v.2.2 := ⟨(congrFun (t3 9 (by omega)) e).trans v2.1, (congrFun (t3 10 (by omega)) e).trans v2.2.1, (congrFun (t3 11 (by omega)) e).trans v2.2.2⟩
        refine wp_Mo_makes_152 m _ _ _ _ _ _ _ _ ⟨h3.tg, B 10, h3.rf 10 rfl, Or.inl (h3.at' 10 rfl), e, h3.ix 10 rfl (by unfold aN; simp; omega), ?_⟩
        rw [h3.rd 10 rfl, v3.2.1]
        have next := ih (Wc.eraseIdx i) (M ++ [w]) G3 F3 T3 g1 h3 a3' (s2.tr s3) g2 g3 g4 v3
        exact c_touching h3 a3'.2.2.2.2.2.2.2.1 (fun z => wp_Mo_makes_164 m _ _ _ _ _ _ _ _ (-1) (next (-1) (Or.inl ⟨rfl, z⟩))) (fun j u hj hu => wp_Mo_makes_164 m _ _ _ _ _ _ _ _ (nI j) (next (nI j) (Or.inr ⟨j, u, rfl, hj, hu⟩)))
      have nS1 : wS w ≤ wS (mkA w0 M) → wS (mkA w0 (M ++ [w])) = wS w := fun hc => by
        rw [mkA_snoc]
        show (if wS w < wS (mkA w0 M) then wS w else wS (mkA w0 M)) = wS w
        by_cases c : wS w < wS (mkA w0 M)
        · rw [if_pos c]
        · rw [if_neg c]; exact (i32_antisymm hc c).symm
      have nS2 : ¬ wS w ≤ wS (mkA w0 M) → wS (mkA w0 (M ++ [w])) = wS (mkA w0 M) := fun hc => by
        rw [mkA_snoc]
        exact if_neg (fun c => hc (Int32.le_of_lt c))
      have nE1 : wE (mkA w0 M) ≤ wE w → wE (mkA w0 (M ++ [w])) = wE w := fun hc => by
        rw [mkA_snoc]
        show (if wE (mkA w0 M) < wE w then wE w else wE (mkA w0 M)) = wE w
        by_cases c : wE (mkA w0 M) < wE w
        · rw [if_pos c]
        · rw [if_neg c]; exact i32_antisymm hc c
      have nE2 : ¬ wE (mkA w0 M) ≤ wE w → wE (mkA w0 (M ++ [w])) = wE (mkA w0 M) := fun hc => by
        rw [mkA_snoc]
        exact if_neg (fun c => hc (Int32.le_of_lt c))
      have nC : wC (mkA w0 (M ++ [w])) = wC (mkA w0 M) + wC w := by rw [mkA_snoc]; rfl
      have nM : wM (mkA w0 (M ++ [w])) = wM (mkA w0 M) + wM w := by rw [mkA_snoc]; rfl
      refine wp_Mo_makes_68 m _ _ _ _ _ _ _ _ (nI i) ⟨fun z => absurd z (nI_ne1 (by have := hW1.2.1; omega)), fun _ => ⟨h1.tg, B 28, h1.rf 28 rfl, h1.at' 28 rfl, i, ix 28 (by decide) (by decide), ?_⟩⟩
      rw [show gA G1 (B 28) i = wO w from (h1.rd 28 rfl i).trans q6]
      refine ⟨fun z => ⟨B 24, h1.rf 24 rfl, Or.inl (h1.at' 24 rfl), i, ix 24 (by decide) (by decide), ?_⟩, fun z => ?_⟩
      · have eb : bkF (M ++ [w]) = bkF M := by rw [bkF_snoc, if_pos z, List.append_nil]
        have ew : wsF 0 (M ++ [w]) = wsF 0 M := by rw [wsF_snoc, if_pos z]
        have d0 := dr G1 F1 T1 h1 (by rw [eb]; exact a1) s1 hv1
        rw [ew, nC, nM] at d0
        rw [show gA G1 (B 24) i = wS w from (h1.rd 24 rfl i).trans q2]
        refine ⟨fun c1 => ⟨B 25, h1.rf 25 rfl, Or.inl (h1.at' 25 rfl), i, ix 25 (by decide) (by decide), ?_⟩, fun c1 => ⟨B 25, h1.rf 25 rfl, Or.inl (h1.at' 25 rfl), i, ix 25 (by decide) (by decide), ?_⟩⟩
        · rw [nS1 c1] at d0
          rw [show gA G1 (B 25) i = wE w from (h1.rd 25 rfl i).trans q3]
          refine ⟨fun c2 => ⟨B 26, h1.rf 26 rfl, Or.inl (h1.at' 26 rfl), i, ix 26 (by decide) (by decide), B 27, h1.rf 27 rfl, Or.inl (h1.at' 27 rfl), i, ix 27 (by decide) (by decide), ?_⟩, fun c2 => ⟨B 26, h1.rf 26 rfl, Or.inl (h1.at' 26 rfl), i, ix 26 (by decide) (by decide), B 27, h1.rf 27 rfl, Or.inl (h1.at' 27 rfl), i, ix 27 (by decide) (by decide), ?_⟩⟩
          · rw [nE1 c2] at d0
            rw [show gA G1 (B 26) i = wC w from (h1.rd 26 rfl i).trans q4, show gA G1 (B 27) i = wM w from (h1.rd 27 rfl i).trans q5]
            exact d0
          · rw [nE2 c2] at d0
            rw [show gA G1 (B 26) i = wC w from (h1.rd 26 rfl i).trans q4, show gA G1 (B 27) i = wM w from (h1.rd 27 rfl i).trans q5]
            exact d0
        · rw [nS2 c1] at d0
          rw [show gA G1 (B 25) i = wE w from (h1.rd 25 rfl i).trans q3]
          refine ⟨fun c2 => ⟨B 26, h1.rf 26 rfl, Or.inl (h1.at' 26 rfl), i, ix 26 (by decide) (by decide), B 27, h1.rf 27 rfl, Or.inl (h1.at' 27 rfl), i, ix 27 (by decide) (by decide), ?_⟩, fun c2 => ⟨B 26, h1.rf 26 rfl, Or.inl (h1.at' 26 rfl), i, ix 26 (by decide) (by decide), B 27, h1.rf 27 rfl, Or.inl (h1.at' 27 rfl), i, ix 27 (by decide) (by decide), ?_⟩⟩
          · rw [nE1 c2] at d0
            rw [show gA G1 (B 26) i = wC w from (h1.rd 26 rfl i).trans q4, show gA G1 (B 27) i = wM w from (h1.rd 27 rfl i).trans q5]
            exact d0
          · rw [nE2 c2] at d0
            rw [show gA G1 (B 26) i = wC w from (h1.rd 26 rfl i).trans q4, show gA G1 (B 27) i = wM w from (h1.rd 27 rfl i).trans q5]
            exact d0
      · have eb : bkF (M ++ [w]) = bkF M ++ [setO w 0] := by rw [bkF_snoc, if_neg z]
        have ew : wsF 0 (M ++ [w]) = 1 := by rw [wsF_snoc, if_neg z]
        have hbl := bkF_len M
        refine c_sends hB h1 a1 (by have := hW1.2.1; omega) ⟨q1, q2, q3, q4, q5⟩ (Or.inr rfl) ?_ (fun G2 F2 T2 h2 s2 a2 t2 f2 => ?_)
        · show (kL (cK y) ++ bkF M).length < 3900
          rw [List.length_append]; omega
        have v2 : T2 9 e = v.1 ∧ T2 10 e = v.2.1 ∧ T2 11 e = v.2.2 := ⟨(congrFun (t2 9 (by omega)) e).trans hv1.1, (congrFun (t2 10 (by omega)) e).trans hv1.2.1, (congrFun (t2 11 (by omega)) e).trans hv1.2.2⟩
        have d0 := dr G2 F2 T2 h2 (by rw [eb, ← List.append_assoc]; exact a2) (s1.tr s2) v2
        rw [ew, nC, nM] at d0
        have r : ∀ j, j < 34 → ∀ q, T2 j q = T1 j q := fun j hj q => congrFun (t2 j hj) q
        have ix2 : ∀ j, 23 ≤ j → j ≤ 28 → IX (nI i) i (gN G2 (B j)) := fun j g1 g2 => h2.ix j (by unfold aK; simp; omega) (by unfold aN; rw [if_neg (by omega), if_neg (by omega), if_pos (by omega)]; have := hW1.2.1; omega)
        have e24 : gA G2 (B 24) i = wS w := ((h2.rd 24 rfl i).trans (r 24 (by omega) i)).trans q2
        have e25 : gA G2 (B 25) i = wE w := ((h2.rd 25 rfl i).trans (r 25 (by omega) i)).trans q3
        have e26 : gA G2 (B 26) i = wC w := ((h2.rd 26 rfl i).trans (r 26 (by omega) i)).trans q4
        have e27 : gA G2 (B 27) i = wM w := ((h2.rd 27 rfl i).trans (r 27 (by omega) i)).trans q5
        refine wp_Mo_makes_91 m _ _ _ _ _ _ _ (nI i) ⟨h2.tg, B 24, h2.rf 24 rfl, Or.inl (h2.at' 24 rfl), i, ix2 24 (by decide) (by decide), ?_⟩
        rw [e24]
        refine ⟨fun c1 => ⟨B 25, h2.rf 25 rfl, Or.inl (h2.at' 25 rfl), i, ix2 25 (by decide) (by decide), ?_⟩, fun c1 => ⟨B 25, h2.rf 25 rfl, Or.inl (h2.at' 25 rfl), i, ix2 25 (by decide) (by decide), ?_⟩⟩
        · rw [nS1 c1] at d0
          rw [e25]
          refine ⟨fun c2 => ⟨B 26, h2.rf 26 rfl, Or.inl (h2.at' 26 rfl), i, ix2 26 (by decide) (by decide), B 27, h2.rf 27 rfl, Or.inl (h2.at' 27 rfl), i, ix2 27 (by decide) (by decide), ?_⟩, fun c2 => ⟨B 26, h2.rf 26 rfl, Or.inl (h2.at' 26 rfl), i, ix2 26 (by decide) (by decide), B 27, h2.rf 27 rfl, Or.inl (h2.at' 27 rfl), i, ix2 27 (by decide) (by decide), ?_⟩⟩
          · rw [nE1 c2] at d0
            rw [e26, e27]
            exact d0
          · rw [nE2 c2] at d0
            rw [e26, e27]
            exact d0
        · rw [nS2 c1] at d0
          rw [e25]
          refine ⟨fun c2 => ⟨B 26, h2.rf 26 rfl, Or.inl (h2.at' 26 rfl), i, ix2 26 (by decide) (by decide), B 27, h2.rf 27 rfl, Or.inl (h2.at' 27 rfl), i, ix2 27 (by decide) (by decide), ?_⟩, fun c2 => ⟨B 26, h2.rf 26 rfl, Or.inl (h2.at' 26 rfl), i, ix2 26 (by decide) (by decide), B 27, h2.rf 27 rfl, Or.inl (h2.at' 27 rfl), i, ix2 27 (by decide) (by decide), ?_⟩⟩
          · rw [nE1 c2] at d0
            rw [e26, e27]
            exact d0
          · rw [nE2 c2] at d0
            rw [e26, e27]
            exact d0
  have ha0 : AB F T th (setWn (setLk y (kL (cK y) ++ bkF [])) W) Jd JK := by
    rw [show bkF [] = [] from rfl, List.append_nil, ← hW]
    exact ha
  have first := loop _ W [] G F T rfl h ha0 MSt.rf rfl (List.Perm.refl _) (by simp) hv
  have z0 : mkA w0 [] = w0 := rfl
  rw [z0] at first
  subst hw0
  exact c_touching h ha0.2.2.2.2.2.2.2.1 (fun z => wp_Mo_makes_66 m _ _ _ _ _ _ _ _ (-1) (first (-1) (Or.inl ⟨rfl, z⟩))) (fun j u hj hu => wp_Mo_makes_66 m _ _ _ _ _ _ _ _ (nI j) (first (nI j) (Or.inr ⟨j, u, rfl, hj, hu⟩)))
end MAKES2
