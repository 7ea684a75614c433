section CG
variable {T T' : Nat → Nat → Int32}
theorem aS.cg {sc : SC} (h : aS T sc) (u : ∀ j, (9 ≤ j ∧ j ≤ 12) ∨ j = 15 ∨ j = 16 → T' j = T j) : aS T' sc := by
  intro s hs
  rw [u 9 (by omega), u 10 (by omega), u 11 (by omega), u 12 (by omega), u 15 (by omega), u 16 (by omega)]
  exact h s hs
theorem aP.cg {a b c : Nat} {P : PG} (h : aP T a b c P) (ua : T' a = T a) (ub : T' b = T b) (uc : T' c = T c) : aP T' a b c P := by
  intro s hs
  rw [ua, ub, uc]; exact h s hs
theorem aW.cg {n : Int32} {k : Nat} {W : List WT} (h : aW n T k W) (u : ∀ j, k ≤ j → j ≤ k + 5 → T' j = T j) : aW n T' k W := by
  refine ⟨h.1, h.2.1, fun i w hw => ?_⟩
  rw [u k (by omega) (by omega), u (k + 1) (by omega) (by omega), u (k + 2) (by omega) (by omega), u (k + 3) (by omega) (by omega), u (k + 4) (by omega) (by omega), u (k + 5) (by omega) (by omega)]
  exact h.2.2 i w hw
theorem aL.cg {n : Int32} {L : List WT} (h : aL n T L) (u : ∀ j, 34 ≤ j → j ≤ 39 → T' j = T j) : aL n T' L := by
  refine ⟨h.1, h.2.1, fun i w hw => ?_⟩
  rw [u 34 (by omega) (by omega), u 35 (by omega) (by omega), u 36 (by omega) (by omega), u 37 (by omega) (by omega), u 38 (by omega) (by omega), u 39 (by omega) (by omega)]
  exact h.2.2 i w hw
theorem aJn.cg {n : Int32} {J : List Nat} (h : aJn n T J) (u : T' 32 = T 32) : aJn n T' J := by
  refine ⟨h.1, h.2.1, fun i w hw => ?_⟩
  rw [u]; exact h.2.2 i w hw
theorem aB.cg {F F' : Nat → Int32} {b : BS} (h : aB F T b) (e : F' 20 = F 20) (u : T' 21 = T 21) (u' : T' 22 = T 22) : aB F' T' b := by
  refine ⟨e.trans h.1, fun s hs => ?_⟩
  rw [u, u']; exact h.2 s hs
end CG
def setKW (y : XS) (W : List WT) : XS := (cJ y, cS y, cN y, (gOf (cP y), gTk (cP y), gGr (cP y), gMk (cP y), gHl (cP y), gDr (cP y), gPa (cP y), W), cH y, cK y, cB y, cT y)
section COPIES
variable {E : EV} {G : GH} {Post : Res → GH → Prop} {m : Nat} {B : Nat → Nat} {F : Nat → Int32} {T : Nat → Nat → Int32} {th : Int32} {y : XS} {Jd : List Nat} {JK : Nat}
theorem c_copies (hB : InjB m B) (h : MoS G m B F T) (ha : AB F T th y Jd JK)
    (k : ∀ G' F' T', MoS G' m B F' T' → MSt G m B G' → AB F' T' th (setKW y (gWi (cN y))) Jd JK → Post (.inl none) G') : Cl E 1 m_Mo_copies [.ref m] G Post := by
  obtain ⟨x1, x2, x3, x4, x5, x6, x7, x8, x9, x10, x11, x12, x13, x14, x15, x16, x17, x18⟩ := ha
  obtain ⟨n0, n1, n2⟩ := id x8
  have e29 : gI G 669 m = nI (gWi (cN y)).length := (h.int 29 (by decide) (by decide)).trans n0
  generalize hW : gWi (cN y) = W at *
  have loop : ∀ (d q : Nat) (G1 : GH) (T1 : Nat → Nat → Int32), d + q = W.length → MoS G1 m B F T1 → MSt G m B G1 → (∀ j, (j < 45 ∨ 50 < j) → T1 j = T j) → (∀ (j : Nat) w, W[j]? = some w → j < q → T1 45 j = wK w ∧ T1 46 j = wS w ∧ T1 47 j = wE w ∧ T1 48 j = wC w ∧ T1 49 j = wM w ∧ T1 50 j = wO w ∧ (wO w = 0 ∨ wO w = 1)) → J E 1 m_Mo_copies 2 [some (.ref m), some (.int (nI q))] [] G1 Post := by
    intro d
    induction d with
    | zero =>
      intro q G1 T1 hdq h1 s1 t1 r1
      refine wp_Mo_copies_2 m (nI q) ⟨h1.tg, ?_⟩
      have e29' : gI G1 669 m = nI W.length := (h1.int 29 (by decide) (by decide)).trans n0
      rw [e29', nI_leI (by omega) (by omega)]
      refine ⟨fun _ => k _ _ T1 (h1.wI 51 (nI W.length)) s1.wI ?_, fun z => absurd (by omega) z⟩
      exact ⟨x1, x2, x3, x4.cg (fun j hj => t1 j (by omega)), x5.cg (t1 13 (by omega)) (t1 14 (by omega)) (t1 17 (by omega)), x6, x7, (hW ▸ x8.cg (fun j g1 g2 => t1 j (by omega)) : aW (F 29) T1 23 (gWi (cN y))), x9.cg (t1 32 (by omega)), x10.cg (t1 52 (by omega)) (t1 53 (by omega)) (t1 54 (by omega)), x11, x12, ⟨rfl, n1, fun j w hw => r1 j w hw (by have il : j < W.length := (List.getElem?_eq_some_iff.mp hw).1; omega)⟩, x14, x15.cg (fun j g1 g2 => t1 j (by omega)), x16, x17, x18.cg rfl (t1 21 (by omega)) (t1 22 (by omega))⟩
    | succ d ih =>
      intro q G1 T1 hdq h1 s1 t1 r1
      obtain ⟨w, hw⟩ : ∃ w, W[q]? = some w := ⟨_, List.getElem?_eq_getElem (by omega)⟩
      obtain ⟨q1, q2, q3, q4, q5, q6, q7⟩ := n2 q w hw
      have r : ∀ j, j < 45 → ∀ z, T1 j z = T j z := fun j hj z => congrFun (t1 j (by omega)) z
      have ix : ∀ j, (23 ≤ j ∧ j ≤ 28) ∨ (45 ≤ j ∧ j ≤ 50) → IX (nI q) q (gN G1 (B j)) := fun j g => by
        rcases g with g | g
        · exact h1.ix j (by unfold aK; simp; omega) (by unfold aN; rw [if_neg (by omega), if_neg (by omega), if_pos (by omega)]; omega)
        · exact h1.ix j (by unfold aK; simp; omega) (by unfold aN; rw [if_neg (by omega), if_neg (by omega), if_neg (by omega), if_neg (by omega), if_neg (by omega), if_neg (by omega), if_pos (by omega)]; omega)
      refine wp_Mo_copies_2 m (nI q) ⟨h1.tg, ?_⟩
      have e29' : gI G1 669 m = nI W.length := (h1.int 29 (by decide) (by decide)).trans n0
      rw [e29', nI_leI (by omega) (by omega), nI_1 q]
      have p1 := h1.wA hB 45 q (wK w) rfl
      have p2 := p1.wA hB 46 q (wS w) rfl
      have p3 := p2.wA hB 47 q (wE w) rfl
      have p4 := p3.wA hB 48 q (wC w) rfl
      have p5 := p4.wA hB 49 q (wM w) rfl
      have p6 := p5.wA hB 50 q (wO w) rfl
      refine ⟨fun z => absurd z (by omega), fun _ => ⟨B 45, h1.rf 45 rfl, B 23, h1.rf 23 rfl, Or.inl (h1.at' 23 rfl), q, ix 23 (by omega), h1.at' 45 rfl, q, ix 45 (by omega), B 46, h1.rf 46 rfl, B 24, h1.rf 24 rfl, Or.inl (h1.at' 24 rfl), q, ix 24 (by omega), h1.at' 46 rfl, q, ix 46 (by omega), B 47, h1.rf 47 rfl, B 25, h1.rf 25 rfl, Or.inl (h1.at' 25 rfl), q, ix 25 (by omega), h1.at' 47 rfl, q, ix 47 (by omega), fun G32 hG32 => ?_⟩⟩
      rw [show gA G1 (B 23) q = wK w from ((h1.rd 23 rfl _).trans (r 23 (by omega) q)).trans q1, show gA (sA G1 (B 45) q (wK w)) (B 24) q = wS w from ((p1.rd 24 rfl _).trans (r 24 (by omega) q)).trans q2, show gA (sA (sA G1 (B 45) q (wK w)) (B 46) q (wS w)) (B 25) q = wE w from ((p2.rd 25 rfl _).trans (r 25 (by omega) q)).trans q3] at hG32
      subst hG32
      refine ⟨B 48, h1.rf 48 rfl, B 26, h1.rf 26 rfl, Or.inl (h1.at' 26 rfl), q, ix 26 (by omega), h1.at' 48 rfl, q, ix 48 (by omega), B 49, h1.rf 49 rfl, B 27, h1.rf 27 rfl, Or.inl (h1.at' 27 rfl), q, ix 27 (by omega), h1.at' 49 rfl, q, ix 49 (by omega), B 50, h1.rf 50 rfl, B 28, h1.rf 28 rfl, h1.at' 28 rfl, q, ix 28 (by omega), h1.at' 50 rfl, q, ix 50 (by omega), ?_⟩
      rw [show gA (sA (sA (sA G1 (B 45) q (wK w)) (B 46) q (wS w)) (B 47) q (wE w)) (B 26) q = wC w from ((p3.rd 26 rfl _).trans (r 26 (by omega) q)).trans q4, show gA (sA (sA (sA (sA G1 (B 45) q (wK w)) (B 46) q (wS w)) (B 47) q (wE w)) (B 48) q (wC w)) (B 27) q = wM w from ((p4.rd 27 rfl _).trans (r 27 (by omega) q)).trans q5, show gA (sA (sA (sA (sA (sA G1 (B 45) q (wK w)) (B 46) q (wS w)) (B 47) q (wE w)) (B 48) q (wC w)) (B 49) q (wM w)) (B 28) q = wO w from ((p5.rd 28 rfl _).trans (r 28 (by omega) q)).trans q6]
      refine ⟨q7, fun G65 hG65 => ?_⟩
      subst hG65
      refine ih (q + 1) _ _ (by omega) p6 (s1.tr ((((((MSt.rf.wA rfl).wA rfl).wA rfl).wA rfl).wA rfl).wA rfl)) (fun j hj => ?_) (fun j v hv hjq => ?_)
      · funext z
        show up2 (up2 (up2 (up2 (up2 (up2 T1 45 q _) 46 q _) 47 q _) 48 q _) 49 q _) 50 q _ j z = T j z
        unfold up2
        rw [if_neg (by omega), if_neg (by omega), if_neg (by omega), if_neg (by omega), if_neg (by omega), if_neg (by omega)]
        exact congrFun (t1 j hj) z
      · by_cases c : j = q
        · rw [c] at hv ⊢
          rw [hw] at hv
          cases hv
          exact ⟨u2, u2, u2, u2, u2, u2, q7⟩
        · obtain ⟨a1, a2, a3, a4, a5, a6, a7⟩ := r1 j v hv (by omega)
          exact ⟨(u2n c).trans a1, (u2n c).trans a2, (u2n c).trans a3, (u2n c).trans a4, (u2n c).trans a5, (u2n c).trans a6, a7⟩
  refine j_enter (L := [some (.ref m), none]) me_Mo_copies (cat_c rfl cat_n) (Nat.le_of_ble_eq_true rfl) rfl (wp_Mo_copies_0 m ?_)
  exact loop W.length 0 G T rfl h MSt.rf (fun _ _ => rfl) (fun j w _ hj => absurd hj (Nat.not_lt_zero _))
/-- snapshot(hasChannels) -/
def rSnap (y : XS) (of : Nat → Nat) : XS := (cJ y, cS y, cN y, (of, gTk (cN y), gGr (cN y), gMk (cN y), gHl (cP y), gDr (cN y), gPa (cP y), gWi (cN y)), cH y, (kL (cK y), kC (cK y), (kL (cK y)).length), cB y, (tB (cT y), tS (cT y) + 1, 1, tW (cT y)))
theorem c_snapR {v : Int32} (hB : InjB m B) (h : MoS G m B F T) (ha : AB F T th y Jd JK) (hv : v = 0 ∨ v = 1)
    (k : ∀ G', MS G' m B th (rSnap y (if v = 0 then bA (cB y) else gOf (cN y))) Jd Jd.length → MSt G m B G' → Post (.inl none) G') : Cl E 2 m_Mo_snapshot [.ref m, .int v] G Post := by
  refine j_enter (L := [some (.ref m), some (.int v), none]) me_Mo_snapshot (cat_c rfl (cat_c rfl cat_n)) (Nat.le_of_ble_eq_true rfl) rfl (wp_Mo_snapshot_0 m v ⟨h.tg, ?_⟩)
  refine c_copies hB h ha (fun G0 F0 T0 h0 s0 a0 => wp_Mo_snapshot_4 m v ?_)
  obtain ⟨x1, x2, x3, x4, x5, x6, x7, x8, x9, x10, x11, x12, x13, x14, x15, x16, x17, x18⟩ := a0
  have loop : ∀ (d q : Nat) (G1 : GH) (T1 : Nat → Nat → Int32), d + q = 3 → MoS G1 m B F0 T1 → MSt G m B G1 → (∀ j, (j < 52 ∨ 54 < j) → T1 j = T0 j) → (∀ j, j < q → T1 52 j = nI ((if v = 0 then bA (cB y) else gOf (cN y)) j) ∧ T1 53 j = nI (gTk (cN y) j) ∧ T1 54 j = gGr (cN y) j) → J E 2 m_Mo_snapshot 6 [some (.ref m), some (.int v), some (.int (nI q))] [] G1 Post := by
    intro d
    induction d with
    | zero =>
      intro q G1 T1 hdq h1 s1 t1 r1
      have eq : q = 3 := by omega
      subst eq
      refine wp_Mo_snapshot_6 m v 3 ⟨fun _ => ⟨h1.tg, fun G2 hG2 => ?_⟩, fun z => absurd (by decide +kernel) z⟩
      have e18 : gI G1 658 m = gMk (cN y) := (h1.int 18 (by decide) (by decide)).trans x6
      have e19 : gI G1 659 m = gDr (cN y) := (h1.int 19 (by decide) (by decide)).trans x7
      have e33 : gI G1 673 m = nI Jd.length := (h1.int 33 (by decide) (by decide)).trans x9.1
      have e40 : gI G1 680 m = nI (kL (cK y)).length := (h1.int 40 (by decide) (by decide)).trans x15.1
      have e43 : gI G1 683 m = tS (cT y) := (h1.int 43 (by decide) (by decide)).trans x3.2.2.1
      rw [e18, e19, e33, e40] at hG2
      rw [e43]
      subst hG2
      have g1 := ((((((h1.wI 55 (gMk (cN y))).wI 56 (gDr (cN y))).wI 57 (nI Jd.length)).wI 41 (nI (kL (cK y)).length)).wI 44 1).wI 43 (tS (cT y) + 1))
      refine k _ ⟨_, T1, g1, x1, x2, ⟨x3.1, x3.2.1, rfl, rfl⟩, x4.cg (fun j hj => t1 j (by omega)), x5.cg (t1 13 (by omega)) (t1 14 (by omega)) (t1 17 (by omega)), x6, x7, x8.cg (fun j _ _ => t1 j (by omega)), x9.cg (t1 32 (by omega)), fun s hs => r1 s hs, rfl, rfl, x13.cg (fun j _ _ => t1 j (by omega)), rfl, x15.cg (fun j _ _ => t1 j (by omega)), rfl, x17, x18.cg rfl (t1 21 (by omega)) (t1 22 (by omega))⟩ (s1.tr ((((((MSt.rf.wI).wI).wI).wI).wI).wI))
    | succ d ih =>
      intro q G1 T1 hdq h1 s1 t1 r1
      have hq : q < 3 := by omega
      have r : ∀ j, j < 52 → ∀ z, T1 j z = T0 j z := fun j hj z => congrFun (t1 j (by omega)) z
      have ix : ∀ j, (12 ≤ j ∧ j ≤ 17) ∨ j = 21 ∨ (52 ≤ j ∧ j ≤ 54) → IX (nI q) q (gN G1 (B j)) := fun j g => by
        rcases g with g | g | g
        · exact h1.ix j (by unfold aK; simp; omega) (by unfold aN; rw [if_neg (by omega), if_pos (by omega)]; omega)
        · subst g; exact h1.ix 21 rfl hq
        · exact h1.ix j (by unfold aK; simp; omega) (by unfold aN; rw [if_neg (by omega), if_neg (by omega), if_neg (by omega), if_neg (by omega), if_neg (by omega), if_neg (by omega), if_neg (by omega)]; omega)
      have e21 : T1 21 q = nI (bA (cB y) q) := (r 21 (by omega) q).trans (x18.2 q hq).1
      have e13 : T1 13 q = nI (gOf (cN y) q) := (r 13 (by omega) q).trans (x5 q hq).1
      have e14 : T1 14 q = nI (gTk (cN y) q) := (r 14 (by omega) q).trans (x5 q hq).2.1
      have e17 : T1 17 q = gGr (cN y) q := (r 17 (by omega) q).trans (x5 q hq).2.2
      have step : ∀ vq, vq = nI ((if v = 0 then bA (cB y) else gOf (cN y)) q) → ∀ G35, G35 = sA (sA (sA G1 (B 52) q vq) (B 53) q (nI (gTk (cN y) q))) (B 54) q (gGr (cN y) q) → J E 2 m_Mo_snapshot 6 [some (.ref m), some (.int v), some (.int (nI (q + 1)))] [] G35 Post := by
        intro vq hvq G35 hG
        subst hG
        refine ih (q + 1) _ _ (by omega) (((h1.wA hB 52 q vq rfl).wA hB 53 q _ rfl).wA hB 54 q _ rfl) (s1.tr (((MSt.rf.wA rfl).wA rfl).wA rfl)) (fun j hj => ?_) (fun j hj => ?_)
        · funext z
          show up2 (up2 (up2 T1 52 q _) 53 q _) 54 q _ j z = T0 j z
          unfold up2
          rw [if_neg (by omega), if_neg (by omega), if_neg (by omega)]
          exact congrFun (t1 j hj) z
        · by_cases c : j = q
          · rw [c]; exact ⟨u2.trans hvq, u2, u2⟩
          · obtain ⟨a1, a2, a3⟩ := r1 j (by omega)
            exact ⟨(u2n c).trans a1, (u2n c).trans a2, (u2n c).trans a3⟩
      refine wp_Mo_snapshot_6 m v (nI q) ⟨fun z => absurd z (show ¬ (3 : Int32) ≤ nI q from nI_ge (b := 3) (by omega) (by omega)), fun _ => ⟨h1.tg, B 52, h1.rf 52 rfl, fun c => ⟨B 21, h1.rf 21 rfl, Or.inl (h1.at' 21 rfl), q, ix 21 (by omega), h1.at' 52 rfl, q, ix 52 (by omega), B 53, h1.rf 53 rfl, B 14, h1.rf 14 rfl, Or.inl (h1.at' 14 rfl), q, ix 14 (by omega), h1.at' 53 rfl, q, ix 53 (by omega), B 54, h1.rf 54 rfl, B 17, h1.rf 17 rfl, Or.inl (h1.at' 17 rfl), q, ix 17 (by omega), h1.at' 54 rfl, q, ix 54 (by omega), fun G35 hG => ?_⟩, fun c => ⟨B 13, h1.rf 13 rfl, Or.inl (h1.at' 13 rfl), q, ix 13 (by omega), h1.at' 52 rfl, q, ix 52 (by omega), B 53, h1.rf 53 rfl, B 14, h1.rf 14 rfl, Or.inl (h1.at' 14 rfl), q, ix 14 (by omega), h1.at' 53 rfl, q, ix 53 (by omega), B 54, h1.rf 54 rfl, B 17, h1.rf 17 rfl, Or.inl (h1.at' 17 rfl), q, ix 17 (by omega), h1.at' 54 rfl, q, ix 54 (by omega), fun G35 hG => ?_⟩⟩⟩
      · rw [nI_1 q]
        have p1 := h1.wA hB 52 q (nI (bA (cB y) q)) rfl
        have p2 := p1.wA hB 53 q (nI (gTk (cN y) q)) rfl
        rw [show gA G1 (B 21) q = nI (bA (cB y) q) from (h1.rd 21 rfl q).trans e21, show gA (sA G1 (B 52) q (nI (bA (cB y) q))) (B 14) q = nI (gTk (cN y) q) from (p1.rd 14 rfl q).trans e14, show gA (sA (sA G1 (B 52) q (nI (bA (cB y) q))) (B 53) q (nI (gTk (cN y) q))) (B 17) q = gGr (cN y) q from (p2.rd 17 rfl q).trans e17] at hG
        exact step _ (by rw [if_pos c]) G35 hG
      · rw [nI_1 q]
        have p1 := h1.wA hB 52 q (nI (gOf (cN y) q)) rfl
        have p2 := p1.wA hB 53 q (nI (gTk (cN y) q)) rfl
        rw [show gA G1 (B 13) q = nI (gOf (cN y) q) from (h1.rd 13 rfl q).trans e13, show gA (sA G1 (B 52) q (nI (gOf (cN y) q))) (B 14) q = nI (gTk (cN y) q) from (p1.rd 14 rfl q).trans e14, show gA (sA (sA G1 (B 52) q (nI (gOf (cN y) q))) (B 53) q (nI (gTk (cN y) q))) (B 17) q = gGr (cN y) q from (p2.rd 17 rfl q).trans e17] at hG
        exact step _ (by rw [if_neg c]) G35 hG
  exact loop 3 0 G0 T0 rfl h0 s0 (fun _ _ => rfl) (fun j hj => absurd hj (Nat.not_lt_zero _))
end COPIES
