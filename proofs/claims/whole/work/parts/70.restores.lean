section REST
variable {E : EV} {G : GH} {Post : Res → GH → Prop} {m : Nat} {B : Nat → Nat} {F : Nat → Int32} {T : Nat → Nat → Int32} {th : Int32} {y : XS} {Jd : List Nat} {JK : Nat}
def rRest (y : XS) : XS := (cJ y, cS y, (gOf (cP y), gTk (cP y), gGr (cP y), gMk (cP y), gHl (cN y), gDr (cP y), gPa (cN y), gWi (cP y)), cP y, cH y, ((kL (cK y)).take (kP (cK y)), kP (cK y), kP (cK y)), (bA (cB y), bT (cB y), 0), (tB (cT y), tS (cT y), 0, tW (cT y)))
theorem c_restores (hB : InjB m B) (h : MoS G m B F T) (ha : AB F T th y Jd JK) (hk : kP (cK y) ≤ (kL (cK y)).length) (hj : JK ≤ Jd.length) (hL : kP (cK y) + (gWi (cP y)).length ≤ 3900) (hsl : ∀ s, s < 3 → gGr (cP y) s = -1 → mkfP (cP y) (cS y) s = -1)
    (k : ∀ G' R, MS G' m B th (grX (rRest y) R) (Jd.take JK) JK → R.Perm (grR (rRest y)) → MSt G m B G' → Post (.inl none) G') : Cl E 4 m_Mo_restores [.ref m] G Post := by
  obtain ⟨x1, x2, x3, x4, x5, x6, x7, x8, x9, x10, x11, x12, x13, x14, x15, x16, x17, x18⟩ := ha
  obtain ⟨n0, n1, n2⟩ := id x13
  -- the ends: ints, and the look
  have fin : ∀ (G1 : GH) (F1 : Nat → Int32) (T1 : Nat → Nat → Int32), F1 = up1 F 29 (nI (gWi (cP y)).length) → MoS G1 m B F1 T1 → MSt G m B G1 → (∀ j, ¬ (23 ≤ j ∧ j ≤ 28) → ¬ (j = 13 ∨ j = 14 ∨ j = 17) → T1 j = T j) → aW (nI (gWi (cP y)).length) T1 23 (gWi (cP y)) → aP T1 13 14 17 (cP y) → J E 4 m_Mo_restores 98 [some (.ref m), some (.int 3)] [] G1 Post := by
    intro G1 F1 T1 hF h1 s1 t1 w1 p1
    subst hF
    refine wp_Mo_restores_98 m 3 ⟨fun _ => ⟨h1.tg, fun G2 hG2 => ?_⟩, fun z => absurd (by decide +kernel) z⟩
    rw [show gI G1 695 m = gMk (cP y) from (h1.int 55 (by decide) (by decide)).trans x11, show gI G1 696 m = gDr (cP y) from (h1.int 56 (by decide) (by decide)).trans x12, show gI G1 697 m = nI JK from (h1.int 57 (by decide) (by decide)).trans x14] at hG2
    rw [show gI G1 681 m = nI (kP (cK y)) from (h1.int 41 (by decide) (by decide)).trans x16]
    subst hG2
    have g1 := ((((((h1.wI 18 (gMk (cP y))).wI 19 (gDr (cP y))).wI 33 (nI JK)).wI 20 0).wI 40 (nI (kP (cK y)))).wI 42 (nI (kP (cK y)))).wI 44 0
    have u : ∀ j, ¬ (23 ≤ j ∧ j ≤ 28) → ¬ (j = 13 ∨ j = 14 ∨ j = 17) → T1 j = T j := t1
    refine c_grows hB g1 (y := rRest y) (Jd := Jd.take JK) (JK := JK) ⟨x1, x2, ⟨x3.1, x3.2.1, x3.2.2.1, rfl⟩, x4.cg (fun j hj => u j (by omega) (by omega)), p1, rfl, rfl, w1, ⟨?_, ?_, fun i j hij => ?_⟩, x10.cg (u 52 (by omega) (by omega)) (u 53 (by omega) (by omega)) (u 54 (by omega) (by omega)), x11, x12, x13.cg (fun j _ _ => u j (by omega) (by omega)), x14, ⟨?_, ?_, fun i w hw => ?_⟩, x16, rfl, ⟨rfl, fun s hs => ?_⟩⟩ ?_ hsl (fun G' R y1 y2 y3 => wp_Mo_restores_199 (k G' R y1 y2 (s1.tr (((((((MSt.rf.wI).wI).wI).wI).wI).wI).wI |>.tr y3))))
    · show nI JK = nI (Jd.take JK).length
      rw [List.length_take, Nat.min_eq_left hj]
    · show (Jd.take JK).length ≤ 80
      rw [List.length_take]; have := x9.2.1; omega
    · have hij : (Jd.take JK)[i]? = some j := hij
      rw [List.getElem?_take] at hij
      by_cases c : i < JK
      · rw [if_pos c] at hij
        rw [u 32 (by omega) (by omega)]
        exact x9.2.2 i j hij
      · rw [if_neg c] at hij; cases hij
    · show nI (kP (cK y)) = nI ((kL (cK y)).take (kP (cK y))).length
      rw [List.length_take, Nat.min_eq_left hk]
    · show ((kL (cK y)).take (kP (cK y))).length ≤ 3900
      rw [List.length_take]; have := x15.2.1; omega
    · have hw : ((kL (cK y)).take (kP (cK y)))[i]? = some w := hw
      rw [List.getElem?_take] at hw
      by_cases c : i < kP (cK y)
      · rw [if_pos c] at hw
        rw [u 34 (by omega) (by omega), u 35 (by omega) (by omega), u 36 (by omega) (by omega), u 37 (by omega) (by omega), u 38 (by omega) (by omega), u 39 (by omega) (by omega)]
        exact x15.2.2 i w hw
      · rw [if_neg c] at hw; cases hw
    · rw [u 21 (by omega) (by omega), u 22 (by omega) (by omega)]; exact x18.2 s hs
    · show ((kL (cK y)).take (kP (cK y))).length + (gWi (cP y)).length ≤ 3900
      rw [List.length_take]; omega
  have loop2 : ∀ (d q : Nat) (G1 : GH) (T1 : Nat → Nat → Int32), d + q = 3 → MoS G1 m B (up1 F 29 (nI (gWi (cP y)).length)) T1 → MSt G m B G1 → (∀ j, ¬ (23 ≤ j ∧ j ≤ 28) → ¬ (j = 13 ∨ j = 14 ∨ j = 17) → T1 j = T j) → aW (nI (gWi (cP y)).length) T1 23 (gWi (cP y)) → (∀ j, j < q → T1 13 j = nI (gOf (cP y) j) ∧ T1 14 j = nI (gTk (cP y) j) ∧ T1 17 j = gGr (cP y) j) → J E 4 m_Mo_restores 98 [some (.ref m), some (.int (nI q))] [] G1 Post := by
    intro d
    induction d with
    | zero =>
      intro q G1 T1 hdq h1 s1 t1 w1 r1
      have eq : q = 3 := by omega
      subst eq
      exact fin G1 _ T1 rfl h1 s1 t1 w1 (fun s hs => r1 s hs)
    | succ d ih =>
      intro q G1 T1 hdq h1 s1 t1 w1 r1
      have hq : q < 3 := by omega
      have ix : ∀ j, (12 ≤ j ∧ j ≤ 17) ∨ (52 ≤ j ∧ j ≤ 54) → IX (nI q) q (gN G1 (B j)) := fun j g => by
        rcases g with g | g
        · exact h1.ix j (by unfold aK; simp; omega) (by unfold aN; rw [if_neg (by omega), if_pos (by omega)]; omega)
        · exact h1.ix j (by unfold aK; simp; omega) (by unfold aN; rw [if_neg (by omega), if_neg (by omega), if_neg (by omega), if_neg (by omega), if_neg (by omega), if_neg (by omega), if_neg (by omega)]; omega)
      obtain ⟨z1, z2, z3⟩ := x10 q hq
      have r : ∀ j, 52 ≤ j → ∀ z, T1 j z = T j z := fun j hj z => congrFun (t1 j (by omega) (by omega)) z
      refine wp_Mo_restores_98 m (nI q) ⟨fun z => absurd z (show ¬ (3 : Int32) ≤ nI q from nI_ge (b := 3) (by omega) (by omega)), fun _ => ⟨h1.tg, B 13, h1.rf 13 rfl, B 52, h1.rf 52 rfl, Or.inl (h1.at' 52 rfl), q, ix 52 (by omega), h1.at' 13 rfl, q, ix 13 (by omega), B 14, h1.rf 14 rfl, B 53, h1.rf 53 rfl, Or.inl (h1.at' 53 rfl), q, ix 53 (by omega), h1.at' 14 rfl, q, ix 14 (by omega), B 17, h1.rf 17 rfl, B 54, h1.rf 54 rfl, Or.inl (h1.at' 54 rfl), q, ix 54 (by omega), h1.at' 17 rfl, q, ix 17 (by omega), fun G35 hG => ?_⟩⟩
      rw [nI_1 q]
      have p1 := h1.wA hB 13 q (nI (gOf (cP y) q)) rfl
      have p2 := p1.wA hB 14 q (nI (gTk (cP y) q)) rfl
      have p3 := p2.wA hB 17 q (gGr (cP y) q) rfl
      rw [show gA G1 (B 52) q = nI (gOf (cP y) q) from ((h1.rd 52 rfl q).trans (r 52 (by omega) q)).trans z1, show gA (sA G1 (B 13) q (nI (gOf (cP y) q))) (B 53) q = nI (gTk (cP y) q) from ((p1.rd 53 rfl q).trans (r 53 (by omega) q)).trans z2, show gA (sA (sA G1 (B 13) q (nI (gOf (cP y) q))) (B 14) q (nI (gTk (cP y) q))) (B 54) q = gGr (cP y) q from ((p2.rd 54 rfl q).trans (r 54 (by omega) q)).trans z3] at hG
      subst hG
      refine ih (q + 1) _ _ (by omega) p3 (s1.tr (((MSt.rf.wA rfl).wA rfl).wA rfl)) (fun j hj hj' => ?_) (w1.cg (fun j g1 g2 => ?_)) (fun j hj => ?_)
      · funext z
        show up2 (up2 (up2 T1 13 q _) 14 q _) 17 q _ j z = T j z
        unfold up2
        rw [if_neg (by omega), if_neg (by omega), if_neg (by omega)]
        exact congrFun (t1 j hj hj') z
      · funext z
        show up2 (up2 (up2 T1 13 q _) 14 q _) 17 q _ j z = T1 j z
        unfold up2
        rw [if_neg (by omega), if_neg (by omega), if_neg (by omega)]
      · by_cases c : j = q
        · rw [c]; exact ⟨u2, u2, u2⟩
        · obtain ⟨a1, a2, a3⟩ := r1 j (by omega)
          exact ⟨(u2n c).trans a1, (u2n c).trans a2, (u2n c).trans a3⟩
  generalize hW : gWi (cP y) = W at *
  have e51 : ∀ G1 T1, MoS G1 m B F T1 → gI G1 691 m = nI W.length := fun G1 T1 h1 => (h1.int 51 (by decide) (by decide)).trans n0
  have loop1 : ∀ (d q : Nat) (G1 : GH) (T1 : Nat → Nat → Int32), d + q = W.length → MoS G1 m B F T1 → MSt G m B G1 → (∀ j, ¬ (23 ≤ j ∧ j ≤ 28) → T1 j = T j) → (∀ (j : Nat) w, W[j]? = some w → j < q → T1 23 j = wK w ∧ T1 24 j = wS w ∧ T1 25 j = wE w ∧ T1 26 j = wC w ∧ T1 27 j = wM w ∧ T1 28 j = wO w ∧ (wO w = 0 ∨ wO w = 1)) → J E 4 m_Mo_restores 2 [some (.ref m), some (.int (nI q))] [] G1 Post := by
    intro d
    induction d with
    | zero =>
      intro q G1 T1 hdq h1 s1 t1 r1
      refine wp_Mo_restores_2 m (nI q) ⟨h1.tg, ?_⟩
      rw [e51 G1 T1 h1, nI_leI (by omega) (by omega)]
      refine ⟨fun _ => ?_, fun z => absurd (by omega) z⟩
      exact loop2 3 0 _ T1 rfl (h1.wI 29 (nI W.length)) s1.wI (fun j g1 _ => t1 j g1) ⟨rfl, n1, fun j w hw => r1 j w hw (by have il : j < W.length := (List.getElem?_eq_some_iff.mp hw).1; omega)⟩ (fun j hj => absurd hj (Nat.not_lt_zero _))
    | succ d ih =>
      intro q G1 T1 hdq h1 s1 t1 r1
      obtain ⟨w, hw⟩ : ∃ w, W[q]? = some w := ⟨_, List.getElem?_eq_getElem (by omega)⟩
      obtain ⟨q1, q2, q3, q4, q5, q6, q7⟩ := n2 q w hw
      have r : ∀ j, 45 ≤ j → ∀ z, T1 j z = T j z := fun j hj z => congrFun (t1 j (by omega)) z
      have ix : ∀ j, (23 ≤ j ∧ j ≤ 28) ∨ (45 ≤ j ∧ j ≤ 50) → IX (nI q) q (gN G1 (B j)) := fun j g => by
        rcases g with g | g
        · exact h1.ix j (by unfold aK; simp; omega) (by unfold aN; rw [if_neg (by omega), if_neg (by omega), if_pos (by omega)]; omega)
        · exact h1.ix j (by unfold aK; simp; omega) (by unfold aN; rw [if_neg (by omega), if_neg (by omega), if_neg (by omega), if_neg (by omega), if_neg (by omega), if_neg (by omega), if_pos (by omega)]; omega)
      refine wp_Mo_restores_2 m (nI q) ⟨h1.tg, ?_⟩
      rw [e51 G1 T1 h1, nI_leI (by omega) (by omega), nI_1 q]
      have p1 := h1.wA hB 23 q (wK w) rfl
      have p2 := p1.wA hB 24 q (wS w) rfl
      have p3 := p2.wA hB 25 q (wE w) rfl
      have p4 := p3.wA hB 26 q (wC w) rfl
      have p5 := p4.wA hB 27 q (wM w) rfl
      have p6 := p5.wA hB 28 q (wO w) rfl
      refine ⟨fun z => absurd z (by omega), fun _ => ⟨B 23, h1.rf 23 rfl, B 45, h1.rf 45 rfl, Or.inl (h1.at' 45 rfl), q, ix 45 (by omega), h1.at' 23 rfl, q, ix 23 (by omega), B 24, h1.rf 24 rfl, B 46, h1.rf 46 rfl, Or.inl (h1.at' 46 rfl), q, ix 46 (by omega), h1.at' 24 rfl, q, ix 24 (by omega), B 25, h1.rf 25 rfl, B 47, h1.rf 47 rfl, Or.inl (h1.at' 47 rfl), q, ix 47 (by omega), h1.at' 25 rfl, q, ix 25 (by omega), fun G32 hG32 => ?_⟩⟩
      rw [show gA G1 (B 45) q = wK w from ((h1.rd 45 rfl _).trans (r 45 (by omega) q)).trans q1, show gA (sA G1 (B 23) q (wK w)) (B 46) q = wS w from ((p1.rd 46 rfl _).trans (r 46 (by omega) q)).trans q2, show gA (sA (sA G1 (B 23) q (wK w)) (B 24) q (wS w)) (B 47) q = wE w from ((p2.rd 47 rfl _).trans (r 47 (by omega) q)).trans q3] at hG32
      subst hG32
      refine ⟨B 26, h1.rf 26 rfl, B 48, h1.rf 48 rfl, Or.inl (h1.at' 48 rfl), q, ix 48 (by omega), h1.at' 26 rfl, q, ix 26 (by omega), B 27, h1.rf 27 rfl, B 49, h1.rf 49 rfl, Or.inl (h1.at' 49 rfl), q, ix 49 (by omega), h1.at' 27 rfl, q, ix 27 (by omega), B 28, h1.rf 28 rfl, B 50, h1.rf 50 rfl, h1.at' 50 rfl, q, ix 50 (by omega), h1.at' 28 rfl, q, ix 28 (by omega), ?_⟩
      rw [show gA (sA (sA (sA G1 (B 23) q (wK w)) (B 24) q (wS w)) (B 25) q (wE w)) (B 48) q = wC w from ((p3.rd 48 rfl _).trans (r 48 (by omega) q)).trans q4, show gA (sA (sA (sA (sA G1 (B 23) q (wK w)) (B 24) q (wS w)) (B 25) q (wE w)) (B 26) q (wC w)) (B 49) q = wM w from ((p4.rd 49 rfl _).trans (r 49 (by omega) q)).trans q5, show gA (sA (sA (sA (sA (sA G1 (B 23) q (wK w)) (B 24) q (wS w)) (B 25) q (wE w)) (B 26) q (wC w)) (B 27) q (wM w)) (B 50) q = wO w from ((p5.rd 50 rfl _).trans (r 50 (by omega) q)).trans q6]
      refine ⟨q7, fun G65 hG65 => ?_⟩
      subst hG65
      refine ih (q + 1) _ _ (by omega) p6 (s1.tr ((((((MSt.rf.wA rfl).wA rfl).wA rfl).wA rfl).wA rfl).wA rfl)) (fun j hj => ?_) (fun j v hv hjq => ?_)
      · funext z
        show up2 (up2 (up2 (up2 (up2 (up2 T1 23 q _) 24 q _) 25 q _) 26 q _) 27 q _) 28 q _ j z = T j z
        unfold up2
        rw [if_neg (by omega), if_neg (by omega), if_neg (by omega), if_neg (by omega), if_neg (by omega), if_neg (by omega)]
        exact congrFun (t1 j hj) z
      · by_cases c : j = q
        · rw [c] at hv ⊢
          rw [hw] at hv
          cases hv
          exact ⟨u2, u2, u2, u2, u2, u2, q7⟩
        · obtain ⟨a1, a2, a3, a4, a5, a6, a7⟩ := r1 j v hv (by omega)
          exact ⟨(u2n c).trans a1, (u2n c).trans a2, (u2n c).trans a3, (u2n c).trans a4, (u2n c).trans a5, (u2n c).trans a6, a7⟩
  refine j_enter (L := [some (.ref m), none]) me_Mo_restores (cat_c rfl cat_n) (Nat.le_of_ble_eq_true rfl) rfl (wp_Mo_restores_0 m ?_)
  exact loop1 W.length 0 G T rfl h MSt.rf (fun _ _ => rfl) (fun j w _ hj => absurd hj (Nat.not_lt_zero _))
end REST
