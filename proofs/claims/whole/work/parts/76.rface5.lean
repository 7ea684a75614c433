section RFACE5
variable {E : EV} {G : GH} {Post : Res → GH → Prop} {m : Nat} {B : Nat → Nat} {th : Int32} {y : XS} {Jd : List Nat} {JK : Nat}
theorem r_append {q t kk v : Int32} (hB : InjB m B) (h : MS G m B th y Jd JK) (hl : ∀ s, s < 3 → (sEv (cS y) s).length ≤ 40) (k : KR G m B Post (fAppend y q t kk v).1 (fAppend y q t kk v).2.1 (fAppend y q t kk v).2.2 Jd JK) : Cl E 3 m_Mo_append [.ref m, .int q, .int t, .int kk, .int v] G Post := by
  have h0 := h
  obtain ⟨F, T, h1, ha⟩ := h
  obtain ⟨x1, x2, x3, x4, x5, x6, x7, x8, x9, x10, x11, x12, x13, x14, x15, x16, x17, x18⟩ := ha
  unfold fAppend at k
  have bad1 : ¬ sIx q < 3 → gT G m = 11 ∧ Post (.inl (some (.int 0))) (sI G 640 m 1) := fun hq => by
    rw [if_neg hq] at k
    exact ⟨h1.tg, KR.exc (n := 0) h0 k⟩
  have src : ∀ {X Y : Prop}, (¬ sIx q < 3 → X) → (∀ s, s < 3 → q = nI s → sIx q = s → Y) → (q < 0 → X) ∧ (¬ q < 0 → ((2 : Int32) < q → X) ∧ (¬ (2 : Int32) < q → Y)) := fun hx hy => src3R hx hy
  refine j_enter (L := [some (.ref m), some (.int q), some (.int t), some (.int kk), some (.int v), none, none, none]) me_Mo_append (cat_c rfl (cat_c rfl (cat_c rfl (cat_c rfl (cat_c rfl cat_n))))) (Nat.le_of_ble_eq_true rfl) rfl (wp_Mo_append_0 m q t kk v (src (fun hq => ⟨fun _ => bad1 hq, fun _ => ⟨fun _ => bad1 hq, fun _ => ⟨fun _ => bad1 hq, fun _ => ⟨fun _ => bad1 hq, fun _ => ⟨fun _ => bad1 hq, fun _ => ⟨fun _ => bad1 hq, fun _ => bad1 hq⟩⟩⟩⟩⟩⟩) (fun s hs hq hx => ?_)))
  subst hq; rw [if_pos (by omega), hx] at k
  have bad : apBad t kk v → gT G m = 11 ∧ Post (.inl (some (.int 0))) (sI G 640 m 2) := fun z => by
    rw [if_pos z] at k
    exact ⟨h1.tg, KR.exc (n := 1) h0 k⟩
  refine ⟨fun z => bad (Or.inl z), fun d1 => ⟨fun z => bad (Or.inr (Or.inl z)), fun d2 => ⟨fun z => bad (Or.inr (Or.inr (Or.inl z))), fun d3 => ⟨fun z => bad (Or.inr (Or.inr (Or.inr (Or.inl (lt56.mp z))))), fun d4 => ⟨fun z => bad (Or.inr (Or.inr (Or.inr (Or.inr (Or.inl z))))), fun d5 => ⟨fun z => bad (Or.inr (Or.inr (Or.inr (Or.inr (Or.inr (Int32.not_le.mpr z)))))), fun d6 => ⟨h1.tg, ?_⟩⟩⟩⟩⟩⟩⟩
  have nb : ¬ apBad t kk v := fun z => by
    rcases z with z | z | z | z | z | z
    · exact d1 z
    · exact d2 z
    · exact d3 z
    · exact d4 (lt56.mpr z)
    · exact d5 z
    · exact z (Int32.not_lt.mp d6)
  rw [if_neg nb] at k
  obtain ⟨a1, a2, a3, a4, a5⟩ := x4 s hs
  refine ⟨B 12, h1.rf 12 rfl, Or.inl (h1.at' 12 rfl), s, h1.ix 12 rfl hs, ?_⟩
  rw [show gA G (B 12) s = nI (sEv (cS y) s).length from (h1.rd 12 rfl s).trans a1]
  generalize hn : (sEv (cS y) s).length = n at *
  have e40 : (40 : Int32) * nI s + nI n = nI (40 * s + n) := by
    have c : s = 0 ∨ s = 1 ∨ s = 2 := by omega
    rw [← nI_add]
    congr 1
    rcases c with c | c | c <;> subst c <;> decide +kernel
  refine ⟨fun c => ?_, fun c => ?_⟩
  · have n40 : n ≠ 40 := fun z => c (by rw [z]; rfl)
    have n40' : n < 40 := by omega
    rw [if_pos n40'] at k
    have h2 := h1.wI 0 0
    rw [show gA (sI G 640 m 0) (B 12) s = nI n from (h2.rd 12 rfl s).trans a1, e40]
    have he : 40 * s + n < 120 := by omega
    refine ⟨B 9, h1.rf 9 rfl, h1.at' 9 rfl, 40 * s + n, h1.ix 9 rfl he, B 10, h1.rf 10 rfl, h1.at' 10 rfl, 40 * s + n, h1.ix 10 rfl he, B 11, h1.rf 11 rfl, h1.at' 11 rfl, 40 * s + n, h1.ix 11 rfl he, h1.at' 12 rfl, fun G67 hG => ?_⟩
    have h3 := ((h2.wA hB 9 (40 * s + n) t rfl).wA hB 10 (40 * s + n) kk rfl).wA hB 11 (40 * s + n) v rfl
    rw [show gA (sA (sA (sA (sI G 640 m 0) (B 9) (40 * s + n) t) (B 10) (40 * s + n) kk) (B 11) (40 * s + n) v) (B 12) s = nI n from (h3.rd 12 rfl s).trans a1, nI_1] at hG
    have h4 : MoS G67 m B _ _ := hG ▸ h3.wA hB 12 s (nI (n + 1)) rfl
    have s4 : MSt G m B G67 := hG ▸ ((((MSt.rf.wI).wA rfl).wA rfl).wA rfl).wA rfl
    rw [show gA G67 (B 12) s = nI (n + 1) from (h4.rd 12 rfl s).trans u2, show nI (n + 1) - 1 = nI n from nI_pred n]
    refine k _ ⟨_, _, h4, rfl, x2, x3, fun j hj => ?_, x5, x6, x7, x8, x9, x10, x11, x12, x13, x14, x15, x16, x17, x18⟩ s4 _ (fun _ => rfl)
    obtain ⟨b1, b2, b3, b4, b5⟩ := x4 j hj
    show up2 (up2 (up2 (up2 T 9 (40 * s + n) t) 10 (40 * s + n) kk) 11 (40 * s + n) v) 12 s (nI (n + 1)) 12 j = nI ((if j = s then sEv (cS y) s ++ [(t, kk, v)] else sEv (cS y) j)).length ∧ (if j = s then sEv (cS y) s ++ [(t, kk, v)] else sEv (cS y) j).length ≤ 40 ∧ _ ∧ _ ∧ ∀ i u, (if j = s then sEv (cS y) s ++ [(t, kk, v)] else sEv (cS y) j)[i]? = some u → _
    by_cases cj : j = s
    · rw [cj, if_pos rfl]
      refine ⟨u2.trans (by rw [List.length_append, hn]; rfl), by rw [List.length_append, hn]; simp; omega, cj ▸ b3, cj ▸ b4, fun i u hu => ?_⟩
      rw [getElem?_snoc', hn] at hu
      by_cases ci : i = n
      · rw [if_pos ci] at hu
        cases hu
        rw [ci]
        exact ⟨u2, u2, u2⟩
      · rw [if_neg ci] at hu
        have ne : 40 * s + i ≠ 40 * s + n := by omega
        obtain ⟨g1, g2, g3⟩ := a5 i u hu
        exact ⟨(u2n ne).trans g1, (u2n ne).trans g2, (u2n ne).trans g3⟩
    · rw [if_neg cj]
      refine ⟨(u2n cj).trans b1, b2, b3, b4, fun i u hu => ?_⟩
      have il := (List.getElem?_eq_some_iff.mp hu).1
      have ne : 40 * j + i ≠ 40 * s + n := by omega
      obtain ⟨g1, g2, g3⟩ := b5 i u hu
      exact ⟨(u2n ne).trans g1, (u2n ne).trans g2, (u2n ne).trans g3⟩
  · have e : n = 40 := (nI_eq (a := n) (b := 40) (by omega) (by omega)).mp c
    rw [if_neg (by omega)] at k
    exact KR.exc (n := 2) h0 k
/-- the two ways to say that there are at most 8 windows at a moment -/
theorem at8 {p2 p3 : Int32} (h1 : ¬ p2 < 1) (h2 : ¬ 200 < p2) (h3 : ¬ p3 < 1) (h4 : ¬ p2 < p3) : 8 < (p2 + p3 - 1) / p3 ↔ 8 * p3 < p2 := by
  have a1 : 1 ≤ p2.toInt := by
    have := Int32.le_iff_toInt_le.mp (Int32.not_lt.mp h1)
    rwa [show (1 : Int32).toInt = 1 by decide +kernel] at this
  have a2 : p2.toInt ≤ 200 := by
    have := Int32.le_iff_toInt_le.mp (Int32.not_lt.mp h2)
    rwa [show (200 : Int32).toInt = 200 by decide +kernel] at this
  have a3 : 1 ≤ p3.toInt := by
    have := Int32.le_iff_toInt_le.mp (Int32.not_lt.mp h3)
    rwa [show (1 : Int32).toInt = 1 by decide +kernel] at this
  have a4 : p3.toInt ≤ p2.toInt := Int32.le_iff_toInt_le.mp (Int32.not_lt.mp h4)
  obtain ⟨x, hx, ex⟩ : ∃ x : Nat, x ≤ 200 ∧ p2 = nI x := ⟨p2.toInt.toNat, by omega, Int32.toInt_inj.mp (by rw [nI_toInt (by omega)]; omega)⟩
  obtain ⟨z, hz, ez⟩ : ∃ z : Nat, z ≤ 200 ∧ p3 = nI z := ⟨p3.toInt.toNat, by omega, Int32.toInt_inj.mp (by rw [nI_toInt (by omega)]; omega)⟩
  subst ex ez
  rw [nI_toInt (by omega)] at a1 a2 a4
  rw [nI_toInt (by omega)] at a3 a4
  have s1 : nI x + nI z - 1 = nI (x + z - 1) := by
    rw [nI_add]
    exact nI_sub (b := 1) (by omega)
  have d1 : nI (x + z - 1) / nI z = nI ((x + z - 1) / z) := by
    apply Int32.toInt_inj.mp
    have hd : (x + z - 1) / z ≤ x + z - 1 := Nat.div_le_self _ _
    rw [Int32.toInt_div, nI_toInt (by omega), nI_toInt (by omega), nI_toInt (by omega)]
    have e : ((x + z - 1 : Nat) : Int).tdiv (z : Int) = (((x + z - 1) / z : Nat) : Int) := Int.ofNat_tdiv _ _ |>.symm
    rw [e]
    generalize (x + z - 1) / z = w at hd
    exact Int.bmod_eq_of_le (by omega) (by omega)
  have m1 : (8 : Int32) * nI z = nI (8 * z) := by
    have : nI 8 * nI z = nI (8 * z) := (Int32.ofNat_mul 8 z).symm
    exact this
  rw [s1, d1, m1, show (8 : Int32) = nI 8 from rfl, nI_ltI (by omega) (by have := Nat.div_le_self (x + z - 1) z; omega), nI_ltI (by omega) (by omega)]
  rw [Nat.lt_iff_add_one_le, Nat.le_div_iff_mul_le (by omega)]
  omega
theorem r_job {p1 p2 p3 p4 p5 p6 : Int32} (h : MS G m B th y Jd JK) (h6 : p6 = 0 ∨ p6 = 1) (k : ∀ G', MS G' m B (nI (fJob y p1 p2 p3 p4 p5 p6).1) (fJob y p1 p2 p3 p4 p5 p6).2 Jd JK → MSt G m B G' → Post (.inl none) G') : Cl E 2 m_Mo_job [.ref m, .int p1, .int p2, .int p3, .int p4, .int p5, .int p6] G Post := by
  have h0 := h
  obtain ⟨F, T, h1, ha⟩ := h
  obtain ⟨x1, x2, x3, x4, x5, x6, x7, x8, x9, x10, x11, x12, x13, x14, x15, x16, x17, x18⟩ := ha
  have bad : jbBad p1 p2 p3 p4 p5 → gT G m = 11 ∧ Post (.inl none) (sI G 640 m 1) := fun z => by
    have e : fJob y p1 p2 p3 p4 p5 p6 = (1, y) := if_pos z
    rw [e] at k
    exact ⟨h1.tg, k _ (h0.code 1) MSt.rf.wI⟩
  have e8 : gI G 648 m = tB (cT y) := (h1.int 8 (by decide) (by decide)).trans x3.2.1
  have isx : ¬ jbBad p1 p2 p3 p4 p5 → ¬ gI G 648 m = 0 → Post (.inl none) (sI G 640 m 2) := fun z z2 => by
    rw [e8] at z2
    have e : fJob y p1 p2 p3 p4 p5 p6 = (2, y) := (if_neg z).trans (if_neg z2)
    rw [e] at k
    exact k _ (h0.code 2) MSt.rf.wI
  have ok : ¬ jbBad p1 p2 p3 p4 p5 → gI G 648 m = 0 → ∀ v : Int32, (if p1 = 1 then p3 else p2) = v → ∀ G11, G11 = sI (sI (sI (sI (sI (sI (sI G 640 m 0) 641 m p1) 642 m p2) 643 m v) 644 m p4) 645 m p5) 646 m p6 → Post (.inl none) G11 := fun z z2 v hv G11 hG => by
    rw [e8] at z2
    have e : fJob y p1 p2 p3 p4 p5 p6 = (0, (jbF p1 p2 p3 p4 p5 p6, cS y, cN y, cP y, cH y, cK y, cB y, cT y)) := (if_neg z).trans (if_pos z2)
    rw [e] at k
    subst hG
    exact k _ ⟨_, T, ((((((h1.wI 0 0).wI 1 p1).wI 2 p2).wI 3 v).wI 4 p4).wI 5 p5).wI 6 p6, rfl, ⟨rfl, rfl, hv.symm, rfl, rfl, rfl⟩, x3, x4, x5, x6, x7, x8, x9, x10, x11, x12, x13, x14, x15, x16, x17, x18⟩ (((((((MSt.rf.wI).wI).wI).wI).wI).wI).wI)
  refine j_enter (L := [some (.ref m), some (.int p1), some (.int p2), some (.int p3), some (.int p4), some (.int p5), some (.int p6), none, none]) me_Mo_job (cat_c rfl (cat_c rfl (cat_c rfl (cat_c rfl (cat_c rfl (cat_c rfl (cat_c rfl cat_n))))))) (Nat.le_of_ble_eq_true rfl) rfl (wp_Mo_job_0 m p1 p2 p3 p4 p5 p6 ⟨fun c => bad (Or.inl c), fun c1 => ⟨fun c => bad (Or.inr (Or.inl c)), fun c2 => ⟨fun c => bad (Or.inr (Or.inr (Or.inl c))), fun c3 => ⟨fun c => bad (Or.inr (Or.inr (Or.inr (Or.inl c)))), fun c4 => ⟨fun c => bad (Or.inr (Or.inr (Or.inr (Or.inr (Or.inl c))))), fun c5 => ⟨fun c => bad (Or.inr (Or.inr (Or.inr (Or.inr (Or.inr (Or.inl c)))))), fun c6 => ⟨fun c => bad (Or.inr (Or.inr (Or.inr (Or.inr (Or.inr (Or.inr (Or.inl c))))))), fun c7 => ⟨fun c => bad (Or.inr (Or.inr (Or.inr (Or.inr (Or.inr (Or.inr (Or.inr (Or.inl c)))))))), fun c8 => ⟨fun c9 => ⟨h1.tg, ?_⟩, fun c9 => ⟨fun c => bad (Or.inr (Or.inr (Or.inr (Or.inr (Or.inr (Or.inr (Or.inr (Or.inr ⟨c9, Or.inl c⟩)))))))), fun d1 => ⟨fun c => bad (Or.inr (Or.inr (Or.inr (Or.inr (Or.inr (Or.inr (Or.inr (Or.inr ⟨c9, Or.inr (Or.inl c)⟩)))))))), fun d2 => ⟨fun z => ?_, fun c => bad (Or.inr (Or.inr (Or.inr (Or.inr (Or.inr (Or.inr (Or.inr (Or.inr ⟨c9, Or.inr (Or.inr ((at8 c3 c4 d1 d2).mp c))⟩)))))))), fun d3 => ⟨h1.tg, ?_⟩⟩⟩⟩⟩⟩⟩⟩⟩⟩⟩⟩⟩)
  · have nb : ¬ jbBad p1 p2 p3 p4 p5 := fun z => by
      rcases z with z | z | z | z | z | z | z | z | z
      · exact c1 z
      · exact c2 z
      · exact c3 z
      · exact c4 z
      · exact c5 z
      · exact c6 z
      · exact c7 z
      · exact c8 z
      · exact c9 z.1
    exact ⟨fun z => ⟨fun _ => ⟨h6, ok nb z p2 (if_neg c9)⟩, fun z2 => absurd z2 c9⟩, fun z => isx nb z⟩
  · rw [z] at d1
    exact d1 (by decide +kernel)
  · have nb : ¬ jbBad p1 p2 p3 p4 p5 := fun z => by
      rcases z with z | z | z | z | z | z | z | z | ⟨-, z | z | z⟩
      · exact c1 z
      · exact c2 z
      · exact c3 z
      · exact c4 z
      · exact c5 z
      · exact c6 z
      · exact c7 z
      · exact c8 z
      · exact d1 z
      · exact d2 z
      · exact d3 ((at8 c3 c4 d1 d2).mpr z)
    exact ⟨fun z => ⟨fun z2 => absurd c9 z2, fun _ => ⟨h6, ok nb z p3 (if_pos c9)⟩⟩, fun z => isx nb z⟩
end RFACE5
