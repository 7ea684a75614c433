/-! walks of the law; printed by wip/gen/law25.py -/
theorem wp_La_law_0 {E : EV} {G : GH} {Post : Res → GH → Prop} (a0 : Nat) (H : ∀ G1, G1 = al G 10 11 → Cl E 6 m_St_init [.ref ((gz G))] G1 (aft E 15 m_La_law 4 [some (.ref a0), none, none, none, none, none, none, none, none, none, none, none, none, none, none, none, none, none, none, none, none, none, none, none, none, none, none] [.ref ((gz G))] Post)) : J E 15 m_La_law 0 [some (.ref a0), none, none, none, none, none, none, none, none, none, none, none, none, none, none, none, none, none, none, none, none, none, none, none, none, none, none] [] G Post := by
  refine j_newT (n := 11) (t := 10) rfl ne_La_8 rfl (by decide) d_La_law_0 ?_
  show J E 15 m_La_law 3 [some (.ref a0), none, none, none, none, none, none, none, none, none, none, none, none, none, none, none, none, none, none, none, none, none, none, none, none, none, none] [.ref ((gz G))] (al G 10 11) Post
  generalize e2 : al G 10 11 = G1
  have e2 := e2.symm
  have H := H G1 e2
  refine j_dup d_La_law_3 rfl ?_
  exact j_callI (d' := 6) (As := []) (rest := [.ref ((gz G))]) (b := ((gz G))) ci_La_71 me_St_init rfl rfl (by decide) rfl rfl (Nat.le_of_ble_eq_true rfl) d_La_law_4 (by decide) rfl H
theorem wp_La_law_7 {E : EV} {G : GH} {Post : Res → GH → Prop} (a0 : Nat) (u0 : Nat) (H : ∀ G1, G1 = al G 20 3 → ∀ G3, G3 = al G1 20 3 → (20 ≤ gT G3 a0 ∧ gT G3 a0 ≤ 26) ∧ ((nI (gN G3 a0)) ≤ 0 → J E 15 m_La_law 32 [some (.ref a0), some (.ref u0), some (.ref ((gz G))), some (.ref ((gz G1))), none, none, none, none, none, none, none, none, none, none, none, none, none, none, none, none, none, none, none, none, none, none, none] [.int ((77 : Int32))] G3 Post) ∧ (¬ (nI (gN G3 a0)) ≤ 0 → (gT G3 a0 = 20 ∨ gT G3 a0 = 25) ∧ IX (0 : Int32) 0 (gN G3 a0) ∧ J E 15 m_La_law 32 [some (.ref a0), some (.ref u0), some (.ref ((gz G))), some (.ref ((gz G1))), none, none, none, none, none, none, none, none, none, none, none, none, none, none, none, none, none, none, none, none, none, none, none] [.int (((gA G3 a0 0) &&& (2147483647 : Int32)))] G3 Post)) : J E 15 m_La_law 7 [some (.ref a0), none, none, none, none, none, none, none, none, none, none, none, none, none, none, none, none, none, none, none, none, none, none, none, none, none, none] [.ref u0] G Post := by
  refine j_astore_n (x := (some u0)) (L' := [some (.ref a0), some (.ref u0), none, none, none, none, none, none, none, none, none, none, none, none, none, none, none, none, none, none, none, none, none, none, none, none, none]) rfl d_La_law_7 (by decide) rfl ?_
  refine j_iconst (v := 3) d_La_law_8 (by decide) ?_
  refine j_newI (n := 3) (by decide) (by decide) (by decide) wa_int d_La_law_9 ?_
  show J E 15 m_La_law 11 [some (.ref a0), some (.ref u0), none, none, none, none, none, none, none, none, none, none, none, none, none, none, none, none, none, none, none, none, none, none, none, none, none] [.ref ((gz G))] (al G 20 3) Post
  generalize e2 : al G 20 3 = G1
  have e2 := e2.symm
  have H := H G1 e2
  refine j_astore_n (x := (some ((gz G)))) (L' := [some (.ref a0), some (.ref u0), some (.ref ((gz G))), none, none, none, none, none, none, none, none, none, none, none, none, none, none, none, none, none, none, none, none, none, none, none, none]) rfl d_La_law_11 (by decide) rfl ?_
  refine j_iconst (v := 3) d_La_law_12 (by decide) ?_
  refine j_newI (n := 3) (by decide) (by decide) (by decide) wa_int d_La_law_13 ?_
  show J E 15 m_La_law 15 [some (.ref a0), some (.ref u0), some (.ref ((gz G))), none, none, none, none, none, none, none, none, none, none, none, none, none, none, none, none, none, none, none, none, none, none, none, none] [.ref ((gz G1))] (al G1 20 3) Post
  generalize e4 : al G1 20 3 = G3
  have e4 := e4.symm
  have H := H G3 e4
  refine j_astore_n (x := (some ((gz G1)))) (L' := [some (.ref a0), some (.ref u0), some (.ref ((gz G))), some (.ref ((gz G1))), none, none, none, none, none, none, none, none, none, none, none, none, none, none, none, none, none, none, none, none, none, none, none]) rfl d_La_law_15 (by decide) rfl ?_
  refine j_aload_n d_La_law_16 rfl ?_
  obtain ⟨t5, H⟩ := H
  refine j_alen t5 d_La_law_17 ?_
  obtain ⟨Ha, Hb⟩ := H
  refine j_if_le (tgt := 30) d_La_law_18 (by decide) (fun c8 => ?_) (fun c9 => ?_)
  · have H := Ha c8
    refine j_bipush (v := 77) d_La_law_30 (by decide) ?_
    exact H
  · have H := Hb c9
    refine j_aload_n d_La_law_21 rfl ?_
    refine j_iconst (v := 0) d_La_law_22 (by decide) ?_
    obtain ⟨t6, H⟩ := H
    obtain ⟨x7, H⟩ := H
    refine j_iald (n := 0) t6 x7 d_La_law_23 ?_
    refine j_ldc kc_La_72 d_La_law_24 ?_
    refine j_iand d_La_law_26 ?_
    refine j_goto (tgt := 32) d_La_law_27 (by decide) ?_
    exact H
theorem wp_La_law_32 {E : EV} {G : GH} {Post : Res → GH → Prop} (a0 : Nat) (a1 : Nat) (a2 : Nat) (a3 : Nat) (s0 : Int32) (H : J E 15 m_La_law 51 [some (.ref a0), some (.ref a1), some (.ref a2), some (.ref a3), some (.int s0), some (.int ((s0 - s0 / (3 : Int32) * (3 : Int32)))), some (.int (((1 : Int32) + ((s0 >>> ((2 : Int32) &&& 31)) - (s0 >>> ((2 : Int32) &&& 31)) / (50 : Int32) * (50 : Int32))))), none, none, none, none, none, none, none, none, none, none, none, none, none, none, none, none, none, none, none, none] [] G Post) : J E 15 m_La_law 32 [some (.ref a0), some (.ref a1), some (.ref a2), some (.ref a3), none, none, none, none, none, none, none, none, none, none, none, none, none, none, none, none, none, none, none, none, none, none, none] [.int s0] G Post := by
  refine j_istore (L' := [some (.ref a0), some (.ref a1), some (.ref a2), some (.ref a3), some (.int s0), none, none, none, none, none, none, none, none, none, none, none, none, none, none, none, none, none, none, none, none, none, none]) d_La_law_32 (by decide) rfl ?_
  refine j_iload d_La_law_34 rfl ?_
  refine j_iconst (v := 3) d_La_law_36 (by decide) ?_
  refine j_irem d_La_law_37 (by decide) ?_
  refine j_istore (L' := [some (.ref a0), some (.ref a1), some (.ref a2), some (.ref a3), some (.int s0), some (.int ((s0 - s0 / (3 : Int32) * (3 : Int32)))), none, none, none, none, none, none, none, none, none, none, none, none, none, none, none, none, none, none, none, none, none]) d_La_law_38 (by decide) rfl ?_
  refine j_iconst (v := 1) d_La_law_40 (by decide) ?_
  refine j_iload d_La_law_41 rfl ?_
  refine j_iconst (v := 2) d_La_law_43 (by decide) ?_
  refine j_ishr d_La_law_44 ?_
  refine j_bipush (v := 50) d_La_law_45 (by decide) ?_
  refine j_irem d_La_law_47 (by decide) ?_
  refine j_iadd d_La_law_48 ?_
  refine j_istore (L' := [some (.ref a0), some (.ref a1), some (.ref a2), some (.ref a3), some (.int s0), some (.int ((s0 - s0 / (3 : Int32) * (3 : Int32)))), some (.int (((1 : Int32) + ((s0 >>> ((2 : Int32) &&& 31)) - (s0 >>> ((2 : Int32) &&& 31)) / (50 : Int32) * (50 : Int32))))), none, none, none, none, none, none, none, none, none, none, none, none, none, none, none, none, none, none, none, none]) d_La_law_49 (by decide) rfl ?_
  exact H
theorem wp_La_law_51 {E : EV} {G : GH} {Post : Res → GH → Prop} (a0 : Nat) (a1 : Nat) (a2 : Nat) (a3 : Nat) (p4 : Int32) (p5 : Int32) (p6 : Int32) (H : ¬ p6 = 0 ∧ J E 15 m_La_law 64 [some (.ref a0), some (.ref a1), some (.ref a2), some (.ref a3), some (.int p4), some (.int p5), some (.int p6), some (.int ((p6 - ((p4 >>> ((8 : Int32) &&& 31)) - (p4 >>> ((8 : Int32) &&& 31)) / p6 * p6)))), none, none, none, none, none, none, none, none, none, none, none, none, none, none, none, none, none, none, none] [] G Post) : J E 15 m_La_law 51 [some (.ref a0), some (.ref a1), some (.ref a2), some (.ref a3), some (.int p4), some (.int p5), some (.int p6), none, none, none, none, none, none, none, none, none, none, none, none, none, none, none, none, none, none, none, none] [] G Post := by
  refine j_iload d_La_law_51 rfl ?_
  refine j_iload d_La_law_53 rfl ?_
  refine j_bipush (v := 8) d_La_law_55 (by decide) ?_
  refine j_ishr d_La_law_57 ?_
  refine j_iload d_La_law_58 rfl ?_
  obtain ⟨z1, H⟩ := H
  refine j_irem d_La_law_60 z1 ?_
  refine j_isub d_La_law_61 ?_
  refine j_istore (L' := [some (.ref a0), some (.ref a1), some (.ref a2), some (.ref a3), some (.int p4), some (.int p5), some (.int p6), some (.int ((p6 - ((p4 >>> ((8 : Int32) &&& 31)) - (p4 >>> ((8 : Int32) &&& 31)) / p6 * p6)))), none, none, none, none, none, none, none, none, none, none, none, none, none, none, none, none, none, none, none]) d_La_law_62 (by decide) rfl ?_
  exact H
theorem wp_La_law_64 {E : EV} {G : GH} {Post : Res → GH → Prop} (a0 : Nat) (a1 : Nat) (a2 : Nat) (a3 : Nat) (p4 : Int32) (p5 : Int32) (p6 : Int32) (p7 : Int32) (H : ¬ p7 = 0 ∧ ((((p6 + p7) - (1 : Int32)) / p7) ≤ (8 : Int32) → J E 15 m_La_law 86 [some (.ref a0), some (.ref a1), some (.ref a2), some (.ref a3), some (.int p4), some (.int p5), some (.int p6), none, none, none, none, none, none, none, none, none, none, none, none, none, none, none, none, none, none, none, none] [.int p7] G Post) ∧ (¬ (((p6 + p7) - (1 : Int32)) / p7) ≤ (8 : Int32) → J E 15 m_La_law 86 [some (.ref a0), some (.ref a1), some (.ref a2), some (.ref a3), some (.int p4), some (.int p5), some (.int p6), none, none, none, none, none, none, none, none, none, none, none, none, none, none, none, none, none, none, none, none] [.int p6] G Post)) : J E 15 m_La_law 64 [some (.ref a0), some (.ref a1), some (.ref a2), some (.ref a3), some (.int p4), some (.int p5), some (.int p6), some (.int p7), none, none, none, none, none, none, none, none, none, none, none, none, none, none, none, none, none, none, none] [] G Post := by
  refine j_iload d_La_law_64 rfl ?_
  refine j_iload d_La_law_66 rfl ?_
  refine j_iadd d_La_law_68 ?_
  refine j_iconst (v := 1) d_La_law_69 (by decide) ?_
  refine j_isub d_La_law_70 ?_
  refine j_iload d_La_law_71 rfl ?_
  obtain ⟨z1, H⟩ := H
  refine j_idiv d_La_law_73 z1 ?_
  refine j_bipush (v := 8) d_La_law_74 (by decide) ?_
  obtain ⟨Ha, Hb⟩ := H
  refine j_icmp_le (tgt := 84) d_La_law_76 (by decide) (fun c2 => ?_) (fun c3 => ?_)
  · have H := Ha c2
    refine j_iload d_La_law_84 rfl ?_
    refine j_forget (L' := [some (.ref a0), some (.ref a1), some (.ref a2), some (.ref a3), some (.int p4), some (.int p5), some (.int p6), none, none, none, none, none, none, none, none, none, none, none, none, none, none, none, none, none, none, none, none]) ⟨Or.inr rfl, Or.inr rfl, Or.inr rfl, Or.inr rfl, Or.inr rfl, Or.inr rfl, Or.inr rfl, Or.inl rfl, Or.inl rfl, Or.inl rfl, Or.inl rfl, Or.inl rfl, Or.inl rfl, Or.inl rfl, Or.inl rfl, Or.inl rfl, Or.inl rfl, Or.inl rfl, Or.inl rfl, Or.inl rfl, Or.inl rfl, Or.inl rfl, Or.inl rfl, Or.inl rfl, Or.inl rfl, Or.inl rfl, Or.inl rfl, trivial⟩ ?_
    exact H
  · have H := Hb c3
    refine j_iload d_La_law_79 rfl ?_
    refine j_goto (tgt := 86) d_La_law_81 (by decide) ?_
    refine j_forget (L' := [some (.ref a0), some (.ref a1), some (.ref a2), some (.ref a3), some (.int p4), some (.int p5), some (.int p6), none, none, none, none, none, none, none, none, none, none, none, none, none, none, none, none, none, none, none, none]) ⟨Or.inr rfl, Or.inr rfl, Or.inr rfl, Or.inr rfl, Or.inr rfl, Or.inr rfl, Or.inr rfl, Or.inl rfl, Or.inl rfl, Or.inl rfl, Or.inl rfl, Or.inl rfl, Or.inl rfl, Or.inl rfl, Or.inl rfl, Or.inl rfl, Or.inl rfl, Or.inl rfl, Or.inl rfl, Or.inl rfl, Or.inl rfl, Or.inl rfl, Or.inl rfl, Or.inl rfl, Or.inl rfl, Or.inl rfl, Or.inl rfl, trivial⟩ ?_
    exact H
theorem wp_La_law_86 {E : EV} {G : GH} {Post : Res → GH → Prop} (a0 : Nat) (a1 : Nat) (a2 : Nat) (a3 : Nat) (p4 : Int32) (p5 : Int32) (p6 : Int32) (s0 : Int32) (H : (¬ ((p4 >>> ((14 : Int32) &&& 31)) &&& (1 : Int32)) = 0 → J E 15 m_La_law 103 [some (.ref a0), some (.ref a1), some (.ref a2), some (.ref a3), some (.int p4), some (.int p5), some (.int p6), some (.int s0), none, none, none, none, none, none, none, none, none, none, none, none, none, none, none, none, none, none, none] [.int ((0 : Int32))] G Post) ∧ (((p4 >>> ((14 : Int32) &&& 31)) &&& (1 : Int32)) = 0 → J E 15 m_La_law 103 [some (.ref a0), some (.ref a1), some (.ref a2), some (.ref a3), some (.int p4), some (.int p5), some (.int p6), some (.int s0), none, none, none, none, none, none, none, none, none, none, none, none, none, none, none, none, none, none, none] [.int ((1 : Int32))] G Post)) : J E 15 m_La_law 86 [some (.ref a0), some (.ref a1), some (.ref a2), some (.ref a3), some (.int p4), some (.int p5), some (.int p6), none, none, none, none, none, none, none, none, none, none, none, none, none, none, none, none, none, none, none, none] [.int s0] G Post := by
  refine j_istore (L' := [some (.ref a0), some (.ref a1), some (.ref a2), some (.ref a3), some (.int p4), some (.int p5), some (.int p6), some (.int s0), none, none, none, none, none, none, none, none, none, none, none, none, none, none, none, none, none, none, none]) d_La_law_86 (by decide) rfl ?_
  refine j_iload d_La_law_88 rfl ?_
  refine j_bipush (v := 14) d_La_law_90 (by decide) ?_
  refine j_ishr d_La_law_92 ?_
  refine j_iconst (v := 1) d_La_law_93 (by decide) ?_
  refine j_iand d_La_law_94 ?_
  obtain ⟨Ha, Hb⟩ := H
  refine j_if_ne (tgt := 102) d_La_law_95 (by decide) (fun c1 => ?_) (fun c2 => ?_)
  · have H := Ha c1
    refine j_iconst (v := 0) d_La_law_102 (by decide) ?_
    exact H
  · have H := Hb c2
    refine j_iconst (v := 1) d_La_law_98 (by decide) ?_
    refine j_goto (tgt := 103) d_La_law_99 (by decide) ?_
    exact H
theorem wp_La_law_103 {E : EV} {G : GH} {Post : Res → GH → Prop} (a0 : Nat) (a1 : Nat) (a2 : Nat) (a3 : Nat) (p4 : Int32) (p5 : Int32) (p6 : Int32) (p7 : Int32) (s0 : Int32) (H : gT G a1 = 10 ∧ Cl E 2 m_St_job [.ref a1, .int p5, .int p6, .int p7, .int (((p4 >>> ((15 : Int32) &&& 31)) - (p4 >>> ((15 : Int32) &&& 31)) / (30 : Int32) * (30 : Int32))), .int (((p4 >>> ((20 : Int32) &&& 31)) - (p4 >>> ((20 : Int32) &&& 31)) / (20 : Int32) * (20 : Int32))), .int s0] G (aft E 15 m_La_law 130 [some (.ref a0), some (.ref a1), some (.ref a2), some (.ref a3), none, some (.int p5), some (.int p6), some (.int p7), some (.int s0), none, none, none, none, none, none, none, none, none, none, none, none, none, none, none, none, none, none] [] Post)) : J E 15 m_La_law 103 [some (.ref a0), some (.ref a1), some (.ref a2), some (.ref a3), some (.int p4), some (.int p5), some (.int p6), some (.int p7), none, none, none, none, none, none, none, none, none, none, none, none, none, none, none, none, none, none, none] [.int s0] G Post := by
  refine j_istore (L' := [some (.ref a0), some (.ref a1), some (.ref a2), some (.ref a3), some (.int p4), some (.int p5), some (.int p6), some (.int p7), some (.int s0), none, none, none, none, none, none, none, none, none, none, none, none, none, none, none, none, none, none]) d_La_law_103 (by decide) rfl ?_
  refine j_aload_n d_La_law_105 rfl ?_
  refine j_iload d_La_law_106 rfl ?_
  refine j_iload d_La_law_108 rfl ?_
  refine j_iload d_La_law_110 rfl ?_
  refine j_iload d_La_law_112 rfl ?_
  refine j_bipush (v := 15) d_La_law_114 (by decide) ?_
  refine j_ishr d_La_law_116 ?_
  refine j_bipush (v := 30) d_La_law_117 (by decide) ?_
  refine j_irem d_La_law_119 (by decide) ?_
  refine j_iload d_La_law_120 rfl ?_
  refine j_bipush (v := 20) d_La_law_122 (by decide) ?_
  refine j_ishr d_La_law_124 ?_
  refine j_bipush (v := 20) d_La_law_125 (by decide) ?_
  refine j_irem d_La_law_127 (by decide) ?_
  refine j_iload d_La_law_128 rfl ?_
  obtain ⟨t1, H⟩ := H
  refine j_forget (L' := [some (.ref a0), some (.ref a1), some (.ref a2), some (.ref a3), none, some (.int p5), some (.int p6), some (.int p7), some (.int s0), none, none, none, none, none, none, none, none, none, none, none, none, none, none, none, none, none, none]) ⟨Or.inr rfl, Or.inr rfl, Or.inr rfl, Or.inr rfl, Or.inl rfl, Or.inr rfl, Or.inr rfl, Or.inr rfl, Or.inr rfl, Or.inl rfl, Or.inl rfl, Or.inl rfl, Or.inl rfl, Or.inl rfl, Or.inl rfl, Or.inl rfl, Or.inl rfl, Or.inl rfl, Or.inl rfl, Or.inl rfl, Or.inl rfl, Or.inl rfl, Or.inl rfl, Or.inl rfl, Or.inl rfl, Or.inl rfl, Or.inl rfl, trivial⟩ ?_
  exact j_callV (d' := 2) (ci := 9) (As := [.int p5, .int p6, .int p7, .int (((p4 >>> ((15 : Int32) &&& 31)) - (p4 >>> ((15 : Int32) &&& 31)) / (30 : Int32) * (30 : Int32))), .int (((p4 >>> ((20 : Int32) &&& 31)) - (p4 >>> ((20 : Int32) &&& 31)) / (20 : Int32) * (20 : Int32))), .int s0]) (rest := []) (b := a1) cv_La_73 me_St_job rfl (by decide) rfl rfl t1 rfl rfl (Nat.le_of_ble_eq_true rfl) d_La_law_130 (by decide) rfl H
theorem wp_La_law_133 {E : EV} {G : GH} {Post : Res → GH → Prop} (a0 : Nat) (a1 : Nat) (a2 : Nat) (a3 : Nat) (p5 : Int32) (p6 : Int32) (p7 : Int32) (p8 : Int32) (H : gT G a1 = 10 ∧ ∃ v2, AK E 1 m_St_watermark [.ref a1] G v2 ∧ (¬ v2 = (-1 : Int32) → J E 15 m_La_law 152 [some (.ref a0), some (.ref a1), some (.ref a2), some (.ref a3), none, some (.int p5), some (.int p6), some (.int p7), some (.int p8), none, none, none, none, none, none, none, none, none, none, none, none, none, none, none, none, none, none] [] G Post) ∧ (v2 = (-1 : Int32) → ∃ v4, AK E 1 m_St_uncommitted [.ref a1] G v4 ∧ (¬ v4 = 0 → J E 15 m_La_law 152 [some (.ref a0), some (.ref a1), some (.ref a2), some (.ref a3), none, some (.int p5), some (.int p6), some (.int p7), some (.int p8), none, none, none, none, none, none, none, none, none, none, none, none, none, none, none, none, none, none] [] G Post) ∧ (v4 = 0 → J E 15 m_La_law 153 [some (.ref a0), some (.ref a1), some (.ref a2), some (.ref a3), none, some (.int p5), some (.int p6), some (.int p7), some (.int p8), none, none, none, none, none, none, none, none, none, none, none, none, none, none, none, none, none, none] [.int ((1 : Int32))] G Post))) : J E 15 m_La_law 133 [some (.ref a0), some (.ref a1), some (.ref a2), some (.ref a3), none, some (.int p5), some (.int p6), some (.int p7), some (.int p8), none, none, none, none, none, none, none, none, none, none, none, none, none, none, none, none, none, none] [] G Post := by
  refine j_aload_n d_La_law_133 rfl ?_
  obtain ⟨t1, H⟩ := H
  obtain ⟨v2, k3, H⟩ := H
  refine j_callV (d' := 1) (ci := 9) (As := []) (rest := []) (b := a1) cv_La_68 me_St_watermark rfl (by decide) rfl rfl t1 rfl rfl (Nat.le_of_ble_eq_true rfl) d_La_law_134 (by decide) rfl (k3 _ ?_)
  show J E 15 m_La_law 137 [some (.ref a0), some (.ref a1), some (.ref a2), some (.ref a3), none, some (.int p5), some (.int p6), some (.int p7), some (.int p8), none, none, none, none, none, none, none, none, none, none, none, none, none, none, none, none, none, none] [.int v2] G Post
  refine j_iconst (v := -1) d_La_law_137 (by decide) ?_
  obtain ⟨Ha, Hb⟩ := H
  refine j_icmp_ne (tgt := 152) d_La_law_138 (by decide) (fun c8 => ?_) (fun c9 => ?_)
  · have H := Ha c8
    exact H
  · have H := Hb c9
    refine j_aload_n d_La_law_141 rfl ?_
    obtain ⟨v4, k5, H⟩ := H
    refine j_callV (d' := 1) (ci := 9) (As := []) (rest := []) (b := a1) cv_La_77 me_St_uncommitted rfl (by decide) rfl rfl t1 rfl rfl (Nat.le_of_ble_eq_true rfl) d_La_law_142 (by decide) rfl (k5 _ ?_)
    show J E 15 m_La_law 145 [some (.ref a0), some (.ref a1), some (.ref a2), some (.ref a3), none, some (.int p5), some (.int p6), some (.int p7), some (.int p8), none, none, none, none, none, none, none, none, none, none, none, none, none, none, none, none, none, none] [.int v4] G Post
    obtain ⟨Ha, Hb⟩ := H
    refine j_if_ne (tgt := 152) d_La_law_145 (by decide) (fun c6 => ?_) (fun c7 => ?_)
    · have H := Ha c6
      exact H
    · have H := Hb c7
      refine j_iconst (v := 1) d_La_law_148 (by decide) ?_
      refine j_goto (tgt := 153) d_La_law_149 (by decide) ?_
      exact H
theorem wp_La_law_152 {E : EV} {G : GH} {Post : Res → GH → Prop} (a0 : Nat) (a1 : Nat) (a2 : Nat) (a3 : Nat) (p5 : Int32) (p6 : Int32) (p7 : Int32) (p8 : Int32) (H : J E 15 m_La_law 153 [some (.ref a0), some (.ref a1), some (.ref a2), some (.ref a3), none, some (.int p5), some (.int p6), some (.int p7), some (.int p8), none, none, none, none, none, none, none, none, none, none, none, none, none, none, none, none, none, none] [.int ((0 : Int32))] G Post) : J E 15 m_La_law 152 [some (.ref a0), some (.ref a1), some (.ref a2), some (.ref a3), none, some (.int p5), some (.int p6), some (.int p7), some (.int p8), none, none, none, none, none, none, none, none, none, none, none, none, none, none, none, none, none, none] [] G Post := by
  refine j_iconst (v := 0) d_La_law_152 (by decide) ?_
  exact H
theorem wp_La_law_153 {E : EV} {G : GH} {Post : Res → GH → Prop} (a0 : Nat) (a1 : Nat) (a2 : Nat) (a3 : Nat) (p5 : Int32) (p6 : Int32) (p7 : Int32) (p8 : Int32) (s0 : Int32) (H : (20 ≤ gT G a0 ∧ gT G a0 ≤ 26) ∧ ((40 : Int32) ≤ (nI (gN G a0)) → (20 ≤ gT G a0 ∧ gT G a0 ≤ 26) ∧ ((80 : Int32) ≤ (nI (gN G a0)) → J E 15 m_La_law 193 [some (.ref a0), some (.ref a1), some (.ref a2), some (.ref a3), none, some (.int p5), some (.int p6), some (.int p7), some (.int p8), some (.int s0), some (.int ((0 : Int32))), some (.int ((0 : Int32))), some (.int ((1 : Int32))), none, none, none, none, none, none, none, none, none, none, none, none, none, none] [.int ((200 : Int32))] G Post) ∧ (¬ (80 : Int32) ≤ (nI (gN G a0)) → (20 ≤ gT G a0 ∧ gT G a0 ≤ 26) ∧ J E 15 m_La_law 193 [some (.ref a0), some (.ref a1), some (.ref a2), some (.ref a3), none, some (.int p5), some (.int p6), some (.int p7), some (.int p8), some (.int s0), some (.int ((0 : Int32))), some (.int ((0 : Int32))), some (.int ((1 : Int32))), none, none, none, none, none, none, none, none, none, none, none, none, none, none] [.int (((2 : Int32) * (nI (gN G a0))))] G Post)) ∧ (¬ (40 : Int32) ≤ (nI (gN G a0)) → J E 15 m_La_law 193 [some (.ref a0), some (.ref a1), some (.ref a2), some (.ref a3), none, some (.int p5), some (.int p6), some (.int p7), some (.int p8), some (.int s0), some (.int ((0 : Int32))), some (.int ((0 : Int32))), some (.int ((1 : Int32))), none, none, none, none, none, none, none, none, none, none, none, none, none, none] [.int ((120 : Int32))] G Post)) : J E 15 m_La_law 153 [some (.ref a0), some (.ref a1), some (.ref a2), some (.ref a3), none, some (.int p5), some (.int p6), some (.int p7), some (.int p8), none, none, none, none, none, none, none, none, none, none, none, none, none, none, none, none, none, none] [.int s0] G Post := by
  refine j_istore (L' := [some (.ref a0), some (.ref a1), some (.ref a2), some (.ref a3), none, some (.int p5), some (.int p6), some (.int p7), some (.int p8), some (.int s0), none, none, none, none, none, none, none, none, none, none, none, none, none, none, none, none, none]) d_La_law_153 (by decide) rfl ?_
  refine j_iconst (v := 0) d_La_law_155 (by decide) ?_
  refine j_istore (L' := [some (.ref a0), some (.ref a1), some (.ref a2), some (.ref a3), none, some (.int p5), some (.int p6), some (.int p7), some (.int p8), some (.int s0), some (.int ((0 : Int32))), none, none, none, none, none, none, none, none, none, none, none, none, none, none, none, none]) d_La_law_156 (by decide) rfl ?_
  refine j_iconst (v := 0) d_La_law_158 (by decide) ?_
  refine j_istore (L' := [some (.ref a0), some (.ref a1), some (.ref a2), some (.ref a3), none, some (.int p5), some (.int p6), some (.int p7), some (.int p8), some (.int s0), some (.int ((0 : Int32))), some (.int ((0 : Int32))), none, none, none, none, none, none, none, none, none, none, none, none, none, none, none]) d_La_law_159 (by decide) rfl ?_
  refine j_iconst (v := 1) d_La_law_161 (by decide) ?_
  refine j_istore (L' := [some (.ref a0), some (.ref a1), some (.ref a2), some (.ref a3), none, some (.int p5), some (.int p6), some (.int p7), some (.int p8), some (.int s0), some (.int ((0 : Int32))), some (.int ((0 : Int32))), some (.int ((1 : Int32))), none, none, none, none, none, none, none, none, none, none, none, none, none, none]) d_La_law_162 (by decide) rfl ?_
  refine j_aload_n d_La_law_164 rfl ?_
  obtain ⟨t1, H⟩ := H
  refine j_alen t1 d_La_law_165 ?_
  refine j_bipush (v := 40) d_La_law_166 (by decide) ?_
  obtain ⟨Ha, Hb⟩ := H
  refine j_icmp_ge (tgt := 176) d_La_law_168 (by decide) (fun c6 => ?_) (fun c7 => ?_)
  · have H := Ha c6
    refine j_aload_n d_La_law_176 rfl ?_
    obtain ⟨t2, H⟩ := H
    refine j_alen t2 d_La_law_177 ?_
    refine j_bipush (v := 80) d_La_law_178 (by decide) ?_
    obtain ⟨Ha, Hb⟩ := H
    refine j_icmp_ge (tgt := 190) d_La_law_180 (by decide) (fun c4 => ?_) (fun c5 => ?_)
    · have H := Ha c4
      refine j_sipush (v := 200) d_La_law_190 (by decide) ?_
      exact H
    · have H := Hb c5
      refine j_iconst (v := 2) d_La_law_183 (by decide) ?_
      refine j_aload_n d_La_law_184 rfl ?_
      obtain ⟨t3, H⟩ := H
      refine j_alen t3 d_La_law_185 ?_
      refine j_imul d_La_law_186 ?_
      refine j_goto (tgt := 193) d_La_law_187 (by decide) ?_
      exact H
  · have H := Hb c7
    refine j_bipush (v := 120) d_La_law_171 (by decide) ?_
    refine j_goto (tgt := 193) d_La_law_173 (by decide) ?_
    exact H
theorem wp_La_law_193 {E : EV} {G : GH} {Post : Res → GH → Prop} (a0 : Nat) (a1 : Nat) (a2 : Nat) (a3 : Nat) (p5 : Int32) (p6 : Int32) (p7 : Int32) (p8 : Int32) (p9 : Int32) (p10 : Int32) (p11 : Int32) (p12 : Int32) (s0 : Int32) (H : J E 15 m_La_law 198 [some (.ref a0), some (.ref a1), some (.ref a2), some (.ref a3), none, some (.int p5), some (.int p6), some (.int p7), some (.int p8), some (.int p9), some (.int p10), some (.int p11), some (.int p12), some (.int s0), some (.int ((0 : Int32))), none, none, none, none, none, none, none, none, none, none, none, none] [] G Post) : J E 15 m_La_law 193 [some (.ref a0), some (.ref a1), some (.ref a2), some (.ref a3), none, some (.int p5), some (.int p6), some (.int p7), some (.int p8), some (.int p9), some (.int p10), some (.int p11), some (.int p12), none, none, none, none, none, none, none, none, none, none, none, none, none, none] [.int s0] G Post := by
  refine j_istore (L' := [some (.ref a0), some (.ref a1), some (.ref a2), some (.ref a3), none, some (.int p5), some (.int p6), some (.int p7), some (.int p8), some (.int p9), some (.int p10), some (.int p11), some (.int p12), some (.int s0), none, none, none, none, none, none, none, none, none, none, none, none, none]) d_La_law_193 (by decide) rfl ?_
  refine j_iconst (v := 0) d_La_law_195 (by decide) ?_
  refine j_istore (L' := [some (.ref a0), some (.ref a1), some (.ref a2), some (.ref a3), none, some (.int p5), some (.int p6), some (.int p7), some (.int p8), some (.int p9), some (.int p10), some (.int p11), some (.int p12), some (.int s0), some (.int ((0 : Int32))), none, none, none, none, none, none, none, none, none, none, none, none]) d_La_law_196 (by decide) rfl ?_
  exact H
theorem wp_La_law_198 {E : EV} {G : GH} {Post : Res → GH → Prop} (a0 : Nat) (a1 : Nat) (a2 : Nat) (a3 : Nat) (p5 : Int32) (p6 : Int32) (p7 : Int32) (p8 : Int32) (p9 : Int32) (p10 : Int32) (p11 : Int32) (p12 : Int32) (p13 : Int32) (p14 : Int32) (H : (p13 ≤ p14 → J E 15 m_La_law 1322 [none, none, none, none, none, none, none, none, none, some (.int p9), none, none, none, none, none, none, none, none, none, none, none, none, none, none, none, none, none] [] G Post) ∧ (¬ p13 ≤ p14 → (p9 = 0 → J E 15 m_La_law 1322 [none, none, none, none, none, none, none, none, none, some (.int p9), none, none, none, none, none, none, none, none, none, none, none, none, none, none, none, none, none] [] G Post) ∧ (¬ p9 = 0 → (20 ≤ gT G a0 ∧ gT G a0 ≤ 26) ∧ ((nI (gN G a0)) ≤ (p14 + (1 : Int32)) → J E 15 m_La_law 246 [some (.ref a0), some (.ref a1), some (.ref a2), some (.ref a3), none, some (.int p5), some (.int p6), some (.int p7), some (.int p8), none, some (.int p10), some (.int p11), some (.int p12), some (.int p13), some (.int p14), none, none, none, none, none, none, none, none, none, none, none, none] [.int ((((((3470017 : Int32) * p14) * p14) + ((122041 : Int32) * p14)) + (239 : Int32)))] G Post) ∧ (¬ (nI (gN G a0)) ≤ (p14 + (1 : Int32)) → (gT G a0 = 20 ∨ gT G a0 = 25) ∧ ∃ n4, IX ((p14 + (1 : Int32))) n4 (gN G a0) ∧ J E 15 m_La_law 246 [some (.ref a0), some (.ref a1), some (.ref a2), some (.ref a3), none, some (.int p5), some (.int p6), some (.int p7), some (.int p8), none, some (.int p10), some (.int p11), some (.int p12), some (.int p13), some (.int p14), none, none, none, none, none, none, none, none, none, none, none, none] [.int ((gA G a0 n4))] G Post)))) : J E 15 m_La_law 198 [some (.ref a0), some (.ref a1), some (.ref a2), some (.ref a3), none, some (.int p5), some (.int p6), some (.int p7), some (.int p8), some (.int p9), some (.int p10), some (.int p11), some (.int p12), some (.int p13), some (.int p14), none, none, none, none, none, none, none, none, none, none, none, none] [] G Post := by
  refine j_iload d_La_law_198 rfl ?_
  refine j_iload d_La_law_200 rfl ?_
  obtain ⟨Ha, Hb⟩ := H
  refine j_icmp_ge (tgt := 1322) d_La_law_202 (by decide) (fun c9 => ?_) (fun c10 => ?_)
  · have H := Ha c9
    refine j_forget (L' := [none, none, none, none, none, none, none, none, none, some (.int p9), none, none, none, none, none, none, none, none, none, none, none, none, none, none, none, none, none]) ⟨Or.inl rfl, Or.inl rfl, Or.inl rfl, Or.inl rfl, Or.inl rfl, Or.inl rfl, Or.inl rfl, Or.inl rfl, Or.inl rfl, Or.inr rfl, Or.inl rfl, Or.inl rfl, Or.inl rfl, Or.inl rfl, Or.inl rfl, Or.inl rfl, Or.inl rfl, Or.inl rfl, Or.inl rfl, Or.inl rfl, Or.inl rfl, Or.inl rfl, Or.inl rfl, Or.inl rfl, Or.inl rfl, Or.inl rfl, Or.inl rfl, trivial⟩ ?_
    exact H
  · have H := Hb c10
    refine j_iload d_La_law_205 rfl ?_
    obtain ⟨Ha, Hb⟩ := H
    refine j_if_eq (tgt := 1322) d_La_law_207 (by decide) (fun c7 => ?_) (fun c8 => ?_)
    · have H := Ha c7
      refine j_forget (L' := [none, none, none, none, none, none, none, none, none, some (.int p9), none, none, none, none, none, none, none, none, none, none, none, none, none, none, none, none, none]) ⟨Or.inl rfl, Or.inl rfl, Or.inl rfl, Or.inl rfl, Or.inl rfl, Or.inl rfl, Or.inl rfl, Or.inl rfl, Or.inl rfl, Or.inr rfl, Or.inl rfl, Or.inl rfl, Or.inl rfl, Or.inl rfl, Or.inl rfl, Or.inl rfl, Or.inl rfl, Or.inl rfl, Or.inl rfl, Or.inl rfl, Or.inl rfl, Or.inl rfl, Or.inl rfl, Or.inl rfl, Or.inl rfl, Or.inl rfl, Or.inl rfl, trivial⟩ ?_
      exact H
    · have H := Hb c8
      refine j_iload d_La_law_210 rfl ?_
      refine j_iconst (v := 1) d_La_law_212 (by decide) ?_
      refine j_iadd d_La_law_213 ?_
      refine j_aload_n d_La_law_214 rfl ?_
      obtain ⟨t1, H⟩ := H
      refine j_alen t1 d_La_law_215 ?_
      obtain ⟨Ha, Hb⟩ := H
      refine j_icmp_ge (tgt := 228) d_La_law_216 (by decide) (fun c5 => ?_) (fun c6 => ?_)
      · have H := Ha c5
        refine j_ldc kc_La_80 d_La_law_228 ?_
        refine j_iload d_La_law_230 rfl ?_
        refine j_imul d_La_law_232 ?_
        refine j_iload d_La_law_233 rfl ?_
        refine j_imul d_La_law_235 ?_
        refine j_ldc kc_La_81 d_La_law_236 ?_
        refine j_iload d_La_law_238 rfl ?_
        refine j_imul d_La_law_240 ?_
        refine j_iadd d_La_law_241 ?_
        refine j_sipush (v := 239) d_La_law_242 (by decide) ?_
        refine j_iadd d_La_law_245 ?_
        refine j_forget (L' := [some (.ref a0), some (.ref a1), some (.ref a2), some (.ref a3), none, some (.int p5), some (.int p6), some (.int p7), some (.int p8), none, some (.int p10), some (.int p11), some (.int p12), some (.int p13), some (.int p14), none, none, none, none, none, none, none, none, none, none, none, none]) ⟨Or.inr rfl, Or.inr rfl, Or.inr rfl, Or.inr rfl, Or.inl rfl, Or.inr rfl, Or.inr rfl, Or.inr rfl, Or.inr rfl, Or.inl rfl, Or.inr rfl, Or.inr rfl, Or.inr rfl, Or.inr rfl, Or.inr rfl, Or.inl rfl, Or.inl rfl, Or.inl rfl, Or.inl rfl, Or.inl rfl, Or.inl rfl, Or.inl rfl, Or.inl rfl, Or.inl rfl, Or.inl rfl, Or.inl rfl, Or.inl rfl, trivial⟩ ?_
        exact H
      · have H := Hb c6
        refine j_aload_n d_La_law_219 rfl ?_
        refine j_iload d_La_law_220 rfl ?_
        refine j_iconst (v := 1) d_La_law_222 (by decide) ?_
        refine j_iadd d_La_law_223 ?_
        obtain ⟨t2, H⟩ := H
        obtain ⟨n4, x3, H⟩ := H
        refine j_iald (n := n4) t2 x3 d_La_law_224 ?_
        refine j_goto (tgt := 246) d_La_law_225 (by decide) ?_
        refine j_forget (L' := [some (.ref a0), some (.ref a1), some (.ref a2), some (.ref a3), none, some (.int p5), some (.int p6), some (.int p7), some (.int p8), none, some (.int p10), some (.int p11), some (.int p12), some (.int p13), some (.int p14), none, none, none, none, none, none, none, none, none, none, none, none]) ⟨Or.inr rfl, Or.inr rfl, Or.inr rfl, Or.inr rfl, Or.inl rfl, Or.inr rfl, Or.inr rfl, Or.inr rfl, Or.inr rfl, Or.inl rfl, Or.inr rfl, Or.inr rfl, Or.inr rfl, Or.inr rfl, Or.inr rfl, Or.inl rfl, Or.inl rfl, Or.inl rfl, Or.inl rfl, Or.inl rfl, Or.inl rfl, Or.inl rfl, Or.inl rfl, Or.inl rfl, Or.inl rfl, Or.inl rfl, Or.inl rfl, trivial⟩ ?_
        exact H
theorem wp_La_law_1322 {E : EV} {G : GH} {Post : Res → GH → Prop} (p9 : Int32) (H : (p9 = 0 ∨ p9 = 1) ∧ Post (.inl (some (.int p9))) G) : J E 15 m_La_law 1322 [none, none, none, none, none, none, none, none, none, some (.int p9), none, none, none, none, none, none, none, none, none, none, none, none, none, none, none, none, none] [] G Post := by
  refine j_iload d_La_law_1322 rfl ?_
  obtain ⟨z1, H⟩ := H
  exact j_zret rfl z1 d_La_law_1324 H
theorem wp_La_law_246 {E : EV} {G : GH} {Post : Res → GH → Prop} (a0 : Nat) (a1 : Nat) (a2 : Nat) (a3 : Nat) (p5 : Int32) (p6 : Int32) (p7 : Int32) (p8 : Int32) (p10 : Int32) (p11 : Int32) (p12 : Int32) (p13 : Int32) (p14 : Int32) (s0 : Int32) (H : ((3 : Int32) ≤ p14 → J E 15 m_La_law 272 [some (.ref a0), some (.ref a1), some (.ref a2), some (.ref a3), none, some (.int p5), some (.int p6), some (.int p7), some (.int p8), none, some (.int p10), some (.int p11), some (.int p12), some (.int p13), some (.int p14), none, some (.int (((s0 >>> ((4 : Int32) &&& 31)) &&& (268435455 : Int32)))), none, none, none, none, none, none, none, none, none, none] [.int ((s0 &&& (15 : Int32)))] G Post) ∧ (¬ (3 : Int32) ≤ p14 → J E 15 m_La_law 272 [some (.ref a0), some (.ref a1), some (.ref a2), some (.ref a3), none, some (.int p5), some (.int p6), some (.int p7), some (.int p8), none, some (.int p10), some (.int p11), some (.int p12), some (.int p13), some (.int p14), none, some (.int (((s0 >>> ((4 : Int32) &&& 31)) &&& (268435455 : Int32)))), none, none, none, none, none, none, none, none, none, none] [.int ((0 : Int32))] G Post)) : J E 15 m_La_law 246 [some (.ref a0), some (.ref a1), some (.ref a2), some (.ref a3), none, some (.int p5), some (.int p6), some (.int p7), some (.int p8), none, some (.int p10), some (.int p11), some (.int p12), some (.int p13), some (.int p14), none, none, none, none, none, none, none, none, none, none, none, none] [.int s0] G Post := by
  refine j_istore (L' := [some (.ref a0), some (.ref a1), some (.ref a2), some (.ref a3), none, some (.int p5), some (.int p6), some (.int p7), some (.int p8), none, some (.int p10), some (.int p11), some (.int p12), some (.int p13), some (.int p14), some (.int s0), none, none, none, none, none, none, none, none, none, none, none]) d_La_law_246 (by decide) rfl ?_
  refine j_iload d_La_law_248 rfl ?_
  refine j_iconst (v := 4) d_La_law_250 (by decide) ?_
  refine j_ishr d_La_law_251 ?_
  refine j_ldc kc_La_82 d_La_law_252 ?_
  refine j_iand d_La_law_254 ?_
  refine j_istore (L' := [some (.ref a0), some (.ref a1), some (.ref a2), some (.ref a3), none, some (.int p5), some (.int p6), some (.int p7), some (.int p8), none, some (.int p10), some (.int p11), some (.int p12), some (.int p13), some (.int p14), some (.int s0), some (.int (((s0 >>> ((4 : Int32) &&& 31)) &&& (268435455 : Int32)))), none, none, none, none, none, none, none, none, none, none]) d_La_law_255 (by decide) rfl ?_
  refine j_iload d_La_law_257 rfl ?_
  refine j_iconst (v := 3) d_La_law_259 (by decide) ?_
  obtain ⟨Ha, Hb⟩ := H
  refine j_icmp_ge (tgt := 267) d_La_law_260 (by decide) (fun c1 => ?_) (fun c2 => ?_)
  · have H := Ha c1
    refine j_iload d_La_law_267 rfl ?_
    refine j_bipush (v := 15) d_La_law_269 (by decide) ?_
    refine j_iand d_La_law_271 ?_
    refine j_forget (L' := [some (.ref a0), some (.ref a1), some (.ref a2), some (.ref a3), none, some (.int p5), some (.int p6), some (.int p7), some (.int p8), none, some (.int p10), some (.int p11), some (.int p12), some (.int p13), some (.int p14), none, some (.int (((s0 >>> ((4 : Int32) &&& 31)) &&& (268435455 : Int32)))), none, none, none, none, none, none, none, none, none, none]) ⟨Or.inr rfl, Or.inr rfl, Or.inr rfl, Or.inr rfl, Or.inl rfl, Or.inr rfl, Or.inr rfl, Or.inr rfl, Or.inr rfl, Or.inl rfl, Or.inr rfl, Or.inr rfl, Or.inr rfl, Or.inr rfl, Or.inr rfl, Or.inl rfl, Or.inr rfl, Or.inl rfl, Or.inl rfl, Or.inl rfl, Or.inl rfl, Or.inl rfl, Or.inl rfl, Or.inl rfl, Or.inl rfl, Or.inl rfl, Or.inl rfl, trivial⟩ ?_
    exact H
  · have H := Hb c2
    refine j_iconst (v := 0) d_La_law_263 (by decide) ?_
    refine j_goto (tgt := 272) d_La_law_264 (by decide) ?_
    refine j_forget (L' := [some (.ref a0), some (.ref a1), some (.ref a2), some (.ref a3), none, some (.int p5), some (.int p6), some (.int p7), some (.int p8), none, some (.int p10), some (.int p11), some (.int p12), some (.int p13), some (.int p14), none, some (.int (((s0 >>> ((4 : Int32) &&& 31)) &&& (268435455 : Int32)))), none, none, none, none, none, none, none, none, none, none]) ⟨Or.inr rfl, Or.inr rfl, Or.inr rfl, Or.inr rfl, Or.inl rfl, Or.inr rfl, Or.inr rfl, Or.inr rfl, Or.inr rfl, Or.inl rfl, Or.inr rfl, Or.inr rfl, Or.inr rfl, Or.inr rfl, Or.inr rfl, Or.inl rfl, Or.inr rfl, Or.inl rfl, Or.inl rfl, Or.inl rfl, Or.inl rfl, Or.inl rfl, Or.inl rfl, Or.inl rfl, Or.inl rfl, Or.inl rfl, Or.inl rfl, trivial⟩ ?_
    exact H
theorem wp_La_law_272 {E : EV} {G : GH} {Post : Res → GH → Prop} (a0 : Nat) (a1 : Nat) (a2 : Nat) (a3 : Nat) (p5 : Int32) (p6 : Int32) (p7 : Int32) (p8 : Int32) (p10 : Int32) (p11 : Int32) (p12 : Int32) (p13 : Int32) (p14 : Int32) (p16 : Int32) (s0 : Int32) (H : gT G a1 = 10 ∧ ∃ v2, AK E 1 m_St_watermark [.ref a1] G v2 ∧ ∃ v4, AK E 1 m_St_uncommitted [.ref a1] G v4 ∧ J E 15 m_La_law 292 [some (.ref a0), some (.ref a1), some (.ref a2), some (.ref a3), none, some (.int p5), some (.int p6), some (.int p7), some (.int p8), none, some (.int p10), some (.int p11), some (.int p12), some (.int p13), some (.int p14), none, some (.int p16), some (.int s0), some (.int ((p16 - p16 / (3 : Int32) * (3 : Int32)))), some (.int v2), some (.int v4), none, none, none, none, none, none] [] G Post) : J E 15 m_La_law 272 [some (.ref a0), some (.ref a1), some (.ref a2), some (.ref a3), none, some (.int p5), some (.int p6), some (.int p7), some (.int p8), none, some (.int p10), some (.int p11), some (.int p12), some (.int p13), some (.int p14), none, some (.int p16), none, none, none, none, none, none, none, none, none, none] [.int s0] G Post := by
  refine j_istore (L' := [some (.ref a0), some (.ref a1), some (.ref a2), some (.ref a3), none, some (.int p5), some (.int p6), some (.int p7), some (.int p8), none, some (.int p10), some (.int p11), some (.int p12), some (.int p13), some (.int p14), none, some (.int p16), some (.int s0), none, none, none, none, none, none, none, none, none]) d_La_law_272 (by decide) rfl ?_
  refine j_iload d_La_law_274 rfl ?_
  refine j_iconst (v := 3) d_La_law_276 (by decide) ?_
  refine j_irem d_La_law_277 (by decide) ?_
  refine j_istore (L' := [some (.ref a0), some (.ref a1), some (.ref a2), some (.ref a3), none, some (.int p5), some (.int p6), some (.int p7), some (.int p8), none, some (.int p10), some (.int p11), some (.int p12), some (.int p13), some (.int p14), none, some (.int p16), some (.int s0), some (.int ((p16 - p16 / (3 : Int32) * (3 : Int32)))), none, none, none, none, none, none, none, none]) d_La_law_278 (by decide) rfl ?_
  refine j_aload_n d_La_law_280 rfl ?_
  obtain ⟨t1, H⟩ := H
  obtain ⟨v2, k3, H⟩ := H
  refine j_callV (d' := 1) (ci := 9) (As := []) (rest := []) (b := a1) cv_La_68 me_St_watermark rfl (by decide) rfl rfl t1 rfl rfl (Nat.le_of_ble_eq_true rfl) d_La_law_281 (by decide) rfl (k3 _ ?_)
  show J E 15 m_La_law 284 [some (.ref a0), some (.ref a1), some (.ref a2), some (.ref a3), none, some (.int p5), some (.int p6), some (.int p7), some (.int p8), none, some (.int p10), some (.int p11), some (.int p12), some (.int p13), some (.int p14), none, some (.int p16), some (.int s0), some (.int ((p16 - p16 / (3 : Int32) * (3 : Int32)))), none, none, none, none, none, none, none, none] [.int v2] G Post
  refine j_istore (L' := [some (.ref a0), some (.ref a1), some (.ref a2), some (.ref a3), none, some (.int p5), some (.int p6), some (.int p7), some (.int p8), none, some (.int p10), some (.int p11), some (.int p12), some (.int p13), some (.int p14), none, some (.int p16), some (.int s0), some (.int ((p16 - p16 / (3 : Int32) * (3 : Int32)))), some (.int v2), none, none, none, none, none, none, none]) d_La_law_284 (by decide) rfl ?_
  refine j_aload_n d_La_law_286 rfl ?_
  obtain ⟨v4, k5, H⟩ := H
  refine j_callV (d' := 1) (ci := 9) (As := []) (rest := []) (b := a1) cv_La_77 me_St_uncommitted rfl (by decide) rfl rfl t1 rfl rfl (Nat.le_of_ble_eq_true rfl) d_La_law_287 (by decide) rfl (k5 _ ?_)
  show J E 15 m_La_law 290 [some (.ref a0), some (.ref a1), some (.ref a2), some (.ref a3), none, some (.int p5), some (.int p6), some (.int p7), some (.int p8), none, some (.int p10), some (.int p11), some (.int p12), some (.int p13), some (.int p14), none, some (.int p16), some (.int s0), some (.int ((p16 - p16 / (3 : Int32) * (3 : Int32)))), some (.int v2), none, none, none, none, none, none, none] [.int v4] G Post
  refine j_istore (L' := [some (.ref a0), some (.ref a1), some (.ref a2), some (.ref a3), none, some (.int p5), some (.int p6), some (.int p7), some (.int p8), none, some (.int p10), some (.int p11), some (.int p12), some (.int p13), some (.int p14), none, some (.int p16), some (.int s0), some (.int ((p16 - p16 / (3 : Int32) * (3 : Int32)))), some (.int v2), some (.int v4), none, none, none, none, none, none]) d_La_law_290 (by decide) rfl ?_
  exact H
theorem wp_La_law_292 {E : EV} {G : GH} {Post : Res → GH → Prop} (a0 : Nat) (a1 : Nat) (a2 : Nat) (a3 : Nat) (p5 : Int32) (p6 : Int32) (p7 : Int32) (p8 : Int32) (p10 : Int32) (p11 : Int32) (p12 : Int32) (p13 : Int32) (p14 : Int32) (p16 : Int32) (p17 : Int32) (p18 : Int32) (p19 : Int32) (p20 : Int32) (H : ((3 : Int32) ≤ p17 → ((7 : Int32) ≤ p17 → ((12 : Int32) ≤ p17 → (¬ p17 = (12 : Int32) → (¬ p17 = (13 : Int32) → (¬ p17 = (14 : Int32) → (¬ ((p16 >>> ((4 : Int32) &&& 31)) &&& (1 : Int32)) = 0 → J E 15 m_La_law 975 [some (.ref a0), some (.ref a1), some (.ref a2), some (.ref a3), none, some (.int p5), some (.int p6), some (.int p7), some (.int p8), none, some (.int p10), some (.int p11), some (.int p12), some (.int p13), some (.int p14), none, some (.int p16), none, none, some (.int p19), some (.int p20), none, none, none, none, none, none] [.int ((0 : Int32))] G Post) ∧ (((p16 >>> ((4 : Int32) &&& 31)) &&& (1 : Int32)) = 0 → J E 15 m_La_law 975 [some (.ref a0), some (.ref a1), some (.ref a2), some (.ref a3), none, some (.int p5), some (.int p6), some (.int p7), some (.int p8), none, some (.int p10), some (.int p11), some (.int p12), some (.int p13), some (.int p14), none, some (.int p16), none, none, some (.int p19), some (.int p20), none, none, none, none, none, none] [.int ((1 : Int32))] G Post)) ∧ (p17 = (14 : Int32) → (¬ ((p16 >>> ((4 : Int32) &&& 31)) &&& (1 : Int32)) = (1 : Int32) → J E 15 m_La_law 911 [some (.ref a0), some (.ref a1), some (.ref a2), some (.ref a3), none, some (.int p5), some (.int p6), some (.int p7), some (.int p8), none, some (.int p10), some (.int p11), some (.int p12), some (.int p13), some (.int p14), none, some (.int p16), none, some (.int p18), some (.int p19), none, none, none, none, none, none, none] [.int ((0 : Int32))] G Post) ∧ (((p16 >>> ((4 : Int32) &&& 31)) &&& (1 : Int32)) = (1 : Int32) → J E 15 m_La_law 911 [some (.ref a0), some (.ref a1), some (.ref a2), some (.ref a3), none, some (.int p5), some (.int p6), some (.int p7), some (.int p8), none, some (.int p10), some (.int p11), some (.int p12), some (.int p13), some (.int p14), none, some (.int p16), none, some (.int p18), some (.int p19), none, none, none, none, none, none, none] [.int ((1 : Int32))] G Post))) ∧ (p17 = (13 : Int32) → Cl E 14 m_La_on [.ref a1, .int ((4 : Int32)), .int ((0 : Int32)), .int ((0 : Int32)), .int ((0 : Int32)), .int ((0 : Int32))] G (aft E 15 m_La_law 800 [some (.ref a0), some (.ref a1), some (.ref a2), some (.ref a3), none, some (.int p5), some (.int p6), some (.int p7), some (.int p8), none, some (.int p10), some (.int p11), some (.int p12), some (.int p13), some (.int p14), none, some (.int p16), none, none, some (.int p19), some (.int p20), none, none, none, none, none, none] [] Post))) ∧ (p17 = (12 : Int32) → Cl E 14 m_La_on [.ref a1, .int ((3 : Int32)), .int ((0 : Int32)), .int ((0 : Int32)), .int ((0 : Int32)), .int ((0 : Int32))] G (aft E 15 m_La_law 715 [some (.ref a0), some (.ref a1), some (.ref a2), some (.ref a3), none, some (.int p5), some (.int p6), some (.int p7), some (.int p8), none, some (.int p10), some (.int p11), some (.int p12), some (.int p13), some (.int p14), none, some (.int p16), none, none, some (.int p19), some (.int p20), none, none, none, none, none, none] [] Post))) ∧ (¬ (12 : Int32) ≤ p17 → gT G a1 = 10 ∧ ∃ v12, AK E 2 m_St_inChannel [.ref a1, .int p18] G v12 ∧ ∃ v14, AK E 1 m_St_dropped [.ref a1] G v14 ∧ ∃ v16, AK E 1 m_St_pairs [.ref a1] G v16 ∧ Cl E 14 m_La_on [.ref a1, .int ((2 : Int32)), .int p18, .int ((0 : Int32)), .int ((0 : Int32)), .int ((0 : Int32))] G (aft E 15 m_La_law 549 [some (.ref a0), some (.ref a1), some (.ref a2), some (.ref a3), none, some (.int p5), some (.int p6), some (.int p7), some (.int p8), none, some (.int p10), some (.int p11), some (.int p12), some (.int p13), some (.int p14), none, some (.int p16), none, some (.int p18), some (.int p19), some (.int p20), none, some (.int v12), some (.int v14), some (.int v16), none, none] [] Post))) ∧ (¬ (7 : Int32) ≤ p17 → gT G a1 = 10 ∧ ∃ v21, AK E 2 m_St_offset [.ref a1, .int p18] G v21 ∧ ∃ v23, AK E 2 m_St_inChannel [.ref a1, .int p18] G v23 ∧ Cl E 14 m_La_on [.ref a1, .int ((1 : Int32)), .int p18, .int ((0 : Int32)), .int ((0 : Int32)), .int ((0 : Int32))] G (aft E 15 m_La_law 449 [some (.ref a0), some (.ref a1), some (.ref a2), some (.ref a3), none, some (.int p5), some (.int p6), some (.int p7), some (.int p8), none, some (.int p10), some (.int p11), some (.int p12), some (.int p13), some (.int p14), none, some (.int p16), none, some (.int p18), some (.int p19), none, none, some (.int v21), some (.int v23), none, none, none] [] Post))) ∧ (¬ (3 : Int32) ≤ p17 → (¬ ((p16 >>> ((2 : Int32) &&& 31)) &&& (7 : Int32)) = 0 → J E 15 m_La_law 335 [some (.ref a0), some (.ref a1), some (.ref a2), some (.ref a3), none, some (.int p5), some (.int p6), some (.int p7), some (.int p8), none, some (.int p10), some (.int p11), some (.int p12), some (.int p13), some (.int p14), none, some (.int p16), none, some (.int p18), some (.int p19), none, none, none, none, none, none, none] [.int (((((5 : Int32) * p14) + ((p16 >>> ((5 : Int32) &&& 31)) - (p16 >>> ((5 : Int32) &&& 31)) / (50 : Int32) * (50 : Int32))) - (((5 : Int32) * p14) + ((p16 >>> ((5 : Int32) &&& 31)) - (p16 >>> ((5 : Int32) &&& 31)) / (50 : Int32) * (50 : Int32))) / (1000 : Int32) * (1000 : Int32)))] G Post) ∧ (((p16 >>> ((2 : Int32) &&& 31)) &&& (7 : Int32)) = 0 → J E 15 m_La_law 335 [some (.ref a0), some (.ref a1), some (.ref a2), some (.ref a3), none, some (.int p5), some (.int p6), some (.int p7), some (.int p8), none, some (.int p10), some (.int p11), some (.int p12), some (.int p13), some (.int p14), none, some (.int p16), none, some (.int p18), some (.int p19), none, none, none, none, none, none, none] [.int (((p16 >>> ((5 : Int32) &&& 31)) - (p16 >>> ((5 : Int32) &&& 31)) / (1000 : Int32) * (1000 : Int32)))] G Post))) : J E 15 m_La_law 292 [some (.ref a0), some (.ref a1), some (.ref a2), some (.ref a3), none, some (.int p5), some (.int p6), some (.int p7), some (.int p8), none, some (.int p10), some (.int p11), some (.int p12), some (.int p13), some (.int p14), none, some (.int p16), some (.int p17), some (.int p18), some (.int p19), some (.int p20), none, none, none, none, none, none] [] G Post := by
  refine j_iload d_La_law_292 rfl ?_
  refine j_iconst (v := 3) d_La_law_294 (by decide) ?_
  obtain ⟨Ha, Hb⟩ := H
  refine j_icmp_ge (tgt := 419) d_La_law_295 (by decide) (fun c29 => ?_) (fun c30 => ?_)
  · have H := Ha c29
    refine j_iload d_La_law_419 rfl ?_
    refine j_bipush (v := 7) d_La_law_421 (by decide) ?_
    obtain ⟨Ha, Hb⟩ := H
    refine j_icmp_ge (tgt := 515) d_La_law_423 (by decide) (fun c25 => ?_) (fun c26 => ?_)
    · have H := Ha c25
      refine j_iload d_La_law_515 rfl ?_
      refine j_bipush (v := 12) d_La_law_517 (by decide) ?_
      obtain ⟨Ha, Hb⟩ := H
      refine j_icmp_ge (tgt := 702) d_La_law_519 (by decide) (fun c18 => ?_) (fun c19 => ?_)
      · have H := Ha c18
        refine j_iload d_La_law_702 rfl ?_
        refine j_bipush (v := 12) d_La_law_704 (by decide) ?_
        obtain ⟨Ha, Hb⟩ := H
        refine j_icmp_ne (tgt := 787) d_La_law_706 (by decide) (fun c9 => ?_) (fun c10 => ?_)
        · have H := Ha c9
          refine j_iload d_La_law_787 rfl ?_
          refine j_bipush (v := 13) d_La_law_789 (by decide) ?_
          obtain ⟨Ha, Hb⟩ := H
          refine j_icmp_ne (tgt := 889) d_La_law_791 (by decide) (fun c7 => ?_) (fun c8 => ?_)
          · have H := Ha c7
            refine j_iload d_La_law_889 rfl ?_
            refine j_bipush (v := 14) d_La_law_891 (by decide) ?_
            obtain ⟨Ha, Hb⟩ := H
            refine j_icmp_ne (tgt := 961) d_La_law_893 (by decide) (fun c5 => ?_) (fun c6 => ?_)
            · have H := Ha c5
              refine j_iload d_La_law_961 rfl ?_
              refine j_iconst (v := 4) d_La_law_963 (by decide) ?_
              refine j_ishr d_La_law_964 ?_
              refine j_iconst (v := 1) d_La_law_965 (by decide) ?_
              refine j_iand d_La_law_966 ?_
              obtain ⟨Ha, Hb⟩ := H
              refine j_if_ne (tgt := 974) d_La_law_967 (by decide) (fun c1 => ?_) (fun c2 => ?_)
              · have H := Ha c1
                refine j_iconst (v := 0) d_La_law_974 (by decide) ?_
                refine j_forget (L' := [some (.ref a0), some (.ref a1), some (.ref a2), some (.ref a3), none, some (.int p5), some (.int p6), some (.int p7), some (.int p8), none, some (.int p10), some (.int p11), some (.int p12), some (.int p13), some (.int p14), none, some (.int p16), none, none, some (.int p19), some (.int p20), none, none, none, none, none, none]) ⟨Or.inr rfl, Or.inr rfl, Or.inr rfl, Or.inr rfl, Or.inl rfl, Or.inr rfl, Or.inr rfl, Or.inr rfl, Or.inr rfl, Or.inl rfl, Or.inr rfl, Or.inr rfl, Or.inr rfl, Or.inr rfl, Or.inr rfl, Or.inl rfl, Or.inr rfl, Or.inl rfl, Or.inl rfl, Or.inr rfl, Or.inr rfl, Or.inl rfl, Or.inl rfl, Or.inl rfl, Or.inl rfl, Or.inl rfl, Or.inl rfl, trivial⟩ ?_
                exact H
              · have H := Hb c2
                refine j_iconst (v := 1) d_La_law_970 (by decide) ?_
                refine j_goto (tgt := 975) d_La_law_971 (by decide) ?_
                refine j_forget (L' := [some (.ref a0), some (.ref a1), some (.ref a2), some (.ref a3), none, some (.int p5), some (.int p6), some (.int p7), some (.int p8), none, some (.int p10), some (.int p11), some (.int p12), some (.int p13), some (.int p14), none, some (.int p16), none, none, some (.int p19), some (.int p20), none, none, none, none, none, none]) ⟨Or.inr rfl, Or.inr rfl, Or.inr rfl, Or.inr rfl, Or.inl rfl, Or.inr rfl, Or.inr rfl, Or.inr rfl, Or.inr rfl, Or.inl rfl, Or.inr rfl, Or.inr rfl, Or.inr rfl, Or.inr rfl, Or.inr rfl, Or.inl rfl, Or.inr rfl, Or.inl rfl, Or.inl rfl, Or.inr rfl, Or.inr rfl, Or.inl rfl, Or.inl rfl, Or.inl rfl, Or.inl rfl, Or.inl rfl, Or.inl rfl, trivial⟩ ?_
                exact H
            · have H := Hb c6
              refine j_iload d_La_law_896 rfl ?_
              refine j_iconst (v := 4) d_La_law_898 (by decide) ?_
              refine j_ishr d_La_law_899 ?_
              refine j_iconst (v := 1) d_La_law_900 (by decide) ?_
              refine j_iand d_La_law_901 ?_
              refine j_iconst (v := 1) d_La_law_902 (by decide) ?_
              obtain ⟨Ha, Hb⟩ := H
              refine j_icmp_ne (tgt := 910) d_La_law_903 (by decide) (fun c3 => ?_) (fun c4 => ?_)
              · have H := Ha c3
                refine j_iconst (v := 0) d_La_law_910 (by decide) ?_
                refine j_forget (L' := [some (.ref a0), some (.ref a1), some (.ref a2), some (.ref a3), none, some (.int p5), some (.int p6), some (.int p7), some (.int p8), none, some (.int p10), some (.int p11), some (.int p12), some (.int p13), some (.int p14), none, some (.int p16), none, some (.int p18), some (.int p19), none, none, none, none, none, none, none]) ⟨Or.inr rfl, Or.inr rfl, Or.inr rfl, Or.inr rfl, Or.inl rfl, Or.inr rfl, Or.inr rfl, Or.inr rfl, Or.inr rfl, Or.inl rfl, Or.inr rfl, Or.inr rfl, Or.inr rfl, Or.inr rfl, Or.inr rfl, Or.inl rfl, Or.inr rfl, Or.inl rfl, Or.inr rfl, Or.inr rfl, Or.inl rfl, Or.inl rfl, Or.inl rfl, Or.inl rfl, Or.inl rfl, Or.inl rfl, Or.inl rfl, trivial⟩ ?_
                exact H
              · have H := Hb c4
                refine j_iconst (v := 1) d_La_law_906 (by decide) ?_
                refine j_goto (tgt := 911) d_La_law_907 (by decide) ?_
                refine j_forget (L' := [some (.ref a0), some (.ref a1), some (.ref a2), some (.ref a3), none, some (.int p5), some (.int p6), some (.int p7), some (.int p8), none, some (.int p10), some (.int p11), some (.int p12), some (.int p13), some (.int p14), none, some (.int p16), none, some (.int p18), some (.int p19), none, none, none, none, none, none, none]) ⟨Or.inr rfl, Or.inr rfl, Or.inr rfl, Or.inr rfl, Or.inl rfl, Or.inr rfl, Or.inr rfl, Or.inr rfl, Or.inr rfl, Or.inl rfl, Or.inr rfl, Or.inr rfl, Or.inr rfl, Or.inr rfl, Or.inr rfl, Or.inl rfl, Or.inr rfl, Or.inl rfl, Or.inr rfl, Or.inr rfl, Or.inl rfl, Or.inl rfl, Or.inl rfl, Or.inl rfl, Or.inl rfl, Or.inl rfl, Or.inl rfl, trivial⟩ ?_
                exact H
          · have H := Hb c8
            refine j_aload_n d_La_law_794 rfl ?_
            refine j_iconst (v := 4) d_La_law_795 (by decide) ?_
            refine j_iconst (v := 0) d_La_law_796 (by decide) ?_
            refine j_iconst (v := 0) d_La_law_797 (by decide) ?_
            refine j_iconst (v := 0) d_La_law_798 (by decide) ?_
            refine j_iconst (v := 0) d_La_law_799 (by decide) ?_
            refine j_forget (L' := [some (.ref a0), some (.ref a1), some (.ref a2), some (.ref a3), none, some (.int p5), some (.int p6), some (.int p7), some (.int p8), none, some (.int p10), some (.int p11), some (.int p12), some (.int p13), some (.int p14), none, some (.int p16), none, none, some (.int p19), some (.int p20), none, none, none, none, none, none]) ⟨Or.inr rfl, Or.inr rfl, Or.inr rfl, Or.inr rfl, Or.inl rfl, Or.inr rfl, Or.inr rfl, Or.inr rfl, Or.inr rfl, Or.inl rfl, Or.inr rfl, Or.inr rfl, Or.inr rfl, Or.inr rfl, Or.inr rfl, Or.inl rfl, Or.inr rfl, Or.inl rfl, Or.inl rfl, Or.inr rfl, Or.inr rfl, Or.inl rfl, Or.inl rfl, Or.inl rfl, Or.inl rfl, Or.inl rfl, Or.inl rfl, trivial⟩ ?_
            exact j_callSX (d' := 14) (As := [.ref a1, .int ((4 : Int32)), .int ((0 : Int32)), .int ((0 : Int32)), .int ((0 : Int32)), .int ((0 : Int32))]) (rest := []) cs_La_83 me_La_on ⟨_, _, rfl⟩ (by decide) rfl rfl (Nat.le_of_ble_eq_true rfl) d_La_law_800 (by decide) rfl H
        · have H := Hb c10
          refine j_aload_n d_La_law_709 rfl ?_
          refine j_iconst (v := 3) d_La_law_710 (by decide) ?_
          refine j_iconst (v := 0) d_La_law_711 (by decide) ?_
          refine j_iconst (v := 0) d_La_law_712 (by decide) ?_
          refine j_iconst (v := 0) d_La_law_713 (by decide) ?_
          refine j_iconst (v := 0) d_La_law_714 (by decide) ?_
          refine j_forget (L' := [some (.ref a0), some (.ref a1), some (.ref a2), some (.ref a3), none, some (.int p5), some (.int p6), some (.int p7), some (.int p8), none, some (.int p10), some (.int p11), some (.int p12), some (.int p13), some (.int p14), none, some (.int p16), none, none, some (.int p19), some (.int p20), none, none, none, none, none, none]) ⟨Or.inr rfl, Or.inr rfl, Or.inr rfl, Or.inr rfl, Or.inl rfl, Or.inr rfl, Or.inr rfl, Or.inr rfl, Or.inr rfl, Or.inl rfl, Or.inr rfl, Or.inr rfl, Or.inr rfl, Or.inr rfl, Or.inr rfl, Or.inl rfl, Or.inr rfl, Or.inl rfl, Or.inl rfl, Or.inr rfl, Or.inr rfl, Or.inl rfl, Or.inl rfl, Or.inl rfl, Or.inl rfl, Or.inl rfl, Or.inl rfl, trivial⟩ ?_
          exact j_callSX (d' := 14) (As := [.ref a1, .int ((3 : Int32)), .int ((0 : Int32)), .int ((0 : Int32)), .int ((0 : Int32)), .int ((0 : Int32))]) (rest := []) cs_La_83 me_La_on ⟨_, _, rfl⟩ (by decide) rfl rfl (Nat.le_of_ble_eq_true rfl) d_La_law_715 (by decide) rfl H
      · have H := Hb c19
        refine j_aload_n d_La_law_522 rfl ?_
        refine j_iload d_La_law_523 rfl ?_
        obtain ⟨t11, H⟩ := H
        obtain ⟨v12, k13, H⟩ := H
        refine j_callV (d' := 2) (ci := 9) (As := [.int p18]) (rest := []) (b := a1) cv_La_62 me_St_inChannel rfl (by decide) rfl rfl t11 rfl rfl (Nat.le_of_ble_eq_true rfl) d_La_law_525 (by decide) rfl (k13 _ ?_)
        show J E 15 m_La_law 528 [some (.ref a0), some (.ref a1), some (.ref a2), some (.ref a3), none, some (.int p5), some (.int p6), some (.int p7), some (.int p8), none, some (.int p10), some (.int p11), some (.int p12), some (.int p13), some (.int p14), none, some (.int p16), some (.int p17), some (.int p18), some (.int p19), some (.int p20), none, none, none, none, none, none] [.int v12] G Post
        refine j_istore (L' := [some (.ref a0), some (.ref a1), some (.ref a2), some (.ref a3), none, some (.int p5), some (.int p6), some (.int p7), some (.int p8), none, some (.int p10), some (.int p11), some (.int p12), some (.int p13), some (.int p14), none, some (.int p16), some (.int p17), some (.int p18), some (.int p19), some (.int p20), none, some (.int v12), none, none, none, none]) d_La_law_528 (by decide) rfl ?_
        refine j_aload_n d_La_law_530 rfl ?_
        obtain ⟨v14, k15, H⟩ := H
        refine j_callV (d' := 1) (ci := 9) (As := []) (rest := []) (b := a1) cv_La_86 me_St_dropped rfl (by decide) rfl rfl t11 rfl rfl (Nat.le_of_ble_eq_true rfl) d_La_law_531 (by decide) rfl (k15 _ ?_)
        show J E 15 m_La_law 534 [some (.ref a0), some (.ref a1), some (.ref a2), some (.ref a3), none, some (.int p5), some (.int p6), some (.int p7), some (.int p8), none, some (.int p10), some (.int p11), some (.int p12), some (.int p13), some (.int p14), none, some (.int p16), some (.int p17), some (.int p18), some (.int p19), some (.int p20), none, some (.int v12), none, none, none, none] [.int v14] G Post
        refine j_istore (L' := [some (.ref a0), some (.ref a1), some (.ref a2), some (.ref a3), none, some (.int p5), some (.int p6), some (.int p7), some (.int p8), none, some (.int p10), some (.int p11), some (.int p12), some (.int p13), some (.int p14), none, some (.int p16), some (.int p17), some (.int p18), some (.int p19), some (.int p20), none, some (.int v12), some (.int v14), none, none, none]) d_La_law_534 (by decide) rfl ?_
        refine j_aload_n d_La_law_536 rfl ?_
        obtain ⟨v16, k17, H⟩ := H
        refine j_callV (d' := 1) (ci := 9) (As := []) (rest := []) (b := a1) cv_La_52 me_St_pairs rfl (by decide) rfl rfl t11 rfl rfl (Nat.le_of_ble_eq_true rfl) d_La_law_537 (by decide) rfl (k17 _ ?_)
        show J E 15 m_La_law 540 [some (.ref a0), some (.ref a1), some (.ref a2), some (.ref a3), none, some (.int p5), some (.int p6), some (.int p7), some (.int p8), none, some (.int p10), some (.int p11), some (.int p12), some (.int p13), some (.int p14), none, some (.int p16), some (.int p17), some (.int p18), some (.int p19), some (.int p20), none, some (.int v12), some (.int v14), none, none, none] [.int v16] G Post
        refine j_istore (L' := [some (.ref a0), some (.ref a1), some (.ref a2), some (.ref a3), none, some (.int p5), some (.int p6), some (.int p7), some (.int p8), none, some (.int p10), some (.int p11), some (.int p12), some (.int p13), some (.int p14), none, some (.int p16), some (.int p17), some (.int p18), some (.int p19), some (.int p20), none, some (.int v12), some (.int v14), some (.int v16), none, none]) d_La_law_540 (by decide) rfl ?_
        refine j_aload_n d_La_law_542 rfl ?_
        refine j_iconst (v := 2) d_La_law_543 (by decide) ?_
        refine j_iload d_La_law_544 rfl ?_
        refine j_iconst (v := 0) d_La_law_546 (by decide) ?_
        refine j_iconst (v := 0) d_La_law_547 (by decide) ?_
        refine j_iconst (v := 0) d_La_law_548 (by decide) ?_
        refine j_forget (L' := [some (.ref a0), some (.ref a1), some (.ref a2), some (.ref a3), none, some (.int p5), some (.int p6), some (.int p7), some (.int p8), none, some (.int p10), some (.int p11), some (.int p12), some (.int p13), some (.int p14), none, some (.int p16), none, some (.int p18), some (.int p19), some (.int p20), none, some (.int v12), some (.int v14), some (.int v16), none, none]) ⟨Or.inr rfl, Or.inr rfl, Or.inr rfl, Or.inr rfl, Or.inl rfl, Or.inr rfl, Or.inr rfl, Or.inr rfl, Or.inr rfl, Or.inl rfl, Or.inr rfl, Or.inr rfl, Or.inr rfl, Or.inr rfl, Or.inr rfl, Or.inl rfl, Or.inr rfl, Or.inl rfl, Or.inr rfl, Or.inr rfl, Or.inr rfl, Or.inl rfl, Or.inr rfl, Or.inr rfl, Or.inr rfl, Or.inl rfl, Or.inl rfl, trivial⟩ ?_
        exact j_callSX (d' := 14) (As := [.ref a1, .int ((2 : Int32)), .int p18, .int ((0 : Int32)), .int ((0 : Int32)), .int ((0 : Int32))]) (rest := []) cs_La_83 me_La_on ⟨_, _, rfl⟩ (by decide) rfl rfl (Nat.le_of_ble_eq_true rfl) d_La_law_549 (by decide) rfl H
    · have H := Hb c26
      refine j_aload_n d_La_law_426 rfl ?_
      refine j_iload d_La_law_427 rfl ?_
      obtain ⟨t20, H⟩ := H
      obtain ⟨v21, k22, H⟩ := H
      refine j_callV (d' := 2) (ci := 9) (As := [.int p18]) (rest := []) (b := a1) cv_La_65 me_St_offset rfl (by decide) rfl rfl t20 rfl rfl (Nat.le_of_ble_eq_true rfl) d_La_law_429 (by decide) rfl (k22 _ ?_)
      show J E 15 m_La_law 432 [some (.ref a0), some (.ref a1), some (.ref a2), some (.ref a3), none, some (.int p5), some (.int p6), some (.int p7), some (.int p8), none, some (.int p10), some (.int p11), some (.int p12), some (.int p13), some (.int p14), none, some (.int p16), some (.int p17), some (.int p18), some (.int p19), some (.int p20), none, none, none, none, none, none] [.int v21] G Post
      refine j_istore (L' := [some (.ref a0), some (.ref a1), some (.ref a2), some (.ref a3), none, some (.int p5), some (.int p6), some (.int p7), some (.int p8), none, some (.int p10), some (.int p11), some (.int p12), some (.int p13), some (.int p14), none, some (.int p16), some (.int p17), some (.int p18), some (.int p19), some (.int p20), none, some (.int v21), none, none, none, none]) d_La_law_432 (by decide) rfl ?_
      refine j_aload_n d_La_law_434 rfl ?_
      refine j_iload d_La_law_435 rfl ?_
      obtain ⟨v23, k24, H⟩ := H
      refine j_callV (d' := 2) (ci := 9) (As := [.int p18]) (rest := []) (b := a1) cv_La_62 me_St_inChannel rfl (by decide) rfl rfl t20 rfl rfl (Nat.le_of_ble_eq_true rfl) d_La_law_437 (by decide) rfl (k24 _ ?_)
      show J E 15 m_La_law 440 [some (.ref a0), some (.ref a1), some (.ref a2), some (.ref a3), none, some (.int p5), some (.int p6), some (.int p7), some (.int p8), none, some (.int p10), some (.int p11), some (.int p12), some (.int p13), some (.int p14), none, some (.int p16), some (.int p17), some (.int p18), some (.int p19), some (.int p20), none, some (.int v21), none, none, none, none] [.int v23] G Post
      refine j_istore (L' := [some (.ref a0), some (.ref a1), some (.ref a2), some (.ref a3), none, some (.int p5), some (.int p6), some (.int p7), some (.int p8), none, some (.int p10), some (.int p11), some (.int p12), some (.int p13), some (.int p14), none, some (.int p16), some (.int p17), some (.int p18), some (.int p19), some (.int p20), none, some (.int v21), some (.int v23), none, none, none]) d_La_law_440 (by decide) rfl ?_
      refine j_aload_n d_La_law_442 rfl ?_
      refine j_iconst (v := 1) d_La_law_443 (by decide) ?_
      refine j_iload d_La_law_444 rfl ?_
      refine j_iconst (v := 0) d_La_law_446 (by decide) ?_
      refine j_iconst (v := 0) d_La_law_447 (by decide) ?_
      refine j_iconst (v := 0) d_La_law_448 (by decide) ?_
      refine j_forget (L' := [some (.ref a0), some (.ref a1), some (.ref a2), some (.ref a3), none, some (.int p5), some (.int p6), some (.int p7), some (.int p8), none, some (.int p10), some (.int p11), some (.int p12), some (.int p13), some (.int p14), none, some (.int p16), none, some (.int p18), some (.int p19), none, none, some (.int v21), some (.int v23), none, none, none]) ⟨Or.inr rfl, Or.inr rfl, Or.inr rfl, Or.inr rfl, Or.inl rfl, Or.inr rfl, Or.inr rfl, Or.inr rfl, Or.inr rfl, Or.inl rfl, Or.inr rfl, Or.inr rfl, Or.inr rfl, Or.inr rfl, Or.inr rfl, Or.inl rfl, Or.inr rfl, Or.inl rfl, Or.inr rfl, Or.inr rfl, Or.inl rfl, Or.inl rfl, Or.inr rfl, Or.inr rfl, Or.inl rfl, Or.inl rfl, Or.inl rfl, trivial⟩ ?_
      exact j_callSX (d' := 14) (As := [.ref a1, .int ((1 : Int32)), .int p18, .int ((0 : Int32)), .int ((0 : Int32)), .int ((0 : Int32))]) (rest := []) cs_La_83 me_La_on ⟨_, _, rfl⟩ (by decide) rfl rfl (Nat.le_of_ble_eq_true rfl) d_La_law_449 (by decide) rfl H
  · have H := Hb c30
    refine j_iload d_La_law_298 rfl ?_
    refine j_iconst (v := 2) d_La_law_300 (by decide) ?_
    refine j_ishr d_La_law_301 ?_
    refine j_bipush (v := 7) d_La_law_302 (by decide) ?_
    refine j_iand d_La_law_304 ?_
    obtain ⟨Ha, Hb⟩ := H
    refine j_if_ne (tgt := 319) d_La_law_305 (by decide) (fun c27 => ?_) (fun c28 => ?_)
    · have H := Ha c27
      refine j_iconst (v := 5) d_La_law_319 (by decide) ?_
      refine j_iload d_La_law_320 rfl ?_
      refine j_imul d_La_law_322 ?_
      refine j_iload d_La_law_323 rfl ?_
      refine j_iconst (v := 5) d_La_law_325 (by decide) ?_
      refine j_ishr d_La_law_326 ?_
      refine j_bipush (v := 50) d_La_law_327 (by decide) ?_
      refine j_irem d_La_law_329 (by decide) ?_
      refine j_iadd d_La_law_330 ?_
      refine j_sipush (v := 1000) d_La_law_331 (by decide) ?_
      refine j_irem d_La_law_334 (by decide) ?_
      refine j_forget (L' := [some (.ref a0), some (.ref a1), some (.ref a2), some (.ref a3), none, some (.int p5), some (.int p6), some (.int p7), some (.int p8), none, some (.int p10), some (.int p11), some (.int p12), some (.int p13), some (.int p14), none, some (.int p16), none, some (.int p18), some (.int p19), none, none, none, none, none, none, none]) ⟨Or.inr rfl, Or.inr rfl, Or.inr rfl, Or.inr rfl, Or.inl rfl, Or.inr rfl, Or.inr rfl, Or.inr rfl, Or.inr rfl, Or.inl rfl, Or.inr rfl, Or.inr rfl, Or.inr rfl, Or.inr rfl, Or.inr rfl, Or.inl rfl, Or.inr rfl, Or.inl rfl, Or.inr rfl, Or.inr rfl, Or.inl rfl, Or.inl rfl, Or.inl rfl, Or.inl rfl, Or.inl rfl, Or.inl rfl, Or.inl rfl, trivial⟩ ?_
      exact H
    · have H := Hb c28
      refine j_iload d_La_law_308 rfl ?_
      refine j_iconst (v := 5) d_La_law_310 (by decide) ?_
      refine j_ishr d_La_law_311 ?_
      refine j_sipush (v := 1000) d_La_law_312 (by decide) ?_
      refine j_irem d_La_law_315 (by decide) ?_
      refine j_goto (tgt := 335) d_La_law_316 (by decide) ?_
      refine j_forget (L' := [some (.ref a0), some (.ref a1), some (.ref a2), some (.ref a3), none, some (.int p5), some (.int p6), some (.int p7), some (.int p8), none, some (.int p10), some (.int p11), some (.int p12), some (.int p13), some (.int p14), none, some (.int p16), none, some (.int p18), some (.int p19), none, none, none, none, none, none, none]) ⟨Or.inr rfl, Or.inr rfl, Or.inr rfl, Or.inr rfl, Or.inl rfl, Or.inr rfl, Or.inr rfl, Or.inr rfl, Or.inr rfl, Or.inl rfl, Or.inr rfl, Or.inr rfl, Or.inr rfl, Or.inr rfl, Or.inr rfl, Or.inl rfl, Or.inr rfl, Or.inl rfl, Or.inr rfl, Or.inr rfl, Or.inl rfl, Or.inl rfl, Or.inl rfl, Or.inl rfl, Or.inl rfl, Or.inl rfl, Or.inl rfl, trivial⟩ ?_
      exact H
theorem wp_La_law_975 {E : EV} {G : GH} {Post : Res → GH → Prop} (a0 : Nat) (a1 : Nat) (a2 : Nat) (a3 : Nat) (p5 : Int32) (p6 : Int32) (p7 : Int32) (p8 : Int32) (p10 : Int32) (p11 : Int32) (p12 : Int32) (p13 : Int32) (p14 : Int32) (p16 : Int32) (p19 : Int32) (p20 : Int32) (s0 : Int32) (H : (s0 = 0 → Cl E 14 m_La_on [.ref a1, .int ((5 : Int32)), .int (((1 : Int32) + ((p16 >>> ((5 : Int32) &&& 31)) - (p16 >>> ((5 : Int32) &&& 31)) / (3 : Int32) * (3 : Int32)))), .int ((0 : Int32)), .int ((0 : Int32)), .int ((0 : Int32))] G (aft E 15 m_La_law 1006 [some (.ref a0), some (.ref a1), some (.ref a2), some (.ref a3), none, some (.int p5), some (.int p6), some (.int p7), some (.int p8), none, some (.int p10), some (.int p11), some (.int p12), some (.int p13), some (.int p14), none, some (.int p16), none, none, some (.int p19), some (.int p20), none, some (.int s0), some (.int (((1 : Int32) + ((p16 >>> ((5 : Int32) &&& 31)) - (p16 >>> ((5 : Int32) &&& 31)) / (3 : Int32) * (3 : Int32))))), none, none, none] [] Post)) ∧ (¬ s0 = 0 → gT G a1 = 10 ∧ Cl E 11 m_St_fail [.ref a1] G (aft E 15 m_La_law 993 [some (.ref a0), some (.ref a1), some (.ref a2), some (.ref a3), none, some (.int p5), some (.int p6), some (.int p7), some (.int p8), none, some (.int p10), some (.int p11), some (.int p12), some (.int p13), some (.int p14), none, some (.int p16), none, none, some (.int p19), some (.int p20), none, some (.int s0), some (.int (((1 : Int32) + ((p16 >>> ((5 : Int32) &&& 31)) - (p16 >>> ((5 : Int32) &&& 31)) / (3 : Int32) * (3 : Int32))))), none, none, none] [] Post))) : J E 15 m_La_law 975 [some (.ref a0), some (.ref a1), some (.ref a2), some (.ref a3), none, some (.int p5), some (.int p6), some (.int p7), some (.int p8), none, some (.int p10), some (.int p11), some (.int p12), some (.int p13), some (.int p14), none, some (.int p16), none, none, some (.int p19), some (.int p20), none, none, none, none, none, none] [.int s0] G Post := by
  refine j_istore (L' := [some (.ref a0), some (.ref a1), some (.ref a2), some (.ref a3), none, some (.int p5), some (.int p6), some (.int p7), some (.int p8), none, some (.int p10), some (.int p11), some (.int p12), some (.int p13), some (.int p14), none, some (.int p16), none, none, some (.int p19), some (.int p20), none, some (.int s0), none, none, none, none]) d_La_law_975 (by decide) rfl ?_
  refine j_iconst (v := 1) d_La_law_977 (by decide) ?_
  refine j_iload d_La_law_978 rfl ?_
  refine j_iconst (v := 5) d_La_law_980 (by decide) ?_
  refine j_ishr d_La_law_981 ?_
  refine j_iconst (v := 3) d_La_law_982 (by decide) ?_
  refine j_irem d_La_law_983 (by decide) ?_
  refine j_iadd d_La_law_984 ?_
  refine j_istore (L' := [some (.ref a0), some (.ref a1), some (.ref a2), some (.ref a3), none, some (.int p5), some (.int p6), some (.int p7), some (.int p8), none, some (.int p10), some (.int p11), some (.int p12), some (.int p13), some (.int p14), none, some (.int p16), none, none, some (.int p19), some (.int p20), none, some (.int s0), some (.int (((1 : Int32) + ((p16 >>> ((5 : Int32) &&& 31)) - (p16 >>> ((5 : Int32) &&& 31)) / (3 : Int32) * (3 : Int32))))), none, none, none]) d_La_law_985 (by decide) rfl ?_
  refine j_iload d_La_law_987 rfl ?_
  obtain ⟨Ha, Hb⟩ := H
  refine j_if_eq (tgt := 999) d_La_law_989 (by decide) (fun c2 => ?_) (fun c3 => ?_)
  · have H := Ha c2
    refine j_aload_n d_La_law_999 rfl ?_
    refine j_iconst (v := 5) d_La_law_1000 (by decide) ?_
    refine j_iload d_La_law_1001 rfl ?_
    refine j_iconst (v := 0) d_La_law_1003 (by decide) ?_
    refine j_iconst (v := 0) d_La_law_1004 (by decide) ?_
    refine j_iconst (v := 0) d_La_law_1005 (by decide) ?_
    exact j_callSX (d' := 14) (As := [.ref a1, .int ((5 : Int32)), .int (((1 : Int32) + ((p16 >>> ((5 : Int32) &&& 31)) - (p16 >>> ((5 : Int32) &&& 31)) / (3 : Int32) * (3 : Int32)))), .int ((0 : Int32)), .int ((0 : Int32)), .int ((0 : Int32))]) (rest := []) cs_La_83 me_La_on ⟨_, _, rfl⟩ (by decide) rfl rfl (Nat.le_of_ble_eq_true rfl) d_La_law_1006 (by decide) rfl H
  · have H := Hb c3
    refine j_aload_n d_La_law_992 rfl ?_
    obtain ⟨t1, H⟩ := H
    exact j_callV (d' := 11) (ci := 9) (As := []) (rest := []) (b := a1) cv_La_93 me_St_fail rfl (by decide) rfl rfl t1 rfl rfl (Nat.le_of_ble_eq_true rfl) d_La_law_993 (by decide) rfl H
theorem wp_La_law_911 {E : EV} {G : GH} {Post : Res → GH → Prop} (a0 : Nat) (a1 : Nat) (a2 : Nat) (a3 : Nat) (p5 : Int32) (p6 : Int32) (p7 : Int32) (p8 : Int32) (p10 : Int32) (p11 : Int32) (p12 : Int32) (p13 : Int32) (p14 : Int32) (p16 : Int32) (p18 : Int32) (p19 : Int32) (s0 : Int32) (H : gT G a1 = 10 ∧ Cl E 10 m_St_idle [.ref a1, .int p18, .int s0] G (aft E 15 m_La_law 918 [some (.ref a0), some (.ref a1), some (.ref a2), some (.ref a3), none, some (.int p5), some (.int p6), some (.int p7), some (.int p8), none, some (.int p10), some (.int p11), some (.int p12), some (.int p13), some (.int p14), none, some (.int p16), none, some (.int p18), some (.int p19), none, none, some (.int s0), none, none, none, none] [] Post)) : J E 15 m_La_law 911 [some (.ref a0), some (.ref a1), some (.ref a2), some (.ref a3), none, some (.int p5), some (.int p6), some (.int p7), some (.int p8), none, some (.int p10), some (.int p11), some (.int p12), some (.int p13), some (.int p14), none, some (.int p16), none, some (.int p18), some (.int p19), none, none, none, none, none, none, none] [.int s0] G Post := by
  refine j_istore (L' := [some (.ref a0), some (.ref a1), some (.ref a2), some (.ref a3), none, some (.int p5), some (.int p6), some (.int p7), some (.int p8), none, some (.int p10), some (.int p11), some (.int p12), some (.int p13), some (.int p14), none, some (.int p16), none, some (.int p18), some (.int p19), none, none, some (.int s0), none, none, none, none]) d_La_law_911 (by decide) rfl ?_
  refine j_aload_n d_La_law_913 rfl ?_
  refine j_iload d_La_law_914 rfl ?_
  refine j_iload d_La_law_916 rfl ?_
  obtain ⟨t1, H⟩ := H
  exact j_callV (d' := 10) (ci := 9) (As := [.int p18, .int s0]) (rest := []) (b := a1) cv_La_89 me_St_idle rfl (by decide) rfl rfl t1 rfl rfl (Nat.le_of_ble_eq_true rfl) d_La_law_918 (by decide) rfl H
theorem wp_La_law_803 {E : EV} {G : GH} {Post : Res → GH → Prop} (a0 : Nat) (a1 : Nat) (a2 : Nat) (a3 : Nat) (p5 : Int32) (p6 : Int32) (p7 : Int32) (p8 : Int32) (p10 : Int32) (p11 : Int32) (p12 : Int32) (p13 : Int32) (p14 : Int32) (p16 : Int32) (p19 : Int32) (p20 : Int32) (s0 : Int32) (H : (¬ s0 = (-13 : Int32) → (s0 < p10 → J E 15 m_La_law 869 [some (.ref a0), some (.ref a1), some (.ref a2), some (.ref a3), none, some (.int p5), some (.int p6), some (.int p7), some (.int p8), none, some (.int p10), some (.int p11), some (.int p12), some (.int p13), some (.int p14), none, some (.int p16), none, none, some (.int p19), none, some (.int s0), none, none, none, none, none] [] G Post) ∧ (¬ s0 < p10 → gT G a1 = 10 ∧ ∃ v2, AK E 1 m_St_uncommitted [.ref a1] G v2 ∧ (¬ v2 = (p20 - (s0 - p10)) → J E 15 m_La_law 869 [some (.ref a0), some (.ref a1), some (.ref a2), some (.ref a3), none, some (.int p5), some (.int p6), some (.int p7), some (.int p8), none, some (.int p10), some (.int p11), some (.int p12), some (.int p13), some (.int p14), none, some (.int p16), none, none, some (.int p19), none, some (.int s0), none, none, none, none, none] [] G Post) ∧ (v2 = (p20 - (s0 - p10)) → Cl E 14 m_La_on [.ref a1, .int ((4 : Int32)), .int ((0 : Int32)), .int ((0 : Int32)), .int ((0 : Int32)), .int ((0 : Int32))] G (aft E 15 m_La_law 857 [some (.ref a0), some (.ref a1), some (.ref a2), some (.ref a3), none, some (.int p5), some (.int p6), some (.int p7), some (.int p8), none, some (.int p10), some (.int p11), some (.int p12), some (.int p13), some (.int p14), none, some (.int p16), none, none, some (.int p19), none, some (.int s0), none, none, none, none, none] [] Post)))) ∧ (s0 = (-13 : Int32) → gT G a1 = 10 ∧ ∃ v9, AK E 1 m_St_uncommitted [.ref a1] G v9 ∧ (¬ v9 = p20 → J E 15 m_La_law 870 [some (.ref a0), some (.ref a1), some (.ref a2), some (.ref a3), none, some (.int p5), some (.int p6), some (.int p7), some (.int p8), none, some (.int p10), some (.int p11), some (.int p12), some (.int p13), some (.int p14), none, some (.int p16), none, none, some (.int p19), none, some (.int s0), none, none, none, none, none] [.int ((0 : Int32))] G Post) ∧ (v9 = p20 → J E 15 m_La_law 870 [some (.ref a0), some (.ref a1), some (.ref a2), some (.ref a3), none, some (.int p5), some (.int p6), some (.int p7), some (.int p8), none, some (.int p10), some (.int p11), some (.int p12), some (.int p13), some (.int p14), none, some (.int p16), none, none, some (.int p19), none, some (.int s0), none, none, none, none, none] [.int ((1 : Int32))] G Post))) : J E 15 m_La_law 803 [some (.ref a0), some (.ref a1), some (.ref a2), some (.ref a3), none, some (.int p5), some (.int p6), some (.int p7), some (.int p8), none, some (.int p10), some (.int p11), some (.int p12), some (.int p13), some (.int p14), none, some (.int p16), none, none, some (.int p19), some (.int p20), none, none, none, none, none, none] [.int s0] G Post := by
  refine j_istore (L' := [some (.ref a0), some (.ref a1), some (.ref a2), some (.ref a3), none, some (.int p5), some (.int p6), some (.int p7), some (.int p8), none, some (.int p10), some (.int p11), some (.int p12), some (.int p13), some (.int p14), none, some (.int p16), none, none, some (.int p19), some (.int p20), some (.int s0), none, none, none, none, none]) d_La_law_803 (by decide) rfl ?_
  refine j_iload d_La_law_805 rfl ?_
  refine j_bipush (v := -13) d_La_law_807 (by decide) ?_
  obtain ⟨Ha, Hb⟩ := H
  refine j_icmp_ne (tgt := 829) d_La_law_809 (by decide) (fun c13 => ?_) (fun c14 => ?_)
  · have H := Ha c13
    refine j_iload d_La_law_829 rfl ?_
    refine j_iload d_La_law_831 rfl ?_
    obtain ⟨Ha, Hb⟩ := H
    refine j_icmp_lt (tgt := 869) d_La_law_833 (by decide) (fun c6 => ?_) (fun c7 => ?_)
    · have H := Ha c6
      refine j_forget (L' := [some (.ref a0), some (.ref a1), some (.ref a2), some (.ref a3), none, some (.int p5), some (.int p6), some (.int p7), some (.int p8), none, some (.int p10), some (.int p11), some (.int p12), some (.int p13), some (.int p14), none, some (.int p16), none, none, some (.int p19), none, some (.int s0), none, none, none, none, none]) ⟨Or.inr rfl, Or.inr rfl, Or.inr rfl, Or.inr rfl, Or.inl rfl, Or.inr rfl, Or.inr rfl, Or.inr rfl, Or.inr rfl, Or.inl rfl, Or.inr rfl, Or.inr rfl, Or.inr rfl, Or.inr rfl, Or.inr rfl, Or.inl rfl, Or.inr rfl, Or.inl rfl, Or.inl rfl, Or.inr rfl, Or.inl rfl, Or.inr rfl, Or.inl rfl, Or.inl rfl, Or.inl rfl, Or.inl rfl, Or.inl rfl, trivial⟩ ?_
      exact H
    · have H := Hb c7
      refine j_aload_n d_La_law_836 rfl ?_
      obtain ⟨t1, H⟩ := H
      obtain ⟨v2, k3, H⟩ := H
      refine j_callV (d' := 1) (ci := 9) (As := []) (rest := []) (b := a1) cv_La_77 me_St_uncommitted rfl (by decide) rfl rfl t1 rfl rfl (Nat.le_of_ble_eq_true rfl) d_La_law_837 (by decide) rfl (k3 _ ?_)
      show J E 15 m_La_law 840 [some (.ref a0), some (.ref a1), some (.ref a2), some (.ref a3), none, some (.int p5), some (.int p6), some (.int p7), some (.int p8), none, some (.int p10), some (.int p11), some (.int p12), some (.int p13), some (.int p14), none, some (.int p16), none, none, some (.int p19), some (.int p20), some (.int s0), none, none, none, none, none] [.int v2] G Post
      refine j_iload d_La_law_840 rfl ?_
      refine j_iload d_La_law_842 rfl ?_
      refine j_iload d_La_law_844 rfl ?_
      refine j_isub d_La_law_846 ?_
      refine j_isub d_La_law_847 ?_
      obtain ⟨Ha, Hb⟩ := H
      refine j_icmp_ne (tgt := 869) d_La_law_848 (by decide) (fun c4 => ?_) (fun c5 => ?_)
      · have H := Ha c4
        refine j_forget (L' := [some (.ref a0), some (.ref a1), some (.ref a2), some (.ref a3), none, some (.int p5), some (.int p6), some (.int p7), some (.int p8), none, some (.int p10), some (.int p11), some (.int p12), some (.int p13), some (.int p14), none, some (.int p16), none, none, some (.int p19), none, some (.int s0), none, none, none, none, none]) ⟨Or.inr rfl, Or.inr rfl, Or.inr rfl, Or.inr rfl, Or.inl rfl, Or.inr rfl, Or.inr rfl, Or.inr rfl, Or.inr rfl, Or.inl rfl, Or.inr rfl, Or.inr rfl, Or.inr rfl, Or.inr rfl, Or.inr rfl, Or.inl rfl, Or.inr rfl, Or.inl rfl, Or.inl rfl, Or.inr rfl, Or.inl rfl, Or.inr rfl, Or.inl rfl, Or.inl rfl, Or.inl rfl, Or.inl rfl, Or.inl rfl, trivial⟩ ?_
        exact H
      · have H := Hb c5
        refine j_aload_n d_La_law_851 rfl ?_
        refine j_iconst (v := 4) d_La_law_852 (by decide) ?_
        refine j_iconst (v := 0) d_La_law_853 (by decide) ?_
        refine j_iconst (v := 0) d_La_law_854 (by decide) ?_
        refine j_iconst (v := 0) d_La_law_855 (by decide) ?_
        refine j_iconst (v := 0) d_La_law_856 (by decide) ?_
        refine j_forget (L' := [some (.ref a0), some (.ref a1), some (.ref a2), some (.ref a3), none, some (.int p5), some (.int p6), some (.int p7), some (.int p8), none, some (.int p10), some (.int p11), some (.int p12), some (.int p13), some (.int p14), none, some (.int p16), none, none, some (.int p19), none, some (.int s0), none, none, none, none, none]) ⟨Or.inr rfl, Or.inr rfl, Or.inr rfl, Or.inr rfl, Or.inl rfl, Or.inr rfl, Or.inr rfl, Or.inr rfl, Or.inr rfl, Or.inl rfl, Or.inr rfl, Or.inr rfl, Or.inr rfl, Or.inr rfl, Or.inr rfl, Or.inl rfl, Or.inr rfl, Or.inl rfl, Or.inl rfl, Or.inr rfl, Or.inl rfl, Or.inr rfl, Or.inl rfl, Or.inl rfl, Or.inl rfl, Or.inl rfl, Or.inl rfl, trivial⟩ ?_
        exact j_callSX (d' := 14) (As := [.ref a1, .int ((4 : Int32)), .int ((0 : Int32)), .int ((0 : Int32)), .int ((0 : Int32)), .int ((0 : Int32))]) (rest := []) cs_La_83 me_La_on ⟨_, _, rfl⟩ (by decide) rfl rfl (Nat.le_of_ble_eq_true rfl) d_La_law_857 (by decide) rfl H
  · have H := Hb c14
    refine j_aload_n d_La_law_812 rfl ?_
    obtain ⟨t8, H⟩ := H
    obtain ⟨v9, k10, H⟩ := H
    refine j_callV (d' := 1) (ci := 9) (As := []) (rest := []) (b := a1) cv_La_77 me_St_uncommitted rfl (by decide) rfl rfl t8 rfl rfl (Nat.le_of_ble_eq_true rfl) d_La_law_813 (by decide) rfl (k10 _ ?_)
    show J E 15 m_La_law 816 [some (.ref a0), some (.ref a1), some (.ref a2), some (.ref a3), none, some (.int p5), some (.int p6), some (.int p7), some (.int p8), none, some (.int p10), some (.int p11), some (.int p12), some (.int p13), some (.int p14), none, some (.int p16), none, none, some (.int p19), some (.int p20), some (.int s0), none, none, none, none, none] [.int v9] G Post
    refine j_iload d_La_law_816 rfl ?_
    obtain ⟨Ha, Hb⟩ := H
    refine j_icmp_ne (tgt := 825) d_La_law_818 (by decide) (fun c11 => ?_) (fun c12 => ?_)
    · have H := Ha c11
      refine j_iconst (v := 0) d_La_law_825 (by decide) ?_
      refine j_goto (tgt := 870) d_La_law_826 (by decide) ?_
      refine j_forget (L' := [some (.ref a0), some (.ref a1), some (.ref a2), some (.ref a3), none, some (.int p5), some (.int p6), some (.int p7), some (.int p8), none, some (.int p10), some (.int p11), some (.int p12), some (.int p13), some (.int p14), none, some (.int p16), none, none, some (.int p19), none, some (.int s0), none, none, none, none, none]) ⟨Or.inr rfl, Or.inr rfl, Or.inr rfl, Or.inr rfl, Or.inl rfl, Or.inr rfl, Or.inr rfl, Or.inr rfl, Or.inr rfl, Or.inl rfl, Or.inr rfl, Or.inr rfl, Or.inr rfl, Or.inr rfl, Or.inr rfl, Or.inl rfl, Or.inr rfl, Or.inl rfl, Or.inl rfl, Or.inr rfl, Or.inl rfl, Or.inr rfl, Or.inl rfl, Or.inl rfl, Or.inl rfl, Or.inl rfl, Or.inl rfl, trivial⟩ ?_
      exact H
    · have H := Hb c12
      refine j_iconst (v := 1) d_La_law_821 (by decide) ?_
      refine j_goto (tgt := 870) d_La_law_822 (by decide) ?_
      refine j_forget (L' := [some (.ref a0), some (.ref a1), some (.ref a2), some (.ref a3), none, some (.int p5), some (.int p6), some (.int p7), some (.int p8), none, some (.int p10), some (.int p11), some (.int p12), some (.int p13), some (.int p14), none, some (.int p16), none, none, some (.int p19), none, some (.int s0), none, none, none, none, none]) ⟨Or.inr rfl, Or.inr rfl, Or.inr rfl, Or.inr rfl, Or.inl rfl, Or.inr rfl, Or.inr rfl, Or.inr rfl, Or.inr rfl, Or.inl rfl, Or.inr rfl, Or.inr rfl, Or.inr rfl, Or.inr rfl, Or.inr rfl, Or.inl rfl, Or.inr rfl, Or.inl rfl, Or.inl rfl, Or.inr rfl, Or.inl rfl, Or.inr rfl, Or.inl rfl, Or.inl rfl, Or.inl rfl, Or.inl rfl, Or.inl rfl, trivial⟩ ?_
      exact H
theorem wp_La_law_718 {E : EV} {G : GH} {Post : Res → GH → Prop} (a0 : Nat) (a1 : Nat) (a2 : Nat) (a3 : Nat) (p5 : Int32) (p6 : Int32) (p7 : Int32) (p8 : Int32) (p10 : Int32) (p11 : Int32) (p12 : Int32) (p13 : Int32) (p14 : Int32) (p16 : Int32) (p19 : Int32) (p20 : Int32) (s0 : Int32) (H : (¬ p8 = 0 → J E 15 m_La_law 736 [some (.ref a0), some (.ref a1), some (.ref a2), some (.ref a3), none, some (.int p5), some (.int p6), some (.int p7), some (.int p8), none, some (.int p10), none, some (.int p12), some (.int p13), some (.int p14), none, some (.int p16), none, none, some (.int p19), some (.int p20), some (.int s0), none, none, none, none, none] [.int p11] G Post) ∧ (p8 = 0 → (s0 < 0 → J E 15 m_La_law 736 [some (.ref a0), some (.ref a1), some (.ref a2), some (.ref a3), none, some (.int p5), some (.int p6), some (.int p7), some (.int p8), none, some (.int p10), none, some (.int p12), some (.int p13), some (.int p14), none, some (.int p16), none, none, some (.int p19), some (.int p20), some (.int s0), none, none, none, none, none] [.int p11] G Post) ∧ (¬ s0 < 0 → J E 15 m_La_law 737 [some (.ref a0), some (.ref a1), some (.ref a2), some (.ref a3), none, some (.int p5), some (.int p6), some (.int p7), some (.int p8), none, some (.int p10), none, some (.int p12), some (.int p13), some (.int p14), none, some (.int p16), none, none, some (.int p19), some (.int p20), some (.int s0), none, none, none, none, none] [.int ((1 : Int32)), .int p11] G Post))) : J E 15 m_La_law 718 [some (.ref a0), some (.ref a1), some (.ref a2), some (.ref a3), none, some (.int p5), some (.int p6), some (.int p7), some (.int p8), none, some (.int p10), some (.int p11), some (.int p12), some (.int p13), some (.int p14), none, some (.int p16), none, none, some (.int p19), some (.int p20), none, none, none, none, none, none] [.int s0] G Post := by
  refine j_istore (L' := [some (.ref a0), some (.ref a1), some (.ref a2), some (.ref a3), none, some (.int p5), some (.int p6), some (.int p7), some (.int p8), none, some (.int p10), some (.int p11), some (.int p12), some (.int p13), some (.int p14), none, some (.int p16), none, none, some (.int p19), some (.int p20), some (.int s0), none, none, none, none, none]) d_La_law_718 (by decide) rfl ?_
  refine j_iload d_La_law_720 rfl ?_
  refine j_iload d_La_law_722 rfl ?_
  obtain ⟨Ha, Hb⟩ := H
  refine j_if_ne (tgt := 736) d_La_law_724 (by decide) (fun c3 => ?_) (fun c4 => ?_)
  · have H := Ha c3
    refine j_forget (L' := [some (.ref a0), some (.ref a1), some (.ref a2), some (.ref a3), none, some (.int p5), some (.int p6), some (.int p7), some (.int p8), none, some (.int p10), none, some (.int p12), some (.int p13), some (.int p14), none, some (.int p16), none, none, some (.int p19), some (.int p20), some (.int s0), none, none, none, none, none]) ⟨Or.inr rfl, Or.inr rfl, Or.inr rfl, Or.inr rfl, Or.inl rfl, Or.inr rfl, Or.inr rfl, Or.inr rfl, Or.inr rfl, Or.inl rfl, Or.inr rfl, Or.inl rfl, Or.inr rfl, Or.inr rfl, Or.inr rfl, Or.inl rfl, Or.inr rfl, Or.inl rfl, Or.inl rfl, Or.inr rfl, Or.inr rfl, Or.inr rfl, Or.inl rfl, Or.inl rfl, Or.inl rfl, Or.inl rfl, Or.inl rfl, trivial⟩ ?_
    exact H
  · have H := Hb c4
    refine j_iload d_La_law_727 rfl ?_
    obtain ⟨Ha, Hb⟩ := H
    refine j_if_lt (tgt := 736) d_La_law_729 (by decide) (fun c1 => ?_) (fun c2 => ?_)
    · have H := Ha c1
      refine j_forget (L' := [some (.ref a0), some (.ref a1), some (.ref a2), some (.ref a3), none, some (.int p5), some (.int p6), some (.int p7), some (.int p8), none, some (.int p10), none, some (.int p12), some (.int p13), some (.int p14), none, some (.int p16), none, none, some (.int p19), some (.int p20), some (.int s0), none, none, none, none, none]) ⟨Or.inr rfl, Or.inr rfl, Or.inr rfl, Or.inr rfl, Or.inl rfl, Or.inr rfl, Or.inr rfl, Or.inr rfl, Or.inr rfl, Or.inl rfl, Or.inr rfl, Or.inl rfl, Or.inr rfl, Or.inr rfl, Or.inr rfl, Or.inl rfl, Or.inr rfl, Or.inl rfl, Or.inl rfl, Or.inr rfl, Or.inr rfl, Or.inr rfl, Or.inl rfl, Or.inl rfl, Or.inl rfl, Or.inl rfl, Or.inl rfl, trivial⟩ ?_
      exact H
    · have H := Hb c2
      refine j_iconst (v := 1) d_La_law_732 (by decide) ?_
      refine j_goto (tgt := 737) d_La_law_733 (by decide) ?_
      refine j_forget (L' := [some (.ref a0), some (.ref a1), some (.ref a2), some (.ref a3), none, some (.int p5), some (.int p6), some (.int p7), some (.int p8), none, some (.int p10), none, some (.int p12), some (.int p13), some (.int p14), none, some (.int p16), none, none, some (.int p19), some (.int p20), some (.int s0), none, none, none, none, none]) ⟨Or.inr rfl, Or.inr rfl, Or.inr rfl, Or.inr rfl, Or.inl rfl, Or.inr rfl, Or.inr rfl, Or.inr rfl, Or.inr rfl, Or.inl rfl, Or.inr rfl, Or.inl rfl, Or.inr rfl, Or.inr rfl, Or.inr rfl, Or.inl rfl, Or.inr rfl, Or.inl rfl, Or.inl rfl, Or.inr rfl, Or.inr rfl, Or.inr rfl, Or.inl rfl, Or.inl rfl, Or.inl rfl, Or.inl rfl, Or.inl rfl, trivial⟩ ?_
      exact H
theorem wp_La_law_552 {E : EV} {G : GH} {Post : Res → GH → Prop} (a0 : Nat) (a1 : Nat) (a2 : Nat) (a3 : Nat) (p5 : Int32) (p6 : Int32) (p7 : Int32) (p8 : Int32) (p10 : Int32) (p11 : Int32) (p12 : Int32) (p13 : Int32) (p14 : Int32) (p16 : Int32) (p18 : Int32) (p19 : Int32) (p20 : Int32) (p22 : Int32) (p23 : Int32) (p24 : Int32) (s0 : Int32) (H : (s0 < 0 → J E 15 m_La_law 569 [some (.ref a0), some (.ref a1), some (.ref a2), some (.ref a3), none, some (.int p5), some (.int p6), some (.int p7), some (.int p8), none, some (.int p10), some (.int p11), some (.int p12), some (.int p13), some (.int p14), none, some (.int p16), none, some (.int p18), some (.int p19), some (.int p20), some (.int s0), some (.int p22), some (.int p23), some (.int p24), none, none] [] G Post) ∧ (¬ s0 < 0 → ((3 : Int32) ≤ s0 → J E 15 m_La_law 569 [some (.ref a0), some (.ref a1), some (.ref a2), some (.ref a3), none, some (.int p5), some (.int p6), some (.int p7), some (.int p8), none, some (.int p10), some (.int p11), some (.int p12), some (.int p13), some (.int p14), none, some (.int p16), none, some (.int p18), some (.int p19), some (.int p20), some (.int s0), some (.int p22), some (.int p23), some (.int p24), none, none] [] G Post) ∧ (¬ (3 : Int32) ≤ s0 → J E 15 m_La_law 570 [some (.ref a0), some (.ref a1), some (.ref a2), some (.ref a3), none, some (.int p5), some (.int p6), some (.int p7), some (.int p8), none, some (.int p10), some (.int p11), some (.int p12), some (.int p13), some (.int p14), none, some (.int p16), none, some (.int p18), some (.int p19), some (.int p20), some (.int s0), some (.int p22), some (.int p23), some (.int p24), none, none] [.int ((1 : Int32))] G Post))) : J E 15 m_La_law 552 [some (.ref a0), some (.ref a1), some (.ref a2), some (.ref a3), none, some (.int p5), some (.int p6), some (.int p7), some (.int p8), none, some (.int p10), some (.int p11), some (.int p12), some (.int p13), some (.int p14), none, some (.int p16), none, some (.int p18), some (.int p19), some (.int p20), none, some (.int p22), some (.int p23), some (.int p24), none, none] [.int s0] G Post := by
  refine j_istore (L' := [some (.ref a0), some (.ref a1), some (.ref a2), some (.ref a3), none, some (.int p5), some (.int p6), some (.int p7), some (.int p8), none, some (.int p10), some (.int p11), some (.int p12), some (.int p13), some (.int p14), none, some (.int p16), none, some (.int p18), some (.int p19), some (.int p20), some (.int s0), some (.int p22), some (.int p23), some (.int p24), none, none]) d_La_law_552 (by decide) rfl ?_
  refine j_iload d_La_law_554 rfl ?_
  obtain ⟨Ha, Hb⟩ := H
  refine j_if_lt (tgt := 569) d_La_law_556 (by decide) (fun c3 => ?_) (fun c4 => ?_)
  · have H := Ha c3
    exact H
  · have H := Hb c4
    refine j_iload d_La_law_559 rfl ?_
    refine j_iconst (v := 3) d_La_law_561 (by decide) ?_
    obtain ⟨Ha, Hb⟩ := H
    refine j_icmp_ge (tgt := 569) d_La_law_562 (by decide) (fun c1 => ?_) (fun c2 => ?_)
    · have H := Ha c1
      exact H
    · have H := Hb c2
      refine j_iconst (v := 1) d_La_law_565 (by decide) ?_
      refine j_goto (tgt := 570) d_La_law_566 (by decide) ?_
      exact H
theorem wp_La_law_452 {E : EV} {G : GH} {Post : Res → GH → Prop} (a0 : Nat) (a1 : Nat) (a2 : Nat) (a3 : Nat) (p5 : Int32) (p6 : Int32) (p7 : Int32) (p8 : Int32) (p10 : Int32) (p11 : Int32) (p12 : Int32) (p13 : Int32) (p14 : Int32) (p16 : Int32) (p18 : Int32) (p19 : Int32) (p22 : Int32) (p23 : Int32) (s0 : Int32) (H : (gT G a2 = 20 ∨ gT G a2 = 25) ∧ ∃ n3, IX p18 n3 (gN G a2) ∧ ((gA G a2 n3) ≤ p22 → J E 15 m_La_law 478 [some (.ref a0), some (.ref a1), some (.ref a2), some (.ref a3), none, some (.int p5), some (.int p6), some (.int p7), some (.int p8), none, some (.int p10), some (.int p11), some (.int p12), some (.int p13), some (.int p14), none, some (.int p16), none, some (.int p18), some (.int p19), none, some (.int s0), some (.int p22), none, none, none, none] [.int s0] G Post) ∧ (¬ (gA G a2 n3) ≤ p22 → ((4 : Int32) ≤ p23 → J E 15 m_La_law 478 [some (.ref a0), some (.ref a1), some (.ref a2), some (.ref a3), none, some (.int p5), some (.int p6), some (.int p7), some (.int p8), none, some (.int p10), some (.int p11), some (.int p12), some (.int p13), some (.int p14), none, some (.int p16), none, some (.int p18), some (.int p19), none, some (.int s0), some (.int p22), none, none, none, none] [.int s0] G Post) ∧ (¬ (4 : Int32) ≤ p23 → J E 15 m_La_law 480 [some (.ref a0), some (.ref a1), some (.ref a2), some (.ref a3), none, some (.int p5), some (.int p6), some (.int p7), some (.int p8), none, some (.int p10), some (.int p11), some (.int p12), some (.int p13), some (.int p14), none, some (.int p16), none, some (.int p18), some (.int p19), none, some (.int s0), some (.int p22), none, none, none, none] [.int ((p23 + (1 : Int32))), .int s0] G Post))) : J E 15 m_La_law 452 [some (.ref a0), some (.ref a1), some (.ref a2), some (.ref a3), none, some (.int p5), some (.int p6), some (.int p7), some (.int p8), none, some (.int p10), some (.int p11), some (.int p12), some (.int p13), some (.int p14), none, some (.int p16), none, some (.int p18), some (.int p19), none, none, some (.int p22), some (.int p23), none, none, none] [.int s0] G Post := by
  refine j_istore (L' := [some (.ref a0), some (.ref a1), some (.ref a2), some (.ref a3), none, some (.int p5), some (.int p6), some (.int p7), some (.int p8), none, some (.int p10), some (.int p11), some (.int p12), some (.int p13), some (.int p14), none, some (.int p16), none, some (.int p18), some (.int p19), none, some (.int s0), some (.int p22), some (.int p23), none, none, none]) d_La_law_452 (by decide) rfl ?_
  refine j_iload d_La_law_454 rfl ?_
  refine j_iload d_La_law_456 rfl ?_
  refine j_aload_n d_La_law_458 rfl ?_
  refine j_iload d_La_law_459 rfl ?_
  obtain ⟨t1, H⟩ := H
  obtain ⟨n3, x2, H⟩ := H
  refine j_iald (n := n3) t1 x2 d_La_law_461 ?_
  obtain ⟨Ha, Hb⟩ := H
  refine j_icmp_ge (tgt := 478) d_La_law_462 (by decide) (fun c6 => ?_) (fun c7 => ?_)
  · have H := Ha c6
    refine j_forget (L' := [some (.ref a0), some (.ref a1), some (.ref a2), some (.ref a3), none, some (.int p5), some (.int p6), some (.int p7), some (.int p8), none, some (.int p10), some (.int p11), some (.int p12), some (.int p13), some (.int p14), none, some (.int p16), none, some (.int p18), some (.int p19), none, some (.int s0), some (.int p22), none, none, none, none]) ⟨Or.inr rfl, Or.inr rfl, Or.inr rfl, Or.inr rfl, Or.inl rfl, Or.inr rfl, Or.inr rfl, Or.inr rfl, Or.inr rfl, Or.inl rfl, Or.inr rfl, Or.inr rfl, Or.inr rfl, Or.inr rfl, Or.inr rfl, Or.inl rfl, Or.inr rfl, Or.inl rfl, Or.inr rfl, Or.inr rfl, Or.inl rfl, Or.inr rfl, Or.inr rfl, Or.inl rfl, Or.inl rfl, Or.inl rfl, Or.inl rfl, trivial⟩ ?_
    exact H
  · have H := Hb c7
    refine j_iload d_La_law_465 rfl ?_
    refine j_iconst (v := 4) d_La_law_467 (by decide) ?_
    obtain ⟨Ha, Hb⟩ := H
    refine j_icmp_ge (tgt := 478) d_La_law_468 (by decide) (fun c4 => ?_) (fun c5 => ?_)
    · have H := Ha c4
      refine j_forget (L' := [some (.ref a0), some (.ref a1), some (.ref a2), some (.ref a3), none, some (.int p5), some (.int p6), some (.int p7), some (.int p8), none, some (.int p10), some (.int p11), some (.int p12), some (.int p13), some (.int p14), none, some (.int p16), none, some (.int p18), some (.int p19), none, some (.int s0), some (.int p22), none, none, none, none]) ⟨Or.inr rfl, Or.inr rfl, Or.inr rfl, Or.inr rfl, Or.inl rfl, Or.inr rfl, Or.inr rfl, Or.inr rfl, Or.inr rfl, Or.inl rfl, Or.inr rfl, Or.inr rfl, Or.inr rfl, Or.inr rfl, Or.inr rfl, Or.inl rfl, Or.inr rfl, Or.inl rfl, Or.inr rfl, Or.inr rfl, Or.inl rfl, Or.inr rfl, Or.inr rfl, Or.inl rfl, Or.inl rfl, Or.inl rfl, Or.inl rfl, trivial⟩ ?_
      exact H
    · have H := Hb c5
      refine j_iload d_La_law_471 rfl ?_
      refine j_iconst (v := 1) d_La_law_473 (by decide) ?_
      refine j_iadd d_La_law_474 ?_
      refine j_goto (tgt := 480) d_La_law_475 (by decide) ?_
      refine j_forget (L' := [some (.ref a0), some (.ref a1), some (.ref a2), some (.ref a3), none, some (.int p5), some (.int p6), some (.int p7), some (.int p8), none, some (.int p10), some (.int p11), some (.int p12), some (.int p13), some (.int p14), none, some (.int p16), none, some (.int p18), some (.int p19), none, some (.int s0), some (.int p22), none, none, none, none]) ⟨Or.inr rfl, Or.inr rfl, Or.inr rfl, Or.inr rfl, Or.inl rfl, Or.inr rfl, Or.inr rfl, Or.inr rfl, Or.inr rfl, Or.inl rfl, Or.inr rfl, Or.inr rfl, Or.inr rfl, Or.inr rfl, Or.inr rfl, Or.inl rfl, Or.inr rfl, Or.inl rfl, Or.inr rfl, Or.inr rfl, Or.inl rfl, Or.inr rfl, Or.inr rfl, Or.inl rfl, Or.inl rfl, Or.inl rfl, Or.inl rfl, trivial⟩ ?_
      exact H
theorem wp_La_law_335 {E : EV} {G : GH} {Post : Res → GH → Prop} (a0 : Nat) (a1 : Nat) (a2 : Nat) (a3 : Nat) (p5 : Int32) (p6 : Int32) (p7 : Int32) (p8 : Int32) (p10 : Int32) (p11 : Int32) (p12 : Int32) (p13 : Int32) (p14 : Int32) (p16 : Int32) (p18 : Int32) (p19 : Int32) (s0 : Int32) (H : Cl E 14 m_La_on [.ref a1, .int ((0 : Int32)), .int p18, .int s0, .int (((p16 >>> ((12 : Int32) &&& 31)) - (p16 >>> ((12 : Int32) &&& 31)) / (6 : Int32) * (6 : Int32))), .int ((((p16 >>> ((15 : Int32) &&& 31)) - (p16 >>> ((15 : Int32) &&& 31)) / (2001 : Int32) * (2001 : Int32)) - (1000 : Int32)))] G (aft E 15 m_La_law 364 [some (.ref a0), some (.ref a1), some (.ref a2), some (.ref a3), none, some (.int p5), some (.int p6), some (.int p7), some (.int p8), none, some (.int p10), some (.int p11), some (.int p12), some (.int p13), some (.int p14), none, some (.int p16), none, some (.int p18), some (.int p19), none, none, none, none, none, none, none] [] Post)) : J E 15 m_La_law 335 [some (.ref a0), some (.ref a1), some (.ref a2), some (.ref a3), none, some (.int p5), some (.int p6), some (.int p7), some (.int p8), none, some (.int p10), some (.int p11), some (.int p12), some (.int p13), some (.int p14), none, some (.int p16), none, some (.int p18), some (.int p19), none, none, none, none, none, none, none] [.int s0] G Post := by
  refine j_istore (L' := [some (.ref a0), some (.ref a1), some (.ref a2), some (.ref a3), none, some (.int p5), some (.int p6), some (.int p7), some (.int p8), none, some (.int p10), some (.int p11), some (.int p12), some (.int p13), some (.int p14), none, some (.int p16), none, some (.int p18), some (.int p19), none, none, some (.int s0), none, none, none, none]) d_La_law_335 (by decide) rfl ?_
  refine j_aload_n d_La_law_337 rfl ?_
  refine j_iconst (v := 0) d_La_law_338 (by decide) ?_
  refine j_iload d_La_law_339 rfl ?_
  refine j_iload d_La_law_341 rfl ?_
  refine j_iload d_La_law_343 rfl ?_
  refine j_bipush (v := 12) d_La_law_345 (by decide) ?_
  refine j_ishr d_La_law_347 ?_
  refine j_bipush (v := 6) d_La_law_348 (by decide) ?_
  refine j_irem d_La_law_350 (by decide) ?_
  refine j_iload d_La_law_351 rfl ?_
  refine j_bipush (v := 15) d_La_law_353 (by decide) ?_
  refine j_ishr d_La_law_355 ?_
  refine j_sipush (v := 2001) d_La_law_356 (by decide) ?_
  refine j_irem d_La_law_359 (by decide) ?_
  refine j_sipush (v := 1000) d_La_law_360 (by decide) ?_
  refine j_isub d_La_law_363 ?_
  refine j_forget (L' := [some (.ref a0), some (.ref a1), some (.ref a2), some (.ref a3), none, some (.int p5), some (.int p6), some (.int p7), some (.int p8), none, some (.int p10), some (.int p11), some (.int p12), some (.int p13), some (.int p14), none, some (.int p16), none, some (.int p18), some (.int p19), none, none, none, none, none, none, none]) ⟨Or.inr rfl, Or.inr rfl, Or.inr rfl, Or.inr rfl, Or.inl rfl, Or.inr rfl, Or.inr rfl, Or.inr rfl, Or.inr rfl, Or.inl rfl, Or.inr rfl, Or.inr rfl, Or.inr rfl, Or.inr rfl, Or.inr rfl, Or.inl rfl, Or.inr rfl, Or.inl rfl, Or.inr rfl, Or.inr rfl, Or.inl rfl, Or.inl rfl, Or.inl rfl, Or.inl rfl, Or.inl rfl, Or.inl rfl, Or.inl rfl, trivial⟩ ?_
  exact j_callSX (d' := 14) (As := [.ref a1, .int ((0 : Int32)), .int p18, .int s0, .int (((p16 >>> ((12 : Int32) &&& 31)) - (p16 >>> ((12 : Int32) &&& 31)) / (6 : Int32) * (6 : Int32))), .int ((((p16 >>> ((15 : Int32) &&& 31)) - (p16 >>> ((15 : Int32) &&& 31)) / (2001 : Int32) * (2001 : Int32)) - (1000 : Int32)))]) (rest := []) cs_La_83 me_La_on ⟨_, _, rfl⟩ (by decide) rfl rfl (Nat.le_of_ble_eq_true rfl) d_La_law_364 (by decide) rfl H
theorem wp_La_law_1009 {E : EV} {G : GH} {Post : Res → GH → Prop} (a0 : Nat) (a1 : Nat) (a2 : Nat) (a3 : Nat) (p5 : Int32) (p6 : Int32) (p7 : Int32) (p8 : Int32) (p10 : Int32) (p11 : Int32) (p12 : Int32) (p13 : Int32) (p14 : Int32) (p16 : Int32) (p19 : Int32) (p20 : Int32) (p22 : Int32) (p23 : Int32) (s0 : Int32) (H : (¬ p22 = 0 → J E 15 m_La_law 1026 [some (.ref a0), some (.ref a1), some (.ref a2), some (.ref a3), none, some (.int p5), some (.int p6), some (.int p7), some (.int p8), none, some (.int p10), some (.int p11), some (.int p12), some (.int p13), some (.int p14), none, some (.int p16), none, none, some (.int p19), some (.int p20), some (.int s0), some (.int p22), none, none, none, none] [] G Post) ∧ (p22 = 0 → (s0 < 0 → J E 15 m_La_law 1026 [some (.ref a0), some (.ref a1), some (.ref a2), some (.ref a3), none, some (.int p5), some (.int p6), some (.int p7), some (.int p8), none, some (.int p10), some (.int p11), some (.int p12), some (.int p13), some (.int p14), none, some (.int p16), none, none, some (.int p19), some (.int p20), some (.int s0), some (.int p22), none, none, none, none] [] G Post) ∧ (¬ s0 < 0 → J E 15 m_La_law 1028 [some (.ref a0), some (.ref a1), some (.ref a2), some (.ref a3), none, some (.int p5), some (.int p6), some (.int p7), some (.int p8), none, some (.int p10), some (.int p11), none, some (.int p13), some (.int p14), none, some (.int p16), none, none, some (.int p19), some (.int p20), some (.int s0), some (.int p22), none, none, none, none] [.int p23] G Post))) : J E 15 m_La_law 1009 [some (.ref a0), some (.ref a1), some (.ref a2), some (.ref a3), none, some (.int p5), some (.int p6), some (.int p7), some (.int p8), none, some (.int p10), some (.int p11), some (.int p12), some (.int p13), some (.int p14), none, some (.int p16), none, none, some (.int p19), some (.int p20), none, some (.int p22), some (.int p23), none, none, none] [.int s0] G Post := by
  refine j_istore (L' := [some (.ref a0), some (.ref a1), some (.ref a2), some (.ref a3), none, some (.int p5), some (.int p6), some (.int p7), some (.int p8), none, some (.int p10), some (.int p11), some (.int p12), some (.int p13), some (.int p14), none, some (.int p16), none, none, some (.int p19), some (.int p20), some (.int s0), some (.int p22), some (.int p23), none, none, none]) d_La_law_1009 (by decide) rfl ?_
  refine j_iload d_La_law_1011 rfl ?_
  obtain ⟨Ha, Hb⟩ := H
  refine j_if_ne (tgt := 1026) d_La_law_1013 (by decide) (fun c3 => ?_) (fun c4 => ?_)
  · have H := Ha c3
    refine j_forget (L' := [some (.ref a0), some (.ref a1), some (.ref a2), some (.ref a3), none, some (.int p5), some (.int p6), some (.int p7), some (.int p8), none, some (.int p10), some (.int p11), some (.int p12), some (.int p13), some (.int p14), none, some (.int p16), none, none, some (.int p19), some (.int p20), some (.int s0), some (.int p22), none, none, none, none]) ⟨Or.inr rfl, Or.inr rfl, Or.inr rfl, Or.inr rfl, Or.inl rfl, Or.inr rfl, Or.inr rfl, Or.inr rfl, Or.inr rfl, Or.inl rfl, Or.inr rfl, Or.inr rfl, Or.inr rfl, Or.inr rfl, Or.inr rfl, Or.inl rfl, Or.inr rfl, Or.inl rfl, Or.inl rfl, Or.inr rfl, Or.inr rfl, Or.inr rfl, Or.inr rfl, Or.inl rfl, Or.inl rfl, Or.inl rfl, Or.inl rfl, trivial⟩ ?_
    exact H
  · have H := Hb c4
    refine j_iload d_La_law_1016 rfl ?_
    obtain ⟨Ha, Hb⟩ := H
    refine j_if_lt (tgt := 1026) d_La_law_1018 (by decide) (fun c1 => ?_) (fun c2 => ?_)
    · have H := Ha c1
      refine j_forget (L' := [some (.ref a0), some (.ref a1), some (.ref a2), some (.ref a3), none, some (.int p5), some (.int p6), some (.int p7), some (.int p8), none, some (.int p10), some (.int p11), some (.int p12), some (.int p13), some (.int p14), none, some (.int p16), none, none, some (.int p19), some (.int p20), some (.int s0), some (.int p22), none, none, none, none]) ⟨Or.inr rfl, Or.inr rfl, Or.inr rfl, Or.inr rfl, Or.inl rfl, Or.inr rfl, Or.inr rfl, Or.inr rfl, Or.inr rfl, Or.inl rfl, Or.inr rfl, Or.inr rfl, Or.inr rfl, Or.inr rfl, Or.inr rfl, Or.inl rfl, Or.inr rfl, Or.inl rfl, Or.inl rfl, Or.inr rfl, Or.inr rfl, Or.inr rfl, Or.inr rfl, Or.inl rfl, Or.inl rfl, Or.inl rfl, Or.inl rfl, trivial⟩ ?_
      exact H
    · have H := Hb c2
      refine j_iload d_La_law_1021 rfl ?_
      refine j_goto (tgt := 1028) d_La_law_1023 (by decide) ?_
      refine j_forget (L' := [some (.ref a0), some (.ref a1), some (.ref a2), some (.ref a3), none, some (.int p5), some (.int p6), some (.int p7), some (.int p8), none, some (.int p10), some (.int p11), none, some (.int p13), some (.int p14), none, some (.int p16), none, none, some (.int p19), some (.int p20), some (.int s0), some (.int p22), none, none, none, none]) ⟨Or.inr rfl, Or.inr rfl, Or.inr rfl, Or.inr rfl, Or.inl rfl, Or.inr rfl, Or.inr rfl, Or.inr rfl, Or.inr rfl, Or.inl rfl, Or.inr rfl, Or.inr rfl, Or.inl rfl, Or.inr rfl, Or.inr rfl, Or.inl rfl, Or.inr rfl, Or.inl rfl, Or.inl rfl, Or.inr rfl, Or.inr rfl, Or.inr rfl, Or.inr rfl, Or.inl rfl, Or.inl rfl, Or.inl rfl, Or.inl rfl, trivial⟩ ?_
      exact H
theorem wp_La_law_996 {E : EV} {G : GH} {Post : Res → GH → Prop} (a0 : Nat) (a1 : Nat) (a2 : Nat) (a3 : Nat) (p5 : Int32) (p6 : Int32) (p7 : Int32) (p8 : Int32) (p10 : Int32) (p11 : Int32) (p12 : Int32) (p13 : Int32) (p14 : Int32) (p16 : Int32) (p19 : Int32) (p20 : Int32) (p22 : Int32) (p23 : Int32) (s0 : Int32) (H : J E 15 m_La_law 1009 [some (.ref a0), some (.ref a1), some (.ref a2), some (.ref a3), none, some (.int p5), some (.int p6), some (.int p7), some (.int p8), none, some (.int p10), some (.int p11), some (.int p12), some (.int p13), some (.int p14), none, some (.int p16), none, none, some (.int p19), some (.int p20), none, some (.int p22), some (.int p23), none, none, none] [.int s0] G Post) : J E 15 m_La_law 996 [some (.ref a0), some (.ref a1), some (.ref a2), some (.ref a3), none, some (.int p5), some (.int p6), some (.int p7), some (.int p8), none, some (.int p10), some (.int p11), some (.int p12), some (.int p13), some (.int p14), none, some (.int p16), none, none, some (.int p19), some (.int p20), none, some (.int p22), some (.int p23), none, none, none] [.int s0] G Post := by
  refine j_goto (tgt := 1009) d_La_law_996 (by decide) ?_
  exact H
theorem wp_La_law_921 {E : EV} {G : GH} {Post : Res → GH → Prop} (a0 : Nat) (a1 : Nat) (a2 : Nat) (a3 : Nat) (p5 : Int32) (p6 : Int32) (p7 : Int32) (p8 : Int32) (p10 : Int32) (p11 : Int32) (p12 : Int32) (p13 : Int32) (p14 : Int32) (p16 : Int32) (p18 : Int32) (p19 : Int32) (p22 : Int32) (s0 : Int32) (H : (gT G a3 = 20 ∨ gT G a3 = 25) ∧ ∃ n3, IX p18 n3 (gN G a3) ∧ (¬ (gA G a3 n3) = (1 : Int32) → J E 15 m_La_law 934 [some (.ref a0), some (.ref a1), some (.ref a2), some (.ref a3), none, some (.int p5), some (.int p6), some (.int p7), some (.int p8), none, some (.int p10), some (.int p11), some (.int p12), some (.int p13), some (.int p14), none, some (.int p16), none, some (.int p18), some (.int p19), none, none, some (.int p22), none, none, none, none] [.int ((0 : Int32)), .int s0] G Post) ∧ ((gA G a3 n3) = (1 : Int32) → J E 15 m_La_law 934 [some (.ref a0), some (.ref a1), some (.ref a2), some (.ref a3), none, some (.int p5), some (.int p6), some (.int p7), some (.int p8), none, some (.int p10), some (.int p11), some (.int p12), some (.int p13), some (.int p14), none, some (.int p16), none, some (.int p18), some (.int p19), none, none, some (.int p22), none, none, none, none] [.int ((1 : Int32)), .int s0] G Post)) : J E 15 m_La_law 921 [some (.ref a0), some (.ref a1), some (.ref a2), some (.ref a3), none, some (.int p5), some (.int p6), some (.int p7), some (.int p8), none, some (.int p10), some (.int p11), some (.int p12), some (.int p13), some (.int p14), none, some (.int p16), none, some (.int p18), some (.int p19), none, none, some (.int p22), none, none, none, none] [.int s0] G Post := by
  refine j_aload_n d_La_law_921 rfl ?_
  refine j_iload d_La_law_922 rfl ?_
  obtain ⟨t1, H⟩ := H
  obtain ⟨n3, x2, H⟩ := H
  refine j_iald (n := n3) t1 x2 d_La_law_924 ?_
  refine j_iconst (v := 1) d_La_law_925 (by decide) ?_
  obtain ⟨Ha, Hb⟩ := H
  refine j_icmp_ne (tgt := 933) d_La_law_926 (by decide) (fun c4 => ?_) (fun c5 => ?_)
  · have H := Ha c4
    refine j_iconst (v := 0) d_La_law_933 (by decide) ?_
    exact H
  · have H := Hb c5
    refine j_iconst (v := 1) d_La_law_929 (by decide) ?_
    refine j_goto (tgt := 934) d_La_law_930 (by decide) ?_
    exact H
theorem wp_La_law_869 {E : EV} {G : GH} {Post : Res → GH → Prop} (a0 : Nat) (a1 : Nat) (a2 : Nat) (a3 : Nat) (p5 : Int32) (p6 : Int32) (p7 : Int32) (p8 : Int32) (p10 : Int32) (p11 : Int32) (p12 : Int32) (p13 : Int32) (p14 : Int32) (p16 : Int32) (p19 : Int32) (p21 : Int32) (H : J E 15 m_La_law 870 [some (.ref a0), some (.ref a1), some (.ref a2), some (.ref a3), none, some (.int p5), some (.int p6), some (.int p7), some (.int p8), none, some (.int p10), some (.int p11), some (.int p12), some (.int p13), some (.int p14), none, some (.int p16), none, none, some (.int p19), none, some (.int p21), none, none, none, none, none] [.int ((0 : Int32))] G Post) : J E 15 m_La_law 869 [some (.ref a0), some (.ref a1), some (.ref a2), some (.ref a3), none, some (.int p5), some (.int p6), some (.int p7), some (.int p8), none, some (.int p10), some (.int p11), some (.int p12), some (.int p13), some (.int p14), none, some (.int p16), none, none, some (.int p19), none, some (.int p21), none, none, none, none, none] [] G Post := by
  refine j_iconst (v := 0) d_La_law_869 (by decide) ?_
  exact H
theorem wp_La_law_860 {E : EV} {G : GH} {Post : Res → GH → Prop} (a0 : Nat) (a1 : Nat) (a2 : Nat) (a3 : Nat) (p5 : Int32) (p6 : Int32) (p7 : Int32) (p8 : Int32) (p10 : Int32) (p11 : Int32) (p12 : Int32) (p13 : Int32) (p14 : Int32) (p16 : Int32) (p19 : Int32) (p21 : Int32) (s0 : Int32) (H : (¬ s0 = (-13 : Int32) → J E 15 m_La_law 869 [some (.ref a0), some (.ref a1), some (.ref a2), some (.ref a3), none, some (.int p5), some (.int p6), some (.int p7), some (.int p8), none, some (.int p10), some (.int p11), some (.int p12), some (.int p13), some (.int p14), none, some (.int p16), none, none, some (.int p19), none, some (.int p21), none, none, none, none, none] [] G Post) ∧ (s0 = (-13 : Int32) → J E 15 m_La_law 870 [some (.ref a0), some (.ref a1), some (.ref a2), some (.ref a3), none, some (.int p5), some (.int p6), some (.int p7), some (.int p8), none, some (.int p10), some (.int p11), some (.int p12), some (.int p13), some (.int p14), none, some (.int p16), none, none, some (.int p19), none, some (.int p21), none, none, none, none, none] [.int ((1 : Int32))] G Post)) : J E 15 m_La_law 860 [some (.ref a0), some (.ref a1), some (.ref a2), some (.ref a3), none, some (.int p5), some (.int p6), some (.int p7), some (.int p8), none, some (.int p10), some (.int p11), some (.int p12), some (.int p13), some (.int p14), none, some (.int p16), none, none, some (.int p19), none, some (.int p21), none, none, none, none, none] [.int s0] G Post := by
  refine j_bipush (v := -13) d_La_law_860 (by decide) ?_
  obtain ⟨Ha, Hb⟩ := H
  refine j_icmp_ne (tgt := 869) d_La_law_862 (by decide) (fun c1 => ?_) (fun c2 => ?_)
  · have H := Ha c1
    exact H
  · have H := Hb c2
    refine j_iconst (v := 1) d_La_law_865 (by decide) ?_
    refine j_goto (tgt := 870) d_La_law_866 (by decide) ?_
    exact H
theorem wp_La_law_870 {E : EV} {G : GH} {Post : Res → GH → Prop} (a0 : Nat) (a1 : Nat) (a2 : Nat) (a3 : Nat) (p5 : Int32) (p6 : Int32) (p7 : Int32) (p8 : Int32) (p10 : Int32) (p11 : Int32) (p12 : Int32) (p13 : Int32) (p14 : Int32) (p16 : Int32) (p19 : Int32) (p21 : Int32) (s0 : Int32) (H : (p21 < 0 → J E 15 m_La_law 884 [some (.ref a0), some (.ref a1), some (.ref a2), some (.ref a3), none, some (.int p5), some (.int p6), some (.int p7), some (.int p8), some (.int s0), none, some (.int p11), some (.int p12), some (.int p13), some (.int p14), none, some (.int p16), none, none, some (.int p19), none, none, none, none, none, none, none] [.int p10] G Post) ∧ (¬ p21 < 0 → J E 15 m_La_law 884 [some (.ref a0), some (.ref a1), some (.ref a2), some (.ref a3), none, some (.int p5), some (.int p6), some (.int p7), some (.int p8), some (.int s0), none, some (.int p11), some (.int p12), some (.int p13), some (.int p14), none, some (.int p16), none, none, some (.int p19), none, none, none, none, none, none, none] [.int p21] G Post)) : J E 15 m_La_law 870 [some (.ref a0), some (.ref a1), some (.ref a2), some (.ref a3), none, some (.int p5), some (.int p6), some (.int p7), some (.int p8), none, some (.int p10), some (.int p11), some (.int p12), some (.int p13), some (.int p14), none, some (.int p16), none, none, some (.int p19), none, some (.int p21), none, none, none, none, none] [.int s0] G Post := by
  refine j_istore (L' := [some (.ref a0), some (.ref a1), some (.ref a2), some (.ref a3), none, some (.int p5), some (.int p6), some (.int p7), some (.int p8), some (.int s0), some (.int p10), some (.int p11), some (.int p12), some (.int p13), some (.int p14), none, some (.int p16), none, none, some (.int p19), none, some (.int p21), none, none, none, none, none]) d_La_law_870 (by decide) rfl ?_
  refine j_iload d_La_law_872 rfl ?_
  obtain ⟨Ha, Hb⟩ := H
  refine j_if_lt (tgt := 882) d_La_law_874 (by decide) (fun c1 => ?_) (fun c2 => ?_)
  · have H := Ha c1
    refine j_iload d_La_law_882 rfl ?_
    refine j_forget (L' := [some (.ref a0), some (.ref a1), some (.ref a2), some (.ref a3), none, some (.int p5), some (.int p6), some (.int p7), some (.int p8), some (.int s0), none, some (.int p11), some (.int p12), some (.int p13), some (.int p14), none, some (.int p16), none, none, some (.int p19), none, none, none, none, none, none, none]) ⟨Or.inr rfl, Or.inr rfl, Or.inr rfl, Or.inr rfl, Or.inl rfl, Or.inr rfl, Or.inr rfl, Or.inr rfl, Or.inr rfl, Or.inr rfl, Or.inl rfl, Or.inr rfl, Or.inr rfl, Or.inr rfl, Or.inr rfl, Or.inl rfl, Or.inr rfl, Or.inl rfl, Or.inl rfl, Or.inr rfl, Or.inl rfl, Or.inl rfl, Or.inl rfl, Or.inl rfl, Or.inl rfl, Or.inl rfl, Or.inl rfl, trivial⟩ ?_
    exact H
  · have H := Hb c2
    refine j_iload d_La_law_877 rfl ?_
    refine j_goto (tgt := 884) d_La_law_879 (by decide) ?_
    refine j_forget (L' := [some (.ref a0), some (.ref a1), some (.ref a2), some (.ref a3), none, some (.int p5), some (.int p6), some (.int p7), some (.int p8), some (.int s0), none, some (.int p11), some (.int p12), some (.int p13), some (.int p14), none, some (.int p16), none, none, some (.int p19), none, none, none, none, none, none, none]) ⟨Or.inr rfl, Or.inr rfl, Or.inr rfl, Or.inr rfl, Or.inl rfl, Or.inr rfl, Or.inr rfl, Or.inr rfl, Or.inr rfl, Or.inr rfl, Or.inl rfl, Or.inr rfl, Or.inr rfl, Or.inr rfl, Or.inr rfl, Or.inl rfl, Or.inr rfl, Or.inl rfl, Or.inl rfl, Or.inr rfl, Or.inl rfl, Or.inl rfl, Or.inl rfl, Or.inl rfl, Or.inl rfl, Or.inl rfl, Or.inl rfl, trivial⟩ ?_
    exact H
theorem wp_La_law_736 {E : EV} {G : GH} {Post : Res → GH → Prop} (a0 : Nat) (a1 : Nat) (a2 : Nat) (a3 : Nat) (p5 : Int32) (p6 : Int32) (p7 : Int32) (p8 : Int32) (p10 : Int32) (p12 : Int32) (p13 : Int32) (p14 : Int32) (p16 : Int32) (p19 : Int32) (p20 : Int32) (p21 : Int32) (s0 : Int32) (H : J E 15 m_La_law 737 [some (.ref a0), some (.ref a1), some (.ref a2), some (.ref a3), none, some (.int p5), some (.int p6), some (.int p7), some (.int p8), none, some (.int p10), none, some (.int p12), some (.int p13), some (.int p14), none, some (.int p16), none, none, some (.int p19), some (.int p20), some (.int p21), none, none, none, none, none] [.int ((0 : Int32)), .int s0] G Post) : J E 15 m_La_law 736 [some (.ref a0), some (.ref a1), some (.ref a2), some (.ref a3), none, some (.int p5), some (.int p6), some (.int p7), some (.int p8), none, some (.int p10), none, some (.int p12), some (.int p13), some (.int p14), none, some (.int p16), none, none, some (.int p19), some (.int p20), some (.int p21), none, none, none, none, none] [.int s0] G Post := by
  refine j_iconst (v := 0) d_La_law_736 (by decide) ?_
  exact H
theorem wp_La_law_737 {E : EV} {G : GH} {Post : Res → GH → Prop} (a0 : Nat) (a1 : Nat) (a2 : Nat) (a3 : Nat) (p5 : Int32) (p6 : Int32) (p7 : Int32) (p8 : Int32) (p10 : Int32) (p12 : Int32) (p13 : Int32) (p14 : Int32) (p16 : Int32) (p19 : Int32) (p20 : Int32) (p21 : Int32) (s0 : Int32) (s1 : Int32) (H : (¬ p21 = (-13 : Int32) → (¬ p21 = (s0 + s1) → J E 15 m_La_law 781 [some (.ref a0), some (.ref a1), some (.ref a2), some (.ref a3), none, some (.int p5), some (.int p6), some (.int p7), some (.int p8), none, some (.int p10), some (.int ((s0 + s1))), some (.int p12), some (.int p13), some (.int p14), none, some (.int p16), none, none, some (.int p19), none, none, none, none, none, none, none] [] G Post) ∧ (p21 = (s0 + s1) → gT G a1 = 10 ∧ ∃ v2, AK E 1 m_St_watermark [.ref a1] G v2 ∧ (¬ v2 = p19 → J E 15 m_La_law 781 [some (.ref a0), some (.ref a1), some (.ref a2), some (.ref a3), none, some (.int p5), some (.int p6), some (.int p7), some (.int p8), none, some (.int p10), some (.int ((s0 + s1))), some (.int p12), some (.int p13), some (.int p14), none, some (.int p16), none, none, some (.int p19), none, none, none, none, none, none, none] [] G Post) ∧ (v2 = p19 → ∃ v4, AK E 1 m_St_uncommitted [.ref a1] G v4 ∧ (¬ v4 = p20 → J E 15 m_La_law 781 [some (.ref a0), some (.ref a1), some (.ref a2), some (.ref a3), none, some (.int p5), some (.int p6), some (.int p7), some (.int p8), none, some (.int p10), some (.int ((s0 + s1))), some (.int p12), some (.int p13), some (.int p14), none, some (.int p16), none, none, some (.int p19), none, none, none, none, none, none, none] [] G Post) ∧ (v4 = p20 → J E 15 m_La_law 782 [some (.ref a0), some (.ref a1), some (.ref a2), some (.ref a3), none, some (.int p5), some (.int p6), some (.int p7), some (.int p8), none, some (.int p10), some (.int ((s0 + s1))), some (.int p12), some (.int p13), some (.int p14), none, some (.int p16), none, none, some (.int p19), none, none, none, none, none, none, none] [.int ((1 : Int32))] G Post)))) ∧ (p21 = (-13 : Int32) → J E 15 m_La_law 782 [some (.ref a0), some (.ref a1), some (.ref a2), some (.ref a3), none, some (.int p5), some (.int p6), some (.int p7), some (.int p8), none, some (.int p10), some (.int ((s0 + s1))), some (.int p12), some (.int p13), some (.int p14), none, some (.int p16), none, none, some (.int p19), none, none, none, none, none, none, none] [.int p8] G Post)) : J E 15 m_La_law 737 [some (.ref a0), some (.ref a1), some (.ref a2), some (.ref a3), none, some (.int p5), some (.int p6), some (.int p7), some (.int p8), none, some (.int p10), none, some (.int p12), some (.int p13), some (.int p14), none, some (.int p16), none, none, some (.int p19), some (.int p20), some (.int p21), none, none, none, none, none] [.int s1, .int s0] G Post := by
  refine j_iadd d_La_law_737 ?_
  refine j_istore (L' := [some (.ref a0), some (.ref a1), some (.ref a2), some (.ref a3), none, some (.int p5), some (.int p6), some (.int p7), some (.int p8), none, some (.int p10), some (.int ((s0 + s1))), some (.int p12), some (.int p13), some (.int p14), none, some (.int p16), none, none, some (.int p19), some (.int p20), some (.int p21), none, none, none, none, none]) d_La_law_738 (by decide) rfl ?_
  refine j_iload d_La_law_740 rfl ?_
  refine j_bipush (v := -13) d_La_law_742 (by decide) ?_
  obtain ⟨Ha, Hb⟩ := H
  refine j_icmp_ne (tgt := 752) d_La_law_744 (by decide) (fun c12 => ?_) (fun c13 => ?_)
  · have H := Ha c12
    refine j_iload d_La_law_752 rfl ?_
    refine j_iload d_La_law_754 rfl ?_
    obtain ⟨Ha, Hb⟩ := H
    refine j_icmp_ne (tgt := 781) d_La_law_756 (by decide) (fun c10 => ?_) (fun c11 => ?_)
    · have H := Ha c10
      refine j_forget (L' := [some (.ref a0), some (.ref a1), some (.ref a2), some (.ref a3), none, some (.int p5), some (.int p6), some (.int p7), some (.int p8), none, some (.int p10), some (.int ((s0 + s1))), some (.int p12), some (.int p13), some (.int p14), none, some (.int p16), none, none, some (.int p19), none, none, none, none, none, none, none]) ⟨Or.inr rfl, Or.inr rfl, Or.inr rfl, Or.inr rfl, Or.inl rfl, Or.inr rfl, Or.inr rfl, Or.inr rfl, Or.inr rfl, Or.inl rfl, Or.inr rfl, Or.inr rfl, Or.inr rfl, Or.inr rfl, Or.inr rfl, Or.inl rfl, Or.inr rfl, Or.inl rfl, Or.inl rfl, Or.inr rfl, Or.inl rfl, Or.inl rfl, Or.inl rfl, Or.inl rfl, Or.inl rfl, Or.inl rfl, Or.inl rfl, trivial⟩ ?_
      exact H
    · have H := Hb c11
      refine j_aload_n d_La_law_759 rfl ?_
      obtain ⟨t1, H⟩ := H
      obtain ⟨v2, k3, H⟩ := H
      refine j_callV (d' := 1) (ci := 9) (As := []) (rest := []) (b := a1) cv_La_68 me_St_watermark rfl (by decide) rfl rfl t1 rfl rfl (Nat.le_of_ble_eq_true rfl) d_La_law_760 (by decide) rfl (k3 _ ?_)
      show J E 15 m_La_law 763 [some (.ref a0), some (.ref a1), some (.ref a2), some (.ref a3), none, some (.int p5), some (.int p6), some (.int p7), some (.int p8), none, some (.int p10), some (.int ((s0 + s1))), some (.int p12), some (.int p13), some (.int p14), none, some (.int p16), none, none, some (.int p19), some (.int p20), some (.int p21), none, none, none, none, none] [.int v2] G Post
      refine j_iload d_La_law_763 rfl ?_
      obtain ⟨Ha, Hb⟩ := H
      refine j_icmp_ne (tgt := 781) d_La_law_765 (by decide) (fun c8 => ?_) (fun c9 => ?_)
      · have H := Ha c8
        refine j_forget (L' := [some (.ref a0), some (.ref a1), some (.ref a2), some (.ref a3), none, some (.int p5), some (.int p6), some (.int p7), some (.int p8), none, some (.int p10), some (.int ((s0 + s1))), some (.int p12), some (.int p13), some (.int p14), none, some (.int p16), none, none, some (.int p19), none, none, none, none, none, none, none]) ⟨Or.inr rfl, Or.inr rfl, Or.inr rfl, Or.inr rfl, Or.inl rfl, Or.inr rfl, Or.inr rfl, Or.inr rfl, Or.inr rfl, Or.inl rfl, Or.inr rfl, Or.inr rfl, Or.inr rfl, Or.inr rfl, Or.inr rfl, Or.inl rfl, Or.inr rfl, Or.inl rfl, Or.inl rfl, Or.inr rfl, Or.inl rfl, Or.inl rfl, Or.inl rfl, Or.inl rfl, Or.inl rfl, Or.inl rfl, Or.inl rfl, trivial⟩ ?_
        exact H
      · have H := Hb c9
        refine j_aload_n d_La_law_768 rfl ?_
        obtain ⟨v4, k5, H⟩ := H
        refine j_callV (d' := 1) (ci := 9) (As := []) (rest := []) (b := a1) cv_La_77 me_St_uncommitted rfl (by decide) rfl rfl t1 rfl rfl (Nat.le_of_ble_eq_true rfl) d_La_law_769 (by decide) rfl (k5 _ ?_)
        show J E 15 m_La_law 772 [some (.ref a0), some (.ref a1), some (.ref a2), some (.ref a3), none, some (.int p5), some (.int p6), some (.int p7), some (.int p8), none, some (.int p10), some (.int ((s0 + s1))), some (.int p12), some (.int p13), some (.int p14), none, some (.int p16), none, none, some (.int p19), some (.int p20), some (.int p21), none, none, none, none, none] [.int v4] G Post
        refine j_iload d_La_law_772 rfl ?_
        obtain ⟨Ha, Hb⟩ := H
        refine j_icmp_ne (tgt := 781) d_La_law_774 (by decide) (fun c6 => ?_) (fun c7 => ?_)
        · have H := Ha c6
          refine j_forget (L' := [some (.ref a0), some (.ref a1), some (.ref a2), some (.ref a3), none, some (.int p5), some (.int p6), some (.int p7), some (.int p8), none, some (.int p10), some (.int ((s0 + s1))), some (.int p12), some (.int p13), some (.int p14), none, some (.int p16), none, none, some (.int p19), none, none, none, none, none, none, none]) ⟨Or.inr rfl, Or.inr rfl, Or.inr rfl, Or.inr rfl, Or.inl rfl, Or.inr rfl, Or.inr rfl, Or.inr rfl, Or.inr rfl, Or.inl rfl, Or.inr rfl, Or.inr rfl, Or.inr rfl, Or.inr rfl, Or.inr rfl, Or.inl rfl, Or.inr rfl, Or.inl rfl, Or.inl rfl, Or.inr rfl, Or.inl rfl, Or.inl rfl, Or.inl rfl, Or.inl rfl, Or.inl rfl, Or.inl rfl, Or.inl rfl, trivial⟩ ?_
          exact H
        · have H := Hb c7
          refine j_iconst (v := 1) d_La_law_777 (by decide) ?_
          refine j_goto (tgt := 782) d_La_law_778 (by decide) ?_
          refine j_forget (L' := [some (.ref a0), some (.ref a1), some (.ref a2), some (.ref a3), none, some (.int p5), some (.int p6), some (.int p7), some (.int p8), none, some (.int p10), some (.int ((s0 + s1))), some (.int p12), some (.int p13), some (.int p14), none, some (.int p16), none, none, some (.int p19), none, none, none, none, none, none, none]) ⟨Or.inr rfl, Or.inr rfl, Or.inr rfl, Or.inr rfl, Or.inl rfl, Or.inr rfl, Or.inr rfl, Or.inr rfl, Or.inr rfl, Or.inl rfl, Or.inr rfl, Or.inr rfl, Or.inr rfl, Or.inr rfl, Or.inr rfl, Or.inl rfl, Or.inr rfl, Or.inl rfl, Or.inl rfl, Or.inr rfl, Or.inl rfl, Or.inl rfl, Or.inl rfl, Or.inl rfl, Or.inl rfl, Or.inl rfl, Or.inl rfl, trivial⟩ ?_
          exact H
  · have H := Hb c13
    refine j_iload d_La_law_747 rfl ?_
    refine j_goto (tgt := 782) d_La_law_749 (by decide) ?_
    refine j_forget (L' := [some (.ref a0), some (.ref a1), some (.ref a2), some (.ref a3), none, some (.int p5), some (.int p6), some (.int p7), some (.int p8), none, some (.int p10), some (.int ((s0 + s1))), some (.int p12), some (.int p13), some (.int p14), none, some (.int p16), none, none, some (.int p19), none, none, none, none, none, none, none]) ⟨Or.inr rfl, Or.inr rfl, Or.inr rfl, Or.inr rfl, Or.inl rfl, Or.inr rfl, Or.inr rfl, Or.inr rfl, Or.inr rfl, Or.inl rfl, Or.inr rfl, Or.inr rfl, Or.inr rfl, Or.inr rfl, Or.inr rfl, Or.inl rfl, Or.inr rfl, Or.inl rfl, Or.inl rfl, Or.inr rfl, Or.inl rfl, Or.inl rfl, Or.inl rfl, Or.inl rfl, Or.inl rfl, Or.inl rfl, Or.inl rfl, trivial⟩ ?_
    exact H
theorem wp_La_law_569 {E : EV} {G : GH} {Post : Res → GH → Prop} (a0 : Nat) (a1 : Nat) (a2 : Nat) (a3 : Nat) (p5 : Int32) (p6 : Int32) (p7 : Int32) (p8 : Int32) (p10 : Int32) (p11 : Int32) (p12 : Int32) (p13 : Int32) (p14 : Int32) (p16 : Int32) (p18 : Int32) (p19 : Int32) (p20 : Int32) (p21 : Int32) (p22 : Int32) (p23 : Int32) (p24 : Int32) (H : J E 15 m_La_law 570 [some (.ref a0), some (.ref a1), some (.ref a2), some (.ref a3), none, some (.int p5), some (.int p6), some (.int p7), some (.int p8), none, some (.int p10), some (.int p11), some (.int p12), some (.int p13), some (.int p14), none, some (.int p16), none, some (.int p18), some (.int p19), some (.int p20), some (.int p21), some (.int p22), some (.int p23), some (.int p24), none, none] [.int ((0 : Int32))] G Post) : J E 15 m_La_law 569 [some (.ref a0), some (.ref a1), some (.ref a2), some (.ref a3), none, some (.int p5), some (.int p6), some (.int p7), some (.int p8), none, some (.int p10), some (.int p11), some (.int p12), some (.int p13), some (.int p14), none, some (.int p16), none, some (.int p18), some (.int p19), some (.int p20), some (.int p21), some (.int p22), some (.int p23), some (.int p24), none, none] [] G Post := by
  refine j_iconst (v := 0) d_La_law_569 (by decide) ?_
  exact H
theorem wp_La_law_570 {E : EV} {G : GH} {Post : Res → GH → Prop} (a0 : Nat) (a1 : Nat) (a2 : Nat) (a3 : Nat) (p5 : Int32) (p6 : Int32) (p7 : Int32) (p8 : Int32) (p10 : Int32) (p11 : Int32) (p12 : Int32) (p13 : Int32) (p14 : Int32) (p16 : Int32) (p18 : Int32) (p19 : Int32) (p20 : Int32) (p21 : Int32) (p22 : Int32) (p23 : Int32) (p24 : Int32) (s0 : Int32) (H : (p21 = (-13 : Int32) → J E 15 m_La_law 590 [some (.ref a0), some (.ref a1), some (.ref a2), some (.ref a3), none, some (.int p5), some (.int p6), some (.int p7), some (.int p8), none, some (.int p10), some (.int p11), some (.int p12), some (.int p13), some (.int p14), none, some (.int p16), none, some (.int p18), some (.int p19), some (.int p20), some (.int p21), some (.int p22), some (.int p23), some (.int p24), some (.int s0), none] [] G Post) ∧ (¬ p21 = (-13 : Int32) → (p21 < 0 → J E 15 m_La_law 680 [some (.ref a0), some (.ref a1), some (.ref a2), some (.ref a3), none, some (.int p5), some (.int p6), some (.int p7), some (.int p8), none, some (.int p10), some (.int p11), some (.int p12), some (.int p13), some (.int p14), none, some (.int p16), none, none, some (.int p19), none, some (.int p21), none, none, none, none, none] [] G Post) ∧ (¬ p21 < 0 → ((5 : Int32) ≤ p21 → J E 15 m_La_law 680 [some (.ref a0), some (.ref a1), some (.ref a2), some (.ref a3), none, some (.int p5), some (.int p6), some (.int p7), some (.int p8), none, some (.int p10), some (.int p11), some (.int p12), some (.int p13), some (.int p14), none, some (.int p16), none, none, some (.int p19), none, some (.int p21), none, none, none, none, none] [] G Post) ∧ (¬ (5 : Int32) ≤ p21 → J E 15 m_La_law 590 [some (.ref a0), some (.ref a1), some (.ref a2), some (.ref a3), none, some (.int p5), some (.int p6), some (.int p7), some (.int p8), none, some (.int p10), some (.int p11), some (.int p12), some (.int p13), some (.int p14), none, some (.int p16), none, some (.int p18), some (.int p19), some (.int p20), some (.int p21), some (.int p22), some (.int p23), some (.int p24), some (.int s0), none] [] G Post)))) : J E 15 m_La_law 570 [some (.ref a0), some (.ref a1), some (.ref a2), some (.ref a3), none, some (.int p5), some (.int p6), some (.int p7), some (.int p8), none, some (.int p10), some (.int p11), some (.int p12), some (.int p13), some (.int p14), none, some (.int p16), none, some (.int p18), some (.int p19), some (.int p20), some (.int p21), some (.int p22), some (.int p23), some (.int p24), none, none] [.int s0] G Post := by
  refine j_istore (L' := [some (.ref a0), some (.ref a1), some (.ref a2), some (.ref a3), none, some (.int p5), some (.int p6), some (.int p7), some (.int p8), none, some (.int p10), some (.int p11), some (.int p12), some (.int p13), some (.int p14), none, some (.int p16), none, some (.int p18), some (.int p19), some (.int p20), some (.int p21), some (.int p22), some (.int p23), some (.int p24), some (.int s0), none]) d_La_law_570 (by decide) rfl ?_
  refine j_iload d_La_law_572 rfl ?_
  refine j_bipush (v := -13) d_La_law_574 (by decide) ?_
  obtain ⟨Ha, Hb⟩ := H
  refine j_icmp_eq (tgt := 590) d_La_law_576 (by decide) (fun c5 => ?_) (fun c6 => ?_)
  · have H := Ha c5
    exact H
  · have H := Hb c6
    refine j_iload d_La_law_579 rfl ?_
    obtain ⟨Ha, Hb⟩ := H
    refine j_if_lt (tgt := 680) d_La_law_581 (by decide) (fun c3 => ?_) (fun c4 => ?_)
    · have H := Ha c3
      refine j_forget (L' := [some (.ref a0), some (.ref a1), some (.ref a2), some (.ref a3), none, some (.int p5), some (.int p6), some (.int p7), some (.int p8), none, some (.int p10), some (.int p11), some (.int p12), some (.int p13), some (.int p14), none, some (.int p16), none, none, some (.int p19), none, some (.int p21), none, none, none, none, none]) ⟨Or.inr rfl, Or.inr rfl, Or.inr rfl, Or.inr rfl, Or.inl rfl, Or.inr rfl, Or.inr rfl, Or.inr rfl, Or.inr rfl, Or.inl rfl, Or.inr rfl, Or.inr rfl, Or.inr rfl, Or.inr rfl, Or.inr rfl, Or.inl rfl, Or.inr rfl, Or.inl rfl, Or.inl rfl, Or.inr rfl, Or.inl rfl, Or.inr rfl, Or.inl rfl, Or.inl rfl, Or.inl rfl, Or.inl rfl, Or.inl rfl, trivial⟩ ?_
      exact H
    · have H := Hb c4
      refine j_iload d_La_law_584 rfl ?_
      refine j_iconst (v := 5) d_La_law_586 (by decide) ?_
      obtain ⟨Ha, Hb⟩ := H
      refine j_icmp_ge (tgt := 680) d_La_law_587 (by decide) (fun c1 => ?_) (fun c2 => ?_)
      · have H := Ha c1
        refine j_forget (L' := [some (.ref a0), some (.ref a1), some (.ref a2), some (.ref a3), none, some (.int p5), some (.int p6), some (.int p7), some (.int p8), none, some (.int p10), some (.int p11), some (.int p12), some (.int p13), some (.int p14), none, some (.int p16), none, none, some (.int p19), none, some (.int p21), none, none, none, none, none]) ⟨Or.inr rfl, Or.inr rfl, Or.inr rfl, Or.inr rfl, Or.inl rfl, Or.inr rfl, Or.inr rfl, Or.inr rfl, Or.inr rfl, Or.inl rfl, Or.inr rfl, Or.inr rfl, Or.inr rfl, Or.inr rfl, Or.inr rfl, Or.inl rfl, Or.inr rfl, Or.inl rfl, Or.inl rfl, Or.inr rfl, Or.inl rfl, Or.inr rfl, Or.inl rfl, Or.inl rfl, Or.inl rfl, Or.inl rfl, Or.inl rfl, trivial⟩ ?_
        exact H
      · have H := Hb c2
        exact H
theorem wp_La_law_478 {E : EV} {G : GH} {Post : Res → GH → Prop} (a0 : Nat) (a1 : Nat) (a2 : Nat) (a3 : Nat) (p5 : Int32) (p6 : Int32) (p7 : Int32) (p8 : Int32) (p10 : Int32) (p11 : Int32) (p12 : Int32) (p13 : Int32) (p14 : Int32) (p16 : Int32) (p18 : Int32) (p19 : Int32) (p21 : Int32) (p22 : Int32) (s0 : Int32) (H : J E 15 m_La_law 480 [some (.ref a0), some (.ref a1), some (.ref a2), some (.ref a3), none, some (.int p5), some (.int p6), some (.int p7), some (.int p8), none, some (.int p10), some (.int p11), some (.int p12), some (.int p13), some (.int p14), none, some (.int p16), none, some (.int p18), some (.int p19), none, some (.int p21), some (.int p22), none, none, none, none] [.int ((-13 : Int32)), .int s0] G Post) : J E 15 m_La_law 478 [some (.ref a0), some (.ref a1), some (.ref a2), some (.ref a3), none, some (.int p5), some (.int p6), some (.int p7), some (.int p8), none, some (.int p10), some (.int p11), some (.int p12), some (.int p13), some (.int p14), none, some (.int p16), none, some (.int p18), some (.int p19), none, some (.int p21), some (.int p22), none, none, none, none] [.int s0] G Post := by
  refine j_bipush (v := -13) d_La_law_478 (by decide) ?_
  exact H
theorem wp_La_law_480 {E : EV} {G : GH} {Post : Res → GH → Prop} (a0 : Nat) (a1 : Nat) (a2 : Nat) (a3 : Nat) (p5 : Int32) (p6 : Int32) (p7 : Int32) (p8 : Int32) (p10 : Int32) (p11 : Int32) (p12 : Int32) (p13 : Int32) (p14 : Int32) (p16 : Int32) (p18 : Int32) (p19 : Int32) (p21 : Int32) (p22 : Int32) (s0 : Int32) (s1 : Int32) (H : (¬ s0 = s1 → J E 15 m_La_law 509 [some (.ref a0), some (.ref a1), some (.ref a2), some (.ref a3), none, some (.int p5), some (.int p6), some (.int p7), some (.int p8), none, some (.int p10), some (.int p11), some (.int p12), some (.int p13), some (.int p14), none, some (.int p16), none, none, some (.int p19), none, none, none, none, none, none, none] [] G Post) ∧ (s0 = s1 → gT G a1 = 10 ∧ ∃ v2, AK E 2 m_St_offset [.ref a1, .int p18] G v2 ∧ (p21 ≤ 0 → J E 15 m_La_law 501 [some (.ref a0), some (.ref a1), some (.ref a2), some (.ref a3), none, some (.int p5), some (.int p6), some (.int p7), some (.int p8), none, some (.int p10), some (.int p11), some (.int p12), some (.int p13), some (.int p14), none, some (.int p16), none, none, some (.int p19), none, none, none, none, none, none, none] [.int ((0 : Int32)), .int p22, .int v2] G Post) ∧ (¬ p21 ≤ 0 → J E 15 m_La_law 501 [some (.ref a0), some (.ref a1), some (.ref a2), some (.ref a3), none, some (.int p5), some (.int p6), some (.int p7), some (.int p8), none, some (.int p10), some (.int p11), some (.int p12), some (.int p13), some (.int p14), none, some (.int p16), none, none, some (.int p19), none, none, none, none, none, none, none] [.int ((1 : Int32)), .int p22, .int v2] G Post))) : J E 15 m_La_law 480 [some (.ref a0), some (.ref a1), some (.ref a2), some (.ref a3), none, some (.int p5), some (.int p6), some (.int p7), some (.int p8), none, some (.int p10), some (.int p11), some (.int p12), some (.int p13), some (.int p14), none, some (.int p16), none, some (.int p18), some (.int p19), none, some (.int p21), some (.int p22), none, none, none, none] [.int s1, .int s0] G Post := by
  obtain ⟨Ha, Hb⟩ := H
  refine j_icmp_ne (tgt := 509) d_La_law_480 (by decide) (fun c6 => ?_) (fun c7 => ?_)
  · have H := Ha c6
    refine j_forget (L' := [some (.ref a0), some (.ref a1), some (.ref a2), some (.ref a3), none, some (.int p5), some (.int p6), some (.int p7), some (.int p8), none, some (.int p10), some (.int p11), some (.int p12), some (.int p13), some (.int p14), none, some (.int p16), none, none, some (.int p19), none, none, none, none, none, none, none]) ⟨Or.inr rfl, Or.inr rfl, Or.inr rfl, Or.inr rfl, Or.inl rfl, Or.inr rfl, Or.inr rfl, Or.inr rfl, Or.inr rfl, Or.inl rfl, Or.inr rfl, Or.inr rfl, Or.inr rfl, Or.inr rfl, Or.inr rfl, Or.inl rfl, Or.inr rfl, Or.inl rfl, Or.inl rfl, Or.inr rfl, Or.inl rfl, Or.inl rfl, Or.inl rfl, Or.inl rfl, Or.inl rfl, Or.inl rfl, Or.inl rfl, trivial⟩ ?_
    exact H
  · have H := Hb c7
    refine j_aload_n d_La_law_483 rfl ?_
    refine j_iload d_La_law_484 rfl ?_
    obtain ⟨t1, H⟩ := H
    obtain ⟨v2, k3, H⟩ := H
    refine j_callV (d' := 2) (ci := 9) (As := [.int p18]) (rest := []) (b := a1) cv_La_65 me_St_offset rfl (by decide) rfl rfl t1 rfl rfl (Nat.le_of_ble_eq_true rfl) d_La_law_486 (by decide) rfl (k3 _ ?_)
    show J E 15 m_La_law 489 [some (.ref a0), some (.ref a1), some (.ref a2), some (.ref a3), none, some (.int p5), some (.int p6), some (.int p7), some (.int p8), none, some (.int p10), some (.int p11), some (.int p12), some (.int p13), some (.int p14), none, some (.int p16), none, some (.int p18), some (.int p19), none, some (.int p21), some (.int p22), none, none, none, none] [.int v2] G Post
    refine j_iload d_La_law_489 rfl ?_
    refine j_iload d_La_law_491 rfl ?_
    obtain ⟨Ha, Hb⟩ := H
    refine j_if_le (tgt := 500) d_La_law_493 (by decide) (fun c4 => ?_) (fun c5 => ?_)
    · have H := Ha c4
      refine j_iconst (v := 0) d_La_law_500 (by decide) ?_
      refine j_forget (L' := [some (.ref a0), some (.ref a1), some (.ref a2), some (.ref a3), none, some (.int p5), some (.int p6), some (.int p7), some (.int p8), none, some (.int p10), some (.int p11), some (.int p12), some (.int p13), some (.int p14), none, some (.int p16), none, none, some (.int p19), none, none, none, none, none, none, none]) ⟨Or.inr rfl, Or.inr rfl, Or.inr rfl, Or.inr rfl, Or.inl rfl, Or.inr rfl, Or.inr rfl, Or.inr rfl, Or.inr rfl, Or.inl rfl, Or.inr rfl, Or.inr rfl, Or.inr rfl, Or.inr rfl, Or.inr rfl, Or.inl rfl, Or.inr rfl, Or.inl rfl, Or.inl rfl, Or.inr rfl, Or.inl rfl, Or.inl rfl, Or.inl rfl, Or.inl rfl, Or.inl rfl, Or.inl rfl, Or.inl rfl, trivial⟩ ?_
      exact H
    · have H := Hb c5
      refine j_iconst (v := 1) d_La_law_496 (by decide) ?_
      refine j_goto (tgt := 501) d_La_law_497 (by decide) ?_
      refine j_forget (L' := [some (.ref a0), some (.ref a1), some (.ref a2), some (.ref a3), none, some (.int p5), some (.int p6), some (.int p7), some (.int p8), none, some (.int p10), some (.int p11), some (.int p12), some (.int p13), some (.int p14), none, some (.int p16), none, none, some (.int p19), none, none, none, none, none, none, none]) ⟨Or.inr rfl, Or.inr rfl, Or.inr rfl, Or.inr rfl, Or.inl rfl, Or.inr rfl, Or.inr rfl, Or.inr rfl, Or.inr rfl, Or.inl rfl, Or.inr rfl, Or.inr rfl, Or.inr rfl, Or.inr rfl, Or.inr rfl, Or.inl rfl, Or.inr rfl, Or.inl rfl, Or.inl rfl, Or.inr rfl, Or.inl rfl, Or.inl rfl, Or.inl rfl, Or.inl rfl, Or.inl rfl, Or.inl rfl, Or.inl rfl, trivial⟩ ?_
      exact H
theorem wp_La_law_367 {E : EV} {G : GH} {Post : Res → GH → Prop} (a0 : Nat) (a1 : Nat) (a2 : Nat) (a3 : Nat) (p5 : Int32) (p6 : Int32) (p7 : Int32) (p8 : Int32) (p10 : Int32) (p11 : Int32) (p12 : Int32) (p13 : Int32) (p14 : Int32) (p16 : Int32) (p18 : Int32) (p19 : Int32) (s0 : Int32) (H : (gT G a2 = 20 ∨ gT G a2 = 25) ∧ ∃ n3, IX p18 n3 (gN G a2) ∧ ((40 : Int32) ≤ (gA G a2 n3) → J E 15 m_La_law 389 [some (.ref a0), some (.ref a1), some (.ref a2), some (.ref a3), none, some (.int p5), some (.int p6), some (.int p7), some (.int p8), none, some (.int p10), some (.int p11), some (.int p12), some (.int p13), some (.int p14), none, some (.int p16), none, some (.int p18), some (.int p19), none, some (.int s0), none, none, none, none, none] [.int ((-13 : Int32)), .int s0] G Post) ∧ (¬ (40 : Int32) ≤ (gA G a2 n3) → J E 15 m_La_law 389 [some (.ref a0), some (.ref a1), some (.ref a2), some (.ref a3), none, some (.int p5), some (.int p6), some (.int p7), some (.int p8), none, some (.int p10), some (.int p11), some (.int p12), some (.int p13), some (.int p14), none, some (.int p16), none, some (.int p18), some (.int p19), none, some (.int s0), none, none, none, none, none] [.int ((gA G a2 n3)), .int s0] G Post)) : J E 15 m_La_law 367 [some (.ref a0), some (.ref a1), some (.ref a2), some (.ref a3), none, some (.int p5), some (.int p6), some (.int p7), some (.int p8), none, some (.int p10), some (.int p11), some (.int p12), some (.int p13), some (.int p14), none, some (.int p16), none, some (.int p18), some (.int p19), none, none, none, none, none, none, none] [.int s0] G Post := by
  refine j_istore (L' := [some (.ref a0), some (.ref a1), some (.ref a2), some (.ref a3), none, some (.int p5), some (.int p6), some (.int p7), some (.int p8), none, some (.int p10), some (.int p11), some (.int p12), some (.int p13), some (.int p14), none, some (.int p16), none, some (.int p18), some (.int p19), none, some (.int s0), none, none, none, none, none]) d_La_law_367 (by decide) rfl ?_
  refine j_iload d_La_law_369 rfl ?_
  refine j_aload_n d_La_law_371 rfl ?_
  refine j_iload d_La_law_372 rfl ?_
  obtain ⟨t1, H⟩ := H
  obtain ⟨n3, x2, H⟩ := H
  refine j_iald (n := n3) t1 x2 d_La_law_374 ?_
  refine j_bipush (v := 40) d_La_law_375 (by decide) ?_
  obtain ⟨Ha, Hb⟩ := H
  refine j_icmp_ge (tgt := 387) d_La_law_377 (by decide) (fun c4 => ?_) (fun c5 => ?_)
  · have H := Ha c4
    refine j_bipush (v := -13) d_La_law_387 (by decide) ?_
    exact H
  · have H := Hb c5
    refine j_aload_n d_La_law_380 rfl ?_
    refine j_iload d_La_law_381 rfl ?_
    refine j_iald (n := n3) t1 x2 d_La_law_383 ?_
    refine j_goto (tgt := 389) d_La_law_384 (by decide) ?_
    exact H
theorem wp_La_law_1026 {E : EV} {G : GH} {Post : Res → GH → Prop} (a0 : Nat) (a1 : Nat) (a2 : Nat) (a3 : Nat) (p5 : Int32) (p6 : Int32) (p7 : Int32) (p8 : Int32) (p10 : Int32) (p11 : Int32) (p12 : Int32) (p13 : Int32) (p14 : Int32) (p16 : Int32) (p19 : Int32) (p20 : Int32) (p21 : Int32) (p22 : Int32) (H : J E 15 m_La_law 1028 [some (.ref a0), some (.ref a1), some (.ref a2), some (.ref a3), none, some (.int p5), some (.int p6), some (.int p7), some (.int p8), none, some (.int p10), some (.int p11), none, some (.int p13), some (.int p14), none, some (.int p16), none, none, some (.int p19), some (.int p20), some (.int p21), some (.int p22), none, none, none, none] [.int p12] G Post) : J E 15 m_La_law 1026 [some (.ref a0), some (.ref a1), some (.ref a2), some (.ref a3), none, some (.int p5), some (.int p6), some (.int p7), some (.int p8), none, some (.int p10), some (.int p11), some (.int p12), some (.int p13), some (.int p14), none, some (.int p16), none, none, some (.int p19), some (.int p20), some (.int p21), some (.int p22), none, none, none, none] [] G Post := by
  refine j_iload d_La_law_1026 rfl ?_
  refine j_forget (L' := [some (.ref a0), some (.ref a1), some (.ref a2), some (.ref a3), none, some (.int p5), some (.int p6), some (.int p7), some (.int p8), none, some (.int p10), some (.int p11), none, some (.int p13), some (.int p14), none, some (.int p16), none, none, some (.int p19), some (.int p20), some (.int p21), some (.int p22), none, none, none, none]) ⟨Or.inr rfl, Or.inr rfl, Or.inr rfl, Or.inr rfl, Or.inl rfl, Or.inr rfl, Or.inr rfl, Or.inr rfl, Or.inr rfl, Or.inl rfl, Or.inr rfl, Or.inr rfl, Or.inl rfl, Or.inr rfl, Or.inr rfl, Or.inl rfl, Or.inr rfl, Or.inl rfl, Or.inl rfl, Or.inr rfl, Or.inr rfl, Or.inr rfl, Or.inr rfl, Or.inl rfl, Or.inl rfl, Or.inl rfl, Or.inl rfl, trivial⟩ ?_
  exact H
theorem wp_La_law_1028 {E : EV} {G : GH} {Post : Res → GH → Prop} (a0 : Nat) (a1 : Nat) (a2 : Nat) (a3 : Nat) (p5 : Int32) (p6 : Int32) (p7 : Int32) (p8 : Int32) (p10 : Int32) (p11 : Int32) (p13 : Int32) (p14 : Int32) (p16 : Int32) (p19 : Int32) (p20 : Int32) (p21 : Int32) (p22 : Int32) (s0 : Int32) (H : (¬ p21 = (-13 : Int32) → (p22 = 0 → ((7 : Int32) ≤ p21 → J E 15 m_La_law 1097 [some (.ref a0), some (.ref a1), some (.ref a2), some (.ref a3), none, some (.int p5), some (.int p6), some (.int p7), some (.int p8), none, some (.int p10), some (.int p11), some (.int s0), some (.int p13), some (.int p14), none, some (.int p16), none, none, some (.int p19), none, some (.int p21), some (.int p22), none, none, none, none] [.int ((0 : Int32))] G Post) ∧ (¬ (7 : Int32) ≤ p21 → J E 15 m_La_law 1097 [some (.ref a0), some (.ref a1), some (.ref a2), some (.ref a3), none, some (.int p5), some (.int p6), some (.int p7), some (.int p8), none, some (.int p10), some (.int p11), some (.int s0), some (.int p13), some (.int p14), none, some (.int p16), none, none, some (.int p19), none, some (.int p21), some (.int p22), none, none, none, none] [.int ((1 : Int32))] G Post)) ∧ (¬ p22 = 0 → (p21 < p10 → J E 15 m_La_law 1081 [some (.ref a0), some (.ref a1), some (.ref a2), some (.ref a3), none, some (.int p5), some (.int p6), some (.int p7), some (.int p8), none, some (.int p10), some (.int p11), some (.int s0), some (.int p13), some (.int p14), none, some (.int p16), none, none, some (.int p19), none, some (.int p21), some (.int p22), none, none, none, none] [] G Post) ∧ (¬ p21 < p10 → ((p10 + p20) < p21 → J E 15 m_La_law 1081 [some (.ref a0), some (.ref a1), some (.ref a2), some (.ref a3), none, some (.int p5), some (.int p6), some (.int p7), some (.int p8), none, some (.int p10), some (.int p11), some (.int s0), some (.int p13), some (.int p14), none, some (.int p16), none, none, some (.int p19), none, some (.int p21), some (.int p22), none, none, none, none] [] G Post) ∧ (¬ (p10 + p20) < p21 → J E 15 m_La_law 1097 [some (.ref a0), some (.ref a1), some (.ref a2), some (.ref a3), none, some (.int p5), some (.int p6), some (.int p7), some (.int p8), none, some (.int p10), some (.int p11), some (.int s0), some (.int p13), some (.int p14), none, some (.int p16), none, none, some (.int p19), none, some (.int p21), some (.int p22), none, none, none, none] [.int ((1 : Int32))] G Post)))) ∧ (p21 = (-13 : Int32) → (¬ p11 = 0 → J E 15 m_La_law 1051 [some (.ref a0), some (.ref a1), some (.ref a2), some (.ref a3), none, some (.int p5), some (.int p6), some (.int p7), some (.int p8), none, some (.int p10), some (.int p11), some (.int s0), some (.int p13), some (.int p14), none, some (.int p16), none, none, some (.int p19), none, some (.int p21), some (.int p22), none, none, none, none] [] G Post) ∧ (p11 = 0 → (¬ p22 = 0 → J E 15 m_La_law 1051 [some (.ref a0), some (.ref a1), some (.ref a2), some (.ref a3), none, some (.int p5), some (.int p6), some (.int p7), some (.int p8), none, some (.int p10), some (.int p11), some (.int s0), some (.int p13), some (.int p14), none, some (.int p16), none, none, some (.int p19), none, some (.int p21), some (.int p22), none, none, none, none] [] G Post) ∧ (p22 = 0 → J E 15 m_La_law 1097 [some (.ref a0), some (.ref a1), some (.ref a2), some (.ref a3), none, some (.int p5), some (.int p6), some (.int p7), some (.int p8), none, some (.int p10), some (.int p11), some (.int s0), some (.int p13), some (.int p14), none, some (.int p16), none, none, some (.int p19), none, some (.int p21), some (.int p22), none, none, none, none] [.int ((1 : Int32))] G Post)))) : J E 15 m_La_law 1028 [some (.ref a0), some (.ref a1), some (.ref a2), some (.ref a3), none, some (.int p5), some (.int p6), some (.int p7), some (.int p8), none, some (.int p10), some (.int p11), none, some (.int p13), some (.int p14), none, some (.int p16), none, none, some (.int p19), some (.int p20), some (.int p21), some (.int p22), none, none, none, none] [.int s0] G Post := by
  refine j_istore (L' := [some (.ref a0), some (.ref a1), some (.ref a2), some (.ref a3), none, some (.int p5), some (.int p6), some (.int p7), some (.int p8), none, some (.int p10), some (.int p11), some (.int s0), some (.int p13), some (.int p14), none, some (.int p16), none, none, some (.int p19), some (.int p20), some (.int p21), some (.int p22), none, none, none, none]) d_La_law_1028 (by decide) rfl ?_
  refine j_iload d_La_law_1030 rfl ?_
  refine j_bipush (v := -13) d_La_law_1032 (by decide) ?_
  obtain ⟨Ha, Hb⟩ := H
  refine j_icmp_ne (tgt := 1055) d_La_law_1034 (by decide) (fun c13 => ?_) (fun c14 => ?_)
  · have H := Ha c13
    refine j_iload d_La_law_1055 rfl ?_
    obtain ⟨Ha, Hb⟩ := H
    refine j_if_eq (tgt := 1085) d_La_law_1057 (by decide) (fun c7 => ?_) (fun c8 => ?_)
    · have H := Ha c7
      refine j_iload d_La_law_1085 rfl ?_
      refine j_bipush (v := 7) d_La_law_1087 (by decide) ?_
      obtain ⟨Ha, Hb⟩ := H
      refine j_icmp_ge (tgt := 1096) d_La_law_1089 (by decide) (fun c1 => ?_) (fun c2 => ?_)
      · have H := Ha c1
        refine j_iconst (v := 0) d_La_law_1096 (by decide) ?_
        refine j_forget (L' := [some (.ref a0), some (.ref a1), some (.ref a2), some (.ref a3), none, some (.int p5), some (.int p6), some (.int p7), some (.int p8), none, some (.int p10), some (.int p11), some (.int s0), some (.int p13), some (.int p14), none, some (.int p16), none, none, some (.int p19), none, some (.int p21), some (.int p22), none, none, none, none]) ⟨Or.inr rfl, Or.inr rfl, Or.inr rfl, Or.inr rfl, Or.inl rfl, Or.inr rfl, Or.inr rfl, Or.inr rfl, Or.inr rfl, Or.inl rfl, Or.inr rfl, Or.inr rfl, Or.inr rfl, Or.inr rfl, Or.inr rfl, Or.inl rfl, Or.inr rfl, Or.inl rfl, Or.inl rfl, Or.inr rfl, Or.inl rfl, Or.inr rfl, Or.inr rfl, Or.inl rfl, Or.inl rfl, Or.inl rfl, Or.inl rfl, trivial⟩ ?_
        exact H
      · have H := Hb c2
        refine j_iconst (v := 1) d_La_law_1092 (by decide) ?_
        refine j_goto (tgt := 1097) d_La_law_1093 (by decide) ?_
        refine j_forget (L' := [some (.ref a0), some (.ref a1), some (.ref a2), some (.ref a3), none, some (.int p5), some (.int p6), some (.int p7), some (.int p8), none, some (.int p10), some (.int p11), some (.int s0), some (.int p13), some (.int p14), none, some (.int p16), none, none, some (.int p19), none, some (.int p21), some (.int p22), none, none, none, none]) ⟨Or.inr rfl, Or.inr rfl, Or.inr rfl, Or.inr rfl, Or.inl rfl, Or.inr rfl, Or.inr rfl, Or.inr rfl, Or.inr rfl, Or.inl rfl, Or.inr rfl, Or.inr rfl, Or.inr rfl, Or.inr rfl, Or.inr rfl, Or.inl rfl, Or.inr rfl, Or.inl rfl, Or.inl rfl, Or.inr rfl, Or.inl rfl, Or.inr rfl, Or.inr rfl, Or.inl rfl, Or.inl rfl, Or.inl rfl, Or.inl rfl, trivial⟩ ?_
        exact H
    · have H := Hb c8
      refine j_iload d_La_law_1060 rfl ?_
      refine j_iload d_La_law_1062 rfl ?_
      obtain ⟨Ha, Hb⟩ := H
      refine j_icmp_lt (tgt := 1081) d_La_law_1064 (by decide) (fun c5 => ?_) (fun c6 => ?_)
      · have H := Ha c5
        refine j_forget (L' := [some (.ref a0), some (.ref a1), some (.ref a2), some (.ref a3), none, some (.int p5), some (.int p6), some (.int p7), some (.int p8), none, some (.int p10), some (.int p11), some (.int s0), some (.int p13), some (.int p14), none, some (.int p16), none, none, some (.int p19), none, some (.int p21), some (.int p22), none, none, none, none]) ⟨Or.inr rfl, Or.inr rfl, Or.inr rfl, Or.inr rfl, Or.inl rfl, Or.inr rfl, Or.inr rfl, Or.inr rfl, Or.inr rfl, Or.inl rfl, Or.inr rfl, Or.inr rfl, Or.inr rfl, Or.inr rfl, Or.inr rfl, Or.inl rfl, Or.inr rfl, Or.inl rfl, Or.inl rfl, Or.inr rfl, Or.inl rfl, Or.inr rfl, Or.inr rfl, Or.inl rfl, Or.inl rfl, Or.inl rfl, Or.inl rfl, trivial⟩ ?_
        exact H
      · have H := Hb c6
        refine j_iload d_La_law_1067 rfl ?_
        refine j_iload d_La_law_1069 rfl ?_
        refine j_iload d_La_law_1071 rfl ?_
        refine j_iadd d_La_law_1073 ?_
        obtain ⟨Ha, Hb⟩ := H
        refine j_icmp_gt (tgt := 1081) d_La_law_1074 (by decide) (fun c3 => ?_) (fun c4 => ?_)
        · have H := Ha c3
          refine j_forget (L' := [some (.ref a0), some (.ref a1), some (.ref a2), some (.ref a3), none, some (.int p5), some (.int p6), some (.int p7), some (.int p8), none, some (.int p10), some (.int p11), some (.int s0), some (.int p13), some (.int p14), none, some (.int p16), none, none, some (.int p19), none, some (.int p21), some (.int p22), none, none, none, none]) ⟨Or.inr rfl, Or.inr rfl, Or.inr rfl, Or.inr rfl, Or.inl rfl, Or.inr rfl, Or.inr rfl, Or.inr rfl, Or.inr rfl, Or.inl rfl, Or.inr rfl, Or.inr rfl, Or.inr rfl, Or.inr rfl, Or.inr rfl, Or.inl rfl, Or.inr rfl, Or.inl rfl, Or.inl rfl, Or.inr rfl, Or.inl rfl, Or.inr rfl, Or.inr rfl, Or.inl rfl, Or.inl rfl, Or.inl rfl, Or.inl rfl, trivial⟩ ?_
          exact H
        · have H := Hb c4
          refine j_iconst (v := 1) d_La_law_1077 (by decide) ?_
          refine j_goto (tgt := 1097) d_La_law_1078 (by decide) ?_
          refine j_forget (L' := [some (.ref a0), some (.ref a1), some (.ref a2), some (.ref a3), none, some (.int p5), some (.int p6), some (.int p7), some (.int p8), none, some (.int p10), some (.int p11), some (.int s0), some (.int p13), some (.int p14), none, some (.int p16), none, none, some (.int p19), none, some (.int p21), some (.int p22), none, none, none, none]) ⟨Or.inr rfl, Or.inr rfl, Or.inr rfl, Or.inr rfl, Or.inl rfl, Or.inr rfl, Or.inr rfl, Or.inr rfl, Or.inr rfl, Or.inl rfl, Or.inr rfl, Or.inr rfl, Or.inr rfl, Or.inr rfl, Or.inr rfl, Or.inl rfl, Or.inr rfl, Or.inl rfl, Or.inl rfl, Or.inr rfl, Or.inl rfl, Or.inr rfl, Or.inr rfl, Or.inl rfl, Or.inl rfl, Or.inl rfl, Or.inl rfl, trivial⟩ ?_
          exact H
  · have H := Hb c14
    refine j_iload d_La_law_1037 rfl ?_
    obtain ⟨Ha, Hb⟩ := H
    refine j_if_ne (tgt := 1051) d_La_law_1039 (by decide) (fun c11 => ?_) (fun c12 => ?_)
    · have H := Ha c11
      refine j_forget (L' := [some (.ref a0), some (.ref a1), some (.ref a2), some (.ref a3), none, some (.int p5), some (.int p6), some (.int p7), some (.int p8), none, some (.int p10), some (.int p11), some (.int s0), some (.int p13), some (.int p14), none, some (.int p16), none, none, some (.int p19), none, some (.int p21), some (.int p22), none, none, none, none]) ⟨Or.inr rfl, Or.inr rfl, Or.inr rfl, Or.inr rfl, Or.inl rfl, Or.inr rfl, Or.inr rfl, Or.inr rfl, Or.inr rfl, Or.inl rfl, Or.inr rfl, Or.inr rfl, Or.inr rfl, Or.inr rfl, Or.inr rfl, Or.inl rfl, Or.inr rfl, Or.inl rfl, Or.inl rfl, Or.inr rfl, Or.inl rfl, Or.inr rfl, Or.inr rfl, Or.inl rfl, Or.inl rfl, Or.inl rfl, Or.inl rfl, trivial⟩ ?_
      exact H
    · have H := Hb c12
      refine j_iload d_La_law_1042 rfl ?_
      obtain ⟨Ha, Hb⟩ := H
      refine j_if_ne (tgt := 1051) d_La_law_1044 (by decide) (fun c9 => ?_) (fun c10 => ?_)
      · have H := Ha c9
        refine j_forget (L' := [some (.ref a0), some (.ref a1), some (.ref a2), some (.ref a3), none, some (.int p5), some (.int p6), some (.int p7), some (.int p8), none, some (.int p10), some (.int p11), some (.int s0), some (.int p13), some (.int p14), none, some (.int p16), none, none, some (.int p19), none, some (.int p21), some (.int p22), none, none, none, none]) ⟨Or.inr rfl, Or.inr rfl, Or.inr rfl, Or.inr rfl, Or.inl rfl, Or.inr rfl, Or.inr rfl, Or.inr rfl, Or.inr rfl, Or.inl rfl, Or.inr rfl, Or.inr rfl, Or.inr rfl, Or.inr rfl, Or.inr rfl, Or.inl rfl, Or.inr rfl, Or.inl rfl, Or.inl rfl, Or.inr rfl, Or.inl rfl, Or.inr rfl, Or.inr rfl, Or.inl rfl, Or.inl rfl, Or.inl rfl, Or.inl rfl, trivial⟩ ?_
        exact H
      · have H := Hb c10
        refine j_iconst (v := 1) d_La_law_1047 (by decide) ?_
        refine j_goto (tgt := 1097) d_La_law_1048 (by decide) ?_
        refine j_forget (L' := [some (.ref a0), some (.ref a1), some (.ref a2), some (.ref a3), none, some (.int p5), some (.int p6), some (.int p7), some (.int p8), none, some (.int p10), some (.int p11), some (.int s0), some (.int p13), some (.int p14), none, some (.int p16), none, none, some (.int p19), none, some (.int p21), some (.int p22), none, none, none, none]) ⟨Or.inr rfl, Or.inr rfl, Or.inr rfl, Or.inr rfl, Or.inl rfl, Or.inr rfl, Or.inr rfl, Or.inr rfl, Or.inr rfl, Or.inl rfl, Or.inr rfl, Or.inr rfl, Or.inr rfl, Or.inr rfl, Or.inr rfl, Or.inl rfl, Or.inr rfl, Or.inl rfl, Or.inl rfl, Or.inr rfl, Or.inl rfl, Or.inr rfl, Or.inr rfl, Or.inl rfl, Or.inl rfl, Or.inl rfl, Or.inl rfl, trivial⟩ ?_
        exact H
theorem wp_La_law_934 {E : EV} {G : GH} {Post : Res → GH → Prop} (a0 : Nat) (a1 : Nat) (a2 : Nat) (a3 : Nat) (p5 : Int32) (p6 : Int32) (p7 : Int32) (p8 : Int32) (p10 : Int32) (p11 : Int32) (p12 : Int32) (p13 : Int32) (p14 : Int32) (p16 : Int32) (p18 : Int32) (p19 : Int32) (p22 : Int32) (s0 : Int32) (s1 : Int32) (H : (¬ s0 = s1 → J E 15 m_La_law 942 [some (.ref a0), some (.ref a1), some (.ref a2), some (.ref a3), none, some (.int p5), some (.int p6), some (.int p7), some (.int p8), none, some (.int p10), some (.int p11), some (.int p12), some (.int p13), some (.int p14), none, some (.int p16), none, some (.int p18), some (.int p19), none, none, some (.int p22), none, none, none, none] [.int ((0 : Int32))] G Post) ∧ (s0 = s1 → J E 15 m_La_law 942 [some (.ref a0), some (.ref a1), some (.ref a2), some (.ref a3), none, some (.int p5), some (.int p6), some (.int p7), some (.int p8), none, some (.int p10), some (.int p11), some (.int p12), some (.int p13), some (.int p14), none, some (.int p16), none, some (.int p18), some (.int p19), none, none, some (.int p22), none, none, none, none] [.int ((1 : Int32))] G Post)) : J E 15 m_La_law 934 [some (.ref a0), some (.ref a1), some (.ref a2), some (.ref a3), none, some (.int p5), some (.int p6), some (.int p7), some (.int p8), none, some (.int p10), some (.int p11), some (.int p12), some (.int p13), some (.int p14), none, some (.int p16), none, some (.int p18), some (.int p19), none, none, some (.int p22), none, none, none, none] [.int s1, .int s0] G Post := by
  obtain ⟨Ha, Hb⟩ := H
  refine j_icmp_ne (tgt := 941) d_La_law_934 (by decide) (fun c1 => ?_) (fun c2 => ?_)
  · have H := Ha c1
    refine j_iconst (v := 0) d_La_law_941 (by decide) ?_
    exact H
  · have H := Hb c2
    refine j_iconst (v := 1) d_La_law_937 (by decide) ?_
    refine j_goto (tgt := 942) d_La_law_938 (by decide) ?_
    exact H
theorem wp_La_law_884 {E : EV} {G : GH} {Post : Res → GH → Prop} (a0 : Nat) (a1 : Nat) (a2 : Nat) (a3 : Nat) (p5 : Int32) (p6 : Int32) (p7 : Int32) (p8 : Int32) (p9 : Int32) (p11 : Int32) (p12 : Int32) (p13 : Int32) (p14 : Int32) (p16 : Int32) (p19 : Int32) (s0 : Int32) (H : J E 15 m_La_law 1209 [some (.ref a0), some (.ref a1), some (.ref a2), some (.ref a3), none, some (.int p5), some (.int p6), some (.int p7), some (.int p8), some (.int p9), some (.int s0), some (.int p11), some (.int p12), some (.int p13), some (.int p14), none, some (.int p16), none, none, some (.int p19), none, none, none, none, none, none, none] [] G Post) : J E 15 m_La_law 884 [some (.ref a0), some (.ref a1), some (.ref a2), some (.ref a3), none, some (.int p5), some (.int p6), some (.int p7), some (.int p8), some (.int p9), none, some (.int p11), some (.int p12), some (.int p13), some (.int p14), none, some (.int p16), none, none, some (.int p19), none, none, none, none, none, none, none] [.int s0] G Post := by
  refine j_istore (L' := [some (.ref a0), some (.ref a1), some (.ref a2), some (.ref a3), none, some (.int p5), some (.int p6), some (.int p7), some (.int p8), some (.int p9), some (.int s0), some (.int p11), some (.int p12), some (.int p13), some (.int p14), none, some (.int p16), none, none, some (.int p19), none, none, none, none, none, none, none]) d_La_law_884 (by decide) rfl ?_
  refine j_goto (tgt := 1209) d_La_law_886 (by decide) ?_
  exact H
theorem wp_La_law_781 {E : EV} {G : GH} {Post : Res → GH → Prop} (a0 : Nat) (a1 : Nat) (a2 : Nat) (a3 : Nat) (p5 : Int32) (p6 : Int32) (p7 : Int32) (p8 : Int32) (p10 : Int32) (p11 : Int32) (p12 : Int32) (p13 : Int32) (p14 : Int32) (p16 : Int32) (p19 : Int32) (H : J E 15 m_La_law 782 [some (.ref a0), some (.ref a1), some (.ref a2), some (.ref a3), none, some (.int p5), some (.int p6), some (.int p7), some (.int p8), none, some (.int p10), some (.int p11), some (.int p12), some (.int p13), some (.int p14), none, some (.int p16), none, none, some (.int p19), none, none, none, none, none, none, none] [.int ((0 : Int32))] G Post) : J E 15 m_La_law 781 [some (.ref a0), some (.ref a1), some (.ref a2), some (.ref a3), none, some (.int p5), some (.int p6), some (.int p7), some (.int p8), none, some (.int p10), some (.int p11), some (.int p12), some (.int p13), some (.int p14), none, some (.int p16), none, none, some (.int p19), none, none, none, none, none, none, none] [] G Post := by
  refine j_iconst (v := 0) d_La_law_781 (by decide) ?_
  exact H
theorem wp_La_law_782 {E : EV} {G : GH} {Post : Res → GH → Prop} (a0 : Nat) (a1 : Nat) (a2 : Nat) (a3 : Nat) (p5 : Int32) (p6 : Int32) (p7 : Int32) (p8 : Int32) (p10 : Int32) (p11 : Int32) (p12 : Int32) (p13 : Int32) (p14 : Int32) (p16 : Int32) (p19 : Int32) (s0 : Int32) (H : J E 15 m_La_law 1209 [some (.ref a0), some (.ref a1), some (.ref a2), some (.ref a3), none, some (.int p5), some (.int p6), some (.int p7), some (.int p8), some (.int s0), some (.int p10), some (.int p11), some (.int p12), some (.int p13), some (.int p14), none, some (.int p16), none, none, some (.int p19), none, none, none, none, none, none, none] [] G Post) : J E 15 m_La_law 782 [some (.ref a0), some (.ref a1), some (.ref a2), some (.ref a3), none, some (.int p5), some (.int p6), some (.int p7), some (.int p8), none, some (.int p10), some (.int p11), some (.int p12), some (.int p13), some (.int p14), none, some (.int p16), none, none, some (.int p19), none, none, none, none, none, none, none] [.int s0] G Post := by
  refine j_istore (L' := [some (.ref a0), some (.ref a1), some (.ref a2), some (.ref a3), none, some (.int p5), some (.int p6), some (.int p7), some (.int p8), some (.int s0), some (.int p10), some (.int p11), some (.int p12), some (.int p13), some (.int p14), none, some (.int p16), none, none, some (.int p19), none, none, none, none, none, none, none]) d_La_law_782 (by decide) rfl ?_
  refine j_goto (tgt := 1209) d_La_law_784 (by decide) ?_
  exact H
theorem wp_La_law_590 {E : EV} {G : GH} {Post : Res → GH → Prop} (a0 : Nat) (a1 : Nat) (a2 : Nat) (a3 : Nat) (p5 : Int32) (p6 : Int32) (p7 : Int32) (p8 : Int32) (p10 : Int32) (p11 : Int32) (p12 : Int32) (p13 : Int32) (p14 : Int32) (p16 : Int32) (p18 : Int32) (p19 : Int32) (p20 : Int32) (p21 : Int32) (p22 : Int32) (p23 : Int32) (p24 : Int32) (p25 : Int32) (H : gT G a1 = 10 ∧ ∃ v2, AK E 2 m_St_inChannel [.ref a1, .int p18] G v2 ∧ (p25 = 0 → J E 15 m_La_law 608 [some (.ref a0), some (.ref a1), some (.ref a2), some (.ref a3), none, some (.int p5), some (.int p6), some (.int p7), some (.int p8), none, some (.int p10), some (.int p11), some (.int p12), some (.int p13), some (.int p14), none, some (.int p16), none, none, some (.int p19), some (.int p20), some (.int p21), none, some (.int p23), some (.int p24), none, none] [.int ((0 : Int32)), .int p22, .int v2] G Post) ∧ (¬ p25 = 0 → J E 15 m_La_law 608 [some (.ref a0), some (.ref a1), some (.ref a2), some (.ref a3), none, some (.int p5), some (.int p6), some (.int p7), some (.int p8), none, some (.int p10), some (.int p11), some (.int p12), some (.int p13), some (.int p14), none, some (.int p16), none, none, some (.int p19), some (.int p20), some (.int p21), none, some (.int p23), some (.int p24), none, none] [.int ((1 : Int32)), .int p22, .int v2] G Post)) : J E 15 m_La_law 590 [some (.ref a0), some (.ref a1), some (.ref a2), some (.ref a3), none, some (.int p5), some (.int p6), some (.int p7), some (.int p8), none, some (.int p10), some (.int p11), some (.int p12), some (.int p13), some (.int p14), none, some (.int p16), none, some (.int p18), some (.int p19), some (.int p20), some (.int p21), some (.int p22), some (.int p23), some (.int p24), some (.int p25), none] [] G Post := by
  refine j_aload_n d_La_law_590 rfl ?_
  refine j_iload d_La_law_591 rfl ?_
  obtain ⟨t1, H⟩ := H
  obtain ⟨v2, k3, H⟩ := H
  refine j_callV (d' := 2) (ci := 9) (As := [.int p18]) (rest := []) (b := a1) cv_La_62 me_St_inChannel rfl (by decide) rfl rfl t1 rfl rfl (Nat.le_of_ble_eq_true rfl) d_La_law_593 (by decide) rfl (k3 _ ?_)
  show J E 15 m_La_law 596 [some (.ref a0), some (.ref a1), some (.ref a2), some (.ref a3), none, some (.int p5), some (.int p6), some (.int p7), some (.int p8), none, some (.int p10), some (.int p11), some (.int p12), some (.int p13), some (.int p14), none, some (.int p16), none, some (.int p18), some (.int p19), some (.int p20), some (.int p21), some (.int p22), some (.int p23), some (.int p24), some (.int p25), none] [.int v2] G Post
  refine j_iload d_La_law_596 rfl ?_
  refine j_iload d_La_law_598 rfl ?_
  obtain ⟨Ha, Hb⟩ := H
  refine j_if_eq (tgt := 607) d_La_law_600 (by decide) (fun c4 => ?_) (fun c5 => ?_)
  · have H := Ha c4
    refine j_iconst (v := 0) d_La_law_607 (by decide) ?_
    refine j_forget (L' := [some (.ref a0), some (.ref a1), some (.ref a2), some (.ref a3), none, some (.int p5), some (.int p6), some (.int p7), some (.int p8), none, some (.int p10), some (.int p11), some (.int p12), some (.int p13), some (.int p14), none, some (.int p16), none, none, some (.int p19), some (.int p20), some (.int p21), none, some (.int p23), some (.int p24), none, none]) ⟨Or.inr rfl, Or.inr rfl, Or.inr rfl, Or.inr rfl, Or.inl rfl, Or.inr rfl, Or.inr rfl, Or.inr rfl, Or.inr rfl, Or.inl rfl, Or.inr rfl, Or.inr rfl, Or.inr rfl, Or.inr rfl, Or.inr rfl, Or.inl rfl, Or.inr rfl, Or.inl rfl, Or.inl rfl, Or.inr rfl, Or.inr rfl, Or.inr rfl, Or.inl rfl, Or.inr rfl, Or.inr rfl, Or.inl rfl, Or.inl rfl, trivial⟩ ?_
    exact H
  · have H := Hb c5
    refine j_iconst (v := 1) d_La_law_603 (by decide) ?_
    refine j_goto (tgt := 608) d_La_law_604 (by decide) ?_
    refine j_forget (L' := [some (.ref a0), some (.ref a1), some (.ref a2), some (.ref a3), none, some (.int p5), some (.int p6), some (.int p7), some (.int p8), none, some (.int p10), some (.int p11), some (.int p12), some (.int p13), some (.int p14), none, some (.int p16), none, none, some (.int p19), some (.int p20), some (.int p21), none, some (.int p23), some (.int p24), none, none]) ⟨Or.inr rfl, Or.inr rfl, Or.inr rfl, Or.inr rfl, Or.inl rfl, Or.inr rfl, Or.inr rfl, Or.inr rfl, Or.inr rfl, Or.inl rfl, Or.inr rfl, Or.inr rfl, Or.inr rfl, Or.inr rfl, Or.inr rfl, Or.inl rfl, Or.inr rfl, Or.inl rfl, Or.inl rfl, Or.inr rfl, Or.inr rfl, Or.inr rfl, Or.inl rfl, Or.inr rfl, Or.inr rfl, Or.inl rfl, Or.inl rfl, trivial⟩ ?_
    exact H
theorem wp_La_law_680 {E : EV} {G : GH} {Post : Res → GH → Prop} (a0 : Nat) (a1 : Nat) (a2 : Nat) (a3 : Nat) (p5 : Int32) (p6 : Int32) (p7 : Int32) (p8 : Int32) (p10 : Int32) (p11 : Int32) (p12 : Int32) (p13 : Int32) (p14 : Int32) (p16 : Int32) (p19 : Int32) (p21 : Int32) (H : J E 15 m_La_law 681 [some (.ref a0), some (.ref a1), some (.ref a2), some (.ref a3), none, some (.int p5), some (.int p6), some (.int p7), some (.int p8), none, some (.int p10), some (.int p11), some (.int p12), some (.int p13), some (.int p14), none, some (.int p16), none, none, some (.int p19), none, some (.int p21), none, none, none, none, none] [.int ((0 : Int32))] G Post) : J E 15 m_La_law 680 [some (.ref a0), some (.ref a1), some (.ref a2), some (.ref a3), none, some (.int p5), some (.int p6), some (.int p7), some (.int p8), none, some (.int p10), some (.int p11), some (.int p12), some (.int p13), some (.int p14), none, some (.int p16), none, none, some (.int p19), none, some (.int p21), none, none, none, none, none] [] G Post := by
  refine j_iconst (v := 0) d_La_law_680 (by decide) ?_
  exact H
theorem wp_La_law_509 {E : EV} {G : GH} {Post : Res → GH → Prop} (a0 : Nat) (a1 : Nat) (a2 : Nat) (a3 : Nat) (p5 : Int32) (p6 : Int32) (p7 : Int32) (p8 : Int32) (p10 : Int32) (p11 : Int32) (p12 : Int32) (p13 : Int32) (p14 : Int32) (p16 : Int32) (p19 : Int32) (H : J E 15 m_La_law 510 [some (.ref a0), some (.ref a1), some (.ref a2), some (.ref a3), none, some (.int p5), some (.int p6), some (.int p7), some (.int p8), none, some (.int p10), some (.int p11), some (.int p12), some (.int p13), some (.int p14), none, some (.int p16), none, none, some (.int p19), none, none, none, none, none, none, none] [.int ((0 : Int32))] G Post) : J E 15 m_La_law 509 [some (.ref a0), some (.ref a1), some (.ref a2), some (.ref a3), none, some (.int p5), some (.int p6), some (.int p7), some (.int p8), none, some (.int p10), some (.int p11), some (.int p12), some (.int p13), some (.int p14), none, some (.int p16), none, none, some (.int p19), none, none, none, none, none, none, none] [] G Post := by
  refine j_iconst (v := 0) d_La_law_509 (by decide) ?_
  exact H
theorem wp_La_law_501 {E : EV} {G : GH} {Post : Res → GH → Prop} (a0 : Nat) (a1 : Nat) (a2 : Nat) (a3 : Nat) (p5 : Int32) (p6 : Int32) (p7 : Int32) (p8 : Int32) (p10 : Int32) (p11 : Int32) (p12 : Int32) (p13 : Int32) (p14 : Int32) (p16 : Int32) (p19 : Int32) (s0 : Int32) (s1 : Int32) (s2 : Int32) (H : (¬ s0 = (s1 + s2) → J E 15 m_La_law 509 [some (.ref a0), some (.ref a1), some (.ref a2), some (.ref a3), none, some (.int p5), some (.int p6), some (.int p7), some (.int p8), none, some (.int p10), some (.int p11), some (.int p12), some (.int p13), some (.int p14), none, some (.int p16), none, none, some (.int p19), none, none, none, none, none, none, none] [] G Post) ∧ (s0 = (s1 + s2) → J E 15 m_La_law 510 [some (.ref a0), some (.ref a1), some (.ref a2), some (.ref a3), none, some (.int p5), some (.int p6), some (.int p7), some (.int p8), none, some (.int p10), some (.int p11), some (.int p12), some (.int p13), some (.int p14), none, some (.int p16), none, none, some (.int p19), none, none, none, none, none, none, none] [.int ((1 : Int32))] G Post)) : J E 15 m_La_law 501 [some (.ref a0), some (.ref a1), some (.ref a2), some (.ref a3), none, some (.int p5), some (.int p6), some (.int p7), some (.int p8), none, some (.int p10), some (.int p11), some (.int p12), some (.int p13), some (.int p14), none, some (.int p16), none, none, some (.int p19), none, none, none, none, none, none, none] [.int s2, .int s1, .int s0] G Post := by
  refine j_iadd d_La_law_501 ?_
  obtain ⟨Ha, Hb⟩ := H
  refine j_icmp_ne (tgt := 509) d_La_law_502 (by decide) (fun c1 => ?_) (fun c2 => ?_)
  · have H := Ha c1
    exact H
  · have H := Hb c2
    refine j_iconst (v := 1) d_La_law_505 (by decide) ?_
    refine j_goto (tgt := 510) d_La_law_506 (by decide) ?_
    exact H
theorem wp_La_law_389 {E : EV} {G : GH} {Post : Res → GH → Prop} (a0 : Nat) (a1 : Nat) (a2 : Nat) (a3 : Nat) (p5 : Int32) (p6 : Int32) (p7 : Int32) (p8 : Int32) (p10 : Int32) (p11 : Int32) (p12 : Int32) (p13 : Int32) (p14 : Int32) (p16 : Int32) (p18 : Int32) (p19 : Int32) (p21 : Int32) (s0 : Int32) (s1 : Int32) (H : (¬ s0 = s1 → J E 15 m_La_law 397 [some (.ref a0), some (.ref a1), some (.ref a2), some (.ref a3), none, some (.int p5), some (.int p6), some (.int p7), some (.int p8), none, some (.int p10), some (.int p11), some (.int p12), some (.int p13), some (.int p14), none, some (.int p16), none, some (.int p18), some (.int p19), none, some (.int p21), none, none, none, none, none] [.int ((0 : Int32))] G Post) ∧ (s0 = s1 → J E 15 m_La_law 397 [some (.ref a0), some (.ref a1), some (.ref a2), some (.ref a3), none, some (.int p5), some (.int p6), some (.int p7), some (.int p8), none, some (.int p10), some (.int p11), some (.int p12), some (.int p13), some (.int p14), none, some (.int p16), none, some (.int p18), some (.int p19), none, some (.int p21), none, none, none, none, none] [.int ((1 : Int32))] G Post)) : J E 15 m_La_law 389 [some (.ref a0), some (.ref a1), some (.ref a2), some (.ref a3), none, some (.int p5), some (.int p6), some (.int p7), some (.int p8), none, some (.int p10), some (.int p11), some (.int p12), some (.int p13), some (.int p14), none, some (.int p16), none, some (.int p18), some (.int p19), none, some (.int p21), none, none, none, none, none] [.int s1, .int s0] G Post := by
  obtain ⟨Ha, Hb⟩ := H
  refine j_icmp_ne (tgt := 396) d_La_law_389 (by decide) (fun c1 => ?_) (fun c2 => ?_)
  · have H := Ha c1
    refine j_iconst (v := 0) d_La_law_396 (by decide) ?_
    exact H
  · have H := Hb c2
    refine j_iconst (v := 1) d_La_law_392 (by decide) ?_
    refine j_goto (tgt := 397) d_La_law_393 (by decide) ?_
    exact H
theorem wp_La_law_1097 {E : EV} {G : GH} {Post : Res → GH → Prop} (a0 : Nat) (a1 : Nat) (a2 : Nat) (a3 : Nat) (p5 : Int32) (p6 : Int32) (p7 : Int32) (p8 : Int32) (p10 : Int32) (p11 : Int32) (p12 : Int32) (p13 : Int32) (p14 : Int32) (p16 : Int32) (p19 : Int32) (p21 : Int32) (p22 : Int32) (s0 : Int32) (H : (s0 = 0 → J E 15 m_La_law 1209 [some (.ref a0), some (.ref a1), some (.ref a2), some (.ref a3), none, some (.int p5), some (.int p6), some (.int p7), some (.int p8), some (.int s0), some (.int p10), some (.int p11), some (.int p12), some (.int p13), some (.int p14), none, some (.int p16), none, none, some (.int p19), none, none, none, none, none, none, none] [] G Post) ∧ (¬ s0 = 0 → (p21 < 0 → J E 15 m_La_law 1209 [some (.ref a0), some (.ref a1), some (.ref a2), some (.ref a3), none, some (.int p5), some (.int p6), some (.int p7), some (.int p8), some (.int s0), some (.int p10), some (.int p11), some (.int p12), some (.int p13), some (.int p14), none, some (.int p16), none, none, some (.int p19), none, none, none, none, none, none, none] [] G Post) ∧ (¬ p21 < 0 → (p22 = 0 → gT G a1 = 10 ∧ Cl E 11 m_St_fail [.ref a1] G (aft E 15 m_La_law 1120 [some (.ref a0), some (.ref a1), some (.ref a2), some (.ref a3), none, some (.int p5), some (.int p6), some (.int p7), some (.int p8), none, none, some (.int p11), some (.int p12), some (.int p13), some (.int p14), none, some (.int p16), none, none, none, none, none, none, none, none, none, none] [] Post)) ∧ (¬ p22 = 0 → J E 15 m_La_law 1123 [some (.ref a0), some (.ref a1), some (.ref a2), some (.ref a3), none, some (.int p5), some (.int p6), some (.int p7), some (.int p8), none, none, some (.int p11), some (.int p12), some (.int p13), some (.int p14), none, some (.int p16), none, none, none, none, none, none, none, none, none, none] [.int p21] G Post)))) : J E 15 m_La_law 1097 [some (.ref a0), some (.ref a1), some (.ref a2), some (.ref a3), none, some (.int p5), some (.int p6), some (.int p7), some (.int p8), none, some (.int p10), some (.int p11), some (.int p12), some (.int p13), some (.int p14), none, some (.int p16), none, none, some (.int p19), none, some (.int p21), some (.int p22), none, none, none, none] [.int s0] G Post := by
  refine j_istore (L' := [some (.ref a0), some (.ref a1), some (.ref a2), some (.ref a3), none, some (.int p5), some (.int p6), some (.int p7), some (.int p8), some (.int s0), some (.int p10), some (.int p11), some (.int p12), some (.int p13), some (.int p14), none, some (.int p16), none, none, some (.int p19), none, some (.int p21), some (.int p22), none, none, none, none]) d_La_law_1097 (by decide) rfl ?_
  refine j_iload d_La_law_1099 rfl ?_
  obtain ⟨Ha, Hb⟩ := H
  refine j_if_eq (tgt := 1209) d_La_law_1101 (by decide) (fun c6 => ?_) (fun c7 => ?_)
  · have H := Ha c6
    refine j_forget (L' := [some (.ref a0), some (.ref a1), some (.ref a2), some (.ref a3), none, some (.int p5), some (.int p6), some (.int p7), some (.int p8), some (.int s0), some (.int p10), some (.int p11), some (.int p12), some (.int p13), some (.int p14), none, some (.int p16), none, none, some (.int p19), none, none, none, none, none, none, none]) ⟨Or.inr rfl, Or.inr rfl, Or.inr rfl, Or.inr rfl, Or.inl rfl, Or.inr rfl, Or.inr rfl, Or.inr rfl, Or.inr rfl, Or.inr rfl, Or.inr rfl, Or.inr rfl, Or.inr rfl, Or.inr rfl, Or.inr rfl, Or.inl rfl, Or.inr rfl, Or.inl rfl, Or.inl rfl, Or.inr rfl, Or.inl rfl, Or.inl rfl, Or.inl rfl, Or.inl rfl, Or.inl rfl, Or.inl rfl, Or.inl rfl, trivial⟩ ?_
    exact H
  · have H := Hb c7
    refine j_iload d_La_law_1104 rfl ?_
    obtain ⟨Ha, Hb⟩ := H
    refine j_if_lt (tgt := 1209) d_La_law_1106 (by decide) (fun c4 => ?_) (fun c5 => ?_)
    · have H := Ha c4
      refine j_forget (L' := [some (.ref a0), some (.ref a1), some (.ref a2), some (.ref a3), none, some (.int p5), some (.int p6), some (.int p7), some (.int p8), some (.int s0), some (.int p10), some (.int p11), some (.int p12), some (.int p13), some (.int p14), none, some (.int p16), none, none, some (.int p19), none, none, none, none, none, none, none]) ⟨Or.inr rfl, Or.inr rfl, Or.inr rfl, Or.inr rfl, Or.inl rfl, Or.inr rfl, Or.inr rfl, Or.inr rfl, Or.inr rfl, Or.inr rfl, Or.inr rfl, Or.inr rfl, Or.inr rfl, Or.inr rfl, Or.inr rfl, Or.inl rfl, Or.inr rfl, Or.inl rfl, Or.inl rfl, Or.inr rfl, Or.inl rfl, Or.inl rfl, Or.inl rfl, Or.inl rfl, Or.inl rfl, Or.inl rfl, Or.inl rfl, trivial⟩ ?_
      exact H
    · have H := Hb c5
      refine j_iload d_La_law_1109 rfl ?_
      obtain ⟨Ha, Hb⟩ := H
      refine j_if_eq (tgt := 1119) d_La_law_1111 (by decide) (fun c2 => ?_) (fun c3 => ?_)
      · have H := Ha c2
        refine j_aload_n d_La_law_1119 rfl ?_
        obtain ⟨t1, H⟩ := H
        refine j_forget (L' := [some (.ref a0), some (.ref a1), some (.ref a2), some (.ref a3), none, some (.int p5), some (.int p6), some (.int p7), some (.int p8), none, none, some (.int p11), some (.int p12), some (.int p13), some (.int p14), none, some (.int p16), none, none, none, none, none, none, none, none, none, none]) ⟨Or.inr rfl, Or.inr rfl, Or.inr rfl, Or.inr rfl, Or.inl rfl, Or.inr rfl, Or.inr rfl, Or.inr rfl, Or.inr rfl, Or.inl rfl, Or.inl rfl, Or.inr rfl, Or.inr rfl, Or.inr rfl, Or.inr rfl, Or.inl rfl, Or.inr rfl, Or.inl rfl, Or.inl rfl, Or.inl rfl, Or.inl rfl, Or.inl rfl, Or.inl rfl, Or.inl rfl, Or.inl rfl, Or.inl rfl, Or.inl rfl, trivial⟩ ?_
        exact j_callV (d' := 11) (ci := 9) (As := []) (rest := []) (b := a1) cv_La_93 me_St_fail rfl (by decide) rfl rfl t1 rfl rfl (Nat.le_of_ble_eq_true rfl) d_La_law_1120 (by decide) rfl H
      · have H := Hb c3
        refine j_iload d_La_law_1114 rfl ?_
        refine j_goto (tgt := 1123) d_La_law_1116 (by decide) ?_
        refine j_forget (L' := [some (.ref a0), some (.ref a1), some (.ref a2), some (.ref a3), none, some (.int p5), some (.int p6), some (.int p7), some (.int p8), none, none, some (.int p11), some (.int p12), some (.int p13), some (.int p14), none, some (.int p16), none, none, none, none, none, none, none, none, none, none]) ⟨Or.inr rfl, Or.inr rfl, Or.inr rfl, Or.inr rfl, Or.inl rfl, Or.inr rfl, Or.inr rfl, Or.inr rfl, Or.inr rfl, Or.inl rfl, Or.inl rfl, Or.inr rfl, Or.inr rfl, Or.inr rfl, Or.inr rfl, Or.inl rfl, Or.inr rfl, Or.inl rfl, Or.inl rfl, Or.inl rfl, Or.inl rfl, Or.inl rfl, Or.inl rfl, Or.inl rfl, Or.inl rfl, Or.inl rfl, Or.inl rfl, trivial⟩ ?_
        exact H
theorem wp_La_law_1081 {E : EV} {G : GH} {Post : Res → GH → Prop} (a0 : Nat) (a1 : Nat) (a2 : Nat) (a3 : Nat) (p5 : Int32) (p6 : Int32) (p7 : Int32) (p8 : Int32) (p10 : Int32) (p11 : Int32) (p12 : Int32) (p13 : Int32) (p14 : Int32) (p16 : Int32) (p19 : Int32) (p21 : Int32) (p22 : Int32) (H : J E 15 m_La_law 1097 [some (.ref a0), some (.ref a1), some (.ref a2), some (.ref a3), none, some (.int p5), some (.int p6), some (.int p7), some (.int p8), none, some (.int p10), some (.int p11), some (.int p12), some (.int p13), some (.int p14), none, some (.int p16), none, none, some (.int p19), none, some (.int p21), some (.int p22), none, none, none, none] [.int ((0 : Int32))] G Post) : J E 15 m_La_law 1081 [some (.ref a0), some (.ref a1), some (.ref a2), some (.ref a3), none, some (.int p5), some (.int p6), some (.int p7), some (.int p8), none, some (.int p10), some (.int p11), some (.int p12), some (.int p13), some (.int p14), none, some (.int p16), none, none, some (.int p19), none, some (.int p21), some (.int p22), none, none, none, none] [] G Post := by
  refine j_iconst (v := 0) d_La_law_1081 (by decide) ?_
  refine j_goto (tgt := 1097) d_La_law_1082 (by decide) ?_
  exact H
theorem wp_La_law_1051 {E : EV} {G : GH} {Post : Res → GH → Prop} (a0 : Nat) (a1 : Nat) (a2 : Nat) (a3 : Nat) (p5 : Int32) (p6 : Int32) (p7 : Int32) (p8 : Int32) (p10 : Int32) (p11 : Int32) (p12 : Int32) (p13 : Int32) (p14 : Int32) (p16 : Int32) (p19 : Int32) (p21 : Int32) (p22 : Int32) (H : J E 15 m_La_law 1097 [some (.ref a0), some (.ref a1), some (.ref a2), some (.ref a3), none, some (.int p5), some (.int p6), some (.int p7), some (.int p8), none, some (.int p10), some (.int p11), some (.int p12), some (.int p13), some (.int p14), none, some (.int p16), none, none, some (.int p19), none, some (.int p21), some (.int p22), none, none, none, none] [.int ((0 : Int32))] G Post) : J E 15 m_La_law 1051 [some (.ref a0), some (.ref a1), some (.ref a2), some (.ref a3), none, some (.int p5), some (.int p6), some (.int p7), some (.int p8), none, some (.int p10), some (.int p11), some (.int p12), some (.int p13), some (.int p14), none, some (.int p16), none, none, some (.int p19), none, some (.int p21), some (.int p22), none, none, none, none] [] G Post := by
  refine j_iconst (v := 0) d_La_law_1051 (by decide) ?_
  refine j_goto (tgt := 1097) d_La_law_1052 (by decide) ?_
  exact H
theorem wp_La_law_942 {E : EV} {G : GH} {Post : Res → GH → Prop} (a0 : Nat) (a1 : Nat) (a2 : Nat) (a3 : Nat) (p5 : Int32) (p6 : Int32) (p7 : Int32) (p8 : Int32) (p10 : Int32) (p11 : Int32) (p12 : Int32) (p13 : Int32) (p14 : Int32) (p16 : Int32) (p18 : Int32) (p19 : Int32) (p22 : Int32) (s0 : Int32) (H : (p22 = 0 → J E 15 m_La_law 957 [some (.ref a0), some (.ref a1), some (.ref a2), some (.ref a3), none, some (.int p5), some (.int p6), some (.int p7), some (.int p8), some (.int s0), some (.int p10), some (.int p11), some (.int p12), some (.int p13), some (.int p14), none, some (.int p16), none, none, some (.int p19), none, none, none, none, none, none, none] [.int ((0 : Int32)), .int p18, .ref a3] G Post) ∧ (¬ p22 = 0 → J E 15 m_La_law 957 [some (.ref a0), some (.ref a1), some (.ref a2), some (.ref a3), none, some (.int p5), some (.int p6), some (.int p7), some (.int p8), some (.int s0), some (.int p10), some (.int p11), some (.int p12), some (.int p13), some (.int p14), none, some (.int p16), none, none, some (.int p19), none, none, none, none, none, none, none] [.int ((1 : Int32)), .int p18, .ref a3] G Post)) : J E 15 m_La_law 942 [some (.ref a0), some (.ref a1), some (.ref a2), some (.ref a3), none, some (.int p5), some (.int p6), some (.int p7), some (.int p8), none, some (.int p10), some (.int p11), some (.int p12), some (.int p13), some (.int p14), none, some (.int p16), none, some (.int p18), some (.int p19), none, none, some (.int p22), none, none, none, none] [.int s0] G Post := by
  refine j_istore (L' := [some (.ref a0), some (.ref a1), some (.ref a2), some (.ref a3), none, some (.int p5), some (.int p6), some (.int p7), some (.int p8), some (.int s0), some (.int p10), some (.int p11), some (.int p12), some (.int p13), some (.int p14), none, some (.int p16), none, some (.int p18), some (.int p19), none, none, some (.int p22), none, none, none, none]) d_La_law_942 (by decide) rfl ?_
  refine j_aload_n d_La_law_944 rfl ?_
  refine j_iload d_La_law_945 rfl ?_
  refine j_iload d_La_law_947 rfl ?_
  obtain ⟨Ha, Hb⟩ := H
  refine j_if_eq (tgt := 956) d_La_law_949 (by decide) (fun c1 => ?_) (fun c2 => ?_)
  · have H := Ha c1
    refine j_iconst (v := 0) d_La_law_956 (by decide) ?_
    refine j_forget (L' := [some (.ref a0), some (.ref a1), some (.ref a2), some (.ref a3), none, some (.int p5), some (.int p6), some (.int p7), some (.int p8), some (.int s0), some (.int p10), some (.int p11), some (.int p12), some (.int p13), some (.int p14), none, some (.int p16), none, none, some (.int p19), none, none, none, none, none, none, none]) ⟨Or.inr rfl, Or.inr rfl, Or.inr rfl, Or.inr rfl, Or.inl rfl, Or.inr rfl, Or.inr rfl, Or.inr rfl, Or.inr rfl, Or.inr rfl, Or.inr rfl, Or.inr rfl, Or.inr rfl, Or.inr rfl, Or.inr rfl, Or.inl rfl, Or.inr rfl, Or.inl rfl, Or.inl rfl, Or.inr rfl, Or.inl rfl, Or.inl rfl, Or.inl rfl, Or.inl rfl, Or.inl rfl, Or.inl rfl, Or.inl rfl, trivial⟩ ?_
    exact H
  · have H := Hb c2
    refine j_iconst (v := 1) d_La_law_952 (by decide) ?_
    refine j_goto (tgt := 957) d_La_law_953 (by decide) ?_
    refine j_forget (L' := [some (.ref a0), some (.ref a1), some (.ref a2), some (.ref a3), none, some (.int p5), some (.int p6), some (.int p7), some (.int p8), some (.int s0), some (.int p10), some (.int p11), some (.int p12), some (.int p13), some (.int p14), none, some (.int p16), none, none, some (.int p19), none, none, none, none, none, none, none]) ⟨Or.inr rfl, Or.inr rfl, Or.inr rfl, Or.inr rfl, Or.inl rfl, Or.inr rfl, Or.inr rfl, Or.inr rfl, Or.inr rfl, Or.inr rfl, Or.inr rfl, Or.inr rfl, Or.inr rfl, Or.inr rfl, Or.inr rfl, Or.inl rfl, Or.inr rfl, Or.inl rfl, Or.inl rfl, Or.inr rfl, Or.inl rfl, Or.inl rfl, Or.inl rfl, Or.inl rfl, Or.inl rfl, Or.inl rfl, Or.inl rfl, trivial⟩ ?_
    exact H
theorem wp_La_law_1209 {E : EV} {G : GH} {Post : Res → GH → Prop} (a0 : Nat) (a1 : Nat) (a2 : Nat) (a3 : Nat) (p5 : Int32) (p6 : Int32) (p7 : Int32) (p8 : Int32) (p9 : Int32) (p10 : Int32) (p11 : Int32) (p12 : Int32) (p13 : Int32) (p14 : Int32) (p16 : Int32) (p19 : Int32) (H : (p9 = 0 → J E 15 m_La_law 1261 [some (.ref a0), some (.ref a1), some (.ref a2), some (.ref a3), none, some (.int p5), some (.int p6), some (.int p7), some (.int p8), none, some (.int p10), some (.int p11), some (.int p12), some (.int p13), some (.int p14), none, some (.int p16), none, none, none, none, none, none, none, none, none, none] [] G Post) ∧ (¬ p9 = 0 → ∃ v1, AK E 3 m_La_areSources [.ref a1, .ref a2, .ref a3, .int p19] G v1 ∧ (v1 = 0 → J E 15 m_La_law 1261 [some (.ref a0), some (.ref a1), some (.ref a2), some (.ref a3), none, some (.int p5), some (.int p6), some (.int p7), some (.int p8), none, some (.int p10), some (.int p11), some (.int p12), some (.int p13), some (.int p14), none, some (.int p16), none, none, none, none, none, none, none, none, none, none] [] G Post) ∧ (¬ v1 = 0 → Cl E 14 m_La_on [.ref a1, .int ((6 : Int32)), .int p12, .int ((0 : Int32)), .int ((0 : Int32)), .int ((0 : Int32))] G (aft E 15 m_La_law 1233 [some (.ref a0), some (.ref a1), some (.ref a2), some (.ref a3), none, some (.int p5), some (.int p6), some (.int p7), some (.int p8), none, some (.int p10), some (.int p11), some (.int p12), some (.int p13), some (.int p14), none, some (.int p16), none, none, none, none, none, none, none, none, none, none] [] Post)))) : J E 15 m_La_law 1209 [some (.ref a0), some (.ref a1), some (.ref a2), some (.ref a3), none, some (.int p5), some (.int p6), some (.int p7), some (.int p8), some (.int p9), some (.int p10), some (.int p11), some (.int p12), some (.int p13), some (.int p14), none, some (.int p16), none, none, some (.int p19), none, none, none, none, none, none, none] [] G Post := by
  refine j_iload d_La_law_1209 rfl ?_
  obtain ⟨Ha, Hb⟩ := H
  refine j_if_eq (tgt := 1261) d_La_law_1211 (by decide) (fun c5 => ?_) (fun c6 => ?_)
  · have H := Ha c5
    refine j_forget (L' := [some (.ref a0), some (.ref a1), some (.ref a2), some (.ref a3), none, some (.int p5), some (.int p6), some (.int p7), some (.int p8), none, some (.int p10), some (.int p11), some (.int p12), some (.int p13), some (.int p14), none, some (.int p16), none, none, none, none, none, none, none, none, none, none]) ⟨Or.inr rfl, Or.inr rfl, Or.inr rfl, Or.inr rfl, Or.inl rfl, Or.inr rfl, Or.inr rfl, Or.inr rfl, Or.inr rfl, Or.inl rfl, Or.inr rfl, Or.inr rfl, Or.inr rfl, Or.inr rfl, Or.inr rfl, Or.inl rfl, Or.inr rfl, Or.inl rfl, Or.inl rfl, Or.inl rfl, Or.inl rfl, Or.inl rfl, Or.inl rfl, Or.inl rfl, Or.inl rfl, Or.inl rfl, Or.inl rfl, trivial⟩ ?_
    exact H
  · have H := Hb c6
    refine j_aload_n d_La_law_1214 rfl ?_
    refine j_aload_n d_La_law_1215 rfl ?_
    refine j_aload_n d_La_law_1216 rfl ?_
    refine j_iload d_La_law_1217 rfl ?_
    obtain ⟨v1, k2, H⟩ := H
    refine j_callS (d' := 3) (As := [.ref a1, .ref a2, .ref a3, .int p19]) (rest := []) cs_La_96 me_La_areSources rfl (by decide) rfl rfl (Nat.le_of_ble_eq_true rfl) d_La_law_1219 (by decide) rfl (k2 _ ?_)
    show J E 15 m_La_law 1222 [some (.ref a0), some (.ref a1), some (.ref a2), some (.ref a3), none, some (.int p5), some (.int p6), some (.int p7), some (.int p8), some (.int p9), some (.int p10), some (.int p11), some (.int p12), some (.int p13), some (.int p14), none, some (.int p16), none, none, some (.int p19), none, none, none, none, none, none, none] [.int v1] G Post
    obtain ⟨Ha, Hb⟩ := H
    refine j_if_eq (tgt := 1261) d_La_law_1222 (by decide) (fun c3 => ?_) (fun c4 => ?_)
    · have H := Ha c3
      refine j_forget (L' := [some (.ref a0), some (.ref a1), some (.ref a2), some (.ref a3), none, some (.int p5), some (.int p6), some (.int p7), some (.int p8), none, some (.int p10), some (.int p11), some (.int p12), some (.int p13), some (.int p14), none, some (.int p16), none, none, none, none, none, none, none, none, none, none]) ⟨Or.inr rfl, Or.inr rfl, Or.inr rfl, Or.inr rfl, Or.inl rfl, Or.inr rfl, Or.inr rfl, Or.inr rfl, Or.inr rfl, Or.inl rfl, Or.inr rfl, Or.inr rfl, Or.inr rfl, Or.inr rfl, Or.inr rfl, Or.inl rfl, Or.inr rfl, Or.inl rfl, Or.inl rfl, Or.inl rfl, Or.inl rfl, Or.inl rfl, Or.inl rfl, Or.inl rfl, Or.inl rfl, Or.inl rfl, Or.inl rfl, trivial⟩ ?_
      exact H
    · have H := Hb c4
      refine j_aload_n d_La_law_1225 rfl ?_
      refine j_bipush (v := 6) d_La_law_1226 (by decide) ?_
      refine j_iload d_La_law_1228 rfl ?_
      refine j_iconst (v := 0) d_La_law_1230 (by decide) ?_
      refine j_iconst (v := 0) d_La_law_1231 (by decide) ?_
      refine j_iconst (v := 0) d_La_law_1232 (by decide) ?_
      refine j_forget (L' := [some (.ref a0), some (.ref a1), some (.ref a2), some (.ref a3), none, some (.int p5), some (.int p6), some (.int p7), some (.int p8), none, some (.int p10), some (.int p11), some (.int p12), some (.int p13), some (.int p14), none, some (.int p16), none, none, none, none, none, none, none, none, none, none]) ⟨Or.inr rfl, Or.inr rfl, Or.inr rfl, Or.inr rfl, Or.inl rfl, Or.inr rfl, Or.inr rfl, Or.inr rfl, Or.inr rfl, Or.inl rfl, Or.inr rfl, Or.inr rfl, Or.inr rfl, Or.inr rfl, Or.inr rfl, Or.inl rfl, Or.inr rfl, Or.inl rfl, Or.inl rfl, Or.inl rfl, Or.inl rfl, Or.inl rfl, Or.inl rfl, Or.inl rfl, Or.inl rfl, Or.inl rfl, Or.inl rfl, trivial⟩ ?_
      exact j_callSX (d' := 14) (As := [.ref a1, .int ((6 : Int32)), .int p12, .int ((0 : Int32)), .int ((0 : Int32)), .int ((0 : Int32))]) (rest := []) cs_La_83 me_La_on ⟨_, _, rfl⟩ (by decide) rfl rfl (Nat.le_of_ble_eq_true rfl) d_La_law_1233 (by decide) rfl H
theorem wp_La_law_608 {E : EV} {G : GH} {Post : Res → GH → Prop} (a0 : Nat) (a1 : Nat) (a2 : Nat) (a3 : Nat) (p5 : Int32) (p6 : Int32) (p7 : Int32) (p8 : Int32) (p10 : Int32) (p11 : Int32) (p12 : Int32) (p13 : Int32) (p14 : Int32) (p16 : Int32) (p19 : Int32) (p20 : Int32) (p21 : Int32) (p23 : Int32) (p24 : Int32) (s0 : Int32) (s1 : Int32) (s2 : Int32) (H : (¬ s0 = (s1 - s2) → J E 15 m_La_law 680 [some (.ref a0), some (.ref a1), some (.ref a2), some (.ref a3), none, some (.int p5), some (.int p6), some (.int p7), some (.int p8), none, some (.int p10), some (.int p11), some (.int p12), some (.int p13), some (.int p14), none, some (.int p16), none, none, some (.int p19), none, some (.int p21), none, none, none, none, none] [] G Post) ∧ (s0 = (s1 - s2) → gT G a1 = 10 ∧ ∃ v2, AK E 1 m_St_dropped [.ref a1] G v2 ∧ (¬ p21 = (2 : Int32) → J E 15 m_La_law 629 [some (.ref a0), some (.ref a1), some (.ref a2), some (.ref a3), none, some (.int p5), some (.int p6), some (.int p7), some (.int p8), none, some (.int p10), some (.int p11), some (.int p12), some (.int p13), some (.int p14), none, some (.int p16), none, none, some (.int p19), some (.int p20), some (.int p21), none, none, some (.int p24), none, none] [.int ((0 : Int32)), .int p23, .int v2] G Post) ∧ (p21 = (2 : Int32) → J E 15 m_La_law 629 [some (.ref a0), some (.ref a1), some (.ref a2), some (.ref a3), none, some (.int p5), some (.int p6), some (.int p7), some (.int p8), none, some (.int p10), some (.int p11), some (.int p12), some (.int p13), some (.int p14), none, some (.int p16), none, none, some (.int p19), some (.int p20), some (.int p21), none, none, some (.int p24), none, none] [.int ((1 : Int32)), .int p23, .int v2] G Post))) : J E 15 m_La_law 608 [some (.ref a0), some (.ref a1), some (.ref a2), some (.ref a3), none, some (.int p5), some (.int p6), some (.int p7), some (.int p8), none, some (.int p10), some (.int p11), some (.int p12), some (.int p13), some (.int p14), none, some (.int p16), none, none, some (.int p19), some (.int p20), some (.int p21), none, some (.int p23), some (.int p24), none, none] [.int s2, .int s1, .int s0] G Post := by
  refine j_isub d_La_law_608 ?_
  obtain ⟨Ha, Hb⟩ := H
  refine j_icmp_ne (tgt := 680) d_La_law_609 (by decide) (fun c6 => ?_) (fun c7 => ?_)
  · have H := Ha c6
    refine j_forget (L' := [some (.ref a0), some (.ref a1), some (.ref a2), some (.ref a3), none, some (.int p5), some (.int p6), some (.int p7), some (.int p8), none, some (.int p10), some (.int p11), some (.int p12), some (.int p13), some (.int p14), none, some (.int p16), none, none, some (.int p19), none, some (.int p21), none, none, none, none, none]) ⟨Or.inr rfl, Or.inr rfl, Or.inr rfl, Or.inr rfl, Or.inl rfl, Or.inr rfl, Or.inr rfl, Or.inr rfl, Or.inr rfl, Or.inl rfl, Or.inr rfl, Or.inr rfl, Or.inr rfl, Or.inr rfl, Or.inr rfl, Or.inl rfl, Or.inr rfl, Or.inl rfl, Or.inl rfl, Or.inr rfl, Or.inl rfl, Or.inr rfl, Or.inl rfl, Or.inl rfl, Or.inl rfl, Or.inl rfl, Or.inl rfl, trivial⟩ ?_
    exact H
  · have H := Hb c7
    refine j_aload_n d_La_law_612 rfl ?_
    obtain ⟨t1, H⟩ := H
    obtain ⟨v2, k3, H⟩ := H
    refine j_callV (d' := 1) (ci := 9) (As := []) (rest := []) (b := a1) cv_La_86 me_St_dropped rfl (by decide) rfl rfl t1 rfl rfl (Nat.le_of_ble_eq_true rfl) d_La_law_613 (by decide) rfl (k3 _ ?_)
    show J E 15 m_La_law 616 [some (.ref a0), some (.ref a1), some (.ref a2), some (.ref a3), none, some (.int p5), some (.int p6), some (.int p7), some (.int p8), none, some (.int p10), some (.int p11), some (.int p12), some (.int p13), some (.int p14), none, some (.int p16), none, none, some (.int p19), some (.int p20), some (.int p21), none, some (.int p23), some (.int p24), none, none] [.int v2] G Post
    refine j_iload d_La_law_616 rfl ?_
    refine j_iload d_La_law_618 rfl ?_
    refine j_iconst (v := 2) d_La_law_620 (by decide) ?_
    obtain ⟨Ha, Hb⟩ := H
    refine j_icmp_ne (tgt := 628) d_La_law_621 (by decide) (fun c4 => ?_) (fun c5 => ?_)
    · have H := Ha c4
      refine j_iconst (v := 0) d_La_law_628 (by decide) ?_
      refine j_forget (L' := [some (.ref a0), some (.ref a1), some (.ref a2), some (.ref a3), none, some (.int p5), some (.int p6), some (.int p7), some (.int p8), none, some (.int p10), some (.int p11), some (.int p12), some (.int p13), some (.int p14), none, some (.int p16), none, none, some (.int p19), some (.int p20), some (.int p21), none, none, some (.int p24), none, none]) ⟨Or.inr rfl, Or.inr rfl, Or.inr rfl, Or.inr rfl, Or.inl rfl, Or.inr rfl, Or.inr rfl, Or.inr rfl, Or.inr rfl, Or.inl rfl, Or.inr rfl, Or.inr rfl, Or.inr rfl, Or.inr rfl, Or.inr rfl, Or.inl rfl, Or.inr rfl, Or.inl rfl, Or.inl rfl, Or.inr rfl, Or.inr rfl, Or.inr rfl, Or.inl rfl, Or.inl rfl, Or.inr rfl, Or.inl rfl, Or.inl rfl, trivial⟩ ?_
      exact H
    · have H := Hb c5
      refine j_iconst (v := 1) d_La_law_624 (by decide) ?_
      refine j_goto (tgt := 629) d_La_law_625 (by decide) ?_
      refine j_forget (L' := [some (.ref a0), some (.ref a1), some (.ref a2), some (.ref a3), none, some (.int p5), some (.int p6), some (.int p7), some (.int p8), none, some (.int p10), some (.int p11), some (.int p12), some (.int p13), some (.int p14), none, some (.int p16), none, none, some (.int p19), some (.int p20), some (.int p21), none, none, some (.int p24), none, none]) ⟨Or.inr rfl, Or.inr rfl, Or.inr rfl, Or.inr rfl, Or.inl rfl, Or.inr rfl, Or.inr rfl, Or.inr rfl, Or.inr rfl, Or.inl rfl, Or.inr rfl, Or.inr rfl, Or.inr rfl, Or.inr rfl, Or.inr rfl, Or.inl rfl, Or.inr rfl, Or.inl rfl, Or.inl rfl, Or.inr rfl, Or.inr rfl, Or.inr rfl, Or.inl rfl, Or.inl rfl, Or.inr rfl, Or.inl rfl, Or.inl rfl, trivial⟩ ?_
      exact H
theorem wp_La_law_681 {E : EV} {G : GH} {Post : Res → GH → Prop} (a0 : Nat) (a1 : Nat) (a2 : Nat) (a3 : Nat) (p5 : Int32) (p6 : Int32) (p7 : Int32) (p8 : Int32) (p10 : Int32) (p11 : Int32) (p12 : Int32) (p13 : Int32) (p14 : Int32) (p16 : Int32) (p19 : Int32) (p21 : Int32) (s0 : Int32) (H : (¬ p21 = (4 : Int32) → J E 15 m_La_law 696 [some (.ref a0), some (.ref a1), some (.ref a2), some (.ref a3), none, some (.int p5), some (.int p6), some (.int p7), some (.int p8), some (.int s0), some (.int p10), none, some (.int p12), some (.int p13), some (.int p14), none, some (.int p16), none, none, some (.int p19), none, none, none, none, none, none, none] [.int ((0 : Int32)), .int p11] G Post) ∧ (p21 = (4 : Int32) → J E 15 m_La_law 696 [some (.ref a0), some (.ref a1), some (.ref a2), some (.ref a3), none, some (.int p5), some (.int p6), some (.int p7), some (.int p8), some (.int s0), some (.int p10), none, some (.int p12), some (.int p13), some (.int p14), none, some (.int p16), none, none, some (.int p19), none, none, none, none, none, none, none] [.int ((1 : Int32)), .int p11] G Post)) : J E 15 m_La_law 681 [some (.ref a0), some (.ref a1), some (.ref a2), some (.ref a3), none, some (.int p5), some (.int p6), some (.int p7), some (.int p8), none, some (.int p10), some (.int p11), some (.int p12), some (.int p13), some (.int p14), none, some (.int p16), none, none, some (.int p19), none, some (.int p21), none, none, none, none, none] [.int s0] G Post := by
  refine j_istore (L' := [some (.ref a0), some (.ref a1), some (.ref a2), some (.ref a3), none, some (.int p5), some (.int p6), some (.int p7), some (.int p8), some (.int s0), some (.int p10), some (.int p11), some (.int p12), some (.int p13), some (.int p14), none, some (.int p16), none, none, some (.int p19), none, some (.int p21), none, none, none, none, none]) d_La_law_681 (by decide) rfl ?_
  refine j_iload d_La_law_683 rfl ?_
  refine j_iload d_La_law_685 rfl ?_
  refine j_iconst (v := 4) d_La_law_687 (by decide) ?_
  obtain ⟨Ha, Hb⟩ := H
  refine j_icmp_ne (tgt := 695) d_La_law_688 (by decide) (fun c1 => ?_) (fun c2 => ?_)
  · have H := Ha c1
    refine j_iconst (v := 0) d_La_law_695 (by decide) ?_
    refine j_forget (L' := [some (.ref a0), some (.ref a1), some (.ref a2), some (.ref a3), none, some (.int p5), some (.int p6), some (.int p7), some (.int p8), some (.int s0), some (.int p10), none, some (.int p12), some (.int p13), some (.int p14), none, some (.int p16), none, none, some (.int p19), none, none, none, none, none, none, none]) ⟨Or.inr rfl, Or.inr rfl, Or.inr rfl, Or.inr rfl, Or.inl rfl, Or.inr rfl, Or.inr rfl, Or.inr rfl, Or.inr rfl, Or.inr rfl, Or.inr rfl, Or.inl rfl, Or.inr rfl, Or.inr rfl, Or.inr rfl, Or.inl rfl, Or.inr rfl, Or.inl rfl, Or.inl rfl, Or.inr rfl, Or.inl rfl, Or.inl rfl, Or.inl rfl, Or.inl rfl, Or.inl rfl, Or.inl rfl, Or.inl rfl, trivial⟩ ?_
    exact H
  · have H := Hb c2
    refine j_iconst (v := 1) d_La_law_691 (by decide) ?_
    refine j_goto (tgt := 696) d_La_law_692 (by decide) ?_
    refine j_forget (L' := [some (.ref a0), some (.ref a1), some (.ref a2), some (.ref a3), none, some (.int p5), some (.int p6), some (.int p7), some (.int p8), some (.int s0), some (.int p10), none, some (.int p12), some (.int p13), some (.int p14), none, some (.int p16), none, none, some (.int p19), none, none, none, none, none, none, none]) ⟨Or.inr rfl, Or.inr rfl, Or.inr rfl, Or.inr rfl, Or.inl rfl, Or.inr rfl, Or.inr rfl, Or.inr rfl, Or.inr rfl, Or.inr rfl, Or.inr rfl, Or.inl rfl, Or.inr rfl, Or.inr rfl, Or.inr rfl, Or.inl rfl, Or.inr rfl, Or.inl rfl, Or.inl rfl, Or.inr rfl, Or.inl rfl, Or.inl rfl, Or.inl rfl, Or.inl rfl, Or.inl rfl, Or.inl rfl, Or.inl rfl, trivial⟩ ?_
    exact H
theorem wp_La_law_510 {E : EV} {G : GH} {Post : Res → GH → Prop} (a0 : Nat) (a1 : Nat) (a2 : Nat) (a3 : Nat) (p5 : Int32) (p6 : Int32) (p7 : Int32) (p8 : Int32) (p10 : Int32) (p11 : Int32) (p12 : Int32) (p13 : Int32) (p14 : Int32) (p16 : Int32) (p19 : Int32) (s0 : Int32) (H : J E 15 m_La_law 1209 [some (.ref a0), some (.ref a1), some (.ref a2), some (.ref a3), none, some (.int p5), some (.int p6), some (.int p7), some (.int p8), some (.int s0), some (.int p10), some (.int p11), some (.int p12), some (.int p13), some (.int p14), none, some (.int p16), none, none, some (.int p19), none, none, none, none, none, none, none] [] G Post) : J E 15 m_La_law 510 [some (.ref a0), some (.ref a1), some (.ref a2), some (.ref a3), none, some (.int p5), some (.int p6), some (.int p7), some (.int p8), none, some (.int p10), some (.int p11), some (.int p12), some (.int p13), some (.int p14), none, some (.int p16), none, none, some (.int p19), none, none, none, none, none, none, none] [.int s0] G Post := by
  refine j_istore (L' := [some (.ref a0), some (.ref a1), some (.ref a2), some (.ref a3), none, some (.int p5), some (.int p6), some (.int p7), some (.int p8), some (.int s0), some (.int p10), some (.int p11), some (.int p12), some (.int p13), some (.int p14), none, some (.int p16), none, none, some (.int p19), none, none, none, none, none, none, none]) d_La_law_510 (by decide) rfl ?_
  refine j_goto (tgt := 1209) d_La_law_512 (by decide) ?_
  exact H
theorem wp_La_law_397 {E : EV} {G : GH} {Post : Res → GH → Prop} (a0 : Nat) (a1 : Nat) (a2 : Nat) (a3 : Nat) (p5 : Int32) (p6 : Int32) (p7 : Int32) (p8 : Int32) (p10 : Int32) (p11 : Int32) (p12 : Int32) (p13 : Int32) (p14 : Int32) (p16 : Int32) (p18 : Int32) (p19 : Int32) (p21 : Int32) (s0 : Int32) (H : (gT G a2 = 20 ∨ gT G a2 = 25) ∧ ∃ n3, IX p18 n3 (gN G a2) ∧ (p21 < 0 → J E 15 m_La_law 414 [some (.ref a0), some (.ref a1), some (.ref a2), some (.ref a3), none, some (.int p5), some (.int p6), some (.int p7), some (.int p8), some (.int s0), some (.int p10), some (.int p11), some (.int p12), some (.int p13), some (.int p14), none, some (.int p16), none, none, some (.int p19), none, none, none, none, none, none, none] [.int ((0 : Int32)), .int ((gA G a2 n3)), .int p18, .ref a2] G Post) ∧ (¬ p21 < 0 → J E 15 m_La_law 414 [some (.ref a0), some (.ref a1), some (.ref a2), some (.ref a3), none, some (.int p5), some (.int p6), some (.int p7), some (.int p8), some (.int s0), some (.int p10), some (.int p11), some (.int p12), some (.int p13), some (.int p14), none, some (.int p16), none, none, some (.int p19), none, none, none, none, none, none, none] [.int ((1 : Int32)), .int ((gA G a2 n3)), .int p18, .ref a2] G Post)) : J E 15 m_La_law 397 [some (.ref a0), some (.ref a1), some (.ref a2), some (.ref a3), none, some (.int p5), some (.int p6), some (.int p7), some (.int p8), none, some (.int p10), some (.int p11), some (.int p12), some (.int p13), some (.int p14), none, some (.int p16), none, some (.int p18), some (.int p19), none, some (.int p21), none, none, none, none, none] [.int s0] G Post := by
  refine j_istore (L' := [some (.ref a0), some (.ref a1), some (.ref a2), some (.ref a3), none, some (.int p5), some (.int p6), some (.int p7), some (.int p8), some (.int s0), some (.int p10), some (.int p11), some (.int p12), some (.int p13), some (.int p14), none, some (.int p16), none, some (.int p18), some (.int p19), none, some (.int p21), none, none, none, none, none]) d_La_law_397 (by decide) rfl ?_
  refine j_aload_n d_La_law_399 rfl ?_
  refine j_iload d_La_law_400 rfl ?_
  refine j_dup2 d_La_law_402 rfl rfl ?_
  obtain ⟨t1, H⟩ := H
  obtain ⟨n3, x2, H⟩ := H
  refine j_iald (n := n3) t1 x2 d_La_law_403 ?_
  refine j_iload d_La_law_404 rfl ?_
  obtain ⟨Ha, Hb⟩ := H
  refine j_if_lt (tgt := 413) d_La_law_406 (by decide) (fun c4 => ?_) (fun c5 => ?_)
  · have H := Ha c4
    refine j_iconst (v := 0) d_La_law_413 (by decide) ?_
    refine j_forget (L' := [some (.ref a0), some (.ref a1), some (.ref a2), some (.ref a3), none, some (.int p5), some (.int p6), some (.int p7), some (.int p8), some (.int s0), some (.int p10), some (.int p11), some (.int p12), some (.int p13), some (.int p14), none, some (.int p16), none, none, some (.int p19), none, none, none, none, none, none, none]) ⟨Or.inr rfl, Or.inr rfl, Or.inr rfl, Or.inr rfl, Or.inl rfl, Or.inr rfl, Or.inr rfl, Or.inr rfl, Or.inr rfl, Or.inr rfl, Or.inr rfl, Or.inr rfl, Or.inr rfl, Or.inr rfl, Or.inr rfl, Or.inl rfl, Or.inr rfl, Or.inl rfl, Or.inl rfl, Or.inr rfl, Or.inl rfl, Or.inl rfl, Or.inl rfl, Or.inl rfl, Or.inl rfl, Or.inl rfl, Or.inl rfl, trivial⟩ ?_
    exact H
  · have H := Hb c5
    refine j_iconst (v := 1) d_La_law_409 (by decide) ?_
    refine j_goto (tgt := 414) d_La_law_410 (by decide) ?_
    refine j_forget (L' := [some (.ref a0), some (.ref a1), some (.ref a2), some (.ref a3), none, some (.int p5), some (.int p6), some (.int p7), some (.int p8), some (.int s0), some (.int p10), some (.int p11), some (.int p12), some (.int p13), some (.int p14), none, some (.int p16), none, none, some (.int p19), none, none, none, none, none, none, none]) ⟨Or.inr rfl, Or.inr rfl, Or.inr rfl, Or.inr rfl, Or.inl rfl, Or.inr rfl, Or.inr rfl, Or.inr rfl, Or.inr rfl, Or.inr rfl, Or.inr rfl, Or.inr rfl, Or.inr rfl, Or.inr rfl, Or.inr rfl, Or.inl rfl, Or.inr rfl, Or.inl rfl, Or.inl rfl, Or.inr rfl, Or.inl rfl, Or.inl rfl, Or.inl rfl, Or.inl rfl, Or.inl rfl, Or.inl rfl, Or.inl rfl, trivial⟩ ?_
    exact H
theorem wp_La_law_1123 {E : EV} {G : GH} {Post : Res → GH → Prop} (a0 : Nat) (a1 : Nat) (a2 : Nat) (a3 : Nat) (p5 : Int32) (p6 : Int32) (p7 : Int32) (p8 : Int32) (p11 : Int32) (p12 : Int32) (p13 : Int32) (p14 : Int32) (p16 : Int32) (s0 : Int32) (H : gT G a1 = 10 ∧ ∃ v2, AK E 1 m_St_dropped [.ref a1] G v2 ∧ ∃ v4, AK E 1 m_St_pairs [.ref a1] G v4 ∧ ∃ v6, AK E 1 m_St_uncommitted [.ref a1] G v6 ∧ Cl E 14 m_La_on [.ref a1, .int ((4 : Int32)), .int ((0 : Int32)), .int ((0 : Int32)), .int ((0 : Int32)), .int ((0 : Int32))] G (aft E 15 m_La_law 1152 [some (.ref a0), some (.ref a1), some (.ref a2), some (.ref a3), none, some (.int p5), some (.int p6), some (.int p7), some (.int p8), none, some (.int s0), some (.int p11), some (.int p12), some (.int p13), some (.int p14), none, some (.int p16), none, none, none, none, none, none, none, some (.int v2), some (.int v4), some (.int v6)] [] Post)) : J E 15 m_La_law 1123 [some (.ref a0), some (.ref a1), some (.ref a2), some (.ref a3), none, some (.int p5), some (.int p6), some (.int p7), some (.int p8), none, none, some (.int p11), some (.int p12), some (.int p13), some (.int p14), none, some (.int p16), none, none, none, none, none, none, none, none, none, none] [.int s0] G Post := by
  refine j_istore (L' := [some (.ref a0), some (.ref a1), some (.ref a2), some (.ref a3), none, some (.int p5), some (.int p6), some (.int p7), some (.int p8), none, some (.int s0), some (.int p11), some (.int p12), some (.int p13), some (.int p14), none, some (.int p16), none, none, none, none, none, none, none, none, none, none]) d_La_law_1123 (by decide) rfl ?_
  refine j_iconst (v := -1) d_La_law_1125 (by decide) ?_
  refine j_istore (L' := [some (.ref a0), some (.ref a1), some (.ref a2), some (.ref a3), none, some (.int p5), some (.int p6), some (.int p7), some (.int p8), none, some (.int s0), some (.int p11), some (.int p12), some (.int p13), some (.int p14), none, some (.int p16), none, none, some (.int ((-1 : Int32))), none, none, none, none, none, none, none]) d_La_law_1126 (by decide) rfl ?_
  refine j_aload_n d_La_law_1128 rfl ?_
  obtain ⟨t1, H⟩ := H
  obtain ⟨v2, k3, H⟩ := H
  refine j_callV (d' := 1) (ci := 9) (As := []) (rest := []) (b := a1) cv_La_86 me_St_dropped rfl (by decide) rfl rfl t1 rfl rfl (Nat.le_of_ble_eq_true rfl) d_La_law_1129 (by decide) rfl (k3 _ ?_)
  show J E 15 m_La_law 1132 [some (.ref a0), some (.ref a1), some (.ref a2), some (.ref a3), none, some (.int p5), some (.int p6), some (.int p7), some (.int p8), none, some (.int s0), some (.int p11), some (.int p12), some (.int p13), some (.int p14), none, some (.int p16), none, none, some (.int ((-1 : Int32))), none, none, none, none, none, none, none] [.int v2] G Post
  refine j_istore (L' := [some (.ref a0), some (.ref a1), some (.ref a2), some (.ref a3), none, some (.int p5), some (.int p6), some (.int p7), some (.int p8), none, some (.int s0), some (.int p11), some (.int p12), some (.int p13), some (.int p14), none, some (.int p16), none, none, some (.int ((-1 : Int32))), none, none, none, none, some (.int v2), none, none]) d_La_law_1132 (by decide) rfl ?_
  refine j_aload_n d_La_law_1134 rfl ?_
  obtain ⟨v4, k5, H⟩ := H
  refine j_callV (d' := 1) (ci := 9) (As := []) (rest := []) (b := a1) cv_La_52 me_St_pairs rfl (by decide) rfl rfl t1 rfl rfl (Nat.le_of_ble_eq_true rfl) d_La_law_1135 (by decide) rfl (k5 _ ?_)
  show J E 15 m_La_law 1138 [some (.ref a0), some (.ref a1), some (.ref a2), some (.ref a3), none, some (.int p5), some (.int p6), some (.int p7), some (.int p8), none, some (.int s0), some (.int p11), some (.int p12), some (.int p13), some (.int p14), none, some (.int p16), none, none, some (.int ((-1 : Int32))), none, none, none, none, some (.int v2), none, none] [.int v4] G Post
  refine j_istore (L' := [some (.ref a0), some (.ref a1), some (.ref a2), some (.ref a3), none, some (.int p5), some (.int p6), some (.int p7), some (.int p8), none, some (.int s0), some (.int p11), some (.int p12), some (.int p13), some (.int p14), none, some (.int p16), none, none, some (.int ((-1 : Int32))), none, none, none, none, some (.int v2), some (.int v4), none]) d_La_law_1138 (by decide) rfl ?_
  refine j_aload_n d_La_law_1140 rfl ?_
  obtain ⟨v6, k7, H⟩ := H
  refine j_callV (d' := 1) (ci := 9) (As := []) (rest := []) (b := a1) cv_La_77 me_St_uncommitted rfl (by decide) rfl rfl t1 rfl rfl (Nat.le_of_ble_eq_true rfl) d_La_law_1141 (by decide) rfl (k7 _ ?_)
  show J E 15 m_La_law 1144 [some (.ref a0), some (.ref a1), some (.ref a2), some (.ref a3), none, some (.int p5), some (.int p6), some (.int p7), some (.int p8), none, some (.int s0), some (.int p11), some (.int p12), some (.int p13), some (.int p14), none, some (.int p16), none, none, some (.int ((-1 : Int32))), none, none, none, none, some (.int v2), some (.int v4), none] [.int v6] G Post
  refine j_istore (L' := [some (.ref a0), some (.ref a1), some (.ref a2), some (.ref a3), none, some (.int p5), some (.int p6), some (.int p7), some (.int p8), none, some (.int s0), some (.int p11), some (.int p12), some (.int p13), some (.int p14), none, some (.int p16), none, none, some (.int ((-1 : Int32))), none, none, none, none, some (.int v2), some (.int v4), some (.int v6)]) d_La_law_1144 (by decide) rfl ?_
  refine j_aload_n d_La_law_1146 rfl ?_
  refine j_iconst (v := 4) d_La_law_1147 (by decide) ?_
  refine j_iconst (v := 0) d_La_law_1148 (by decide) ?_
  refine j_iconst (v := 0) d_La_law_1149 (by decide) ?_
  refine j_iconst (v := 0) d_La_law_1150 (by decide) ?_
  refine j_iconst (v := 0) d_La_law_1151 (by decide) ?_
  refine j_forget (L' := [some (.ref a0), some (.ref a1), some (.ref a2), some (.ref a3), none, some (.int p5), some (.int p6), some (.int p7), some (.int p8), none, some (.int s0), some (.int p11), some (.int p12), some (.int p13), some (.int p14), none, some (.int p16), none, none, none, none, none, none, none, some (.int v2), some (.int v4), some (.int v6)]) ⟨Or.inr rfl, Or.inr rfl, Or.inr rfl, Or.inr rfl, Or.inl rfl, Or.inr rfl, Or.inr rfl, Or.inr rfl, Or.inr rfl, Or.inl rfl, Or.inr rfl, Or.inr rfl, Or.inr rfl, Or.inr rfl, Or.inr rfl, Or.inl rfl, Or.inr rfl, Or.inl rfl, Or.inl rfl, Or.inl rfl, Or.inl rfl, Or.inl rfl, Or.inl rfl, Or.inl rfl, Or.inr rfl, Or.inr rfl, Or.inr rfl, trivial⟩ ?_
  exact j_callSX (d' := 14) (As := [.ref a1, .int ((4 : Int32)), .int ((0 : Int32)), .int ((0 : Int32)), .int ((0 : Int32)), .int ((0 : Int32))]) (rest := []) cs_La_83 me_La_on ⟨_, _, rfl⟩ (by decide) rfl rfl (Nat.le_of_ble_eq_true rfl) d_La_law_1152 (by decide) rfl H
theorem wp_La_law_957 {E : EV} {G : GH} {Post : Res → GH → Prop} (a0 : Nat) (a1 : Nat) (a2 : Nat) (a3 : Nat) (p5 : Int32) (p6 : Int32) (p7 : Int32) (p8 : Int32) (p9 : Int32) (p10 : Int32) (p11 : Int32) (p12 : Int32) (p13 : Int32) (p14 : Int32) (p16 : Int32) (p19 : Int32) (u0 : Nat) (s1 : Int32) (s2 : Int32) (H : gT G u0 = 20 ∧ ∃ n3, IX s1 n3 (gN G u0) ∧ J E 15 m_La_law 1209 [some (.ref a0), some (.ref a1), some (.ref a2), some (.ref a3), none, some (.int p5), some (.int p6), some (.int p7), some (.int p8), some (.int p9), some (.int p10), some (.int p11), some (.int p12), some (.int p13), some (.int p14), none, some (.int p16), none, none, some (.int p19), none, none, none, none, none, none, none] [] (sA G u0 n3 s2) Post) : J E 15 m_La_law 957 [some (.ref a0), some (.ref a1), some (.ref a2), some (.ref a3), none, some (.int p5), some (.int p6), some (.int p7), some (.int p8), some (.int p9), some (.int p10), some (.int p11), some (.int p12), some (.int p13), some (.int p14), none, some (.int p16), none, none, some (.int p19), none, none, none, none, none, none, none] [.int s2, .int s1, .ref u0] G Post := by
  obtain ⟨t1, H⟩ := H
  obtain ⟨n3, x2, H⟩ := H
  refine j_iast (n := n3) t1 x2 d_La_law_957 ?_
  refine j_goto (tgt := 1209) d_La_law_958 (by decide) ?_
  exact H
theorem wp_La_law_1261 {E : EV} {G : GH} {Post : Res → GH → Prop} (a0 : Nat) (a1 : Nat) (a2 : Nat) (a3 : Nat) (p5 : Int32) (p6 : Int32) (p7 : Int32) (p8 : Int32) (p10 : Int32) (p11 : Int32) (p12 : Int32) (p13 : Int32) (p14 : Int32) (p16 : Int32) (H : J E 15 m_La_law 1262 [some (.ref a0), some (.ref a1), some (.ref a2), some (.ref a3), none, some (.int p5), some (.int p6), some (.int p7), some (.int p8), none, some (.int p10), some (.int p11), some (.int p12), some (.int p13), some (.int p14), none, some (.int p16), none, none, none, none, none, none, none, none, none, none] [.int ((0 : Int32))] G Post) : J E 15 m_La_law 1261 [some (.ref a0), some (.ref a1), some (.ref a2), some (.ref a3), none, some (.int p5), some (.int p6), some (.int p7), some (.int p8), none, some (.int p10), some (.int p11), some (.int p12), some (.int p13), some (.int p14), none, some (.int p16), none, none, none, none, none, none, none, none, none, none] [] G Post := by
  refine j_iconst (v := 0) d_La_law_1261 (by decide) ?_
  exact H
theorem wp_La_law_1236 {E : EV} {G : GH} {Post : Res → GH → Prop} (a0 : Nat) (a1 : Nat) (a2 : Nat) (a3 : Nat) (p5 : Int32) (p6 : Int32) (p7 : Int32) (p8 : Int32) (p10 : Int32) (p11 : Int32) (p12 : Int32) (p13 : Int32) (p14 : Int32) (p16 : Int32) (s0 : Int32) (H : (¬ s0 = (-11 : Int32) → J E 15 m_La_law 1261 [some (.ref a0), some (.ref a1), some (.ref a2), some (.ref a3), none, some (.int p5), some (.int p6), some (.int p7), some (.int p8), none, some (.int p10), some (.int p11), some (.int p12), some (.int p13), some (.int p14), none, some (.int p16), none, none, none, none, none, none, none, none, none, none] [] G Post) ∧ (s0 = (-11 : Int32) → Cl E 14 m_La_on [.ref a1, .int ((6 : Int32)), .int ((p12 - (1 : Int32))), .int ((0 : Int32)), .int ((0 : Int32)), .int ((0 : Int32))] G (aft E 15 m_La_law 1251 [some (.ref a0), some (.ref a1), some (.ref a2), some (.ref a3), none, some (.int p5), some (.int p6), some (.int p7), some (.int p8), none, some (.int p10), some (.int p11), some (.int p12), some (.int p13), some (.int p14), none, some (.int p16), none, none, none, none, none, none, none, none, none, none] [] Post))) : J E 15 m_La_law 1236 [some (.ref a0), some (.ref a1), some (.ref a2), some (.ref a3), none, some (.int p5), some (.int p6), some (.int p7), some (.int p8), none, some (.int p10), some (.int p11), some (.int p12), some (.int p13), some (.int p14), none, some (.int p16), none, none, none, none, none, none, none, none, none, none] [.int s0] G Post := by
  refine j_bipush (v := -11) d_La_law_1236 (by decide) ?_
  obtain ⟨Ha, Hb⟩ := H
  refine j_icmp_ne (tgt := 1261) d_La_law_1238 (by decide) (fun c1 => ?_) (fun c2 => ?_)
  · have H := Ha c1
    exact H
  · have H := Hb c2
    refine j_aload_n d_La_law_1241 rfl ?_
    refine j_bipush (v := 6) d_La_law_1242 (by decide) ?_
    refine j_iload d_La_law_1244 rfl ?_
    refine j_iconst (v := 1) d_La_law_1246 (by decide) ?_
    refine j_isub d_La_law_1247 ?_
    refine j_iconst (v := 0) d_La_law_1248 (by decide) ?_
    refine j_iconst (v := 0) d_La_law_1249 (by decide) ?_
    refine j_iconst (v := 0) d_La_law_1250 (by decide) ?_
    exact j_callSX (d' := 14) (As := [.ref a1, .int ((6 : Int32)), .int ((p12 - (1 : Int32))), .int ((0 : Int32)), .int ((0 : Int32)), .int ((0 : Int32))]) (rest := []) cs_La_83 me_La_on ⟨_, _, rfl⟩ (by decide) rfl rfl (Nat.le_of_ble_eq_true rfl) d_La_law_1251 (by decide) rfl H
theorem wp_La_law_629 {E : EV} {G : GH} {Post : Res → GH → Prop} (a0 : Nat) (a1 : Nat) (a2 : Nat) (a3 : Nat) (p5 : Int32) (p6 : Int32) (p7 : Int32) (p8 : Int32) (p10 : Int32) (p11 : Int32) (p12 : Int32) (p13 : Int32) (p14 : Int32) (p16 : Int32) (p19 : Int32) (p20 : Int32) (p21 : Int32) (p24 : Int32) (s0 : Int32) (s1 : Int32) (s2 : Int32) (H : (¬ s0 = (s1 + s2) → J E 15 m_La_law 680 [some (.ref a0), some (.ref a1), some (.ref a2), some (.ref a3), none, some (.int p5), some (.int p6), some (.int p7), some (.int p8), none, some (.int p10), some (.int p11), some (.int p12), some (.int p13), some (.int p14), none, some (.int p16), none, none, some (.int p19), none, some (.int p21), none, none, none, none, none] [] G Post) ∧ (s0 = (s1 + s2) → gT G a1 = 10 ∧ ∃ v2, AK E 1 m_St_uncommitted [.ref a1] G v2 ∧ (v2 < p20 → J E 15 m_La_law 680 [some (.ref a0), some (.ref a1), some (.ref a2), some (.ref a3), none, some (.int p5), some (.int p6), some (.int p7), some (.int p8), none, some (.int p10), some (.int p11), some (.int p12), some (.int p13), some (.int p14), none, some (.int p16), none, none, some (.int p19), none, some (.int p21), none, none, none, none, none] [] G Post) ∧ (¬ v2 < p20 → (p21 = 0 → J E 15 m_La_law 656 [some (.ref a0), some (.ref a1), some (.ref a2), some (.ref a3), none, some (.int p5), some (.int p6), some (.int p7), some (.int p8), none, some (.int p10), some (.int p11), some (.int p12), some (.int p13), some (.int p14), none, some (.int p16), none, none, some (.int p19), none, some (.int p21), none, none, none, none, none] [] G Post) ∧ (¬ p21 = 0 → ∃ v4, AK E 1 m_St_pairs [.ref a1] G v4 ∧ (¬ v4 = p24 → J E 15 m_La_law 680 [some (.ref a0), some (.ref a1), some (.ref a2), some (.ref a3), none, some (.int p5), some (.int p6), some (.int p7), some (.int p8), none, some (.int p10), some (.int p11), some (.int p12), some (.int p13), some (.int p14), none, some (.int p16), none, none, some (.int p19), none, some (.int p21), none, none, none, none, none] [] G Post) ∧ (v4 = p24 → J E 15 m_La_law 656 [some (.ref a0), some (.ref a1), some (.ref a2), some (.ref a3), none, some (.int p5), some (.int p6), some (.int p7), some (.int p8), none, some (.int p10), some (.int p11), some (.int p12), some (.int p13), some (.int p14), none, some (.int p16), none, none, some (.int p19), none, some (.int p21), none, none, none, none, none] [] G Post))))) : J E 15 m_La_law 629 [some (.ref a0), some (.ref a1), some (.ref a2), some (.ref a3), none, some (.int p5), some (.int p6), some (.int p7), some (.int p8), none, some (.int p10), some (.int p11), some (.int p12), some (.int p13), some (.int p14), none, some (.int p16), none, none, some (.int p19), some (.int p20), some (.int p21), none, none, some (.int p24), none, none] [.int s2, .int s1, .int s0] G Post := by
  refine j_iadd d_La_law_629 ?_
  obtain ⟨Ha, Hb⟩ := H
  refine j_icmp_ne (tgt := 680) d_La_law_630 (by decide) (fun c12 => ?_) (fun c13 => ?_)
  · have H := Ha c12
    refine j_forget (L' := [some (.ref a0), some (.ref a1), some (.ref a2), some (.ref a3), none, some (.int p5), some (.int p6), some (.int p7), some (.int p8), none, some (.int p10), some (.int p11), some (.int p12), some (.int p13), some (.int p14), none, some (.int p16), none, none, some (.int p19), none, some (.int p21), none, none, none, none, none]) ⟨Or.inr rfl, Or.inr rfl, Or.inr rfl, Or.inr rfl, Or.inl rfl, Or.inr rfl, Or.inr rfl, Or.inr rfl, Or.inr rfl, Or.inl rfl, Or.inr rfl, Or.inr rfl, Or.inr rfl, Or.inr rfl, Or.inr rfl, Or.inl rfl, Or.inr rfl, Or.inl rfl, Or.inl rfl, Or.inr rfl, Or.inl rfl, Or.inr rfl, Or.inl rfl, Or.inl rfl, Or.inl rfl, Or.inl rfl, Or.inl rfl, trivial⟩ ?_
    exact H
  · have H := Hb c13
    refine j_aload_n d_La_law_633 rfl ?_
    obtain ⟨t1, H⟩ := H
    obtain ⟨v2, k3, H⟩ := H
    refine j_callV (d' := 1) (ci := 9) (As := []) (rest := []) (b := a1) cv_La_77 me_St_uncommitted rfl (by decide) rfl rfl t1 rfl rfl (Nat.le_of_ble_eq_true rfl) d_La_law_634 (by decide) rfl (k3 _ ?_)
    show J E 15 m_La_law 637 [some (.ref a0), some (.ref a1), some (.ref a2), some (.ref a3), none, some (.int p5), some (.int p6), some (.int p7), some (.int p8), none, some (.int p10), some (.int p11), some (.int p12), some (.int p13), some (.int p14), none, some (.int p16), none, none, some (.int p19), some (.int p20), some (.int p21), none, none, some (.int p24), none, none] [.int v2] G Post
    refine j_iload d_La_law_637 rfl ?_
    obtain ⟨Ha, Hb⟩ := H
    refine j_icmp_lt (tgt := 680) d_La_law_639 (by decide) (fun c10 => ?_) (fun c11 => ?_)
    · have H := Ha c10
      refine j_forget (L' := [some (.ref a0), some (.ref a1), some (.ref a2), some (.ref a3), none, some (.int p5), some (.int p6), some (.int p7), some (.int p8), none, some (.int p10), some (.int p11), some (.int p12), some (.int p13), some (.int p14), none, some (.int p16), none, none, some (.int p19), none, some (.int p21), none, none, none, none, none]) ⟨Or.inr rfl, Or.inr rfl, Or.inr rfl, Or.inr rfl, Or.inl rfl, Or.inr rfl, Or.inr rfl, Or.inr rfl, Or.inr rfl, Or.inl rfl, Or.inr rfl, Or.inr rfl, Or.inr rfl, Or.inr rfl, Or.inr rfl, Or.inl rfl, Or.inr rfl, Or.inl rfl, Or.inl rfl, Or.inr rfl, Or.inl rfl, Or.inr rfl, Or.inl rfl, Or.inl rfl, Or.inl rfl, Or.inl rfl, Or.inl rfl, trivial⟩ ?_
      exact H
    · have H := Hb c11
      refine j_iload d_La_law_642 rfl ?_
      obtain ⟨Ha, Hb⟩ := H
      refine j_if_eq (tgt := 656) d_La_law_644 (by decide) (fun c8 => ?_) (fun c9 => ?_)
      · have H := Ha c8
        refine j_forget (L' := [some (.ref a0), some (.ref a1), some (.ref a2), some (.ref a3), none, some (.int p5), some (.int p6), some (.int p7), some (.int p8), none, some (.int p10), some (.int p11), some (.int p12), some (.int p13), some (.int p14), none, some (.int p16), none, none, some (.int p19), none, some (.int p21), none, none, none, none, none]) ⟨Or.inr rfl, Or.inr rfl, Or.inr rfl, Or.inr rfl, Or.inl rfl, Or.inr rfl, Or.inr rfl, Or.inr rfl, Or.inr rfl, Or.inl rfl, Or.inr rfl, Or.inr rfl, Or.inr rfl, Or.inr rfl, Or.inr rfl, Or.inl rfl, Or.inr rfl, Or.inl rfl, Or.inl rfl, Or.inr rfl, Or.inl rfl, Or.inr rfl, Or.inl rfl, Or.inl rfl, Or.inl rfl, Or.inl rfl, Or.inl rfl, trivial⟩ ?_
        exact H
      · have H := Hb c9
        refine j_aload_n d_La_law_647 rfl ?_
        obtain ⟨v4, k5, H⟩ := H
        refine j_callV (d' := 1) (ci := 9) (As := []) (rest := []) (b := a1) cv_La_52 me_St_pairs rfl (by decide) rfl rfl t1 rfl rfl (Nat.le_of_ble_eq_true rfl) d_La_law_648 (by decide) rfl (k5 _ ?_)
        show J E 15 m_La_law 651 [some (.ref a0), some (.ref a1), some (.ref a2), some (.ref a3), none, some (.int p5), some (.int p6), some (.int p7), some (.int p8), none, some (.int p10), some (.int p11), some (.int p12), some (.int p13), some (.int p14), none, some (.int p16), none, none, some (.int p19), some (.int p20), some (.int p21), none, none, some (.int p24), none, none] [.int v4] G Post
        refine j_iload d_La_law_651 rfl ?_
        obtain ⟨Ha, Hb⟩ := H
        refine j_icmp_ne (tgt := 680) d_La_law_653 (by decide) (fun c6 => ?_) (fun c7 => ?_)
        · have H := Ha c6
          refine j_forget (L' := [some (.ref a0), some (.ref a1), some (.ref a2), some (.ref a3), none, some (.int p5), some (.int p6), some (.int p7), some (.int p8), none, some (.int p10), some (.int p11), some (.int p12), some (.int p13), some (.int p14), none, some (.int p16), none, none, some (.int p19), none, some (.int p21), none, none, none, none, none]) ⟨Or.inr rfl, Or.inr rfl, Or.inr rfl, Or.inr rfl, Or.inl rfl, Or.inr rfl, Or.inr rfl, Or.inr rfl, Or.inr rfl, Or.inl rfl, Or.inr rfl, Or.inr rfl, Or.inr rfl, Or.inr rfl, Or.inr rfl, Or.inl rfl, Or.inr rfl, Or.inl rfl, Or.inl rfl, Or.inr rfl, Or.inl rfl, Or.inr rfl, Or.inl rfl, Or.inl rfl, Or.inl rfl, Or.inl rfl, Or.inl rfl, trivial⟩ ?_
          exact H
        · have H := Hb c7
          refine j_forget (L' := [some (.ref a0), some (.ref a1), some (.ref a2), some (.ref a3), none, some (.int p5), some (.int p6), some (.int p7), some (.int p8), none, some (.int p10), some (.int p11), some (.int p12), some (.int p13), some (.int p14), none, some (.int p16), none, none, some (.int p19), none, some (.int p21), none, none, none, none, none]) ⟨Or.inr rfl, Or.inr rfl, Or.inr rfl, Or.inr rfl, Or.inl rfl, Or.inr rfl, Or.inr rfl, Or.inr rfl, Or.inr rfl, Or.inl rfl, Or.inr rfl, Or.inr rfl, Or.inr rfl, Or.inr rfl, Or.inr rfl, Or.inl rfl, Or.inr rfl, Or.inl rfl, Or.inl rfl, Or.inr rfl, Or.inl rfl, Or.inr rfl, Or.inl rfl, Or.inl rfl, Or.inl rfl, Or.inl rfl, Or.inl rfl, trivial⟩ ?_
          exact H
theorem wp_La_law_696 {E : EV} {G : GH} {Post : Res → GH → Prop} (a0 : Nat) (a1 : Nat) (a2 : Nat) (a3 : Nat) (p5 : Int32) (p6 : Int32) (p7 : Int32) (p8 : Int32) (p9 : Int32) (p10 : Int32) (p12 : Int32) (p13 : Int32) (p14 : Int32) (p16 : Int32) (p19 : Int32) (s0 : Int32) (s1 : Int32) (H : J E 15 m_La_law 1209 [some (.ref a0), some (.ref a1), some (.ref a2), some (.ref a3), none, some (.int p5), some (.int p6), some (.int p7), some (.int p8), some (.int p9), some (.int p10), some (.int ((s0 + s1))), some (.int p12), some (.int p13), some (.int p14), none, some (.int p16), none, none, some (.int p19), none, none, none, none, none, none, none] [] G Post) : J E 15 m_La_law 696 [some (.ref a0), some (.ref a1), some (.ref a2), some (.ref a3), none, some (.int p5), some (.int p6), some (.int p7), some (.int p8), some (.int p9), some (.int p10), none, some (.int p12), some (.int p13), some (.int p14), none, some (.int p16), none, none, some (.int p19), none, none, none, none, none, none, none] [.int s1, .int s0] G Post := by
  refine j_iadd d_La_law_696 ?_
  refine j_istore (L' := [some (.ref a0), some (.ref a1), some (.ref a2), some (.ref a3), none, some (.int p5), some (.int p6), some (.int p7), some (.int p8), some (.int p9), some (.int p10), some (.int ((s0 + s1))), some (.int p12), some (.int p13), some (.int p14), none, some (.int p16), none, none, some (.int p19), none, none, none, none, none, none, none]) d_La_law_697 (by decide) rfl ?_
  refine j_goto (tgt := 1209) d_La_law_699 (by decide) ?_
  exact H
theorem wp_La_law_414 {E : EV} {G : GH} {Post : Res → GH → Prop} (a0 : Nat) (a1 : Nat) (a2 : Nat) (a3 : Nat) (p5 : Int32) (p6 : Int32) (p7 : Int32) (p8 : Int32) (p9 : Int32) (p10 : Int32) (p11 : Int32) (p12 : Int32) (p13 : Int32) (p14 : Int32) (p16 : Int32) (p19 : Int32) (u0 : Nat) (s1 : Int32) (s2 : Int32) (s3 : Int32) (H : gT G u0 = 20 ∧ ∃ n3, IX s1 n3 (gN G u0) ∧ J E 15 m_La_law 1209 [some (.ref a0), some (.ref a1), some (.ref a2), some (.ref a3), none, some (.int p5), some (.int p6), some (.int p7), some (.int p8), some (.int p9), some (.int p10), some (.int p11), some (.int p12), some (.int p13), some (.int p14), none, some (.int p16), none, none, some (.int p19), none, none, none, none, none, none, none] [] (sA G u0 n3 ((s2 + s3))) Post) : J E 15 m_La_law 414 [some (.ref a0), some (.ref a1), some (.ref a2), some (.ref a3), none, some (.int p5), some (.int p6), some (.int p7), some (.int p8), some (.int p9), some (.int p10), some (.int p11), some (.int p12), some (.int p13), some (.int p14), none, some (.int p16), none, none, some (.int p19), none, none, none, none, none, none, none] [.int s3, .int s2, .int s1, .ref u0] G Post := by
  refine j_iadd d_La_law_414 ?_
  obtain ⟨t1, H⟩ := H
  obtain ⟨n3, x2, H⟩ := H
  refine j_iast (n := n3) t1 x2 d_La_law_415 ?_
  refine j_goto (tgt := 1209) d_La_law_416 (by decide) ?_
  exact H
theorem wp_La_law_1155 {E : EV} {G : GH} {Post : Res → GH → Prop} (a0 : Nat) (a1 : Nat) (a2 : Nat) (a3 : Nat) (p5 : Int32) (p6 : Int32) (p7 : Int32) (p8 : Int32) (p10 : Int32) (p11 : Int32) (p12 : Int32) (p13 : Int32) (p14 : Int32) (p16 : Int32) (p24 : Int32) (p25 : Int32) (p26 : Int32) (s0 : Int32) (H : (¬ s0 = (-13 : Int32) → J E 15 m_La_law 1200 [some (.ref a0), some (.ref a1), some (.ref a2), some (.ref a3), none, some (.int p5), some (.int p6), some (.int p7), some (.int p8), none, some (.int p10), some (.int p11), some (.int p12), some (.int p13), some (.int p14), none, some (.int p16), none, none, none, none, none, none, none, none, none, none] [] G Post) ∧ (s0 = (-13 : Int32) → gT G a1 = 10 ∧ Cl E 11 m_St_fail [.ref a1] G (aft E 15 m_La_law 1161 [some (.ref a0), some (.ref a1), some (.ref a2), some (.ref a3), none, some (.int p5), some (.int p6), some (.int p7), some (.int p8), none, some (.int p10), some (.int p11), some (.int p12), some (.int p13), some (.int p14), none, some (.int p16), none, none, none, none, none, none, none, some (.int p24), some (.int p25), some (.int p26)] [] Post))) : J E 15 m_La_law 1155 [some (.ref a0), some (.ref a1), some (.ref a2), some (.ref a3), none, some (.int p5), some (.int p6), some (.int p7), some (.int p8), none, some (.int p10), some (.int p11), some (.int p12), some (.int p13), some (.int p14), none, some (.int p16), none, none, none, none, none, none, none, some (.int p24), some (.int p25), some (.int p26)] [.int s0] G Post := by
  refine j_bipush (v := -13) d_La_law_1155 (by decide) ?_
  obtain ⟨Ha, Hb⟩ := H
  refine j_icmp_ne (tgt := 1200) d_La_law_1157 (by decide) (fun c2 => ?_) (fun c3 => ?_)
  · have H := Ha c2
    refine j_forget (L' := [some (.ref a0), some (.ref a1), some (.ref a2), some (.ref a3), none, some (.int p5), some (.int p6), some (.int p7), some (.int p8), none, some (.int p10), some (.int p11), some (.int p12), some (.int p13), some (.int p14), none, some (.int p16), none, none, none, none, none, none, none, none, none, none]) ⟨Or.inr rfl, Or.inr rfl, Or.inr rfl, Or.inr rfl, Or.inl rfl, Or.inr rfl, Or.inr rfl, Or.inr rfl, Or.inr rfl, Or.inl rfl, Or.inr rfl, Or.inr rfl, Or.inr rfl, Or.inr rfl, Or.inr rfl, Or.inl rfl, Or.inr rfl, Or.inl rfl, Or.inl rfl, Or.inl rfl, Or.inl rfl, Or.inl rfl, Or.inl rfl, Or.inl rfl, Or.inl rfl, Or.inl rfl, Or.inl rfl, trivial⟩ ?_
    exact H
  · have H := Hb c3
    refine j_aload_n d_La_law_1160 rfl ?_
    obtain ⟨t1, H⟩ := H
    exact j_callV (d' := 11) (ci := 9) (As := []) (rest := []) (b := a1) cv_La_93 me_St_fail rfl (by decide) rfl rfl t1 rfl rfl (Nat.le_of_ble_eq_true rfl) d_La_law_1161 (by decide) rfl H
theorem wp_La_law_1262 {E : EV} {G : GH} {Post : Res → GH → Prop} (a0 : Nat) (a1 : Nat) (a2 : Nat) (a3 : Nat) (p5 : Int32) (p6 : Int32) (p7 : Int32) (p8 : Int32) (p10 : Int32) (p11 : Int32) (p12 : Int32) (p13 : Int32) (p14 : Int32) (p16 : Int32) (s0 : Int32) (H : (s0 = 0 → J E 15 m_La_law 1313 [some (.ref a0), some (.ref a1), some (.ref a2), some (.ref a3), none, some (.int p5), some (.int p6), some (.int p7), some (.int p8), none, some (.int p10), some (.int p11), some (.int p12), some (.int p13), some (.int p14), none, none, none, none, none, none, none, none, none, none, none, none] [] G Post) ∧ (¬ s0 = 0 → (0 < (p14 - p14 / (3 : Int32) * (3 : Int32)) → J E 15 m_La_law 1309 [some (.ref a0), some (.ref a1), some (.ref a2), some (.ref a3), none, some (.int p5), some (.int p6), some (.int p7), some (.int p8), none, some (.int p10), some (.int p11), some (.int p12), some (.int p13), some (.int p14), none, none, none, none, none, none, none, none, none, none, none, none] [] G Post) ∧ (¬ 0 < (p14 - p14 / (3 : Int32) * (3 : Int32)) → ¬ p7 = 0 ∧ ¬ ((1000 : Int32) / p7) = 0 ∧ Cl E 8 m_La_isTwice [.ref a1, .int (((p16 >>> ((3 : Int32) &&& 31)) - (p16 >>> ((3 : Int32) &&& 31)) / (6 : Int32) * (6 : Int32))), .int ((p7 * ((p16 >>> ((6 : Int32) &&& 31)) - (p16 >>> ((6 : Int32) &&& 31)) / ((1000 : Int32) / p7) * ((1000 : Int32) / p7)))), .int p6, .int p5] G (aft E 15 m_La_law 1303 [some (.ref a0), some (.ref a1), some (.ref a2), some (.ref a3), none, some (.int p5), some (.int p6), some (.int p7), some (.int p8), none, some (.int p10), some (.int p11), some (.int p12), some (.int p13), some (.int p14), none, none, none, none, none, none, none, none, none, none, none, none] [] Post)))) : J E 15 m_La_law 1262 [some (.ref a0), some (.ref a1), some (.ref a2), some (.ref a3), none, some (.int p5), some (.int p6), some (.int p7), some (.int p8), none, some (.int p10), some (.int p11), some (.int p12), some (.int p13), some (.int p14), none, some (.int p16), none, none, none, none, none, none, none, none, none, none] [.int s0] G Post := by
  refine j_istore (L' := [some (.ref a0), some (.ref a1), some (.ref a2), some (.ref a3), none, some (.int p5), some (.int p6), some (.int p7), some (.int p8), some (.int s0), some (.int p10), some (.int p11), some (.int p12), some (.int p13), some (.int p14), none, some (.int p16), none, none, none, none, none, none, none, none, none, none]) d_La_law_1262 (by decide) rfl ?_
  refine j_iload d_La_law_1264 rfl ?_
  obtain ⟨Ha, Hb⟩ := H
  refine j_if_eq (tgt := 1313) d_La_law_1266 (by decide) (fun c5 => ?_) (fun c6 => ?_)
  · have H := Ha c5
    refine j_forget (L' := [some (.ref a0), some (.ref a1), some (.ref a2), some (.ref a3), none, some (.int p5), some (.int p6), some (.int p7), some (.int p8), none, some (.int p10), some (.int p11), some (.int p12), some (.int p13), some (.int p14), none, none, none, none, none, none, none, none, none, none, none, none]) ⟨Or.inr rfl, Or.inr rfl, Or.inr rfl, Or.inr rfl, Or.inl rfl, Or.inr rfl, Or.inr rfl, Or.inr rfl, Or.inr rfl, Or.inl rfl, Or.inr rfl, Or.inr rfl, Or.inr rfl, Or.inr rfl, Or.inr rfl, Or.inl rfl, Or.inl rfl, Or.inl rfl, Or.inl rfl, Or.inl rfl, Or.inl rfl, Or.inl rfl, Or.inl rfl, Or.inl rfl, Or.inl rfl, Or.inl rfl, Or.inl rfl, trivial⟩ ?_
    exact H
  · have H := Hb c6
    refine j_iload d_La_law_1269 rfl ?_
    refine j_iconst (v := 3) d_La_law_1271 (by decide) ?_
    refine j_irem d_La_law_1272 (by decide) ?_
    obtain ⟨Ha, Hb⟩ := H
    refine j_if_gt (tgt := 1309) d_La_law_1273 (by decide) (fun c3 => ?_) (fun c4 => ?_)
    · have H := Ha c3
      refine j_forget (L' := [some (.ref a0), some (.ref a1), some (.ref a2), some (.ref a3), none, some (.int p5), some (.int p6), some (.int p7), some (.int p8), none, some (.int p10), some (.int p11), some (.int p12), some (.int p13), some (.int p14), none, none, none, none, none, none, none, none, none, none, none, none]) ⟨Or.inr rfl, Or.inr rfl, Or.inr rfl, Or.inr rfl, Or.inl rfl, Or.inr rfl, Or.inr rfl, Or.inr rfl, Or.inr rfl, Or.inl rfl, Or.inr rfl, Or.inr rfl, Or.inr rfl, Or.inr rfl, Or.inr rfl, Or.inl rfl, Or.inl rfl, Or.inl rfl, Or.inl rfl, Or.inl rfl, Or.inl rfl, Or.inl rfl, Or.inl rfl, Or.inl rfl, Or.inl rfl, Or.inl rfl, Or.inl rfl, trivial⟩ ?_
      exact H
    · have H := Hb c4
      refine j_aload_n d_La_law_1276 rfl ?_
      refine j_iload d_La_law_1277 rfl ?_
      refine j_iconst (v := 3) d_La_law_1279 (by decide) ?_
      refine j_ishr d_La_law_1280 ?_
      refine j_bipush (v := 6) d_La_law_1281 (by decide) ?_
      refine j_irem d_La_law_1283 (by decide) ?_
      refine j_iload d_La_law_1284 rfl ?_
      refine j_iload d_La_law_1286 rfl ?_
      refine j_bipush (v := 6) d_La_law_1288 (by decide) ?_
      refine j_ishr d_La_law_1290 ?_
      refine j_sipush (v := 1000) d_La_law_1291 (by decide) ?_
      refine j_iload d_La_law_1294 rfl ?_
      obtain ⟨z1, H⟩ := H
      refine j_idiv d_La_law_1296 z1 ?_
      obtain ⟨z2, H⟩ := H
      refine j_irem d_La_law_1297 z2 ?_
      refine j_imul d_La_law_1298 ?_
      refine j_iload d_La_law_1299 rfl ?_
      refine j_iload d_La_law_1301 rfl ?_
      refine j_forget (L' := [some (.ref a0), some (.ref a1), some (.ref a2), some (.ref a3), none, some (.int p5), some (.int p6), some (.int p7), some (.int p8), none, some (.int p10), some (.int p11), some (.int p12), some (.int p13), some (.int p14), none, none, none, none, none, none, none, none, none, none, none, none]) ⟨Or.inr rfl, Or.inr rfl, Or.inr rfl, Or.inr rfl, Or.inl rfl, Or.inr rfl, Or.inr rfl, Or.inr rfl, Or.inr rfl, Or.inl rfl, Or.inr rfl, Or.inr rfl, Or.inr rfl, Or.inr rfl, Or.inr rfl, Or.inl rfl, Or.inl rfl, Or.inl rfl, Or.inl rfl, Or.inl rfl, Or.inl rfl, Or.inl rfl, Or.inl rfl, Or.inl rfl, Or.inl rfl, Or.inl rfl, Or.inl rfl, trivial⟩ ?_
      exact j_callS (d' := 8) (As := [.ref a1, .int (((p16 >>> ((3 : Int32) &&& 31)) - (p16 >>> ((3 : Int32) &&& 31)) / (6 : Int32) * (6 : Int32))), .int ((p7 * ((p16 >>> ((6 : Int32) &&& 31)) - (p16 >>> ((6 : Int32) &&& 31)) / ((1000 : Int32) / p7) * ((1000 : Int32) / p7)))), .int p6, .int p5]) (rest := []) cs_La_100 me_La_isTwice rfl (by decide) rfl rfl (Nat.le_of_ble_eq_true rfl) d_La_law_1303 (by decide) rfl H
theorem wp_La_law_1254 {E : EV} {G : GH} {Post : Res → GH → Prop} (a0 : Nat) (a1 : Nat) (a2 : Nat) (a3 : Nat) (p5 : Int32) (p6 : Int32) (p7 : Int32) (p8 : Int32) (p10 : Int32) (p11 : Int32) (p12 : Int32) (p13 : Int32) (p14 : Int32) (p16 : Int32) (s0 : Int32) (H : (s0 < 0 → J E 15 m_La_law 1261 [some (.ref a0), some (.ref a1), some (.ref a2), some (.ref a3), none, some (.int p5), some (.int p6), some (.int p7), some (.int p8), none, some (.int p10), some (.int p11), some (.int p12), some (.int p13), some (.int p14), none, some (.int p16), none, none, none, none, none, none, none, none, none, none] [] G Post) ∧ (¬ s0 < 0 → J E 15 m_La_law 1262 [some (.ref a0), some (.ref a1), some (.ref a2), some (.ref a3), none, some (.int p5), some (.int p6), some (.int p7), some (.int p8), none, some (.int p10), some (.int p11), some (.int p12), some (.int p13), some (.int p14), none, some (.int p16), none, none, none, none, none, none, none, none, none, none] [.int ((1 : Int32))] G Post)) : J E 15 m_La_law 1254 [some (.ref a0), some (.ref a1), some (.ref a2), some (.ref a3), none, some (.int p5), some (.int p6), some (.int p7), some (.int p8), none, some (.int p10), some (.int p11), some (.int p12), some (.int p13), some (.int p14), none, some (.int p16), none, none, none, none, none, none, none, none, none, none] [.int s0] G Post := by
  obtain ⟨Ha, Hb⟩ := H
  refine j_if_lt (tgt := 1261) d_La_law_1254 (by decide) (fun c1 => ?_) (fun c2 => ?_)
  · have H := Ha c1
    exact H
  · have H := Hb c2
    refine j_iconst (v := 1) d_La_law_1257 (by decide) ?_
    refine j_goto (tgt := 1262) d_La_law_1258 (by decide) ?_
    exact H
theorem wp_La_law_656 {E : EV} {G : GH} {Post : Res → GH → Prop} (a0 : Nat) (a1 : Nat) (a2 : Nat) (a3 : Nat) (p5 : Int32) (p6 : Int32) (p7 : Int32) (p8 : Int32) (p10 : Int32) (p11 : Int32) (p12 : Int32) (p13 : Int32) (p14 : Int32) (p16 : Int32) (p19 : Int32) (p21 : Int32) (H : (p21 < (3 : Int32) → J E 15 m_La_law 676 [some (.ref a0), some (.ref a1), some (.ref a2), some (.ref a3), none, some (.int p5), some (.int p6), some (.int p7), some (.int p8), none, some (.int p10), some (.int p11), some (.int p12), some (.int p13), some (.int p14), none, some (.int p16), none, none, some (.int p19), none, some (.int p21), none, none, none, none, none] [] G Post) ∧ (¬ p21 < (3 : Int32) → (p8 = 0 → J E 15 m_La_law 680 [some (.ref a0), some (.ref a1), some (.ref a2), some (.ref a3), none, some (.int p5), some (.int p6), some (.int p7), some (.int p8), none, some (.int p10), some (.int p11), some (.int p12), some (.int p13), some (.int p14), none, some (.int p16), none, none, some (.int p19), none, some (.int p21), none, none, none, none, none] [] G Post) ∧ (¬ p8 = 0 → gT G a1 = 10 ∧ ∃ v2, AK E 1 m_St_watermark [.ref a1] G v2 ∧ (¬ v2 = p19 → J E 15 m_La_law 680 [some (.ref a0), some (.ref a1), some (.ref a2), some (.ref a3), none, some (.int p5), some (.int p6), some (.int p7), some (.int p8), none, some (.int p10), some (.int p11), some (.int p12), some (.int p13), some (.int p14), none, some (.int p16), none, none, some (.int p19), none, some (.int p21), none, none, none, none, none] [] G Post) ∧ (v2 = p19 → J E 15 m_La_law 676 [some (.ref a0), some (.ref a1), some (.ref a2), some (.ref a3), none, some (.int p5), some (.int p6), some (.int p7), some (.int p8), none, some (.int p10), some (.int p11), some (.int p12), some (.int p13), some (.int p14), none, some (.int p16), none, none, some (.int p19), none, some (.int p21), none, none, none, none, none] [] G Post)))) : J E 15 m_La_law 656 [some (.ref a0), some (.ref a1), some (.ref a2), some (.ref a3), none, some (.int p5), some (.int p6), some (.int p7), some (.int p8), none, some (.int p10), some (.int p11), some (.int p12), some (.int p13), some (.int p14), none, some (.int p16), none, none, some (.int p19), none, some (.int p21), none, none, none, none, none] [] G Post := by
  refine j_iload d_La_law_656 rfl ?_
  refine j_iconst (v := 3) d_La_law_658 (by decide) ?_
  obtain ⟨Ha, Hb⟩ := H
  refine j_icmp_lt (tgt := 676) d_La_law_659 (by decide) (fun c8 => ?_) (fun c9 => ?_)
  · have H := Ha c8
    exact H
  · have H := Hb c9
    refine j_iload d_La_law_662 rfl ?_
    obtain ⟨Ha, Hb⟩ := H
    refine j_if_eq (tgt := 680) d_La_law_664 (by decide) (fun c6 => ?_) (fun c7 => ?_)
    · have H := Ha c6
      exact H
    · have H := Hb c7
      refine j_aload_n d_La_law_667 rfl ?_
      obtain ⟨t1, H⟩ := H
      obtain ⟨v2, k3, H⟩ := H
      refine j_callV (d' := 1) (ci := 9) (As := []) (rest := []) (b := a1) cv_La_68 me_St_watermark rfl (by decide) rfl rfl t1 rfl rfl (Nat.le_of_ble_eq_true rfl) d_La_law_668 (by decide) rfl (k3 _ ?_)
      show J E 15 m_La_law 671 [some (.ref a0), some (.ref a1), some (.ref a2), some (.ref a3), none, some (.int p5), some (.int p6), some (.int p7), some (.int p8), none, some (.int p10), some (.int p11), some (.int p12), some (.int p13), some (.int p14), none, some (.int p16), none, none, some (.int p19), none, some (.int p21), none, none, none, none, none] [.int v2] G Post
      refine j_iload d_La_law_671 rfl ?_
      obtain ⟨Ha, Hb⟩ := H
      refine j_icmp_ne (tgt := 680) d_La_law_673 (by decide) (fun c4 => ?_) (fun c5 => ?_)
      · have H := Ha c4
        exact H
      · have H := Hb c5
        exact H
theorem wp_La_law_1200 {E : EV} {G : GH} {Post : Res → GH → Prop} (a0 : Nat) (a1 : Nat) (a2 : Nat) (a3 : Nat) (p5 : Int32) (p6 : Int32) (p7 : Int32) (p8 : Int32) (p10 : Int32) (p11 : Int32) (p12 : Int32) (p13 : Int32) (p14 : Int32) (p16 : Int32) (H : J E 15 m_La_law 1201 [some (.ref a0), some (.ref a1), some (.ref a2), some (.ref a3), none, some (.int p5), some (.int p6), some (.int p7), some (.int p8), none, some (.int p10), some (.int p11), some (.int p12), some (.int p13), some (.int p14), none, some (.int p16), none, none, none, none, none, none, none, none, none, none] [.int ((0 : Int32))] G Post) : J E 15 m_La_law 1200 [some (.ref a0), some (.ref a1), some (.ref a2), some (.ref a3), none, some (.int p5), some (.int p6), some (.int p7), some (.int p8), none, some (.int p10), some (.int p11), some (.int p12), some (.int p13), some (.int p14), none, some (.int p16), none, none, none, none, none, none, none, none, none, none] [] G Post := by
  refine j_iconst (v := 0) d_La_law_1200 (by decide) ?_
  exact H
theorem wp_La_law_1164 {E : EV} {G : GH} {Post : Res → GH → Prop} (a0 : Nat) (a1 : Nat) (a2 : Nat) (a3 : Nat) (p5 : Int32) (p6 : Int32) (p7 : Int32) (p8 : Int32) (p10 : Int32) (p11 : Int32) (p12 : Int32) (p13 : Int32) (p14 : Int32) (p16 : Int32) (p24 : Int32) (p25 : Int32) (p26 : Int32) (s0 : Int32) (H : (¬ s0 = p10 → J E 15 m_La_law 1200 [some (.ref a0), some (.ref a1), some (.ref a2), some (.ref a3), none, some (.int p5), some (.int p6), some (.int p7), some (.int p8), none, some (.int p10), some (.int p11), some (.int p12), some (.int p13), some (.int p14), none, some (.int p16), none, none, none, none, none, none, none, none, none, none] [] G Post) ∧ (s0 = p10 → gT G a1 = 10 ∧ ∃ v2, AK E 1 m_St_dropped [.ref a1] G v2 ∧ (¬ v2 = p24 → J E 15 m_La_law 1200 [some (.ref a0), some (.ref a1), some (.ref a2), some (.ref a3), none, some (.int p5), some (.int p6), some (.int p7), some (.int p8), none, some (.int p10), some (.int p11), some (.int p12), some (.int p13), some (.int p14), none, some (.int p16), none, none, none, none, none, none, none, none, none, none] [] G Post) ∧ (v2 = p24 → ∃ v4, AK E 1 m_St_pairs [.ref a1] G v4 ∧ (¬ v4 = p25 → J E 15 m_La_law 1200 [some (.ref a0), some (.ref a1), some (.ref a2), some (.ref a3), none, some (.int p5), some (.int p6), some (.int p7), some (.int p8), none, some (.int p10), some (.int p11), some (.int p12), some (.int p13), some (.int p14), none, some (.int p16), none, none, none, none, none, none, none, none, none, none] [] G Post) ∧ (v4 = p25 → ∃ v6, AK E 1 m_St_uncommitted [.ref a1] G v6 ∧ (¬ v6 = p26 → J E 15 m_La_law 1200 [some (.ref a0), some (.ref a1), some (.ref a2), some (.ref a3), none, some (.int p5), some (.int p6), some (.int p7), some (.int p8), none, some (.int p10), some (.int p11), some (.int p12), some (.int p13), some (.int p14), none, some (.int p16), none, none, none, none, none, none, none, none, none, none] [] G Post) ∧ (v6 = p26 → J E 15 m_La_law 1201 [some (.ref a0), some (.ref a1), some (.ref a2), some (.ref a3), none, some (.int p5), some (.int p6), some (.int p7), some (.int p8), none, some (.int p10), some (.int p11), some (.int p12), some (.int p13), some (.int p14), none, some (.int p16), none, none, none, none, none, none, none, none, none, none] [.int ((1 : Int32))] G Post))))) : J E 15 m_La_law 1164 [some (.ref a0), some (.ref a1), some (.ref a2), some (.ref a3), none, some (.int p5), some (.int p6), some (.int p7), some (.int p8), none, some (.int p10), some (.int p11), some (.int p12), some (.int p13), some (.int p14), none, some (.int p16), none, none, none, none, none, none, none, some (.int p24), some (.int p25), some (.int p26)] [.int s0] G Post := by
  refine j_iload d_La_law_1164 rfl ?_
  obtain ⟨Ha, Hb⟩ := H
  refine j_icmp_ne (tgt := 1200) d_La_law_1166 (by decide) (fun c14 => ?_) (fun c15 => ?_)
  · have H := Ha c14
    refine j_forget (L' := [some (.ref a0), some (.ref a1), some (.ref a2), some (.ref a3), none, some (.int p5), some (.int p6), some (.int p7), some (.int p8), none, some (.int p10), some (.int p11), some (.int p12), some (.int p13), some (.int p14), none, some (.int p16), none, none, none, none, none, none, none, none, none, none]) ⟨Or.inr rfl, Or.inr rfl, Or.inr rfl, Or.inr rfl, Or.inl rfl, Or.inr rfl, Or.inr rfl, Or.inr rfl, Or.inr rfl, Or.inl rfl, Or.inr rfl, Or.inr rfl, Or.inr rfl, Or.inr rfl, Or.inr rfl, Or.inl rfl, Or.inr rfl, Or.inl rfl, Or.inl rfl, Or.inl rfl, Or.inl rfl, Or.inl rfl, Or.inl rfl, Or.inl rfl, Or.inl rfl, Or.inl rfl, Or.inl rfl, trivial⟩ ?_
    exact H
  · have H := Hb c15
    refine j_aload_n d_La_law_1169 rfl ?_
    obtain ⟨t1, H⟩ := H
    obtain ⟨v2, k3, H⟩ := H
    refine j_callV (d' := 1) (ci := 9) (As := []) (rest := []) (b := a1) cv_La_86 me_St_dropped rfl (by decide) rfl rfl t1 rfl rfl (Nat.le_of_ble_eq_true rfl) d_La_law_1170 (by decide) rfl (k3 _ ?_)
    show J E 15 m_La_law 1173 [some (.ref a0), some (.ref a1), some (.ref a2), some (.ref a3), none, some (.int p5), some (.int p6), some (.int p7), some (.int p8), none, some (.int p10), some (.int p11), some (.int p12), some (.int p13), some (.int p14), none, some (.int p16), none, none, none, none, none, none, none, some (.int p24), some (.int p25), some (.int p26)] [.int v2] G Post
    refine j_iload d_La_law_1173 rfl ?_
    obtain ⟨Ha, Hb⟩ := H
    refine j_icmp_ne (tgt := 1200) d_La_law_1175 (by decide) (fun c12 => ?_) (fun c13 => ?_)
    · have H := Ha c12
      refine j_forget (L' := [some (.ref a0), some (.ref a1), some (.ref a2), some (.ref a3), none, some (.int p5), some (.int p6), some (.int p7), some (.int p8), none, some (.int p10), some (.int p11), some (.int p12), some (.int p13), some (.int p14), none, some (.int p16), none, none, none, none, none, none, none, none, none, none]) ⟨Or.inr rfl, Or.inr rfl, Or.inr rfl, Or.inr rfl, Or.inl rfl, Or.inr rfl, Or.inr rfl, Or.inr rfl, Or.inr rfl, Or.inl rfl, Or.inr rfl, Or.inr rfl, Or.inr rfl, Or.inr rfl, Or.inr rfl, Or.inl rfl, Or.inr rfl, Or.inl rfl, Or.inl rfl, Or.inl rfl, Or.inl rfl, Or.inl rfl, Or.inl rfl, Or.inl rfl, Or.inl rfl, Or.inl rfl, Or.inl rfl, trivial⟩ ?_
      exact H
    · have H := Hb c13
      refine j_aload_n d_La_law_1178 rfl ?_
      obtain ⟨v4, k5, H⟩ := H
      refine j_callV (d' := 1) (ci := 9) (As := []) (rest := []) (b := a1) cv_La_52 me_St_pairs rfl (by decide) rfl rfl t1 rfl rfl (Nat.le_of_ble_eq_true rfl) d_La_law_1179 (by decide) rfl (k5 _ ?_)
      show J E 15 m_La_law 1182 [some (.ref a0), some (.ref a1), some (.ref a2), some (.ref a3), none, some (.int p5), some (.int p6), some (.int p7), some (.int p8), none, some (.int p10), some (.int p11), some (.int p12), some (.int p13), some (.int p14), none, some (.int p16), none, none, none, none, none, none, none, some (.int p24), some (.int p25), some (.int p26)] [.int v4] G Post
      refine j_iload d_La_law_1182 rfl ?_
      obtain ⟨Ha, Hb⟩ := H
      refine j_icmp_ne (tgt := 1200) d_La_law_1184 (by decide) (fun c10 => ?_) (fun c11 => ?_)
      · have H := Ha c10
        refine j_forget (L' := [some (.ref a0), some (.ref a1), some (.ref a2), some (.ref a3), none, some (.int p5), some (.int p6), some (.int p7), some (.int p8), none, some (.int p10), some (.int p11), some (.int p12), some (.int p13), some (.int p14), none, some (.int p16), none, none, none, none, none, none, none, none, none, none]) ⟨Or.inr rfl, Or.inr rfl, Or.inr rfl, Or.inr rfl, Or.inl rfl, Or.inr rfl, Or.inr rfl, Or.inr rfl, Or.inr rfl, Or.inl rfl, Or.inr rfl, Or.inr rfl, Or.inr rfl, Or.inr rfl, Or.inr rfl, Or.inl rfl, Or.inr rfl, Or.inl rfl, Or.inl rfl, Or.inl rfl, Or.inl rfl, Or.inl rfl, Or.inl rfl, Or.inl rfl, Or.inl rfl, Or.inl rfl, Or.inl rfl, trivial⟩ ?_
        exact H
      · have H := Hb c11
        refine j_aload_n d_La_law_1187 rfl ?_
        obtain ⟨v6, k7, H⟩ := H
        refine j_callV (d' := 1) (ci := 9) (As := []) (rest := []) (b := a1) cv_La_77 me_St_uncommitted rfl (by decide) rfl rfl t1 rfl rfl (Nat.le_of_ble_eq_true rfl) d_La_law_1188 (by decide) rfl (k7 _ ?_)
        show J E 15 m_La_law 1191 [some (.ref a0), some (.ref a1), some (.ref a2), some (.ref a3), none, some (.int p5), some (.int p6), some (.int p7), some (.int p8), none, some (.int p10), some (.int p11), some (.int p12), some (.int p13), some (.int p14), none, some (.int p16), none, none, none, none, none, none, none, some (.int p24), some (.int p25), some (.int p26)] [.int v6] G Post
        refine j_iload d_La_law_1191 rfl ?_
        obtain ⟨Ha, Hb⟩ := H
        refine j_icmp_ne (tgt := 1200) d_La_law_1193 (by decide) (fun c8 => ?_) (fun c9 => ?_)
        · have H := Ha c8
          refine j_forget (L' := [some (.ref a0), some (.ref a1), some (.ref a2), some (.ref a3), none, some (.int p5), some (.int p6), some (.int p7), some (.int p8), none, some (.int p10), some (.int p11), some (.int p12), some (.int p13), some (.int p14), none, some (.int p16), none, none, none, none, none, none, none, none, none, none]) ⟨Or.inr rfl, Or.inr rfl, Or.inr rfl, Or.inr rfl, Or.inl rfl, Or.inr rfl, Or.inr rfl, Or.inr rfl, Or.inr rfl, Or.inl rfl, Or.inr rfl, Or.inr rfl, Or.inr rfl, Or.inr rfl, Or.inr rfl, Or.inl rfl, Or.inr rfl, Or.inl rfl, Or.inl rfl, Or.inl rfl, Or.inl rfl, Or.inl rfl, Or.inl rfl, Or.inl rfl, Or.inl rfl, Or.inl rfl, Or.inl rfl, trivial⟩ ?_
          exact H
        · have H := Hb c9
          refine j_iconst (v := 1) d_La_law_1196 (by decide) ?_
          refine j_goto (tgt := 1201) d_La_law_1197 (by decide) ?_
          refine j_forget (L' := [some (.ref a0), some (.ref a1), some (.ref a2), some (.ref a3), none, some (.int p5), some (.int p6), some (.int p7), some (.int p8), none, some (.int p10), some (.int p11), some (.int p12), some (.int p13), some (.int p14), none, some (.int p16), none, none, none, none, none, none, none, none, none, none]) ⟨Or.inr rfl, Or.inr rfl, Or.inr rfl, Or.inr rfl, Or.inl rfl, Or.inr rfl, Or.inr rfl, Or.inr rfl, Or.inr rfl, Or.inl rfl, Or.inr rfl, Or.inr rfl, Or.inr rfl, Or.inr rfl, Or.inr rfl, Or.inl rfl, Or.inr rfl, Or.inl rfl, Or.inl rfl, Or.inl rfl, Or.inl rfl, Or.inl rfl, Or.inl rfl, Or.inl rfl, Or.inl rfl, Or.inl rfl, Or.inl rfl, trivial⟩ ?_
          exact H
theorem wp_La_law_1313 {E : EV} {G : GH} {Post : Res → GH → Prop} (a0 : Nat) (a1 : Nat) (a2 : Nat) (a3 : Nat) (p5 : Int32) (p6 : Int32) (p7 : Int32) (p8 : Int32) (p10 : Int32) (p11 : Int32) (p12 : Int32) (p13 : Int32) (p14 : Int32) (H : J E 15 m_La_law 1314 [some (.ref a0), some (.ref a1), some (.ref a2), some (.ref a3), none, some (.int p5), some (.int p6), some (.int p7), some (.int p8), none, some (.int p10), some (.int p11), some (.int p12), some (.int p13), some (.int p14), none, none, none, none, none, none, none, none, none, none, none, none] [.int ((0 : Int32))] G Post) : J E 15 m_La_law 1313 [some (.ref a0), some (.ref a1), some (.ref a2), some (.ref a3), none, some (.int p5), some (.int p6), some (.int p7), some (.int p8), none, some (.int p10), some (.int p11), some (.int p12), some (.int p13), some (.int p14), none, none, none, none, none, none, none, none, none, none, none, none] [] G Post := by
  refine j_iconst (v := 0) d_La_law_1313 (by decide) ?_
  exact H
theorem wp_La_law_1309 {E : EV} {G : GH} {Post : Res → GH → Prop} (a0 : Nat) (a1 : Nat) (a2 : Nat) (a3 : Nat) (p5 : Int32) (p6 : Int32) (p7 : Int32) (p8 : Int32) (p10 : Int32) (p11 : Int32) (p12 : Int32) (p13 : Int32) (p14 : Int32) (H : J E 15 m_La_law 1314 [some (.ref a0), some (.ref a1), some (.ref a2), some (.ref a3), none, some (.int p5), some (.int p6), some (.int p7), some (.int p8), none, some (.int p10), some (.int p11), some (.int p12), some (.int p13), some (.int p14), none, none, none, none, none, none, none, none, none, none, none, none] [.int ((1 : Int32))] G Post) : J E 15 m_La_law 1309 [some (.ref a0), some (.ref a1), some (.ref a2), some (.ref a3), none, some (.int p5), some (.int p6), some (.int p7), some (.int p8), none, some (.int p10), some (.int p11), some (.int p12), some (.int p13), some (.int p14), none, none, none, none, none, none, none, none, none, none, none, none] [] G Post := by
  refine j_iconst (v := 1) d_La_law_1309 (by decide) ?_
  refine j_goto (tgt := 1314) d_La_law_1310 (by decide) ?_
  exact H
theorem wp_La_law_1306 {E : EV} {G : GH} {Post : Res → GH → Prop} (a0 : Nat) (a1 : Nat) (a2 : Nat) (a3 : Nat) (p5 : Int32) (p6 : Int32) (p7 : Int32) (p8 : Int32) (p10 : Int32) (p11 : Int32) (p12 : Int32) (p13 : Int32) (p14 : Int32) (s0 : Int32) (H : (s0 = 0 → J E 15 m_La_law 1313 [some (.ref a0), some (.ref a1), some (.ref a2), some (.ref a3), none, some (.int p5), some (.int p6), some (.int p7), some (.int p8), none, some (.int p10), some (.int p11), some (.int p12), some (.int p13), some (.int p14), none, none, none, none, none, none, none, none, none, none, none, none] [] G Post) ∧ (¬ s0 = 0 → J E 15 m_La_law 1309 [some (.ref a0), some (.ref a1), some (.ref a2), some (.ref a3), none, some (.int p5), some (.int p6), some (.int p7), some (.int p8), none, some (.int p10), some (.int p11), some (.int p12), some (.int p13), some (.int p14), none, none, none, none, none, none, none, none, none, none, none, none] [] G Post)) : J E 15 m_La_law 1306 [some (.ref a0), some (.ref a1), some (.ref a2), some (.ref a3), none, some (.int p5), some (.int p6), some (.int p7), some (.int p8), none, some (.int p10), some (.int p11), some (.int p12), some (.int p13), some (.int p14), none, none, none, none, none, none, none, none, none, none, none, none] [.int s0] G Post := by
  obtain ⟨Ha, Hb⟩ := H
  refine j_if_eq (tgt := 1313) d_La_law_1306 (by decide) (fun c1 => ?_) (fun c2 => ?_)
  · have H := Ha c1
    exact H
  · have H := Hb c2
    exact H
theorem wp_La_law_676 {E : EV} {G : GH} {Post : Res → GH → Prop} (a0 : Nat) (a1 : Nat) (a2 : Nat) (a3 : Nat) (p5 : Int32) (p6 : Int32) (p7 : Int32) (p8 : Int32) (p10 : Int32) (p11 : Int32) (p12 : Int32) (p13 : Int32) (p14 : Int32) (p16 : Int32) (p19 : Int32) (p21 : Int32) (H : J E 15 m_La_law 681 [some (.ref a0), some (.ref a1), some (.ref a2), some (.ref a3), none, some (.int p5), some (.int p6), some (.int p7), some (.int p8), none, some (.int p10), some (.int p11), some (.int p12), some (.int p13), some (.int p14), none, some (.int p16), none, none, some (.int p19), none, some (.int p21), none, none, none, none, none] [.int ((1 : Int32))] G Post) : J E 15 m_La_law 676 [some (.ref a0), some (.ref a1), some (.ref a2), some (.ref a3), none, some (.int p5), some (.int p6), some (.int p7), some (.int p8), none, some (.int p10), some (.int p11), some (.int p12), some (.int p13), some (.int p14), none, some (.int p16), none, none, some (.int p19), none, some (.int p21), none, none, none, none, none] [] G Post := by
  refine j_iconst (v := 1) d_La_law_676 (by decide) ?_
  refine j_goto (tgt := 681) d_La_law_677 (by decide) ?_
  exact H
theorem wp_La_law_1201 {E : EV} {G : GH} {Post : Res → GH → Prop} (a0 : Nat) (a1 : Nat) (a2 : Nat) (a3 : Nat) (p5 : Int32) (p6 : Int32) (p7 : Int32) (p8 : Int32) (p10 : Int32) (p11 : Int32) (p12 : Int32) (p13 : Int32) (p14 : Int32) (p16 : Int32) (s0 : Int32) (H : gT G a1 = 10 ∧ ∃ v2, AK E 1 m_St_watermark [.ref a1] G v2 ∧ J E 15 m_La_law 1209 [some (.ref a0), some (.ref a1), some (.ref a2), some (.ref a3), none, some (.int p5), some (.int p6), some (.int p7), some (.int p8), some (.int s0), some (.int p10), some (.int p11), some (.int p12), some (.int p13), some (.int p14), none, some (.int p16), none, none, some (.int v2), none, none, none, none, none, none, none] [] G Post) : J E 15 m_La_law 1201 [some (.ref a0), some (.ref a1), some (.ref a2), some (.ref a3), none, some (.int p5), some (.int p6), some (.int p7), some (.int p8), none, some (.int p10), some (.int p11), some (.int p12), some (.int p13), some (.int p14), none, some (.int p16), none, none, none, none, none, none, none, none, none, none] [.int s0] G Post := by
  refine j_istore (L' := [some (.ref a0), some (.ref a1), some (.ref a2), some (.ref a3), none, some (.int p5), some (.int p6), some (.int p7), some (.int p8), some (.int s0), some (.int p10), some (.int p11), some (.int p12), some (.int p13), some (.int p14), none, some (.int p16), none, none, none, none, none, none, none, none, none, none]) d_La_law_1201 (by decide) rfl ?_
  refine j_aload_n d_La_law_1203 rfl ?_
  obtain ⟨t1, H⟩ := H
  obtain ⟨v2, k3, H⟩ := H
  refine j_callV (d' := 1) (ci := 9) (As := []) (rest := []) (b := a1) cv_La_68 me_St_watermark rfl (by decide) rfl rfl t1 rfl rfl (Nat.le_of_ble_eq_true rfl) d_La_law_1204 (by decide) rfl (k3 _ ?_)
  show J E 15 m_La_law 1207 [some (.ref a0), some (.ref a1), some (.ref a2), some (.ref a3), none, some (.int p5), some (.int p6), some (.int p7), some (.int p8), some (.int s0), some (.int p10), some (.int p11), some (.int p12), some (.int p13), some (.int p14), none, some (.int p16), none, none, none, none, none, none, none, none, none, none] [.int v2] G Post
  refine j_istore (L' := [some (.ref a0), some (.ref a1), some (.ref a2), some (.ref a3), none, some (.int p5), some (.int p6), some (.int p7), some (.int p8), some (.int s0), some (.int p10), some (.int p11), some (.int p12), some (.int p13), some (.int p14), none, some (.int p16), none, none, some (.int v2), none, none, none, none, none, none, none]) d_La_law_1207 (by decide) rfl ?_
  exact H
theorem wp_La_law_1314 {E : EV} {G : GH} {Post : Res → GH → Prop} (a0 : Nat) (a1 : Nat) (a2 : Nat) (a3 : Nat) (p5 : Int32) (p6 : Int32) (p7 : Int32) (p8 : Int32) (p10 : Int32) (p11 : Int32) (p12 : Int32) (p13 : Int32) (p14 : Int32) (s0 : Int32) (H : J E 15 m_La_law 198 [some (.ref a0), some (.ref a1), some (.ref a2), some (.ref a3), none, some (.int p5), some (.int p6), some (.int p7), some (.int p8), some (.int s0), some (.int p10), some (.int p11), some (.int p12), some (.int p13), some (.int ((p14 + (1 : Int32)))), none, none, none, none, none, none, none, none, none, none, none, none] [] G Post) : J E 15 m_La_law 1314 [some (.ref a0), some (.ref a1), some (.ref a2), some (.ref a3), none, some (.int p5), some (.int p6), some (.int p7), some (.int p8), none, some (.int p10), some (.int p11), some (.int p12), some (.int p13), some (.int p14), none, none, none, none, none, none, none, none, none, none, none, none] [.int s0] G Post := by
  refine j_istore (L' := [some (.ref a0), some (.ref a1), some (.ref a2), some (.ref a3), none, some (.int p5), some (.int p6), some (.int p7), some (.int p8), some (.int s0), some (.int p10), some (.int p11), some (.int p12), some (.int p13), some (.int p14), none, none, none, none, none, none, none, none, none, none, none, none]) d_La_law_1314 (by decide) rfl ?_
  refine j_iinc (v := (p14 + (1 : Int32))) (L' := [some (.ref a0), some (.ref a1), some (.ref a2), some (.ref a3), none, some (.int p5), some (.int p6), some (.int p7), some (.int p8), some (.int s0), some (.int p10), some (.int p11), some (.int p12), some (.int p13), some (.int ((p14 + (1 : Int32)))), none, none, none, none, none, none, none, none, none, none, none, none]) d_La_law_1316 rfl (by rw [show Int32.ofInt (1) = (1 : Int32) by decide]) (by decide) rfl ?_
  refine j_goto (tgt := 198) d_La_law_1319 (by decide) ?_
  exact H
