/-! walks of the law; printed by wip/gen/law25.py -/
theorem wp_La_isTwice_0 {E : EV} {G : GH} {Post : Res → GH → Prop} (a0 : Nat) (p1 : Int32) (p2 : Int32) (p3 : Int32) (p4 : Int32) (H : gT G a0 = 10 ∧ Cl E 5 m_St_result [.ref a0, .int p1, .int p2, .int ((0 : Int32))] G (aft E 8 m_La_isTwice 4 [some (.ref a0), some (.int p1), some (.int p2), some (.int p3), some (.int p4), none, none, none, none] [] Post)) : J E 8 m_La_isTwice 0 [some (.ref a0), some (.int p1), some (.int p2), some (.int p3), some (.int p4), none, none, none, none] [] G Post := by
  refine j_aload_n d_La_isTwice_0 rfl ?_
  refine j_iload_n d_La_isTwice_1 rfl ?_
  refine j_iload_n d_La_isTwice_2 rfl ?_
  refine j_iconst (v := 0) d_La_isTwice_3 (by decide) ?_
  obtain ⟨t1, H⟩ := H
  exact j_callV (d' := 5) (ci := 9) (As := [.int p1, .int p2, .int ((0 : Int32))]) (rest := []) (b := a0) cv_La_45 me_St_result rfl (by decide) rfl rfl t1 rfl rfl (Nat.le_of_ble_eq_true rfl) d_La_isTwice_4 (by decide) rfl H
theorem wp_La_isTwice_7 {E : EV} {G : GH} {Post : Res → GH → Prop} (a0 : Nat) (p1 : Int32) (p2 : Int32) (p3 : Int32) (p4 : Int32) (s0 : Int32) (H : gT G a0 = 10 ∧ Cl E 5 m_St_result [.ref a0, .int p1, .int p2, .int ((1 : Int32))] G (aft E 8 m_La_isTwice 13 [some (.ref a0), some (.int p1), some (.int p2), some (.int p3), some (.int p4), some (.int s0), none, none, none] [] Post)) : J E 8 m_La_isTwice 7 [some (.ref a0), some (.int p1), some (.int p2), some (.int p3), some (.int p4), none, none, none, none] [.int s0] G Post := by
  refine j_istore (L' := [some (.ref a0), some (.int p1), some (.int p2), some (.int p3), some (.int p4), some (.int s0), none, none, none]) d_La_isTwice_7 (by decide) rfl ?_
  refine j_aload_n d_La_isTwice_9 rfl ?_
  refine j_iload_n d_La_isTwice_10 rfl ?_
  refine j_iload_n d_La_isTwice_11 rfl ?_
  refine j_iconst (v := 1) d_La_isTwice_12 (by decide) ?_
  obtain ⟨t1, H⟩ := H
  exact j_callV (d' := 5) (ci := 9) (As := [.int p1, .int p2, .int ((1 : Int32))]) (rest := []) (b := a0) cv_La_45 me_St_result rfl (by decide) rfl rfl t1 rfl rfl (Nat.le_of_ble_eq_true rfl) d_La_isTwice_13 (by decide) rfl H
theorem wp_La_isTwice_16 {E : EV} {G : GH} {Post : Res → GH → Prop} (a0 : Nat) (p1 : Int32) (p2 : Int32) (p3 : Int32) (p4 : Int32) (p5 : Int32) (s0 : Int32) (H : gT G a0 = 10 ∧ Cl E 5 m_St_result [.ref a0, .int p1, .int p2, .int ((2 : Int32))] G (aft E 8 m_La_isTwice 22 [some (.ref a0), some (.int p1), some (.int p2), some (.int p3), some (.int p4), some (.int p5), some (.int s0), none, none] [] Post)) : J E 8 m_La_isTwice 16 [some (.ref a0), some (.int p1), some (.int p2), some (.int p3), some (.int p4), some (.int p5), none, none, none] [.int s0] G Post := by
  refine j_istore (L' := [some (.ref a0), some (.int p1), some (.int p2), some (.int p3), some (.int p4), some (.int p5), some (.int s0), none, none]) d_La_isTwice_16 (by decide) rfl ?_
  refine j_aload_n d_La_isTwice_18 rfl ?_
  refine j_iload_n d_La_isTwice_19 rfl ?_
  refine j_iload_n d_La_isTwice_20 rfl ?_
  refine j_iconst (v := 2) d_La_isTwice_21 (by decide) ?_
  obtain ⟨t1, H⟩ := H
  exact j_callV (d' := 5) (ci := 9) (As := [.int p1, .int p2, .int ((2 : Int32))]) (rest := []) (b := a0) cv_La_45 me_St_result rfl (by decide) rfl rfl t1 rfl rfl (Nat.le_of_ble_eq_true rfl) d_La_isTwice_22 (by decide) rfl H
theorem wp_La_isTwice_25 {E : EV} {G : GH} {Post : Res → GH → Prop} (a0 : Nat) (p1 : Int32) (p2 : Int32) (p3 : Int32) (p4 : Int32) (p5 : Int32) (p6 : Int32) (s0 : Int32) (H : gT G a0 = 10 ∧ Cl E 7 m_St_resultAnew [.ref a0, .int p1, .int p2, .int ((0 : Int32))] G (aft E 8 m_La_isTwice 31 [some (.ref a0), some (.int p1), some (.int p2), some (.int p3), some (.int p4), some (.int p5), some (.int p6), some (.int s0), none] [] Post)) : J E 8 m_La_isTwice 25 [some (.ref a0), some (.int p1), some (.int p2), some (.int p3), some (.int p4), some (.int p5), some (.int p6), none, none] [.int s0] G Post := by
  refine j_istore (L' := [some (.ref a0), some (.int p1), some (.int p2), some (.int p3), some (.int p4), some (.int p5), some (.int p6), some (.int s0), none]) d_La_isTwice_25 (by decide) rfl ?_
  refine j_aload_n d_La_isTwice_27 rfl ?_
  refine j_iload_n d_La_isTwice_28 rfl ?_
  refine j_iload_n d_La_isTwice_29 rfl ?_
  refine j_iconst (v := 0) d_La_isTwice_30 (by decide) ?_
  obtain ⟨t1, H⟩ := H
  exact j_callV (d' := 7) (ci := 9) (As := [.int p1, .int p2, .int ((0 : Int32))]) (rest := []) (b := a0) cv_La_49 me_St_resultAnew rfl (by decide) rfl rfl t1 rfl rfl (Nat.le_of_ble_eq_true rfl) d_La_isTwice_31 (by decide) rfl H
theorem wp_La_isTwice_34 {E : EV} {G : GH} {Post : Res → GH → Prop} (a0 : Nat) (p1 : Int32) (p2 : Int32) (p3 : Int32) (p4 : Int32) (p5 : Int32) (p6 : Int32) (p7 : Int32) (s0 : Int32) (H : (¬ s0 = p5 → J E 8 m_La_isTwice 78 [none, none, some (.int p2), some (.int p3), some (.int p4), some (.int p5), some (.int p6), some (.int p7), none] [] G Post) ∧ (s0 = p5 → gT G a0 = 10 ∧ Cl E 7 m_St_resultAnew [.ref a0, .int p1, .int p2, .int ((1 : Int32))] G (aft E 8 m_La_isTwice 43 [some (.ref a0), some (.int p1), some (.int p2), some (.int p3), some (.int p4), some (.int p5), some (.int p6), some (.int p7), none] [] Post))) : J E 8 m_La_isTwice 34 [some (.ref a0), some (.int p1), some (.int p2), some (.int p3), some (.int p4), some (.int p5), some (.int p6), some (.int p7), none] [.int s0] G Post := by
  refine j_iload d_La_isTwice_34 rfl ?_
  obtain ⟨Ha, Hb⟩ := H
  refine j_icmp_ne (tgt := 78) d_La_isTwice_36 (by decide) (fun c2 => ?_) (fun c3 => ?_)
  · have H := Ha c2
    refine j_forget (L' := [none, none, some (.int p2), some (.int p3), some (.int p4), some (.int p5), some (.int p6), some (.int p7), none]) ⟨Or.inl rfl, Or.inl rfl, Or.inr rfl, Or.inr rfl, Or.inr rfl, Or.inr rfl, Or.inr rfl, Or.inr rfl, Or.inl rfl, trivial⟩ ?_
    exact H
  · have H := Hb c3
    refine j_aload_n d_La_isTwice_39 rfl ?_
    refine j_iload_n d_La_isTwice_40 rfl ?_
    refine j_iload_n d_La_isTwice_41 rfl ?_
    refine j_iconst (v := 1) d_La_isTwice_42 (by decide) ?_
    obtain ⟨t1, H⟩ := H
    exact j_callV (d' := 7) (ci := 9) (As := [.int p1, .int p2, .int ((1 : Int32))]) (rest := []) (b := a0) cv_La_49 me_St_resultAnew rfl (by decide) rfl rfl t1 rfl rfl (Nat.le_of_ble_eq_true rfl) d_La_isTwice_43 (by decide) rfl H
theorem wp_La_isTwice_78 {E : EV} {G : GH} {Post : Res → GH → Prop} (p2 : Int32) (p3 : Int32) (p4 : Int32) (p5 : Int32) (p6 : Int32) (p7 : Int32) (H : J E 8 m_La_isTwice 79 [none, none, some (.int p2), some (.int p3), some (.int p4), some (.int p5), some (.int p6), some (.int p7), none] [.int ((0 : Int32))] G Post) : J E 8 m_La_isTwice 78 [none, none, some (.int p2), some (.int p3), some (.int p4), some (.int p5), some (.int p6), some (.int p7), none] [] G Post := by
  refine j_iconst (v := 0) d_La_isTwice_78 (by decide) ?_
  exact H
theorem wp_La_isTwice_46 {E : EV} {G : GH} {Post : Res → GH → Prop} (a0 : Nat) (p1 : Int32) (p2 : Int32) (p3 : Int32) (p4 : Int32) (p5 : Int32) (p6 : Int32) (p7 : Int32) (s0 : Int32) (H : (¬ s0 = p6 → J E 8 m_La_isTwice 78 [none, none, some (.int p2), some (.int p3), some (.int p4), some (.int p5), some (.int p6), some (.int p7), none] [] G Post) ∧ (s0 = p6 → gT G a0 = 10 ∧ Cl E 7 m_St_resultAnew [.ref a0, .int p1, .int p2, .int ((2 : Int32))] G (aft E 8 m_La_isTwice 55 [some (.ref a0), none, some (.int p2), some (.int p3), some (.int p4), some (.int p5), some (.int p6), some (.int p7), none] [] Post))) : J E 8 m_La_isTwice 46 [some (.ref a0), some (.int p1), some (.int p2), some (.int p3), some (.int p4), some (.int p5), some (.int p6), some (.int p7), none] [.int s0] G Post := by
  refine j_iload d_La_isTwice_46 rfl ?_
  obtain ⟨Ha, Hb⟩ := H
  refine j_icmp_ne (tgt := 78) d_La_isTwice_48 (by decide) (fun c2 => ?_) (fun c3 => ?_)
  · have H := Ha c2
    refine j_forget (L' := [none, none, some (.int p2), some (.int p3), some (.int p4), some (.int p5), some (.int p6), some (.int p7), none]) ⟨Or.inl rfl, Or.inl rfl, Or.inr rfl, Or.inr rfl, Or.inr rfl, Or.inr rfl, Or.inr rfl, Or.inr rfl, Or.inl rfl, trivial⟩ ?_
    exact H
  · have H := Hb c3
    refine j_aload_n d_La_isTwice_51 rfl ?_
    refine j_iload_n d_La_isTwice_52 rfl ?_
    refine j_iload_n d_La_isTwice_53 rfl ?_
    refine j_iconst (v := 2) d_La_isTwice_54 (by decide) ?_
    obtain ⟨t1, H⟩ := H
    refine j_forget (L' := [some (.ref a0), none, some (.int p2), some (.int p3), some (.int p4), some (.int p5), some (.int p6), some (.int p7), none]) ⟨Or.inr rfl, Or.inl rfl, Or.inr rfl, Or.inr rfl, Or.inr rfl, Or.inr rfl, Or.inr rfl, Or.inr rfl, Or.inl rfl, trivial⟩ ?_
    exact j_callV (d' := 7) (ci := 9) (As := [.int p1, .int p2, .int ((2 : Int32))]) (rest := []) (b := a0) cv_La_49 me_St_resultAnew rfl (by decide) rfl rfl t1 rfl rfl (Nat.le_of_ble_eq_true rfl) d_La_isTwice_55 (by decide) rfl H
theorem wp_La_isTwice_79 {E : EV} {G : GH} {Post : Res → GH → Prop} (p2 : Int32) (p3 : Int32) (p4 : Int32) (p5 : Int32) (p6 : Int32) (p7 : Int32) (s0 : Int32) (H : (s0 = 0 → J E 8 m_La_isTwice 141 [none, none, some (.int p2), some (.int p3), some (.int p4), some (.int p5), none, some (.int p7), none] [] G Post) ∧ (¬ s0 = 0 → (¬ p5 = (-1000000 : Int32) → (p5 ≤ 0 → J E 8 m_La_isTwice 141 [none, none, some (.int p2), some (.int p3), some (.int p4), some (.int p5), none, some (.int p7), none] [] G Post) ∧ (¬ p5 ≤ 0 → (((1000 : Int32) * p5) < p6 → J E 8 m_La_isTwice 141 [none, none, some (.int p2), some (.int p3), some (.int p4), some (.int p5), none, some (.int p7), none] [] G Post) ∧ (¬ ((1000 : Int32) * p5) < p6 → (p6 < ((-1000 : Int32) * p5) → J E 8 m_La_isTwice 141 [none, none, some (.int p2), some (.int p3), some (.int p4), some (.int p5), none, some (.int p7), none] [] G Post) ∧ (¬ p6 < ((-1000 : Int32) * p5) → J E 8 m_La_isTwice 137 [none, none, some (.int p2), some (.int p3), some (.int p4), some (.int p5), none, some (.int p7), none] [] G Post)))) ∧ (p5 = (-1000000 : Int32) → (¬ p6 = p5 → J E 8 m_La_isTwice 141 [none, none, some (.int p2), some (.int p3), some (.int p4), some (.int p5), none, some (.int p7), none] [] G Post) ∧ (p6 = p5 → (¬ p7 = p5 → J E 8 m_La_isTwice 141 [none, none, some (.int p2), some (.int p3), some (.int p4), some (.int p5), none, some (.int p7), none] [] G Post) ∧ (p7 = p5 → J E 8 m_La_isTwice 137 [none, none, some (.int p2), some (.int p3), some (.int p4), some (.int p5), none, some (.int p7), none] [] G Post))))) : J E 8 m_La_isTwice 79 [none, none, some (.int p2), some (.int p3), some (.int p4), some (.int p5), some (.int p6), some (.int p7), none] [.int s0] G Post := by
  refine j_istore (L' := [none, none, some (.int p2), some (.int p3), some (.int p4), some (.int p5), some (.int p6), some (.int p7), some (.int s0)]) d_La_isTwice_79 (by decide) rfl ?_
  refine j_iload d_La_isTwice_81 rfl ?_
  obtain ⟨Ha, Hb⟩ := H
  refine j_if_eq (tgt := 141) d_La_isTwice_83 (by decide) (fun c13 => ?_) (fun c14 => ?_)
  · have H := Ha c13
    refine j_forget (L' := [none, none, some (.int p2), some (.int p3), some (.int p4), some (.int p5), none, some (.int p7), none]) ⟨Or.inl rfl, Or.inl rfl, Or.inr rfl, Or.inr rfl, Or.inr rfl, Or.inr rfl, Or.inl rfl, Or.inr rfl, Or.inl rfl, trivial⟩ ?_
    exact H
  · have H := Hb c14
    refine j_iload d_La_isTwice_86 rfl ?_
    refine j_ldc kc_La_58 d_La_isTwice_88 ?_
    obtain ⟨Ha, Hb⟩ := H
    refine j_icmp_ne (tgt := 110) d_La_isTwice_90 (by decide) (fun c11 => ?_) (fun c12 => ?_)
    · have H := Ha c11
      refine j_iload d_La_isTwice_110 rfl ?_
      obtain ⟨Ha, Hb⟩ := H
      refine j_if_le (tgt := 141) d_La_isTwice_112 (by decide) (fun c5 => ?_) (fun c6 => ?_)
      · have H := Ha c5
        refine j_forget (L' := [none, none, some (.int p2), some (.int p3), some (.int p4), some (.int p5), none, some (.int p7), none]) ⟨Or.inl rfl, Or.inl rfl, Or.inr rfl, Or.inr rfl, Or.inr rfl, Or.inr rfl, Or.inl rfl, Or.inr rfl, Or.inl rfl, trivial⟩ ?_
        exact H
      · have H := Hb c6
        refine j_iload d_La_isTwice_115 rfl ?_
        refine j_sipush (v := 1000) d_La_isTwice_117 (by decide) ?_
        refine j_iload d_La_isTwice_120 rfl ?_
        refine j_imul d_La_isTwice_122 ?_
        obtain ⟨Ha, Hb⟩ := H
        refine j_icmp_gt (tgt := 141) d_La_isTwice_123 (by decide) (fun c3 => ?_) (fun c4 => ?_)
        · have H := Ha c3
          refine j_forget (L' := [none, none, some (.int p2), some (.int p3), some (.int p4), some (.int p5), none, some (.int p7), none]) ⟨Or.inl rfl, Or.inl rfl, Or.inr rfl, Or.inr rfl, Or.inr rfl, Or.inr rfl, Or.inl rfl, Or.inr rfl, Or.inl rfl, trivial⟩ ?_
          exact H
        · have H := Hb c4
          refine j_iload d_La_isTwice_126 rfl ?_
          refine j_sipush (v := -1000) d_La_isTwice_128 (by decide) ?_
          refine j_iload d_La_isTwice_131 rfl ?_
          refine j_imul d_La_isTwice_133 ?_
          obtain ⟨Ha, Hb⟩ := H
          refine j_icmp_lt (tgt := 141) d_La_isTwice_134 (by decide) (fun c1 => ?_) (fun c2 => ?_)
          · have H := Ha c1
            refine j_forget (L' := [none, none, some (.int p2), some (.int p3), some (.int p4), some (.int p5), none, some (.int p7), none]) ⟨Or.inl rfl, Or.inl rfl, Or.inr rfl, Or.inr rfl, Or.inr rfl, Or.inr rfl, Or.inl rfl, Or.inr rfl, Or.inl rfl, trivial⟩ ?_
            exact H
          · have H := Hb c2
            refine j_forget (L' := [none, none, some (.int p2), some (.int p3), some (.int p4), some (.int p5), none, some (.int p7), none]) ⟨Or.inl rfl, Or.inl rfl, Or.inr rfl, Or.inr rfl, Or.inr rfl, Or.inr rfl, Or.inl rfl, Or.inr rfl, Or.inl rfl, trivial⟩ ?_
            exact H
    · have H := Hb c12
      refine j_iload d_La_isTwice_93 rfl ?_
      refine j_iload d_La_isTwice_95 rfl ?_
      obtain ⟨Ha, Hb⟩ := H
      refine j_icmp_ne (tgt := 141) d_La_isTwice_97 (by decide) (fun c9 => ?_) (fun c10 => ?_)
      · have H := Ha c9
        refine j_forget (L' := [none, none, some (.int p2), some (.int p3), some (.int p4), some (.int p5), none, some (.int p7), none]) ⟨Or.inl rfl, Or.inl rfl, Or.inr rfl, Or.inr rfl, Or.inr rfl, Or.inr rfl, Or.inl rfl, Or.inr rfl, Or.inl rfl, trivial⟩ ?_
        exact H
      · have H := Hb c10
        refine j_iload d_La_isTwice_100 rfl ?_
        refine j_iload d_La_isTwice_102 rfl ?_
        obtain ⟨Ha, Hb⟩ := H
        refine j_icmp_ne (tgt := 141) d_La_isTwice_104 (by decide) (fun c7 => ?_) (fun c8 => ?_)
        · have H := Ha c7
          refine j_forget (L' := [none, none, some (.int p2), some (.int p3), some (.int p4), some (.int p5), none, some (.int p7), none]) ⟨Or.inl rfl, Or.inl rfl, Or.inr rfl, Or.inr rfl, Or.inr rfl, Or.inr rfl, Or.inl rfl, Or.inr rfl, Or.inl rfl, trivial⟩ ?_
          exact H
        · have H := Hb c8
          refine j_goto (tgt := 137) d_La_isTwice_107 (by decide) ?_
          refine j_forget (L' := [none, none, some (.int p2), some (.int p3), some (.int p4), some (.int p5), none, some (.int p7), none]) ⟨Or.inl rfl, Or.inl rfl, Or.inr rfl, Or.inr rfl, Or.inr rfl, Or.inr rfl, Or.inl rfl, Or.inr rfl, Or.inl rfl, trivial⟩ ?_
          exact H
theorem wp_La_isTwice_58 {E : EV} {G : GH} {Post : Res → GH → Prop} (a0 : Nat) (p2 : Int32) (p3 : Int32) (p4 : Int32) (p5 : Int32) (p6 : Int32) (p7 : Int32) (s0 : Int32) (H : (¬ s0 = p7 → J E 8 m_La_isTwice 78 [none, none, some (.int p2), some (.int p3), some (.int p4), some (.int p5), some (.int p6), some (.int p7), none] [] G Post) ∧ (s0 = p7 → gT G a0 = 10 ∧ ∃ v2, AK E 1 m_St_pairs [.ref a0] G v2 ∧ ∃ v4, AK E 5 m_St_pairsAnew [.ref a0] G v4 ∧ (¬ v2 = v4 → J E 8 m_La_isTwice 78 [none, none, some (.int p2), some (.int p3), some (.int p4), some (.int p5), some (.int p6), some (.int p7), none] [] G Post) ∧ (v2 = v4 → J E 8 m_La_isTwice 79 [none, none, some (.int p2), some (.int p3), some (.int p4), some (.int p5), some (.int p6), some (.int p7), none] [.int ((1 : Int32))] G Post))) : J E 8 m_La_isTwice 58 [some (.ref a0), none, some (.int p2), some (.int p3), some (.int p4), some (.int p5), some (.int p6), some (.int p7), none] [.int s0] G Post := by
  refine j_iload d_La_isTwice_58 rfl ?_
  obtain ⟨Ha, Hb⟩ := H
  refine j_icmp_ne (tgt := 78) d_La_isTwice_60 (by decide) (fun c8 => ?_) (fun c9 => ?_)
  · have H := Ha c8
    refine j_forget (L' := [none, none, some (.int p2), some (.int p3), some (.int p4), some (.int p5), some (.int p6), some (.int p7), none]) ⟨Or.inl rfl, Or.inl rfl, Or.inr rfl, Or.inr rfl, Or.inr rfl, Or.inr rfl, Or.inr rfl, Or.inr rfl, Or.inl rfl, trivial⟩ ?_
    exact H
  · have H := Hb c9
    refine j_aload_n d_La_isTwice_63 rfl ?_
    obtain ⟨t1, H⟩ := H
    obtain ⟨v2, k3, H⟩ := H
    refine j_callV (d' := 1) (ci := 9) (As := []) (rest := []) (b := a0) cv_La_52 me_St_pairs rfl (by decide) rfl rfl t1 rfl rfl (Nat.le_of_ble_eq_true rfl) d_La_isTwice_64 (by decide) rfl (k3 _ ?_)
    show J E 8 m_La_isTwice 67 [some (.ref a0), none, some (.int p2), some (.int p3), some (.int p4), some (.int p5), some (.int p6), some (.int p7), none] [.int v2] G Post
    refine j_aload_n d_La_isTwice_67 rfl ?_
    obtain ⟨v4, k5, H⟩ := H
    refine j_callV (d' := 5) (ci := 9) (As := []) (rest := [.int v2]) (b := a0) cv_La_55 me_St_pairsAnew rfl (by decide) rfl rfl t1 rfl rfl (Nat.le_of_ble_eq_true rfl) d_La_isTwice_68 (by decide) rfl (k5 _ ?_)
    show J E 8 m_La_isTwice 71 [some (.ref a0), none, some (.int p2), some (.int p3), some (.int p4), some (.int p5), some (.int p6), some (.int p7), none] [.int v4, .int v2] G Post
    obtain ⟨Ha, Hb⟩ := H
    refine j_icmp_ne (tgt := 78) d_La_isTwice_71 (by decide) (fun c6 => ?_) (fun c7 => ?_)
    · have H := Ha c6
      refine j_forget (L' := [none, none, some (.int p2), some (.int p3), some (.int p4), some (.int p5), some (.int p6), some (.int p7), none]) ⟨Or.inl rfl, Or.inl rfl, Or.inr rfl, Or.inr rfl, Or.inr rfl, Or.inr rfl, Or.inr rfl, Or.inr rfl, Or.inl rfl, trivial⟩ ?_
      exact H
    · have H := Hb c7
      refine j_iconst (v := 1) d_La_isTwice_74 (by decide) ?_
      refine j_goto (tgt := 79) d_La_isTwice_75 (by decide) ?_
      refine j_forget (L' := [none, none, some (.int p2), some (.int p3), some (.int p4), some (.int p5), some (.int p6), some (.int p7), none]) ⟨Or.inl rfl, Or.inl rfl, Or.inr rfl, Or.inr rfl, Or.inr rfl, Or.inr rfl, Or.inr rfl, Or.inr rfl, Or.inl rfl, trivial⟩ ?_
      exact H
theorem wp_La_isTwice_141 {E : EV} {G : GH} {Post : Res → GH → Prop} (p2 : Int32) (p3 : Int32) (p4 : Int32) (p5 : Int32) (p7 : Int32) (H : J E 8 m_La_isTwice 142 [none, none, some (.int p2), some (.int p3), some (.int p4), some (.int p5), none, some (.int p7), none] [.int ((0 : Int32))] G Post) : J E 8 m_La_isTwice 141 [none, none, some (.int p2), some (.int p3), some (.int p4), some (.int p5), none, some (.int p7), none] [] G Post := by
  refine j_iconst (v := 0) d_La_isTwice_141 (by decide) ?_
  exact H
theorem wp_La_isTwice_137 {E : EV} {G : GH} {Post : Res → GH → Prop} (p2 : Int32) (p3 : Int32) (p4 : Int32) (p5 : Int32) (p7 : Int32) (H : J E 8 m_La_isTwice 142 [none, none, some (.int p2), some (.int p3), some (.int p4), some (.int p5), none, some (.int p7), none] [.int ((1 : Int32))] G Post) : J E 8 m_La_isTwice 137 [none, none, some (.int p2), some (.int p3), some (.int p4), some (.int p5), none, some (.int p7), none] [] G Post := by
  refine j_iconst (v := 1) d_La_isTwice_137 (by decide) ?_
  refine j_goto (tgt := 142) d_La_isTwice_138 (by decide) ?_
  exact H
theorem wp_La_isTwice_142 {E : EV} {G : GH} {Post : Res → GH → Prop} (p2 : Int32) (p3 : Int32) (p4 : Int32) (p5 : Int32) (p7 : Int32) (s0 : Int32) (H : (s0 = 0 → J E 8 m_La_isTwice 196 [none, none, none, none, none, none, none, none, none] [] G Post) ∧ (¬ s0 = 0 → (p5 = (-1000000 : Int32) → J E 8 m_La_isTwice 192 [none, none, none, none, none, none, none, none, none] [] G Post) ∧ (¬ p5 = (-1000000 : Int32) → ((2 : Int32) ≤ p4 → (p7 < (p2 + p3) → J E 8 m_La_isTwice 196 [none, none, none, none, none, none, none, none, none] [] G Post) ∧ (¬ p7 < (p2 + p3) → ((p2 + (p3 * p5)) < p7 → J E 8 m_La_isTwice 196 [none, none, none, none, none, none, none, none, none] [] G Post) ∧ (¬ (p2 + (p3 * p5)) < p7 → J E 8 m_La_isTwice 192 [none, none, none, none, none, none, none, none, none] [] G Post))) ∧ (¬ (2 : Int32) ≤ p4 → (¬ p7 = (p2 + p3) → J E 8 m_La_isTwice 196 [none, none, none, none, none, none, none, none, none] [] G Post) ∧ (p7 = (p2 + p3) → J E 8 m_La_isTwice 192 [none, none, none, none, none, none, none, none, none] [] G Post))))) : J E 8 m_La_isTwice 142 [none, none, some (.int p2), some (.int p3), some (.int p4), some (.int p5), none, some (.int p7), none] [.int s0] G Post := by
  refine j_istore (L' := [none, none, some (.int p2), some (.int p3), some (.int p4), some (.int p5), none, some (.int p7), some (.int s0)]) d_La_isTwice_142 (by decide) rfl ?_
  refine j_iload d_La_isTwice_144 rfl ?_
  obtain ⟨Ha, Hb⟩ := H
  refine j_if_eq (tgt := 196) d_La_isTwice_146 (by decide) (fun c11 => ?_) (fun c12 => ?_)
  · have H := Ha c11
    refine j_forget (L' := [none, none, none, none, none, none, none, none, none]) ⟨Or.inl rfl, Or.inl rfl, Or.inl rfl, Or.inl rfl, Or.inl rfl, Or.inl rfl, Or.inl rfl, Or.inl rfl, Or.inl rfl, trivial⟩ ?_
    exact H
  · have H := Hb c12
    refine j_iload d_La_isTwice_149 rfl ?_
    refine j_ldc kc_La_58 d_La_isTwice_151 ?_
    obtain ⟨Ha, Hb⟩ := H
    refine j_icmp_eq (tgt := 192) d_La_isTwice_153 (by decide) (fun c9 => ?_) (fun c10 => ?_)
    · have H := Ha c9
      refine j_forget (L' := [none, none, none, none, none, none, none, none, none]) ⟨Or.inl rfl, Or.inl rfl, Or.inl rfl, Or.inl rfl, Or.inl rfl, Or.inl rfl, Or.inl rfl, Or.inl rfl, Or.inl rfl, trivial⟩ ?_
      exact H
    · have H := Hb c10
      refine j_iload d_La_isTwice_156 rfl ?_
      refine j_iconst (v := 2) d_La_isTwice_158 (by decide) ?_
      obtain ⟨Ha, Hb⟩ := H
      refine j_icmp_ge (tgt := 173) d_La_isTwice_159 (by decide) (fun c7 => ?_) (fun c8 => ?_)
      · have H := Ha c7
        refine j_iload d_La_isTwice_173 rfl ?_
        refine j_iload_n d_La_isTwice_175 rfl ?_
        refine j_iload_n d_La_isTwice_176 rfl ?_
        refine j_iadd d_La_isTwice_177 ?_
        obtain ⟨Ha, Hb⟩ := H
        refine j_icmp_lt (tgt := 196) d_La_isTwice_178 (by decide) (fun c3 => ?_) (fun c4 => ?_)
        · have H := Ha c3
          refine j_forget (L' := [none, none, none, none, none, none, none, none, none]) ⟨Or.inl rfl, Or.inl rfl, Or.inl rfl, Or.inl rfl, Or.inl rfl, Or.inl rfl, Or.inl rfl, Or.inl rfl, Or.inl rfl, trivial⟩ ?_
          exact H
        · have H := Hb c4
          refine j_iload d_La_isTwice_181 rfl ?_
          refine j_iload_n d_La_isTwice_183 rfl ?_
          refine j_iload_n d_La_isTwice_184 rfl ?_
          refine j_iload d_La_isTwice_185 rfl ?_
          refine j_imul d_La_isTwice_187 ?_
          refine j_iadd d_La_isTwice_188 ?_
          obtain ⟨Ha, Hb⟩ := H
          refine j_icmp_gt (tgt := 196) d_La_isTwice_189 (by decide) (fun c1 => ?_) (fun c2 => ?_)
          · have H := Ha c1
            refine j_forget (L' := [none, none, none, none, none, none, none, none, none]) ⟨Or.inl rfl, Or.inl rfl, Or.inl rfl, Or.inl rfl, Or.inl rfl, Or.inl rfl, Or.inl rfl, Or.inl rfl, Or.inl rfl, trivial⟩ ?_
            exact H
          · have H := Hb c2
            refine j_forget (L' := [none, none, none, none, none, none, none, none, none]) ⟨Or.inl rfl, Or.inl rfl, Or.inl rfl, Or.inl rfl, Or.inl rfl, Or.inl rfl, Or.inl rfl, Or.inl rfl, Or.inl rfl, trivial⟩ ?_
            exact H
      · have H := Hb c8
        refine j_iload d_La_isTwice_162 rfl ?_
        refine j_iload_n d_La_isTwice_164 rfl ?_
        refine j_iload_n d_La_isTwice_165 rfl ?_
        refine j_iadd d_La_isTwice_166 ?_
        obtain ⟨Ha, Hb⟩ := H
        refine j_icmp_ne (tgt := 196) d_La_isTwice_167 (by decide) (fun c5 => ?_) (fun c6 => ?_)
        · have H := Ha c5
          refine j_forget (L' := [none, none, none, none, none, none, none, none, none]) ⟨Or.inl rfl, Or.inl rfl, Or.inl rfl, Or.inl rfl, Or.inl rfl, Or.inl rfl, Or.inl rfl, Or.inl rfl, Or.inl rfl, trivial⟩ ?_
          exact H
        · have H := Hb c6
          refine j_goto (tgt := 192) d_La_isTwice_170 (by decide) ?_
          refine j_forget (L' := [none, none, none, none, none, none, none, none, none]) ⟨Or.inl rfl, Or.inl rfl, Or.inl rfl, Or.inl rfl, Or.inl rfl, Or.inl rfl, Or.inl rfl, Or.inl rfl, Or.inl rfl, trivial⟩ ?_
          exact H
theorem wp_La_isTwice_196 {E : EV} {G : GH} {Post : Res → GH → Prop}  (H : J E 8 m_La_isTwice 197 [none, none, none, none, none, none, none, none, none] [.int ((0 : Int32))] G Post) : J E 8 m_La_isTwice 196 [none, none, none, none, none, none, none, none, none] [] G Post := by
  refine j_iconst (v := 0) d_La_isTwice_196 (by decide) ?_
  exact H
theorem wp_La_isTwice_192 {E : EV} {G : GH} {Post : Res → GH → Prop}  (H : J E 8 m_La_isTwice 197 [none, none, none, none, none, none, none, none, none] [.int ((1 : Int32))] G Post) : J E 8 m_La_isTwice 192 [none, none, none, none, none, none, none, none, none] [] G Post := by
  refine j_iconst (v := 1) d_La_isTwice_192 (by decide) ?_
  refine j_goto (tgt := 197) d_La_isTwice_193 (by decide) ?_
  exact H
theorem wp_La_isTwice_197 {E : EV} {G : GH} {Post : Res → GH → Prop} (s0 : Int32) (H : (s0 = 0 ∨ s0 = 1) ∧ Post (.inl (some (.int s0))) G) : J E 8 m_La_isTwice 197 [none, none, none, none, none, none, none, none, none] [.int s0] G Post := by
  obtain ⟨z1, H⟩ := H
  exact j_zret rfl z1 d_La_isTwice_197 H
