/-! walks of the law; printed by wip/gen/law25.py -/
theorem wp_La_areSources_0 {E : EV} {G : GH} {Post : Res → GH → Prop} (a0 : Nat) (a1 : Nat) (a2 : Nat) (p3 : Int32) (H : J E 3 m_La_areSources 11 [some (.ref a0), some (.ref a1), some (.ref a2), some (.int p3), some (.int ((2000 : Int32))), some (.int ((1 : Int32))), some (.int ((0 : Int32))), none] [] G Post) : J E 3 m_La_areSources 0 [some (.ref a0), some (.ref a1), some (.ref a2), some (.int p3), none, none, none, none] [] G Post := by
  refine j_sipush (v := 2000) d_La_areSources_0 (by decide) ?_
  refine j_istore (L' := [some (.ref a0), some (.ref a1), some (.ref a2), some (.int p3), some (.int ((2000 : Int32))), none, none, none]) d_La_areSources_3 (by decide) rfl ?_
  refine j_iconst (v := 1) d_La_areSources_5 (by decide) ?_
  refine j_istore (L' := [some (.ref a0), some (.ref a1), some (.ref a2), some (.int p3), some (.int ((2000 : Int32))), some (.int ((1 : Int32))), none, none]) d_La_areSources_6 (by decide) rfl ?_
  refine j_iconst (v := 0) d_La_areSources_8 (by decide) ?_
  refine j_istore (L' := [some (.ref a0), some (.ref a1), some (.ref a2), some (.int p3), some (.int ((2000 : Int32))), some (.int ((1 : Int32))), some (.int ((0 : Int32))), none]) d_La_areSources_9 (by decide) rfl ?_
  exact H
theorem wp_La_areSources_11 {E : EV} {G : GH} {Post : Res → GH → Prop} (a0 : Nat) (a1 : Nat) (a2 : Nat) (p3 : Int32) (p4 : Int32) (p5 : Int32) (p6 : Int32) (H : ((3 : Int32) ≤ p6 → J E 3 m_La_areSources 127 [some (.ref a0), none, none, some (.int p3), some (.int p4), some (.int p5), none, none] [] G Post) ∧ (¬ (3 : Int32) ≤ p6 → (p5 = 0 → J E 3 m_La_areSources 127 [some (.ref a0), none, none, some (.int p3), some (.int p4), some (.int p5), none, none] [] G Post) ∧ (¬ p5 = 0 → gT G a0 = 10 ∧ ∃ v2, AK E 2 m_St_sourceWatermark [.ref a0, .int p6] G v2 ∧ ∃ v4, AK E 2 m_St_inChannel [.ref a0, .int p6] G v4 ∧ (v4 < 0 → J E 3 m_La_areSources 95 [some (.ref a0), some (.ref a1), some (.ref a2), some (.int p3), some (.int p4), none, some (.int p6), some (.int v2)] [] G Post) ∧ (¬ v4 < 0 → ∃ v6, AK E 2 m_St_inChannel [.ref a0, .int p6] G v6 ∧ ((4 : Int32) < v6 → J E 3 m_La_areSources 95 [some (.ref a0), some (.ref a1), some (.ref a2), some (.int p3), some (.int p4), none, some (.int p6), some (.int v2)] [] G Post) ∧ (¬ (4 : Int32) < v6 → ∃ v8, AK E 2 m_St_inChannel [.ref a0, .int p6] G v8 ∧ ∃ v10, AK E 2 m_St_offset [.ref a0, .int p6] G v10 ∧ (v10 < v8 → J E 3 m_La_areSources 95 [some (.ref a0), some (.ref a1), some (.ref a2), some (.int p3), some (.int p4), none, some (.int p6), some (.int v2)] [] G Post) ∧ (¬ v10 < v8 → ∃ v12, AK E 2 m_St_offset [.ref a0, .int p6] G v12 ∧ (gT G a1 = 20 ∨ gT G a1 = 25) ∧ ∃ n16, IX p6 n16 (gN G a1) ∧ ((gA G a1 n16) < v12 → J E 3 m_La_areSources 95 [some (.ref a0), some (.ref a1), some (.ref a2), some (.int p3), some (.int p4), none, some (.int p6), some (.int v2)] [] G Post) ∧ (¬ (gA G a1 n16) < v12 → (v2 < (-1 : Int32) → J E 3 m_La_areSources 95 [some (.ref a0), some (.ref a1), some (.ref a2), some (.int p3), some (.int p4), none, some (.int p6), some (.int v2)] [] G Post) ∧ (¬ v2 < (-1 : Int32) → ((1000 : Int32) ≤ v2 → J E 3 m_La_areSources 95 [some (.ref a0), some (.ref a1), some (.ref a2), some (.int p3), some (.int p4), none, some (.int p6), some (.int v2)] [] G Post) ∧ (¬ (1000 : Int32) ≤ v2 → J E 3 m_La_areSources 96 [some (.ref a0), some (.ref a1), some (.ref a2), some (.int p3), some (.int p4), none, some (.int p6), some (.int v2)] [.int ((1 : Int32))] G Post))))))))) : J E 3 m_La_areSources 11 [some (.ref a0), some (.ref a1), some (.ref a2), some (.int p3), some (.int p4), some (.int p5), some (.int p6), none] [] G Post := by
  refine j_iload d_La_areSources_11 rfl ?_
  refine j_iconst (v := 3) d_La_areSources_13 (by decide) ?_
  obtain ⟨Ha, Hb⟩ := H
  refine j_icmp_ge (tgt := 127) d_La_areSources_14 (by decide) (fun c31 => ?_) (fun c32 => ?_)
  · have H := Ha c31
    refine j_forget (L' := [some (.ref a0), none, none, some (.int p3), some (.int p4), some (.int p5), none, none]) ⟨Or.inr rfl, Or.inl rfl, Or.inl rfl, Or.inr rfl, Or.inr rfl, Or.inr rfl, Or.inl rfl, Or.inl rfl, trivial⟩ ?_
    exact H
  · have H := Hb c32
    refine j_iload d_La_areSources_17 rfl ?_
    obtain ⟨Ha, Hb⟩ := H
    refine j_if_eq (tgt := 127) d_La_areSources_19 (by decide) (fun c29 => ?_) (fun c30 => ?_)
    · have H := Ha c29
      refine j_forget (L' := [some (.ref a0), none, none, some (.int p3), some (.int p4), some (.int p5), none, none]) ⟨Or.inr rfl, Or.inl rfl, Or.inl rfl, Or.inr rfl, Or.inr rfl, Or.inr rfl, Or.inl rfl, Or.inl rfl, trivial⟩ ?_
      exact H
    · have H := Hb c30
      refine j_aload_n d_La_areSources_22 rfl ?_
      refine j_iload d_La_areSources_23 rfl ?_
      obtain ⟨t1, H⟩ := H
      obtain ⟨v2, k3, H⟩ := H
      refine j_callV (d' := 2) (ci := 9) (As := [.int p6]) (rest := []) (b := a0) cv_La_59 me_St_sourceWatermark rfl (by decide) rfl rfl t1 rfl rfl (Nat.le_of_ble_eq_true rfl) d_La_areSources_25 (by decide) rfl (k3 _ ?_)
      show J E 3 m_La_areSources 28 [some (.ref a0), some (.ref a1), some (.ref a2), some (.int p3), some (.int p4), some (.int p5), some (.int p6), none] [.int v2] G Post
      refine j_istore (L' := [some (.ref a0), some (.ref a1), some (.ref a2), some (.int p3), some (.int p4), some (.int p5), some (.int p6), some (.int v2)]) d_La_areSources_28 (by decide) rfl ?_
      refine j_aload_n d_La_areSources_30 rfl ?_
      refine j_iload d_La_areSources_31 rfl ?_
      obtain ⟨v4, k5, H⟩ := H
      refine j_callV (d' := 2) (ci := 9) (As := [.int p6]) (rest := []) (b := a0) cv_La_62 me_St_inChannel rfl (by decide) rfl rfl t1 rfl rfl (Nat.le_of_ble_eq_true rfl) d_La_areSources_33 (by decide) rfl (k5 _ ?_)
      show J E 3 m_La_areSources 36 [some (.ref a0), some (.ref a1), some (.ref a2), some (.int p3), some (.int p4), some (.int p5), some (.int p6), some (.int v2)] [.int v4] G Post
      obtain ⟨Ha, Hb⟩ := H
      refine j_if_lt (tgt := 95) d_La_areSources_36 (by decide) (fun c27 => ?_) (fun c28 => ?_)
      · have H := Ha c27
        refine j_forget (L' := [some (.ref a0), some (.ref a1), some (.ref a2), some (.int p3), some (.int p4), none, some (.int p6), some (.int v2)]) ⟨Or.inr rfl, Or.inr rfl, Or.inr rfl, Or.inr rfl, Or.inr rfl, Or.inl rfl, Or.inr rfl, Or.inr rfl, trivial⟩ ?_
        exact H
      · have H := Hb c28
        refine j_aload_n d_La_areSources_39 rfl ?_
        refine j_iload d_La_areSources_40 rfl ?_
        obtain ⟨v6, k7, H⟩ := H
        refine j_callV (d' := 2) (ci := 9) (As := [.int p6]) (rest := []) (b := a0) cv_La_62 me_St_inChannel rfl (by decide) rfl rfl t1 rfl rfl (Nat.le_of_ble_eq_true rfl) d_La_areSources_42 (by decide) rfl (k7 _ ?_)
        show J E 3 m_La_areSources 45 [some (.ref a0), some (.ref a1), some (.ref a2), some (.int p3), some (.int p4), some (.int p5), some (.int p6), some (.int v2)] [.int v6] G Post
        refine j_iconst (v := 4) d_La_areSources_45 (by decide) ?_
        obtain ⟨Ha, Hb⟩ := H
        refine j_icmp_gt (tgt := 95) d_La_areSources_46 (by decide) (fun c25 => ?_) (fun c26 => ?_)
        · have H := Ha c25
          refine j_forget (L' := [some (.ref a0), some (.ref a1), some (.ref a2), some (.int p3), some (.int p4), none, some (.int p6), some (.int v2)]) ⟨Or.inr rfl, Or.inr rfl, Or.inr rfl, Or.inr rfl, Or.inr rfl, Or.inl rfl, Or.inr rfl, Or.inr rfl, trivial⟩ ?_
          exact H
        · have H := Hb c26
          refine j_aload_n d_La_areSources_49 rfl ?_
          refine j_iload d_La_areSources_50 rfl ?_
          obtain ⟨v8, k9, H⟩ := H
          refine j_callV (d' := 2) (ci := 9) (As := [.int p6]) (rest := []) (b := a0) cv_La_62 me_St_inChannel rfl (by decide) rfl rfl t1 rfl rfl (Nat.le_of_ble_eq_true rfl) d_La_areSources_52 (by decide) rfl (k9 _ ?_)
          show J E 3 m_La_areSources 55 [some (.ref a0), some (.ref a1), some (.ref a2), some (.int p3), some (.int p4), some (.int p5), some (.int p6), some (.int v2)] [.int v8] G Post
          refine j_aload_n d_La_areSources_55 rfl ?_
          refine j_iload d_La_areSources_56 rfl ?_
          obtain ⟨v10, k11, H⟩ := H
          refine j_callV (d' := 2) (ci := 9) (As := [.int p6]) (rest := [.int v8]) (b := a0) cv_La_65 me_St_offset rfl (by decide) rfl rfl t1 rfl rfl (Nat.le_of_ble_eq_true rfl) d_La_areSources_58 (by decide) rfl (k11 _ ?_)
          show J E 3 m_La_areSources 61 [some (.ref a0), some (.ref a1), some (.ref a2), some (.int p3), some (.int p4), some (.int p5), some (.int p6), some (.int v2)] [.int v10, .int v8] G Post
          obtain ⟨Ha, Hb⟩ := H
          refine j_icmp_gt (tgt := 95) d_La_areSources_61 (by decide) (fun c23 => ?_) (fun c24 => ?_)
          · have H := Ha c23
            refine j_forget (L' := [some (.ref a0), some (.ref a1), some (.ref a2), some (.int p3), some (.int p4), none, some (.int p6), some (.int v2)]) ⟨Or.inr rfl, Or.inr rfl, Or.inr rfl, Or.inr rfl, Or.inr rfl, Or.inl rfl, Or.inr rfl, Or.inr rfl, trivial⟩ ?_
            exact H
          · have H := Hb c24
            refine j_aload_n d_La_areSources_64 rfl ?_
            refine j_iload d_La_areSources_65 rfl ?_
            obtain ⟨v12, k13, H⟩ := H
            refine j_callV (d' := 2) (ci := 9) (As := [.int p6]) (rest := []) (b := a0) cv_La_65 me_St_offset rfl (by decide) rfl rfl t1 rfl rfl (Nat.le_of_ble_eq_true rfl) d_La_areSources_67 (by decide) rfl (k13 _ ?_)
            show J E 3 m_La_areSources 70 [some (.ref a0), some (.ref a1), some (.ref a2), some (.int p3), some (.int p4), some (.int p5), some (.int p6), some (.int v2)] [.int v12] G Post
            refine j_aload_n d_La_areSources_70 rfl ?_
            refine j_iload d_La_areSources_71 rfl ?_
            obtain ⟨t14, H⟩ := H
            obtain ⟨n16, x15, H⟩ := H
            refine j_iald (n := n16) t14 x15 d_La_areSources_73 ?_
            obtain ⟨Ha, Hb⟩ := H
            refine j_icmp_gt (tgt := 95) d_La_areSources_74 (by decide) (fun c21 => ?_) (fun c22 => ?_)
            · have H := Ha c21
              refine j_forget (L' := [some (.ref a0), some (.ref a1), some (.ref a2), some (.int p3), some (.int p4), none, some (.int p6), some (.int v2)]) ⟨Or.inr rfl, Or.inr rfl, Or.inr rfl, Or.inr rfl, Or.inr rfl, Or.inl rfl, Or.inr rfl, Or.inr rfl, trivial⟩ ?_
              exact H
            · have H := Hb c22
              refine j_iload d_La_areSources_77 rfl ?_
              refine j_iconst (v := -1) d_La_areSources_79 (by decide) ?_
              obtain ⟨Ha, Hb⟩ := H
              refine j_icmp_lt (tgt := 95) d_La_areSources_80 (by decide) (fun c19 => ?_) (fun c20 => ?_)
              · have H := Ha c19
                refine j_forget (L' := [some (.ref a0), some (.ref a1), some (.ref a2), some (.int p3), some (.int p4), none, some (.int p6), some (.int v2)]) ⟨Or.inr rfl, Or.inr rfl, Or.inr rfl, Or.inr rfl, Or.inr rfl, Or.inl rfl, Or.inr rfl, Or.inr rfl, trivial⟩ ?_
                exact H
              · have H := Hb c20
                refine j_iload d_La_areSources_83 rfl ?_
                refine j_sipush (v := 1000) d_La_areSources_85 (by decide) ?_
                obtain ⟨Ha, Hb⟩ := H
                refine j_icmp_ge (tgt := 95) d_La_areSources_88 (by decide) (fun c17 => ?_) (fun c18 => ?_)
                · have H := Ha c17
                  refine j_forget (L' := [some (.ref a0), some (.ref a1), some (.ref a2), some (.int p3), some (.int p4), none, some (.int p6), some (.int v2)]) ⟨Or.inr rfl, Or.inr rfl, Or.inr rfl, Or.inr rfl, Or.inr rfl, Or.inl rfl, Or.inr rfl, Or.inr rfl, trivial⟩ ?_
                  exact H
                · have H := Hb c18
                  refine j_iconst (v := 1) d_La_areSources_91 (by decide) ?_
                  refine j_goto (tgt := 96) d_La_areSources_92 (by decide) ?_
                  refine j_forget (L' := [some (.ref a0), some (.ref a1), some (.ref a2), some (.int p3), some (.int p4), none, some (.int p6), some (.int v2)]) ⟨Or.inr rfl, Or.inr rfl, Or.inr rfl, Or.inr rfl, Or.inr rfl, Or.inl rfl, Or.inr rfl, Or.inr rfl, trivial⟩ ?_
                  exact H
theorem wp_La_areSources_127 {E : EV} {G : GH} {Post : Res → GH → Prop} (a0 : Nat) (p3 : Int32) (p4 : Int32) (p5 : Int32) (H : gT G a0 = 10 ∧ ∃ v2, AK E 1 m_St_watermark [.ref a0] G v2 ∧ (p5 = 0 → J E 3 m_La_areSources 176 [none, none, none, none, none, none, none, none] [] G Post) ∧ (¬ p5 = 0 → (v2 < p3 → J E 3 m_La_areSources 176 [none, none, none, none, none, none, none, none] [] G Post) ∧ (¬ v2 < p3 → (p4 = (2000 : Int32) → J E 3 m_La_areSources 159 [none, none, none, some (.int p3), some (.int p4), none, some (.int v2), none] [] G Post) ∧ (¬ p4 = (2000 : Int32) → (v2 < p4 → J E 3 m_La_areSources 176 [none, none, none, none, none, none, none, none] [] G Post) ∧ (¬ v2 < p4 → J E 3 m_La_areSources 159 [none, none, none, some (.int p3), some (.int p4), none, some (.int v2), none] [] G Post))))) : J E 3 m_La_areSources 127 [some (.ref a0), none, none, some (.int p3), some (.int p4), some (.int p5), none, none] [] G Post := by
  refine j_aload_n d_La_areSources_127 rfl ?_
  obtain ⟨t1, H⟩ := H
  obtain ⟨v2, k3, H⟩ := H
  refine j_callV (d' := 1) (ci := 9) (As := []) (rest := []) (b := a0) cv_La_68 me_St_watermark rfl (by decide) rfl rfl t1 rfl rfl (Nat.le_of_ble_eq_true rfl) d_La_areSources_128 (by decide) rfl (k3 _ ?_)
  show J E 3 m_La_areSources 131 [some (.ref a0), none, none, some (.int p3), some (.int p4), some (.int p5), none, none] [.int v2] G Post
  refine j_istore (L' := [some (.ref a0), none, none, some (.int p3), some (.int p4), some (.int p5), some (.int v2), none]) d_La_areSources_131 (by decide) rfl ?_
  refine j_iload d_La_areSources_133 rfl ?_
  obtain ⟨Ha, Hb⟩ := H
  refine j_if_eq (tgt := 176) d_La_areSources_135 (by decide) (fun c10 => ?_) (fun c11 => ?_)
  · have H := Ha c10
    refine j_forget (L' := [none, none, none, none, none, none, none, none]) ⟨Or.inl rfl, Or.inl rfl, Or.inl rfl, Or.inl rfl, Or.inl rfl, Or.inl rfl, Or.inl rfl, Or.inl rfl, trivial⟩ ?_
    exact H
  · have H := Hb c11
    refine j_iload d_La_areSources_138 rfl ?_
    refine j_iload_n d_La_areSources_140 rfl ?_
    obtain ⟨Ha, Hb⟩ := H
    refine j_icmp_lt (tgt := 176) d_La_areSources_141 (by decide) (fun c8 => ?_) (fun c9 => ?_)
    · have H := Ha c8
      refine j_forget (L' := [none, none, none, none, none, none, none, none]) ⟨Or.inl rfl, Or.inl rfl, Or.inl rfl, Or.inl rfl, Or.inl rfl, Or.inl rfl, Or.inl rfl, Or.inl rfl, trivial⟩ ?_
      exact H
    · have H := Hb c9
      refine j_iload d_La_areSources_144 rfl ?_
      refine j_sipush (v := 2000) d_La_areSources_146 (by decide) ?_
      obtain ⟨Ha, Hb⟩ := H
      refine j_icmp_eq (tgt := 159) d_La_areSources_149 (by decide) (fun c6 => ?_) (fun c7 => ?_)
      · have H := Ha c6
        refine j_forget (L' := [none, none, none, some (.int p3), some (.int p4), none, some (.int v2), none]) ⟨Or.inl rfl, Or.inl rfl, Or.inl rfl, Or.inr rfl, Or.inr rfl, Or.inl rfl, Or.inr rfl, Or.inl rfl, trivial⟩ ?_
        exact H
      · have H := Hb c7
        refine j_iload d_La_areSources_152 rfl ?_
        refine j_iload d_La_areSources_154 rfl ?_
        obtain ⟨Ha, Hb⟩ := H
        refine j_icmp_lt (tgt := 176) d_La_areSources_156 (by decide) (fun c4 => ?_) (fun c5 => ?_)
        · have H := Ha c4
          refine j_forget (L' := [none, none, none, none, none, none, none, none]) ⟨Or.inl rfl, Or.inl rfl, Or.inl rfl, Or.inl rfl, Or.inl rfl, Or.inl rfl, Or.inl rfl, Or.inl rfl, trivial⟩ ?_
          exact H
        · have H := Hb c5
          refine j_forget (L' := [none, none, none, some (.int p3), some (.int p4), none, some (.int v2), none]) ⟨Or.inl rfl, Or.inl rfl, Or.inl rfl, Or.inr rfl, Or.inr rfl, Or.inl rfl, Or.inr rfl, Or.inl rfl, trivial⟩ ?_
          exact H
theorem wp_La_areSources_95 {E : EV} {G : GH} {Post : Res → GH → Prop} (a0 : Nat) (a1 : Nat) (a2 : Nat) (p3 : Int32) (p4 : Int32) (p6 : Int32) (p7 : Int32) (H : J E 3 m_La_areSources 96 [some (.ref a0), some (.ref a1), some (.ref a2), some (.int p3), some (.int p4), none, some (.int p6), some (.int p7)] [.int ((0 : Int32))] G Post) : J E 3 m_La_areSources 95 [some (.ref a0), some (.ref a1), some (.ref a2), some (.int p3), some (.int p4), none, some (.int p6), some (.int p7)] [] G Post := by
  refine j_iconst (v := 0) d_La_areSources_95 (by decide) ?_
  exact H
theorem wp_La_areSources_96 {E : EV} {G : GH} {Post : Res → GH → Prop} (a0 : Nat) (a1 : Nat) (a2 : Nat) (p3 : Int32) (p4 : Int32) (p6 : Int32) (p7 : Int32) (s0 : Int32) (H : (gT G a2 = 20 ∨ gT G a2 = 25) ∧ ∃ n3, IX p6 n3 (gN G a2) ∧ (¬ (gA G a2 n3) = 0 → J E 3 m_La_areSources 117 [some (.ref a0), some (.ref a1), some (.ref a2), some (.int p3), some (.int p4), some (.int s0), some (.int p6), none] [] G Post) ∧ ((gA G a2 n3) = 0 → (p4 ≤ p7 → J E 3 m_La_areSources 117 [some (.ref a0), some (.ref a1), some (.ref a2), some (.int p3), some (.int p4), some (.int s0), some (.int p6), none] [] G Post) ∧ (¬ p4 ≤ p7 → J E 3 m_La_areSources 119 [some (.ref a0), some (.ref a1), some (.ref a2), some (.int p3), none, some (.int s0), some (.int p6), none] [.int p7] G Post))) : J E 3 m_La_areSources 96 [some (.ref a0), some (.ref a1), some (.ref a2), some (.int p3), some (.int p4), none, some (.int p6), some (.int p7)] [.int s0] G Post := by
  refine j_istore (L' := [some (.ref a0), some (.ref a1), some (.ref a2), some (.int p3), some (.int p4), some (.int s0), some (.int p6), some (.int p7)]) d_La_areSources_96 (by decide) rfl ?_
  refine j_aload_n d_La_areSources_98 rfl ?_
  refine j_iload d_La_areSources_99 rfl ?_
  obtain ⟨t1, H⟩ := H
  obtain ⟨n3, x2, H⟩ := H
  refine j_iald (n := n3) t1 x2 d_La_areSources_101 ?_
  obtain ⟨Ha, Hb⟩ := H
  refine j_if_ne (tgt := 117) d_La_areSources_102 (by decide) (fun c6 => ?_) (fun c7 => ?_)
  · have H := Ha c6
    refine j_forget (L' := [some (.ref a0), some (.ref a1), some (.ref a2), some (.int p3), some (.int p4), some (.int s0), some (.int p6), none]) ⟨Or.inr rfl, Or.inr rfl, Or.inr rfl, Or.inr rfl, Or.inr rfl, Or.inr rfl, Or.inr rfl, Or.inl rfl, trivial⟩ ?_
    exact H
  · have H := Hb c7
    refine j_iload d_La_areSources_105 rfl ?_
    refine j_iload d_La_areSources_107 rfl ?_
    obtain ⟨Ha, Hb⟩ := H
    refine j_icmp_ge (tgt := 117) d_La_areSources_109 (by decide) (fun c4 => ?_) (fun c5 => ?_)
    · have H := Ha c4
      refine j_forget (L' := [some (.ref a0), some (.ref a1), some (.ref a2), some (.int p3), some (.int p4), some (.int s0), some (.int p6), none]) ⟨Or.inr rfl, Or.inr rfl, Or.inr rfl, Or.inr rfl, Or.inr rfl, Or.inr rfl, Or.inr rfl, Or.inl rfl, trivial⟩ ?_
      exact H
    · have H := Hb c5
      refine j_iload d_La_areSources_112 rfl ?_
      refine j_goto (tgt := 119) d_La_areSources_114 (by decide) ?_
      refine j_forget (L' := [some (.ref a0), some (.ref a1), some (.ref a2), some (.int p3), none, some (.int s0), some (.int p6), none]) ⟨Or.inr rfl, Or.inr rfl, Or.inr rfl, Or.inr rfl, Or.inl rfl, Or.inr rfl, Or.inr rfl, Or.inl rfl, trivial⟩ ?_
      exact H
theorem wp_La_areSources_176 {E : EV} {G : GH} {Post : Res → GH → Prop}  (H : J E 3 m_La_areSources 177 [none, none, none, none, none, none, none, none] [.int ((0 : Int32))] G Post) : J E 3 m_La_areSources 176 [none, none, none, none, none, none, none, none] [] G Post := by
  refine j_iconst (v := 0) d_La_areSources_176 (by decide) ?_
  exact H
theorem wp_La_areSources_159 {E : EV} {G : GH} {Post : Res → GH → Prop} (p3 : Int32) (p4 : Int32) (p6 : Int32) (H : (p6 = p3 → J E 3 m_La_areSources 172 [none, none, none, none, none, none, none, none] [] G Post) ∧ (¬ p6 = p3 → (¬ p6 = p4 → J E 3 m_La_areSources 176 [none, none, none, none, none, none, none, none] [] G Post) ∧ (p6 = p4 → J E 3 m_La_areSources 172 [none, none, none, none, none, none, none, none] [] G Post))) : J E 3 m_La_areSources 159 [none, none, none, some (.int p3), some (.int p4), none, some (.int p6), none] [] G Post := by
  refine j_iload d_La_areSources_159 rfl ?_
  refine j_iload_n d_La_areSources_161 rfl ?_
  obtain ⟨Ha, Hb⟩ := H
  refine j_icmp_eq (tgt := 172) d_La_areSources_162 (by decide) (fun c3 => ?_) (fun c4 => ?_)
  · have H := Ha c3
    refine j_forget (L' := [none, none, none, none, none, none, none, none]) ⟨Or.inl rfl, Or.inl rfl, Or.inl rfl, Or.inl rfl, Or.inl rfl, Or.inl rfl, Or.inl rfl, Or.inl rfl, trivial⟩ ?_
    exact H
  · have H := Hb c4
    refine j_iload d_La_areSources_165 rfl ?_
    refine j_iload d_La_areSources_167 rfl ?_
    obtain ⟨Ha, Hb⟩ := H
    refine j_icmp_ne (tgt := 176) d_La_areSources_169 (by decide) (fun c1 => ?_) (fun c2 => ?_)
    · have H := Ha c1
      refine j_forget (L' := [none, none, none, none, none, none, none, none]) ⟨Or.inl rfl, Or.inl rfl, Or.inl rfl, Or.inl rfl, Or.inl rfl, Or.inl rfl, Or.inl rfl, Or.inl rfl, trivial⟩ ?_
      exact H
    · have H := Hb c2
      refine j_forget (L' := [none, none, none, none, none, none, none, none]) ⟨Or.inl rfl, Or.inl rfl, Or.inl rfl, Or.inl rfl, Or.inl rfl, Or.inl rfl, Or.inl rfl, Or.inl rfl, trivial⟩ ?_
      exact H
theorem wp_La_areSources_117 {E : EV} {G : GH} {Post : Res → GH → Prop} (a0 : Nat) (a1 : Nat) (a2 : Nat) (p3 : Int32) (p4 : Int32) (p5 : Int32) (p6 : Int32) (H : J E 3 m_La_areSources 119 [some (.ref a0), some (.ref a1), some (.ref a2), some (.int p3), none, some (.int p5), some (.int p6), none] [.int p4] G Post) : J E 3 m_La_areSources 117 [some (.ref a0), some (.ref a1), some (.ref a2), some (.int p3), some (.int p4), some (.int p5), some (.int p6), none] [] G Post := by
  refine j_iload d_La_areSources_117 rfl ?_
  refine j_forget (L' := [some (.ref a0), some (.ref a1), some (.ref a2), some (.int p3), none, some (.int p5), some (.int p6), none]) ⟨Or.inr rfl, Or.inr rfl, Or.inr rfl, Or.inr rfl, Or.inl rfl, Or.inr rfl, Or.inr rfl, Or.inl rfl, trivial⟩ ?_
  exact H
theorem wp_La_areSources_119 {E : EV} {G : GH} {Post : Res → GH → Prop} (a0 : Nat) (a1 : Nat) (a2 : Nat) (p3 : Int32) (p5 : Int32) (p6 : Int32) (s0 : Int32) (H : J E 3 m_La_areSources 11 [some (.ref a0), some (.ref a1), some (.ref a2), some (.int p3), some (.int s0), some (.int p5), some (.int ((p6 + (1 : Int32)))), none] [] G Post) : J E 3 m_La_areSources 119 [some (.ref a0), some (.ref a1), some (.ref a2), some (.int p3), none, some (.int p5), some (.int p6), none] [.int s0] G Post := by
  refine j_istore (L' := [some (.ref a0), some (.ref a1), some (.ref a2), some (.int p3), some (.int s0), some (.int p5), some (.int p6), none]) d_La_areSources_119 (by decide) rfl ?_
  refine j_iinc (v := (p6 + (1 : Int32))) (L' := [some (.ref a0), some (.ref a1), some (.ref a2), some (.int p3), some (.int s0), some (.int p5), some (.int ((p6 + (1 : Int32)))), none]) d_La_areSources_121 rfl (by rw [show Int32.ofInt (1) = (1 : Int32) by decide]) (by decide) rfl ?_
  refine j_goto (tgt := 11) d_La_areSources_124 (by decide) ?_
  exact H
theorem wp_La_areSources_177 {E : EV} {G : GH} {Post : Res → GH → Prop} (s0 : Int32) (H : (s0 = 0 ∨ s0 = 1) ∧ Post (.inl (some (.int s0))) G) : J E 3 m_La_areSources 177 [none, none, none, none, none, none, none, none] [.int s0] G Post := by
  obtain ⟨z1, H⟩ := H
  exact j_zret rfl z1 d_La_areSources_177 H
theorem wp_La_areSources_172 {E : EV} {G : GH} {Post : Res → GH → Prop}  (H : J E 3 m_La_areSources 177 [none, none, none, none, none, none, none, none] [.int ((1 : Int32))] G Post) : J E 3 m_La_areSources 172 [none, none, none, none, none, none, none, none] [] G Post := by
  refine j_iconst (v := 1) d_La_areSources_172 (by decide) ?_
  refine j_goto (tgt := 177) d_La_areSources_173 (by decide) ?_
  exact H
