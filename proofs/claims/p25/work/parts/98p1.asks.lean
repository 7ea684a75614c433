/-! walks of the law; printed by wip/gen/law25.py -/
theorem wp_La_asks_0 {E : EV} {G : GH} {Post : Res → GH → Prop} (a0 : Nat) (p1 : Int32) (p2 : Int32) (p3 : Int32) (p4 : Int32) (p5 : Int32) (H : (¬ p1 = 0 → (¬ p1 = (1 : Int32) → (¬ p1 = (2 : Int32) → (¬ p1 = (3 : Int32) → (¬ p1 = (4 : Int32) → (¬ p1 = (5 : Int32) → gT G a0 = 10 ∧ Cl E 4 m_St_open [.ref a0, .int p2] G (aft E 13 m_La_asks 82 [none, none, none, none, none, none] [] Post)) ∧ (p1 = (5 : Int32) → gT G a0 = 10 ∧ Cl E 11 m_St_workers [.ref a0, .int p2] G (aft E 13 m_La_asks 74 [none, none, none, none, none, none] [] Post))) ∧ (p1 = (4 : Int32) → gT G a0 = 10 ∧ Cl E 2 m_St_confirm [.ref a0] G (aft E 13 m_La_asks 61 [none, none, none, none, none, none] [] Post))) ∧ (p1 = (3 : Int32) → gT G a0 = 10 ∧ Cl E 10 m_St_barrier [.ref a0] G (aft E 13 m_La_asks 49 [none, none, none, none, none, none] [] Post))) ∧ (p1 = (2 : Int32) → gT G a0 = 10 ∧ Cl E 12 m_St_take [.ref a0, .int p2] G (aft E 13 m_La_asks 37 [none, none, none, none, none, none] [] Post))) ∧ (p1 = (1 : Int32) → gT G a0 = 10 ∧ Cl E 2 m_St_read [.ref a0, .int p2] G (aft E 13 m_La_asks 24 [none, none, none, none, none, none] [] Post))) ∧ (p1 = 0 → gT G a0 = 10 ∧ Cl E 7 m_St_append [.ref a0, .int p2, .int p3, .int p4, .int p5] G (aft E 13 m_La_asks 11 [none, none, none, none, none, none] [] Post))) : J E 13 m_La_asks 0 [some (.ref a0), some (.int p1), some (.int p2), some (.int p3), some (.int p4), some (.int p5)] [] G Post := by
  refine j_iload_n d_La_asks_0 rfl ?_
  obtain ⟨Ha, Hb⟩ := H
  refine j_if_ne (tgt := 17) d_La_asks_1 (by decide) (fun c18 => ?_) (fun c19 => ?_)
  · have H := Ha c18
    refine j_iload_n d_La_asks_17 rfl ?_
    refine j_iconst (v := 1) d_La_asks_18 (by decide) ?_
    obtain ⟨Ha, Hb⟩ := H
    refine j_icmp_ne (tgt := 30) d_La_asks_19 (by decide) (fun c15 => ?_) (fun c16 => ?_)
    · have H := Ha c15
      refine j_iload_n d_La_asks_30 rfl ?_
      refine j_iconst (v := 2) d_La_asks_31 (by decide) ?_
      obtain ⟨Ha, Hb⟩ := H
      refine j_icmp_ne (tgt := 43) d_La_asks_32 (by decide) (fun c12 => ?_) (fun c13 => ?_)
      · have H := Ha c12
        refine j_iload_n d_La_asks_43 rfl ?_
        refine j_iconst (v := 3) d_La_asks_44 (by decide) ?_
        obtain ⟨Ha, Hb⟩ := H
        refine j_icmp_ne (tgt := 55) d_La_asks_45 (by decide) (fun c9 => ?_) (fun c10 => ?_)
        · have H := Ha c9
          refine j_iload_n d_La_asks_55 rfl ?_
          refine j_iconst (v := 4) d_La_asks_56 (by decide) ?_
          obtain ⟨Ha, Hb⟩ := H
          refine j_icmp_ne (tgt := 67) d_La_asks_57 (by decide) (fun c6 => ?_) (fun c7 => ?_)
          · have H := Ha c6
            refine j_iload_n d_La_asks_67 rfl ?_
            refine j_iconst (v := 5) d_La_asks_68 (by decide) ?_
            obtain ⟨Ha, Hb⟩ := H
            refine j_icmp_ne (tgt := 80) d_La_asks_69 (by decide) (fun c3 => ?_) (fun c4 => ?_)
            · have H := Ha c3
              refine j_aload_n d_La_asks_80 rfl ?_
              refine j_iload_n d_La_asks_81 rfl ?_
              obtain ⟨t1, H⟩ := H
              refine j_forget (L' := [none, none, none, none, none, none]) ⟨Or.inl rfl, Or.inl rfl, Or.inl rfl, Or.inl rfl, Or.inl rfl, Or.inl rfl, trivial⟩ ?_
              exact j_callV (d' := 4) (ci := 9) (As := [.int p2]) (rest := []) (b := a0) cv_La_30 me_St_open rfl (by decide) rfl rfl t1 rfl rfl (Nat.le_of_ble_eq_true rfl) d_La_asks_82 (by decide) rfl H
            · have H := Hb c4
              refine j_aload_n d_La_asks_72 rfl ?_
              refine j_iload_n d_La_asks_73 rfl ?_
              obtain ⟨t2, H⟩ := H
              refine j_forget (L' := [none, none, none, none, none, none]) ⟨Or.inl rfl, Or.inl rfl, Or.inl rfl, Or.inl rfl, Or.inl rfl, Or.inl rfl, trivial⟩ ?_
              exact j_callV (d' := 11) (ci := 9) (As := [.int p2]) (rest := []) (b := a0) cv_La_27 me_St_workers rfl (by decide) rfl rfl t2 rfl rfl (Nat.le_of_ble_eq_true rfl) d_La_asks_74 (by decide) rfl H
          · have H := Hb c7
            refine j_aload_n d_La_asks_60 rfl ?_
            obtain ⟨t5, H⟩ := H
            refine j_forget (L' := [none, none, none, none, none, none]) ⟨Or.inl rfl, Or.inl rfl, Or.inl rfl, Or.inl rfl, Or.inl rfl, Or.inl rfl, trivial⟩ ?_
            exact j_callV (d' := 2) (ci := 9) (As := []) (rest := []) (b := a0) cv_La_24 me_St_confirm rfl (by decide) rfl rfl t5 rfl rfl (Nat.le_of_ble_eq_true rfl) d_La_asks_61 (by decide) rfl H
        · have H := Hb c10
          refine j_aload_n d_La_asks_48 rfl ?_
          obtain ⟨t8, H⟩ := H
          refine j_forget (L' := [none, none, none, none, none, none]) ⟨Or.inl rfl, Or.inl rfl, Or.inl rfl, Or.inl rfl, Or.inl rfl, Or.inl rfl, trivial⟩ ?_
          exact j_callV (d' := 10) (ci := 9) (As := []) (rest := []) (b := a0) cv_La_20 me_St_barrier rfl (by decide) rfl rfl t8 rfl rfl (Nat.le_of_ble_eq_true rfl) d_La_asks_49 (by decide) rfl H
      · have H := Hb c13
        refine j_aload_n d_La_asks_35 rfl ?_
        refine j_iload_n d_La_asks_36 rfl ?_
        obtain ⟨t11, H⟩ := H
        refine j_forget (L' := [none, none, none, none, none, none]) ⟨Or.inl rfl, Or.inl rfl, Or.inl rfl, Or.inl rfl, Or.inl rfl, Or.inl rfl, trivial⟩ ?_
        exact j_callV (d' := 12) (ci := 9) (As := [.int p2]) (rest := []) (b := a0) cv_La_17 me_St_take rfl (by decide) rfl rfl t11 rfl rfl (Nat.le_of_ble_eq_true rfl) d_La_asks_37 (by decide) rfl H
    · have H := Hb c16
      refine j_aload_n d_La_asks_22 rfl ?_
      refine j_iload_n d_La_asks_23 rfl ?_
      obtain ⟨t14, H⟩ := H
      refine j_forget (L' := [none, none, none, none, none, none]) ⟨Or.inl rfl, Or.inl rfl, Or.inl rfl, Or.inl rfl, Or.inl rfl, Or.inl rfl, trivial⟩ ?_
      exact j_callV (d' := 2) (ci := 9) (As := [.int p2]) (rest := []) (b := a0) cv_La_13 me_St_read rfl (by decide) rfl rfl t14 rfl rfl (Nat.le_of_ble_eq_true rfl) d_La_asks_24 (by decide) rfl H
  · have H := Hb c19
    refine j_aload_n d_La_asks_4 rfl ?_
    refine j_iload_n d_La_asks_5 rfl ?_
    refine j_iload_n d_La_asks_6 rfl ?_
    refine j_iload d_La_asks_7 rfl ?_
    refine j_iload d_La_asks_9 rfl ?_
    obtain ⟨t17, H⟩ := H
    refine j_forget (L' := [none, none, none, none, none, none]) ⟨Or.inl rfl, Or.inl rfl, Or.inl rfl, Or.inl rfl, Or.inl rfl, Or.inl rfl, trivial⟩ ?_
    exact j_callV (d' := 7) (ci := 9) (As := [.int p2, .int p3, .int p4, .int p5]) (rest := []) (b := a0) cv_La_7 me_St_append rfl (by decide) rfl rfl t17 rfl rfl (Nat.le_of_ble_eq_true rfl) d_La_asks_11 (by decide) rfl H
theorem wp_La_asks_85 {E : EV} {G : GH} {Post : Res → GH → Prop} (s0 : Int32) (H : Post (.inl (some (.int s0))) G) : J E 13 m_La_asks 85 [none, none, none, none, none, none] [.int s0] G Post := by
  exact j_iret rfl d_La_asks_85 H
theorem wp_La_asks_77 {E : EV} {G : GH} {Post : Res → GH → Prop} (s0 : Int32) (H : J E 13 m_La_asks 85 [none, none, none, none, none, none] [.int s0] G Post) : J E 13 m_La_asks 77 [none, none, none, none, none, none] [.int s0] G Post := by
  refine j_goto (tgt := 85) d_La_asks_77 (by decide) ?_
  exact H
theorem wp_La_asks_64 {E : EV} {G : GH} {Post : Res → GH → Prop} (s0 : Int32) (H : J E 13 m_La_asks 85 [none, none, none, none, none, none] [.int s0] G Post) : J E 13 m_La_asks 64 [none, none, none, none, none, none] [.int s0] G Post := by
  refine j_goto (tgt := 85) d_La_asks_64 (by decide) ?_
  exact H
theorem wp_La_asks_52 {E : EV} {G : GH} {Post : Res → GH → Prop} (s0 : Int32) (H : J E 13 m_La_asks 85 [none, none, none, none, none, none] [.int s0] G Post) : J E 13 m_La_asks 52 [none, none, none, none, none, none] [.int s0] G Post := by
  refine j_goto (tgt := 85) d_La_asks_52 (by decide) ?_
  exact H
theorem wp_La_asks_40 {E : EV} {G : GH} {Post : Res → GH → Prop} (s0 : Int32) (H : J E 13 m_La_asks 85 [none, none, none, none, none, none] [.int s0] G Post) : J E 13 m_La_asks 40 [none, none, none, none, none, none] [.int s0] G Post := by
  refine j_goto (tgt := 85) d_La_asks_40 (by decide) ?_
  exact H
theorem wp_La_asks_27 {E : EV} {G : GH} {Post : Res → GH → Prop} (s0 : Int32) (H : J E 13 m_La_asks 85 [none, none, none, none, none, none] [.int s0] G Post) : J E 13 m_La_asks 27 [none, none, none, none, none, none] [.int s0] G Post := by
  refine j_goto (tgt := 85) d_La_asks_27 (by decide) ?_
  exact H
theorem wp_La_asks_14 {E : EV} {G : GH} {Post : Res → GH → Prop} (s0 : Int32) (H : J E 13 m_La_asks 85 [none, none, none, none, none, none] [.int s0] G Post) : J E 13 m_La_asks 14 [none, none, none, none, none, none] [.int s0] G Post := by
  refine j_goto (tgt := 85) d_La_asks_14 (by decide) ?_
  exact H
