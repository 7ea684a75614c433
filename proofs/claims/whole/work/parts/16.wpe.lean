/-! walks; printed by wip/gen/wps.py -/
theorem wp_La_job_0 {E : EV} {G : GH} {Post : Res → GH → Prop} (a0 : Nat) (p1 : Int32) (p2 : Int32) (p3 : Int32) (p4 : Int32) (p5 : Int32) (p6 : Int32) (H : gT G a0 = 10 ∧ Cl E 2 m_St_job [.ref a0, .int p1, .int p2, .int p3, .int p4, .int p5, .int p6] G (aftH E 3 m_La_job 10 [none, none, none, none, none, none, none, none] [] Post)) : J E 3 m_La_job 0 [some (.ref a0), some (.int p1), some (.int p2), some (.int p3), some (.int p4), some (.int p5), some (.int p6), none] [] G Post := by
  refine j_aload_n d_La_job_0 rfl ?_
  refine j_iload_n d_La_job_1 rfl ?_
  refine j_iload_n d_La_job_2 rfl ?_
  refine j_iload_n d_La_job_3 rfl ?_
  refine j_iload d_La_job_4 rfl ?_
  refine j_iload d_La_job_6 rfl ?_
  refine j_iload d_La_job_8 rfl ?_
  obtain ⟨t1, H⟩ := H
  refine j_forget (L' := [none, none, none, none, none, none, none, none]) ⟨Or.inl rfl, Or.inl rfl, Or.inl rfl, Or.inl rfl, Or.inl rfl, Or.inl rfl, Or.inl rfl, Or.inl rfl, trivial⟩ ?_
  exact j_callVH (d' := 2) (ci := 9) (As := [.int p1, .int p2, .int p3, .int p4, .int p5, .int p6]) (rest := []) (b := a0) rfl cv_La_7 me_St_job rfl (by decide) rfl rfl t1 rfl rfl (Nat.le_of_ble_eq_true rfl) d_La_job_10 (by decide) H
theorem wp_La_job_13 {E : EV} {G : GH} {Post : Res → GH → Prop}  (H : Post (.inl (some (.int ((0 : Int32))))) G) : J E 3 m_La_job 13 [none, none, none, none, none, none, none, none] [] G Post := by
  refine j_goto (tgt := 24) d_La_job_13 (by decide) ?_
  refine j_iconst (v := 0) d_La_job_24 (by decide) ?_
  exact j_iret rfl d_La_job_25 H
theorem wp_La_slack_0 {E : EV} {G : GH} {Post : Res → GH → Prop} (a0 : Nat) (p1 : Int32) (p2 : Int32) (a3 : Nat) (H : gT G a0 = 10 ∧ Cl E 2 m_St_slack [.ref a0, .int p1, .int p2] G (aftH E 3 m_La_slack 5 [none, none, none, none, none] [.int ((0 : Int32)), .ref a3] Post)) : J E 3 m_La_slack 0 [some (.ref a0), some (.int p1), some (.int p2), some (.ref a3), none] [] G Post := by
  refine j_aload_n d_La_slack_0 rfl ?_
  refine j_iconst (v := 0) d_La_slack_1 (by decide) ?_
  refine j_aload_n d_La_slack_2 rfl ?_
  refine j_iload_n d_La_slack_3 rfl ?_
  refine j_iload_n d_La_slack_4 rfl ?_
  obtain ⟨t1, H⟩ := H
  refine j_forget (L' := [none, none, none, none, none]) ⟨Or.inl rfl, Or.inl rfl, Or.inl rfl, Or.inl rfl, Or.inl rfl, trivial⟩ ?_
  exact j_callVH (d' := 2) (ci := 9) (As := [.int p1, .int p2]) (rest := [.int ((0 : Int32)), .ref a3]) (b := a0) rfl cv_La_17 me_St_slack rfl (by decide) rfl rfl t1 rfl rfl (Nat.le_of_ble_eq_true rfl) d_La_slack_5 (by decide) H
theorem wp_La_slack_8 {E : EV} {G : GH} {Post : Res → GH → Prop} (u0 : Nat) (s1 : Int32) (s2 : Int32) (H : gT G u0 = 22 ∧ ∃ n3, IX s1 n3 (gN G u0) ∧ Post (.inl (some (.int ((0 : Int32))))) (sL G u0 n3 ((Int32.toInt64 s2)))) : J E 3 m_La_slack 8 [none, none, none, none, none] [.int s2, .int s1, .ref u0] G Post := by
  refine j_i2l d_La_slack_8 ?_
  obtain ⟨t1, H⟩ := H
  obtain ⟨n3, x2, H⟩ := H
  refine j_last (n := n3) t1 x2 d_La_slack_9 ?_
  refine j_goto (tgt := 25) d_La_slack_10 (by decide) ?_
  refine j_iconst (v := 0) d_La_slack_25 (by decide) ?_
  exact j_iret rfl d_La_slack_26 H
theorem wp_La_append_0 {E : EV} {G : GH} {Post : Res → GH → Prop} (a0 : Nat) (p1 : Int32) (p2 : Int32) (p3 : Int32) (p4 : Int32) (a5 : Nat) (H : gT G a0 = 10 ∧ Cl E 7 m_St_append [.ref a0, .int p1, .int p2, .int p3, .int p4] G (aftH E 8 m_La_append 9 [none, none, none, none, none, none, none] [.int ((0 : Int32)), .ref a5] Post)) : J E 8 m_La_append 0 [some (.ref a0), some (.int p1), some (.int p2), some (.int p3), some (.int p4), some (.ref a5), none] [] G Post := by
  refine j_aload d_La_append_0 rfl ?_
  refine j_iconst (v := 0) d_La_append_2 (by decide) ?_
  refine j_aload_n d_La_append_3 rfl ?_
  refine j_iload_n d_La_append_4 rfl ?_
  refine j_iload_n d_La_append_5 rfl ?_
  refine j_iload_n d_La_append_6 rfl ?_
  refine j_iload d_La_append_7 rfl ?_
  obtain ⟨t1, H⟩ := H
  refine j_forget (L' := [none, none, none, none, none, none, none]) ⟨Or.inl rfl, Or.inl rfl, Or.inl rfl, Or.inl rfl, Or.inl rfl, Or.inl rfl, Or.inl rfl, trivial⟩ ?_
  exact j_callVH (d' := 7) (ci := 9) (As := [.int p1, .int p2, .int p3, .int p4]) (rest := [.int ((0 : Int32)), .ref a5]) (b := a0) rfl cv_La_23 me_St_append rfl (by decide) rfl rfl t1 rfl rfl (Nat.le_of_ble_eq_true rfl) d_La_append_9 (by decide) H
theorem wp_La_append_12 {E : EV} {G : GH} {Post : Res → GH → Prop} (u0 : Nat) (s1 : Int32) (s2 : Int32) (H : gT G u0 = 22 ∧ ∃ n3, IX s1 n3 (gN G u0) ∧ Post (.inl (some (.int ((0 : Int32))))) (sL G u0 n3 ((Int32.toInt64 s2)))) : J E 8 m_La_append 12 [none, none, none, none, none, none, none] [.int s2, .int s1, .ref u0] G Post := by
  refine j_i2l d_La_append_12 ?_
  obtain ⟨t1, H⟩ := H
  obtain ⟨n3, x2, H⟩ := H
  refine j_last (n := n3) t1 x2 d_La_append_13 ?_
  refine j_goto (tgt := 29) d_La_append_14 (by decide) ?_
  refine j_iconst (v := 0) d_La_append_29 (by decide) ?_
  exact j_iret rfl d_La_append_30 H
theorem wp_La_read_0 {E : EV} {G : GH} {Post : Res → GH → Prop} (a0 : Nat) (p1 : Int32) (a2 : Nat) (H : gT G a0 = 10 ∧ Cl E 2 m_St_read [.ref a0, .int p1] G (aftH E 3 m_La_read 4 [none, none, none, none] [.int ((0 : Int32)), .ref a2] Post)) : J E 3 m_La_read 0 [some (.ref a0), some (.int p1), some (.ref a2), none] [] G Post := by
  refine j_aload_n d_La_read_0 rfl ?_
  refine j_iconst (v := 0) d_La_read_1 (by decide) ?_
  refine j_aload_n d_La_read_2 rfl ?_
  refine j_iload_n d_La_read_3 rfl ?_
  obtain ⟨t1, H⟩ := H
  refine j_forget (L' := [none, none, none, none]) ⟨Or.inl rfl, Or.inl rfl, Or.inl rfl, Or.inl rfl, trivial⟩ ?_
  exact j_callVH (d' := 2) (ci := 9) (As := [.int p1]) (rest := [.int ((0 : Int32)), .ref a2]) (b := a0) rfl cv_La_27 me_St_read rfl (by decide) rfl rfl t1 rfl rfl (Nat.le_of_ble_eq_true rfl) d_La_read_4 (by decide) H
theorem wp_La_read_7 {E : EV} {G : GH} {Post : Res → GH → Prop} (u0 : Nat) (s1 : Int32) (s2 : Int32) (H : gT G u0 = 22 ∧ ∃ n3, IX s1 n3 (gN G u0) ∧ Post (.inl (some (.int ((0 : Int32))))) (sL G u0 n3 ((Int32.toInt64 s2)))) : J E 3 m_La_read 7 [none, none, none, none] [.int s2, .int s1, .ref u0] G Post := by
  refine j_i2l d_La_read_7 ?_
  obtain ⟨t1, H⟩ := H
  obtain ⟨n3, x2, H⟩ := H
  refine j_last (n := n3) t1 x2 d_La_read_8 ?_
  refine j_goto (tgt := 18) d_La_read_9 (by decide) ?_
  refine j_iconst (v := 0) d_La_read_18 (by decide) ?_
  exact j_iret rfl d_La_read_19 H
theorem wp_La_idle_0 {E : EV} {G : GH} {Post : Res → GH → Prop} (a0 : Nat) (p1 : Int32) (p2 : Int32) (a3 : Nat) (H : gT G a0 = 10 ∧ Cl E 10 m_St_idle [.ref a0, .int p1, .int p2] G (aftH E 11 m_La_idle 5 [none, none, none, none, none] [.int ((0 : Int32)), .ref a3] Post)) : J E 11 m_La_idle 0 [some (.ref a0), some (.int p1), some (.int p2), some (.ref a3), none] [] G Post := by
  refine j_aload_n d_La_idle_0 rfl ?_
  refine j_iconst (v := 0) d_La_idle_1 (by decide) ?_
  refine j_aload_n d_La_idle_2 rfl ?_
  refine j_iload_n d_La_idle_3 rfl ?_
  refine j_iload_n d_La_idle_4 rfl ?_
  obtain ⟨t1, H⟩ := H
  refine j_forget (L' := [none, none, none, none, none]) ⟨Or.inl rfl, Or.inl rfl, Or.inl rfl, Or.inl rfl, Or.inl rfl, trivial⟩ ?_
  exact j_callVH (d' := 10) (ci := 9) (As := [.int p1, .int p2]) (rest := [.int ((0 : Int32)), .ref a3]) (b := a0) rfl cv_La_31 me_St_idle rfl (by decide) rfl rfl t1 rfl rfl (Nat.le_of_ble_eq_true rfl) d_La_idle_5 (by decide) H
theorem wp_La_idle_8 {E : EV} {G : GH} {Post : Res → GH → Prop} (u0 : Nat) (s1 : Int32) (s2 : Int32) (H : (s2 = 0 → gT G u0 = 22 ∧ ∃ n3, IX s1 n3 (gN G u0) ∧ Post (.inl (some (.int ((0 : Int32))))) (sL G u0 n3 ((0 : Int64)))) ∧ (¬ s2 = 0 → gT G u0 = 22 ∧ ∃ n6, IX s1 n6 (gN G u0) ∧ Post (.inl (some (.int ((0 : Int32))))) (sL G u0 n6 ((1 : Int64))))) : J E 11 m_La_idle 8 [none, none, none, none, none] [.int s2, .int s1, .ref u0] G Post := by
  obtain ⟨Ha, Hb⟩ := H
  refine j_if_eq (tgt := 15) d_La_idle_8 (by decide) (fun c7 => ?_) (fun c8 => ?_)
  · have H := Ha c7
    refine j_lconst (v := 0) d_La_idle_15 (by decide) ?_
    obtain ⟨t1, H⟩ := H
    obtain ⟨n3, x2, H⟩ := H
    refine j_last (n := n3) t1 x2 d_La_idle_16 ?_
    refine j_goto (tgt := 24) d_La_idle_17 (by decide) ?_
    refine j_iconst (v := 0) d_La_idle_24 (by decide) ?_
    exact j_iret rfl d_La_idle_25 H
  · have H := Hb c8
    refine j_lconst (v := 1) d_La_idle_11 (by decide) ?_
    refine j_goto (tgt := 16) d_La_idle_12 (by decide) ?_
    obtain ⟨t4, H⟩ := H
    obtain ⟨n6, x5, H⟩ := H
    refine j_last (n := n6) t4 x5 d_La_idle_16 ?_
    refine j_goto (tgt := 24) d_La_idle_17 (by decide) ?_
    refine j_iconst (v := 0) d_La_idle_24 (by decide) ?_
    exact j_iret rfl d_La_idle_25 H
theorem wp_La_take_0 {E : EV} {G : GH} {Post : Res → GH → Prop} (a0 : Nat) (p1 : Int32) (a2 : Nat) (H : gT G a0 = 10 ∧ Cl E 12 m_St_take [.ref a0, .int p1] G (aftH E 13 m_La_take 4 [none, none, none, none] [.int ((0 : Int32)), .ref a2] Post)) : J E 13 m_La_take 0 [some (.ref a0), some (.int p1), some (.ref a2), none] [] G Post := by
  refine j_aload_n d_La_take_0 rfl ?_
  refine j_iconst (v := 0) d_La_take_1 (by decide) ?_
  refine j_aload_n d_La_take_2 rfl ?_
  refine j_iload_n d_La_take_3 rfl ?_
  obtain ⟨t1, H⟩ := H
  refine j_forget (L' := [none, none, none, none]) ⟨Or.inl rfl, Or.inl rfl, Or.inl rfl, Or.inl rfl, trivial⟩ ?_
  exact j_callVH (d' := 12) (ci := 9) (As := [.int p1]) (rest := [.int ((0 : Int32)), .ref a2]) (b := a0) rfl cv_La_35 me_St_take rfl (by decide) rfl rfl t1 rfl rfl (Nat.le_of_ble_eq_true rfl) d_La_take_4 (by decide) H
theorem wp_La_take_7 {E : EV} {G : GH} {Post : Res → GH → Prop} (u0 : Nat) (s1 : Int32) (s2 : Int32) (H : gT G u0 = 22 ∧ ∃ n3, IX s1 n3 (gN G u0) ∧ Post (.inl (some (.int ((0 : Int32))))) (sL G u0 n3 ((Int32.toInt64 s2)))) : J E 13 m_La_take 7 [none, none, none, none] [.int s2, .int s1, .ref u0] G Post := by
  refine j_i2l d_La_take_7 ?_
  obtain ⟨t1, H⟩ := H
  obtain ⟨n3, x2, H⟩ := H
  refine j_last (n := n3) t1 x2 d_La_take_8 ?_
  refine j_goto (tgt := 18) d_La_take_9 (by decide) ?_
  refine j_iconst (v := 0) d_La_take_18 (by decide) ?_
  exact j_iret rfl d_La_take_19 H
theorem wp_La_barrier_0 {E : EV} {G : GH} {Post : Res → GH → Prop} (a0 : Nat) (a1 : Nat) (H : gT G a0 = 10 ∧ Cl E 10 m_St_barrier [.ref a0] G (aftH E 11 m_La_barrier 3 [none, none, none] [.int ((0 : Int32)), .ref a1] Post)) : J E 11 m_La_barrier 0 [some (.ref a0), some (.ref a1), none] [] G Post := by
  refine j_aload_n d_La_barrier_0 rfl ?_
  refine j_iconst (v := 0) d_La_barrier_1 (by decide) ?_
  refine j_aload_n d_La_barrier_2 rfl ?_
  obtain ⟨t1, H⟩ := H
  refine j_forget (L' := [none, none, none]) ⟨Or.inl rfl, Or.inl rfl, Or.inl rfl, trivial⟩ ?_
  exact j_callVH (d' := 10) (ci := 9) (As := []) (rest := [.int ((0 : Int32)), .ref a1]) (b := a0) rfl cv_La_38 me_St_barrier rfl (by decide) rfl rfl t1 rfl rfl (Nat.le_of_ble_eq_true rfl) d_La_barrier_3 (by decide) H
theorem wp_La_barrier_6 {E : EV} {G : GH} {Post : Res → GH → Prop} (u0 : Nat) (s1 : Int32) (s2 : Int32) (H : gT G u0 = 22 ∧ ∃ n3, IX s1 n3 (gN G u0) ∧ Post (.inl (some (.int ((0 : Int32))))) (sL G u0 n3 ((Int32.toInt64 s2)))) : J E 11 m_La_barrier 6 [none, none, none] [.int s2, .int s1, .ref u0] G Post := by
  refine j_i2l d_La_barrier_6 ?_
  obtain ⟨t1, H⟩ := H
  obtain ⟨n3, x2, H⟩ := H
  refine j_last (n := n3) t1 x2 d_La_barrier_7 ?_
  refine j_goto (tgt := 14) d_La_barrier_8 (by decide) ?_
  refine j_iconst (v := 0) d_La_barrier_14 (by decide) ?_
  exact j_iret rfl d_La_barrier_15 H
theorem wp_La_confirm_0 {E : EV} {G : GH} {Post : Res → GH → Prop} (a0 : Nat) (a1 : Nat) (H : gT G a0 = 10 ∧ Cl E 2 m_St_confirm [.ref a0] G (aftH E 3 m_La_confirm 3 [none, none, none] [.int ((0 : Int32)), .ref a1] Post)) : J E 3 m_La_confirm 0 [some (.ref a0), some (.ref a1), none] [] G Post := by
  refine j_aload_n d_La_confirm_0 rfl ?_
  refine j_iconst (v := 0) d_La_confirm_1 (by decide) ?_
  refine j_aload_n d_La_confirm_2 rfl ?_
  obtain ⟨t1, H⟩ := H
  refine j_forget (L' := [none, none, none]) ⟨Or.inl rfl, Or.inl rfl, Or.inl rfl, trivial⟩ ?_
  exact j_callVH (d' := 2) (ci := 9) (As := []) (rest := [.int ((0 : Int32)), .ref a1]) (b := a0) rfl cv_La_42 me_St_confirm rfl (by decide) rfl rfl t1 rfl rfl (Nat.le_of_ble_eq_true rfl) d_La_confirm_3 (by decide) H
theorem wp_La_confirm_6 {E : EV} {G : GH} {Post : Res → GH → Prop} (u0 : Nat) (s1 : Int32) (s2 : Int32) (H : gT G u0 = 22 ∧ ∃ n3, IX s1 n3 (gN G u0) ∧ Post (.inl (some (.int ((0 : Int32))))) (sL G u0 n3 ((Int32.toInt64 s2)))) : J E 3 m_La_confirm 6 [none, none, none] [.int s2, .int s1, .ref u0] G Post := by
  refine j_i2l d_La_confirm_6 ?_
  obtain ⟨t1, H⟩ := H
  obtain ⟨n3, x2, H⟩ := H
  refine j_last (n := n3) t1 x2 d_La_confirm_7 ?_
  refine j_goto (tgt := 14) d_La_confirm_8 (by decide) ?_
  refine j_iconst (v := 0) d_La_confirm_14 (by decide) ?_
  exact j_iret rfl d_La_confirm_15 H
theorem wp_La_workers_0 {E : EV} {G : GH} {Post : Res → GH → Prop} (a0 : Nat) (p1 : Int32) (a2 : Nat) (H : gT G a0 = 10 ∧ Cl E 11 m_St_workers [.ref a0, .int p1] G (aftH E 12 m_La_workers 4 [none, none, none, none] [.int ((0 : Int32)), .ref a2] Post)) : J E 12 m_La_workers 0 [some (.ref a0), some (.int p1), some (.ref a2), none] [] G Post := by
  refine j_aload_n d_La_workers_0 rfl ?_
  refine j_iconst (v := 0) d_La_workers_1 (by decide) ?_
  refine j_aload_n d_La_workers_2 rfl ?_
  refine j_iload_n d_La_workers_3 rfl ?_
  obtain ⟨t1, H⟩ := H
  refine j_forget (L' := [none, none, none, none]) ⟨Or.inl rfl, Or.inl rfl, Or.inl rfl, Or.inl rfl, trivial⟩ ?_
  exact j_callVH (d' := 11) (ci := 9) (As := [.int p1]) (rest := [.int ((0 : Int32)), .ref a2]) (b := a0) rfl cv_La_45 me_St_workers rfl (by decide) rfl rfl t1 rfl rfl (Nat.le_of_ble_eq_true rfl) d_La_workers_4 (by decide) H
theorem wp_La_workers_7 {E : EV} {G : GH} {Post : Res → GH → Prop} (u0 : Nat) (s1 : Int32) (s2 : Int32) (H : gT G u0 = 22 ∧ ∃ n3, IX s1 n3 (gN G u0) ∧ Post (.inl (some (.int ((0 : Int32))))) (sL G u0 n3 ((Int32.toInt64 s2)))) : J E 12 m_La_workers 7 [none, none, none, none] [.int s2, .int s1, .ref u0] G Post := by
  refine j_i2l d_La_workers_7 ?_
  obtain ⟨t1, H⟩ := H
  obtain ⟨n3, x2, H⟩ := H
  refine j_last (n := n3) t1 x2 d_La_workers_8 ?_
  refine j_goto (tgt := 18) d_La_workers_9 (by decide) ?_
  refine j_iconst (v := 0) d_La_workers_18 (by decide) ?_
  exact j_iret rfl d_La_workers_19 H
theorem wp_La_sourceWatermark_0 {E : EV} {G : GH} {Post : Res → GH → Prop} (a0 : Nat) (p1 : Int32) (a2 : Nat) (H : gT G a0 = 10 ∧ Cl E 2 m_St_sourceWatermark [.ref a0, .int p1] G (aftH E 3 m_La_sourceWatermark 4 [none, none, none, none] [.int ((0 : Int32)), .ref a2] Post)) : J E 3 m_La_sourceWatermark 0 [some (.ref a0), some (.int p1), some (.ref a2), none] [] G Post := by
  refine j_aload_n d_La_sourceWatermark_0 rfl ?_
  refine j_iconst (v := 0) d_La_sourceWatermark_1 (by decide) ?_
  refine j_aload_n d_La_sourceWatermark_2 rfl ?_
  refine j_iload_n d_La_sourceWatermark_3 rfl ?_
  obtain ⟨t1, H⟩ := H
  refine j_forget (L' := [none, none, none, none]) ⟨Or.inl rfl, Or.inl rfl, Or.inl rfl, Or.inl rfl, trivial⟩ ?_
  exact j_callVH (d' := 2) (ci := 9) (As := [.int p1]) (rest := [.int ((0 : Int32)), .ref a2]) (b := a0) rfl cv_La_48 me_St_sourceWatermark rfl (by decide) rfl rfl t1 rfl rfl (Nat.le_of_ble_eq_true rfl) d_La_sourceWatermark_4 (by decide) H
theorem wp_La_sourceWatermark_7 {E : EV} {G : GH} {Post : Res → GH → Prop} (u0 : Nat) (s1 : Int32) (s2 : Int32) (H : gT G u0 = 22 ∧ ∃ n3, IX s1 n3 (gN G u0) ∧ Post (.inl (some (.int ((0 : Int32))))) (sL G u0 n3 ((Int32.toInt64 s2)))) : J E 3 m_La_sourceWatermark 7 [none, none, none, none] [.int s2, .int s1, .ref u0] G Post := by
  refine j_i2l d_La_sourceWatermark_7 ?_
  obtain ⟨t1, H⟩ := H
  obtain ⟨n3, x2, H⟩ := H
  refine j_last (n := n3) t1 x2 d_La_sourceWatermark_8 ?_
  refine j_goto (tgt := 15) d_La_sourceWatermark_9 (by decide) ?_
  refine j_iconst (v := 0) d_La_sourceWatermark_15 (by decide) ?_
  exact j_iret rfl d_La_sourceWatermark_16 H
theorem wp_La_offset_0 {E : EV} {G : GH} {Post : Res → GH → Prop} (a0 : Nat) (p1 : Int32) (a2 : Nat) (H : gT G a0 = 10 ∧ Cl E 2 m_St_offset [.ref a0, .int p1] G (aftH E 3 m_La_offset 4 [none, none, none, none] [.int ((0 : Int32)), .ref a2] Post)) : J E 3 m_La_offset 0 [some (.ref a0), some (.int p1), some (.ref a2), none] [] G Post := by
  refine j_aload_n d_La_offset_0 rfl ?_
  refine j_iconst (v := 0) d_La_offset_1 (by decide) ?_
  refine j_aload_n d_La_offset_2 rfl ?_
  refine j_iload_n d_La_offset_3 rfl ?_
  obtain ⟨t1, H⟩ := H
  refine j_forget (L' := [none, none, none, none]) ⟨Or.inl rfl, Or.inl rfl, Or.inl rfl, Or.inl rfl, trivial⟩ ?_
  exact j_callVH (d' := 2) (ci := 9) (As := [.int p1]) (rest := [.int ((0 : Int32)), .ref a2]) (b := a0) rfl cv_La_51 me_St_offset rfl (by decide) rfl rfl t1 rfl rfl (Nat.le_of_ble_eq_true rfl) d_La_offset_4 (by decide) H
theorem wp_La_offset_7 {E : EV} {G : GH} {Post : Res → GH → Prop} (u0 : Nat) (s1 : Int32) (s2 : Int32) (H : gT G u0 = 22 ∧ ∃ n3, IX s1 n3 (gN G u0) ∧ Post (.inl (some (.int ((0 : Int32))))) (sL G u0 n3 ((Int32.toInt64 s2)))) : J E 3 m_La_offset 7 [none, none, none, none] [.int s2, .int s1, .ref u0] G Post := by
  refine j_i2l d_La_offset_7 ?_
  obtain ⟨t1, H⟩ := H
  obtain ⟨n3, x2, H⟩ := H
  refine j_last (n := n3) t1 x2 d_La_offset_8 ?_
  refine j_goto (tgt := 15) d_La_offset_9 (by decide) ?_
  refine j_iconst (v := 0) d_La_offset_15 (by decide) ?_
  exact j_iret rfl d_La_offset_16 H
theorem wp_La_inChannel_0 {E : EV} {G : GH} {Post : Res → GH → Prop} (a0 : Nat) (p1 : Int32) (a2 : Nat) (H : gT G a0 = 10 ∧ Cl E 2 m_St_inChannel [.ref a0, .int p1] G (aftH E 3 m_La_inChannel 4 [none, none, none, none] [.int ((0 : Int32)), .ref a2] Post)) : J E 3 m_La_inChannel 0 [some (.ref a0), some (.int p1), some (.ref a2), none] [] G Post := by
  refine j_aload_n d_La_inChannel_0 rfl ?_
  refine j_iconst (v := 0) d_La_inChannel_1 (by decide) ?_
  refine j_aload_n d_La_inChannel_2 rfl ?_
  refine j_iload_n d_La_inChannel_3 rfl ?_
  obtain ⟨t1, H⟩ := H
  refine j_forget (L' := [none, none, none, none]) ⟨Or.inl rfl, Or.inl rfl, Or.inl rfl, Or.inl rfl, trivial⟩ ?_
  exact j_callVH (d' := 2) (ci := 9) (As := [.int p1]) (rest := [.int ((0 : Int32)), .ref a2]) (b := a0) rfl cv_La_54 me_St_inChannel rfl (by decide) rfl rfl t1 rfl rfl (Nat.le_of_ble_eq_true rfl) d_La_inChannel_4 (by decide) H
theorem wp_La_inChannel_7 {E : EV} {G : GH} {Post : Res → GH → Prop} (u0 : Nat) (s1 : Int32) (s2 : Int32) (H : gT G u0 = 22 ∧ ∃ n3, IX s1 n3 (gN G u0) ∧ Post (.inl (some (.int ((0 : Int32))))) (sL G u0 n3 ((Int32.toInt64 s2)))) : J E 3 m_La_inChannel 7 [none, none, none, none] [.int s2, .int s1, .ref u0] G Post := by
  refine j_i2l d_La_inChannel_7 ?_
  obtain ⟨t1, H⟩ := H
  obtain ⟨n3, x2, H⟩ := H
  refine j_last (n := n3) t1 x2 d_La_inChannel_8 ?_
  refine j_goto (tgt := 15) d_La_inChannel_9 (by decide) ?_
  refine j_iconst (v := 0) d_La_inChannel_15 (by decide) ?_
  exact j_iret rfl d_La_inChannel_16 H
theorem wp_La_open_0 {E : EV} {G : GH} {Post : Res → GH → Prop} (a0 : Nat) (p1 : Int32) (a2 : Nat) (H : gT G a0 = 10 ∧ Cl E 4 m_St_open [.ref a0, .int p1] G (aftH E 5 m_La_open 4 [none, none, none, none] [.int ((0 : Int32)), .ref a2] Post)) : J E 5 m_La_open 0 [some (.ref a0), some (.int p1), some (.ref a2), none] [] G Post := by
  refine j_aload_n d_La_open_0 rfl ?_
  refine j_iconst (v := 0) d_La_open_1 (by decide) ?_
  refine j_aload_n d_La_open_2 rfl ?_
  refine j_iload_n d_La_open_3 rfl ?_
  obtain ⟨t1, H⟩ := H
  refine j_forget (L' := [none, none, none, none]) ⟨Or.inl rfl, Or.inl rfl, Or.inl rfl, Or.inl rfl, trivial⟩ ?_
  exact j_callVH (d' := 4) (ci := 9) (As := [.int p1]) (rest := [.int ((0 : Int32)), .ref a2]) (b := a0) rfl cv_La_57 me_St_open rfl (by decide) rfl rfl t1 rfl rfl (Nat.le_of_ble_eq_true rfl) d_La_open_4 (by decide) H
theorem wp_La_open_7 {E : EV} {G : GH} {Post : Res → GH → Prop} (u0 : Nat) (s1 : Int32) (s2 : Int32) (H : gT G u0 = 22 ∧ ∃ n3, IX s1 n3 (gN G u0) ∧ Post (.inl (some (.int ((0 : Int32))))) (sL G u0 n3 ((Int32.toInt64 s2)))) : J E 5 m_La_open 7 [none, none, none, none] [.int s2, .int s1, .ref u0] G Post := by
  refine j_i2l d_La_open_7 ?_
  obtain ⟨t1, H⟩ := H
  obtain ⟨n3, x2, H⟩ := H
  refine j_last (n := n3) t1 x2 d_La_open_8 ?_
  refine j_goto (tgt := 15) d_La_open_9 (by decide) ?_
  refine j_iconst (v := 0) d_La_open_15 (by decide) ?_
  exact j_iret rfl d_La_open_16 H
theorem wp_La_sumAt_0 {E : EV} {G : GH} {Post : Res → GH → Prop} (a0 : Nat) (p1 : Int32) (p2 : Int32) (a3 : Nat) (H : gT G a0 = 10 ∧ Cl E 4 m_St_sumAt [.ref a0, .int p1, .int p2] G (aftH E 5 m_La_sumAt 5 [none, none, none, none, none] [.int ((0 : Int32)), .ref a3] Post)) : J E 5 m_La_sumAt 0 [some (.ref a0), some (.int p1), some (.int p2), some (.ref a3), none] [] G Post := by
  refine j_aload_n d_La_sumAt_0 rfl ?_
  refine j_iconst (v := 0) d_La_sumAt_1 (by decide) ?_
  refine j_aload_n d_La_sumAt_2 rfl ?_
  refine j_iload_n d_La_sumAt_3 rfl ?_
  refine j_iload_n d_La_sumAt_4 rfl ?_
  obtain ⟨t1, H⟩ := H
  refine j_forget (L' := [none, none, none, none, none]) ⟨Or.inl rfl, Or.inl rfl, Or.inl rfl, Or.inl rfl, Or.inl rfl, trivial⟩ ?_
  exact j_callVH (d' := 4) (ci := 9) (As := [.int p1, .int p2]) (rest := [.int ((0 : Int32)), .ref a3]) (b := a0) rfl cv_La_60 me_St_sumAt rfl (by decide) rfl rfl t1 rfl rfl (Nat.le_of_ble_eq_true rfl) d_La_sumAt_5 (by decide) H
theorem wp_La_sumAt_8 {E : EV} {G : GH} {Post : Res → GH → Prop} (u0 : Nat) (s1 : Int32) (s2 : Int32) (H : gT G u0 = 22 ∧ ∃ n3, IX s1 n3 (gN G u0) ∧ Post (.inl (some (.int ((0 : Int32))))) (sL G u0 n3 ((Int32.toInt64 s2)))) : J E 5 m_La_sumAt 8 [none, none, none, none, none] [.int s2, .int s1, .ref u0] G Post := by
  refine j_i2l d_La_sumAt_8 ?_
  obtain ⟨t1, H⟩ := H
  obtain ⟨n3, x2, H⟩ := H
  refine j_last (n := n3) t1 x2 d_La_sumAt_9 ?_
  refine j_goto (tgt := 21) d_La_sumAt_10 (by decide) ?_
  refine j_iconst (v := 0) d_La_sumAt_21 (by decide) ?_
  exact j_iret rfl d_La_sumAt_22 H
theorem wp_La_result_0 {E : EV} {G : GH} {Post : Res → GH → Prop} (a0 : Nat) (p1 : Int32) (p2 : Int32) (p3 : Int32) (a4 : Nat) (H : gT G a0 = 10 ∧ Cl E 5 m_St_result [.ref a0, .int p1, .int p2, .int p3] G (aftH E 6 m_La_result 7 [none, none, none, none, none, none] [.int ((0 : Int32)), .ref a4] Post)) : J E 6 m_La_result 0 [some (.ref a0), some (.int p1), some (.int p2), some (.int p3), some (.ref a4), none] [] G Post := by
  refine j_aload d_La_result_0 rfl ?_
  refine j_iconst (v := 0) d_La_result_2 (by decide) ?_
  refine j_aload_n d_La_result_3 rfl ?_
  refine j_iload_n d_La_result_4 rfl ?_
  refine j_iload_n d_La_result_5 rfl ?_
  refine j_iload_n d_La_result_6 rfl ?_
  obtain ⟨t1, H⟩ := H
  refine j_forget (L' := [none, none, none, none, none, none]) ⟨Or.inl rfl, Or.inl rfl, Or.inl rfl, Or.inl rfl, Or.inl rfl, Or.inl rfl, trivial⟩ ?_
  exact j_callVH (d' := 5) (ci := 9) (As := [.int p1, .int p2, .int p3]) (rest := [.int ((0 : Int32)), .ref a4]) (b := a0) rfl cv_La_63 me_St_result rfl (by decide) rfl rfl t1 rfl rfl (Nat.le_of_ble_eq_true rfl) d_La_result_7 (by decide) H
theorem wp_La_result_10 {E : EV} {G : GH} {Post : Res → GH → Prop} (u0 : Nat) (s1 : Int32) (s2 : Int32) (H : gT G u0 = 22 ∧ ∃ n3, IX s1 n3 (gN G u0) ∧ Post (.inl (some (.int ((0 : Int32))))) (sL G u0 n3 ((Int32.toInt64 s2)))) : J E 6 m_La_result 10 [none, none, none, none, none, none] [.int s2, .int s1, .ref u0] G Post := by
  refine j_i2l d_La_result_10 ?_
  obtain ⟨t1, H⟩ := H
  obtain ⟨n3, x2, H⟩ := H
  refine j_last (n := n3) t1 x2 d_La_result_11 ?_
  refine j_goto (tgt := 23) d_La_result_12 (by decide) ?_
  refine j_iconst (v := 0) d_La_result_23 (by decide) ?_
  exact j_iret rfl d_La_result_24 H
theorem wp_La_resultAnew_0 {E : EV} {G : GH} {Post : Res → GH → Prop} (a0 : Nat) (p1 : Int32) (p2 : Int32) (p3 : Int32) (a4 : Nat) (H : gT G a0 = 10 ∧ Cl E 7 m_St_resultAnew [.ref a0, .int p1, .int p2, .int p3] G (aftH E 8 m_La_resultAnew 7 [none, none, none, none, none, none] [.int ((0 : Int32)), .ref a4] Post)) : J E 8 m_La_resultAnew 0 [some (.ref a0), some (.int p1), some (.int p2), some (.int p3), some (.ref a4), none] [] G Post := by
  refine j_aload d_La_resultAnew_0 rfl ?_
  refine j_iconst (v := 0) d_La_resultAnew_2 (by decide) ?_
  refine j_aload_n d_La_resultAnew_3 rfl ?_
  refine j_iload_n d_La_resultAnew_4 rfl ?_
  refine j_iload_n d_La_resultAnew_5 rfl ?_
  refine j_iload_n d_La_resultAnew_6 rfl ?_
  obtain ⟨t1, H⟩ := H
  refine j_forget (L' := [none, none, none, none, none, none]) ⟨Or.inl rfl, Or.inl rfl, Or.inl rfl, Or.inl rfl, Or.inl rfl, Or.inl rfl, trivial⟩ ?_
  exact j_callVH (d' := 7) (ci := 9) (As := [.int p1, .int p2, .int p3]) (rest := [.int ((0 : Int32)), .ref a4]) (b := a0) rfl cv_La_67 me_St_resultAnew rfl (by decide) rfl rfl t1 rfl rfl (Nat.le_of_ble_eq_true rfl) d_La_resultAnew_7 (by decide) H
theorem wp_La_resultAnew_10 {E : EV} {G : GH} {Post : Res → GH → Prop} (u0 : Nat) (s1 : Int32) (s2 : Int32) (H : gT G u0 = 22 ∧ ∃ n3, IX s1 n3 (gN G u0) ∧ Post (.inl (some (.int ((0 : Int32))))) (sL G u0 n3 ((Int32.toInt64 s2)))) : J E 8 m_La_resultAnew 10 [none, none, none, none, none, none] [.int s2, .int s1, .ref u0] G Post := by
  refine j_i2l d_La_resultAnew_10 ?_
  obtain ⟨t1, H⟩ := H
  obtain ⟨n3, x2, H⟩ := H
  refine j_last (n := n3) t1 x2 d_La_resultAnew_11 ?_
  refine j_goto (tgt := 23) d_La_resultAnew_12 (by decide) ?_
  refine j_iconst (v := 0) d_La_resultAnew_23 (by decide) ?_
  exact j_iret rfl d_La_resultAnew_24 H
theorem wp_La_law_0 {E : EV} {G : GH} {Post : Res → GH → Prop} (a0 : Nat) (H : ∀ G1, G1 = al G 10 11 → Cl E 6 m_St_init [.ref ((gz G))] G1 (aft E 14 m_La_law 4 [some (.ref a0), none, none, none, none, none, none] [.ref ((gz G))] Post)) : J E 14 m_La_law 0 [some (.ref a0), none, none, none, none, none, none] [] G Post := by
  refine j_newT (n := 11) (t := 10) rfl ne_La_8 rfl (by decide) d_La_law_0 ?_
  show J E 14 m_La_law 3 [some (.ref a0), none, none, none, none, none, none] [.ref ((gz G))] (al G 10 11) Post
  generalize e2 : al G 10 11 = G1
  have e2 := e2.symm
  have H := H G1 e2
  refine j_dup d_La_law_3 rfl ?_
  exact j_callI (d' := 6) (As := []) (rest := [.ref ((gz G))]) (b := ((gz G))) ci_La_70 me_St_init rfl rfl (by decide) rfl rfl (Nat.le_of_ble_eq_true rfl) d_La_law_4 (by decide) rfl H
theorem wp_La_law_7 {E : EV} {G : GH} {Post : Res → GH → Prop} (a0 : Nat) (u0 : Nat) (H : ∀ G1, G1 = al G 11 58 → Cl E 1 m_Mo_init [.ref ((gz G))] G1 (aft E 14 m_La_law 12 [some (.ref a0), some (.ref u0), none, none, none, none, none] [.ref ((gz G))] Post)) : J E 14 m_La_law 7 [some (.ref a0), none, none, none, none, none, none] [.ref u0] G Post := by
  refine j_astore_n (x := (some u0)) (L' := [some (.ref a0), some (.ref u0), none, none, none, none, none]) rfl d_La_law_7 (by decide) rfl ?_
  refine j_newT (n := 58) (t := 11) rfl ne_La_71 rfl (by decide) d_La_law_8 ?_
  show J E 14 m_La_law 11 [some (.ref a0), some (.ref u0), none, none, none, none, none] [.ref ((gz G))] (al G 11 58) Post
  generalize e2 : al G 11 58 = G1
  have e2 := e2.symm
  have H := H G1 e2
  refine j_dup d_La_law_11 rfl ?_
  exact j_callI (d' := 1) (As := []) (rest := [.ref ((gz G))]) (b := ((gz G))) ci_La_73 me_Mo_init rfl rfl (by decide) rfl rfl (Nat.le_of_ble_eq_true rfl) d_La_law_12 (by decide) rfl H
theorem wp_La_law_15 {E : EV} {G : GH} {Post : Res → GH → Prop} (a0 : Nat) (a1 : Nat) (u0 : Nat) (H : ∀ G1, G1 = al G 22 1 → J E 14 m_La_law 23 [some (.ref a0), some (.ref a1), some (.ref u0), some (.ref ((gz G))), some (.int ((0 : Int32))), none, none] [] G1 Post) : J E 14 m_La_law 15 [some (.ref a0), some (.ref a1), none, none, none, none, none] [.ref u0] G Post := by
  refine j_astore_n (x := (some u0)) (L' := [some (.ref a0), some (.ref a1), some (.ref u0), none, none, none, none]) rfl d_La_law_15 (by decide) rfl ?_
  refine j_iconst (v := 1) d_La_law_16 (by decide) ?_
  refine j_newL (n := 1) (by decide) (by decide) (by decide) wa_long d_La_law_17 ?_
  show J E 14 m_La_law 19 [some (.ref a0), some (.ref a1), some (.ref u0), none, none, none, none] [.ref ((gz G))] (al G 22 1) Post
  generalize e2 : al G 22 1 = G1
  have e2 := e2.symm
  have H := H G1 e2
  refine j_astore_n (x := (some ((gz G)))) (L' := [some (.ref a0), some (.ref a1), some (.ref u0), some (.ref ((gz G))), none, none, none]) rfl d_La_law_19 (by decide) rfl ?_
  refine j_iconst (v := 0) d_La_law_20 (by decide) ?_
  refine j_istore (L' := [some (.ref a0), some (.ref a1), some (.ref u0), some (.ref ((gz G))), some (.int ((0 : Int32))), none, none]) d_La_law_21 (by decide) rfl ?_
  exact H
theorem wp_La_law_23 {E : EV} {G : GH} {Post : Res → GH → Prop} (a0 : Nat) (a1 : Nat) (a2 : Nat) (a3 : Nat) (p4 : Int32) (H : (20 ≤ gT G a0 ∧ gT G a0 ≤ 26) ∧ (((nI (gN G a0)) - (7 : Int32)) < p4 → Post (.inl (some (.int ((1 : Int32))))) G) ∧ (¬ ((nI (gN G a0)) - (7 : Int32)) < p4 → (gT G a0 = 20 ∨ gT G a0 = 25) ∧ ∃ n4, IX p4 n4 (gN G a0) ∧ (((gA G a0 n4) &&& (31 : Int32)) = 0 → ∃ n6, IX ((p4 + (1 : Int32))) n6 (gN G a0) ∧ ∃ n8, IX ((p4 + (2 : Int32))) n8 (gN G a0) ∧ ∃ n10, IX ((p4 + (3 : Int32))) n10 (gN G a0) ∧ ∃ n12, IX ((p4 + (4 : Int32))) n12 (gN G a0) ∧ ∃ n14, IX ((p4 + (5 : Int32))) n14 (gN G a0) ∧ ∃ n16, IX ((p4 + (6 : Int32))) n16 (gN G a0) ∧ ((gA G a0 n16) = 0 → Cl E 3 m_La_job [.ref a1, .int ((gA G a0 n6)), .int ((gA G a0 n8)), .int ((gA G a0 n10)), .int ((gA G a0 n12)), .int ((gA G a0 n14)), .int ((0 : Int32))] G (aft E 14 m_La_law 190 [some (.ref a0), some (.ref a1), some (.ref a2), some (.ref a3), some (.int p4), none, none] [] Post)) ∧ (¬ (gA G a0 n16) = 0 → Cl E 3 m_La_job [.ref a1, .int ((gA G a0 n6)), .int ((gA G a0 n8)), .int ((gA G a0 n10)), .int ((gA G a0 n12)), .int ((gA G a0 n14)), .int ((1 : Int32))] G (aft E 14 m_La_law 190 [some (.ref a0), some (.ref a1), some (.ref a2), some (.ref a3), some (.int p4), none, none] [] Post))) ∧ (((gA G a0 n4) &&& (31 : Int32)) = 1 → ∃ n21, IX ((p4 + (1 : Int32))) n21 (gN G a0) ∧ ∃ n23, IX ((p4 + (2 : Int32))) n23 (gN G a0) ∧ Cl E 3 m_La_slack [.ref a1, .int ((gA G a0 n21)), .int ((gA G a0 n23)), .ref a3] G (aft E 14 m_La_law 272 [some (.ref a0), some (.ref a1), some (.ref a2), some (.ref a3), some (.int p4), none, none] [] Post)) ∧ (((gA G a0 n4) &&& (31 : Int32)) = 2 → ∃ n26, IX ((p4 + (1 : Int32))) n26 (gN G a0) ∧ ∃ n28, IX ((p4 + (2 : Int32))) n28 (gN G a0) ∧ ∃ n30, IX ((p4 + (3 : Int32))) n30 (gN G a0) ∧ ∃ n32, IX ((p4 + (4 : Int32))) n32 (gN G a0) ∧ Cl E 8 m_La_append [.ref a1, .int ((gA G a0 n26)), .int ((gA G a0 n28)), .int ((gA G a0 n30)), .int ((gA G a0 n32)), .ref a3] G (aft E 14 m_La_law 352 [some (.ref a0), some (.ref a1), some (.ref a2), some (.ref a3), some (.int p4), none, none] [] Post)) ∧ (((gA G a0 n4) &&& (31 : Int32)) = 3 → ∃ n35, IX ((p4 + (1 : Int32))) n35 (gN G a0) ∧ Cl E 3 m_La_read [.ref a1, .int ((gA G a0 n35)), .ref a3] G (aft E 14 m_La_law 426 [some (.ref a0), some (.ref a1), some (.ref a2), some (.ref a3), some (.int p4), none, none] [] Post)) ∧ (((gA G a0 n4) &&& (31 : Int32)) = 4 → ∃ n38, IX ((p4 + (1 : Int32))) n38 (gN G a0) ∧ ∃ n40, IX ((p4 + (2 : Int32))) n40 (gN G a0) ∧ ((gA G a0 n40) = 0 → Cl E 11 m_La_idle [.ref a1, .int ((gA G a0 n38)), .int ((0 : Int32)), .ref a3] G (aft E 14 m_La_law 496 [some (.ref a0), some (.ref a1), some (.ref a2), some (.ref a3), some (.int p4), none, none] [] Post)) ∧ (¬ (gA G a0 n40) = 0 → Cl E 11 m_La_idle [.ref a1, .int ((gA G a0 n38)), .int ((1 : Int32)), .ref a3] G (aft E 14 m_La_law 496 [some (.ref a0), some (.ref a1), some (.ref a2), some (.ref a3), some (.int p4), none, none] [] Post))) ∧ (((gA G a0 n4) &&& (31 : Int32)) = 5 → ∃ n45, IX ((p4 + (1 : Int32))) n45 (gN G a0) ∧ Cl E 13 m_La_take [.ref a1, .int ((gA G a0 n45)), .ref a3] G (aft E 14 m_La_law 573 [some (.ref a0), some (.ref a1), some (.ref a2), some (.ref a3), some (.int p4), none, none] [] Post)) ∧ (((gA G a0 n4) &&& (31 : Int32)) = 6 → Cl E 11 m_La_barrier [.ref a1, .ref a3] G (aft E 14 m_La_law 623 [some (.ref a0), some (.ref a1), some (.ref a2), some (.ref a3), some (.int p4), none, none] [] Post)) ∧ (((gA G a0 n4) &&& (31 : Int32)) = 7 → Cl E 3 m_La_confirm [.ref a1, .ref a3] G (aft E 14 m_La_law 667 [some (.ref a0), some (.ref a1), some (.ref a2), some (.ref a3), some (.int p4), none, none] [] Post)) ∧ (((gA G a0 n4) &&& (31 : Int32)) = 8 → gT G a1 = 10 ∧ Cl E 11 m_St_fail [.ref a1] G (aft E 14 m_La_law 710 [some (.ref a0), some (.ref a1), some (.ref a2), some (.ref a3), some (.int p4), none, none] [] Post)) ∧ (((gA G a0 n4) &&& (31 : Int32)) = 9 → ∃ n52, IX ((p4 + (1 : Int32))) n52 (gN G a0) ∧ Cl E 12 m_La_workers [.ref a1, .int ((gA G a0 n52)), .ref a3] G (aft E 14 m_La_law 730 [some (.ref a0), some (.ref a1), some (.ref a2), some (.ref a3), some (.int p4), none, none] [] Post)) ∧ (((gA G a0 n4) &&& (31 : Int32)) = 10 → gT G a1 = 10 ∧ ∃ b55, gR G 578 a1 = some b55 ∧ gT G b55 = 5 ∧ gT G a2 = 11 ∧ ((gI G 259 b55) = (gI G 658 a2) → J E 14 m_La_law 23 [some (.ref a0), some (.ref a1), some (.ref a2), some (.ref a3), some (.int ((p4 + (7 : Int32)))), none, none] [] (sI G 640 a2 ((0 : Int32))) Post) ∧ (¬ (gI G 259 b55) = (gI G 658 a2) → Post (.inl (some (.int ((0 : Int32))))) (sI G 640 a2 ((0 : Int32))))) ∧ (((gA G a0 n4) &&& (31 : Int32)) = 11 → ∃ n63, IX ((p4 + (1 : Int32))) n63 (gN G a0) ∧ Cl E 3 m_La_sourceWatermark [.ref a1, .int ((gA G a0 n63)), .ref a3] G (aft E 14 m_La_law 799 [some (.ref a0), some (.ref a1), some (.ref a2), some (.ref a3), some (.int p4), none, none] [] Post)) ∧ (((gA G a0 n4) &&& (31 : Int32)) = 12 → ∃ n66, IX ((p4 + (1 : Int32))) n66 (gN G a0) ∧ Cl E 3 m_La_offset [.ref a1, .int ((gA G a0 n66)), .ref a3] G (aft E 14 m_La_law 855 [some (.ref a0), some (.ref a1), some (.ref a2), some (.ref a3), some (.int p4), none, none] [] Post)) ∧ (((gA G a0 n4) &&& (31 : Int32)) = 13 → ∃ n69, IX ((p4 + (1 : Int32))) n69 (gN G a0) ∧ Cl E 3 m_La_inChannel [.ref a1, .int ((gA G a0 n69)), .ref a3] G (aft E 14 m_La_law 911 [some (.ref a0), some (.ref a1), some (.ref a2), some (.ref a3), some (.int p4), none, none] [] Post)) ∧ (((gA G a0 n4) &&& (31 : Int32)) = 14 → ∃ n72, IX ((p4 + (1 : Int32))) n72 (gN G a0) ∧ Cl E 5 m_La_open [.ref a1, .int ((gA G a0 n72)), .ref a3] G (aft E 14 m_La_law 967 [some (.ref a0), some (.ref a1), some (.ref a2), some (.ref a3), some (.int p4), none, none] [] Post)) ∧ (((gA G a0 n4) &&& (31 : Int32)) = 15 → ∃ n75, IX ((p4 + (1 : Int32))) n75 (gN G a0) ∧ ∃ n77, IX ((p4 + (2 : Int32))) n77 (gN G a0) ∧ Cl E 5 m_La_sumAt [.ref a1, .int ((gA G a0 n75)), .int ((gA G a0 n77)), .ref a3] G (aft E 14 m_La_law 1029 [some (.ref a0), some (.ref a1), some (.ref a2), some (.ref a3), some (.int p4), none, none] [] Post)) ∧ (((gA G a0 n4) &&& (31 : Int32)) = 16 → gT G a1 = 10 ∧ ∃ b80, gR G 578 a1 = some b80 ∧ gT G b80 = 5 ∧ gT G a2 = 11 ∧ ((gI G 261 b80) = (gI G 659 a2) → J E 14 m_La_law 23 [some (.ref a0), some (.ref a1), some (.ref a2), some (.ref a3), some (.int ((p4 + (7 : Int32)))), none, none] [] (sI G 640 a2 ((0 : Int32))) Post) ∧ (¬ (gI G 261 b80) = (gI G 659 a2) → Post (.inl (some (.int ((0 : Int32))))) (sI G 640 a2 ((0 : Int32))))) ∧ (((gA G a0 n4) &&& (31 : Int32)) = 17 → gT G a1 = 10 ∧ ∃ b88, gR G 578 a1 = some b88 ∧ gT G b88 = 5 ∧ gT G a2 = 11 ∧ Cl E 2 m_Mo_pairs [.ref a2] G (aft E 14 m_La_law 1101 [some (.ref a0), some (.ref a1), some (.ref a2), some (.ref a3), some (.int p4), none, none] [.int ((gI G 262 b88))] Post)) ∧ (((gA G a0 n4) &&& (31 : Int32)) = 18 → gT G a1 = 10 ∧ Cl E 5 m_St_pairsAnew [.ref a1] G (aft E 14 m_La_law 1110 [some (.ref a0), some (.ref a1), some (.ref a2), some (.ref a3), some (.int p4), none, none] [] Post)) ∧ (((gA G a0 n4) &&& (31 : Int32)) = 19 → gT G a1 = 10 ∧ ∃ b96, gR G 581 a1 = some b96 ∧ gT G b96 = 6 ∧ gT G a2 = 11 ∧ (((gI G 323 b96) - (gI G 321 b96)) = ((gI G 680 a2) - (gI G 682 a2)) → J E 14 m_La_law 23 [some (.ref a0), some (.ref a1), some (.ref a2), some (.ref a3), some (.int ((p4 + (7 : Int32)))), none, none] [] (sI G 640 a2 ((0 : Int32))) Post) ∧ (¬ ((gI G 323 b96) - (gI G 321 b96)) = ((gI G 680 a2) - (gI G 682 a2)) → Post (.inl (some (.int ((0 : Int32))))) (sI G 640 a2 ((0 : Int32))))) ∧ (((gA G a0 n4) &&& (31 : Int32)) = 20 → ∃ n104, IX ((p4 + (1 : Int32))) n104 (gN G a0) ∧ ∃ n106, IX ((p4 + (2 : Int32))) n106 (gN G a0) ∧ ∃ n108, IX ((p4 + (3 : Int32))) n108 (gN G a0) ∧ Cl E 6 m_La_result [.ref a1, .int ((gA G a0 n104)), .int ((gA G a0 n106)), .int ((gA G a0 n108)), .ref a3] G (aft E 14 m_La_law 1155 [some (.ref a0), some (.ref a1), some (.ref a2), some (.ref a3), some (.int p4), none, none] [] Post)) ∧ (((gA G a0 n4) &&& (31 : Int32)) = 21 → ∃ n111, IX ((p4 + (1 : Int32))) n111 (gN G a0) ∧ ∃ n113, IX ((p4 + (2 : Int32))) n113 (gN G a0) ∧ ∃ n115, IX ((p4 + (3 : Int32))) n115 (gN G a0) ∧ Cl E 8 m_La_resultAnew [.ref a1, .int ((gA G a0 n111)), .int ((gA G a0 n113)), .int ((gA G a0 n115)), .ref a3] G (aft E 14 m_La_law 1235 [some (.ref a0), some (.ref a1), some (.ref a2), some (.ref a3), some (.int p4), none, none] [] Post)) ∧ ((¬ ((gA G a0 n4) &&& (31 : Int32)) = 0 ∧ ¬ ((gA G a0 n4) &&& (31 : Int32)) = 1 ∧ ¬ ((gA G a0 n4) &&& (31 : Int32)) = 2 ∧ ¬ ((gA G a0 n4) &&& (31 : Int32)) = 3 ∧ ¬ ((gA G a0 n4) &&& (31 : Int32)) = 4 ∧ ¬ ((gA G a0 n4) &&& (31 : Int32)) = 5 ∧ ¬ ((gA G a0 n4) &&& (31 : Int32)) = 6 ∧ ¬ ((gA G a0 n4) &&& (31 : Int32)) = 7 ∧ ¬ ((gA G a0 n4) &&& (31 : Int32)) = 8 ∧ ¬ ((gA G a0 n4) &&& (31 : Int32)) = 9 ∧ ¬ ((gA G a0 n4) &&& (31 : Int32)) = 10 ∧ ¬ ((gA G a0 n4) &&& (31 : Int32)) = 11 ∧ ¬ ((gA G a0 n4) &&& (31 : Int32)) = 12 ∧ ¬ ((gA G a0 n4) &&& (31 : Int32)) = 13 ∧ ¬ ((gA G a0 n4) &&& (31 : Int32)) = 14 ∧ ¬ ((gA G a0 n4) &&& (31 : Int32)) = 15 ∧ ¬ ((gA G a0 n4) &&& (31 : Int32)) = 16 ∧ ¬ ((gA G a0 n4) &&& (31 : Int32)) = 17 ∧ ¬ ((gA G a0 n4) &&& (31 : Int32)) = 18 ∧ ¬ ((gA G a0 n4) &&& (31 : Int32)) = 19 ∧ ¬ ((gA G a0 n4) &&& (31 : Int32)) = 20 ∧ ¬ ((gA G a0 n4) &&& (31 : Int32)) = 21) → (Int32.toInt (((gA G a0 n4) &&& (31 : Int32))) < 0 ∨ 21 < Int32.toInt (((gA G a0 n4) &&& (31 : Int32)))) ∧ J E 14 m_La_law 23 [some (.ref a0), some (.ref a1), some (.ref a2), some (.ref a3), some (.int ((p4 + (7 : Int32)))), none, none] [] G Post))) : J E 14 m_La_law 23 [some (.ref a0), some (.ref a1), some (.ref a2), some (.ref a3), some (.int p4), none, none] [] G Post := by
  refine j_iload d_La_law_23 rfl ?_
  refine j_aload_n d_La_law_25 rfl ?_
  obtain ⟨t1, H⟩ := H
  refine j_alen t1 d_La_law_26 ?_
  refine j_bipush (v := 7) d_La_law_27 (by decide) ?_
  refine j_isub d_La_law_29 ?_
  obtain ⟨Ha, Hb⟩ := H
  refine j_icmp_gt (tgt := 1301) d_La_law_30 (by decide) (fun c118 => ?_) (fun c119 => ?_)
  · have H := Ha c118
    refine j_iconst (v := 1) d_La_law_1301 (by decide) ?_
    exact j_zret rfl (by decide) d_La_law_1302 H
  · have H := Hb c119
    refine j_aload_n d_La_law_33 rfl ?_
    refine j_iload d_La_law_34 rfl ?_
    obtain ⟨t2, H⟩ := H
    obtain ⟨n4, x3, H⟩ := H
    refine j_iald (n := n4) t2 x3 d_La_law_36 ?_
    refine j_bipush (v := 31) d_La_law_37 (by decide) ?_
    refine j_iand d_La_law_39 ?_
    obtain ⟨H0, H1, H2, H3, H4, H5, H6, H7, H8, H9, H10, H11, H12, H13, H14, H15, H16, H17, H18, H19, H20, H21, Hd⟩ := H
    by_cases c19 : ((gA G a0 n4) &&& (31 : Int32)) = 0
    · have H := H0 c19
      rw [c19]
      refine j_tableIn (off := 104) (tgt := 144) d_La_law_40 (by decide) (by decide) (by decide) (by decide) ?_
      refine j_aload_n d_La_law_144 rfl ?_
      refine j_aload_n d_La_law_145 rfl ?_
      refine j_iload d_La_law_146 rfl ?_
      refine j_iconst (v := 1) d_La_law_148 (by decide) ?_
      refine j_iadd d_La_law_149 ?_
      obtain ⟨n6, x5, H⟩ := H
      refine j_iald (n := n6) t2 x5 d_La_law_150 ?_
      refine j_aload_n d_La_law_151 rfl ?_
      refine j_iload d_La_law_152 rfl ?_
      refine j_iconst (v := 2) d_La_law_154 (by decide) ?_
      refine j_iadd d_La_law_155 ?_
      obtain ⟨n8, x7, H⟩ := H
      refine j_iald (n := n8) t2 x7 d_La_law_156 ?_
      refine j_aload_n d_La_law_157 rfl ?_
      refine j_iload d_La_law_158 rfl ?_
      refine j_iconst (v := 3) d_La_law_160 (by decide) ?_
      refine j_iadd d_La_law_161 ?_
      obtain ⟨n10, x9, H⟩ := H
      refine j_iald (n := n10) t2 x9 d_La_law_162 ?_
      refine j_aload_n d_La_law_163 rfl ?_
      refine j_iload d_La_law_164 rfl ?_
      refine j_iconst (v := 4) d_La_law_166 (by decide) ?_
      refine j_iadd d_La_law_167 ?_
      obtain ⟨n12, x11, H⟩ := H
      refine j_iald (n := n12) t2 x11 d_La_law_168 ?_
      refine j_aload_n d_La_law_169 rfl ?_
      refine j_iload d_La_law_170 rfl ?_
      refine j_iconst (v := 5) d_La_law_172 (by decide) ?_
      refine j_iadd d_La_law_173 ?_
      obtain ⟨n14, x13, H⟩ := H
      refine j_iald (n := n14) t2 x13 d_La_law_174 ?_
      refine j_aload_n d_La_law_175 rfl ?_
      refine j_iload d_La_law_176 rfl ?_
      refine j_bipush (v := 6) d_La_law_178 (by decide) ?_
      refine j_iadd d_La_law_180 ?_
      obtain ⟨n16, x15, H⟩ := H
      refine j_iald (n := n16) t2 x15 d_La_law_181 ?_
      obtain ⟨Ha, Hb⟩ := H
      refine j_if_eq (tgt := 189) d_La_law_182 (by decide) (fun c17 => ?_) (fun c18 => ?_)
      · have H := Ha c17
        refine j_iconst (v := 0) d_La_law_189 (by decide) ?_
        exact j_callSX (d' := 3) (As := [.ref a1, .int ((gA G a0 n6)), .int ((gA G a0 n8)), .int ((gA G a0 n10)), .int ((gA G a0 n12)), .int ((gA G a0 n14)), .int ((0 : Int32))]) (rest := []) cs_La_74 me_La_job ⟨_, _, rfl⟩ (by decide) rfl rfl (Nat.le_of_ble_eq_true rfl) d_La_law_190 (by decide) rfl H
      · have H := Hb c18
        refine j_iconst (v := 1) d_La_law_185 (by decide) ?_
        refine j_goto (tgt := 190) d_La_law_186 (by decide) ?_
        exact j_callSX (d' := 3) (As := [.ref a1, .int ((gA G a0 n6)), .int ((gA G a0 n8)), .int ((gA G a0 n10)), .int ((gA G a0 n12)), .int ((gA G a0 n14)), .int ((1 : Int32))]) (rest := []) cs_La_74 me_La_job ⟨_, _, rfl⟩ (by decide) rfl rfl (Nat.le_of_ble_eq_true rfl) d_La_law_190 (by decide) rfl H
    by_cases c24 : ((gA G a0 n4) &&& (31 : Int32)) = 1
    · have H := H1 c24
      rw [c24]
      refine j_tableIn (off := 218) (tgt := 258) d_La_law_40 (by decide) (by decide) (by decide) (by decide) ?_
      refine j_aload_n d_La_law_258 rfl ?_
      refine j_aload_n d_La_law_259 rfl ?_
      refine j_iload d_La_law_260 rfl ?_
      refine j_iconst (v := 1) d_La_law_262 (by decide) ?_
      refine j_iadd d_La_law_263 ?_
      obtain ⟨n21, x20, H⟩ := H
      refine j_iald (n := n21) t2 x20 d_La_law_264 ?_
      refine j_aload_n d_La_law_265 rfl ?_
      refine j_iload d_La_law_266 rfl ?_
      refine j_iconst (v := 2) d_La_law_268 (by decide) ?_
      refine j_iadd d_La_law_269 ?_
      obtain ⟨n23, x22, H⟩ := H
      refine j_iald (n := n23) t2 x22 d_La_law_270 ?_
      refine j_aload_n d_La_law_271 rfl ?_
      exact j_callSX (d' := 3) (As := [.ref a1, .int ((gA G a0 n21)), .int ((gA G a0 n23)), .ref a3]) (rest := []) cs_La_83 me_La_slack ⟨_, _, rfl⟩ (by decide) rfl rfl (Nat.le_of_ble_eq_true rfl) d_La_law_272 (by decide) rfl H
    by_cases c33 : ((gA G a0 n4) &&& (31 : Int32)) = 2
    · have H := H2 c33
      rw [c33]
      refine j_tableIn (off := 286) (tgt := 326) d_La_law_40 (by decide) (by decide) (by decide) (by decide) ?_
      refine j_aload_n d_La_law_326 rfl ?_
      refine j_aload_n d_La_law_327 rfl ?_
      refine j_iload d_La_law_328 rfl ?_
      refine j_iconst (v := 1) d_La_law_330 (by decide) ?_
      refine j_iadd d_La_law_331 ?_
      obtain ⟨n26, x25, H⟩ := H
      refine j_iald (n := n26) t2 x25 d_La_law_332 ?_
      refine j_aload_n d_La_law_333 rfl ?_
      refine j_iload d_La_law_334 rfl ?_
      refine j_iconst (v := 2) d_La_law_336 (by decide) ?_
      refine j_iadd d_La_law_337 ?_
      obtain ⟨n28, x27, H⟩ := H
      refine j_iald (n := n28) t2 x27 d_La_law_338 ?_
      refine j_aload_n d_La_law_339 rfl ?_
      refine j_iload d_La_law_340 rfl ?_
      refine j_iconst (v := 3) d_La_law_342 (by decide) ?_
      refine j_iadd d_La_law_343 ?_
      obtain ⟨n30, x29, H⟩ := H
      refine j_iald (n := n30) t2 x29 d_La_law_344 ?_
      refine j_aload_n d_La_law_345 rfl ?_
      refine j_iload d_La_law_346 rfl ?_
      refine j_iconst (v := 4) d_La_law_348 (by decide) ?_
      refine j_iadd d_La_law_349 ?_
      obtain ⟨n32, x31, H⟩ := H
      refine j_iald (n := n32) t2 x31 d_La_law_350 ?_
      refine j_aload_n d_La_law_351 rfl ?_
      exact j_callSX (d' := 8) (As := [.ref a1, .int ((gA G a0 n26)), .int ((gA G a0 n28)), .int ((gA G a0 n30)), .int ((gA G a0 n32)), .ref a3]) (rest := []) cs_La_87 me_La_append ⟨_, _, rfl⟩ (by decide) rfl rfl (Nat.le_of_ble_eq_true rfl) d_La_law_352 (by decide) rfl H
    by_cases c36 : ((gA G a0 n4) &&& (31 : Int32)) = 3
    · have H := H3 c36
      rw [c36]
      refine j_tableIn (off := 378) (tgt := 418) d_La_law_40 (by decide) (by decide) (by decide) (by decide) ?_
      refine j_aload_n d_La_law_418 rfl ?_
      refine j_aload_n d_La_law_419 rfl ?_
      refine j_iload d_La_law_420 rfl ?_
      refine j_iconst (v := 1) d_La_law_422 (by decide) ?_
      refine j_iadd d_La_law_423 ?_
      obtain ⟨n35, x34, H⟩ := H
      refine j_iald (n := n35) t2 x34 d_La_law_424 ?_
      refine j_aload_n d_La_law_425 rfl ?_
      exact j_callSX (d' := 3) (As := [.ref a1, .int ((gA G a0 n35)), .ref a3]) (rest := []) cs_La_91 me_La_read ⟨_, _, rfl⟩ (by decide) rfl rfl (Nat.le_of_ble_eq_true rfl) d_La_law_426 (by decide) rfl H
    by_cases c43 : ((gA G a0 n4) &&& (31 : Int32)) = 4
    · have H := H4 c43
      rw [c43]
      refine j_tableIn (off := 434) (tgt := 474) d_La_law_40 (by decide) (by decide) (by decide) (by decide) ?_
      refine j_aload_n d_La_law_474 rfl ?_
      refine j_aload_n d_La_law_475 rfl ?_
      refine j_iload d_La_law_476 rfl ?_
      refine j_iconst (v := 1) d_La_law_478 (by decide) ?_
      refine j_iadd d_La_law_479 ?_
      obtain ⟨n38, x37, H⟩ := H
      refine j_iald (n := n38) t2 x37 d_La_law_480 ?_
      refine j_aload_n d_La_law_481 rfl ?_
      refine j_iload d_La_law_482 rfl ?_
      refine j_iconst (v := 2) d_La_law_484 (by decide) ?_
      refine j_iadd d_La_law_485 ?_
      obtain ⟨n40, x39, H⟩ := H
      refine j_iald (n := n40) t2 x39 d_La_law_486 ?_
      obtain ⟨Ha, Hb⟩ := H
      refine j_if_eq (tgt := 494) d_La_law_487 (by decide) (fun c41 => ?_) (fun c42 => ?_)
      · have H := Ha c41
        refine j_iconst (v := 0) d_La_law_494 (by decide) ?_
        refine j_aload_n d_La_law_495 rfl ?_
        exact j_callSX (d' := 11) (As := [.ref a1, .int ((gA G a0 n38)), .int ((0 : Int32)), .ref a3]) (rest := []) cs_La_95 me_La_idle ⟨_, _, rfl⟩ (by decide) rfl rfl (Nat.le_of_ble_eq_true rfl) d_La_law_496 (by decide) rfl H
      · have H := Hb c42
        refine j_iconst (v := 1) d_La_law_490 (by decide) ?_
        refine j_goto (tgt := 495) d_La_law_491 (by decide) ?_
        refine j_aload_n d_La_law_495 rfl ?_
        exact j_callSX (d' := 11) (As := [.ref a1, .int ((gA G a0 n38)), .int ((1 : Int32)), .ref a3]) (rest := []) cs_La_95 me_La_idle ⟨_, _, rfl⟩ (by decide) rfl rfl (Nat.le_of_ble_eq_true rfl) d_La_law_496 (by decide) rfl H
    by_cases c46 : ((gA G a0 n4) &&& (31 : Int32)) = 5
    · have H := H5 c46
      rw [c46]
      refine j_tableIn (off := 525) (tgt := 565) d_La_law_40 (by decide) (by decide) (by decide) (by decide) ?_
      refine j_aload_n d_La_law_565 rfl ?_
      refine j_aload_n d_La_law_566 rfl ?_
      refine j_iload d_La_law_567 rfl ?_
      refine j_iconst (v := 1) d_La_law_569 (by decide) ?_
      refine j_iadd d_La_law_570 ?_
      obtain ⟨n45, x44, H⟩ := H
      refine j_iald (n := n45) t2 x44 d_La_law_571 ?_
      refine j_aload_n d_La_law_572 rfl ?_
      exact j_callSX (d' := 13) (As := [.ref a1, .int ((gA G a0 n45)), .ref a3]) (rest := []) cs_La_99 me_La_take ⟨_, _, rfl⟩ (by decide) rfl rfl (Nat.le_of_ble_eq_true rfl) d_La_law_573 (by decide) rfl H
    by_cases c47 : ((gA G a0 n4) &&& (31 : Int32)) = 6
    · have H := H6 c47
      rw [c47]
      refine j_tableIn (off := 581) (tgt := 621) d_La_law_40 (by decide) (by decide) (by decide) (by decide) ?_
      refine j_aload_n d_La_law_621 rfl ?_
      refine j_aload_n d_La_law_622 rfl ?_
      exact j_callSX (d' := 11) (As := [.ref a1, .ref a3]) (rest := []) cs_La_102 me_La_barrier ⟨_, _, rfl⟩ (by decide) rfl rfl (Nat.le_of_ble_eq_true rfl) d_La_law_623 (by decide) rfl H
    by_cases c48 : ((gA G a0 n4) &&& (31 : Int32)) = 7
    · have H := H7 c48
      rw [c48]
      refine j_tableIn (off := 625) (tgt := 665) d_La_law_40 (by decide) (by decide) (by decide) (by decide) ?_
      refine j_aload_n d_La_law_665 rfl ?_
      refine j_aload_n d_La_law_666 rfl ?_
      exact j_callSX (d' := 3) (As := [.ref a1, .ref a3]) (rest := []) cs_La_106 me_La_confirm ⟨_, _, rfl⟩ (by decide) rfl rfl (Nat.le_of_ble_eq_true rfl) d_La_law_667 (by decide) rfl H
    by_cases c50 : ((gA G a0 n4) &&& (31 : Int32)) = 8
    · have H := H8 c50
      rw [c50]
      refine j_tableIn (off := 669) (tgt := 709) d_La_law_40 (by decide) (by decide) (by decide) (by decide) ?_
      refine j_aload_n d_La_law_709 rfl ?_
      obtain ⟨t49, H⟩ := H
      exact j_callV (d' := 11) (ci := 9) (As := []) (rest := []) (b := a1) cv_La_109 me_St_fail rfl (by decide) rfl rfl t49 rfl rfl (Nat.le_of_ble_eq_true rfl) d_La_law_710 (by decide) rfl H
    by_cases c53 : ((gA G a0 n4) &&& (31 : Int32)) = 9
    · have H := H9 c53
      rw [c53]
      refine j_tableIn (off := 682) (tgt := 722) d_La_law_40 (by decide) (by decide) (by decide) (by decide) ?_
      refine j_aload_n d_La_law_722 rfl ?_
      refine j_aload_n d_La_law_723 rfl ?_
      refine j_iload d_La_law_724 rfl ?_
      refine j_iconst (v := 1) d_La_law_726 (by decide) ?_
      refine j_iadd d_La_law_727 ?_
      obtain ⟨n52, x51, H⟩ := H
      refine j_iald (n := n52) t2 x51 d_La_law_728 ?_
      refine j_aload_n d_La_law_729 rfl ?_
      exact j_callSX (d' := 12) (As := [.ref a1, .int ((gA G a0 n52)), .ref a3]) (rest := []) cs_La_113 me_La_workers ⟨_, _, rfl⟩ (by decide) rfl rfl (Nat.le_of_ble_eq_true rfl) d_La_law_730 (by decide) rfl H
    by_cases c61 : ((gA G a0 n4) &&& (31 : Int32)) = 10
    · have H := H10 c61
      rw [c61]
      refine j_tableIn (off := 738) (tgt := 778) d_La_law_40 (by decide) (by decide) (by decide) (by decide) ?_
      refine j_aload_n d_La_law_778 rfl ?_
      obtain ⟨t54, H⟩ := H
      refine j_callV (d' := 1) (ci := 9) (As := []) (rest := []) (b := a1) cv_La_116 me_St_watermark rfl (by decide) rfl rfl t54 rfl rfl (Nat.le_of_ble_eq_true rfl) d_La_law_779 (by decide) rfl (j_enter (L := [some (.ref a1)]) me_St_watermark (cat_c rfl cat_n) (Nat.le_of_ble_eq_true rfl) rfl ?_)
      refine j_aload_n d_St_watermark_0 rfl ?_
      obtain ⟨b55, e56, H⟩ := H
      refine j_getR (f := 578) (b := b55) fe_St_26 rfl rfl t54 e56 d_St_watermark_1 ?_
      obtain ⟨t57, H⟩ := H
      refine j_getI (f := 259) fe_St_216 rfl rfl t57 d_St_watermark_4 ?_
      refine j_iret rfl d_St_watermark_7 ?_
      show J E 14 m_La_law 782 [some (.ref a0), some (.ref a1), some (.ref a2), some (.ref a3), some (.int p4), none, none] [.int ((gI G 259 b55))] G Post
      refine j_aload_n d_La_law_782 rfl ?_
      obtain ⟨t58, H⟩ := H
      refine j_callV (d' := 1) (ci := 10) (As := []) (rest := [.int ((gI G 259 b55))]) (b := a2) cv_La_119 me_Mo_watermark rfl (by decide) rfl rfl t58 rfl rfl (Nat.le_of_ble_eq_true rfl) d_La_law_783 (by decide) rfl (j_enter (L := [some (.ref a2)]) me_Mo_watermark (cat_c rfl cat_n) (Nat.le_of_ble_eq_true rfl) rfl ?_)
      refine j_aload_n d_Mo_watermark_0 rfl ?_
      refine j_iconst (v := 0) d_Mo_watermark_1 (by decide) ?_
      refine j_putI (f := 640) fw_Mo_139 rfl rfl t58 d_Mo_watermark_2 ?_
      refine j_aload_n d_Mo_watermark_5 rfl ?_
      refine j_getI (f := 658) fe_Mo_58 rfl rfl t58 d_Mo_watermark_6 ?_
      refine j_iret rfl d_Mo_watermark_9 ?_
      show J E 14 m_La_law 786 [some (.ref a0), some (.ref a1), some (.ref a2), some (.ref a3), some (.int p4), none, none] [.int ((gI G 658 a2)), .int ((gI G 259 b55))] (sI G 640 a2 ((0 : Int32))) Post
      obtain ⟨Ha, Hb⟩ := H
      refine j_icmp_eq (tgt := 1295) d_La_law_786 (by decide) (fun c59 => ?_) (fun c60 => ?_)
      · have H := Ha c59
        refine j_iinc (v := (p4 + (7 : Int32))) (L' := [some (.ref a0), some (.ref a1), some (.ref a2), some (.ref a3), some (.int ((p4 + (7 : Int32)))), none, none]) d_La_law_1295 rfl (by rw [show Int32.ofInt (7) = (7 : Int32) by decide]) (by decide) rfl ?_
        refine j_goto (tgt := 23) d_La_law_1298 (by decide) ?_
        exact H
      · have H := Hb c60
        refine j_iconst (v := 0) d_La_law_789 (by decide) ?_
        exact j_zret rfl (by decide) d_La_law_790 H
    by_cases c64 : ((gA G a0 n4) &&& (31 : Int32)) = 11
    · have H := H11 c64
      rw [c64]
      refine j_tableIn (off := 751) (tgt := 791) d_La_law_40 (by decide) (by decide) (by decide) (by decide) ?_
      refine j_aload_n d_La_law_791 rfl ?_
      refine j_aload_n d_La_law_792 rfl ?_
      refine j_iload d_La_law_793 rfl ?_
      refine j_iconst (v := 1) d_La_law_795 (by decide) ?_
      refine j_iadd d_La_law_796 ?_
      obtain ⟨n63, x62, H⟩ := H
      refine j_iald (n := n63) t2 x62 d_La_law_797 ?_
      refine j_aload_n d_La_law_798 rfl ?_
      exact j_callSX (d' := 3) (As := [.ref a1, .int ((gA G a0 n63)), .ref a3]) (rest := []) cs_La_120 me_La_sourceWatermark ⟨_, _, rfl⟩ (by decide) rfl rfl (Nat.le_of_ble_eq_true rfl) d_La_law_799 (by decide) rfl H
    by_cases c67 : ((gA G a0 n4) &&& (31 : Int32)) = 12
    · have H := H12 c67
      rw [c67]
      refine j_tableIn (off := 807) (tgt := 847) d_La_law_40 (by decide) (by decide) (by decide) (by decide) ?_
      refine j_aload_n d_La_law_847 rfl ?_
      refine j_aload_n d_La_law_848 rfl ?_
      refine j_iload d_La_law_849 rfl ?_
      refine j_iconst (v := 1) d_La_law_851 (by decide) ?_
      refine j_iadd d_La_law_852 ?_
      obtain ⟨n66, x65, H⟩ := H
      refine j_iald (n := n66) t2 x65 d_La_law_853 ?_
      refine j_aload_n d_La_law_854 rfl ?_
      exact j_callSX (d' := 3) (As := [.ref a1, .int ((gA G a0 n66)), .ref a3]) (rest := []) cs_La_123 me_La_offset ⟨_, _, rfl⟩ (by decide) rfl rfl (Nat.le_of_ble_eq_true rfl) d_La_law_855 (by decide) rfl H
    by_cases c70 : ((gA G a0 n4) &&& (31 : Int32)) = 13
    · have H := H13 c70
      rw [c70]
      refine j_tableIn (off := 863) (tgt := 903) d_La_law_40 (by decide) (by decide) (by decide) (by decide) ?_
      refine j_aload_n d_La_law_903 rfl ?_
      refine j_aload_n d_La_law_904 rfl ?_
      refine j_iload d_La_law_905 rfl ?_
      refine j_iconst (v := 1) d_La_law_907 (by decide) ?_
      refine j_iadd d_La_law_908 ?_
      obtain ⟨n69, x68, H⟩ := H
      refine j_iald (n := n69) t2 x68 d_La_law_909 ?_
      refine j_aload_n d_La_law_910 rfl ?_
      exact j_callSX (d' := 3) (As := [.ref a1, .int ((gA G a0 n69)), .ref a3]) (rest := []) cs_La_126 me_La_inChannel ⟨_, _, rfl⟩ (by decide) rfl rfl (Nat.le_of_ble_eq_true rfl) d_La_law_911 (by decide) rfl H
    by_cases c73 : ((gA G a0 n4) &&& (31 : Int32)) = 14
    · have H := H14 c73
      rw [c73]
      refine j_tableIn (off := 919) (tgt := 959) d_La_law_40 (by decide) (by decide) (by decide) (by decide) ?_
      refine j_aload_n d_La_law_959 rfl ?_
      refine j_aload_n d_La_law_960 rfl ?_
      refine j_iload d_La_law_961 rfl ?_
      refine j_iconst (v := 1) d_La_law_963 (by decide) ?_
      refine j_iadd d_La_law_964 ?_
      obtain ⟨n72, x71, H⟩ := H
      refine j_iald (n := n72) t2 x71 d_La_law_965 ?_
      refine j_aload_n d_La_law_966 rfl ?_
      exact j_callSX (d' := 5) (As := [.ref a1, .int ((gA G a0 n72)), .ref a3]) (rest := []) cs_La_129 me_La_open ⟨_, _, rfl⟩ (by decide) rfl rfl (Nat.le_of_ble_eq_true rfl) d_La_law_967 (by decide) rfl H
    by_cases c78 : ((gA G a0 n4) &&& (31 : Int32)) = 15
    · have H := H15 c78
      rw [c78]
      refine j_tableIn (off := 975) (tgt := 1015) d_La_law_40 (by decide) (by decide) (by decide) (by decide) ?_
      refine j_aload_n d_La_law_1015 rfl ?_
      refine j_aload_n d_La_law_1016 rfl ?_
      refine j_iload d_La_law_1017 rfl ?_
      refine j_iconst (v := 1) d_La_law_1019 (by decide) ?_
      refine j_iadd d_La_law_1020 ?_
      obtain ⟨n75, x74, H⟩ := H
      refine j_iald (n := n75) t2 x74 d_La_law_1021 ?_
      refine j_aload_n d_La_law_1022 rfl ?_
      refine j_iload d_La_law_1023 rfl ?_
      refine j_iconst (v := 2) d_La_law_1025 (by decide) ?_
      refine j_iadd d_La_law_1026 ?_
      obtain ⟨n77, x76, H⟩ := H
      refine j_iald (n := n77) t2 x76 d_La_law_1027 ?_
      refine j_aload_n d_La_law_1028 rfl ?_
      exact j_callSX (d' := 5) (As := [.ref a1, .int ((gA G a0 n75)), .int ((gA G a0 n77)), .ref a3]) (rest := []) cs_La_132 me_La_sumAt ⟨_, _, rfl⟩ (by decide) rfl rfl (Nat.le_of_ble_eq_true rfl) d_La_law_1029 (by decide) rfl H
    by_cases c86 : ((gA G a0 n4) &&& (31 : Int32)) = 16
    · have H := H16 c86
      rw [c86]
      refine j_tableIn (off := 1043) (tgt := 1083) d_La_law_40 (by decide) (by decide) (by decide) (by decide) ?_
      refine j_aload_n d_La_law_1083 rfl ?_
      obtain ⟨t79, H⟩ := H
      refine j_callV (d' := 1) (ci := 9) (As := []) (rest := []) (b := a1) cv_La_135 me_St_dropped rfl (by decide) rfl rfl t79 rfl rfl (Nat.le_of_ble_eq_true rfl) d_La_law_1084 (by decide) rfl (j_enter (L := [some (.ref a1)]) me_St_dropped (cat_c rfl cat_n) (Nat.le_of_ble_eq_true rfl) rfl ?_)
      refine j_aload_n d_St_dropped_0 rfl ?_
      obtain ⟨b80, e81, H⟩ := H
      refine j_getR (f := 578) (b := b80) fe_St_26 rfl rfl t79 e81 d_St_dropped_1 ?_
      obtain ⟨t82, H⟩ := H
      refine j_getI (f := 261) fe_St_266 rfl rfl t82 d_St_dropped_4 ?_
      refine j_iret rfl d_St_dropped_7 ?_
      show J E 14 m_La_law 1087 [some (.ref a0), some (.ref a1), some (.ref a2), some (.ref a3), some (.int p4), none, none] [.int ((gI G 261 b80))] G Post
      refine j_aload_n d_La_law_1087 rfl ?_
      obtain ⟨t83, H⟩ := H
      refine j_callV (d' := 1) (ci := 10) (As := []) (rest := [.int ((gI G 261 b80))]) (b := a2) cv_La_138 me_Mo_dropped rfl (by decide) rfl rfl t83 rfl rfl (Nat.le_of_ble_eq_true rfl) d_La_law_1088 (by decide) rfl (j_enter (L := [some (.ref a2)]) me_Mo_dropped (cat_c rfl cat_n) (Nat.le_of_ble_eq_true rfl) rfl ?_)
      refine j_aload_n d_Mo_dropped_0 rfl ?_
      refine j_iconst (v := 0) d_Mo_dropped_1 (by decide) ?_
      refine j_putI (f := 640) fw_Mo_139 rfl rfl t83 d_Mo_dropped_2 ?_
      refine j_aload_n d_Mo_dropped_5 rfl ?_
      refine j_getI (f := 659) fe_Mo_214 rfl rfl t83 d_Mo_dropped_6 ?_
      refine j_iret rfl d_Mo_dropped_9 ?_
      show J E 14 m_La_law 1091 [some (.ref a0), some (.ref a1), some (.ref a2), some (.ref a3), some (.int p4), none, none] [.int ((gI G 659 a2)), .int ((gI G 261 b80))] (sI G 640 a2 ((0 : Int32))) Post
      obtain ⟨Ha, Hb⟩ := H
      refine j_icmp_eq (tgt := 1295) d_La_law_1091 (by decide) (fun c84 => ?_) (fun c85 => ?_)
      · have H := Ha c84
        refine j_iinc (v := (p4 + (7 : Int32))) (L' := [some (.ref a0), some (.ref a1), some (.ref a2), some (.ref a3), some (.int ((p4 + (7 : Int32)))), none, none]) d_La_law_1295 rfl (by rw [show Int32.ofInt (7) = (7 : Int32) by decide]) (by decide) rfl ?_
        refine j_goto (tgt := 23) d_La_law_1298 (by decide) ?_
        exact H
      · have H := Hb c85
        refine j_iconst (v := 0) d_La_law_1094 (by decide) ?_
        exact j_zret rfl (by decide) d_La_law_1095 H
    by_cases c92 : ((gA G a0 n4) &&& (31 : Int32)) = 17
    · have H := H17 c92
      rw [c92]
      refine j_tableIn (off := 1056) (tgt := 1096) d_La_law_40 (by decide) (by decide) (by decide) (by decide) ?_
      refine j_aload_n d_La_law_1096 rfl ?_
      obtain ⟨t87, H⟩ := H
      refine j_callV (d' := 1) (ci := 9) (As := []) (rest := []) (b := a1) cv_La_139 me_St_pairs rfl (by decide) rfl rfl t87 rfl rfl (Nat.le_of_ble_eq_true rfl) d_La_law_1097 (by decide) rfl (j_enter (L := [some (.ref a1)]) me_St_pairs (cat_c rfl cat_n) (Nat.le_of_ble_eq_true rfl) rfl ?_)
      refine j_aload_n d_St_pairs_0 rfl ?_
      obtain ⟨b88, e89, H⟩ := H
      refine j_getR (f := 578) (b := b88) fe_St_26 rfl rfl t87 e89 d_St_pairs_1 ?_
      obtain ⟨t90, H⟩ := H
      refine j_getI (f := 262) fe_St_269 rfl rfl t90 d_St_pairs_4 ?_
      refine j_iret rfl d_St_pairs_7 ?_
      show J E 14 m_La_law 1100 [some (.ref a0), some (.ref a1), some (.ref a2), some (.ref a3), some (.int p4), none, none] [.int ((gI G 262 b88))] G Post
      refine j_aload_n d_La_law_1100 rfl ?_
      obtain ⟨t91, H⟩ := H
      exact j_callV (d' := 2) (ci := 10) (As := []) (rest := [.int ((gI G 262 b88))]) (b := a2) cv_La_142 me_Mo_pairs rfl (by decide) rfl rfl t91 rfl rfl (Nat.le_of_ble_eq_true rfl) d_La_law_1101 (by decide) rfl H
    by_cases c94 : ((gA G a0 n4) &&& (31 : Int32)) = 18
    · have H := H18 c94
      rw [c94]
      refine j_tableIn (off := 1069) (tgt := 1109) d_La_law_40 (by decide) (by decide) (by decide) (by decide) ?_
      refine j_aload_n d_La_law_1109 rfl ?_
      obtain ⟨t93, H⟩ := H
      exact j_callV (d' := 5) (ci := 9) (As := []) (rest := []) (b := a1) cv_La_143 me_St_pairsAnew rfl (by decide) rfl rfl t93 rfl rfl (Nat.le_of_ble_eq_true rfl) d_La_law_1110 (by decide) rfl H
    by_cases c102 : ((gA G a0 n4) &&& (31 : Int32)) = 19
    · have H := H19 c102
      rw [c102]
      refine j_tableIn (off := 1082) (tgt := 1122) d_La_law_40 (by decide) (by decide) (by decide) (by decide) ?_
      refine j_aload_n d_La_law_1122 rfl ?_
      obtain ⟨t95, H⟩ := H
      refine j_callV (d' := 1) (ci := 9) (As := []) (rest := []) (b := a1) cv_La_147 me_St_uncommitted rfl (by decide) rfl rfl t95 rfl rfl (Nat.le_of_ble_eq_true rfl) d_La_law_1123 (by decide) rfl (j_enter (L := [some (.ref a1)]) me_St_uncommitted (cat_c rfl cat_n) (Nat.le_of_ble_eq_true rfl) rfl ?_)
      refine j_aload_n d_St_uncommitted_0 rfl ?_
      obtain ⟨b96, e97, H⟩ := H
      refine j_getR (f := 581) (b := b96) fe_St_43 rfl rfl t95 e97 d_St_uncommitted_1 ?_
      obtain ⟨t98, H⟩ := H
      refine j_getI (f := 323) fe_St_275 rfl rfl t98 d_St_uncommitted_4 ?_
      refine j_aload_n d_St_uncommitted_7 rfl ?_
      refine j_getR (f := 581) (b := b96) fe_St_43 rfl rfl t95 e97 d_St_uncommitted_8 ?_
      refine j_getI (f := 321) fe_St_202 rfl rfl t98 d_St_uncommitted_11 ?_
      refine j_isub d_St_uncommitted_14 ?_
      refine j_iret rfl d_St_uncommitted_15 ?_
      show J E 14 m_La_law 1126 [some (.ref a0), some (.ref a1), some (.ref a2), some (.ref a3), some (.int p4), none, none] [.int (((gI G 323 b96) - (gI G 321 b96)))] G Post
      refine j_aload_n d_La_law_1126 rfl ?_
      obtain ⟨t99, H⟩ := H
      refine j_callV (d' := 1) (ci := 10) (As := []) (rest := [.int (((gI G 323 b96) - (gI G 321 b96)))]) (b := a2) cv_La_150 me_Mo_uncommitted rfl (by decide) rfl rfl t99 rfl rfl (Nat.le_of_ble_eq_true rfl) d_La_law_1127 (by decide) rfl (j_enter (L := [some (.ref a2)]) me_Mo_uncommitted (cat_c rfl cat_n) (Nat.le_of_ble_eq_true rfl) rfl ?_)
      refine j_aload_n d_Mo_uncommitted_0 rfl ?_
      refine j_iconst (v := 0) d_Mo_uncommitted_1 (by decide) ?_
      refine j_putI (f := 640) fw_Mo_139 rfl rfl t99 d_Mo_uncommitted_2 ?_
      refine j_aload_n d_Mo_uncommitted_5 rfl ?_
      refine j_getI (f := 680) fe_Mo_169 rfl rfl t99 d_Mo_uncommitted_6 ?_
      refine j_aload_n d_Mo_uncommitted_9 rfl ?_
      refine j_getI (f := 682) fe_Mo_257 rfl rfl t99 d_Mo_uncommitted_10 ?_
      refine j_isub d_Mo_uncommitted_13 ?_
      refine j_iret rfl d_Mo_uncommitted_14 ?_
      show J E 14 m_La_law 1130 [some (.ref a0), some (.ref a1), some (.ref a2), some (.ref a3), some (.int p4), none, none] [.int (((gI G 680 a2) - (gI G 682 a2))), .int (((gI G 323 b96) - (gI G 321 b96)))] (sI G 640 a2 ((0 : Int32))) Post
      obtain ⟨Ha, Hb⟩ := H
      refine j_icmp_eq (tgt := 1295) d_La_law_1130 (by decide) (fun c100 => ?_) (fun c101 => ?_)
      · have H := Ha c100
        refine j_iinc (v := (p4 + (7 : Int32))) (L' := [some (.ref a0), some (.ref a1), some (.ref a2), some (.ref a3), some (.int ((p4 + (7 : Int32)))), none, none]) d_La_law_1295 rfl (by rw [show Int32.ofInt (7) = (7 : Int32) by decide]) (by decide) rfl ?_
        refine j_goto (tgt := 23) d_La_law_1298 (by decide) ?_
        exact H
      · have H := Hb c101
        refine j_iconst (v := 0) d_La_law_1133 (by decide) ?_
        exact j_zret rfl (by decide) d_La_law_1134 H
    by_cases c109 : ((gA G a0 n4) &&& (31 : Int32)) = 20
    · have H := H20 c109
      rw [c109]
      refine j_tableIn (off := 1095) (tgt := 1135) d_La_law_40 (by decide) (by decide) (by decide) (by decide) ?_
      refine j_aload_n d_La_law_1135 rfl ?_
      refine j_aload_n d_La_law_1136 rfl ?_
      refine j_iload d_La_law_1137 rfl ?_
      refine j_iconst (v := 1) d_La_law_1139 (by decide) ?_
      refine j_iadd d_La_law_1140 ?_
      obtain ⟨n104, x103, H⟩ := H
      refine j_iald (n := n104) t2 x103 d_La_law_1141 ?_
      refine j_aload_n d_La_law_1142 rfl ?_
      refine j_iload d_La_law_1143 rfl ?_
      refine j_iconst (v := 2) d_La_law_1145 (by decide) ?_
      refine j_iadd d_La_law_1146 ?_
      obtain ⟨n106, x105, H⟩ := H
      refine j_iald (n := n106) t2 x105 d_La_law_1147 ?_
      refine j_aload_n d_La_law_1148 rfl ?_
      refine j_iload d_La_law_1149 rfl ?_
      refine j_iconst (v := 3) d_La_law_1151 (by decide) ?_
      refine j_iadd d_La_law_1152 ?_
      obtain ⟨n108, x107, H⟩ := H
      refine j_iald (n := n108) t2 x107 d_La_law_1153 ?_
      refine j_aload_n d_La_law_1154 rfl ?_
      exact j_callSX (d' := 6) (As := [.ref a1, .int ((gA G a0 n104)), .int ((gA G a0 n106)), .int ((gA G a0 n108)), .ref a3]) (rest := []) cs_La_151 me_La_result ⟨_, _, rfl⟩ (by decide) rfl rfl (Nat.le_of_ble_eq_true rfl) d_La_law_1155 (by decide) rfl H
    by_cases c116 : ((gA G a0 n4) &&& (31 : Int32)) = 21
    · have H := H21 c116
      rw [c116]
      refine j_tableIn (off := 1175) (tgt := 1215) d_La_law_40 (by decide) (by decide) (by decide) (by decide) ?_
      refine j_aload_n d_La_law_1215 rfl ?_
      refine j_aload_n d_La_law_1216 rfl ?_
      refine j_iload d_La_law_1217 rfl ?_
      refine j_iconst (v := 1) d_La_law_1219 (by decide) ?_
      refine j_iadd d_La_law_1220 ?_
      obtain ⟨n111, x110, H⟩ := H
      refine j_iald (n := n111) t2 x110 d_La_law_1221 ?_
      refine j_aload_n d_La_law_1222 rfl ?_
      refine j_iload d_La_law_1223 rfl ?_
      refine j_iconst (v := 2) d_La_law_1225 (by decide) ?_
      refine j_iadd d_La_law_1226 ?_
      obtain ⟨n113, x112, H⟩ := H
      refine j_iald (n := n113) t2 x112 d_La_law_1227 ?_
      refine j_aload_n d_La_law_1228 rfl ?_
      refine j_iload d_La_law_1229 rfl ?_
      refine j_iconst (v := 3) d_La_law_1231 (by decide) ?_
      refine j_iadd d_La_law_1232 ?_
      obtain ⟨n115, x114, H⟩ := H
      refine j_iald (n := n115) t2 x114 d_La_law_1233 ?_
      refine j_aload_n d_La_law_1234 rfl ?_
      exact j_callSX (d' := 8) (As := [.ref a1, .int ((gA G a0 n111)), .int ((gA G a0 n113)), .int ((gA G a0 n115)), .ref a3]) (rest := []) cs_La_155 me_La_resultAnew ⟨_, _, rfl⟩ (by decide) rfl rfl (Nat.le_of_ble_eq_true rfl) d_La_law_1235 (by decide) rfl H
    obtain ⟨o117, H⟩ := Hd ⟨c19, c24, c33, c36, c43, c46, c47, c48, c50, c53, c61, c64, c67, c70, c73, c78, c86, c92, c94, c102, c109, c116⟩
    refine j_tableOut (tgt := 1295) d_La_law_40 o117 (by decide) ?_
    refine j_iinc (v := (p4 + (7 : Int32))) (L' := [some (.ref a0), some (.ref a1), some (.ref a2), some (.ref a3), some (.int ((p4 + (7 : Int32)))), none, none]) d_La_law_1295 rfl (by rw [show Int32.ofInt (7) = (7 : Int32) by decide]) (by decide) rfl ?_
    refine j_goto (tgt := 23) d_La_law_1298 (by decide) ?_
    exact H
theorem wp_La_law_193 {E : EV} {G : GH} {Post : Res → GH → Prop} (a0 : Nat) (a1 : Nat) (a2 : Nat) (a3 : Nat) (p4 : Int32) (s0 : Int32) (H : (gT G a0 = 20 ∨ gT G a0 = 25) ∧ ∃ n3, IX ((p4 + (1 : Int32))) n3 (gN G a0) ∧ ∃ n5, IX ((p4 + (2 : Int32))) n5 (gN G a0) ∧ ∃ n7, IX ((p4 + (3 : Int32))) n7 (gN G a0) ∧ ∃ n9, IX ((p4 + (4 : Int32))) n9 (gN G a0) ∧ ∃ n11, IX ((p4 + (5 : Int32))) n11 (gN G a0) ∧ ∃ n13, IX ((p4 + (6 : Int32))) n13 (gN G a0) ∧ ((gA G a0 n13) = 0 → gT G a2 = 11 ∧ ((gA G a0 n3) < (0 : Int32) → (((1 : Int32)) = s0 → J E 14 m_La_law 23 [some (.ref a0), some (.ref a1), some (.ref a2), some (.ref a3), some (.int ((p4 + (7 : Int32)))), none, none] [] (sI G 640 a2 ((1 : Int32))) Post) ∧ (¬ ((1 : Int32)) = s0 → Post (.inl (some (.int ((0 : Int32))))) (sI G 640 a2 ((1 : Int32))))) ∧ (¬ (gA G a0 n3) < (0 : Int32) → ((2 : Int32) < (gA G a0 n3) → (((1 : Int32)) = s0 → J E 14 m_La_law 23 [some (.ref a0), some (.ref a1), some (.ref a2), some (.ref a3), some (.int ((p4 + (7 : Int32)))), none, none] [] (sI G 640 a2 ((1 : Int32))) Post) ∧ (¬ ((1 : Int32)) = s0 → Post (.inl (some (.int ((0 : Int32))))) (sI G 640 a2 ((1 : Int32))))) ∧ (¬ (2 : Int32) < (gA G a0 n3) → ((gA G a0 n5) < (1 : Int32) → (((1 : Int32)) = s0 → J E 14 m_La_law 23 [some (.ref a0), some (.ref a1), some (.ref a2), some (.ref a3), some (.int ((p4 + (7 : Int32)))), none, none] [] (sI G 640 a2 ((1 : Int32))) Post) ∧ (¬ ((1 : Int32)) = s0 → Post (.inl (some (.int ((0 : Int32))))) (sI G 640 a2 ((1 : Int32))))) ∧ (¬ (gA G a0 n5) < (1 : Int32) → ((200 : Int32) < (gA G a0 n5) → (((1 : Int32)) = s0 → J E 14 m_La_law 23 [some (.ref a0), some (.ref a1), some (.ref a2), some (.ref a3), some (.int ((p4 + (7 : Int32)))), none, none] [] (sI G 640 a2 ((1 : Int32))) Post) ∧ (¬ ((1 : Int32)) = s0 → Post (.inl (some (.int ((0 : Int32))))) (sI G 640 a2 ((1 : Int32))))) ∧ (¬ (200 : Int32) < (gA G a0 n5) → ((gA G a0 n9) < (0 : Int32) → (((1 : Int32)) = s0 → J E 14 m_La_law 23 [some (.ref a0), some (.ref a1), some (.ref a2), some (.ref a3), some (.int ((p4 + (7 : Int32)))), none, none] [] (sI G 640 a2 ((1 : Int32))) Post) ∧ (¬ ((1 : Int32)) = s0 → Post (.inl (some (.int ((0 : Int32))))) (sI G 640 a2 ((1 : Int32))))) ∧ (¬ (gA G a0 n9) < (0 : Int32) → ((200 : Int32) < (gA G a0 n9) → (((1 : Int32)) = s0 → J E 14 m_La_law 23 [some (.ref a0), some (.ref a1), some (.ref a2), some (.ref a3), some (.int ((p4 + (7 : Int32)))), none, none] [] (sI G 640 a2 ((1 : Int32))) Post) ∧ (¬ ((1 : Int32)) = s0 → Post (.inl (some (.int ((0 : Int32))))) (sI G 640 a2 ((1 : Int32))))) ∧ (¬ (200 : Int32) < (gA G a0 n9) → ((gA G a0 n11) < (0 : Int32) → (((1 : Int32)) = s0 → J E 14 m_La_law 23 [some (.ref a0), some (.ref a1), some (.ref a2), some (.ref a3), some (.int ((p4 + (7 : Int32)))), none, none] [] (sI G 640 a2 ((1 : Int32))) Post) ∧ (¬ ((1 : Int32)) = s0 → Post (.inl (some (.int ((0 : Int32))))) (sI G 640 a2 ((1 : Int32))))) ∧ (¬ (gA G a0 n11) < (0 : Int32) → ((200 : Int32) < (gA G a0 n11) → (((1 : Int32)) = s0 → J E 14 m_La_law 23 [some (.ref a0), some (.ref a1), some (.ref a2), some (.ref a3), some (.int ((p4 + (7 : Int32)))), none, none] [] (sI G 640 a2 ((1 : Int32))) Post) ∧ (¬ ((1 : Int32)) = s0 → Post (.inl (some (.int ((0 : Int32))))) (sI G 640 a2 ((1 : Int32))))) ∧ (¬ (200 : Int32) < (gA G a0 n11) → (¬ (gA G a0 n3) = (1 : Int32) → ((gI G 648 a2) = 0 → (¬ (gA G a0 n3) = (1 : Int32) → ∀ G31, G31 = sI (sI (sI (sI (sI G 640 a2 ((0 : Int32))) 641 a2 ((gA G a0 n3))) 642 a2 ((gA G a0 n5))) 643 a2 ((gA G a0 n5))) 644 a2 ((gA G a0 n9)) → (((0 : Int32)) = s0 → J E 14 m_La_law 23 [some (.ref a0), some (.ref a1), some (.ref a2), some (.ref a3), some (.int ((p4 + (7 : Int32)))), none, none] [] (sI (sI G31 645 a2 ((gA G a0 n11))) 646 a2 ((0 : Int32))) Post) ∧ (¬ ((0 : Int32)) = s0 → Post (.inl (some (.int ((0 : Int32))))) (sI (sI G31 645 a2 ((gA G a0 n11))) 646 a2 ((0 : Int32))))) ∧ ((gA G a0 n3) = (1 : Int32) → ∀ G35, G35 = sI (sI (sI (sI (sI G 640 a2 ((0 : Int32))) 641 a2 ((gA G a0 n3))) 642 a2 ((gA G a0 n5))) 643 a2 ((gA G a0 n7))) 644 a2 ((gA G a0 n9)) → (((0 : Int32)) = s0 → J E 14 m_La_law 23 [some (.ref a0), some (.ref a1), some (.ref a2), some (.ref a3), some (.int ((p4 + (7 : Int32)))), none, none] [] (sI (sI G35 645 a2 ((gA G a0 n11))) 646 a2 ((0 : Int32))) Post) ∧ (¬ ((0 : Int32)) = s0 → Post (.inl (some (.int ((0 : Int32))))) (sI (sI G35 645 a2 ((gA G a0 n11))) 646 a2 ((0 : Int32)))))) ∧ (¬ (gI G 648 a2) = 0 → (((2 : Int32)) = s0 → J E 14 m_La_law 23 [some (.ref a0), some (.ref a1), some (.ref a2), some (.ref a3), some (.int ((p4 + (7 : Int32)))), none, none] [] (sI G 640 a2 ((2 : Int32))) Post) ∧ (¬ ((2 : Int32)) = s0 → Post (.inl (some (.int ((0 : Int32))))) (sI G 640 a2 ((2 : Int32)))))) ∧ ((gA G a0 n3) = (1 : Int32) → ((gA G a0 n7) < (1 : Int32) → (((1 : Int32)) = s0 → J E 14 m_La_law 23 [some (.ref a0), some (.ref a1), some (.ref a2), some (.ref a3), some (.int ((p4 + (7 : Int32)))), none, none] [] (sI G 640 a2 ((1 : Int32))) Post) ∧ (¬ ((1 : Int32)) = s0 → Post (.inl (some (.int ((0 : Int32))))) (sI G 640 a2 ((1 : Int32))))) ∧ (¬ (gA G a0 n7) < (1 : Int32) → ((gA G a0 n5) < (gA G a0 n7) → (((1 : Int32)) = s0 → J E 14 m_La_law 23 [some (.ref a0), some (.ref a1), some (.ref a2), some (.ref a3), some (.int ((p4 + (7 : Int32)))), none, none] [] (sI G 640 a2 ((1 : Int32))) Post) ∧ (¬ ((1 : Int32)) = s0 → Post (.inl (some (.int ((0 : Int32))))) (sI G 640 a2 ((1 : Int32))))) ∧ (¬ (gA G a0 n5) < (gA G a0 n7) → ¬ (gA G a0 n7) = 0 ∧ ((8 : Int32) < ((((gA G a0 n5) + (gA G a0 n7)) - (1 : Int32)) / (gA G a0 n7)) → (((1 : Int32)) = s0 → J E 14 m_La_law 23 [some (.ref a0), some (.ref a1), some (.ref a2), some (.ref a3), some (.int ((p4 + (7 : Int32)))), none, none] [] (sI G 640 a2 ((1 : Int32))) Post) ∧ (¬ ((1 : Int32)) = s0 → Post (.inl (some (.int ((0 : Int32))))) (sI G 640 a2 ((1 : Int32))))) ∧ (¬ (8 : Int32) < ((((gA G a0 n5) + (gA G a0 n7)) - (1 : Int32)) / (gA G a0 n7)) → ((gI G 648 a2) = 0 → (¬ (gA G a0 n3) = (1 : Int32) → ∀ G52, G52 = sI (sI (sI (sI (sI G 640 a2 ((0 : Int32))) 641 a2 ((gA G a0 n3))) 642 a2 ((gA G a0 n5))) 643 a2 ((gA G a0 n5))) 644 a2 ((gA G a0 n9)) → (((0 : Int32)) = s0 → J E 14 m_La_law 23 [some (.ref a0), some (.ref a1), some (.ref a2), some (.ref a3), some (.int ((p4 + (7 : Int32)))), none, none] [] (sI (sI G52 645 a2 ((gA G a0 n11))) 646 a2 ((0 : Int32))) Post) ∧ (¬ ((0 : Int32)) = s0 → Post (.inl (some (.int ((0 : Int32))))) (sI (sI G52 645 a2 ((gA G a0 n11))) 646 a2 ((0 : Int32))))) ∧ ((gA G a0 n3) = (1 : Int32) → ∀ G56, G56 = sI (sI (sI (sI (sI G 640 a2 ((0 : Int32))) 641 a2 ((gA G a0 n3))) 642 a2 ((gA G a0 n5))) 643 a2 ((gA G a0 n7))) 644 a2 ((gA G a0 n9)) → (((0 : Int32)) = s0 → J E 14 m_La_law 23 [some (.ref a0), some (.ref a1), some (.ref a2), some (.ref a3), some (.int ((p4 + (7 : Int32)))), none, none] [] (sI (sI G56 645 a2 ((gA G a0 n11))) 646 a2 ((0 : Int32))) Post) ∧ (¬ ((0 : Int32)) = s0 → Post (.inl (some (.int ((0 : Int32))))) (sI (sI G56 645 a2 ((gA G a0 n11))) 646 a2 ((0 : Int32)))))) ∧ (¬ (gI G 648 a2) = 0 → (((2 : Int32)) = s0 → J E 14 m_La_law 23 [some (.ref a0), some (.ref a1), some (.ref a2), some (.ref a3), some (.int ((p4 + (7 : Int32)))), none, none] [] (sI G 640 a2 ((2 : Int32))) Post) ∧ (¬ ((2 : Int32)) = s0 → Post (.inl (some (.int ((0 : Int32))))) (sI G 640 a2 ((2 : Int32)))))))))))))))))) ∧ (¬ (gA G a0 n13) = 0 → gT G a2 = 11 ∧ ((gA G a0 n3) < (0 : Int32) → (((1 : Int32)) = s0 → J E 14 m_La_law 23 [some (.ref a0), some (.ref a1), some (.ref a2), some (.ref a3), some (.int ((p4 + (7 : Int32)))), none, none] [] (sI G 640 a2 ((1 : Int32))) Post) ∧ (¬ ((1 : Int32)) = s0 → Post (.inl (some (.int ((0 : Int32))))) (sI G 640 a2 ((1 : Int32))))) ∧ (¬ (gA G a0 n3) < (0 : Int32) → ((2 : Int32) < (gA G a0 n3) → (((1 : Int32)) = s0 → J E 14 m_La_law 23 [some (.ref a0), some (.ref a1), some (.ref a2), some (.ref a3), some (.int ((p4 + (7 : Int32)))), none, none] [] (sI G 640 a2 ((1 : Int32))) Post) ∧ (¬ ((1 : Int32)) = s0 → Post (.inl (some (.int ((0 : Int32))))) (sI G 640 a2 ((1 : Int32))))) ∧ (¬ (2 : Int32) < (gA G a0 n3) → ((gA G a0 n5) < (1 : Int32) → (((1 : Int32)) = s0 → J E 14 m_La_law 23 [some (.ref a0), some (.ref a1), some (.ref a2), some (.ref a3), some (.int ((p4 + (7 : Int32)))), none, none] [] (sI G 640 a2 ((1 : Int32))) Post) ∧ (¬ ((1 : Int32)) = s0 → Post (.inl (some (.int ((0 : Int32))))) (sI G 640 a2 ((1 : Int32))))) ∧ (¬ (gA G a0 n5) < (1 : Int32) → ((200 : Int32) < (gA G a0 n5) → (((1 : Int32)) = s0 → J E 14 m_La_law 23 [some (.ref a0), some (.ref a1), some (.ref a2), some (.ref a3), some (.int ((p4 + (7 : Int32)))), none, none] [] (sI G 640 a2 ((1 : Int32))) Post) ∧ (¬ ((1 : Int32)) = s0 → Post (.inl (some (.int ((0 : Int32))))) (sI G 640 a2 ((1 : Int32))))) ∧ (¬ (200 : Int32) < (gA G a0 n5) → ((gA G a0 n9) < (0 : Int32) → (((1 : Int32)) = s0 → J E 14 m_La_law 23 [some (.ref a0), some (.ref a1), some (.ref a2), some (.ref a3), some (.int ((p4 + (7 : Int32)))), none, none] [] (sI G 640 a2 ((1 : Int32))) Post) ∧ (¬ ((1 : Int32)) = s0 → Post (.inl (some (.int ((0 : Int32))))) (sI G 640 a2 ((1 : Int32))))) ∧ (¬ (gA G a0 n9) < (0 : Int32) → ((200 : Int32) < (gA G a0 n9) → (((1 : Int32)) = s0 → J E 14 m_La_law 23 [some (.ref a0), some (.ref a1), some (.ref a2), some (.ref a3), some (.int ((p4 + (7 : Int32)))), none, none] [] (sI G 640 a2 ((1 : Int32))) Post) ∧ (¬ ((1 : Int32)) = s0 → Post (.inl (some (.int ((0 : Int32))))) (sI G 640 a2 ((1 : Int32))))) ∧ (¬ (200 : Int32) < (gA G a0 n9) → ((gA G a0 n11) < (0 : Int32) → (((1 : Int32)) = s0 → J E 14 m_La_law 23 [some (.ref a0), some (.ref a1), some (.ref a2), some (.ref a3), some (.int ((p4 + (7 : Int32)))), none, none] [] (sI G 640 a2 ((1 : Int32))) Post) ∧ (¬ ((1 : Int32)) = s0 → Post (.inl (some (.int ((0 : Int32))))) (sI G 640 a2 ((1 : Int32))))) ∧ (¬ (gA G a0 n11) < (0 : Int32) → ((200 : Int32) < (gA G a0 n11) → (((1 : Int32)) = s0 → J E 14 m_La_law 23 [some (.ref a0), some (.ref a1), some (.ref a2), some (.ref a3), some (.int ((p4 + (7 : Int32)))), none, none] [] (sI G 640 a2 ((1 : Int32))) Post) ∧ (¬ ((1 : Int32)) = s0 → Post (.inl (some (.int ((0 : Int32))))) (sI G 640 a2 ((1 : Int32))))) ∧ (¬ (200 : Int32) < (gA G a0 n11) → (¬ (gA G a0 n3) = (1 : Int32) → ((gI G 648 a2) = 0 → (¬ (gA G a0 n3) = (1 : Int32) → ∀ G107, G107 = sI (sI (sI (sI (sI G 640 a2 ((0 : Int32))) 641 a2 ((gA G a0 n3))) 642 a2 ((gA G a0 n5))) 643 a2 ((gA G a0 n5))) 644 a2 ((gA G a0 n9)) → (((0 : Int32)) = s0 → J E 14 m_La_law 23 [some (.ref a0), some (.ref a1), some (.ref a2), some (.ref a3), some (.int ((p4 + (7 : Int32)))), none, none] [] (sI (sI G107 645 a2 ((gA G a0 n11))) 646 a2 ((1 : Int32))) Post) ∧ (¬ ((0 : Int32)) = s0 → Post (.inl (some (.int ((0 : Int32))))) (sI (sI G107 645 a2 ((gA G a0 n11))) 646 a2 ((1 : Int32))))) ∧ ((gA G a0 n3) = (1 : Int32) → ∀ G111, G111 = sI (sI (sI (sI (sI G 640 a2 ((0 : Int32))) 641 a2 ((gA G a0 n3))) 642 a2 ((gA G a0 n5))) 643 a2 ((gA G a0 n7))) 644 a2 ((gA G a0 n9)) → (((0 : Int32)) = s0 → J E 14 m_La_law 23 [some (.ref a0), some (.ref a1), some (.ref a2), some (.ref a3), some (.int ((p4 + (7 : Int32)))), none, none] [] (sI (sI G111 645 a2 ((gA G a0 n11))) 646 a2 ((1 : Int32))) Post) ∧ (¬ ((0 : Int32)) = s0 → Post (.inl (some (.int ((0 : Int32))))) (sI (sI G111 645 a2 ((gA G a0 n11))) 646 a2 ((1 : Int32)))))) ∧ (¬ (gI G 648 a2) = 0 → (((2 : Int32)) = s0 → J E 14 m_La_law 23 [some (.ref a0), some (.ref a1), some (.ref a2), some (.ref a3), some (.int ((p4 + (7 : Int32)))), none, none] [] (sI G 640 a2 ((2 : Int32))) Post) ∧ (¬ ((2 : Int32)) = s0 → Post (.inl (some (.int ((0 : Int32))))) (sI G 640 a2 ((2 : Int32)))))) ∧ ((gA G a0 n3) = (1 : Int32) → ((gA G a0 n7) < (1 : Int32) → (((1 : Int32)) = s0 → J E 14 m_La_law 23 [some (.ref a0), some (.ref a1), some (.ref a2), some (.ref a3), some (.int ((p4 + (7 : Int32)))), none, none] [] (sI G 640 a2 ((1 : Int32))) Post) ∧ (¬ ((1 : Int32)) = s0 → Post (.inl (some (.int ((0 : Int32))))) (sI G 640 a2 ((1 : Int32))))) ∧ (¬ (gA G a0 n7) < (1 : Int32) → ((gA G a0 n5) < (gA G a0 n7) → (((1 : Int32)) = s0 → J E 14 m_La_law 23 [some (.ref a0), some (.ref a1), some (.ref a2), some (.ref a3), some (.int ((p4 + (7 : Int32)))), none, none] [] (sI G 640 a2 ((1 : Int32))) Post) ∧ (¬ ((1 : Int32)) = s0 → Post (.inl (some (.int ((0 : Int32))))) (sI G 640 a2 ((1 : Int32))))) ∧ (¬ (gA G a0 n5) < (gA G a0 n7) → ¬ (gA G a0 n7) = 0 ∧ ((8 : Int32) < ((((gA G a0 n5) + (gA G a0 n7)) - (1 : Int32)) / (gA G a0 n7)) → (((1 : Int32)) = s0 → J E 14 m_La_law 23 [some (.ref a0), some (.ref a1), some (.ref a2), some (.ref a3), some (.int ((p4 + (7 : Int32)))), none, none] [] (sI G 640 a2 ((1 : Int32))) Post) ∧ (¬ ((1 : Int32)) = s0 → Post (.inl (some (.int ((0 : Int32))))) (sI G 640 a2 ((1 : Int32))))) ∧ (¬ (8 : Int32) < ((((gA G a0 n5) + (gA G a0 n7)) - (1 : Int32)) / (gA G a0 n7)) → ((gI G 648 a2) = 0 → (¬ (gA G a0 n3) = (1 : Int32) → ∀ G128, G128 = sI (sI (sI (sI (sI G 640 a2 ((0 : Int32))) 641 a2 ((gA G a0 n3))) 642 a2 ((gA G a0 n5))) 643 a2 ((gA G a0 n5))) 644 a2 ((gA G a0 n9)) → (((0 : Int32)) = s0 → J E 14 m_La_law 23 [some (.ref a0), some (.ref a1), some (.ref a2), some (.ref a3), some (.int ((p4 + (7 : Int32)))), none, none] [] (sI (sI G128 645 a2 ((gA G a0 n11))) 646 a2 ((1 : Int32))) Post) ∧ (¬ ((0 : Int32)) = s0 → Post (.inl (some (.int ((0 : Int32))))) (sI (sI G128 645 a2 ((gA G a0 n11))) 646 a2 ((1 : Int32))))) ∧ ((gA G a0 n3) = (1 : Int32) → ∀ G132, G132 = sI (sI (sI (sI (sI G 640 a2 ((0 : Int32))) 641 a2 ((gA G a0 n3))) 642 a2 ((gA G a0 n5))) 643 a2 ((gA G a0 n7))) 644 a2 ((gA G a0 n9)) → (((0 : Int32)) = s0 → J E 14 m_La_law 23 [some (.ref a0), some (.ref a1), some (.ref a2), some (.ref a3), some (.int ((p4 + (7 : Int32)))), none, none] [] (sI (sI G132 645 a2 ((gA G a0 n11))) 646 a2 ((1 : Int32))) Post) ∧ (¬ ((0 : Int32)) = s0 → Post (.inl (some (.int ((0 : Int32))))) (sI (sI G132 645 a2 ((gA G a0 n11))) 646 a2 ((1 : Int32)))))) ∧ (¬ (gI G 648 a2) = 0 → (((2 : Int32)) = s0 → J E 14 m_La_law 23 [some (.ref a0), some (.ref a1), some (.ref a2), some (.ref a3), some (.int ((p4 + (7 : Int32)))), none, none] [] (sI G 640 a2 ((2 : Int32))) Post) ∧ (¬ ((2 : Int32)) = s0 → Post (.inl (some (.int ((0 : Int32))))) (sI G 640 a2 ((2 : Int32))))))))))))))))))) : J E 14 m_La_law 193 [some (.ref a0), some (.ref a1), some (.ref a2), some (.ref a3), some (.int p4), none, none] [.int s0] G Post := by
  refine j_istore (L' := [some (.ref a0), some (.ref a1), some (.ref a2), some (.ref a3), some (.int p4), some (.int s0), none]) d_La_law_193 (by decide) rfl ?_
  refine j_aload_n d_La_law_195 rfl ?_
  refine j_aload_n d_La_law_196 rfl ?_
  refine j_iload d_La_law_197 rfl ?_
  refine j_iconst (v := 1) d_La_law_199 (by decide) ?_
  refine j_iadd d_La_law_200 ?_
  obtain ⟨t1, H⟩ := H
  obtain ⟨n3, x2, H⟩ := H
  refine j_iald (n := n3) t1 x2 d_La_law_201 ?_
  refine j_aload_n d_La_law_202 rfl ?_
  refine j_iload d_La_law_203 rfl ?_
  refine j_iconst (v := 2) d_La_law_205 (by decide) ?_
  refine j_iadd d_La_law_206 ?_
  obtain ⟨n5, x4, H⟩ := H
  refine j_iald (n := n5) t1 x4 d_La_law_207 ?_
  refine j_aload_n d_La_law_208 rfl ?_
  refine j_iload d_La_law_209 rfl ?_
  refine j_iconst (v := 3) d_La_law_211 (by decide) ?_
  refine j_iadd d_La_law_212 ?_
  obtain ⟨n7, x6, H⟩ := H
  refine j_iald (n := n7) t1 x6 d_La_law_213 ?_
  refine j_aload_n d_La_law_214 rfl ?_
  refine j_iload d_La_law_215 rfl ?_
  refine j_iconst (v := 4) d_La_law_217 (by decide) ?_
  refine j_iadd d_La_law_218 ?_
  obtain ⟨n9, x8, H⟩ := H
  refine j_iald (n := n9) t1 x8 d_La_law_219 ?_
  refine j_aload_n d_La_law_220 rfl ?_
  refine j_iload d_La_law_221 rfl ?_
  refine j_iconst (v := 5) d_La_law_223 (by decide) ?_
  refine j_iadd d_La_law_224 ?_
  obtain ⟨n11, x10, H⟩ := H
  refine j_iald (n := n11) t1 x10 d_La_law_225 ?_
  refine j_aload_n d_La_law_226 rfl ?_
  refine j_iload d_La_law_227 rfl ?_
  refine j_bipush (v := 6) d_La_law_229 (by decide) ?_
  refine j_iadd d_La_law_231 ?_
  obtain ⟨n13, x12, H⟩ := H
  refine j_iald (n := n13) t1 x12 d_La_law_232 ?_
  obtain ⟨Ha, Hb⟩ := H
  refine j_if_eq (tgt := 240) d_La_law_233 (by decide) (fun c166 => ?_) (fun c167 => ?_)
  · have H := Ha c166
    refine j_iconst (v := 0) d_La_law_240 (by decide) ?_
    obtain ⟨t14, H⟩ := H
    refine j_callV (d' := 2) (ci := 10) (As := [.int ((gA G a0 n3)), .int ((gA G a0 n5)), .int ((gA G a0 n7)), .int ((gA G a0 n9)), .int ((gA G a0 n11)), .int ((0 : Int32))]) (rest := []) (b := a2) cv_La_79 me_Mo_job rfl (by decide) rfl rfl t14 rfl rfl (Nat.le_of_ble_eq_true rfl) d_La_law_241 (by decide) rfl (j_enter (L := [some (.ref a2), some (.int ((gA G a0 n3))), some (.int ((gA G a0 n5))), some (.int ((gA G a0 n7))), some (.int ((gA G a0 n9))), some (.int ((gA G a0 n11))), some (.int ((0 : Int32))), none, none]) me_Mo_job (cat_c rfl (cat_c rfl (cat_c rfl (cat_c rfl (cat_c rfl (cat_c rfl (cat_c rfl cat_n))))))) (Nat.le_of_ble_eq_true rfl) rfl ?_)
    refine j_iload_n d_Mo_job_0 rfl ?_
    refine j_iconst (v := 0) d_Mo_job_1 (by decide) ?_
    refine j_iconst (v := 2) d_Mo_job_2 (by decide) ?_
    refine j_callS (d' := 1) (As := [.int ((gA G a0 n3)), .int ((0 : Int32)), .int ((2 : Int32))]) (rest := []) cs_Mo_142 me_Mo_isIn rfl (by decide) rfl rfl (Nat.le_of_ble_eq_true rfl) d_Mo_job_3 (by decide) rfl (j_enter (L := [some (.int ((gA G a0 n3))), some (.int ((0 : Int32))), some (.int ((2 : Int32)))]) me_Mo_isIn (cat_c rfl (cat_c rfl (cat_c rfl cat_n))) (Nat.le_of_ble_eq_true rfl) rfl ?_)
    refine j_iload_n d_Mo_isIn_0 rfl ?_
    refine j_iload_n d_Mo_isIn_1 rfl ?_
    obtain ⟨Ha, Hb⟩ := H
    refine j_icmp_lt (tgt := 14) d_Mo_isIn_2 (by decide) (fun c88 => ?_) (fun c89 => ?_)
    · have H := Ha c88
      refine j_iconst (v := 0) d_Mo_isIn_14 (by decide) ?_
      refine j_zret rfl (by decide) d_Mo_isIn_15 ?_
      show J E 2 m_Mo_job 6 [some (.ref a2), some (.int ((gA G a0 n3))), some (.int ((gA G a0 n5))), some (.int ((gA G a0 n7))), some (.int ((gA G a0 n9))), some (.int ((gA G a0 n11))), some (.int ((0 : Int32))), none, none] [.int ((0 : Int32))] G (aft E 14 m_La_law 241 [some (.ref a0), some (.ref a1), some (.ref a2), some (.ref a3), some (.int p4), some (.int s0), none] [] Post)
      refine j_if_eq (tgt := 48) d_Mo_job_6 (by decide) (fun _ => ?_) (fun c => absurd c (by decide))
      refine j_iconst (v := 0) d_Mo_job_48 (by decide) ?_
      refine j_istore (L' := [some (.ref a2), some (.int ((gA G a0 n3))), some (.int ((gA G a0 n5))), some (.int ((gA G a0 n7))), some (.int ((gA G a0 n9))), some (.int ((gA G a0 n11))), some (.int ((0 : Int32))), some (.int ((0 : Int32))), none]) d_Mo_job_49 (by decide) rfl ?_
      refine j_iload d_Mo_job_51 rfl ?_
      refine j_if_eq (tgt := 86) d_Mo_job_53 (by decide) (fun _ => ?_) (fun c => absurd c (by decide))
      refine j_iconst (v := 0) d_Mo_job_86 (by decide) ?_
      refine j_istore (L' := [some (.ref a2), some (.int ((gA G a0 n3))), some (.int ((gA G a0 n5))), some (.int ((gA G a0 n7))), some (.int ((gA G a0 n9))), some (.int ((gA G a0 n11))), some (.int ((0 : Int32))), some (.int ((0 : Int32))), some (.int ((0 : Int32)))]) d_Mo_job_87 (by decide) rfl ?_
      refine j_aload_n d_Mo_job_89 rfl ?_
      refine j_iload d_Mo_job_90 rfl ?_
      refine j_if_ne (tgt := 99) d_Mo_job_92 (by decide) (fun c => absurd c (by decide)) (fun _ => ?_)
      refine j_iconst (v := 1) d_Mo_job_95 (by decide) ?_
      refine j_goto (tgt := 111) d_Mo_job_96 (by decide) ?_
      refine j_callV (d' := 1) (ci := 10) (As := [.int ((1 : Int32))]) (rest := []) (b := a2) cv_Mo_149 me_Mo_isFine rfl (by decide) rfl rfl t14 rfl rfl (Nat.le_of_ble_eq_true rfl) d_Mo_job_111 (by decide) rfl (j_enter (L := [some (.ref a2), some (.int ((1 : Int32)))]) me_Mo_isFine (cat_c rfl (cat_c rfl cat_n)) (Nat.le_of_ble_eq_true rfl) rfl ?_)
      refine j_aload_n d_Mo_isFine_0 rfl ?_
      refine j_iload_n d_Mo_isFine_1 rfl ?_
      refine j_putI (f := 640) fw_Mo_139 rfl rfl t14 d_Mo_isFine_2 ?_
      refine j_iload_n d_Mo_isFine_5 rfl ?_
      refine j_if_ne (tgt := 13) d_Mo_isFine_6 (by decide) (fun _ => ?_) (fun c => absurd c (by decide))
      refine j_iconst (v := 0) d_Mo_isFine_13 (by decide) ?_
      refine j_zret rfl (by decide) d_Mo_isFine_14 ?_
      show J E 2 m_Mo_job 114 [some (.ref a2), some (.int ((gA G a0 n3))), some (.int ((gA G a0 n5))), some (.int ((gA G a0 n7))), some (.int ((gA G a0 n9))), some (.int ((gA G a0 n11))), some (.int ((0 : Int32))), some (.int ((0 : Int32))), some (.int ((0 : Int32)))] [.int ((0 : Int32))] (sI G 640 a2 ((1 : Int32))) (aft E 14 m_La_law 241 [some (.ref a0), some (.ref a1), some (.ref a2), some (.ref a3), some (.int p4), some (.int s0), none] [] Post)
      refine j_if_eq (tgt := 159) d_Mo_job_114 (by decide) (fun _ => ?_) (fun c => absurd c (by decide))
      refine j_vret rfl d_Mo_job_159 ?_
      show J E 14 m_La_law 244 [some (.ref a0), some (.ref a1), some (.ref a2), some (.ref a3), some (.int p4), some (.int s0), none] [] (sI G 640 a2 ((1 : Int32))) Post
      refine j_aload_n d_La_law_244 rfl ?_
      refine j_callV (d' := 1) (ci := 10) (As := []) (rest := []) (b := a2) cv_La_80 me_Mo_thrown rfl (by decide) rfl rfl t14 rfl rfl (Nat.le_of_ble_eq_true rfl) d_La_law_245 (by decide) rfl (j_enter (L := [some (.ref a2)]) me_Mo_thrown (cat_c rfl cat_n) (Nat.le_of_ble_eq_true rfl) rfl ?_)
      refine j_aload_n d_Mo_thrown_0 rfl ?_
      refine j_getIv (f := 640) (v := ((1 : Int32))) fe_Mo_139 rfl rfl t14 (show gI (sI G 640 a2 ((1 : Int32))) 640 a2 = _ from gI_sI_eq) d_Mo_thrown_1 ?_
      refine j_iret rfl d_Mo_thrown_4 ?_
      show J E 14 m_La_law 248 [some (.ref a0), some (.ref a1), some (.ref a2), some (.ref a3), some (.int p4), some (.int s0), none] [.int (((1 : Int32)))] (sI G 640 a2 ((1 : Int32))) Post
      refine j_iload d_La_law_248 rfl ?_
      obtain ⟨Ha, Hb⟩ := H
      refine j_icmp_eq (tgt := 255) d_La_law_250 (by decide) (fun c15 => ?_) (fun c16 => ?_)
      · have H := Ha c15
        refine j_goto (tgt := 1295) d_La_law_255 (by decide) ?_
        refine j_iinc (v := (p4 + (7 : Int32))) (L' := [some (.ref a0), some (.ref a1), some (.ref a2), some (.ref a3), some (.int ((p4 + (7 : Int32)))), some (.int s0), none]) d_La_law_1295 rfl (by rw [show Int32.ofInt (7) = (7 : Int32) by decide]) (by decide) rfl ?_
        refine j_goto (tgt := 23) d_La_law_1298 (by decide) ?_
        refine j_forget (L' := [some (.ref a0), some (.ref a1), some (.ref a2), some (.ref a3), some (.int ((p4 + (7 : Int32)))), none, none]) ⟨Or.inr rfl, Or.inr rfl, Or.inr rfl, Or.inr rfl, Or.inr rfl, Or.inl rfl, Or.inl rfl, trivial⟩ ?_
        exact H
      · have H := Hb c16
        refine j_iconst (v := 0) d_La_law_253 (by decide) ?_
        exact j_zret rfl (by decide) d_La_law_254 H
    · have H := Hb c89
      refine j_iload_n d_Mo_isIn_5 rfl ?_
      refine j_iload_n d_Mo_isIn_6 rfl ?_
      obtain ⟨Ha, Hb⟩ := H
      refine j_icmp_gt (tgt := 14) d_Mo_isIn_7 (by decide) (fun c86 => ?_) (fun c87 => ?_)
      · have H := Ha c86
        refine j_iconst (v := 0) d_Mo_isIn_14 (by decide) ?_
        refine j_zret rfl (by decide) d_Mo_isIn_15 ?_
        show J E 2 m_Mo_job 6 [some (.ref a2), some (.int ((gA G a0 n3))), some (.int ((gA G a0 n5))), some (.int ((gA G a0 n7))), some (.int ((gA G a0 n9))), some (.int ((gA G a0 n11))), some (.int ((0 : Int32))), none, none] [.int ((0 : Int32))] G (aft E 14 m_La_law 241 [some (.ref a0), some (.ref a1), some (.ref a2), some (.ref a3), some (.int p4), some (.int s0), none] [] Post)
        refine j_if_eq (tgt := 48) d_Mo_job_6 (by decide) (fun _ => ?_) (fun c => absurd c (by decide))
        refine j_iconst (v := 0) d_Mo_job_48 (by decide) ?_
        refine j_istore (L' := [some (.ref a2), some (.int ((gA G a0 n3))), some (.int ((gA G a0 n5))), some (.int ((gA G a0 n7))), some (.int ((gA G a0 n9))), some (.int ((gA G a0 n11))), some (.int ((0 : Int32))), some (.int ((0 : Int32))), none]) d_Mo_job_49 (by decide) rfl ?_
        refine j_iload d_Mo_job_51 rfl ?_
        refine j_if_eq (tgt := 86) d_Mo_job_53 (by decide) (fun _ => ?_) (fun c => absurd c (by decide))
        refine j_iconst (v := 0) d_Mo_job_86 (by decide) ?_
        refine j_istore (L' := [some (.ref a2), some (.int ((gA G a0 n3))), some (.int ((gA G a0 n5))), some (.int ((gA G a0 n7))), some (.int ((gA G a0 n9))), some (.int ((gA G a0 n11))), some (.int ((0 : Int32))), some (.int ((0 : Int32))), some (.int ((0 : Int32)))]) d_Mo_job_87 (by decide) rfl ?_
        refine j_aload_n d_Mo_job_89 rfl ?_
        refine j_iload d_Mo_job_90 rfl ?_
        refine j_if_ne (tgt := 99) d_Mo_job_92 (by decide) (fun c => absurd c (by decide)) (fun _ => ?_)
        refine j_iconst (v := 1) d_Mo_job_95 (by decide) ?_
        refine j_goto (tgt := 111) d_Mo_job_96 (by decide) ?_
        refine j_callV (d' := 1) (ci := 10) (As := [.int ((1 : Int32))]) (rest := []) (b := a2) cv_Mo_149 me_Mo_isFine rfl (by decide) rfl rfl t14 rfl rfl (Nat.le_of_ble_eq_true rfl) d_Mo_job_111 (by decide) rfl (j_enter (L := [some (.ref a2), some (.int ((1 : Int32)))]) me_Mo_isFine (cat_c rfl (cat_c rfl cat_n)) (Nat.le_of_ble_eq_true rfl) rfl ?_)
        refine j_aload_n d_Mo_isFine_0 rfl ?_
        refine j_iload_n d_Mo_isFine_1 rfl ?_
        refine j_putI (f := 640) fw_Mo_139 rfl rfl t14 d_Mo_isFine_2 ?_
        refine j_iload_n d_Mo_isFine_5 rfl ?_
        refine j_if_ne (tgt := 13) d_Mo_isFine_6 (by decide) (fun _ => ?_) (fun c => absurd c (by decide))
        refine j_iconst (v := 0) d_Mo_isFine_13 (by decide) ?_
        refine j_zret rfl (by decide) d_Mo_isFine_14 ?_
        show J E 2 m_Mo_job 114 [some (.ref a2), some (.int ((gA G a0 n3))), some (.int ((gA G a0 n5))), some (.int ((gA G a0 n7))), some (.int ((gA G a0 n9))), some (.int ((gA G a0 n11))), some (.int ((0 : Int32))), some (.int ((0 : Int32))), some (.int ((0 : Int32)))] [.int ((0 : Int32))] (sI G 640 a2 ((1 : Int32))) (aft E 14 m_La_law 241 [some (.ref a0), some (.ref a1), some (.ref a2), some (.ref a3), some (.int p4), some (.int s0), none] [] Post)
        refine j_if_eq (tgt := 159) d_Mo_job_114 (by decide) (fun _ => ?_) (fun c => absurd c (by decide))
        refine j_vret rfl d_Mo_job_159 ?_
        show J E 14 m_La_law 244 [some (.ref a0), some (.ref a1), some (.ref a2), some (.ref a3), some (.int p4), some (.int s0), none] [] (sI G 640 a2 ((1 : Int32))) Post
        refine j_aload_n d_La_law_244 rfl ?_
        refine j_callV (d' := 1) (ci := 10) (As := []) (rest := []) (b := a2) cv_La_80 me_Mo_thrown rfl (by decide) rfl rfl t14 rfl rfl (Nat.le_of_ble_eq_true rfl) d_La_law_245 (by decide) rfl (j_enter (L := [some (.ref a2)]) me_Mo_thrown (cat_c rfl cat_n) (Nat.le_of_ble_eq_true rfl) rfl ?_)
        refine j_aload_n d_Mo_thrown_0 rfl ?_
        refine j_getIv (f := 640) (v := ((1 : Int32))) fe_Mo_139 rfl rfl t14 (show gI (sI G 640 a2 ((1 : Int32))) 640 a2 = _ from gI_sI_eq) d_Mo_thrown_1 ?_
        refine j_iret rfl d_Mo_thrown_4 ?_
        show J E 14 m_La_law 248 [some (.ref a0), some (.ref a1), some (.ref a2), some (.ref a3), some (.int p4), some (.int s0), none] [.int (((1 : Int32)))] (sI G 640 a2 ((1 : Int32))) Post
        refine j_iload d_La_law_248 rfl ?_
        obtain ⟨Ha, Hb⟩ := H
        refine j_icmp_eq (tgt := 255) d_La_law_250 (by decide) (fun c17 => ?_) (fun c18 => ?_)
        · have H := Ha c17
          refine j_goto (tgt := 1295) d_La_law_255 (by decide) ?_
          refine j_iinc (v := (p4 + (7 : Int32))) (L' := [some (.ref a0), some (.ref a1), some (.ref a2), some (.ref a3), some (.int ((p4 + (7 : Int32)))), some (.int s0), none]) d_La_law_1295 rfl (by rw [show Int32.ofInt (7) = (7 : Int32) by decide]) (by decide) rfl ?_
          refine j_goto (tgt := 23) d_La_law_1298 (by decide) ?_
          refine j_forget (L' := [some (.ref a0), some (.ref a1), some (.ref a2), some (.ref a3), some (.int ((p4 + (7 : Int32)))), none, none]) ⟨Or.inr rfl, Or.inr rfl, Or.inr rfl, Or.inr rfl, Or.inr rfl, Or.inl rfl, Or.inl rfl, trivial⟩ ?_
          exact H
        · have H := Hb c18
          refine j_iconst (v := 0) d_La_law_253 (by decide) ?_
          exact j_zret rfl (by decide) d_La_law_254 H
      · have H := Hb c87
        refine j_iconst (v := 1) d_Mo_isIn_10 (by decide) ?_
        refine j_goto (tgt := 15) d_Mo_isIn_11 (by decide) ?_
        refine j_zret rfl (by decide) d_Mo_isIn_15 ?_
        show J E 2 m_Mo_job 6 [some (.ref a2), some (.int ((gA G a0 n3))), some (.int ((gA G a0 n5))), some (.int ((gA G a0 n7))), some (.int ((gA G a0 n9))), some (.int ((gA G a0 n11))), some (.int ((0 : Int32))), none, none] [.int ((1 : Int32))] G (aft E 14 m_La_law 241 [some (.ref a0), some (.ref a1), some (.ref a2), some (.ref a3), some (.int p4), some (.int s0), none] [] Post)
        refine j_if_eq (tgt := 48) d_Mo_job_6 (by decide) (fun c => absurd c (by decide)) (fun _ => ?_)
        refine j_iload_n d_Mo_job_9 rfl ?_
        refine j_iconst (v := 1) d_Mo_job_10 (by decide) ?_
        refine j_sipush (v := 200) d_Mo_job_11 (by decide) ?_
        refine j_callS (d' := 1) (As := [.int ((gA G a0 n5)), .int ((1 : Int32)), .int ((200 : Int32))]) (rest := []) cs_Mo_142 me_Mo_isIn rfl (by decide) rfl rfl (Nat.le_of_ble_eq_true rfl) d_Mo_job_14 (by decide) rfl (j_enter (L := [some (.int ((gA G a0 n5))), some (.int ((1 : Int32))), some (.int ((200 : Int32)))]) me_Mo_isIn (cat_c rfl (cat_c rfl (cat_c rfl cat_n))) (Nat.le_of_ble_eq_true rfl) rfl ?_)
        refine j_iload_n d_Mo_isIn_0 rfl ?_
        refine j_iload_n d_Mo_isIn_1 rfl ?_
        obtain ⟨Ha, Hb⟩ := H
        refine j_icmp_lt (tgt := 14) d_Mo_isIn_2 (by decide) (fun c84 => ?_) (fun c85 => ?_)
        · have H := Ha c84
          refine j_iconst (v := 0) d_Mo_isIn_14 (by decide) ?_
          refine j_zret rfl (by decide) d_Mo_isIn_15 ?_
          show J E 2 m_Mo_job 17 [some (.ref a2), some (.int ((gA G a0 n3))), some (.int ((gA G a0 n5))), some (.int ((gA G a0 n7))), some (.int ((gA G a0 n9))), some (.int ((gA G a0 n11))), some (.int ((0 : Int32))), none, none] [.int ((0 : Int32))] G (aft E 14 m_La_law 241 [some (.ref a0), some (.ref a1), some (.ref a2), some (.ref a3), some (.int p4), some (.int s0), none] [] Post)
          refine j_if_eq (tgt := 48) d_Mo_job_17 (by decide) (fun _ => ?_) (fun c => absurd c (by decide))
          refine j_iconst (v := 0) d_Mo_job_48 (by decide) ?_
          refine j_istore (L' := [some (.ref a2), some (.int ((gA G a0 n3))), some (.int ((gA G a0 n5))), some (.int ((gA G a0 n7))), some (.int ((gA G a0 n9))), some (.int ((gA G a0 n11))), some (.int ((0 : Int32))), some (.int ((0 : Int32))), none]) d_Mo_job_49 (by decide) rfl ?_
          refine j_iload d_Mo_job_51 rfl ?_
          refine j_if_eq (tgt := 86) d_Mo_job_53 (by decide) (fun _ => ?_) (fun c => absurd c (by decide))
          refine j_iconst (v := 0) d_Mo_job_86 (by decide) ?_
          refine j_istore (L' := [some (.ref a2), some (.int ((gA G a0 n3))), some (.int ((gA G a0 n5))), some (.int ((gA G a0 n7))), some (.int ((gA G a0 n9))), some (.int ((gA G a0 n11))), some (.int ((0 : Int32))), some (.int ((0 : Int32))), some (.int ((0 : Int32)))]) d_Mo_job_87 (by decide) rfl ?_
          refine j_aload_n d_Mo_job_89 rfl ?_
          refine j_iload d_Mo_job_90 rfl ?_
          refine j_if_ne (tgt := 99) d_Mo_job_92 (by decide) (fun c => absurd c (by decide)) (fun _ => ?_)
          refine j_iconst (v := 1) d_Mo_job_95 (by decide) ?_
          refine j_goto (tgt := 111) d_Mo_job_96 (by decide) ?_
          refine j_callV (d' := 1) (ci := 10) (As := [.int ((1 : Int32))]) (rest := []) (b := a2) cv_Mo_149 me_Mo_isFine rfl (by decide) rfl rfl t14 rfl rfl (Nat.le_of_ble_eq_true rfl) d_Mo_job_111 (by decide) rfl (j_enter (L := [some (.ref a2), some (.int ((1 : Int32)))]) me_Mo_isFine (cat_c rfl (cat_c rfl cat_n)) (Nat.le_of_ble_eq_true rfl) rfl ?_)
          refine j_aload_n d_Mo_isFine_0 rfl ?_
          refine j_iload_n d_Mo_isFine_1 rfl ?_
          refine j_putI (f := 640) fw_Mo_139 rfl rfl t14 d_Mo_isFine_2 ?_
          refine j_iload_n d_Mo_isFine_5 rfl ?_
          refine j_if_ne (tgt := 13) d_Mo_isFine_6 (by decide) (fun _ => ?_) (fun c => absurd c (by decide))
          refine j_iconst (v := 0) d_Mo_isFine_13 (by decide) ?_
          refine j_zret rfl (by decide) d_Mo_isFine_14 ?_
          show J E 2 m_Mo_job 114 [some (.ref a2), some (.int ((gA G a0 n3))), some (.int ((gA G a0 n5))), some (.int ((gA G a0 n7))), some (.int ((gA G a0 n9))), some (.int ((gA G a0 n11))), some (.int ((0 : Int32))), some (.int ((0 : Int32))), some (.int ((0 : Int32)))] [.int ((0 : Int32))] (sI G 640 a2 ((1 : Int32))) (aft E 14 m_La_law 241 [some (.ref a0), some (.ref a1), some (.ref a2), some (.ref a3), some (.int p4), some (.int s0), none] [] Post)
          refine j_if_eq (tgt := 159) d_Mo_job_114 (by decide) (fun _ => ?_) (fun c => absurd c (by decide))
          refine j_vret rfl d_Mo_job_159 ?_
          show J E 14 m_La_law 244 [some (.ref a0), some (.ref a1), some (.ref a2), some (.ref a3), some (.int p4), some (.int s0), none] [] (sI G 640 a2 ((1 : Int32))) Post
          refine j_aload_n d_La_law_244 rfl ?_
          refine j_callV (d' := 1) (ci := 10) (As := []) (rest := []) (b := a2) cv_La_80 me_Mo_thrown rfl (by decide) rfl rfl t14 rfl rfl (Nat.le_of_ble_eq_true rfl) d_La_law_245 (by decide) rfl (j_enter (L := [some (.ref a2)]) me_Mo_thrown (cat_c rfl cat_n) (Nat.le_of_ble_eq_true rfl) rfl ?_)
          refine j_aload_n d_Mo_thrown_0 rfl ?_
          refine j_getIv (f := 640) (v := ((1 : Int32))) fe_Mo_139 rfl rfl t14 (show gI (sI G 640 a2 ((1 : Int32))) 640 a2 = _ from gI_sI_eq) d_Mo_thrown_1 ?_
          refine j_iret rfl d_Mo_thrown_4 ?_
          show J E 14 m_La_law 248 [some (.ref a0), some (.ref a1), some (.ref a2), some (.ref a3), some (.int p4), some (.int s0), none] [.int (((1 : Int32)))] (sI G 640 a2 ((1 : Int32))) Post
          refine j_iload d_La_law_248 rfl ?_
          obtain ⟨Ha, Hb⟩ := H
          refine j_icmp_eq (tgt := 255) d_La_law_250 (by decide) (fun c19 => ?_) (fun c20 => ?_)
          · have H := Ha c19
            refine j_goto (tgt := 1295) d_La_law_255 (by decide) ?_
            refine j_iinc (v := (p4 + (7 : Int32))) (L' := [some (.ref a0), some (.ref a1), some (.ref a2), some (.ref a3), some (.int ((p4 + (7 : Int32)))), some (.int s0), none]) d_La_law_1295 rfl (by rw [show Int32.ofInt (7) = (7 : Int32) by decide]) (by decide) rfl ?_
            refine j_goto (tgt := 23) d_La_law_1298 (by decide) ?_
            refine j_forget (L' := [some (.ref a0), some (.ref a1), some (.ref a2), some (.ref a3), some (.int ((p4 + (7 : Int32)))), none, none]) ⟨Or.inr rfl, Or.inr rfl, Or.inr rfl, Or.inr rfl, Or.inr rfl, Or.inl rfl, Or.inl rfl, trivial⟩ ?_
            exact H
          · have H := Hb c20
            refine j_iconst (v := 0) d_La_law_253 (by decide) ?_
            exact j_zret rfl (by decide) d_La_law_254 H
        · have H := Hb c85
          refine j_iload_n d_Mo_isIn_5 rfl ?_
          refine j_iload_n d_Mo_isIn_6 rfl ?_
          obtain ⟨Ha, Hb⟩ := H
          refine j_icmp_gt (tgt := 14) d_Mo_isIn_7 (by decide) (fun c82 => ?_) (fun c83 => ?_)
          · have H := Ha c82
            refine j_iconst (v := 0) d_Mo_isIn_14 (by decide) ?_
            refine j_zret rfl (by decide) d_Mo_isIn_15 ?_
            show J E 2 m_Mo_job 17 [some (.ref a2), some (.int ((gA G a0 n3))), some (.int ((gA G a0 n5))), some (.int ((gA G a0 n7))), some (.int ((gA G a0 n9))), some (.int ((gA G a0 n11))), some (.int ((0 : Int32))), none, none] [.int ((0 : Int32))] G (aft E 14 m_La_law 241 [some (.ref a0), some (.ref a1), some (.ref a2), some (.ref a3), some (.int p4), some (.int s0), none] [] Post)
            refine j_if_eq (tgt := 48) d_Mo_job_17 (by decide) (fun _ => ?_) (fun c => absurd c (by decide))
            refine j_iconst (v := 0) d_Mo_job_48 (by decide) ?_
            refine j_istore (L' := [some (.ref a2), some (.int ((gA G a0 n3))), some (.int ((gA G a0 n5))), some (.int ((gA G a0 n7))), some (.int ((gA G a0 n9))), some (.int ((gA G a0 n11))), some (.int ((0 : Int32))), some (.int ((0 : Int32))), none]) d_Mo_job_49 (by decide) rfl ?_
            refine j_iload d_Mo_job_51 rfl ?_
            refine j_if_eq (tgt := 86) d_Mo_job_53 (by decide) (fun _ => ?_) (fun c => absurd c (by decide))
            refine j_iconst (v := 0) d_Mo_job_86 (by decide) ?_
            refine j_istore (L' := [some (.ref a2), some (.int ((gA G a0 n3))), some (.int ((gA G a0 n5))), some (.int ((gA G a0 n7))), some (.int ((gA G a0 n9))), some (.int ((gA G a0 n11))), some (.int ((0 : Int32))), some (.int ((0 : Int32))), some (.int ((0 : Int32)))]) d_Mo_job_87 (by decide) rfl ?_
            refine j_aload_n d_Mo_job_89 rfl ?_
            refine j_iload d_Mo_job_90 rfl ?_
            refine j_if_ne (tgt := 99) d_Mo_job_92 (by decide) (fun c => absurd c (by decide)) (fun _ => ?_)
            refine j_iconst (v := 1) d_Mo_job_95 (by decide) ?_
            refine j_goto (tgt := 111) d_Mo_job_96 (by decide) ?_
            refine j_callV (d' := 1) (ci := 10) (As := [.int ((1 : Int32))]) (rest := []) (b := a2) cv_Mo_149 me_Mo_isFine rfl (by decide) rfl rfl t14 rfl rfl (Nat.le_of_ble_eq_true rfl) d_Mo_job_111 (by decide) rfl (j_enter (L := [some (.ref a2), some (.int ((1 : Int32)))]) me_Mo_isFine (cat_c rfl (cat_c rfl cat_n)) (Nat.le_of_ble_eq_true rfl) rfl ?_)
            refine j_aload_n d_Mo_isFine_0 rfl ?_
            refine j_iload_n d_Mo_isFine_1 rfl ?_
            refine j_putI (f := 640) fw_Mo_139 rfl rfl t14 d_Mo_isFine_2 ?_
            refine j_iload_n d_Mo_isFine_5 rfl ?_
            refine j_if_ne (tgt := 13) d_Mo_isFine_6 (by decide) (fun _ => ?_) (fun c => absurd c (by decide))
            refine j_iconst (v := 0) d_Mo_isFine_13 (by decide) ?_
            refine j_zret rfl (by decide) d_Mo_isFine_14 ?_
            show J E 2 m_Mo_job 114 [some (.ref a2), some (.int ((gA G a0 n3))), some (.int ((gA G a0 n5))), some (.int ((gA G a0 n7))), some (.int ((gA G a0 n9))), some (.int ((gA G a0 n11))), some (.int ((0 : Int32))), some (.int ((0 : Int32))), some (.int ((0 : Int32)))] [.int ((0 : Int32))] (sI G 640 a2 ((1 : Int32))) (aft E 14 m_La_law 241 [some (.ref a0), some (.ref a1), some (.ref a2), some (.ref a3), some (.int p4), some (.int s0), none] [] Post)
            refine j_if_eq (tgt := 159) d_Mo_job_114 (by decide) (fun _ => ?_) (fun c => absurd c (by decide))
            refine j_vret rfl d_Mo_job_159 ?_
            show J E 14 m_La_law 244 [some (.ref a0), some (.ref a1), some (.ref a2), some (.ref a3), some (.int p4), some (.int s0), none] [] (sI G 640 a2 ((1 : Int32))) Post
            refine j_aload_n d_La_law_244 rfl ?_
            refine j_callV (d' := 1) (ci := 10) (As := []) (rest := []) (b := a2) cv_La_80 me_Mo_thrown rfl (by decide) rfl rfl t14 rfl rfl (Nat.le_of_ble_eq_true rfl) d_La_law_245 (by decide) rfl (j_enter (L := [some (.ref a2)]) me_Mo_thrown (cat_c rfl cat_n) (Nat.le_of_ble_eq_true rfl) rfl ?_)
            refine j_aload_n d_Mo_thrown_0 rfl ?_
            refine j_getIv (f := 640) (v := ((1 : Int32))) fe_Mo_139 rfl rfl t14 (show gI (sI G 640 a2 ((1 : Int32))) 640 a2 = _ from gI_sI_eq) d_Mo_thrown_1 ?_
            refine j_iret rfl d_Mo_thrown_4 ?_
            show J E 14 m_La_law 248 [some (.ref a0), some (.ref a1), some (.ref a2), some (.ref a3), some (.int p4), some (.int s0), none] [.int (((1 : Int32)))] (sI G 640 a2 ((1 : Int32))) Post
            refine j_iload d_La_law_248 rfl ?_
            obtain ⟨Ha, Hb⟩ := H
            refine j_icmp_eq (tgt := 255) d_La_law_250 (by decide) (fun c21 => ?_) (fun c22 => ?_)
            · have H := Ha c21
              refine j_goto (tgt := 1295) d_La_law_255 (by decide) ?_
              refine j_iinc (v := (p4 + (7 : Int32))) (L' := [some (.ref a0), some (.ref a1), some (.ref a2), some (.ref a3), some (.int ((p4 + (7 : Int32)))), some (.int s0), none]) d_La_law_1295 rfl (by rw [show Int32.ofInt (7) = (7 : Int32) by decide]) (by decide) rfl ?_
              refine j_goto (tgt := 23) d_La_law_1298 (by decide) ?_
              refine j_forget (L' := [some (.ref a0), some (.ref a1), some (.ref a2), some (.ref a3), some (.int ((p4 + (7 : Int32)))), none, none]) ⟨Or.inr rfl, Or.inr rfl, Or.inr rfl, Or.inr rfl, Or.inr rfl, Or.inl rfl, Or.inl rfl, trivial⟩ ?_
              exact H
            · have H := Hb c22
              refine j_iconst (v := 0) d_La_law_253 (by decide) ?_
              exact j_zret rfl (by decide) d_La_law_254 H
          · have H := Hb c83
            refine j_iconst (v := 1) d_Mo_isIn_10 (by decide) ?_
            refine j_goto (tgt := 15) d_Mo_isIn_11 (by decide) ?_
            refine j_zret rfl (by decide) d_Mo_isIn_15 ?_
            show J E 2 m_Mo_job 17 [some (.ref a2), some (.int ((gA G a0 n3))), some (.int ((gA G a0 n5))), some (.int ((gA G a0 n7))), some (.int ((gA G a0 n9))), some (.int ((gA G a0 n11))), some (.int ((0 : Int32))), none, none] [.int ((1 : Int32))] G (aft E 14 m_La_law 241 [some (.ref a0), some (.ref a1), some (.ref a2), some (.ref a3), some (.int p4), some (.int s0), none] [] Post)
            refine j_if_eq (tgt := 48) d_Mo_job_17 (by decide) (fun c => absurd c (by decide)) (fun _ => ?_)
            refine j_iload d_Mo_job_20 rfl ?_
            refine j_iconst (v := 0) d_Mo_job_22 (by decide) ?_
            refine j_sipush (v := 200) d_Mo_job_23 (by decide) ?_
            refine j_callS (d' := 1) (As := [.int ((gA G a0 n9)), .int ((0 : Int32)), .int ((200 : Int32))]) (rest := []) cs_Mo_142 me_Mo_isIn rfl (by decide) rfl rfl (Nat.le_of_ble_eq_true rfl) d_Mo_job_26 (by decide) rfl (j_enter (L := [some (.int ((gA G a0 n9))), some (.int ((0 : Int32))), some (.int ((200 : Int32)))]) me_Mo_isIn (cat_c rfl (cat_c rfl (cat_c rfl cat_n))) (Nat.le_of_ble_eq_true rfl) rfl ?_)
            refine j_iload_n d_Mo_isIn_0 rfl ?_
            refine j_iload_n d_Mo_isIn_1 rfl ?_
            obtain ⟨Ha, Hb⟩ := H
            refine j_icmp_lt (tgt := 14) d_Mo_isIn_2 (by decide) (fun c80 => ?_) (fun c81 => ?_)
            · have H := Ha c80
              refine j_iconst (v := 0) d_Mo_isIn_14 (by decide) ?_
              refine j_zret rfl (by decide) d_Mo_isIn_15 ?_
              show J E 2 m_Mo_job 29 [some (.ref a2), some (.int ((gA G a0 n3))), some (.int ((gA G a0 n5))), some (.int ((gA G a0 n7))), some (.int ((gA G a0 n9))), some (.int ((gA G a0 n11))), some (.int ((0 : Int32))), none, none] [.int ((0 : Int32))] G (aft E 14 m_La_law 241 [some (.ref a0), some (.ref a1), some (.ref a2), some (.ref a3), some (.int p4), some (.int s0), none] [] Post)
              refine j_if_eq (tgt := 48) d_Mo_job_29 (by decide) (fun _ => ?_) (fun c => absurd c (by decide))
              refine j_iconst (v := 0) d_Mo_job_48 (by decide) ?_
              refine j_istore (L' := [some (.ref a2), some (.int ((gA G a0 n3))), some (.int ((gA G a0 n5))), some (.int ((gA G a0 n7))), some (.int ((gA G a0 n9))), some (.int ((gA G a0 n11))), some (.int ((0 : Int32))), some (.int ((0 : Int32))), none]) d_Mo_job_49 (by decide) rfl ?_
              refine j_iload d_Mo_job_51 rfl ?_
              refine j_if_eq (tgt := 86) d_Mo_job_53 (by decide) (fun _ => ?_) (fun c => absurd c (by decide))
              refine j_iconst (v := 0) d_Mo_job_86 (by decide) ?_
              refine j_istore (L' := [some (.ref a2), some (.int ((gA G a0 n3))), some (.int ((gA G a0 n5))), some (.int ((gA G a0 n7))), some (.int ((gA G a0 n9))), some (.int ((gA G a0 n11))), some (.int ((0 : Int32))), some (.int ((0 : Int32))), some (.int ((0 : Int32)))]) d_Mo_job_87 (by decide) rfl ?_
              refine j_aload_n d_Mo_job_89 rfl ?_
              refine j_iload d_Mo_job_90 rfl ?_
              refine j_if_ne (tgt := 99) d_Mo_job_92 (by decide) (fun c => absurd c (by decide)) (fun _ => ?_)
              refine j_iconst (v := 1) d_Mo_job_95 (by decide) ?_
              refine j_goto (tgt := 111) d_Mo_job_96 (by decide) ?_
              refine j_callV (d' := 1) (ci := 10) (As := [.int ((1 : Int32))]) (rest := []) (b := a2) cv_Mo_149 me_Mo_isFine rfl (by decide) rfl rfl t14 rfl rfl (Nat.le_of_ble_eq_true rfl) d_Mo_job_111 (by decide) rfl (j_enter (L := [some (.ref a2), some (.int ((1 : Int32)))]) me_Mo_isFine (cat_c rfl (cat_c rfl cat_n)) (Nat.le_of_ble_eq_true rfl) rfl ?_)
              refine j_aload_n d_Mo_isFine_0 rfl ?_
              refine j_iload_n d_Mo_isFine_1 rfl ?_
              refine j_putI (f := 640) fw_Mo_139 rfl rfl t14 d_Mo_isFine_2 ?_
              refine j_iload_n d_Mo_isFine_5 rfl ?_
              refine j_if_ne (tgt := 13) d_Mo_isFine_6 (by decide) (fun _ => ?_) (fun c => absurd c (by decide))
              refine j_iconst (v := 0) d_Mo_isFine_13 (by decide) ?_
              refine j_zret rfl (by decide) d_Mo_isFine_14 ?_
              show J E 2 m_Mo_job 114 [some (.ref a2), some (.int ((gA G a0 n3))), some (.int ((gA G a0 n5))), some (.int ((gA G a0 n7))), some (.int ((gA G a0 n9))), some (.int ((gA G a0 n11))), some (.int ((0 : Int32))), some (.int ((0 : Int32))), some (.int ((0 : Int32)))] [.int ((0 : Int32))] (sI G 640 a2 ((1 : Int32))) (aft E 14 m_La_law 241 [some (.ref a0), some (.ref a1), some (.ref a2), some (.ref a3), some (.int p4), some (.int s0), none] [] Post)
              refine j_if_eq (tgt := 159) d_Mo_job_114 (by decide) (fun _ => ?_) (fun c => absurd c (by decide))
              refine j_vret rfl d_Mo_job_159 ?_
              show J E 14 m_La_law 244 [some (.ref a0), some (.ref a1), some (.ref a2), some (.ref a3), some (.int p4), some (.int s0), none] [] (sI G 640 a2 ((1 : Int32))) Post
              refine j_aload_n d_La_law_244 rfl ?_
              refine j_callV (d' := 1) (ci := 10) (As := []) (rest := []) (b := a2) cv_La_80 me_Mo_thrown rfl (by decide) rfl rfl t14 rfl rfl (Nat.le_of_ble_eq_true rfl) d_La_law_245 (by decide) rfl (j_enter (L := [some (.ref a2)]) me_Mo_thrown (cat_c rfl cat_n) (Nat.le_of_ble_eq_true rfl) rfl ?_)
              refine j_aload_n d_Mo_thrown_0 rfl ?_
              refine j_getIv (f := 640) (v := ((1 : Int32))) fe_Mo_139 rfl rfl t14 (show gI (sI G 640 a2 ((1 : Int32))) 640 a2 = _ from gI_sI_eq) d_Mo_thrown_1 ?_
              refine j_iret rfl d_Mo_thrown_4 ?_
              show J E 14 m_La_law 248 [some (.ref a0), some (.ref a1), some (.ref a2), some (.ref a3), some (.int p4), some (.int s0), none] [.int (((1 : Int32)))] (sI G 640 a2 ((1 : Int32))) Post
              refine j_iload d_La_law_248 rfl ?_
              obtain ⟨Ha, Hb⟩ := H
              refine j_icmp_eq (tgt := 255) d_La_law_250 (by decide) (fun c23 => ?_) (fun c24 => ?_)
              · have H := Ha c23
                refine j_goto (tgt := 1295) d_La_law_255 (by decide) ?_
                refine j_iinc (v := (p4 + (7 : Int32))) (L' := [some (.ref a0), some (.ref a1), some (.ref a2), some (.ref a3), some (.int ((p4 + (7 : Int32)))), some (.int s0), none]) d_La_law_1295 rfl (by rw [show Int32.ofInt (7) = (7 : Int32) by decide]) (by decide) rfl ?_
                refine j_goto (tgt := 23) d_La_law_1298 (by decide) ?_
                refine j_forget (L' := [some (.ref a0), some (.ref a1), some (.ref a2), some (.ref a3), some (.int ((p4 + (7 : Int32)))), none, none]) ⟨Or.inr rfl, Or.inr rfl, Or.inr rfl, Or.inr rfl, Or.inr rfl, Or.inl rfl, Or.inl rfl, trivial⟩ ?_
                exact H
              · have H := Hb c24
                refine j_iconst (v := 0) d_La_law_253 (by decide) ?_
                exact j_zret rfl (by decide) d_La_law_254 H
            · have H := Hb c81
              refine j_iload_n d_Mo_isIn_5 rfl ?_
              refine j_iload_n d_Mo_isIn_6 rfl ?_
              obtain ⟨Ha, Hb⟩ := H
              refine j_icmp_gt (tgt := 14) d_Mo_isIn_7 (by decide) (fun c78 => ?_) (fun c79 => ?_)
              · have H := Ha c78
                refine j_iconst (v := 0) d_Mo_isIn_14 (by decide) ?_
                refine j_zret rfl (by decide) d_Mo_isIn_15 ?_
                show J E 2 m_Mo_job 29 [some (.ref a2), some (.int ((gA G a0 n3))), some (.int ((gA G a0 n5))), some (.int ((gA G a0 n7))), some (.int ((gA G a0 n9))), some (.int ((gA G a0 n11))), some (.int ((0 : Int32))), none, none] [.int ((0 : Int32))] G (aft E 14 m_La_law 241 [some (.ref a0), some (.ref a1), some (.ref a2), some (.ref a3), some (.int p4), some (.int s0), none] [] Post)
                refine j_if_eq (tgt := 48) d_Mo_job_29 (by decide) (fun _ => ?_) (fun c => absurd c (by decide))
                refine j_iconst (v := 0) d_Mo_job_48 (by decide) ?_
                refine j_istore (L' := [some (.ref a2), some (.int ((gA G a0 n3))), some (.int ((gA G a0 n5))), some (.int ((gA G a0 n7))), some (.int ((gA G a0 n9))), some (.int ((gA G a0 n11))), some (.int ((0 : Int32))), some (.int ((0 : Int32))), none]) d_Mo_job_49 (by decide) rfl ?_
                refine j_iload d_Mo_job_51 rfl ?_
                refine j_if_eq (tgt := 86) d_Mo_job_53 (by decide) (fun _ => ?_) (fun c => absurd c (by decide))
                refine j_iconst (v := 0) d_Mo_job_86 (by decide) ?_
                refine j_istore (L' := [some (.ref a2), some (.int ((gA G a0 n3))), some (.int ((gA G a0 n5))), some (.int ((gA G a0 n7))), some (.int ((gA G a0 n9))), some (.int ((gA G a0 n11))), some (.int ((0 : Int32))), some (.int ((0 : Int32))), some (.int ((0 : Int32)))]) d_Mo_job_87 (by decide) rfl ?_
                refine j_aload_n d_Mo_job_89 rfl ?_
                refine j_iload d_Mo_job_90 rfl ?_
                refine j_if_ne (tgt := 99) d_Mo_job_92 (by decide) (fun c => absurd c (by decide)) (fun _ => ?_)
                refine j_iconst (v := 1) d_Mo_job_95 (by decide) ?_
                refine j_goto (tgt := 111) d_Mo_job_96 (by decide) ?_
                refine j_callV (d' := 1) (ci := 10) (As := [.int ((1 : Int32))]) (rest := []) (b := a2) cv_Mo_149 me_Mo_isFine rfl (by decide) rfl rfl t14 rfl rfl (Nat.le_of_ble_eq_true rfl) d_Mo_job_111 (by decide) rfl (j_enter (L := [some (.ref a2), some (.int ((1 : Int32)))]) me_Mo_isFine (cat_c rfl (cat_c rfl cat_n)) (Nat.le_of_ble_eq_true rfl) rfl ?_)
                refine j_aload_n d_Mo_isFine_0 rfl ?_
                refine j_iload_n d_Mo_isFine_1 rfl ?_
                refine j_putI (f := 640) fw_Mo_139 rfl rfl t14 d_Mo_isFine_2 ?_
                refine j_iload_n d_Mo_isFine_5 rfl ?_
                refine j_if_ne (tgt := 13) d_Mo_isFine_6 (by decide) (fun _ => ?_) (fun c => absurd c (by decide))
                refine j_iconst (v := 0) d_Mo_isFine_13 (by decide) ?_
                refine j_zret rfl (by decide) d_Mo_isFine_14 ?_
                show J E 2 m_Mo_job 114 [some (.ref a2), some (.int ((gA G a0 n3))), some (.int ((gA G a0 n5))), some (.int ((gA G a0 n7))), some (.int ((gA G a0 n9))), some (.int ((gA G a0 n11))), some (.int ((0 : Int32))), some (.int ((0 : Int32))), some (.int ((0 : Int32)))] [.int ((0 : Int32))] (sI G 640 a2 ((1 : Int32))) (aft E 14 m_La_law 241 [some (.ref a0), some (.ref a1), some (.ref a2), some (.ref a3), some (.int p4), some (.int s0), none] [] Post)
                refine j_if_eq (tgt := 159) d_Mo_job_114 (by decide) (fun _ => ?_) (fun c => absurd c (by decide))
                refine j_vret rfl d_Mo_job_159 ?_
                show J E 14 m_La_law 244 [some (.ref a0), some (.ref a1), some (.ref a2), some (.ref a3), some (.int p4), some (.int s0), none] [] (sI G 640 a2 ((1 : Int32))) Post
                refine j_aload_n d_La_law_244 rfl ?_
                refine j_callV (d' := 1) (ci := 10) (As := []) (rest := []) (b := a2) cv_La_80 me_Mo_thrown rfl (by decide) rfl rfl t14 rfl rfl (Nat.le_of_ble_eq_true rfl) d_La_law_245 (by decide) rfl (j_enter (L := [some (.ref a2)]) me_Mo_thrown (cat_c rfl cat_n) (Nat.le_of_ble_eq_true rfl) rfl ?_)
                refine j_aload_n d_Mo_thrown_0 rfl ?_
                refine j_getIv (f := 640) (v := ((1 : Int32))) fe_Mo_139 rfl rfl t14 (show gI (sI G 640 a2 ((1 : Int32))) 640 a2 = _ from gI_sI_eq) d_Mo_thrown_1 ?_
                refine j_iret rfl d_Mo_thrown_4 ?_
                show J E 14 m_La_law 248 [some (.ref a0), some (.ref a1), some (.ref a2), some (.ref a3), some (.int p4), some (.int s0), none] [.int (((1 : Int32)))] (sI G 640 a2 ((1 : Int32))) Post
                refine j_iload d_La_law_248 rfl ?_
                obtain ⟨Ha, Hb⟩ := H
                refine j_icmp_eq (tgt := 255) d_La_law_250 (by decide) (fun c25 => ?_) (fun c26 => ?_)
                · have H := Ha c25
                  refine j_goto (tgt := 1295) d_La_law_255 (by decide) ?_
                  refine j_iinc (v := (p4 + (7 : Int32))) (L' := [some (.ref a0), some (.ref a1), some (.ref a2), some (.ref a3), some (.int ((p4 + (7 : Int32)))), some (.int s0), none]) d_La_law_1295 rfl (by rw [show Int32.ofInt (7) = (7 : Int32) by decide]) (by decide) rfl ?_
                  refine j_goto (tgt := 23) d_La_law_1298 (by decide) ?_
                  refine j_forget (L' := [some (.ref a0), some (.ref a1), some (.ref a2), some (.ref a3), some (.int ((p4 + (7 : Int32)))), none, none]) ⟨Or.inr rfl, Or.inr rfl, Or.inr rfl, Or.inr rfl, Or.inr rfl, Or.inl rfl, Or.inl rfl, trivial⟩ ?_
                  exact H
                · have H := Hb c26
                  refine j_iconst (v := 0) d_La_law_253 (by decide) ?_
                  exact j_zret rfl (by decide) d_La_law_254 H
              · have H := Hb c79
                refine j_iconst (v := 1) d_Mo_isIn_10 (by decide) ?_
                refine j_goto (tgt := 15) d_Mo_isIn_11 (by decide) ?_
                refine j_zret rfl (by decide) d_Mo_isIn_15 ?_
                show J E 2 m_Mo_job 29 [some (.ref a2), some (.int ((gA G a0 n3))), some (.int ((gA G a0 n5))), some (.int ((gA G a0 n7))), some (.int ((gA G a0 n9))), some (.int ((gA G a0 n11))), some (.int ((0 : Int32))), none, none] [.int ((1 : Int32))] G (aft E 14 m_La_law 241 [some (.ref a0), some (.ref a1), some (.ref a2), some (.ref a3), some (.int p4), some (.int s0), none] [] Post)
                refine j_if_eq (tgt := 48) d_Mo_job_29 (by decide) (fun c => absurd c (by decide)) (fun _ => ?_)
                refine j_iload d_Mo_job_32 rfl ?_
                refine j_iconst (v := 0) d_Mo_job_34 (by decide) ?_
                refine j_sipush (v := 200) d_Mo_job_35 (by decide) ?_
                refine j_callS (d' := 1) (As := [.int ((gA G a0 n11)), .int ((0 : Int32)), .int ((200 : Int32))]) (rest := []) cs_Mo_142 me_Mo_isIn rfl (by decide) rfl rfl (Nat.le_of_ble_eq_true rfl) d_Mo_job_38 (by decide) rfl (j_enter (L := [some (.int ((gA G a0 n11))), some (.int ((0 : Int32))), some (.int ((200 : Int32)))]) me_Mo_isIn (cat_c rfl (cat_c rfl (cat_c rfl cat_n))) (Nat.le_of_ble_eq_true rfl) rfl ?_)
                refine j_iload_n d_Mo_isIn_0 rfl ?_
                refine j_iload_n d_Mo_isIn_1 rfl ?_
                obtain ⟨Ha, Hb⟩ := H
                refine j_icmp_lt (tgt := 14) d_Mo_isIn_2 (by decide) (fun c76 => ?_) (fun c77 => ?_)
                · have H := Ha c76
                  refine j_iconst (v := 0) d_Mo_isIn_14 (by decide) ?_
                  refine j_zret rfl (by decide) d_Mo_isIn_15 ?_
                  show J E 2 m_Mo_job 41 [some (.ref a2), some (.int ((gA G a0 n3))), some (.int ((gA G a0 n5))), some (.int ((gA G a0 n7))), some (.int ((gA G a0 n9))), some (.int ((gA G a0 n11))), some (.int ((0 : Int32))), none, none] [.int ((0 : Int32))] G (aft E 14 m_La_law 241 [some (.ref a0), some (.ref a1), some (.ref a2), some (.ref a3), some (.int p4), some (.int s0), none] [] Post)
                  refine j_if_eq (tgt := 48) d_Mo_job_41 (by decide) (fun _ => ?_) (fun c => absurd c (by decide))
                  refine j_iconst (v := 0) d_Mo_job_48 (by decide) ?_
                  refine j_istore (L' := [some (.ref a2), some (.int ((gA G a0 n3))), some (.int ((gA G a0 n5))), some (.int ((gA G a0 n7))), some (.int ((gA G a0 n9))), some (.int ((gA G a0 n11))), some (.int ((0 : Int32))), some (.int ((0 : Int32))), none]) d_Mo_job_49 (by decide) rfl ?_
                  refine j_iload d_Mo_job_51 rfl ?_
                  refine j_if_eq (tgt := 86) d_Mo_job_53 (by decide) (fun _ => ?_) (fun c => absurd c (by decide))
                  refine j_iconst (v := 0) d_Mo_job_86 (by decide) ?_
                  refine j_istore (L' := [some (.ref a2), some (.int ((gA G a0 n3))), some (.int ((gA G a0 n5))), some (.int ((gA G a0 n7))), some (.int ((gA G a0 n9))), some (.int ((gA G a0 n11))), some (.int ((0 : Int32))), some (.int ((0 : Int32))), some (.int ((0 : Int32)))]) d_Mo_job_87 (by decide) rfl ?_
                  refine j_aload_n d_Mo_job_89 rfl ?_
                  refine j_iload d_Mo_job_90 rfl ?_
                  refine j_if_ne (tgt := 99) d_Mo_job_92 (by decide) (fun c => absurd c (by decide)) (fun _ => ?_)
                  refine j_iconst (v := 1) d_Mo_job_95 (by decide) ?_
                  refine j_goto (tgt := 111) d_Mo_job_96 (by decide) ?_
                  refine j_callV (d' := 1) (ci := 10) (As := [.int ((1 : Int32))]) (rest := []) (b := a2) cv_Mo_149 me_Mo_isFine rfl (by decide) rfl rfl t14 rfl rfl (Nat.le_of_ble_eq_true rfl) d_Mo_job_111 (by decide) rfl (j_enter (L := [some (.ref a2), some (.int ((1 : Int32)))]) me_Mo_isFine (cat_c rfl (cat_c rfl cat_n)) (Nat.le_of_ble_eq_true rfl) rfl ?_)
                  refine j_aload_n d_Mo_isFine_0 rfl ?_
                  refine j_iload_n d_Mo_isFine_1 rfl ?_
                  refine j_putI (f := 640) fw_Mo_139 rfl rfl t14 d_Mo_isFine_2 ?_
                  refine j_iload_n d_Mo_isFine_5 rfl ?_
                  refine j_if_ne (tgt := 13) d_Mo_isFine_6 (by decide) (fun _ => ?_) (fun c => absurd c (by decide))
                  refine j_iconst (v := 0) d_Mo_isFine_13 (by decide) ?_
                  refine j_zret rfl (by decide) d_Mo_isFine_14 ?_
                  show J E 2 m_Mo_job 114 [some (.ref a2), some (.int ((gA G a0 n3))), some (.int ((gA G a0 n5))), some (.int ((gA G a0 n7))), some (.int ((gA G a0 n9))), some (.int ((gA G a0 n11))), some (.int ((0 : Int32))), some (.int ((0 : Int32))), some (.int ((0 : Int32)))] [.int ((0 : Int32))] (sI G 640 a2 ((1 : Int32))) (aft E 14 m_La_law 241 [some (.ref a0), some (.ref a1), some (.ref a2), some (.ref a3), some (.int p4), some (.int s0), none] [] Post)
                  refine j_if_eq (tgt := 159) d_Mo_job_114 (by decide) (fun _ => ?_) (fun c => absurd c (by decide))
                  refine j_vret rfl d_Mo_job_159 ?_
                  show J E 14 m_La_law 244 [some (.ref a0), some (.ref a1), some (.ref a2), some (.ref a3), some (.int p4), some (.int s0), none] [] (sI G 640 a2 ((1 : Int32))) Post
                  refine j_aload_n d_La_law_244 rfl ?_
                  refine j_callV (d' := 1) (ci := 10) (As := []) (rest := []) (b := a2) cv_La_80 me_Mo_thrown rfl (by decide) rfl rfl t14 rfl rfl (Nat.le_of_ble_eq_true rfl) d_La_law_245 (by decide) rfl (j_enter (L := [some (.ref a2)]) me_Mo_thrown (cat_c rfl cat_n) (Nat.le_of_ble_eq_true rfl) rfl ?_)
                  refine j_aload_n d_Mo_thrown_0 rfl ?_
                  refine j_getIv (f := 640) (v := ((1 : Int32))) fe_Mo_139 rfl rfl t14 (show gI (sI G 640 a2 ((1 : Int32))) 640 a2 = _ from gI_sI_eq) d_Mo_thrown_1 ?_
                  refine j_iret rfl d_Mo_thrown_4 ?_
                  show J E 14 m_La_law 248 [some (.ref a0), some (.ref a1), some (.ref a2), some (.ref a3), some (.int p4), some (.int s0), none] [.int (((1 : Int32)))] (sI G 640 a2 ((1 : Int32))) Post
                  refine j_iload d_La_law_248 rfl ?_
                  obtain ⟨Ha, Hb⟩ := H
                  refine j_icmp_eq (tgt := 255) d_La_law_250 (by decide) (fun c27 => ?_) (fun c28 => ?_)
                  · have H := Ha c27
                    refine j_goto (tgt := 1295) d_La_law_255 (by decide) ?_
                    refine j_iinc (v := (p4 + (7 : Int32))) (L' := [some (.ref a0), some (.ref a1), some (.ref a2), some (.ref a3), some (.int ((p4 + (7 : Int32)))), some (.int s0), none]) d_La_law_1295 rfl (by rw [show Int32.ofInt (7) = (7 : Int32) by decide]) (by decide) rfl ?_
                    refine j_goto (tgt := 23) d_La_law_1298 (by decide) ?_
                    refine j_forget (L' := [some (.ref a0), some (.ref a1), some (.ref a2), some (.ref a3), some (.int ((p4 + (7 : Int32)))), none, none]) ⟨Or.inr rfl, Or.inr rfl, Or.inr rfl, Or.inr rfl, Or.inr rfl, Or.inl rfl, Or.inl rfl, trivial⟩ ?_
                    exact H
                  · have H := Hb c28
                    refine j_iconst (v := 0) d_La_law_253 (by decide) ?_
                    exact j_zret rfl (by decide) d_La_law_254 H
                · have H := Hb c77
                  refine j_iload_n d_Mo_isIn_5 rfl ?_
                  refine j_iload_n d_Mo_isIn_6 rfl ?_
                  obtain ⟨Ha, Hb⟩ := H
                  refine j_icmp_gt (tgt := 14) d_Mo_isIn_7 (by decide) (fun c74 => ?_) (fun c75 => ?_)
                  · have H := Ha c74
                    refine j_iconst (v := 0) d_Mo_isIn_14 (by decide) ?_
                    refine j_zret rfl (by decide) d_Mo_isIn_15 ?_
                    show J E 2 m_Mo_job 41 [some (.ref a2), some (.int ((gA G a0 n3))), some (.int ((gA G a0 n5))), some (.int ((gA G a0 n7))), some (.int ((gA G a0 n9))), some (.int ((gA G a0 n11))), some (.int ((0 : Int32))), none, none] [.int ((0 : Int32))] G (aft E 14 m_La_law 241 [some (.ref a0), some (.ref a1), some (.ref a2), some (.ref a3), some (.int p4), some (.int s0), none] [] Post)
                    refine j_if_eq (tgt := 48) d_Mo_job_41 (by decide) (fun _ => ?_) (fun c => absurd c (by decide))
                    refine j_iconst (v := 0) d_Mo_job_48 (by decide) ?_
                    refine j_istore (L' := [some (.ref a2), some (.int ((gA G a0 n3))), some (.int ((gA G a0 n5))), some (.int ((gA G a0 n7))), some (.int ((gA G a0 n9))), some (.int ((gA G a0 n11))), some (.int ((0 : Int32))), some (.int ((0 : Int32))), none]) d_Mo_job_49 (by decide) rfl ?_
                    refine j_iload d_Mo_job_51 rfl ?_
                    refine j_if_eq (tgt := 86) d_Mo_job_53 (by decide) (fun _ => ?_) (fun c => absurd c (by decide))
                    refine j_iconst (v := 0) d_Mo_job_86 (by decide) ?_
                    refine j_istore (L' := [some (.ref a2), some (.int ((gA G a0 n3))), some (.int ((gA G a0 n5))), some (.int ((gA G a0 n7))), some (.int ((gA G a0 n9))), some (.int ((gA G a0 n11))), some (.int ((0 : Int32))), some (.int ((0 : Int32))), some (.int ((0 : Int32)))]) d_Mo_job_87 (by decide) rfl ?_
                    refine j_aload_n d_Mo_job_89 rfl ?_
                    refine j_iload d_Mo_job_90 rfl ?_
                    refine j_if_ne (tgt := 99) d_Mo_job_92 (by decide) (fun c => absurd c (by decide)) (fun _ => ?_)
                    refine j_iconst (v := 1) d_Mo_job_95 (by decide) ?_
                    refine j_goto (tgt := 111) d_Mo_job_96 (by decide) ?_
                    refine j_callV (d' := 1) (ci := 10) (As := [.int ((1 : Int32))]) (rest := []) (b := a2) cv_Mo_149 me_Mo_isFine rfl (by decide) rfl rfl t14 rfl rfl (Nat.le_of_ble_eq_true rfl) d_Mo_job_111 (by decide) rfl (j_enter (L := [some (.ref a2), some (.int ((1 : Int32)))]) me_Mo_isFine (cat_c rfl (cat_c rfl cat_n)) (Nat.le_of_ble_eq_true rfl) rfl ?_)
                    refine j_aload_n d_Mo_isFine_0 rfl ?_
                    refine j_iload_n d_Mo_isFine_1 rfl ?_
                    refine j_putI (f := 640) fw_Mo_139 rfl rfl t14 d_Mo_isFine_2 ?_
                    refine j_iload_n d_Mo_isFine_5 rfl ?_
                    refine j_if_ne (tgt := 13) d_Mo_isFine_6 (by decide) (fun _ => ?_) (fun c => absurd c (by decide))
                    refine j_iconst (v := 0) d_Mo_isFine_13 (by decide) ?_
                    refine j_zret rfl (by decide) d_Mo_isFine_14 ?_
                    show J E 2 m_Mo_job 114 [some (.ref a2), some (.int ((gA G a0 n3))), some (.int ((gA G a0 n5))), some (.int ((gA G a0 n7))), some (.int ((gA G a0 n9))), some (.int ((gA G a0 n11))), some (.int ((0 : Int32))), some (.int ((0 : Int32))), some (.int ((0 : Int32)))] [.int ((0 : Int32))] (sI G 640 a2 ((1 : Int32))) (aft E 14 m_La_law 241 [some (.ref a0), some (.ref a1), some (.ref a2), some (.ref a3), some (.int p4), some (.int s0), none] [] Post)
                    refine j_if_eq (tgt := 159) d_Mo_job_114 (by decide) (fun _ => ?_) (fun c => absurd c (by decide))
                    refine j_vret rfl d_Mo_job_159 ?_
                    show J E 14 m_La_law 244 [some (.ref a0), some (.ref a1), some (.ref a2), some (.ref a3), some (.int p4), some (.int s0), none] [] (sI G 640 a2 ((1 : Int32))) Post
                    refine j_aload_n d_La_law_244 rfl ?_
                    refine j_callV (d' := 1) (ci := 10) (As := []) (rest := []) (b := a2) cv_La_80 me_Mo_thrown rfl (by decide) rfl rfl t14 rfl rfl (Nat.le_of_ble_eq_true rfl) d_La_law_245 (by decide) rfl (j_enter (L := [some (.ref a2)]) me_Mo_thrown (cat_c rfl cat_n) (Nat.le_of_ble_eq_true rfl) rfl ?_)
                    refine j_aload_n d_Mo_thrown_0 rfl ?_
                    refine j_getIv (f := 640) (v := ((1 : Int32))) fe_Mo_139 rfl rfl t14 (show gI (sI G 640 a2 ((1 : Int32))) 640 a2 = _ from gI_sI_eq) d_Mo_thrown_1 ?_
                    refine j_iret rfl d_Mo_thrown_4 ?_
                    show J E 14 m_La_law 248 [some (.ref a0), some (.ref a1), some (.ref a2), some (.ref a3), some (.int p4), some (.int s0), none] [.int (((1 : Int32)))] (sI G 640 a2 ((1 : Int32))) Post
                    refine j_iload d_La_law_248 rfl ?_
                    obtain ⟨Ha, Hb⟩ := H
                    refine j_icmp_eq (tgt := 255) d_La_law_250 (by decide) (fun c29 => ?_) (fun c30 => ?_)
                    · have H := Ha c29
                      refine j_goto (tgt := 1295) d_La_law_255 (by decide) ?_
                      refine j_iinc (v := (p4 + (7 : Int32))) (L' := [some (.ref a0), some (.ref a1), some (.ref a2), some (.ref a3), some (.int ((p4 + (7 : Int32)))), some (.int s0), none]) d_La_law_1295 rfl (by rw [show Int32.ofInt (7) = (7 : Int32) by decide]) (by decide) rfl ?_
                      refine j_goto (tgt := 23) d_La_law_1298 (by decide) ?_
                      refine j_forget (L' := [some (.ref a0), some (.ref a1), some (.ref a2), some (.ref a3), some (.int ((p4 + (7 : Int32)))), none, none]) ⟨Or.inr rfl, Or.inr rfl, Or.inr rfl, Or.inr rfl, Or.inr rfl, Or.inl rfl, Or.inl rfl, trivial⟩ ?_
                      exact H
                    · have H := Hb c30
                      refine j_iconst (v := 0) d_La_law_253 (by decide) ?_
                      exact j_zret rfl (by decide) d_La_law_254 H
                  · have H := Hb c75
                    refine j_iconst (v := 1) d_Mo_isIn_10 (by decide) ?_
                    refine j_goto (tgt := 15) d_Mo_isIn_11 (by decide) ?_
                    refine j_zret rfl (by decide) d_Mo_isIn_15 ?_
                    show J E 2 m_Mo_job 41 [some (.ref a2), some (.int ((gA G a0 n3))), some (.int ((gA G a0 n5))), some (.int ((gA G a0 n7))), some (.int ((gA G a0 n9))), some (.int ((gA G a0 n11))), some (.int ((0 : Int32))), none, none] [.int ((1 : Int32))] G (aft E 14 m_La_law 241 [some (.ref a0), some (.ref a1), some (.ref a2), some (.ref a3), some (.int p4), some (.int s0), none] [] Post)
                    refine j_if_eq (tgt := 48) d_Mo_job_41 (by decide) (fun c => absurd c (by decide)) (fun _ => ?_)
                    refine j_iconst (v := 1) d_Mo_job_44 (by decide) ?_
                    refine j_goto (tgt := 49) d_Mo_job_45 (by decide) ?_
                    refine j_istore (L' := [some (.ref a2), some (.int ((gA G a0 n3))), some (.int ((gA G a0 n5))), some (.int ((gA G a0 n7))), some (.int ((gA G a0 n9))), some (.int ((gA G a0 n11))), some (.int ((0 : Int32))), some (.int ((1 : Int32))), none]) d_Mo_job_49 (by decide) rfl ?_
                    refine j_iload d_Mo_job_51 rfl ?_
                    refine j_if_eq (tgt := 86) d_Mo_job_53 (by decide) (fun c => absurd c (by decide)) (fun _ => ?_)
                    refine j_iload_n d_Mo_job_56 rfl ?_
                    refine j_iconst (v := 1) d_Mo_job_57 (by decide) ?_
                    obtain ⟨Ha, Hb⟩ := H
                    refine j_icmp_ne (tgt := 82) d_Mo_job_58 (by decide) (fun c72 => ?_) (fun c73 => ?_)
                    · have H := Ha c72
                      refine j_iconst (v := 1) d_Mo_job_82 (by decide) ?_
                      refine j_goto (tgt := 87) d_Mo_job_83 (by decide) ?_
                      refine j_istore (L' := [some (.ref a2), some (.int ((gA G a0 n3))), some (.int ((gA G a0 n5))), some (.int ((gA G a0 n7))), some (.int ((gA G a0 n9))), some (.int ((gA G a0 n11))), some (.int ((0 : Int32))), some (.int ((1 : Int32))), some (.int ((1 : Int32)))]) d_Mo_job_87 (by decide) rfl ?_
                      refine j_aload_n d_Mo_job_89 rfl ?_
                      refine j_iload d_Mo_job_90 rfl ?_
                      refine j_if_ne (tgt := 99) d_Mo_job_92 (by decide) (fun _ => ?_) (fun c => absurd c (by decide))
                      refine j_aload_n d_Mo_job_99 rfl ?_
                      refine j_getI (f := 648) fe_Mo_146 rfl rfl t14 d_Mo_job_100 ?_
                      obtain ⟨Ha, Hb⟩ := H
                      refine j_if_eq (tgt := 110) d_Mo_job_103 (by decide) (fun c43 => ?_) (fun c44 => ?_)
                      · have H := Ha c43
                        refine j_iconst (v := 0) d_Mo_job_110 (by decide) ?_
                        refine j_callV (d' := 1) (ci := 10) (As := [.int ((0 : Int32))]) (rest := []) (b := a2) cv_Mo_149 me_Mo_isFine rfl (by decide) rfl rfl t14 rfl rfl (Nat.le_of_ble_eq_true rfl) d_Mo_job_111 (by decide) rfl (j_enter (L := [some (.ref a2), some (.int ((0 : Int32)))]) me_Mo_isFine (cat_c rfl (cat_c rfl cat_n)) (Nat.le_of_ble_eq_true rfl) rfl ?_)
                        refine j_aload_n d_Mo_isFine_0 rfl ?_
                        refine j_iload_n d_Mo_isFine_1 rfl ?_
                        refine j_putI (f := 640) fw_Mo_139 rfl rfl t14 d_Mo_isFine_2 ?_
                        refine j_iload_n d_Mo_isFine_5 rfl ?_
                        refine j_if_ne (tgt := 13) d_Mo_isFine_6 (by decide) (fun c => absurd c (by decide)) (fun _ => ?_)
                        refine j_iconst (v := 1) d_Mo_isFine_9 (by decide) ?_
                        refine j_goto (tgt := 14) d_Mo_isFine_10 (by decide) ?_
                        refine j_zret rfl (by decide) d_Mo_isFine_14 ?_
                        show J E 2 m_Mo_job 114 [some (.ref a2), some (.int ((gA G a0 n3))), some (.int ((gA G a0 n5))), some (.int ((gA G a0 n7))), some (.int ((gA G a0 n9))), some (.int ((gA G a0 n11))), some (.int ((0 : Int32))), some (.int ((1 : Int32))), some (.int ((1 : Int32)))] [.int ((1 : Int32))] (sI G 640 a2 ((0 : Int32))) (aft E 14 m_La_law 241 [some (.ref a0), some (.ref a1), some (.ref a2), some (.ref a3), some (.int p4), some (.int s0), none] [] Post)
                        refine j_if_eq (tgt := 159) d_Mo_job_114 (by decide) (fun c => absurd c (by decide)) (fun _ => ?_)
                        refine j_aload_n d_Mo_job_117 rfl ?_
                        refine j_iload_n d_Mo_job_118 rfl ?_
                        refine j_putI (f := 641) fw_Mo_9 rfl rfl t14 d_Mo_job_119 ?_
                        refine j_aload_n d_Mo_job_122 rfl ?_
                        refine j_iload_n d_Mo_job_123 rfl ?_
                        refine j_putI (f := 642) fw_Mo_13 rfl rfl t14 d_Mo_job_124 ?_
                        refine j_aload_n d_Mo_job_127 rfl ?_
                        refine j_iload_n d_Mo_job_128 rfl ?_
                        refine j_iconst (v := 1) d_Mo_job_129 (by decide) ?_
                        obtain ⟨Ha, Hb⟩ := H
                        refine j_icmp_ne (tgt := 137) d_Mo_job_130 (by decide) (fun c39 => ?_) (fun c40 => ?_)
                        · have H := Ha c39
                          refine j_iload_n d_Mo_job_137 rfl ?_
                          refine j_putI (f := 643) fw_Mo_16 rfl rfl t14 d_Mo_job_138 ?_
                          refine j_aload_n d_Mo_job_141 rfl ?_
                          refine j_iload d_Mo_job_142 rfl ?_
                          refine j_putI (f := 644) fw_Mo_153 rfl rfl t14 d_Mo_job_144 ?_
                          show J E 2 m_Mo_job 147 [some (.ref a2), some (.int ((gA G a0 n3))), some (.int ((gA G a0 n5))), some (.int ((gA G a0 n7))), some (.int ((gA G a0 n9))), some (.int ((gA G a0 n11))), some (.int ((0 : Int32))), some (.int ((1 : Int32))), some (.int ((1 : Int32)))] [] (sI (sI (sI (sI (sI G 640 a2 ((0 : Int32))) 641 a2 ((gA G a0 n3))) 642 a2 ((gA G a0 n5))) 643 a2 ((gA G a0 n5))) 644 a2 ((gA G a0 n9))) (aft E 14 m_La_law 241 [some (.ref a0), some (.ref a1), some (.ref a2), some (.ref a3), some (.int p4), some (.int s0), none] [] Post)
                          generalize e32 : sI (sI (sI (sI (sI G 640 a2 ((0 : Int32))) 641 a2 ((gA G a0 n3))) 642 a2 ((gA G a0 n5))) 643 a2 ((gA G a0 n5))) 644 a2 ((gA G a0 n9)) = G31
                          have e32 := e32.symm
                          have H := H G31 e32
                          refine j_aload_n d_Mo_job_147 rfl ?_
                          refine j_iload d_Mo_job_148 rfl ?_
                          refine j_putI (f := 645) fw_Mo_19 rfl rfl (by rw [e32]; exact t14) d_Mo_job_150 ?_
                          refine j_aload_n d_Mo_job_153 rfl ?_
                          refine j_iload d_Mo_job_154 rfl ?_
                          refine j_putZ (f := 646) fw_Mo_22 rfl rfl (by rw [e32]; exact t14) (by decide) d_Mo_job_156 ?_
                          refine j_vret rfl d_Mo_job_159 ?_
                          show J E 14 m_La_law 244 [some (.ref a0), some (.ref a1), some (.ref a2), some (.ref a3), some (.int p4), some (.int s0), none] [] (sI (sI G31 645 a2 ((gA G a0 n11))) 646 a2 ((0 : Int32))) Post
                          refine j_aload_n d_La_law_244 rfl ?_
                          refine j_callV (d' := 1) (ci := 10) (As := []) (rest := []) (b := a2) cv_La_80 me_Mo_thrown rfl (by decide) rfl rfl (by rw [e32]; exact t14) rfl rfl (Nat.le_of_ble_eq_true rfl) d_La_law_245 (by decide) rfl (j_enter (L := [some (.ref a2)]) me_Mo_thrown (cat_c rfl cat_n) (Nat.le_of_ble_eq_true rfl) rfl ?_)
                          refine j_aload_n d_Mo_thrown_0 rfl ?_
                          refine j_getIv (f := 640) (v := ((0 : Int32))) fe_Mo_139 rfl rfl (by rw [e32]; exact t14) (by rw [e32]; exact (show gI (sI G 640 a2 ((0 : Int32))) 640 a2 = _ from gI_sI_eq)) d_Mo_thrown_1 ?_
                          refine j_iret rfl d_Mo_thrown_4 ?_
                          show J E 14 m_La_law 248 [some (.ref a0), some (.ref a1), some (.ref a2), some (.ref a3), some (.int p4), some (.int s0), none] [.int (((0 : Int32)))] (sI (sI G31 645 a2 ((gA G a0 n11))) 646 a2 ((0 : Int32))) Post
                          refine j_iload d_La_law_248 rfl ?_
                          obtain ⟨Ha, Hb⟩ := H
                          refine j_icmp_eq (tgt := 255) d_La_law_250 (by decide) (fun c33 => ?_) (fun c34 => ?_)
                          · have H := Ha c33
                            refine j_goto (tgt := 1295) d_La_law_255 (by decide) ?_
                            refine j_iinc (v := (p4 + (7 : Int32))) (L' := [some (.ref a0), some (.ref a1), some (.ref a2), some (.ref a3), some (.int ((p4 + (7 : Int32)))), some (.int s0), none]) d_La_law_1295 rfl (by rw [show Int32.ofInt (7) = (7 : Int32) by decide]) (by decide) rfl ?_
                            refine j_goto (tgt := 23) d_La_law_1298 (by decide) ?_
                            refine j_forget (L' := [some (.ref a0), some (.ref a1), some (.ref a2), some (.ref a3), some (.int ((p4 + (7 : Int32)))), none, none]) ⟨Or.inr rfl, Or.inr rfl, Or.inr rfl, Or.inr rfl, Or.inr rfl, Or.inl rfl, Or.inl rfl, trivial⟩ ?_
                            exact H
                          · have H := Hb c34
                            refine j_iconst (v := 0) d_La_law_253 (by decide) ?_
                            exact j_zret rfl (by decide) d_La_law_254 H
                        · have H := Hb c40
                          refine j_iload_n d_Mo_job_133 rfl ?_
                          refine j_goto (tgt := 138) d_Mo_job_134 (by decide) ?_
                          refine j_putI (f := 643) fw_Mo_16 rfl rfl t14 d_Mo_job_138 ?_
                          refine j_aload_n d_Mo_job_141 rfl ?_
                          refine j_iload d_Mo_job_142 rfl ?_
                          refine j_putI (f := 644) fw_Mo_153 rfl rfl t14 d_Mo_job_144 ?_
                          show J E 2 m_Mo_job 147 [some (.ref a2), some (.int ((gA G a0 n3))), some (.int ((gA G a0 n5))), some (.int ((gA G a0 n7))), some (.int ((gA G a0 n9))), some (.int ((gA G a0 n11))), some (.int ((0 : Int32))), some (.int ((1 : Int32))), some (.int ((1 : Int32)))] [] (sI (sI (sI (sI (sI G 640 a2 ((0 : Int32))) 641 a2 ((gA G a0 n3))) 642 a2 ((gA G a0 n5))) 643 a2 ((gA G a0 n7))) 644 a2 ((gA G a0 n9))) (aft E 14 m_La_law 241 [some (.ref a0), some (.ref a1), some (.ref a2), some (.ref a3), some (.int p4), some (.int s0), none] [] Post)
                          generalize e36 : sI (sI (sI (sI (sI G 640 a2 ((0 : Int32))) 641 a2 ((gA G a0 n3))) 642 a2 ((gA G a0 n5))) 643 a2 ((gA G a0 n7))) 644 a2 ((gA G a0 n9)) = G35
                          have e36 := e36.symm
                          have H := H G35 e36
                          refine j_aload_n d_Mo_job_147 rfl ?_
                          refine j_iload d_Mo_job_148 rfl ?_
                          refine j_putI (f := 645) fw_Mo_19 rfl rfl (by rw [e36]; exact t14) d_Mo_job_150 ?_
                          refine j_aload_n d_Mo_job_153 rfl ?_
                          refine j_iload d_Mo_job_154 rfl ?_
                          refine j_putZ (f := 646) fw_Mo_22 rfl rfl (by rw [e36]; exact t14) (by decide) d_Mo_job_156 ?_
                          refine j_vret rfl d_Mo_job_159 ?_
                          show J E 14 m_La_law 244 [some (.ref a0), some (.ref a1), some (.ref a2), some (.ref a3), some (.int p4), some (.int s0), none] [] (sI (sI G35 645 a2 ((gA G a0 n11))) 646 a2 ((0 : Int32))) Post
                          refine j_aload_n d_La_law_244 rfl ?_
                          refine j_callV (d' := 1) (ci := 10) (As := []) (rest := []) (b := a2) cv_La_80 me_Mo_thrown rfl (by decide) rfl rfl (by rw [e36]; exact t14) rfl rfl (Nat.le_of_ble_eq_true rfl) d_La_law_245 (by decide) rfl (j_enter (L := [some (.ref a2)]) me_Mo_thrown (cat_c rfl cat_n) (Nat.le_of_ble_eq_true rfl) rfl ?_)
                          refine j_aload_n d_Mo_thrown_0 rfl ?_
                          refine j_getIv (f := 640) (v := ((0 : Int32))) fe_Mo_139 rfl rfl (by rw [e36]; exact t14) (by rw [e36]; exact (show gI (sI G 640 a2 ((0 : Int32))) 640 a2 = _ from gI_sI_eq)) d_Mo_thrown_1 ?_
                          refine j_iret rfl d_Mo_thrown_4 ?_
                          show J E 14 m_La_law 248 [some (.ref a0), some (.ref a1), some (.ref a2), some (.ref a3), some (.int p4), some (.int s0), none] [.int (((0 : Int32)))] (sI (sI G35 645 a2 ((gA G a0 n11))) 646 a2 ((0 : Int32))) Post
                          refine j_iload d_La_law_248 rfl ?_
                          obtain ⟨Ha, Hb⟩ := H
                          refine j_icmp_eq (tgt := 255) d_La_law_250 (by decide) (fun c37 => ?_) (fun c38 => ?_)
                          · have H := Ha c37
                            refine j_goto (tgt := 1295) d_La_law_255 (by decide) ?_
                            refine j_iinc (v := (p4 + (7 : Int32))) (L' := [some (.ref a0), some (.ref a1), some (.ref a2), some (.ref a3), some (.int ((p4 + (7 : Int32)))), some (.int s0), none]) d_La_law_1295 rfl (by rw [show Int32.ofInt (7) = (7 : Int32) by decide]) (by decide) rfl ?_
                            refine j_goto (tgt := 23) d_La_law_1298 (by decide) ?_
                            refine j_forget (L' := [some (.ref a0), some (.ref a1), some (.ref a2), some (.ref a3), some (.int ((p4 + (7 : Int32)))), none, none]) ⟨Or.inr rfl, Or.inr rfl, Or.inr rfl, Or.inr rfl, Or.inr rfl, Or.inl rfl, Or.inl rfl, trivial⟩ ?_
                            exact H
                          · have H := Hb c38
                            refine j_iconst (v := 0) d_La_law_253 (by decide) ?_
                            exact j_zret rfl (by decide) d_La_law_254 H
                      · have H := Hb c44
                        refine j_iconst (v := 2) d_Mo_job_106 (by decide) ?_
                        refine j_goto (tgt := 111) d_Mo_job_107 (by decide) ?_
                        refine j_callV (d' := 1) (ci := 10) (As := [.int ((2 : Int32))]) (rest := []) (b := a2) cv_Mo_149 me_Mo_isFine rfl (by decide) rfl rfl t14 rfl rfl (Nat.le_of_ble_eq_true rfl) d_Mo_job_111 (by decide) rfl (j_enter (L := [some (.ref a2), some (.int ((2 : Int32)))]) me_Mo_isFine (cat_c rfl (cat_c rfl cat_n)) (Nat.le_of_ble_eq_true rfl) rfl ?_)
                        refine j_aload_n d_Mo_isFine_0 rfl ?_
                        refine j_iload_n d_Mo_isFine_1 rfl ?_
                        refine j_putI (f := 640) fw_Mo_139 rfl rfl t14 d_Mo_isFine_2 ?_
                        refine j_iload_n d_Mo_isFine_5 rfl ?_
                        refine j_if_ne (tgt := 13) d_Mo_isFine_6 (by decide) (fun _ => ?_) (fun c => absurd c (by decide))
                        refine j_iconst (v := 0) d_Mo_isFine_13 (by decide) ?_
                        refine j_zret rfl (by decide) d_Mo_isFine_14 ?_
                        show J E 2 m_Mo_job 114 [some (.ref a2), some (.int ((gA G a0 n3))), some (.int ((gA G a0 n5))), some (.int ((gA G a0 n7))), some (.int ((gA G a0 n9))), some (.int ((gA G a0 n11))), some (.int ((0 : Int32))), some (.int ((1 : Int32))), some (.int ((1 : Int32)))] [.int ((0 : Int32))] (sI G 640 a2 ((2 : Int32))) (aft E 14 m_La_law 241 [some (.ref a0), some (.ref a1), some (.ref a2), some (.ref a3), some (.int p4), some (.int s0), none] [] Post)
                        refine j_if_eq (tgt := 159) d_Mo_job_114 (by decide) (fun _ => ?_) (fun c => absurd c (by decide))
                        refine j_vret rfl d_Mo_job_159 ?_
                        show J E 14 m_La_law 244 [some (.ref a0), some (.ref a1), some (.ref a2), some (.ref a3), some (.int p4), some (.int s0), none] [] (sI G 640 a2 ((2 : Int32))) Post
                        refine j_aload_n d_La_law_244 rfl ?_
                        refine j_callV (d' := 1) (ci := 10) (As := []) (rest := []) (b := a2) cv_La_80 me_Mo_thrown rfl (by decide) rfl rfl t14 rfl rfl (Nat.le_of_ble_eq_true rfl) d_La_law_245 (by decide) rfl (j_enter (L := [some (.ref a2)]) me_Mo_thrown (cat_c rfl cat_n) (Nat.le_of_ble_eq_true rfl) rfl ?_)
                        refine j_aload_n d_Mo_thrown_0 rfl ?_
                        refine j_getIv (f := 640) (v := ((2 : Int32))) fe_Mo_139 rfl rfl t14 (show gI (sI G 640 a2 ((2 : Int32))) 640 a2 = _ from gI_sI_eq) d_Mo_thrown_1 ?_
                        refine j_iret rfl d_Mo_thrown_4 ?_
                        show J E 14 m_La_law 248 [some (.ref a0), some (.ref a1), some (.ref a2), some (.ref a3), some (.int p4), some (.int s0), none] [.int (((2 : Int32)))] (sI G 640 a2 ((2 : Int32))) Post
                        refine j_iload d_La_law_248 rfl ?_
                        obtain ⟨Ha, Hb⟩ := H
                        refine j_icmp_eq (tgt := 255) d_La_law_250 (by decide) (fun c41 => ?_) (fun c42 => ?_)
                        · have H := Ha c41
                          refine j_goto (tgt := 1295) d_La_law_255 (by decide) ?_
                          refine j_iinc (v := (p4 + (7 : Int32))) (L' := [some (.ref a0), some (.ref a1), some (.ref a2), some (.ref a3), some (.int ((p4 + (7 : Int32)))), some (.int s0), none]) d_La_law_1295 rfl (by rw [show Int32.ofInt (7) = (7 : Int32) by decide]) (by decide) rfl ?_
                          refine j_goto (tgt := 23) d_La_law_1298 (by decide) ?_
                          refine j_forget (L' := [some (.ref a0), some (.ref a1), some (.ref a2), some (.ref a3), some (.int ((p4 + (7 : Int32)))), none, none]) ⟨Or.inr rfl, Or.inr rfl, Or.inr rfl, Or.inr rfl, Or.inr rfl, Or.inl rfl, Or.inl rfl, trivial⟩ ?_
                          exact H
                        · have H := Hb c42
                          refine j_iconst (v := 0) d_La_law_253 (by decide) ?_
                          exact j_zret rfl (by decide) d_La_law_254 H
                    · have H := Hb c73
                      refine j_iload_n d_Mo_job_61 rfl ?_
                      refine j_iconst (v := 1) d_Mo_job_62 (by decide) ?_
                      refine j_iload_n d_Mo_job_63 rfl ?_
                      refine j_callS (d' := 1) (As := [.int ((gA G a0 n7)), .int ((1 : Int32)), .int ((gA G a0 n5))]) (rest := []) cs_Mo_142 me_Mo_isIn rfl (by decide) rfl rfl (Nat.le_of_ble_eq_true rfl) d_Mo_job_64 (by decide) rfl (j_enter (L := [some (.int ((gA G a0 n7))), some (.int ((1 : Int32))), some (.int ((gA G a0 n5)))]) me_Mo_isIn (cat_c rfl (cat_c rfl (cat_c rfl cat_n))) (Nat.le_of_ble_eq_true rfl) rfl ?_)
                      refine j_iload_n d_Mo_isIn_0 rfl ?_
                      refine j_iload_n d_Mo_isIn_1 rfl ?_
                      obtain ⟨Ha, Hb⟩ := H
                      refine j_icmp_lt (tgt := 14) d_Mo_isIn_2 (by decide) (fun c70 => ?_) (fun c71 => ?_)
                      · have H := Ha c70
                        refine j_iconst (v := 0) d_Mo_isIn_14 (by decide) ?_
                        refine j_zret rfl (by decide) d_Mo_isIn_15 ?_
                        show J E 2 m_Mo_job 67 [some (.ref a2), some (.int ((gA G a0 n3))), some (.int ((gA G a0 n5))), some (.int ((gA G a0 n7))), some (.int ((gA G a0 n9))), some (.int ((gA G a0 n11))), some (.int ((0 : Int32))), some (.int ((1 : Int32))), none] [.int ((0 : Int32))] G (aft E 14 m_La_law 241 [some (.ref a0), some (.ref a1), some (.ref a2), some (.ref a3), some (.int p4), some (.int s0), none] [] Post)
                        refine j_if_eq (tgt := 86) d_Mo_job_67 (by decide) (fun _ => ?_) (fun c => absurd c (by decide))
                        refine j_iconst (v := 0) d_Mo_job_86 (by decide) ?_
                        refine j_istore (L' := [some (.ref a2), some (.int ((gA G a0 n3))), some (.int ((gA G a0 n5))), some (.int ((gA G a0 n7))), some (.int ((gA G a0 n9))), some (.int ((gA G a0 n11))), some (.int ((0 : Int32))), some (.int ((1 : Int32))), some (.int ((0 : Int32)))]) d_Mo_job_87 (by decide) rfl ?_
                        refine j_aload_n d_Mo_job_89 rfl ?_
                        refine j_iload d_Mo_job_90 rfl ?_
                        refine j_if_ne (tgt := 99) d_Mo_job_92 (by decide) (fun c => absurd c (by decide)) (fun _ => ?_)
                        refine j_iconst (v := 1) d_Mo_job_95 (by decide) ?_
                        refine j_goto (tgt := 111) d_Mo_job_96 (by decide) ?_
                        refine j_callV (d' := 1) (ci := 10) (As := [.int ((1 : Int32))]) (rest := []) (b := a2) cv_Mo_149 me_Mo_isFine rfl (by decide) rfl rfl t14 rfl rfl (Nat.le_of_ble_eq_true rfl) d_Mo_job_111 (by decide) rfl (j_enter (L := [some (.ref a2), some (.int ((1 : Int32)))]) me_Mo_isFine (cat_c rfl (cat_c rfl cat_n)) (Nat.le_of_ble_eq_true rfl) rfl ?_)
                        refine j_aload_n d_Mo_isFine_0 rfl ?_
                        refine j_iload_n d_Mo_isFine_1 rfl ?_
                        refine j_putI (f := 640) fw_Mo_139 rfl rfl t14 d_Mo_isFine_2 ?_
                        refine j_iload_n d_Mo_isFine_5 rfl ?_
                        refine j_if_ne (tgt := 13) d_Mo_isFine_6 (by decide) (fun _ => ?_) (fun c => absurd c (by decide))
                        refine j_iconst (v := 0) d_Mo_isFine_13 (by decide) ?_
                        refine j_zret rfl (by decide) d_Mo_isFine_14 ?_
                        show J E 2 m_Mo_job 114 [some (.ref a2), some (.int ((gA G a0 n3))), some (.int ((gA G a0 n5))), some (.int ((gA G a0 n7))), some (.int ((gA G a0 n9))), some (.int ((gA G a0 n11))), some (.int ((0 : Int32))), some (.int ((1 : Int32))), some (.int ((0 : Int32)))] [.int ((0 : Int32))] (sI G 640 a2 ((1 : Int32))) (aft E 14 m_La_law 241 [some (.ref a0), some (.ref a1), some (.ref a2), some (.ref a3), some (.int p4), some (.int s0), none] [] Post)
                        refine j_if_eq (tgt := 159) d_Mo_job_114 (by decide) (fun _ => ?_) (fun c => absurd c (by decide))
                        refine j_vret rfl d_Mo_job_159 ?_
                        show J E 14 m_La_law 244 [some (.ref a0), some (.ref a1), some (.ref a2), some (.ref a3), some (.int p4), some (.int s0), none] [] (sI G 640 a2 ((1 : Int32))) Post
                        refine j_aload_n d_La_law_244 rfl ?_
                        refine j_callV (d' := 1) (ci := 10) (As := []) (rest := []) (b := a2) cv_La_80 me_Mo_thrown rfl (by decide) rfl rfl t14 rfl rfl (Nat.le_of_ble_eq_true rfl) d_La_law_245 (by decide) rfl (j_enter (L := [some (.ref a2)]) me_Mo_thrown (cat_c rfl cat_n) (Nat.le_of_ble_eq_true rfl) rfl ?_)
                        refine j_aload_n d_Mo_thrown_0 rfl ?_
                        refine j_getIv (f := 640) (v := ((1 : Int32))) fe_Mo_139 rfl rfl t14 (show gI (sI G 640 a2 ((1 : Int32))) 640 a2 = _ from gI_sI_eq) d_Mo_thrown_1 ?_
                        refine j_iret rfl d_Mo_thrown_4 ?_
                        show J E 14 m_La_law 248 [some (.ref a0), some (.ref a1), some (.ref a2), some (.ref a3), some (.int p4), some (.int s0), none] [.int (((1 : Int32)))] (sI G 640 a2 ((1 : Int32))) Post
                        refine j_iload d_La_law_248 rfl ?_
                        obtain ⟨Ha, Hb⟩ := H
                        refine j_icmp_eq (tgt := 255) d_La_law_250 (by decide) (fun c45 => ?_) (fun c46 => ?_)
                        · have H := Ha c45
                          refine j_goto (tgt := 1295) d_La_law_255 (by decide) ?_
                          refine j_iinc (v := (p4 + (7 : Int32))) (L' := [some (.ref a0), some (.ref a1), some (.ref a2), some (.ref a3), some (.int ((p4 + (7 : Int32)))), some (.int s0), none]) d_La_law_1295 rfl (by rw [show Int32.ofInt (7) = (7 : Int32) by decide]) (by decide) rfl ?_
                          refine j_goto (tgt := 23) d_La_law_1298 (by decide) ?_
                          refine j_forget (L' := [some (.ref a0), some (.ref a1), some (.ref a2), some (.ref a3), some (.int ((p4 + (7 : Int32)))), none, none]) ⟨Or.inr rfl, Or.inr rfl, Or.inr rfl, Or.inr rfl, Or.inr rfl, Or.inl rfl, Or.inl rfl, trivial⟩ ?_
                          exact H
                        · have H := Hb c46
                          refine j_iconst (v := 0) d_La_law_253 (by decide) ?_
                          exact j_zret rfl (by decide) d_La_law_254 H
                      · have H := Hb c71
                        refine j_iload_n d_Mo_isIn_5 rfl ?_
                        refine j_iload_n d_Mo_isIn_6 rfl ?_
                        obtain ⟨Ha, Hb⟩ := H
                        refine j_icmp_gt (tgt := 14) d_Mo_isIn_7 (by decide) (fun c68 => ?_) (fun c69 => ?_)
                        · have H := Ha c68
                          refine j_iconst (v := 0) d_Mo_isIn_14 (by decide) ?_
                          refine j_zret rfl (by decide) d_Mo_isIn_15 ?_
                          show J E 2 m_Mo_job 67 [some (.ref a2), some (.int ((gA G a0 n3))), some (.int ((gA G a0 n5))), some (.int ((gA G a0 n7))), some (.int ((gA G a0 n9))), some (.int ((gA G a0 n11))), some (.int ((0 : Int32))), some (.int ((1 : Int32))), none] [.int ((0 : Int32))] G (aft E 14 m_La_law 241 [some (.ref a0), some (.ref a1), some (.ref a2), some (.ref a3), some (.int p4), some (.int s0), none] [] Post)
                          refine j_if_eq (tgt := 86) d_Mo_job_67 (by decide) (fun _ => ?_) (fun c => absurd c (by decide))
                          refine j_iconst (v := 0) d_Mo_job_86 (by decide) ?_
                          refine j_istore (L' := [some (.ref a2), some (.int ((gA G a0 n3))), some (.int ((gA G a0 n5))), some (.int ((gA G a0 n7))), some (.int ((gA G a0 n9))), some (.int ((gA G a0 n11))), some (.int ((0 : Int32))), some (.int ((1 : Int32))), some (.int ((0 : Int32)))]) d_Mo_job_87 (by decide) rfl ?_
                          refine j_aload_n d_Mo_job_89 rfl ?_
                          refine j_iload d_Mo_job_90 rfl ?_
                          refine j_if_ne (tgt := 99) d_Mo_job_92 (by decide) (fun c => absurd c (by decide)) (fun _ => ?_)
                          refine j_iconst (v := 1) d_Mo_job_95 (by decide) ?_
                          refine j_goto (tgt := 111) d_Mo_job_96 (by decide) ?_
                          refine j_callV (d' := 1) (ci := 10) (As := [.int ((1 : Int32))]) (rest := []) (b := a2) cv_Mo_149 me_Mo_isFine rfl (by decide) rfl rfl t14 rfl rfl (Nat.le_of_ble_eq_true rfl) d_Mo_job_111 (by decide) rfl (j_enter (L := [some (.ref a2), some (.int ((1 : Int32)))]) me_Mo_isFine (cat_c rfl (cat_c rfl cat_n)) (Nat.le_of_ble_eq_true rfl) rfl ?_)
                          refine j_aload_n d_Mo_isFine_0 rfl ?_
                          refine j_iload_n d_Mo_isFine_1 rfl ?_
                          refine j_putI (f := 640) fw_Mo_139 rfl rfl t14 d_Mo_isFine_2 ?_
                          refine j_iload_n d_Mo_isFine_5 rfl ?_
                          refine j_if_ne (tgt := 13) d_Mo_isFine_6 (by decide) (fun _ => ?_) (fun c => absurd c (by decide))
                          refine j_iconst (v := 0) d_Mo_isFine_13 (by decide) ?_
                          refine j_zret rfl (by decide) d_Mo_isFine_14 ?_
                          show J E 2 m_Mo_job 114 [some (.ref a2), some (.int ((gA G a0 n3))), some (.int ((gA G a0 n5))), some (.int ((gA G a0 n7))), some (.int ((gA G a0 n9))), some (.int ((gA G a0 n11))), some (.int ((0 : Int32))), some (.int ((1 : Int32))), some (.int ((0 : Int32)))] [.int ((0 : Int32))] (sI G 640 a2 ((1 : Int32))) (aft E 14 m_La_law 241 [some (.ref a0), some (.ref a1), some (.ref a2), some (.ref a3), some (.int p4), some (.int s0), none] [] Post)
                          refine j_if_eq (tgt := 159) d_Mo_job_114 (by decide) (fun _ => ?_) (fun c => absurd c (by decide))
                          refine j_vret rfl d_Mo_job_159 ?_
                          show J E 14 m_La_law 244 [some (.ref a0), some (.ref a1), some (.ref a2), some (.ref a3), some (.int p4), some (.int s0), none] [] (sI G 640 a2 ((1 : Int32))) Post
                          refine j_aload_n d_La_law_244 rfl ?_
                          refine j_callV (d' := 1) (ci := 10) (As := []) (rest := []) (b := a2) cv_La_80 me_Mo_thrown rfl (by decide) rfl rfl t14 rfl rfl (Nat.le_of_ble_eq_true rfl) d_La_law_245 (by decide) rfl (j_enter (L := [some (.ref a2)]) me_Mo_thrown (cat_c rfl cat_n) (Nat.le_of_ble_eq_true rfl) rfl ?_)
                          refine j_aload_n d_Mo_thrown_0 rfl ?_
                          refine j_getIv (f := 640) (v := ((1 : Int32))) fe_Mo_139 rfl rfl t14 (show gI (sI G 640 a2 ((1 : Int32))) 640 a2 = _ from gI_sI_eq) d_Mo_thrown_1 ?_
                          refine j_iret rfl d_Mo_thrown_4 ?_
                          show J E 14 m_La_law 248 [some (.ref a0), some (.ref a1), some (.ref a2), some (.ref a3), some (.int p4), some (.int s0), none] [.int (((1 : Int32)))] (sI G 640 a2 ((1 : Int32))) Post
                          refine j_iload d_La_law_248 rfl ?_
                          obtain ⟨Ha, Hb⟩ := H
                          refine j_icmp_eq (tgt := 255) d_La_law_250 (by decide) (fun c47 => ?_) (fun c48 => ?_)
                          · have H := Ha c47
                            refine j_goto (tgt := 1295) d_La_law_255 (by decide) ?_
                            refine j_iinc (v := (p4 + (7 : Int32))) (L' := [some (.ref a0), some (.ref a1), some (.ref a2), some (.ref a3), some (.int ((p4 + (7 : Int32)))), some (.int s0), none]) d_La_law_1295 rfl (by rw [show Int32.ofInt (7) = (7 : Int32) by decide]) (by decide) rfl ?_
                            refine j_goto (tgt := 23) d_La_law_1298 (by decide) ?_
                            refine j_forget (L' := [some (.ref a0), some (.ref a1), some (.ref a2), some (.ref a3), some (.int ((p4 + (7 : Int32)))), none, none]) ⟨Or.inr rfl, Or.inr rfl, Or.inr rfl, Or.inr rfl, Or.inr rfl, Or.inl rfl, Or.inl rfl, trivial⟩ ?_
                            exact H
                          · have H := Hb c48
                            refine j_iconst (v := 0) d_La_law_253 (by decide) ?_
                            exact j_zret rfl (by decide) d_La_law_254 H
                        · have H := Hb c69
                          refine j_iconst (v := 1) d_Mo_isIn_10 (by decide) ?_
                          refine j_goto (tgt := 15) d_Mo_isIn_11 (by decide) ?_
                          refine j_zret rfl (by decide) d_Mo_isIn_15 ?_
                          show J E 2 m_Mo_job 67 [some (.ref a2), some (.int ((gA G a0 n3))), some (.int ((gA G a0 n5))), some (.int ((gA G a0 n7))), some (.int ((gA G a0 n9))), some (.int ((gA G a0 n11))), some (.int ((0 : Int32))), some (.int ((1 : Int32))), none] [.int ((1 : Int32))] G (aft E 14 m_La_law 241 [some (.ref a0), some (.ref a1), some (.ref a2), some (.ref a3), some (.int p4), some (.int s0), none] [] Post)
                          refine j_if_eq (tgt := 86) d_Mo_job_67 (by decide) (fun c => absurd c (by decide)) (fun _ => ?_)
                          refine j_iload_n d_Mo_job_70 rfl ?_
                          refine j_iload_n d_Mo_job_71 rfl ?_
                          refine j_iadd d_Mo_job_72 ?_
                          refine j_iconst (v := 1) d_Mo_job_73 (by decide) ?_
                          refine j_isub d_Mo_job_74 ?_
                          refine j_iload_n d_Mo_job_75 rfl ?_
                          obtain ⟨z49, H⟩ := H
                          refine j_idiv d_Mo_job_76 z49 ?_
                          refine j_bipush (v := 8) d_Mo_job_77 (by decide) ?_
                          obtain ⟨Ha, Hb⟩ := H
                          refine j_icmp_gt (tgt := 86) d_Mo_job_79 (by decide) (fun c66 => ?_) (fun c67 => ?_)
                          · have H := Ha c66
                            refine j_iconst (v := 0) d_Mo_job_86 (by decide) ?_
                            refine j_istore (L' := [some (.ref a2), some (.int ((gA G a0 n3))), some (.int ((gA G a0 n5))), some (.int ((gA G a0 n7))), some (.int ((gA G a0 n9))), some (.int ((gA G a0 n11))), some (.int ((0 : Int32))), some (.int ((1 : Int32))), some (.int ((0 : Int32)))]) d_Mo_job_87 (by decide) rfl ?_
                            refine j_aload_n d_Mo_job_89 rfl ?_
                            refine j_iload d_Mo_job_90 rfl ?_
                            refine j_if_ne (tgt := 99) d_Mo_job_92 (by decide) (fun c => absurd c (by decide)) (fun _ => ?_)
                            refine j_iconst (v := 1) d_Mo_job_95 (by decide) ?_
                            refine j_goto (tgt := 111) d_Mo_job_96 (by decide) ?_
                            refine j_callV (d' := 1) (ci := 10) (As := [.int ((1 : Int32))]) (rest := []) (b := a2) cv_Mo_149 me_Mo_isFine rfl (by decide) rfl rfl t14 rfl rfl (Nat.le_of_ble_eq_true rfl) d_Mo_job_111 (by decide) rfl (j_enter (L := [some (.ref a2), some (.int ((1 : Int32)))]) me_Mo_isFine (cat_c rfl (cat_c rfl cat_n)) (Nat.le_of_ble_eq_true rfl) rfl ?_)
                            refine j_aload_n d_Mo_isFine_0 rfl ?_
                            refine j_iload_n d_Mo_isFine_1 rfl ?_
                            refine j_putI (f := 640) fw_Mo_139 rfl rfl t14 d_Mo_isFine_2 ?_
                            refine j_iload_n d_Mo_isFine_5 rfl ?_
                            refine j_if_ne (tgt := 13) d_Mo_isFine_6 (by decide) (fun _ => ?_) (fun c => absurd c (by decide))
                            refine j_iconst (v := 0) d_Mo_isFine_13 (by decide) ?_
                            refine j_zret rfl (by decide) d_Mo_isFine_14 ?_
                            show J E 2 m_Mo_job 114 [some (.ref a2), some (.int ((gA G a0 n3))), some (.int ((gA G a0 n5))), some (.int ((gA G a0 n7))), some (.int ((gA G a0 n9))), some (.int ((gA G a0 n11))), some (.int ((0 : Int32))), some (.int ((1 : Int32))), some (.int ((0 : Int32)))] [.int ((0 : Int32))] (sI G 640 a2 ((1 : Int32))) (aft E 14 m_La_law 241 [some (.ref a0), some (.ref a1), some (.ref a2), some (.ref a3), some (.int p4), some (.int s0), none] [] Post)
                            refine j_if_eq (tgt := 159) d_Mo_job_114 (by decide) (fun _ => ?_) (fun c => absurd c (by decide))
                            refine j_vret rfl d_Mo_job_159 ?_
                            show J E 14 m_La_law 244 [some (.ref a0), some (.ref a1), some (.ref a2), some (.ref a3), some (.int p4), some (.int s0), none] [] (sI G 640 a2 ((1 : Int32))) Post
                            refine j_aload_n d_La_law_244 rfl ?_
                            refine j_callV (d' := 1) (ci := 10) (As := []) (rest := []) (b := a2) cv_La_80 me_Mo_thrown rfl (by decide) rfl rfl t14 rfl rfl (Nat.le_of_ble_eq_true rfl) d_La_law_245 (by decide) rfl (j_enter (L := [some (.ref a2)]) me_Mo_thrown (cat_c rfl cat_n) (Nat.le_of_ble_eq_true rfl) rfl ?_)
                            refine j_aload_n d_Mo_thrown_0 rfl ?_
                            refine j_getIv (f := 640) (v := ((1 : Int32))) fe_Mo_139 rfl rfl t14 (show gI (sI G 640 a2 ((1 : Int32))) 640 a2 = _ from gI_sI_eq) d_Mo_thrown_1 ?_
                            refine j_iret rfl d_Mo_thrown_4 ?_
                            show J E 14 m_La_law 248 [some (.ref a0), some (.ref a1), some (.ref a2), some (.ref a3), some (.int p4), some (.int s0), none] [.int (((1 : Int32)))] (sI G 640 a2 ((1 : Int32))) Post
                            refine j_iload d_La_law_248 rfl ?_
                            obtain ⟨Ha, Hb⟩ := H
                            refine j_icmp_eq (tgt := 255) d_La_law_250 (by decide) (fun c50 => ?_) (fun c51 => ?_)
                            · have H := Ha c50
                              refine j_goto (tgt := 1295) d_La_law_255 (by decide) ?_
                              refine j_iinc (v := (p4 + (7 : Int32))) (L' := [some (.ref a0), some (.ref a1), some (.ref a2), some (.ref a3), some (.int ((p4 + (7 : Int32)))), some (.int s0), none]) d_La_law_1295 rfl (by rw [show Int32.ofInt (7) = (7 : Int32) by decide]) (by decide) rfl ?_
                              refine j_goto (tgt := 23) d_La_law_1298 (by decide) ?_
                              refine j_forget (L' := [some (.ref a0), some (.ref a1), some (.ref a2), some (.ref a3), some (.int ((p4 + (7 : Int32)))), none, none]) ⟨Or.inr rfl, Or.inr rfl, Or.inr rfl, Or.inr rfl, Or.inr rfl, Or.inl rfl, Or.inl rfl, trivial⟩ ?_
                              exact H
                            · have H := Hb c51
                              refine j_iconst (v := 0) d_La_law_253 (by decide) ?_
                              exact j_zret rfl (by decide) d_La_law_254 H
                          · have H := Hb c67
                            refine j_iconst (v := 1) d_Mo_job_82 (by decide) ?_
                            refine j_goto (tgt := 87) d_Mo_job_83 (by decide) ?_
                            refine j_istore (L' := [some (.ref a2), some (.int ((gA G a0 n3))), some (.int ((gA G a0 n5))), some (.int ((gA G a0 n7))), some (.int ((gA G a0 n9))), some (.int ((gA G a0 n11))), some (.int ((0 : Int32))), some (.int ((1 : Int32))), some (.int ((1 : Int32)))]) d_Mo_job_87 (by decide) rfl ?_
                            refine j_aload_n d_Mo_job_89 rfl ?_
                            refine j_iload d_Mo_job_90 rfl ?_
                            refine j_if_ne (tgt := 99) d_Mo_job_92 (by decide) (fun _ => ?_) (fun c => absurd c (by decide))
                            refine j_aload_n d_Mo_job_99 rfl ?_
                            refine j_getI (f := 648) fe_Mo_146 rfl rfl t14 d_Mo_job_100 ?_
                            obtain ⟨Ha, Hb⟩ := H
                            refine j_if_eq (tgt := 110) d_Mo_job_103 (by decide) (fun c64 => ?_) (fun c65 => ?_)
                            · have H := Ha c64
                              refine j_iconst (v := 0) d_Mo_job_110 (by decide) ?_
                              refine j_callV (d' := 1) (ci := 10) (As := [.int ((0 : Int32))]) (rest := []) (b := a2) cv_Mo_149 me_Mo_isFine rfl (by decide) rfl rfl t14 rfl rfl (Nat.le_of_ble_eq_true rfl) d_Mo_job_111 (by decide) rfl (j_enter (L := [some (.ref a2), some (.int ((0 : Int32)))]) me_Mo_isFine (cat_c rfl (cat_c rfl cat_n)) (Nat.le_of_ble_eq_true rfl) rfl ?_)
                              refine j_aload_n d_Mo_isFine_0 rfl ?_
                              refine j_iload_n d_Mo_isFine_1 rfl ?_
                              refine j_putI (f := 640) fw_Mo_139 rfl rfl t14 d_Mo_isFine_2 ?_
                              refine j_iload_n d_Mo_isFine_5 rfl ?_
                              refine j_if_ne (tgt := 13) d_Mo_isFine_6 (by decide) (fun c => absurd c (by decide)) (fun _ => ?_)
                              refine j_iconst (v := 1) d_Mo_isFine_9 (by decide) ?_
                              refine j_goto (tgt := 14) d_Mo_isFine_10 (by decide) ?_
                              refine j_zret rfl (by decide) d_Mo_isFine_14 ?_
                              show J E 2 m_Mo_job 114 [some (.ref a2), some (.int ((gA G a0 n3))), some (.int ((gA G a0 n5))), some (.int ((gA G a0 n7))), some (.int ((gA G a0 n9))), some (.int ((gA G a0 n11))), some (.int ((0 : Int32))), some (.int ((1 : Int32))), some (.int ((1 : Int32)))] [.int ((1 : Int32))] (sI G 640 a2 ((0 : Int32))) (aft E 14 m_La_law 241 [some (.ref a0), some (.ref a1), some (.ref a2), some (.ref a3), some (.int p4), some (.int s0), none] [] Post)
                              refine j_if_eq (tgt := 159) d_Mo_job_114 (by decide) (fun c => absurd c (by decide)) (fun _ => ?_)
                              refine j_aload_n d_Mo_job_117 rfl ?_
                              refine j_iload_n d_Mo_job_118 rfl ?_
                              refine j_putI (f := 641) fw_Mo_9 rfl rfl t14 d_Mo_job_119 ?_
                              refine j_aload_n d_Mo_job_122 rfl ?_
                              refine j_iload_n d_Mo_job_123 rfl ?_
                              refine j_putI (f := 642) fw_Mo_13 rfl rfl t14 d_Mo_job_124 ?_
                              refine j_aload_n d_Mo_job_127 rfl ?_
                              refine j_iload_n d_Mo_job_128 rfl ?_
                              refine j_iconst (v := 1) d_Mo_job_129 (by decide) ?_
                              obtain ⟨Ha, Hb⟩ := H
                              refine j_icmp_ne (tgt := 137) d_Mo_job_130 (by decide) (fun c60 => ?_) (fun c61 => ?_)
                              · have H := Ha c60
                                refine j_iload_n d_Mo_job_137 rfl ?_
                                refine j_putI (f := 643) fw_Mo_16 rfl rfl t14 d_Mo_job_138 ?_
                                refine j_aload_n d_Mo_job_141 rfl ?_
                                refine j_iload d_Mo_job_142 rfl ?_
                                refine j_putI (f := 644) fw_Mo_153 rfl rfl t14 d_Mo_job_144 ?_
                                show J E 2 m_Mo_job 147 [some (.ref a2), some (.int ((gA G a0 n3))), some (.int ((gA G a0 n5))), some (.int ((gA G a0 n7))), some (.int ((gA G a0 n9))), some (.int ((gA G a0 n11))), some (.int ((0 : Int32))), some (.int ((1 : Int32))), some (.int ((1 : Int32)))] [] (sI (sI (sI (sI (sI G 640 a2 ((0 : Int32))) 641 a2 ((gA G a0 n3))) 642 a2 ((gA G a0 n5))) 643 a2 ((gA G a0 n5))) 644 a2 ((gA G a0 n9))) (aft E 14 m_La_law 241 [some (.ref a0), some (.ref a1), some (.ref a2), some (.ref a3), some (.int p4), some (.int s0), none] [] Post)
                                generalize e53 : sI (sI (sI (sI (sI G 640 a2 ((0 : Int32))) 641 a2 ((gA G a0 n3))) 642 a2 ((gA G a0 n5))) 643 a2 ((gA G a0 n5))) 644 a2 ((gA G a0 n9)) = G52
                                have e53 := e53.symm
                                have H := H G52 e53
                                refine j_aload_n d_Mo_job_147 rfl ?_
                                refine j_iload d_Mo_job_148 rfl ?_
                                refine j_putI (f := 645) fw_Mo_19 rfl rfl (by rw [e53]; exact t14) d_Mo_job_150 ?_
                                refine j_aload_n d_Mo_job_153 rfl ?_
                                refine j_iload d_Mo_job_154 rfl ?_
                                refine j_putZ (f := 646) fw_Mo_22 rfl rfl (by rw [e53]; exact t14) (by decide) d_Mo_job_156 ?_
                                refine j_vret rfl d_Mo_job_159 ?_
                                show J E 14 m_La_law 244 [some (.ref a0), some (.ref a1), some (.ref a2), some (.ref a3), some (.int p4), some (.int s0), none] [] (sI (sI G52 645 a2 ((gA G a0 n11))) 646 a2 ((0 : Int32))) Post
                                refine j_aload_n d_La_law_244 rfl ?_
                                refine j_callV (d' := 1) (ci := 10) (As := []) (rest := []) (b := a2) cv_La_80 me_Mo_thrown rfl (by decide) rfl rfl (by rw [e53]; exact t14) rfl rfl (Nat.le_of_ble_eq_true rfl) d_La_law_245 (by decide) rfl (j_enter (L := [some (.ref a2)]) me_Mo_thrown (cat_c rfl cat_n) (Nat.le_of_ble_eq_true rfl) rfl ?_)
                                refine j_aload_n d_Mo_thrown_0 rfl ?_
                                refine j_getIv (f := 640) (v := ((0 : Int32))) fe_Mo_139 rfl rfl (by rw [e53]; exact t14) (by rw [e53]; exact (show gI (sI G 640 a2 ((0 : Int32))) 640 a2 = _ from gI_sI_eq)) d_Mo_thrown_1 ?_
                                refine j_iret rfl d_Mo_thrown_4 ?_
                                show J E 14 m_La_law 248 [some (.ref a0), some (.ref a1), some (.ref a2), some (.ref a3), some (.int p4), some (.int s0), none] [.int (((0 : Int32)))] (sI (sI G52 645 a2 ((gA G a0 n11))) 646 a2 ((0 : Int32))) Post
                                refine j_iload d_La_law_248 rfl ?_
                                obtain ⟨Ha, Hb⟩ := H
                                refine j_icmp_eq (tgt := 255) d_La_law_250 (by decide) (fun c54 => ?_) (fun c55 => ?_)
                                · have H := Ha c54
                                  refine j_goto (tgt := 1295) d_La_law_255 (by decide) ?_
                                  refine j_iinc (v := (p4 + (7 : Int32))) (L' := [some (.ref a0), some (.ref a1), some (.ref a2), some (.ref a3), some (.int ((p4 + (7 : Int32)))), some (.int s0), none]) d_La_law_1295 rfl (by rw [show Int32.ofInt (7) = (7 : Int32) by decide]) (by decide) rfl ?_
                                  refine j_goto (tgt := 23) d_La_law_1298 (by decide) ?_
                                  refine j_forget (L' := [some (.ref a0), some (.ref a1), some (.ref a2), some (.ref a3), some (.int ((p4 + (7 : Int32)))), none, none]) ⟨Or.inr rfl, Or.inr rfl, Or.inr rfl, Or.inr rfl, Or.inr rfl, Or.inl rfl, Or.inl rfl, trivial⟩ ?_
                                  exact H
                                · have H := Hb c55
                                  refine j_iconst (v := 0) d_La_law_253 (by decide) ?_
                                  exact j_zret rfl (by decide) d_La_law_254 H
                              · have H := Hb c61
                                refine j_iload_n d_Mo_job_133 rfl ?_
                                refine j_goto (tgt := 138) d_Mo_job_134 (by decide) ?_
                                refine j_putI (f := 643) fw_Mo_16 rfl rfl t14 d_Mo_job_138 ?_
                                refine j_aload_n d_Mo_job_141 rfl ?_
                                refine j_iload d_Mo_job_142 rfl ?_
                                refine j_putI (f := 644) fw_Mo_153 rfl rfl t14 d_Mo_job_144 ?_
                                show J E 2 m_Mo_job 147 [some (.ref a2), some (.int ((gA G a0 n3))), some (.int ((gA G a0 n5))), some (.int ((gA G a0 n7))), some (.int ((gA G a0 n9))), some (.int ((gA G a0 n11))), some (.int ((0 : Int32))), some (.int ((1 : Int32))), some (.int ((1 : Int32)))] [] (sI (sI (sI (sI (sI G 640 a2 ((0 : Int32))) 641 a2 ((gA G a0 n3))) 642 a2 ((gA G a0 n5))) 643 a2 ((gA G a0 n7))) 644 a2 ((gA G a0 n9))) (aft E 14 m_La_law 241 [some (.ref a0), some (.ref a1), some (.ref a2), some (.ref a3), some (.int p4), some (.int s0), none] [] Post)
                                generalize e57 : sI (sI (sI (sI (sI G 640 a2 ((0 : Int32))) 641 a2 ((gA G a0 n3))) 642 a2 ((gA G a0 n5))) 643 a2 ((gA G a0 n7))) 644 a2 ((gA G a0 n9)) = G56
                                have e57 := e57.symm
                                have H := H G56 e57
                                refine j_aload_n d_Mo_job_147 rfl ?_
                                refine j_iload d_Mo_job_148 rfl ?_
                                refine j_putI (f := 645) fw_Mo_19 rfl rfl (by rw [e57]; exact t14) d_Mo_job_150 ?_
                                refine j_aload_n d_Mo_job_153 rfl ?_
                                refine j_iload d_Mo_job_154 rfl ?_
                                refine j_putZ (f := 646) fw_Mo_22 rfl rfl (by rw [e57]; exact t14) (by decide) d_Mo_job_156 ?_
                                refine j_vret rfl d_Mo_job_159 ?_
                                show J E 14 m_La_law 244 [some (.ref a0), some (.ref a1), some (.ref a2), some (.ref a3), some (.int p4), some (.int s0), none] [] (sI (sI G56 645 a2 ((gA G a0 n11))) 646 a2 ((0 : Int32))) Post
                                refine j_aload_n d_La_law_244 rfl ?_
                                refine j_callV (d' := 1) (ci := 10) (As := []) (rest := []) (b := a2) cv_La_80 me_Mo_thrown rfl (by decide) rfl rfl (by rw [e57]; exact t14) rfl rfl (Nat.le_of_ble_eq_true rfl) d_La_law_245 (by decide) rfl (j_enter (L := [some (.ref a2)]) me_Mo_thrown (cat_c rfl cat_n) (Nat.le_of_ble_eq_true rfl) rfl ?_)
                                refine j_aload_n d_Mo_thrown_0 rfl ?_
                                refine j_getIv (f := 640) (v := ((0 : Int32))) fe_Mo_139 rfl rfl (by rw [e57]; exact t14) (by rw [e57]; exact (show gI (sI G 640 a2 ((0 : Int32))) 640 a2 = _ from gI_sI_eq)) d_Mo_thrown_1 ?_
                                refine j_iret rfl d_Mo_thrown_4 ?_
                                show J E 14 m_La_law 248 [some (.ref a0), some (.ref a1), some (.ref a2), some (.ref a3), some (.int p4), some (.int s0), none] [.int (((0 : Int32)))] (sI (sI G56 645 a2 ((gA G a0 n11))) 646 a2 ((0 : Int32))) Post
                                refine j_iload d_La_law_248 rfl ?_
                                obtain ⟨Ha, Hb⟩ := H
                                refine j_icmp_eq (tgt := 255) d_La_law_250 (by decide) (fun c58 => ?_) (fun c59 => ?_)
                                · have H := Ha c58
                                  refine j_goto (tgt := 1295) d_La_law_255 (by decide) ?_
                                  refine j_iinc (v := (p4 + (7 : Int32))) (L' := [some (.ref a0), some (.ref a1), some (.ref a2), some (.ref a3), some (.int ((p4 + (7 : Int32)))), some (.int s0), none]) d_La_law_1295 rfl (by rw [show Int32.ofInt (7) = (7 : Int32) by decide]) (by decide) rfl ?_
                                  refine j_goto (tgt := 23) d_La_law_1298 (by decide) ?_
                                  refine j_forget (L' := [some (.ref a0), some (.ref a1), some (.ref a2), some (.ref a3), some (.int ((p4 + (7 : Int32)))), none, none]) ⟨Or.inr rfl, Or.inr rfl, Or.inr rfl, Or.inr rfl, Or.inr rfl, Or.inl rfl, Or.inl rfl, trivial⟩ ?_
                                  exact H
                                · have H := Hb c59
                                  refine j_iconst (v := 0) d_La_law_253 (by decide) ?_
                                  exact j_zret rfl (by decide) d_La_law_254 H
                            · have H := Hb c65
                              refine j_iconst (v := 2) d_Mo_job_106 (by decide) ?_
                              refine j_goto (tgt := 111) d_Mo_job_107 (by decide) ?_
                              refine j_callV (d' := 1) (ci := 10) (As := [.int ((2 : Int32))]) (rest := []) (b := a2) cv_Mo_149 me_Mo_isFine rfl (by decide) rfl rfl t14 rfl rfl (Nat.le_of_ble_eq_true rfl) d_Mo_job_111 (by decide) rfl (j_enter (L := [some (.ref a2), some (.int ((2 : Int32)))]) me_Mo_isFine (cat_c rfl (cat_c rfl cat_n)) (Nat.le_of_ble_eq_true rfl) rfl ?_)
                              refine j_aload_n d_Mo_isFine_0 rfl ?_
                              refine j_iload_n d_Mo_isFine_1 rfl ?_
                              refine j_putI (f := 640) fw_Mo_139 rfl rfl t14 d_Mo_isFine_2 ?_
                              refine j_iload_n d_Mo_isFine_5 rfl ?_
                              refine j_if_ne (tgt := 13) d_Mo_isFine_6 (by decide) (fun _ => ?_) (fun c => absurd c (by decide))
                              refine j_iconst (v := 0) d_Mo_isFine_13 (by decide) ?_
                              refine j_zret rfl (by decide) d_Mo_isFine_14 ?_
                              show J E 2 m_Mo_job 114 [some (.ref a2), some (.int ((gA G a0 n3))), some (.int ((gA G a0 n5))), some (.int ((gA G a0 n7))), some (.int ((gA G a0 n9))), some (.int ((gA G a0 n11))), some (.int ((0 : Int32))), some (.int ((1 : Int32))), some (.int ((1 : Int32)))] [.int ((0 : Int32))] (sI G 640 a2 ((2 : Int32))) (aft E 14 m_La_law 241 [some (.ref a0), some (.ref a1), some (.ref a2), some (.ref a3), some (.int p4), some (.int s0), none] [] Post)
                              refine j_if_eq (tgt := 159) d_Mo_job_114 (by decide) (fun _ => ?_) (fun c => absurd c (by decide))
                              refine j_vret rfl d_Mo_job_159 ?_
                              show J E 14 m_La_law 244 [some (.ref a0), some (.ref a1), some (.ref a2), some (.ref a3), some (.int p4), some (.int s0), none] [] (sI G 640 a2 ((2 : Int32))) Post
                              refine j_aload_n d_La_law_244 rfl ?_
                              refine j_callV (d' := 1) (ci := 10) (As := []) (rest := []) (b := a2) cv_La_80 me_Mo_thrown rfl (by decide) rfl rfl t14 rfl rfl (Nat.le_of_ble_eq_true rfl) d_La_law_245 (by decide) rfl (j_enter (L := [some (.ref a2)]) me_Mo_thrown (cat_c rfl cat_n) (Nat.le_of_ble_eq_true rfl) rfl ?_)
                              refine j_aload_n d_Mo_thrown_0 rfl ?_
                              refine j_getIv (f := 640) (v := ((2 : Int32))) fe_Mo_139 rfl rfl t14 (show gI (sI G 640 a2 ((2 : Int32))) 640 a2 = _ from gI_sI_eq) d_Mo_thrown_1 ?_
                              refine j_iret rfl d_Mo_thrown_4 ?_
                              show J E 14 m_La_law 248 [some (.ref a0), some (.ref a1), some (.ref a2), some (.ref a3), some (.int p4), some (.int s0), none] [.int (((2 : Int32)))] (sI G 640 a2 ((2 : Int32))) Post
                              refine j_iload d_La_law_248 rfl ?_
                              obtain ⟨Ha, Hb⟩ := H
                              refine j_icmp_eq (tgt := 255) d_La_law_250 (by decide) (fun c62 => ?_) (fun c63 => ?_)
                              · have H := Ha c62
                                refine j_goto (tgt := 1295) d_La_law_255 (by decide) ?_
                                refine j_iinc (v := (p4 + (7 : Int32))) (L' := [some (.ref a0), some (.ref a1), some (.ref a2), some (.ref a3), some (.int ((p4 + (7 : Int32)))), some (.int s0), none]) d_La_law_1295 rfl (by rw [show Int32.ofInt (7) = (7 : Int32) by decide]) (by decide) rfl ?_
                                refine j_goto (tgt := 23) d_La_law_1298 (by decide) ?_
                                refine j_forget (L' := [some (.ref a0), some (.ref a1), some (.ref a2), some (.ref a3), some (.int ((p4 + (7 : Int32)))), none, none]) ⟨Or.inr rfl, Or.inr rfl, Or.inr rfl, Or.inr rfl, Or.inr rfl, Or.inl rfl, Or.inl rfl, trivial⟩ ?_
                                exact H
                              · have H := Hb c63
                                refine j_iconst (v := 0) d_La_law_253 (by decide) ?_
                                exact j_zret rfl (by decide) d_La_law_254 H
  · have H := Hb c167
    refine j_iconst (v := 1) d_La_law_236 (by decide) ?_
    refine j_goto (tgt := 241) d_La_law_237 (by decide) ?_
    obtain ⟨t90, H⟩ := H
    refine j_callV (d' := 2) (ci := 10) (As := [.int ((gA G a0 n3)), .int ((gA G a0 n5)), .int ((gA G a0 n7)), .int ((gA G a0 n9)), .int ((gA G a0 n11)), .int ((1 : Int32))]) (rest := []) (b := a2) cv_La_79 me_Mo_job rfl (by decide) rfl rfl t90 rfl rfl (Nat.le_of_ble_eq_true rfl) d_La_law_241 (by decide) rfl (j_enter (L := [some (.ref a2), some (.int ((gA G a0 n3))), some (.int ((gA G a0 n5))), some (.int ((gA G a0 n7))), some (.int ((gA G a0 n9))), some (.int ((gA G a0 n11))), some (.int ((1 : Int32))), none, none]) me_Mo_job (cat_c rfl (cat_c rfl (cat_c rfl (cat_c rfl (cat_c rfl (cat_c rfl (cat_c rfl cat_n))))))) (Nat.le_of_ble_eq_true rfl) rfl ?_)
    refine j_iload_n d_Mo_job_0 rfl ?_
    refine j_iconst (v := 0) d_Mo_job_1 (by decide) ?_
    refine j_iconst (v := 2) d_Mo_job_2 (by decide) ?_
    refine j_callS (d' := 1) (As := [.int ((gA G a0 n3)), .int ((0 : Int32)), .int ((2 : Int32))]) (rest := []) cs_Mo_142 me_Mo_isIn rfl (by decide) rfl rfl (Nat.le_of_ble_eq_true rfl) d_Mo_job_3 (by decide) rfl (j_enter (L := [some (.int ((gA G a0 n3))), some (.int ((0 : Int32))), some (.int ((2 : Int32)))]) me_Mo_isIn (cat_c rfl (cat_c rfl (cat_c rfl cat_n))) (Nat.le_of_ble_eq_true rfl) rfl ?_)
    refine j_iload_n d_Mo_isIn_0 rfl ?_
    refine j_iload_n d_Mo_isIn_1 rfl ?_
    obtain ⟨Ha, Hb⟩ := H
    refine j_icmp_lt (tgt := 14) d_Mo_isIn_2 (by decide) (fun c164 => ?_) (fun c165 => ?_)
    · have H := Ha c164
      refine j_iconst (v := 0) d_Mo_isIn_14 (by decide) ?_
      refine j_zret rfl (by decide) d_Mo_isIn_15 ?_
      show J E 2 m_Mo_job 6 [some (.ref a2), some (.int ((gA G a0 n3))), some (.int ((gA G a0 n5))), some (.int ((gA G a0 n7))), some (.int ((gA G a0 n9))), some (.int ((gA G a0 n11))), some (.int ((1 : Int32))), none, none] [.int ((0 : Int32))] G (aft E 14 m_La_law 241 [some (.ref a0), some (.ref a1), some (.ref a2), some (.ref a3), some (.int p4), some (.int s0), none] [] Post)
      refine j_if_eq (tgt := 48) d_Mo_job_6 (by decide) (fun _ => ?_) (fun c => absurd c (by decide))
      refine j_iconst (v := 0) d_Mo_job_48 (by decide) ?_
      refine j_istore (L' := [some (.ref a2), some (.int ((gA G a0 n3))), some (.int ((gA G a0 n5))), some (.int ((gA G a0 n7))), some (.int ((gA G a0 n9))), some (.int ((gA G a0 n11))), some (.int ((1 : Int32))), some (.int ((0 : Int32))), none]) d_Mo_job_49 (by decide) rfl ?_
      refine j_iload d_Mo_job_51 rfl ?_
      refine j_if_eq (tgt := 86) d_Mo_job_53 (by decide) (fun _ => ?_) (fun c => absurd c (by decide))
      refine j_iconst (v := 0) d_Mo_job_86 (by decide) ?_
      refine j_istore (L' := [some (.ref a2), some (.int ((gA G a0 n3))), some (.int ((gA G a0 n5))), some (.int ((gA G a0 n7))), some (.int ((gA G a0 n9))), some (.int ((gA G a0 n11))), some (.int ((1 : Int32))), some (.int ((0 : Int32))), some (.int ((0 : Int32)))]) d_Mo_job_87 (by decide) rfl ?_
      refine j_aload_n d_Mo_job_89 rfl ?_
      refine j_iload d_Mo_job_90 rfl ?_
      refine j_if_ne (tgt := 99) d_Mo_job_92 (by decide) (fun c => absurd c (by decide)) (fun _ => ?_)
      refine j_iconst (v := 1) d_Mo_job_95 (by decide) ?_
      refine j_goto (tgt := 111) d_Mo_job_96 (by decide) ?_
      refine j_callV (d' := 1) (ci := 10) (As := [.int ((1 : Int32))]) (rest := []) (b := a2) cv_Mo_149 me_Mo_isFine rfl (by decide) rfl rfl t90 rfl rfl (Nat.le_of_ble_eq_true rfl) d_Mo_job_111 (by decide) rfl (j_enter (L := [some (.ref a2), some (.int ((1 : Int32)))]) me_Mo_isFine (cat_c rfl (cat_c rfl cat_n)) (Nat.le_of_ble_eq_true rfl) rfl ?_)
      refine j_aload_n d_Mo_isFine_0 rfl ?_
      refine j_iload_n d_Mo_isFine_1 rfl ?_
      refine j_putI (f := 640) fw_Mo_139 rfl rfl t90 d_Mo_isFine_2 ?_
      refine j_iload_n d_Mo_isFine_5 rfl ?_
      refine j_if_ne (tgt := 13) d_Mo_isFine_6 (by decide) (fun _ => ?_) (fun c => absurd c (by decide))
      refine j_iconst (v := 0) d_Mo_isFine_13 (by decide) ?_
      refine j_zret rfl (by decide) d_Mo_isFine_14 ?_
      show J E 2 m_Mo_job 114 [some (.ref a2), some (.int ((gA G a0 n3))), some (.int ((gA G a0 n5))), some (.int ((gA G a0 n7))), some (.int ((gA G a0 n9))), some (.int ((gA G a0 n11))), some (.int ((1 : Int32))), some (.int ((0 : Int32))), some (.int ((0 : Int32)))] [.int ((0 : Int32))] (sI G 640 a2 ((1 : Int32))) (aft E 14 m_La_law 241 [some (.ref a0), some (.ref a1), some (.ref a2), some (.ref a3), some (.int p4), some (.int s0), none] [] Post)
      refine j_if_eq (tgt := 159) d_Mo_job_114 (by decide) (fun _ => ?_) (fun c => absurd c (by decide))
      refine j_vret rfl d_Mo_job_159 ?_
      show J E 14 m_La_law 244 [some (.ref a0), some (.ref a1), some (.ref a2), some (.ref a3), some (.int p4), some (.int s0), none] [] (sI G 640 a2 ((1 : Int32))) Post
      refine j_aload_n d_La_law_244 rfl ?_
      refine j_callV (d' := 1) (ci := 10) (As := []) (rest := []) (b := a2) cv_La_80 me_Mo_thrown rfl (by decide) rfl rfl t90 rfl rfl (Nat.le_of_ble_eq_true rfl) d_La_law_245 (by decide) rfl (j_enter (L := [some (.ref a2)]) me_Mo_thrown (cat_c rfl cat_n) (Nat.le_of_ble_eq_true rfl) rfl ?_)
      refine j_aload_n d_Mo_thrown_0 rfl ?_
      refine j_getIv (f := 640) (v := ((1 : Int32))) fe_Mo_139 rfl rfl t90 (show gI (sI G 640 a2 ((1 : Int32))) 640 a2 = _ from gI_sI_eq) d_Mo_thrown_1 ?_
      refine j_iret rfl d_Mo_thrown_4 ?_
      show J E 14 m_La_law 248 [some (.ref a0), some (.ref a1), some (.ref a2), some (.ref a3), some (.int p4), some (.int s0), none] [.int (((1 : Int32)))] (sI G 640 a2 ((1 : Int32))) Post
      refine j_iload d_La_law_248 rfl ?_
      obtain ⟨Ha, Hb⟩ := H
      refine j_icmp_eq (tgt := 255) d_La_law_250 (by decide) (fun c91 => ?_) (fun c92 => ?_)
      · have H := Ha c91
        refine j_goto (tgt := 1295) d_La_law_255 (by decide) ?_
        refine j_iinc (v := (p4 + (7 : Int32))) (L' := [some (.ref a0), some (.ref a1), some (.ref a2), some (.ref a3), some (.int ((p4 + (7 : Int32)))), some (.int s0), none]) d_La_law_1295 rfl (by rw [show Int32.ofInt (7) = (7 : Int32) by decide]) (by decide) rfl ?_
        refine j_goto (tgt := 23) d_La_law_1298 (by decide) ?_
        refine j_forget (L' := [some (.ref a0), some (.ref a1), some (.ref a2), some (.ref a3), some (.int ((p4 + (7 : Int32)))), none, none]) ⟨Or.inr rfl, Or.inr rfl, Or.inr rfl, Or.inr rfl, Or.inr rfl, Or.inl rfl, Or.inl rfl, trivial⟩ ?_
        exact H
      · have H := Hb c92
        refine j_iconst (v := 0) d_La_law_253 (by decide) ?_
        exact j_zret rfl (by decide) d_La_law_254 H
    · have H := Hb c165
      refine j_iload_n d_Mo_isIn_5 rfl ?_
      refine j_iload_n d_Mo_isIn_6 rfl ?_
      obtain ⟨Ha, Hb⟩ := H
      refine j_icmp_gt (tgt := 14) d_Mo_isIn_7 (by decide) (fun c162 => ?_) (fun c163 => ?_)
      · have H := Ha c162
        refine j_iconst (v := 0) d_Mo_isIn_14 (by decide) ?_
        refine j_zret rfl (by decide) d_Mo_isIn_15 ?_
        show J E 2 m_Mo_job 6 [some (.ref a2), some (.int ((gA G a0 n3))), some (.int ((gA G a0 n5))), some (.int ((gA G a0 n7))), some (.int ((gA G a0 n9))), some (.int ((gA G a0 n11))), some (.int ((1 : Int32))), none, none] [.int ((0 : Int32))] G (aft E 14 m_La_law 241 [some (.ref a0), some (.ref a1), some (.ref a2), some (.ref a3), some (.int p4), some (.int s0), none] [] Post)
        refine j_if_eq (tgt := 48) d_Mo_job_6 (by decide) (fun _ => ?_) (fun c => absurd c (by decide))
        refine j_iconst (v := 0) d_Mo_job_48 (by decide) ?_
        refine j_istore (L' := [some (.ref a2), some (.int ((gA G a0 n3))), some (.int ((gA G a0 n5))), some (.int ((gA G a0 n7))), some (.int ((gA G a0 n9))), some (.int ((gA G a0 n11))), some (.int ((1 : Int32))), some (.int ((0 : Int32))), none]) d_Mo_job_49 (by decide) rfl ?_
        refine j_iload d_Mo_job_51 rfl ?_
        refine j_if_eq (tgt := 86) d_Mo_job_53 (by decide) (fun _ => ?_) (fun c => absurd c (by decide))
        refine j_iconst (v := 0) d_Mo_job_86 (by decide) ?_
        refine j_istore (L' := [some (.ref a2), some (.int ((gA G a0 n3))), some (.int ((gA G a0 n5))), some (.int ((gA G a0 n7))), some (.int ((gA G a0 n9))), some (.int ((gA G a0 n11))), some (.int ((1 : Int32))), some (.int ((0 : Int32))), some (.int ((0 : Int32)))]) d_Mo_job_87 (by decide) rfl ?_
        refine j_aload_n d_Mo_job_89 rfl ?_
        refine j_iload d_Mo_job_90 rfl ?_
        refine j_if_ne (tgt := 99) d_Mo_job_92 (by decide) (fun c => absurd c (by decide)) (fun _ => ?_)
        refine j_iconst (v := 1) d_Mo_job_95 (by decide) ?_
        refine j_goto (tgt := 111) d_Mo_job_96 (by decide) ?_
        refine j_callV (d' := 1) (ci := 10) (As := [.int ((1 : Int32))]) (rest := []) (b := a2) cv_Mo_149 me_Mo_isFine rfl (by decide) rfl rfl t90 rfl rfl (Nat.le_of_ble_eq_true rfl) d_Mo_job_111 (by decide) rfl (j_enter (L := [some (.ref a2), some (.int ((1 : Int32)))]) me_Mo_isFine (cat_c rfl (cat_c rfl cat_n)) (Nat.le_of_ble_eq_true rfl) rfl ?_)
        refine j_aload_n d_Mo_isFine_0 rfl ?_
        refine j_iload_n d_Mo_isFine_1 rfl ?_
        refine j_putI (f := 640) fw_Mo_139 rfl rfl t90 d_Mo_isFine_2 ?_
        refine j_iload_n d_Mo_isFine_5 rfl ?_
        refine j_if_ne (tgt := 13) d_Mo_isFine_6 (by decide) (fun _ => ?_) (fun c => absurd c (by decide))
        refine j_iconst (v := 0) d_Mo_isFine_13 (by decide) ?_
        refine j_zret rfl (by decide) d_Mo_isFine_14 ?_
        show J E 2 m_Mo_job 114 [some (.ref a2), some (.int ((gA G a0 n3))), some (.int ((gA G a0 n5))), some (.int ((gA G a0 n7))), some (.int ((gA G a0 n9))), some (.int ((gA G a0 n11))), some (.int ((1 : Int32))), some (.int ((0 : Int32))), some (.int ((0 : Int32)))] [.int ((0 : Int32))] (sI G 640 a2 ((1 : Int32))) (aft E 14 m_La_law 241 [some (.ref a0), some (.ref a1), some (.ref a2), some (.ref a3), some (.int p4), some (.int s0), none] [] Post)
        refine j_if_eq (tgt := 159) d_Mo_job_114 (by decide) (fun _ => ?_) (fun c => absurd c (by decide))
        refine j_vret rfl d_Mo_job_159 ?_
        show J E 14 m_La_law 244 [some (.ref a0), some (.ref a1), some (.ref a2), some (.ref a3), some (.int p4), some (.int s0), none] [] (sI G 640 a2 ((1 : Int32))) Post
        refine j_aload_n d_La_law_244 rfl ?_
        refine j_callV (d' := 1) (ci := 10) (As := []) (rest := []) (b := a2) cv_La_80 me_Mo_thrown rfl (by decide) rfl rfl t90 rfl rfl (Nat.le_of_ble_eq_true rfl) d_La_law_245 (by decide) rfl (j_enter (L := [some (.ref a2)]) me_Mo_thrown (cat_c rfl cat_n) (Nat.le_of_ble_eq_true rfl) rfl ?_)
        refine j_aload_n d_Mo_thrown_0 rfl ?_
        refine j_getIv (f := 640) (v := ((1 : Int32))) fe_Mo_139 rfl rfl t90 (show gI (sI G 640 a2 ((1 : Int32))) 640 a2 = _ from gI_sI_eq) d_Mo_thrown_1 ?_
        refine j_iret rfl d_Mo_thrown_4 ?_
        show J E 14 m_La_law 248 [some (.ref a0), some (.ref a1), some (.ref a2), some (.ref a3), some (.int p4), some (.int s0), none] [.int (((1 : Int32)))] (sI G 640 a2 ((1 : Int32))) Post
        refine j_iload d_La_law_248 rfl ?_
        obtain ⟨Ha, Hb⟩ := H
        refine j_icmp_eq (tgt := 255) d_La_law_250 (by decide) (fun c93 => ?_) (fun c94 => ?_)
        · have H := Ha c93
          refine j_goto (tgt := 1295) d_La_law_255 (by decide) ?_
          refine j_iinc (v := (p4 + (7 : Int32))) (L' := [some (.ref a0), some (.ref a1), some (.ref a2), some (.ref a3), some (.int ((p4 + (7 : Int32)))), some (.int s0), none]) d_La_law_1295 rfl (by rw [show Int32.ofInt (7) = (7 : Int32) by decide]) (by decide) rfl ?_
          refine j_goto (tgt := 23) d_La_law_1298 (by decide) ?_
          refine j_forget (L' := [some (.ref a0), some (.ref a1), some (.ref a2), some (.ref a3), some (.int ((p4 + (7 : Int32)))), none, none]) ⟨Or.inr rfl, Or.inr rfl, Or.inr rfl, Or.inr rfl, Or.inr rfl, Or.inl rfl, Or.inl rfl, trivial⟩ ?_
          exact H
        · have H := Hb c94
          refine j_iconst (v := 0) d_La_law_253 (by decide) ?_
          exact j_zret rfl (by decide) d_La_law_254 H
      · have H := Hb c163
        refine j_iconst (v := 1) d_Mo_isIn_10 (by decide) ?_
        refine j_goto (tgt := 15) d_Mo_isIn_11 (by decide) ?_
        refine j_zret rfl (by decide) d_Mo_isIn_15 ?_
        show J E 2 m_Mo_job 6 [some (.ref a2), some (.int ((gA G a0 n3))), some (.int ((gA G a0 n5))), some (.int ((gA G a0 n7))), some (.int ((gA G a0 n9))), some (.int ((gA G a0 n11))), some (.int ((1 : Int32))), none, none] [.int ((1 : Int32))] G (aft E 14 m_La_law 241 [some (.ref a0), some (.ref a1), some (.ref a2), some (.ref a3), some (.int p4), some (.int s0), none] [] Post)
        refine j_if_eq (tgt := 48) d_Mo_job_6 (by decide) (fun c => absurd c (by decide)) (fun _ => ?_)
        refine j_iload_n d_Mo_job_9 rfl ?_
        refine j_iconst (v := 1) d_Mo_job_10 (by decide) ?_
        refine j_sipush (v := 200) d_Mo_job_11 (by decide) ?_
        refine j_callS (d' := 1) (As := [.int ((gA G a0 n5)), .int ((1 : Int32)), .int ((200 : Int32))]) (rest := []) cs_Mo_142 me_Mo_isIn rfl (by decide) rfl rfl (Nat.le_of_ble_eq_true rfl) d_Mo_job_14 (by decide) rfl (j_enter (L := [some (.int ((gA G a0 n5))), some (.int ((1 : Int32))), some (.int ((200 : Int32)))]) me_Mo_isIn (cat_c rfl (cat_c rfl (cat_c rfl cat_n))) (Nat.le_of_ble_eq_true rfl) rfl ?_)
        refine j_iload_n d_Mo_isIn_0 rfl ?_
        refine j_iload_n d_Mo_isIn_1 rfl ?_
        obtain ⟨Ha, Hb⟩ := H
        refine j_icmp_lt (tgt := 14) d_Mo_isIn_2 (by decide) (fun c160 => ?_) (fun c161 => ?_)
        · have H := Ha c160
          refine j_iconst (v := 0) d_Mo_isIn_14 (by decide) ?_
          refine j_zret rfl (by decide) d_Mo_isIn_15 ?_
          show J E 2 m_Mo_job 17 [some (.ref a2), some (.int ((gA G a0 n3))), some (.int ((gA G a0 n5))), some (.int ((gA G a0 n7))), some (.int ((gA G a0 n9))), some (.int ((gA G a0 n11))), some (.int ((1 : Int32))), none, none] [.int ((0 : Int32))] G (aft E 14 m_La_law 241 [some (.ref a0), some (.ref a1), some (.ref a2), some (.ref a3), some (.int p4), some (.int s0), none] [] Post)
          refine j_if_eq (tgt := 48) d_Mo_job_17 (by decide) (fun _ => ?_) (fun c => absurd c (by decide))
          refine j_iconst (v := 0) d_Mo_job_48 (by decide) ?_
          refine j_istore (L' := [some (.ref a2), some (.int ((gA G a0 n3))), some (.int ((gA G a0 n5))), some (.int ((gA G a0 n7))), some (.int ((gA G a0 n9))), some (.int ((gA G a0 n11))), some (.int ((1 : Int32))), some (.int ((0 : Int32))), none]) d_Mo_job_49 (by decide) rfl ?_
          refine j_iload d_Mo_job_51 rfl ?_
          refine j_if_eq (tgt := 86) d_Mo_job_53 (by decide) (fun _ => ?_) (fun c => absurd c (by decide))
          refine j_iconst (v := 0) d_Mo_job_86 (by decide) ?_
          refine j_istore (L' := [some (.ref a2), some (.int ((gA G a0 n3))), some (.int ((gA G a0 n5))), some (.int ((gA G a0 n7))), some (.int ((gA G a0 n9))), some (.int ((gA G a0 n11))), some (.int ((1 : Int32))), some (.int ((0 : Int32))), some (.int ((0 : Int32)))]) d_Mo_job_87 (by decide) rfl ?_
          refine j_aload_n d_Mo_job_89 rfl ?_
          refine j_iload d_Mo_job_90 rfl ?_
          refine j_if_ne (tgt := 99) d_Mo_job_92 (by decide) (fun c => absurd c (by decide)) (fun _ => ?_)
          refine j_iconst (v := 1) d_Mo_job_95 (by decide) ?_
          refine j_goto (tgt := 111) d_Mo_job_96 (by decide) ?_
          refine j_callV (d' := 1) (ci := 10) (As := [.int ((1 : Int32))]) (rest := []) (b := a2) cv_Mo_149 me_Mo_isFine rfl (by decide) rfl rfl t90 rfl rfl (Nat.le_of_ble_eq_true rfl) d_Mo_job_111 (by decide) rfl (j_enter (L := [some (.ref a2), some (.int ((1 : Int32)))]) me_Mo_isFine (cat_c rfl (cat_c rfl cat_n)) (Nat.le_of_ble_eq_true rfl) rfl ?_)
          refine j_aload_n d_Mo_isFine_0 rfl ?_
          refine j_iload_n d_Mo_isFine_1 rfl ?_
          refine j_putI (f := 640) fw_Mo_139 rfl rfl t90 d_Mo_isFine_2 ?_
          refine j_iload_n d_Mo_isFine_5 rfl ?_
          refine j_if_ne (tgt := 13) d_Mo_isFine_6 (by decide) (fun _ => ?_) (fun c => absurd c (by decide))
          refine j_iconst (v := 0) d_Mo_isFine_13 (by decide) ?_
          refine j_zret rfl (by decide) d_Mo_isFine_14 ?_
          show J E 2 m_Mo_job 114 [some (.ref a2), some (.int ((gA G a0 n3))), some (.int ((gA G a0 n5))), some (.int ((gA G a0 n7))), some (.int ((gA G a0 n9))), some (.int ((gA G a0 n11))), some (.int ((1 : Int32))), some (.int ((0 : Int32))), some (.int ((0 : Int32)))] [.int ((0 : Int32))] (sI G 640 a2 ((1 : Int32))) (aft E 14 m_La_law 241 [some (.ref a0), some (.ref a1), some (.ref a2), some (.ref a3), some (.int p4), some (.int s0), none] [] Post)
          refine j_if_eq (tgt := 159) d_Mo_job_114 (by decide) (fun _ => ?_) (fun c => absurd c (by decide))
          refine j_vret rfl d_Mo_job_159 ?_
          show J E 14 m_La_law 244 [some (.ref a0), some (.ref a1), some (.ref a2), some (.ref a3), some (.int p4), some (.int s0), none] [] (sI G 640 a2 ((1 : Int32))) Post
          refine j_aload_n d_La_law_244 rfl ?_
          refine j_callV (d' := 1) (ci := 10) (As := []) (rest := []) (b := a2) cv_La_80 me_Mo_thrown rfl (by decide) rfl rfl t90 rfl rfl (Nat.le_of_ble_eq_true rfl) d_La_law_245 (by decide) rfl (j_enter (L := [some (.ref a2)]) me_Mo_thrown (cat_c rfl cat_n) (Nat.le_of_ble_eq_true rfl) rfl ?_)
          refine j_aload_n d_Mo_thrown_0 rfl ?_
          refine j_getIv (f := 640) (v := ((1 : Int32))) fe_Mo_139 rfl rfl t90 (show gI (sI G 640 a2 ((1 : Int32))) 640 a2 = _ from gI_sI_eq) d_Mo_thrown_1 ?_
          refine j_iret rfl d_Mo_thrown_4 ?_
          show J E 14 m_La_law 248 [some (.ref a0), some (.ref a1), some (.ref a2), some (.ref a3), some (.int p4), some (.int s0), none] [.int (((1 : Int32)))] (sI G 640 a2 ((1 : Int32))) Post
          refine j_iload d_La_law_248 rfl ?_
          obtain ⟨Ha, Hb⟩ := H
          refine j_icmp_eq (tgt := 255) d_La_law_250 (by decide) (fun c95 => ?_) (fun c96 => ?_)
          · have H := Ha c95
            refine j_goto (tgt := 1295) d_La_law_255 (by decide) ?_
            refine j_iinc (v := (p4 + (7 : Int32))) (L' := [some (.ref a0), some (.ref a1), some (.ref a2), some (.ref a3), some (.int ((p4 + (7 : Int32)))), some (.int s0), none]) d_La_law_1295 rfl (by rw [show Int32.ofInt (7) = (7 : Int32) by decide]) (by decide) rfl ?_
            refine j_goto (tgt := 23) d_La_law_1298 (by decide) ?_
            refine j_forget (L' := [some (.ref a0), some (.ref a1), some (.ref a2), some (.ref a3), some (.int ((p4 + (7 : Int32)))), none, none]) ⟨Or.inr rfl, Or.inr rfl, Or.inr rfl, Or.inr rfl, Or.inr rfl, Or.inl rfl, Or.inl rfl, trivial⟩ ?_
            exact H
          · have H := Hb c96
            refine j_iconst (v := 0) d_La_law_253 (by decide) ?_
            exact j_zret rfl (by decide) d_La_law_254 H
        · have H := Hb c161
          refine j_iload_n d_Mo_isIn_5 rfl ?_
          refine j_iload_n d_Mo_isIn_6 rfl ?_
          obtain ⟨Ha, Hb⟩ := H
          refine j_icmp_gt (tgt := 14) d_Mo_isIn_7 (by decide) (fun c158 => ?_) (fun c159 => ?_)
          · have H := Ha c158
            refine j_iconst (v := 0) d_Mo_isIn_14 (by decide) ?_
            refine j_zret rfl (by decide) d_Mo_isIn_15 ?_
            show J E 2 m_Mo_job 17 [some (.ref a2), some (.int ((gA G a0 n3))), some (.int ((gA G a0 n5))), some (.int ((gA G a0 n7))), some (.int ((gA G a0 n9))), some (.int ((gA G a0 n11))), some (.int ((1 : Int32))), none, none] [.int ((0 : Int32))] G (aft E 14 m_La_law 241 [some (.ref a0), some (.ref a1), some (.ref a2), some (.ref a3), some (.int p4), some (.int s0), none] [] Post)
            refine j_if_eq (tgt := 48) d_Mo_job_17 (by decide) (fun _ => ?_) (fun c => absurd c (by decide))
            refine j_iconst (v := 0) d_Mo_job_48 (by decide) ?_
            refine j_istore (L' := [some (.ref a2), some (.int ((gA G a0 n3))), some (.int ((gA G a0 n5))), some (.int ((gA G a0 n7))), some (.int ((gA G a0 n9))), some (.int ((gA G a0 n11))), some (.int ((1 : Int32))), some (.int ((0 : Int32))), none]) d_Mo_job_49 (by decide) rfl ?_
            refine j_iload d_Mo_job_51 rfl ?_
            refine j_if_eq (tgt := 86) d_Mo_job_53 (by decide) (fun _ => ?_) (fun c => absurd c (by decide))
            refine j_iconst (v := 0) d_Mo_job_86 (by decide) ?_
            refine j_istore (L' := [some (.ref a2), some (.int ((gA G a0 n3))), some (.int ((gA G a0 n5))), some (.int ((gA G a0 n7))), some (.int ((gA G a0 n9))), some (.int ((gA G a0 n11))), some (.int ((1 : Int32))), some (.int ((0 : Int32))), some (.int ((0 : Int32)))]) d_Mo_job_87 (by decide) rfl ?_
            refine j_aload_n d_Mo_job_89 rfl ?_
            refine j_iload d_Mo_job_90 rfl ?_
            refine j_if_ne (tgt := 99) d_Mo_job_92 (by decide) (fun c => absurd c (by decide)) (fun _ => ?_)
            refine j_iconst (v := 1) d_Mo_job_95 (by decide) ?_
            refine j_goto (tgt := 111) d_Mo_job_96 (by decide) ?_
            refine j_callV (d' := 1) (ci := 10) (As := [.int ((1 : Int32))]) (rest := []) (b := a2) cv_Mo_149 me_Mo_isFine rfl (by decide) rfl rfl t90 rfl rfl (Nat.le_of_ble_eq_true rfl) d_Mo_job_111 (by decide) rfl (j_enter (L := [some (.ref a2), some (.int ((1 : Int32)))]) me_Mo_isFine (cat_c rfl (cat_c rfl cat_n)) (Nat.le_of_ble_eq_true rfl) rfl ?_)
            refine j_aload_n d_Mo_isFine_0 rfl ?_
            refine j_iload_n d_Mo_isFine_1 rfl ?_
            refine j_putI (f := 640) fw_Mo_139 rfl rfl t90 d_Mo_isFine_2 ?_
            refine j_iload_n d_Mo_isFine_5 rfl ?_
            refine j_if_ne (tgt := 13) d_Mo_isFine_6 (by decide) (fun _ => ?_) (fun c => absurd c (by decide))
            refine j_iconst (v := 0) d_Mo_isFine_13 (by decide) ?_
            refine j_zret rfl (by decide) d_Mo_isFine_14 ?_
            show J E 2 m_Mo_job 114 [some (.ref a2), some (.int ((gA G a0 n3))), some (.int ((gA G a0 n5))), some (.int ((gA G a0 n7))), some (.int ((gA G a0 n9))), some (.int ((gA G a0 n11))), some (.int ((1 : Int32))), some (.int ((0 : Int32))), some (.int ((0 : Int32)))] [.int ((0 : Int32))] (sI G 640 a2 ((1 : Int32))) (aft E 14 m_La_law 241 [some (.ref a0), some (.ref a1), some (.ref a2), some (.ref a3), some (.int p4), some (.int s0), none] [] Post)
            refine j_if_eq (tgt := 159) d_Mo_job_114 (by decide) (fun _ => ?_) (fun c => absurd c (by decide))
            refine j_vret rfl d_Mo_job_159 ?_
            show J E 14 m_La_law 244 [some (.ref a0), some (.ref a1), some (.ref a2), some (.ref a3), some (.int p4), some (.int s0), none] [] (sI G 640 a2 ((1 : Int32))) Post
            refine j_aload_n d_La_law_244 rfl ?_
            refine j_callV (d' := 1) (ci := 10) (As := []) (rest := []) (b := a2) cv_La_80 me_Mo_thrown rfl (by decide) rfl rfl t90 rfl rfl (Nat.le_of_ble_eq_true rfl) d_La_law_245 (by decide) rfl (j_enter (L := [some (.ref a2)]) me_Mo_thrown (cat_c rfl cat_n) (Nat.le_of_ble_eq_true rfl) rfl ?_)
            refine j_aload_n d_Mo_thrown_0 rfl ?_
            refine j_getIv (f := 640) (v := ((1 : Int32))) fe_Mo_139 rfl rfl t90 (show gI (sI G 640 a2 ((1 : Int32))) 640 a2 = _ from gI_sI_eq) d_Mo_thrown_1 ?_
            refine j_iret rfl d_Mo_thrown_4 ?_
            show J E 14 m_La_law 248 [some (.ref a0), some (.ref a1), some (.ref a2), some (.ref a3), some (.int p4), some (.int s0), none] [.int (((1 : Int32)))] (sI G 640 a2 ((1 : Int32))) Post
            refine j_iload d_La_law_248 rfl ?_
            obtain ⟨Ha, Hb⟩ := H
            refine j_icmp_eq (tgt := 255) d_La_law_250 (by decide) (fun c97 => ?_) (fun c98 => ?_)
            · have H := Ha c97
              refine j_goto (tgt := 1295) d_La_law_255 (by decide) ?_
              refine j_iinc (v := (p4 + (7 : Int32))) (L' := [some (.ref a0), some (.ref a1), some (.ref a2), some (.ref a3), some (.int ((p4 + (7 : Int32)))), some (.int s0), none]) d_La_law_1295 rfl (by rw [show Int32.ofInt (7) = (7 : Int32) by decide]) (by decide) rfl ?_
              refine j_goto (tgt := 23) d_La_law_1298 (by decide) ?_
              refine j_forget (L' := [some (.ref a0), some (.ref a1), some (.ref a2), some (.ref a3), some (.int ((p4 + (7 : Int32)))), none, none]) ⟨Or.inr rfl, Or.inr rfl, Or.inr rfl, Or.inr rfl, Or.inr rfl, Or.inl rfl, Or.inl rfl, trivial⟩ ?_
              exact H
            · have H := Hb c98
              refine j_iconst (v := 0) d_La_law_253 (by decide) ?_
              exact j_zret rfl (by decide) d_La_law_254 H
          · have H := Hb c159
            refine j_iconst (v := 1) d_Mo_isIn_10 (by decide) ?_
            refine j_goto (tgt := 15) d_Mo_isIn_11 (by decide) ?_
            refine j_zret rfl (by decide) d_Mo_isIn_15 ?_
            show J E 2 m_Mo_job 17 [some (.ref a2), some (.int ((gA G a0 n3))), some (.int ((gA G a0 n5))), some (.int ((gA G a0 n7))), some (.int ((gA G a0 n9))), some (.int ((gA G a0 n11))), some (.int ((1 : Int32))), none, none] [.int ((1 : Int32))] G (aft E 14 m_La_law 241 [some (.ref a0), some (.ref a1), some (.ref a2), some (.ref a3), some (.int p4), some (.int s0), none] [] Post)
            refine j_if_eq (tgt := 48) d_Mo_job_17 (by decide) (fun c => absurd c (by decide)) (fun _ => ?_)
            refine j_iload d_Mo_job_20 rfl ?_
            refine j_iconst (v := 0) d_Mo_job_22 (by decide) ?_
            refine j_sipush (v := 200) d_Mo_job_23 (by decide) ?_
            refine j_callS (d' := 1) (As := [.int ((gA G a0 n9)), .int ((0 : Int32)), .int ((200 : Int32))]) (rest := []) cs_Mo_142 me_Mo_isIn rfl (by decide) rfl rfl (Nat.le_of_ble_eq_true rfl) d_Mo_job_26 (by decide) rfl (j_enter (L := [some (.int ((gA G a0 n9))), some (.int ((0 : Int32))), some (.int ((200 : Int32)))]) me_Mo_isIn (cat_c rfl (cat_c rfl (cat_c rfl cat_n))) (Nat.le_of_ble_eq_true rfl) rfl ?_)
            refine j_iload_n d_Mo_isIn_0 rfl ?_
            refine j_iload_n d_Mo_isIn_1 rfl ?_
            obtain ⟨Ha, Hb⟩ := H
            refine j_icmp_lt (tgt := 14) d_Mo_isIn_2 (by decide) (fun c156 => ?_) (fun c157 => ?_)
            · have H := Ha c156
              refine j_iconst (v := 0) d_Mo_isIn_14 (by decide) ?_
              refine j_zret rfl (by decide) d_Mo_isIn_15 ?_
              show J E 2 m_Mo_job 29 [some (.ref a2), some (.int ((gA G a0 n3))), some (.int ((gA G a0 n5))), some (.int ((gA G a0 n7))), some (.int ((gA G a0 n9))), some (.int ((gA G a0 n11))), some (.int ((1 : Int32))), none, none] [.int ((0 : Int32))] G (aft E 14 m_La_law 241 [some (.ref a0), some (.ref a1), some (.ref a2), some (.ref a3), some (.int p4), some (.int s0), none] [] Post)
              refine j_if_eq (tgt := 48) d_Mo_job_29 (by decide) (fun _ => ?_) (fun c => absurd c (by decide))
              refine j_iconst (v := 0) d_Mo_job_48 (by decide) ?_
              refine j_istore (L' := [some (.ref a2), some (.int ((gA G a0 n3))), some (.int ((gA G a0 n5))), some (.int ((gA G a0 n7))), some (.int ((gA G a0 n9))), some (.int ((gA G a0 n11))), some (.int ((1 : Int32))), some (.int ((0 : Int32))), none]) d_Mo_job_49 (by decide) rfl ?_
              refine j_iload d_Mo_job_51 rfl ?_
              refine j_if_eq (tgt := 86) d_Mo_job_53 (by decide) (fun _ => ?_) (fun c => absurd c (by decide))
              refine j_iconst (v := 0) d_Mo_job_86 (by decide) ?_
              refine j_istore (L' := [some (.ref a2), some (.int ((gA G a0 n3))), some (.int ((gA G a0 n5))), some (.int ((gA G a0 n7))), some (.int ((gA G a0 n9))), some (.int ((gA G a0 n11))), some (.int ((1 : Int32))), some (.int ((0 : Int32))), some (.int ((0 : Int32)))]) d_Mo_job_87 (by decide) rfl ?_
              refine j_aload_n d_Mo_job_89 rfl ?_
              refine j_iload d_Mo_job_90 rfl ?_
              refine j_if_ne (tgt := 99) d_Mo_job_92 (by decide) (fun c => absurd c (by decide)) (fun _ => ?_)
              refine j_iconst (v := 1) d_Mo_job_95 (by decide) ?_
              refine j_goto (tgt := 111) d_Mo_job_96 (by decide) ?_
              refine j_callV (d' := 1) (ci := 10) (As := [.int ((1 : Int32))]) (rest := []) (b := a2) cv_Mo_149 me_Mo_isFine rfl (by decide) rfl rfl t90 rfl rfl (Nat.le_of_ble_eq_true rfl) d_Mo_job_111 (by decide) rfl (j_enter (L := [some (.ref a2), some (.int ((1 : Int32)))]) me_Mo_isFine (cat_c rfl (cat_c rfl cat_n)) (Nat.le_of_ble_eq_true rfl) rfl ?_)
              refine j_aload_n d_Mo_isFine_0 rfl ?_
              refine j_iload_n d_Mo_isFine_1 rfl ?_
              refine j_putI (f := 640) fw_Mo_139 rfl rfl t90 d_Mo_isFine_2 ?_
              refine j_iload_n d_Mo_isFine_5 rfl ?_
              refine j_if_ne (tgt := 13) d_Mo_isFine_6 (by decide) (fun _ => ?_) (fun c => absurd c (by decide))
              refine j_iconst (v := 0) d_Mo_isFine_13 (by decide) ?_
              refine j_zret rfl (by decide) d_Mo_isFine_14 ?_
              show J E 2 m_Mo_job 114 [some (.ref a2), some (.int ((gA G a0 n3))), some (.int ((gA G a0 n5))), some (.int ((gA G a0 n7))), some (.int ((gA G a0 n9))), some (.int ((gA G a0 n11))), some (.int ((1 : Int32))), some (.int ((0 : Int32))), some (.int ((0 : Int32)))] [.int ((0 : Int32))] (sI G 640 a2 ((1 : Int32))) (aft E 14 m_La_law 241 [some (.ref a0), some (.ref a1), some (.ref a2), some (.ref a3), some (.int p4), some (.int s0), none] [] Post)
              refine j_if_eq (tgt := 159) d_Mo_job_114 (by decide) (fun _ => ?_) (fun c => absurd c (by decide))
              refine j_vret rfl d_Mo_job_159 ?_
              show J E 14 m_La_law 244 [some (.ref a0), some (.ref a1), some (.ref a2), some (.ref a3), some (.int p4), some (.int s0), none] [] (sI G 640 a2 ((1 : Int32))) Post
              refine j_aload_n d_La_law_244 rfl ?_
              refine j_callV (d' := 1) (ci := 10) (As := []) (rest := []) (b := a2) cv_La_80 me_Mo_thrown rfl (by decide) rfl rfl t90 rfl rfl (Nat.le_of_ble_eq_true rfl) d_La_law_245 (by decide) rfl (j_enter (L := [some (.ref a2)]) me_Mo_thrown (cat_c rfl cat_n) (Nat.le_of_ble_eq_true rfl) rfl ?_)
              refine j_aload_n d_Mo_thrown_0 rfl ?_
              refine j_getIv (f := 640) (v := ((1 : Int32))) fe_Mo_139 rfl rfl t90 (show gI (sI G 640 a2 ((1 : Int32))) 640 a2 = _ from gI_sI_eq) d_Mo_thrown_1 ?_
              refine j_iret rfl d_Mo_thrown_4 ?_
              show J E 14 m_La_law 248 [some (.ref a0), some (.ref a1), some (.ref a2), some (.ref a3), some (.int p4), some (.int s0), none] [.int (((1 : Int32)))] (sI G 640 a2 ((1 : Int32))) Post
              refine j_iload d_La_law_248 rfl ?_
              obtain ⟨Ha, Hb⟩ := H
              refine j_icmp_eq (tgt := 255) d_La_law_250 (by decide) (fun c99 => ?_) (fun c100 => ?_)
              · have H := Ha c99
                refine j_goto (tgt := 1295) d_La_law_255 (by decide) ?_
                refine j_iinc (v := (p4 + (7 : Int32))) (L' := [some (.ref a0), some (.ref a1), some (.ref a2), some (.ref a3), some (.int ((p4 + (7 : Int32)))), some (.int s0), none]) d_La_law_1295 rfl (by rw [show Int32.ofInt (7) = (7 : Int32) by decide]) (by decide) rfl ?_
                refine j_goto (tgt := 23) d_La_law_1298 (by decide) ?_
                refine j_forget (L' := [some (.ref a0), some (.ref a1), some (.ref a2), some (.ref a3), some (.int ((p4 + (7 : Int32)))), none, none]) ⟨Or.inr rfl, Or.inr rfl, Or.inr rfl, Or.inr rfl, Or.inr rfl, Or.inl rfl, Or.inl rfl, trivial⟩ ?_
                exact H
              · have H := Hb c100
                refine j_iconst (v := 0) d_La_law_253 (by decide) ?_
                exact j_zret rfl (by decide) d_La_law_254 H
            · have H := Hb c157
              refine j_iload_n d_Mo_isIn_5 rfl ?_
              refine j_iload_n d_Mo_isIn_6 rfl ?_
              obtain ⟨Ha, Hb⟩ := H
              refine j_icmp_gt (tgt := 14) d_Mo_isIn_7 (by decide) (fun c154 => ?_) (fun c155 => ?_)
              · have H := Ha c154
                refine j_iconst (v := 0) d_Mo_isIn_14 (by decide) ?_
                refine j_zret rfl (by decide) d_Mo_isIn_15 ?_
                show J E 2 m_Mo_job 29 [some (.ref a2), some (.int ((gA G a0 n3))), some (.int ((gA G a0 n5))), some (.int ((gA G a0 n7))), some (.int ((gA G a0 n9))), some (.int ((gA G a0 n11))), some (.int ((1 : Int32))), none, none] [.int ((0 : Int32))] G (aft E 14 m_La_law 241 [some (.ref a0), some (.ref a1), some (.ref a2), some (.ref a3), some (.int p4), some (.int s0), none] [] Post)
                refine j_if_eq (tgt := 48) d_Mo_job_29 (by decide) (fun _ => ?_) (fun c => absurd c (by decide))
                refine j_iconst (v := 0) d_Mo_job_48 (by decide) ?_
                refine j_istore (L' := [some (.ref a2), some (.int ((gA G a0 n3))), some (.int ((gA G a0 n5))), some (.int ((gA G a0 n7))), some (.int ((gA G a0 n9))), some (.int ((gA G a0 n11))), some (.int ((1 : Int32))), some (.int ((0 : Int32))), none]) d_Mo_job_49 (by decide) rfl ?_
                refine j_iload d_Mo_job_51 rfl ?_
                refine j_if_eq (tgt := 86) d_Mo_job_53 (by decide) (fun _ => ?_) (fun c => absurd c (by decide))
                refine j_iconst (v := 0) d_Mo_job_86 (by decide) ?_
                refine j_istore (L' := [some (.ref a2), some (.int ((gA G a0 n3))), some (.int ((gA G a0 n5))), some (.int ((gA G a0 n7))), some (.int ((gA G a0 n9))), some (.int ((gA G a0 n11))), some (.int ((1 : Int32))), some (.int ((0 : Int32))), some (.int ((0 : Int32)))]) d_Mo_job_87 (by decide) rfl ?_
                refine j_aload_n d_Mo_job_89 rfl ?_
                refine j_iload d_Mo_job_90 rfl ?_
                refine j_if_ne (tgt := 99) d_Mo_job_92 (by decide) (fun c => absurd c (by decide)) (fun _ => ?_)
                refine j_iconst (v := 1) d_Mo_job_95 (by decide) ?_
                refine j_goto (tgt := 111) d_Mo_job_96 (by decide) ?_
                refine j_callV (d' := 1) (ci := 10) (As := [.int ((1 : Int32))]) (rest := []) (b := a2) cv_Mo_149 me_Mo_isFine rfl (by decide) rfl rfl t90 rfl rfl (Nat.le_of_ble_eq_true rfl) d_Mo_job_111 (by decide) rfl (j_enter (L := [some (.ref a2), some (.int ((1 : Int32)))]) me_Mo_isFine (cat_c rfl (cat_c rfl cat_n)) (Nat.le_of_ble_eq_true rfl) rfl ?_)
                refine j_aload_n d_Mo_isFine_0 rfl ?_
                refine j_iload_n d_Mo_isFine_1 rfl ?_
                refine j_putI (f := 640) fw_Mo_139 rfl rfl t90 d_Mo_isFine_2 ?_
                refine j_iload_n d_Mo_isFine_5 rfl ?_
                refine j_if_ne (tgt := 13) d_Mo_isFine_6 (by decide) (fun _ => ?_) (fun c => absurd c (by decide))
                refine j_iconst (v := 0) d_Mo_isFine_13 (by decide) ?_
                refine j_zret rfl (by decide) d_Mo_isFine_14 ?_
                show J E 2 m_Mo_job 114 [some (.ref a2), some (.int ((gA G a0 n3))), some (.int ((gA G a0 n5))), some (.int ((gA G a0 n7))), some (.int ((gA G a0 n9))), some (.int ((gA G a0 n11))), some (.int ((1 : Int32))), some (.int ((0 : Int32))), some (.int ((0 : Int32)))] [.int ((0 : Int32))] (sI G 640 a2 ((1 : Int32))) (aft E 14 m_La_law 241 [some (.ref a0), some (.ref a1), some (.ref a2), some (.ref a3), some (.int p4), some (.int s0), none] [] Post)
                refine j_if_eq (tgt := 159) d_Mo_job_114 (by decide) (fun _ => ?_) (fun c => absurd c (by decide))
                refine j_vret rfl d_Mo_job_159 ?_
                show J E 14 m_La_law 244 [some (.ref a0), some (.ref a1), some (.ref a2), some (.ref a3), some (.int p4), some (.int s0), none] [] (sI G 640 a2 ((1 : Int32))) Post
                refine j_aload_n d_La_law_244 rfl ?_
                refine j_callV (d' := 1) (ci := 10) (As := []) (rest := []) (b := a2) cv_La_80 me_Mo_thrown rfl (by decide) rfl rfl t90 rfl rfl (Nat.le_of_ble_eq_true rfl) d_La_law_245 (by decide) rfl (j_enter (L := [some (.ref a2)]) me_Mo_thrown (cat_c rfl cat_n) (Nat.le_of_ble_eq_true rfl) rfl ?_)
                refine j_aload_n d_Mo_thrown_0 rfl ?_
                refine j_getIv (f := 640) (v := ((1 : Int32))) fe_Mo_139 rfl rfl t90 (show gI (sI G 640 a2 ((1 : Int32))) 640 a2 = _ from gI_sI_eq) d_Mo_thrown_1 ?_
                refine j_iret rfl d_Mo_thrown_4 ?_
                show J E 14 m_La_law 248 [some (.ref a0), some (.ref a1), some (.ref a2), some (.ref a3), some (.int p4), some (.int s0), none] [.int (((1 : Int32)))] (sI G 640 a2 ((1 : Int32))) Post
                refine j_iload d_La_law_248 rfl ?_
                obtain ⟨Ha, Hb⟩ := H
                refine j_icmp_eq (tgt := 255) d_La_law_250 (by decide) (fun c101 => ?_) (fun c102 => ?_)
                · have H := Ha c101
                  refine j_goto (tgt := 1295) d_La_law_255 (by decide) ?_
                  refine j_iinc (v := (p4 + (7 : Int32))) (L' := [some (.ref a0), some (.ref a1), some (.ref a2), some (.ref a3), some (.int ((p4 + (7 : Int32)))), some (.int s0), none]) d_La_law_1295 rfl (by rw [show Int32.ofInt (7) = (7 : Int32) by decide]) (by decide) rfl ?_
                  refine j_goto (tgt := 23) d_La_law_1298 (by decide) ?_
                  refine j_forget (L' := [some (.ref a0), some (.ref a1), some (.ref a2), some (.ref a3), some (.int ((p4 + (7 : Int32)))), none, none]) ⟨Or.inr rfl, Or.inr rfl, Or.inr rfl, Or.inr rfl, Or.inr rfl, Or.inl rfl, Or.inl rfl, trivial⟩ ?_
                  exact H
                · have H := Hb c102
                  refine j_iconst (v := 0) d_La_law_253 (by decide) ?_
                  exact j_zret rfl (by decide) d_La_law_254 H
              · have H := Hb c155
                refine j_iconst (v := 1) d_Mo_isIn_10 (by decide) ?_
                refine j_goto (tgt := 15) d_Mo_isIn_11 (by decide) ?_
                refine j_zret rfl (by decide) d_Mo_isIn_15 ?_
                show J E 2 m_Mo_job 29 [some (.ref a2), some (.int ((gA G a0 n3))), some (.int ((gA G a0 n5))), some (.int ((gA G a0 n7))), some (.int ((gA G a0 n9))), some (.int ((gA G a0 n11))), some (.int ((1 : Int32))), none, none] [.int ((1 : Int32))] G (aft E 14 m_La_law 241 [some (.ref a0), some (.ref a1), some (.ref a2), some (.ref a3), some (.int p4), some (.int s0), none] [] Post)
                refine j_if_eq (tgt := 48) d_Mo_job_29 (by decide) (fun c => absurd c (by decide)) (fun _ => ?_)
                refine j_iload d_Mo_job_32 rfl ?_
                refine j_iconst (v := 0) d_Mo_job_34 (by decide) ?_
                refine j_sipush (v := 200) d_Mo_job_35 (by decide) ?_
                refine j_callS (d' := 1) (As := [.int ((gA G a0 n11)), .int ((0 : Int32)), .int ((200 : Int32))]) (rest := []) cs_Mo_142 me_Mo_isIn rfl (by decide) rfl rfl (Nat.le_of_ble_eq_true rfl) d_Mo_job_38 (by decide) rfl (j_enter (L := [some (.int ((gA G a0 n11))), some (.int ((0 : Int32))), some (.int ((200 : Int32)))]) me_Mo_isIn (cat_c rfl (cat_c rfl (cat_c rfl cat_n))) (Nat.le_of_ble_eq_true rfl) rfl ?_)
                refine j_iload_n d_Mo_isIn_0 rfl ?_
                refine j_iload_n d_Mo_isIn_1 rfl ?_
                obtain ⟨Ha, Hb⟩ := H
                refine j_icmp_lt (tgt := 14) d_Mo_isIn_2 (by decide) (fun c152 => ?_) (fun c153 => ?_)
                · have H := Ha c152
                  refine j_iconst (v := 0) d_Mo_isIn_14 (by decide) ?_
                  refine j_zret rfl (by decide) d_Mo_isIn_15 ?_
                  show J E 2 m_Mo_job 41 [some (.ref a2), some (.int ((gA G a0 n3))), some (.int ((gA G a0 n5))), some (.int ((gA G a0 n7))), some (.int ((gA G a0 n9))), some (.int ((gA G a0 n11))), some (.int ((1 : Int32))), none, none] [.int ((0 : Int32))] G (aft E 14 m_La_law 241 [some (.ref a0), some (.ref a1), some (.ref a2), some (.ref a3), some (.int p4), some (.int s0), none] [] Post)
                  refine j_if_eq (tgt := 48) d_Mo_job_41 (by decide) (fun _ => ?_) (fun c => absurd c (by decide))
                  refine j_iconst (v := 0) d_Mo_job_48 (by decide) ?_
                  refine j_istore (L' := [some (.ref a2), some (.int ((gA G a0 n3))), some (.int ((gA G a0 n5))), some (.int ((gA G a0 n7))), some (.int ((gA G a0 n9))), some (.int ((gA G a0 n11))), some (.int ((1 : Int32))), some (.int ((0 : Int32))), none]) d_Mo_job_49 (by decide) rfl ?_
                  refine j_iload d_Mo_job_51 rfl ?_
                  refine j_if_eq (tgt := 86) d_Mo_job_53 (by decide) (fun _ => ?_) (fun c => absurd c (by decide))
                  refine j_iconst (v := 0) d_Mo_job_86 (by decide) ?_
                  refine j_istore (L' := [some (.ref a2), some (.int ((gA G a0 n3))), some (.int ((gA G a0 n5))), some (.int ((gA G a0 n7))), some (.int ((gA G a0 n9))), some (.int ((gA G a0 n11))), some (.int ((1 : Int32))), some (.int ((0 : Int32))), some (.int ((0 : Int32)))]) d_Mo_job_87 (by decide) rfl ?_
                  refine j_aload_n d_Mo_job_89 rfl ?_
                  refine j_iload d_Mo_job_90 rfl ?_
                  refine j_if_ne (tgt := 99) d_Mo_job_92 (by decide) (fun c => absurd c (by decide)) (fun _ => ?_)
                  refine j_iconst (v := 1) d_Mo_job_95 (by decide) ?_
                  refine j_goto (tgt := 111) d_Mo_job_96 (by decide) ?_
                  refine j_callV (d' := 1) (ci := 10) (As := [.int ((1 : Int32))]) (rest := []) (b := a2) cv_Mo_149 me_Mo_isFine rfl (by decide) rfl rfl t90 rfl rfl (Nat.le_of_ble_eq_true rfl) d_Mo_job_111 (by decide) rfl (j_enter (L := [some (.ref a2), some (.int ((1 : Int32)))]) me_Mo_isFine (cat_c rfl (cat_c rfl cat_n)) (Nat.le_of_ble_eq_true rfl) rfl ?_)
                  refine j_aload_n d_Mo_isFine_0 rfl ?_
                  refine j_iload_n d_Mo_isFine_1 rfl ?_
                  refine j_putI (f := 640) fw_Mo_139 rfl rfl t90 d_Mo_isFine_2 ?_
                  refine j_iload_n d_Mo_isFine_5 rfl ?_
                  refine j_if_ne (tgt := 13) d_Mo_isFine_6 (by decide) (fun _ => ?_) (fun c => absurd c (by decide))
                  refine j_iconst (v := 0) d_Mo_isFine_13 (by decide) ?_
                  refine j_zret rfl (by decide) d_Mo_isFine_14 ?_
                  show J E 2 m_Mo_job 114 [some (.ref a2), some (.int ((gA G a0 n3))), some (.int ((gA G a0 n5))), some (.int ((gA G a0 n7))), some (.int ((gA G a0 n9))), some (.int ((gA G a0 n11))), some (.int ((1 : Int32))), some (.int ((0 : Int32))), some (.int ((0 : Int32)))] [.int ((0 : Int32))] (sI G 640 a2 ((1 : Int32))) (aft E 14 m_La_law 241 [some (.ref a0), some (.ref a1), some (.ref a2), some (.ref a3), some (.int p4), some (.int s0), none] [] Post)
                  refine j_if_eq (tgt := 159) d_Mo_job_114 (by decide) (fun _ => ?_) (fun c => absurd c (by decide))
                  refine j_vret rfl d_Mo_job_159 ?_
                  show J E 14 m_La_law 244 [some (.ref a0), some (.ref a1), some (.ref a2), some (.ref a3), some (.int p4), some (.int s0), none] [] (sI G 640 a2 ((1 : Int32))) Post
                  refine j_aload_n d_La_law_244 rfl ?_
                  refine j_callV (d' := 1) (ci := 10) (As := []) (rest := []) (b := a2) cv_La_80 me_Mo_thrown rfl (by decide) rfl rfl t90 rfl rfl (Nat.le_of_ble_eq_true rfl) d_La_law_245 (by decide) rfl (j_enter (L := [some (.ref a2)]) me_Mo_thrown (cat_c rfl cat_n) (Nat.le_of_ble_eq_true rfl) rfl ?_)
                  refine j_aload_n d_Mo_thrown_0 rfl ?_
                  refine j_getIv (f := 640) (v := ((1 : Int32))) fe_Mo_139 rfl rfl t90 (show gI (sI G 640 a2 ((1 : Int32))) 640 a2 = _ from gI_sI_eq) d_Mo_thrown_1 ?_
                  refine j_iret rfl d_Mo_thrown_4 ?_
                  show J E 14 m_La_law 248 [some (.ref a0), some (.ref a1), some (.ref a2), some (.ref a3), some (.int p4), some (.int s0), none] [.int (((1 : Int32)))] (sI G 640 a2 ((1 : Int32))) Post
                  refine j_iload d_La_law_248 rfl ?_
                  obtain ⟨Ha, Hb⟩ := H
                  refine j_icmp_eq (tgt := 255) d_La_law_250 (by decide) (fun c103 => ?_) (fun c104 => ?_)
                  · have H := Ha c103
                    refine j_goto (tgt := 1295) d_La_law_255 (by decide) ?_
                    refine j_iinc (v := (p4 + (7 : Int32))) (L' := [some (.ref a0), some (.ref a1), some (.ref a2), some (.ref a3), some (.int ((p4 + (7 : Int32)))), some (.int s0), none]) d_La_law_1295 rfl (by rw [show Int32.ofInt (7) = (7 : Int32) by decide]) (by decide) rfl ?_
                    refine j_goto (tgt := 23) d_La_law_1298 (by decide) ?_
                    refine j_forget (L' := [some (.ref a0), some (.ref a1), some (.ref a2), some (.ref a3), some (.int ((p4 + (7 : Int32)))), none, none]) ⟨Or.inr rfl, Or.inr rfl, Or.inr rfl, Or.inr rfl, Or.inr rfl, Or.inl rfl, Or.inl rfl, trivial⟩ ?_
                    exact H
                  · have H := Hb c104
                    refine j_iconst (v := 0) d_La_law_253 (by decide) ?_
                    exact j_zret rfl (by decide) d_La_law_254 H
                · have H := Hb c153
                  refine j_iload_n d_Mo_isIn_5 rfl ?_
                  refine j_iload_n d_Mo_isIn_6 rfl ?_
                  obtain ⟨Ha, Hb⟩ := H
                  refine j_icmp_gt (tgt := 14) d_Mo_isIn_7 (by decide) (fun c150 => ?_) (fun c151 => ?_)
                  · have H := Ha c150
                    refine j_iconst (v := 0) d_Mo_isIn_14 (by decide) ?_
                    refine j_zret rfl (by decide) d_Mo_isIn_15 ?_
                    show J E 2 m_Mo_job 41 [some (.ref a2), some (.int ((gA G a0 n3))), some (.int ((gA G a0 n5))), some (.int ((gA G a0 n7))), some (.int ((gA G a0 n9))), some (.int ((gA G a0 n11))), some (.int ((1 : Int32))), none, none] [.int ((0 : Int32))] G (aft E 14 m_La_law 241 [some (.ref a0), some (.ref a1), some (.ref a2), some (.ref a3), some (.int p4), some (.int s0), none] [] Post)
                    refine j_if_eq (tgt := 48) d_Mo_job_41 (by decide) (fun _ => ?_) (fun c => absurd c (by decide))
                    refine j_iconst (v := 0) d_Mo_job_48 (by decide) ?_
                    refine j_istore (L' := [some (.ref a2), some (.int ((gA G a0 n3))), some (.int ((gA G a0 n5))), some (.int ((gA G a0 n7))), some (.int ((gA G a0 n9))), some (.int ((gA G a0 n11))), some (.int ((1 : Int32))), some (.int ((0 : Int32))), none]) d_Mo_job_49 (by decide) rfl ?_
                    refine j_iload d_Mo_job_51 rfl ?_
                    refine j_if_eq (tgt := 86) d_Mo_job_53 (by decide) (fun _ => ?_) (fun c => absurd c (by decide))
                    refine j_iconst (v := 0) d_Mo_job_86 (by decide) ?_
                    refine j_istore (L' := [some (.ref a2), some (.int ((gA G a0 n3))), some (.int ((gA G a0 n5))), some (.int ((gA G a0 n7))), some (.int ((gA G a0 n9))), some (.int ((gA G a0 n11))), some (.int ((1 : Int32))), some (.int ((0 : Int32))), some (.int ((0 : Int32)))]) d_Mo_job_87 (by decide) rfl ?_
                    refine j_aload_n d_Mo_job_89 rfl ?_
                    refine j_iload d_Mo_job_90 rfl ?_
                    refine j_if_ne (tgt := 99) d_Mo_job_92 (by decide) (fun c => absurd c (by decide)) (fun _ => ?_)
                    refine j_iconst (v := 1) d_Mo_job_95 (by decide) ?_
                    refine j_goto (tgt := 111) d_Mo_job_96 (by decide) ?_
                    refine j_callV (d' := 1) (ci := 10) (As := [.int ((1 : Int32))]) (rest := []) (b := a2) cv_Mo_149 me_Mo_isFine rfl (by decide) rfl rfl t90 rfl rfl (Nat.le_of_ble_eq_true rfl) d_Mo_job_111 (by decide) rfl (j_enter (L := [some (.ref a2), some (.int ((1 : Int32)))]) me_Mo_isFine (cat_c rfl (cat_c rfl cat_n)) (Nat.le_of_ble_eq_true rfl) rfl ?_)
                    refine j_aload_n d_Mo_isFine_0 rfl ?_
                    refine j_iload_n d_Mo_isFine_1 rfl ?_
                    refine j_putI (f := 640) fw_Mo_139 rfl rfl t90 d_Mo_isFine_2 ?_
                    refine j_iload_n d_Mo_isFine_5 rfl ?_
                    refine j_if_ne (tgt := 13) d_Mo_isFine_6 (by decide) (fun _ => ?_) (fun c => absurd c (by decide))
                    refine j_iconst (v := 0) d_Mo_isFine_13 (by decide) ?_
                    refine j_zret rfl (by decide) d_Mo_isFine_14 ?_
                    show J E 2 m_Mo_job 114 [some (.ref a2), some (.int ((gA G a0 n3))), some (.int ((gA G a0 n5))), some (.int ((gA G a0 n7))), some (.int ((gA G a0 n9))), some (.int ((gA G a0 n11))), some (.int ((1 : Int32))), some (.int ((0 : Int32))), some (.int ((0 : Int32)))] [.int ((0 : Int32))] (sI G 640 a2 ((1 : Int32))) (aft E 14 m_La_law 241 [some (.ref a0), some (.ref a1), some (.ref a2), some (.ref a3), some (.int p4), some (.int s0), none] [] Post)
                    refine j_if_eq (tgt := 159) d_Mo_job_114 (by decide) (fun _ => ?_) (fun c => absurd c (by decide))
                    refine j_vret rfl d_Mo_job_159 ?_
                    show J E 14 m_La_law 244 [some (.ref a0), some (.ref a1), some (.ref a2), some (.ref a3), some (.int p4), some (.int s0), none] [] (sI G 640 a2 ((1 : Int32))) Post
                    refine j_aload_n d_La_law_244 rfl ?_
                    refine j_callV (d' := 1) (ci := 10) (As := []) (rest := []) (b := a2) cv_La_80 me_Mo_thrown rfl (by decide) rfl rfl t90 rfl rfl (Nat.le_of_ble_eq_true rfl) d_La_law_245 (by decide) rfl (j_enter (L := [some (.ref a2)]) me_Mo_thrown (cat_c rfl cat_n) (Nat.le_of_ble_eq_true rfl) rfl ?_)
                    refine j_aload_n d_Mo_thrown_0 rfl ?_
                    refine j_getIv (f := 640) (v := ((1 : Int32))) fe_Mo_139 rfl rfl t90 (show gI (sI G 640 a2 ((1 : Int32))) 640 a2 = _ from gI_sI_eq) d_Mo_thrown_1 ?_
                    refine j_iret rfl d_Mo_thrown_4 ?_
                    show J E 14 m_La_law 248 [some (.ref a0), some (.ref a1), some (.ref a2), some (.ref a3), some (.int p4), some (.int s0), none] [.int (((1 : Int32)))] (sI G 640 a2 ((1 : Int32))) Post
                    refine j_iload d_La_law_248 rfl ?_
                    obtain ⟨Ha, Hb⟩ := H
                    refine j_icmp_eq (tgt := 255) d_La_law_250 (by decide) (fun c105 => ?_) (fun c106 => ?_)
                    · have H := Ha c105
                      refine j_goto (tgt := 1295) d_La_law_255 (by decide) ?_
                      refine j_iinc (v := (p4 + (7 : Int32))) (L' := [some (.ref a0), some (.ref a1), some (.ref a2), some (.ref a3), some (.int ((p4 + (7 : Int32)))), some (.int s0), none]) d_La_law_1295 rfl (by rw [show Int32.ofInt (7) = (7 : Int32) by decide]) (by decide) rfl ?_
                      refine j_goto (tgt := 23) d_La_law_1298 (by decide) ?_
                      refine j_forget (L' := [some (.ref a0), some (.ref a1), some (.ref a2), some (.ref a3), some (.int ((p4 + (7 : Int32)))), none, none]) ⟨Or.inr rfl, Or.inr rfl, Or.inr rfl, Or.inr rfl, Or.inr rfl, Or.inl rfl, Or.inl rfl, trivial⟩ ?_
                      exact H
                    · have H := Hb c106
                      refine j_iconst (v := 0) d_La_law_253 (by decide) ?_
                      exact j_zret rfl (by decide) d_La_law_254 H
                  · have H := Hb c151
                    refine j_iconst (v := 1) d_Mo_isIn_10 (by decide) ?_
                    refine j_goto (tgt := 15) d_Mo_isIn_11 (by decide) ?_
                    refine j_zret rfl (by decide) d_Mo_isIn_15 ?_
                    show J E 2 m_Mo_job 41 [some (.ref a2), some (.int ((gA G a0 n3))), some (.int ((gA G a0 n5))), some (.int ((gA G a0 n7))), some (.int ((gA G a0 n9))), some (.int ((gA G a0 n11))), some (.int ((1 : Int32))), none, none] [.int ((1 : Int32))] G (aft E 14 m_La_law 241 [some (.ref a0), some (.ref a1), some (.ref a2), some (.ref a3), some (.int p4), some (.int s0), none] [] Post)
                    refine j_if_eq (tgt := 48) d_Mo_job_41 (by decide) (fun c => absurd c (by decide)) (fun _ => ?_)
                    refine j_iconst (v := 1) d_Mo_job_44 (by decide) ?_
                    refine j_goto (tgt := 49) d_Mo_job_45 (by decide) ?_
                    refine j_istore (L' := [some (.ref a2), some (.int ((gA G a0 n3))), some (.int ((gA G a0 n5))), some (.int ((gA G a0 n7))), some (.int ((gA G a0 n9))), some (.int ((gA G a0 n11))), some (.int ((1 : Int32))), some (.int ((1 : Int32))), none]) d_Mo_job_49 (by decide) rfl ?_
                    refine j_iload d_Mo_job_51 rfl ?_
                    refine j_if_eq (tgt := 86) d_Mo_job_53 (by decide) (fun c => absurd c (by decide)) (fun _ => ?_)
                    refine j_iload_n d_Mo_job_56 rfl ?_
                    refine j_iconst (v := 1) d_Mo_job_57 (by decide) ?_
                    obtain ⟨Ha, Hb⟩ := H
                    refine j_icmp_ne (tgt := 82) d_Mo_job_58 (by decide) (fun c148 => ?_) (fun c149 => ?_)
                    · have H := Ha c148
                      refine j_iconst (v := 1) d_Mo_job_82 (by decide) ?_
                      refine j_goto (tgt := 87) d_Mo_job_83 (by decide) ?_
                      refine j_istore (L' := [some (.ref a2), some (.int ((gA G a0 n3))), some (.int ((gA G a0 n5))), some (.int ((gA G a0 n7))), some (.int ((gA G a0 n9))), some (.int ((gA G a0 n11))), some (.int ((1 : Int32))), some (.int ((1 : Int32))), some (.int ((1 : Int32)))]) d_Mo_job_87 (by decide) rfl ?_
                      refine j_aload_n d_Mo_job_89 rfl ?_
                      refine j_iload d_Mo_job_90 rfl ?_
                      refine j_if_ne (tgt := 99) d_Mo_job_92 (by decide) (fun _ => ?_) (fun c => absurd c (by decide))
                      refine j_aload_n d_Mo_job_99 rfl ?_
                      refine j_getI (f := 648) fe_Mo_146 rfl rfl t90 d_Mo_job_100 ?_
                      obtain ⟨Ha, Hb⟩ := H
                      refine j_if_eq (tgt := 110) d_Mo_job_103 (by decide) (fun c119 => ?_) (fun c120 => ?_)
                      · have H := Ha c119
                        refine j_iconst (v := 0) d_Mo_job_110 (by decide) ?_
                        refine j_callV (d' := 1) (ci := 10) (As := [.int ((0 : Int32))]) (rest := []) (b := a2) cv_Mo_149 me_Mo_isFine rfl (by decide) rfl rfl t90 rfl rfl (Nat.le_of_ble_eq_true rfl) d_Mo_job_111 (by decide) rfl (j_enter (L := [some (.ref a2), some (.int ((0 : Int32)))]) me_Mo_isFine (cat_c rfl (cat_c rfl cat_n)) (Nat.le_of_ble_eq_true rfl) rfl ?_)
                        refine j_aload_n d_Mo_isFine_0 rfl ?_
                        refine j_iload_n d_Mo_isFine_1 rfl ?_
                        refine j_putI (f := 640) fw_Mo_139 rfl rfl t90 d_Mo_isFine_2 ?_
                        refine j_iload_n d_Mo_isFine_5 rfl ?_
                        refine j_if_ne (tgt := 13) d_Mo_isFine_6 (by decide) (fun c => absurd c (by decide)) (fun _ => ?_)
                        refine j_iconst (v := 1) d_Mo_isFine_9 (by decide) ?_
                        refine j_goto (tgt := 14) d_Mo_isFine_10 (by decide) ?_
                        refine j_zret rfl (by decide) d_Mo_isFine_14 ?_
                        show J E 2 m_Mo_job 114 [some (.ref a2), some (.int ((gA G a0 n3))), some (.int ((gA G a0 n5))), some (.int ((gA G a0 n7))), some (.int ((gA G a0 n9))), some (.int ((gA G a0 n11))), some (.int ((1 : Int32))), some (.int ((1 : Int32))), some (.int ((1 : Int32)))] [.int ((1 : Int32))] (sI G 640 a2 ((0 : Int32))) (aft E 14 m_La_law 241 [some (.ref a0), some (.ref a1), some (.ref a2), some (.ref a3), some (.int p4), some (.int s0), none] [] Post)
                        refine j_if_eq (tgt := 159) d_Mo_job_114 (by decide) (fun c => absurd c (by decide)) (fun _ => ?_)
                        refine j_aload_n d_Mo_job_117 rfl ?_
                        refine j_iload_n d_Mo_job_118 rfl ?_
                        refine j_putI (f := 641) fw_Mo_9 rfl rfl t90 d_Mo_job_119 ?_
                        refine j_aload_n d_Mo_job_122 rfl ?_
                        refine j_iload_n d_Mo_job_123 rfl ?_
                        refine j_putI (f := 642) fw_Mo_13 rfl rfl t90 d_Mo_job_124 ?_
                        refine j_aload_n d_Mo_job_127 rfl ?_
                        refine j_iload_n d_Mo_job_128 rfl ?_
                        refine j_iconst (v := 1) d_Mo_job_129 (by decide) ?_
                        obtain ⟨Ha, Hb⟩ := H
                        refine j_icmp_ne (tgt := 137) d_Mo_job_130 (by decide) (fun c115 => ?_) (fun c116 => ?_)
                        · have H := Ha c115
                          refine j_iload_n d_Mo_job_137 rfl ?_
                          refine j_putI (f := 643) fw_Mo_16 rfl rfl t90 d_Mo_job_138 ?_
                          refine j_aload_n d_Mo_job_141 rfl ?_
                          refine j_iload d_Mo_job_142 rfl ?_
                          refine j_putI (f := 644) fw_Mo_153 rfl rfl t90 d_Mo_job_144 ?_
                          show J E 2 m_Mo_job 147 [some (.ref a2), some (.int ((gA G a0 n3))), some (.int ((gA G a0 n5))), some (.int ((gA G a0 n7))), some (.int ((gA G a0 n9))), some (.int ((gA G a0 n11))), some (.int ((1 : Int32))), some (.int ((1 : Int32))), some (.int ((1 : Int32)))] [] (sI (sI (sI (sI (sI G 640 a2 ((0 : Int32))) 641 a2 ((gA G a0 n3))) 642 a2 ((gA G a0 n5))) 643 a2 ((gA G a0 n5))) 644 a2 ((gA G a0 n9))) (aft E 14 m_La_law 241 [some (.ref a0), some (.ref a1), some (.ref a2), some (.ref a3), some (.int p4), some (.int s0), none] [] Post)
                          generalize e108 : sI (sI (sI (sI (sI G 640 a2 ((0 : Int32))) 641 a2 ((gA G a0 n3))) 642 a2 ((gA G a0 n5))) 643 a2 ((gA G a0 n5))) 644 a2 ((gA G a0 n9)) = G107
                          have e108 := e108.symm
                          have H := H G107 e108
                          refine j_aload_n d_Mo_job_147 rfl ?_
                          refine j_iload d_Mo_job_148 rfl ?_
                          refine j_putI (f := 645) fw_Mo_19 rfl rfl (by rw [e108]; exact t90) d_Mo_job_150 ?_
                          refine j_aload_n d_Mo_job_153 rfl ?_
                          refine j_iload d_Mo_job_154 rfl ?_
                          refine j_putZ (f := 646) fw_Mo_22 rfl rfl (by rw [e108]; exact t90) (by decide) d_Mo_job_156 ?_
                          refine j_vret rfl d_Mo_job_159 ?_
                          show J E 14 m_La_law 244 [some (.ref a0), some (.ref a1), some (.ref a2), some (.ref a3), some (.int p4), some (.int s0), none] [] (sI (sI G107 645 a2 ((gA G a0 n11))) 646 a2 ((1 : Int32))) Post
                          refine j_aload_n d_La_law_244 rfl ?_
                          refine j_callV (d' := 1) (ci := 10) (As := []) (rest := []) (b := a2) cv_La_80 me_Mo_thrown rfl (by decide) rfl rfl (by rw [e108]; exact t90) rfl rfl (Nat.le_of_ble_eq_true rfl) d_La_law_245 (by decide) rfl (j_enter (L := [some (.ref a2)]) me_Mo_thrown (cat_c rfl cat_n) (Nat.le_of_ble_eq_true rfl) rfl ?_)
                          refine j_aload_n d_Mo_thrown_0 rfl ?_
                          refine j_getIv (f := 640) (v := ((0 : Int32))) fe_Mo_139 rfl rfl (by rw [e108]; exact t90) (by rw [e108]; exact (show gI (sI G 640 a2 ((0 : Int32))) 640 a2 = _ from gI_sI_eq)) d_Mo_thrown_1 ?_
                          refine j_iret rfl d_Mo_thrown_4 ?_
                          show J E 14 m_La_law 248 [some (.ref a0), some (.ref a1), some (.ref a2), some (.ref a3), some (.int p4), some (.int s0), none] [.int (((0 : Int32)))] (sI (sI G107 645 a2 ((gA G a0 n11))) 646 a2 ((1 : Int32))) Post
                          refine j_iload d_La_law_248 rfl ?_
                          obtain ⟨Ha, Hb⟩ := H
                          refine j_icmp_eq (tgt := 255) d_La_law_250 (by decide) (fun c109 => ?_) (fun c110 => ?_)
                          · have H := Ha c109
                            refine j_goto (tgt := 1295) d_La_law_255 (by decide) ?_
                            refine j_iinc (v := (p4 + (7 : Int32))) (L' := [some (.ref a0), some (.ref a1), some (.ref a2), some (.ref a3), some (.int ((p4 + (7 : Int32)))), some (.int s0), none]) d_La_law_1295 rfl (by rw [show Int32.ofInt (7) = (7 : Int32) by decide]) (by decide) rfl ?_
                            refine j_goto (tgt := 23) d_La_law_1298 (by decide) ?_
                            refine j_forget (L' := [some (.ref a0), some (.ref a1), some (.ref a2), some (.ref a3), some (.int ((p4 + (7 : Int32)))), none, none]) ⟨Or.inr rfl, Or.inr rfl, Or.inr rfl, Or.inr rfl, Or.inr rfl, Or.inl rfl, Or.inl rfl, trivial⟩ ?_
                            exact H
                          · have H := Hb c110
                            refine j_iconst (v := 0) d_La_law_253 (by decide) ?_
                            exact j_zret rfl (by decide) d_La_law_254 H
                        · have H := Hb c116
                          refine j_iload_n d_Mo_job_133 rfl ?_
                          refine j_goto (tgt := 138) d_Mo_job_134 (by decide) ?_
                          refine j_putI (f := 643) fw_Mo_16 rfl rfl t90 d_Mo_job_138 ?_
                          refine j_aload_n d_Mo_job_141 rfl ?_
                          refine j_iload d_Mo_job_142 rfl ?_
                          refine j_putI (f := 644) fw_Mo_153 rfl rfl t90 d_Mo_job_144 ?_
                          show J E 2 m_Mo_job 147 [some (.ref a2), some (.int ((gA G a0 n3))), some (.int ((gA G a0 n5))), some (.int ((gA G a0 n7))), some (.int ((gA G a0 n9))), some (.int ((gA G a0 n11))), some (.int ((1 : Int32))), some (.int ((1 : Int32))), some (.int ((1 : Int32)))] [] (sI (sI (sI (sI (sI G 640 a2 ((0 : Int32))) 641 a2 ((gA G a0 n3))) 642 a2 ((gA G a0 n5))) 643 a2 ((gA G a0 n7))) 644 a2 ((gA G a0 n9))) (aft E 14 m_La_law 241 [some (.ref a0), some (.ref a1), some (.ref a2), some (.ref a3), some (.int p4), some (.int s0), none] [] Post)
                          generalize e112 : sI (sI (sI (sI (sI G 640 a2 ((0 : Int32))) 641 a2 ((gA G a0 n3))) 642 a2 ((gA G a0 n5))) 643 a2 ((gA G a0 n7))) 644 a2 ((gA G a0 n9)) = G111
                          have e112 := e112.symm
                          have H := H G111 e112
                          refine j_aload_n d_Mo_job_147 rfl ?_
                          refine j_iload d_Mo_job_148 rfl ?_
                          refine j_putI (f := 645) fw_Mo_19 rfl rfl (by rw [e112]; exact t90) d_Mo_job_150 ?_
                          refine j_aload_n d_Mo_job_153 rfl ?_
                          refine j_iload d_Mo_job_154 rfl ?_
                          refine j_putZ (f := 646) fw_Mo_22 rfl rfl (by rw [e112]; exact t90) (by decide) d_Mo_job_156 ?_
                          refine j_vret rfl d_Mo_job_159 ?_
                          show J E 14 m_La_law 244 [some (.ref a0), some (.ref a1), some (.ref a2), some (.ref a3), some (.int p4), some (.int s0), none] [] (sI (sI G111 645 a2 ((gA G a0 n11))) 646 a2 ((1 : Int32))) Post
                          refine j_aload_n d_La_law_244 rfl ?_
                          refine j_callV (d' := 1) (ci := 10) (As := []) (rest := []) (b := a2) cv_La_80 me_Mo_thrown rfl (by decide) rfl rfl (by rw [e112]; exact t90) rfl rfl (Nat.le_of_ble_eq_true rfl) d_La_law_245 (by decide) rfl (j_enter (L := [some (.ref a2)]) me_Mo_thrown (cat_c rfl cat_n) (Nat.le_of_ble_eq_true rfl) rfl ?_)
                          refine j_aload_n d_Mo_thrown_0 rfl ?_
                          refine j_getIv (f := 640) (v := ((0 : Int32))) fe_Mo_139 rfl rfl (by rw [e112]; exact t90) (by rw [e112]; exact (show gI (sI G 640 a2 ((0 : Int32))) 640 a2 = _ from gI_sI_eq)) d_Mo_thrown_1 ?_
                          refine j_iret rfl d_Mo_thrown_4 ?_
                          show J E 14 m_La_law 248 [some (.ref a0), some (.ref a1), some (.ref a2), some (.ref a3), some (.int p4), some (.int s0), none] [.int (((0 : Int32)))] (sI (sI G111 645 a2 ((gA G a0 n11))) 646 a2 ((1 : Int32))) Post
                          refine j_iload d_La_law_248 rfl ?_
                          obtain ⟨Ha, Hb⟩ := H
                          refine j_icmp_eq (tgt := 255) d_La_law_250 (by decide) (fun c113 => ?_) (fun c114 => ?_)
                          · have H := Ha c113
                            refine j_goto (tgt := 1295) d_La_law_255 (by decide) ?_
                            refine j_iinc (v := (p4 + (7 : Int32))) (L' := [some (.ref a0), some (.ref a1), some (.ref a2), some (.ref a3), some (.int ((p4 + (7 : Int32)))), some (.int s0), none]) d_La_law_1295 rfl (by rw [show Int32.ofInt (7) = (7 : Int32) by decide]) (by decide) rfl ?_
                            refine j_goto (tgt := 23) d_La_law_1298 (by decide) ?_
                            refine j_forget (L' := [some (.ref a0), some (.ref a1), some (.ref a2), some (.ref a3), some (.int ((p4 + (7 : Int32)))), none, none]) ⟨Or.inr rfl, Or.inr rfl, Or.inr rfl, Or.inr rfl, Or.inr rfl, Or.inl rfl, Or.inl rfl, trivial⟩ ?_
                            exact H
                          · have H := Hb c114
                            refine j_iconst (v := 0) d_La_law_253 (by decide) ?_
                            exact j_zret rfl (by decide) d_La_law_254 H
                      · have H := Hb c120
                        refine j_iconst (v := 2) d_Mo_job_106 (by decide) ?_
                        refine j_goto (tgt := 111) d_Mo_job_107 (by decide) ?_
                        refine j_callV (d' := 1) (ci := 10) (As := [.int ((2 : Int32))]) (rest := []) (b := a2) cv_Mo_149 me_Mo_isFine rfl (by decide) rfl rfl t90 rfl rfl (Nat.le_of_ble_eq_true rfl) d_Mo_job_111 (by decide) rfl (j_enter (L := [some (.ref a2), some (.int ((2 : Int32)))]) me_Mo_isFine (cat_c rfl (cat_c rfl cat_n)) (Nat.le_of_ble_eq_true rfl) rfl ?_)
                        refine j_aload_n d_Mo_isFine_0 rfl ?_
                        refine j_iload_n d_Mo_isFine_1 rfl ?_
                        refine j_putI (f := 640) fw_Mo_139 rfl rfl t90 d_Mo_isFine_2 ?_
                        refine j_iload_n d_Mo_isFine_5 rfl ?_
                        refine j_if_ne (tgt := 13) d_Mo_isFine_6 (by decide) (fun _ => ?_) (fun c => absurd c (by decide))
                        refine j_iconst (v := 0) d_Mo_isFine_13 (by decide) ?_
                        refine j_zret rfl (by decide) d_Mo_isFine_14 ?_
                        show J E 2 m_Mo_job 114 [some (.ref a2), some (.int ((gA G a0 n3))), some (.int ((gA G a0 n5))), some (.int ((gA G a0 n7))), some (.int ((gA G a0 n9))), some (.int ((gA G a0 n11))), some (.int ((1 : Int32))), some (.int ((1 : Int32))), some (.int ((1 : Int32)))] [.int ((0 : Int32))] (sI G 640 a2 ((2 : Int32))) (aft E 14 m_La_law 241 [some (.ref a0), some (.ref a1), some (.ref a2), some (.ref a3), some (.int p4), some (.int s0), none] [] Post)
                        refine j_if_eq (tgt := 159) d_Mo_job_114 (by decide) (fun _ => ?_) (fun c => absurd c (by decide))
                        refine j_vret rfl d_Mo_job_159 ?_
                        show J E 14 m_La_law 244 [some (.ref a0), some (.ref a1), some (.ref a2), some (.ref a3), some (.int p4), some (.int s0), none] [] (sI G 640 a2 ((2 : Int32))) Post
                        refine j_aload_n d_La_law_244 rfl ?_
                        refine j_callV (d' := 1) (ci := 10) (As := []) (rest := []) (b := a2) cv_La_80 me_Mo_thrown rfl (by decide) rfl rfl t90 rfl rfl (Nat.le_of_ble_eq_true rfl) d_La_law_245 (by decide) rfl (j_enter (L := [some (.ref a2)]) me_Mo_thrown (cat_c rfl cat_n) (Nat.le_of_ble_eq_true rfl) rfl ?_)
                        refine j_aload_n d_Mo_thrown_0 rfl ?_
                        refine j_getIv (f := 640) (v := ((2 : Int32))) fe_Mo_139 rfl rfl t90 (show gI (sI G 640 a2 ((2 : Int32))) 640 a2 = _ from gI_sI_eq) d_Mo_thrown_1 ?_
                        refine j_iret rfl d_Mo_thrown_4 ?_
                        show J E 14 m_La_law 248 [some (.ref a0), some (.ref a1), some (.ref a2), some (.ref a3), some (.int p4), some (.int s0), none] [.int (((2 : Int32)))] (sI G 640 a2 ((2 : Int32))) Post
                        refine j_iload d_La_law_248 rfl ?_
                        obtain ⟨Ha, Hb⟩ := H
                        refine j_icmp_eq (tgt := 255) d_La_law_250 (by decide) (fun c117 => ?_) (fun c118 => ?_)
                        · have H := Ha c117
                          refine j_goto (tgt := 1295) d_La_law_255 (by decide) ?_
                          refine j_iinc (v := (p4 + (7 : Int32))) (L' := [some (.ref a0), some (.ref a1), some (.ref a2), some (.ref a3), some (.int ((p4 + (7 : Int32)))), some (.int s0), none]) d_La_law_1295 rfl (by rw [show Int32.ofInt (7) = (7 : Int32) by decide]) (by decide) rfl ?_
                          refine j_goto (tgt := 23) d_La_law_1298 (by decide) ?_
                          refine j_forget (L' := [some (.ref a0), some (.ref a1), some (.ref a2), some (.ref a3), some (.int ((p4 + (7 : Int32)))), none, none]) ⟨Or.inr rfl, Or.inr rfl, Or.inr rfl, Or.inr rfl, Or.inr rfl, Or.inl rfl, Or.inl rfl, trivial⟩ ?_
                          exact H
                        · have H := Hb c118
                          refine j_iconst (v := 0) d_La_law_253 (by decide) ?_
                          exact j_zret rfl (by decide) d_La_law_254 H
                    · have H := Hb c149
                      refine j_iload_n d_Mo_job_61 rfl ?_
                      refine j_iconst (v := 1) d_Mo_job_62 (by decide) ?_
                      refine j_iload_n d_Mo_job_63 rfl ?_
                      refine j_callS (d' := 1) (As := [.int ((gA G a0 n7)), .int ((1 : Int32)), .int ((gA G a0 n5))]) (rest := []) cs_Mo_142 me_Mo_isIn rfl (by decide) rfl rfl (Nat.le_of_ble_eq_true rfl) d_Mo_job_64 (by decide) rfl (j_enter (L := [some (.int ((gA G a0 n7))), some (.int ((1 : Int32))), some (.int ((gA G a0 n5)))]) me_Mo_isIn (cat_c rfl (cat_c rfl (cat_c rfl cat_n))) (Nat.le_of_ble_eq_true rfl) rfl ?_)
                      refine j_iload_n d_Mo_isIn_0 rfl ?_
                      refine j_iload_n d_Mo_isIn_1 rfl ?_
                      obtain ⟨Ha, Hb⟩ := H
                      refine j_icmp_lt (tgt := 14) d_Mo_isIn_2 (by decide) (fun c146 => ?_) (fun c147 => ?_)
                      · have H := Ha c146
                        refine j_iconst (v := 0) d_Mo_isIn_14 (by decide) ?_
                        refine j_zret rfl (by decide) d_Mo_isIn_15 ?_
                        show J E 2 m_Mo_job 67 [some (.ref a2), some (.int ((gA G a0 n3))), some (.int ((gA G a0 n5))), some (.int ((gA G a0 n7))), some (.int ((gA G a0 n9))), some (.int ((gA G a0 n11))), some (.int ((1 : Int32))), some (.int ((1 : Int32))), none] [.int ((0 : Int32))] G (aft E 14 m_La_law 241 [some (.ref a0), some (.ref a1), some (.ref a2), some (.ref a3), some (.int p4), some (.int s0), none] [] Post)
                        refine j_if_eq (tgt := 86) d_Mo_job_67 (by decide) (fun _ => ?_) (fun c => absurd c (by decide))
                        refine j_iconst (v := 0) d_Mo_job_86 (by decide) ?_
                        refine j_istore (L' := [some (.ref a2), some (.int ((gA G a0 n3))), some (.int ((gA G a0 n5))), some (.int ((gA G a0 n7))), some (.int ((gA G a0 n9))), some (.int ((gA G a0 n11))), some (.int ((1 : Int32))), some (.int ((1 : Int32))), some (.int ((0 : Int32)))]) d_Mo_job_87 (by decide) rfl ?_
                        refine j_aload_n d_Mo_job_89 rfl ?_
                        refine j_iload d_Mo_job_90 rfl ?_
                        refine j_if_ne (tgt := 99) d_Mo_job_92 (by decide) (fun c => absurd c (by decide)) (fun _ => ?_)
                        refine j_iconst (v := 1) d_Mo_job_95 (by decide) ?_
                        refine j_goto (tgt := 111) d_Mo_job_96 (by decide) ?_
                        refine j_callV (d' := 1) (ci := 10) (As := [.int ((1 : Int32))]) (rest := []) (b := a2) cv_Mo_149 me_Mo_isFine rfl (by decide) rfl rfl t90 rfl rfl (Nat.le_of_ble_eq_true rfl) d_Mo_job_111 (by decide) rfl (j_enter (L := [some (.ref a2), some (.int ((1 : Int32)))]) me_Mo_isFine (cat_c rfl (cat_c rfl cat_n)) (Nat.le_of_ble_eq_true rfl) rfl ?_)
                        refine j_aload_n d_Mo_isFine_0 rfl ?_
                        refine j_iload_n d_Mo_isFine_1 rfl ?_
                        refine j_putI (f := 640) fw_Mo_139 rfl rfl t90 d_Mo_isFine_2 ?_
                        refine j_iload_n d_Mo_isFine_5 rfl ?_
                        refine j_if_ne (tgt := 13) d_Mo_isFine_6 (by decide) (fun _ => ?_) (fun c => absurd c (by decide))
                        refine j_iconst (v := 0) d_Mo_isFine_13 (by decide) ?_
                        refine j_zret rfl (by decide) d_Mo_isFine_14 ?_
                        show J E 2 m_Mo_job 114 [some (.ref a2), some (.int ((gA G a0 n3))), some (.int ((gA G a0 n5))), some (.int ((gA G a0 n7))), some (.int ((gA G a0 n9))), some (.int ((gA G a0 n11))), some (.int ((1 : Int32))), some (.int ((1 : Int32))), some (.int ((0 : Int32)))] [.int ((0 : Int32))] (sI G 640 a2 ((1 : Int32))) (aft E 14 m_La_law 241 [some (.ref a0), some (.ref a1), some (.ref a2), some (.ref a3), some (.int p4), some (.int s0), none] [] Post)
                        refine j_if_eq (tgt := 159) d_Mo_job_114 (by decide) (fun _ => ?_) (fun c => absurd c (by decide))
                        refine j_vret rfl d_Mo_job_159 ?_
                        show J E 14 m_La_law 244 [some (.ref a0), some (.ref a1), some (.ref a2), some (.ref a3), some (.int p4), some (.int s0), none] [] (sI G 640 a2 ((1 : Int32))) Post
                        refine j_aload_n d_La_law_244 rfl ?_
                        refine j_callV (d' := 1) (ci := 10) (As := []) (rest := []) (b := a2) cv_La_80 me_Mo_thrown rfl (by decide) rfl rfl t90 rfl rfl (Nat.le_of_ble_eq_true rfl) d_La_law_245 (by decide) rfl (j_enter (L := [some (.ref a2)]) me_Mo_thrown (cat_c rfl cat_n) (Nat.le_of_ble_eq_true rfl) rfl ?_)
                        refine j_aload_n d_Mo_thrown_0 rfl ?_
                        refine j_getIv (f := 640) (v := ((1 : Int32))) fe_Mo_139 rfl rfl t90 (show gI (sI G 640 a2 ((1 : Int32))) 640 a2 = _ from gI_sI_eq) d_Mo_thrown_1 ?_
                        refine j_iret rfl d_Mo_thrown_4 ?_
                        show J E 14 m_La_law 248 [some (.ref a0), some (.ref a1), some (.ref a2), some (.ref a3), some (.int p4), some (.int s0), none] [.int (((1 : Int32)))] (sI G 640 a2 ((1 : Int32))) Post
                        refine j_iload d_La_law_248 rfl ?_
                        obtain ⟨Ha, Hb⟩ := H
                        refine j_icmp_eq (tgt := 255) d_La_law_250 (by decide) (fun c121 => ?_) (fun c122 => ?_)
                        · have H := Ha c121
                          refine j_goto (tgt := 1295) d_La_law_255 (by decide) ?_
                          refine j_iinc (v := (p4 + (7 : Int32))) (L' := [some (.ref a0), some (.ref a1), some (.ref a2), some (.ref a3), some (.int ((p4 + (7 : Int32)))), some (.int s0), none]) d_La_law_1295 rfl (by rw [show Int32.ofInt (7) = (7 : Int32) by decide]) (by decide) rfl ?_
                          refine j_goto (tgt := 23) d_La_law_1298 (by decide) ?_
                          refine j_forget (L' := [some (.ref a0), some (.ref a1), some (.ref a2), some (.ref a3), some (.int ((p4 + (7 : Int32)))), none, none]) ⟨Or.inr rfl, Or.inr rfl, Or.inr rfl, Or.inr rfl, Or.inr rfl, Or.inl rfl, Or.inl rfl, trivial⟩ ?_
                          exact H
                        · have H := Hb c122
                          refine j_iconst (v := 0) d_La_law_253 (by decide) ?_
                          exact j_zret rfl (by decide) d_La_law_254 H
                      · have H := Hb c147
                        refine j_iload_n d_Mo_isIn_5 rfl ?_
                        refine j_iload_n d_Mo_isIn_6 rfl ?_
                        obtain ⟨Ha, Hb⟩ := H
                        refine j_icmp_gt (tgt := 14) d_Mo_isIn_7 (by decide) (fun c144 => ?_) (fun c145 => ?_)
                        · have H := Ha c144
                          refine j_iconst (v := 0) d_Mo_isIn_14 (by decide) ?_
                          refine j_zret rfl (by decide) d_Mo_isIn_15 ?_
                          show J E 2 m_Mo_job 67 [some (.ref a2), some (.int ((gA G a0 n3))), some (.int ((gA G a0 n5))), some (.int ((gA G a0 n7))), some (.int ((gA G a0 n9))), some (.int ((gA G a0 n11))), some (.int ((1 : Int32))), some (.int ((1 : Int32))), none] [.int ((0 : Int32))] G (aft E 14 m_La_law 241 [some (.ref a0), some (.ref a1), some (.ref a2), some (.ref a3), some (.int p4), some (.int s0), none] [] Post)
                          refine j_if_eq (tgt := 86) d_Mo_job_67 (by decide) (fun _ => ?_) (fun c => absurd c (by decide))
                          refine j_iconst (v := 0) d_Mo_job_86 (by decide) ?_
                          refine j_istore (L' := [some (.ref a2), some (.int ((gA G a0 n3))), some (.int ((gA G a0 n5))), some (.int ((gA G a0 n7))), some (.int ((gA G a0 n9))), some (.int ((gA G a0 n11))), some (.int ((1 : Int32))), some (.int ((1 : Int32))), some (.int ((0 : Int32)))]) d_Mo_job_87 (by decide) rfl ?_
                          refine j_aload_n d_Mo_job_89 rfl ?_
                          refine j_iload d_Mo_job_90 rfl ?_
                          refine j_if_ne (tgt := 99) d_Mo_job_92 (by decide) (fun c => absurd c (by decide)) (fun _ => ?_)
                          refine j_iconst (v := 1) d_Mo_job_95 (by decide) ?_
                          refine j_goto (tgt := 111) d_Mo_job_96 (by decide) ?_
                          refine j_callV (d' := 1) (ci := 10) (As := [.int ((1 : Int32))]) (rest := []) (b := a2) cv_Mo_149 me_Mo_isFine rfl (by decide) rfl rfl t90 rfl rfl (Nat.le_of_ble_eq_true rfl) d_Mo_job_111 (by decide) rfl (j_enter (L := [some (.ref a2), some (.int ((1 : Int32)))]) me_Mo_isFine (cat_c rfl (cat_c rfl cat_n)) (Nat.le_of_ble_eq_true rfl) rfl ?_)
                          refine j_aload_n d_Mo_isFine_0 rfl ?_
                          refine j_iload_n d_Mo_isFine_1 rfl ?_
                          refine j_putI (f := 640) fw_Mo_139 rfl rfl t90 d_Mo_isFine_2 ?_
                          refine j_iload_n d_Mo_isFine_5 rfl ?_
                          refine j_if_ne (tgt := 13) d_Mo_isFine_6 (by decide) (fun _ => ?_) (fun c => absurd c (by decide))
                          refine j_iconst (v := 0) d_Mo_isFine_13 (by decide) ?_
                          refine j_zret rfl (by decide) d_Mo_isFine_14 ?_
                          show J E 2 m_Mo_job 114 [some (.ref a2), some (.int ((gA G a0 n3))), some (.int ((gA G a0 n5))), some (.int ((gA G a0 n7))), some (.int ((gA G a0 n9))), some (.int ((gA G a0 n11))), some (.int ((1 : Int32))), some (.int ((1 : Int32))), some (.int ((0 : Int32)))] [.int ((0 : Int32))] (sI G 640 a2 ((1 : Int32))) (aft E 14 m_La_law 241 [some (.ref a0), some (.ref a1), some (.ref a2), some (.ref a3), some (.int p4), some (.int s0), none] [] Post)
                          refine j_if_eq (tgt := 159) d_Mo_job_114 (by decide) (fun _ => ?_) (fun c => absurd c (by decide))
                          refine j_vret rfl d_Mo_job_159 ?_
                          show J E 14 m_La_law 244 [some (.ref a0), some (.ref a1), some (.ref a2), some (.ref a3), some (.int p4), some (.int s0), none] [] (sI G 640 a2 ((1 : Int32))) Post
                          refine j_aload_n d_La_law_244 rfl ?_
                          refine j_callV (d' := 1) (ci := 10) (As := []) (rest := []) (b := a2) cv_La_80 me_Mo_thrown rfl (by decide) rfl rfl t90 rfl rfl (Nat.le_of_ble_eq_true rfl) d_La_law_245 (by decide) rfl (j_enter (L := [some (.ref a2)]) me_Mo_thrown (cat_c rfl cat_n) (Nat.le_of_ble_eq_true rfl) rfl ?_)
                          refine j_aload_n d_Mo_thrown_0 rfl ?_
                          refine j_getIv (f := 640) (v := ((1 : Int32))) fe_Mo_139 rfl rfl t90 (show gI (sI G 640 a2 ((1 : Int32))) 640 a2 = _ from gI_sI_eq) d_Mo_thrown_1 ?_
                          refine j_iret rfl d_Mo_thrown_4 ?_
                          show J E 14 m_La_law 248 [some (.ref a0), some (.ref a1), some (.ref a2), some (.ref a3), some (.int p4), some (.int s0), none] [.int (((1 : Int32)))] (sI G 640 a2 ((1 : Int32))) Post
                          refine j_iload d_La_law_248 rfl ?_
                          obtain ⟨Ha, Hb⟩ := H
                          refine j_icmp_eq (tgt := 255) d_La_law_250 (by decide) (fun c123 => ?_) (fun c124 => ?_)
                          · have H := Ha c123
                            refine j_goto (tgt := 1295) d_La_law_255 (by decide) ?_
                            refine j_iinc (v := (p4 + (7 : Int32))) (L' := [some (.ref a0), some (.ref a1), some (.ref a2), some (.ref a3), some (.int ((p4 + (7 : Int32)))), some (.int s0), none]) d_La_law_1295 rfl (by rw [show Int32.ofInt (7) = (7 : Int32) by decide]) (by decide) rfl ?_
                            refine j_goto (tgt := 23) d_La_law_1298 (by decide) ?_
                            refine j_forget (L' := [some (.ref a0), some (.ref a1), some (.ref a2), some (.ref a3), some (.int ((p4 + (7 : Int32)))), none, none]) ⟨Or.inr rfl, Or.inr rfl, Or.inr rfl, Or.inr rfl, Or.inr rfl, Or.inl rfl, Or.inl rfl, trivial⟩ ?_
                            exact H
                          · have H := Hb c124
                            refine j_iconst (v := 0) d_La_law_253 (by decide) ?_
                            exact j_zret rfl (by decide) d_La_law_254 H
                        · have H := Hb c145
                          refine j_iconst (v := 1) d_Mo_isIn_10 (by decide) ?_
                          refine j_goto (tgt := 15) d_Mo_isIn_11 (by decide) ?_
                          refine j_zret rfl (by decide) d_Mo_isIn_15 ?_
                          show J E 2 m_Mo_job 67 [some (.ref a2), some (.int ((gA G a0 n3))), some (.int ((gA G a0 n5))), some (.int ((gA G a0 n7))), some (.int ((gA G a0 n9))), some (.int ((gA G a0 n11))), some (.int ((1 : Int32))), some (.int ((1 : Int32))), none] [.int ((1 : Int32))] G (aft E 14 m_La_law 241 [some (.ref a0), some (.ref a1), some (.ref a2), some (.ref a3), some (.int p4), some (.int s0), none] [] Post)
                          refine j_if_eq (tgt := 86) d_Mo_job_67 (by decide) (fun c => absurd c (by decide)) (fun _ => ?_)
                          refine j_iload_n d_Mo_job_70 rfl ?_
                          refine j_iload_n d_Mo_job_71 rfl ?_
                          refine j_iadd d_Mo_job_72 ?_
                          refine j_iconst (v := 1) d_Mo_job_73 (by decide) ?_
                          refine j_isub d_Mo_job_74 ?_
                          refine j_iload_n d_Mo_job_75 rfl ?_
                          obtain ⟨z125, H⟩ := H
                          refine j_idiv d_Mo_job_76 z125 ?_
                          refine j_bipush (v := 8) d_Mo_job_77 (by decide) ?_
                          obtain ⟨Ha, Hb⟩ := H
                          refine j_icmp_gt (tgt := 86) d_Mo_job_79 (by decide) (fun c142 => ?_) (fun c143 => ?_)
                          · have H := Ha c142
                            refine j_iconst (v := 0) d_Mo_job_86 (by decide) ?_
                            refine j_istore (L' := [some (.ref a2), some (.int ((gA G a0 n3))), some (.int ((gA G a0 n5))), some (.int ((gA G a0 n7))), some (.int ((gA G a0 n9))), some (.int ((gA G a0 n11))), some (.int ((1 : Int32))), some (.int ((1 : Int32))), some (.int ((0 : Int32)))]) d_Mo_job_87 (by decide) rfl ?_
                            refine j_aload_n d_Mo_job_89 rfl ?_
                            refine j_iload d_Mo_job_90 rfl ?_
                            refine j_if_ne (tgt := 99) d_Mo_job_92 (by decide) (fun c => absurd c (by decide)) (fun _ => ?_)
                            refine j_iconst (v := 1) d_Mo_job_95 (by decide) ?_
                            refine j_goto (tgt := 111) d_Mo_job_96 (by decide) ?_
                            refine j_callV (d' := 1) (ci := 10) (As := [.int ((1 : Int32))]) (rest := []) (b := a2) cv_Mo_149 me_Mo_isFine rfl (by decide) rfl rfl t90 rfl rfl (Nat.le_of_ble_eq_true rfl) d_Mo_job_111 (by decide) rfl (j_enter (L := [some (.ref a2), some (.int ((1 : Int32)))]) me_Mo_isFine (cat_c rfl (cat_c rfl cat_n)) (Nat.le_of_ble_eq_true rfl) rfl ?_)
                            refine j_aload_n d_Mo_isFine_0 rfl ?_
                            refine j_iload_n d_Mo_isFine_1 rfl ?_
                            refine j_putI (f := 640) fw_Mo_139 rfl rfl t90 d_Mo_isFine_2 ?_
                            refine j_iload_n d_Mo_isFine_5 rfl ?_
                            refine j_if_ne (tgt := 13) d_Mo_isFine_6 (by decide) (fun _ => ?_) (fun c => absurd c (by decide))
                            refine j_iconst (v := 0) d_Mo_isFine_13 (by decide) ?_
                            refine j_zret rfl (by decide) d_Mo_isFine_14 ?_
                            show J E 2 m_Mo_job 114 [some (.ref a2), some (.int ((gA G a0 n3))), some (.int ((gA G a0 n5))), some (.int ((gA G a0 n7))), some (.int ((gA G a0 n9))), some (.int ((gA G a0 n11))), some (.int ((1 : Int32))), some (.int ((1 : Int32))), some (.int ((0 : Int32)))] [.int ((0 : Int32))] (sI G 640 a2 ((1 : Int32))) (aft E 14 m_La_law 241 [some (.ref a0), some (.ref a1), some (.ref a2), some (.ref a3), some (.int p4), some (.int s0), none] [] Post)
                            refine j_if_eq (tgt := 159) d_Mo_job_114 (by decide) (fun _ => ?_) (fun c => absurd c (by decide))
                            refine j_vret rfl d_Mo_job_159 ?_
                            show J E 14 m_La_law 244 [some (.ref a0), some (.ref a1), some (.ref a2), some (.ref a3), some (.int p4), some (.int s0), none] [] (sI G 640 a2 ((1 : Int32))) Post
                            refine j_aload_n d_La_law_244 rfl ?_
                            refine j_callV (d' := 1) (ci := 10) (As := []) (rest := []) (b := a2) cv_La_80 me_Mo_thrown rfl (by decide) rfl rfl t90 rfl rfl (Nat.le_of_ble_eq_true rfl) d_La_law_245 (by decide) rfl (j_enter (L := [some (.ref a2)]) me_Mo_thrown (cat_c rfl cat_n) (Nat.le_of_ble_eq_true rfl) rfl ?_)
                            refine j_aload_n d_Mo_thrown_0 rfl ?_
                            refine j_getIv (f := 640) (v := ((1 : Int32))) fe_Mo_139 rfl rfl t90 (show gI (sI G 640 a2 ((1 : Int32))) 640 a2 = _ from gI_sI_eq) d_Mo_thrown_1 ?_
                            refine j_iret rfl d_Mo_thrown_4 ?_
                            show J E 14 m_La_law 248 [some (.ref a0), some (.ref a1), some (.ref a2), some (.ref a3), some (.int p4), some (.int s0), none] [.int (((1 : Int32)))] (sI G 640 a2 ((1 : Int32))) Post
                            refine j_iload d_La_law_248 rfl ?_
                            obtain ⟨Ha, Hb⟩ := H
                            refine j_icmp_eq (tgt := 255) d_La_law_250 (by decide) (fun c126 => ?_) (fun c127 => ?_)
                            · have H := Ha c126
                              refine j_goto (tgt := 1295) d_La_law_255 (by decide) ?_
                              refine j_iinc (v := (p4 + (7 : Int32))) (L' := [some (.ref a0), some (.ref a1), some (.ref a2), some (.ref a3), some (.int ((p4 + (7 : Int32)))), some (.int s0), none]) d_La_law_1295 rfl (by rw [show Int32.ofInt (7) = (7 : Int32) by decide]) (by decide) rfl ?_
                              refine j_goto (tgt := 23) d_La_law_1298 (by decide) ?_
                              refine j_forget (L' := [some (.ref a0), some (.ref a1), some (.ref a2), some (.ref a3), some (.int ((p4 + (7 : Int32)))), none, none]) ⟨Or.inr rfl, Or.inr rfl, Or.inr rfl, Or.inr rfl, Or.inr rfl, Or.inl rfl, Or.inl rfl, trivial⟩ ?_
                              exact H
                            · have H := Hb c127
                              refine j_iconst (v := 0) d_La_law_253 (by decide) ?_
                              exact j_zret rfl (by decide) d_La_law_254 H
                          · have H := Hb c143
                            refine j_iconst (v := 1) d_Mo_job_82 (by decide) ?_
                            refine j_goto (tgt := 87) d_Mo_job_83 (by decide) ?_
                            refine j_istore (L' := [some (.ref a2), some (.int ((gA G a0 n3))), some (.int ((gA G a0 n5))), some (.int ((gA G a0 n7))), some (.int ((gA G a0 n9))), some (.int ((gA G a0 n11))), some (.int ((1 : Int32))), some (.int ((1 : Int32))), some (.int ((1 : Int32)))]) d_Mo_job_87 (by decide) rfl ?_
                            refine j_aload_n d_Mo_job_89 rfl ?_
                            refine j_iload d_Mo_job_90 rfl ?_
                            refine j_if_ne (tgt := 99) d_Mo_job_92 (by decide) (fun _ => ?_) (fun c => absurd c (by decide))
                            refine j_aload_n d_Mo_job_99 rfl ?_
                            refine j_getI (f := 648) fe_Mo_146 rfl rfl t90 d_Mo_job_100 ?_
                            obtain ⟨Ha, Hb⟩ := H
                            refine j_if_eq (tgt := 110) d_Mo_job_103 (by decide) (fun c140 => ?_) (fun c141 => ?_)
                            · have H := Ha c140
                              refine j_iconst (v := 0) d_Mo_job_110 (by decide) ?_
                              refine j_callV (d' := 1) (ci := 10) (As := [.int ((0 : Int32))]) (rest := []) (b := a2) cv_Mo_149 me_Mo_isFine rfl (by decide) rfl rfl t90 rfl rfl (Nat.le_of_ble_eq_true rfl) d_Mo_job_111 (by decide) rfl (j_enter (L := [some (.ref a2), some (.int ((0 : Int32)))]) me_Mo_isFine (cat_c rfl (cat_c rfl cat_n)) (Nat.le_of_ble_eq_true rfl) rfl ?_)
                              refine j_aload_n d_Mo_isFine_0 rfl ?_
                              refine j_iload_n d_Mo_isFine_1 rfl ?_
                              refine j_putI (f := 640) fw_Mo_139 rfl rfl t90 d_Mo_isFine_2 ?_
                              refine j_iload_n d_Mo_isFine_5 rfl ?_
                              refine j_if_ne (tgt := 13) d_Mo_isFine_6 (by decide) (fun c => absurd c (by decide)) (fun _ => ?_)
                              refine j_iconst (v := 1) d_Mo_isFine_9 (by decide) ?_
                              refine j_goto (tgt := 14) d_Mo_isFine_10 (by decide) ?_
                              refine j_zret rfl (by decide) d_Mo_isFine_14 ?_
                              show J E 2 m_Mo_job 114 [some (.ref a2), some (.int ((gA G a0 n3))), some (.int ((gA G a0 n5))), some (.int ((gA G a0 n7))), some (.int ((gA G a0 n9))), some (.int ((gA G a0 n11))), some (.int ((1 : Int32))), some (.int ((1 : Int32))), some (.int ((1 : Int32)))] [.int ((1 : Int32))] (sI G 640 a2 ((0 : Int32))) (aft E 14 m_La_law 241 [some (.ref a0), some (.ref a1), some (.ref a2), some (.ref a3), some (.int p4), some (.int s0), none] [] Post)
                              refine j_if_eq (tgt := 159) d_Mo_job_114 (by decide) (fun c => absurd c (by decide)) (fun _ => ?_)
                              refine j_aload_n d_Mo_job_117 rfl ?_
                              refine j_iload_n d_Mo_job_118 rfl ?_
                              refine j_putI (f := 641) fw_Mo_9 rfl rfl t90 d_Mo_job_119 ?_
                              refine j_aload_n d_Mo_job_122 rfl ?_
                              refine j_iload_n d_Mo_job_123 rfl ?_
                              refine j_putI (f := 642) fw_Mo_13 rfl rfl t90 d_Mo_job_124 ?_
                              refine j_aload_n d_Mo_job_127 rfl ?_
                              refine j_iload_n d_Mo_job_128 rfl ?_
                              refine j_iconst (v := 1) d_Mo_job_129 (by decide) ?_
                              obtain ⟨Ha, Hb⟩ := H
                              refine j_icmp_ne (tgt := 137) d_Mo_job_130 (by decide) (fun c136 => ?_) (fun c137 => ?_)
                              · have H := Ha c136
                                refine j_iload_n d_Mo_job_137 rfl ?_
                                refine j_putI (f := 643) fw_Mo_16 rfl rfl t90 d_Mo_job_138 ?_
                                refine j_aload_n d_Mo_job_141 rfl ?_
                                refine j_iload d_Mo_job_142 rfl ?_
                                refine j_putI (f := 644) fw_Mo_153 rfl rfl t90 d_Mo_job_144 ?_
                                show J E 2 m_Mo_job 147 [some (.ref a2), some (.int ((gA G a0 n3))), some (.int ((gA G a0 n5))), some (.int ((gA G a0 n7))), some (.int ((gA G a0 n9))), some (.int ((gA G a0 n11))), some (.int ((1 : Int32))), some (.int ((1 : Int32))), some (.int ((1 : Int32)))] [] (sI (sI (sI (sI (sI G 640 a2 ((0 : Int32))) 641 a2 ((gA G a0 n3))) 642 a2 ((gA G a0 n5))) 643 a2 ((gA G a0 n5))) 644 a2 ((gA G a0 n9))) (aft E 14 m_La_law 241 [some (.ref a0), some (.ref a1), some (.ref a2), some (.ref a3), some (.int p4), some (.int s0), none] [] Post)
                                generalize e129 : sI (sI (sI (sI (sI G 640 a2 ((0 : Int32))) 641 a2 ((gA G a0 n3))) 642 a2 ((gA G a0 n5))) 643 a2 ((gA G a0 n5))) 644 a2 ((gA G a0 n9)) = G128
                                have e129 := e129.symm
                                have H := H G128 e129
                                refine j_aload_n d_Mo_job_147 rfl ?_
                                refine j_iload d_Mo_job_148 rfl ?_
                                refine j_putI (f := 645) fw_Mo_19 rfl rfl (by rw [e129]; exact t90) d_Mo_job_150 ?_
                                refine j_aload_n d_Mo_job_153 rfl ?_
                                refine j_iload d_Mo_job_154 rfl ?_
                                refine j_putZ (f := 646) fw_Mo_22 rfl rfl (by rw [e129]; exact t90) (by decide) d_Mo_job_156 ?_
                                refine j_vret rfl d_Mo_job_159 ?_
                                show J E 14 m_La_law 244 [some (.ref a0), some (.ref a1), some (.ref a2), some (.ref a3), some (.int p4), some (.int s0), none] [] (sI (sI G128 645 a2 ((gA G a0 n11))) 646 a2 ((1 : Int32))) Post
                                refine j_aload_n d_La_law_244 rfl ?_
                                refine j_callV (d' := 1) (ci := 10) (As := []) (rest := []) (b := a2) cv_La_80 me_Mo_thrown rfl (by decide) rfl rfl (by rw [e129]; exact t90) rfl rfl (Nat.le_of_ble_eq_true rfl) d_La_law_245 (by decide) rfl (j_enter (L := [some (.ref a2)]) me_Mo_thrown (cat_c rfl cat_n) (Nat.le_of_ble_eq_true rfl) rfl ?_)
                                refine j_aload_n d_Mo_thrown_0 rfl ?_
                                refine j_getIv (f := 640) (v := ((0 : Int32))) fe_Mo_139 rfl rfl (by rw [e129]; exact t90) (by rw [e129]; exact (show gI (sI G 640 a2 ((0 : Int32))) 640 a2 = _ from gI_sI_eq)) d_Mo_thrown_1 ?_
                                refine j_iret rfl d_Mo_thrown_4 ?_
                                show J E 14 m_La_law 248 [some (.ref a0), some (.ref a1), some (.ref a2), some (.ref a3), some (.int p4), some (.int s0), none] [.int (((0 : Int32)))] (sI (sI G128 645 a2 ((gA G a0 n11))) 646 a2 ((1 : Int32))) Post
                                refine j_iload d_La_law_248 rfl ?_
                                obtain ⟨Ha, Hb⟩ := H
                                refine j_icmp_eq (tgt := 255) d_La_law_250 (by decide) (fun c130 => ?_) (fun c131 => ?_)
                                · have H := Ha c130
                                  refine j_goto (tgt := 1295) d_La_law_255 (by decide) ?_
                                  refine j_iinc (v := (p4 + (7 : Int32))) (L' := [some (.ref a0), some (.ref a1), some (.ref a2), some (.ref a3), some (.int ((p4 + (7 : Int32)))), some (.int s0), none]) d_La_law_1295 rfl (by rw [show Int32.ofInt (7) = (7 : Int32) by decide]) (by decide) rfl ?_
                                  refine j_goto (tgt := 23) d_La_law_1298 (by decide) ?_
                                  refine j_forget (L' := [some (.ref a0), some (.ref a1), some (.ref a2), some (.ref a3), some (.int ((p4 + (7 : Int32)))), none, none]) ⟨Or.inr rfl, Or.inr rfl, Or.inr rfl, Or.inr rfl, Or.inr rfl, Or.inl rfl, Or.inl rfl, trivial⟩ ?_
                                  exact H
                                · have H := Hb c131
                                  refine j_iconst (v := 0) d_La_law_253 (by decide) ?_
                                  exact j_zret rfl (by decide) d_La_law_254 H
                              · have H := Hb c137
                                refine j_iload_n d_Mo_job_133 rfl ?_
                                refine j_goto (tgt := 138) d_Mo_job_134 (by decide) ?_
                                refine j_putI (f := 643) fw_Mo_16 rfl rfl t90 d_Mo_job_138 ?_
                                refine j_aload_n d_Mo_job_141 rfl ?_
                                refine j_iload d_Mo_job_142 rfl ?_
                                refine j_putI (f := 644) fw_Mo_153 rfl rfl t90 d_Mo_job_144 ?_
                                show J E 2 m_Mo_job 147 [some (.ref a2), some (.int ((gA G a0 n3))), some (.int ((gA G a0 n5))), some (.int ((gA G a0 n7))), some (.int ((gA G a0 n9))), some (.int ((gA G a0 n11))), some (.int ((1 : Int32))), some (.int ((1 : Int32))), some (.int ((1 : Int32)))] [] (sI (sI (sI (sI (sI G 640 a2 ((0 : Int32))) 641 a2 ((gA G a0 n3))) 642 a2 ((gA G a0 n5))) 643 a2 ((gA G a0 n7))) 644 a2 ((gA G a0 n9))) (aft E 14 m_La_law 241 [some (.ref a0), some (.ref a1), some (.ref a2), some (.ref a3), some (.int p4), some (.int s0), none] [] Post)
                                generalize e133 : sI (sI (sI (sI (sI G 640 a2 ((0 : Int32))) 641 a2 ((gA G a0 n3))) 642 a2 ((gA G a0 n5))) 643 a2 ((gA G a0 n7))) 644 a2 ((gA G a0 n9)) = G132
                                have e133 := e133.symm
                                have H := H G132 e133
                                refine j_aload_n d_Mo_job_147 rfl ?_
                                refine j_iload d_Mo_job_148 rfl ?_
                                refine j_putI (f := 645) fw_Mo_19 rfl rfl (by rw [e133]; exact t90) d_Mo_job_150 ?_
                                refine j_aload_n d_Mo_job_153 rfl ?_
                                refine j_iload d_Mo_job_154 rfl ?_
                                refine j_putZ (f := 646) fw_Mo_22 rfl rfl (by rw [e133]; exact t90) (by decide) d_Mo_job_156 ?_
                                refine j_vret rfl d_Mo_job_159 ?_
                                show J E 14 m_La_law 244 [some (.ref a0), some (.ref a1), some (.ref a2), some (.ref a3), some (.int p4), some (.int s0), none] [] (sI (sI G132 645 a2 ((gA G a0 n11))) 646 a2 ((1 : Int32))) Post
                                refine j_aload_n d_La_law_244 rfl ?_
                                refine j_callV (d' := 1) (ci := 10) (As := []) (rest := []) (b := a2) cv_La_80 me_Mo_thrown rfl (by decide) rfl rfl (by rw [e133]; exact t90) rfl rfl (Nat.le_of_ble_eq_true rfl) d_La_law_245 (by decide) rfl (j_enter (L := [some (.ref a2)]) me_Mo_thrown (cat_c rfl cat_n) (Nat.le_of_ble_eq_true rfl) rfl ?_)
                                refine j_aload_n d_Mo_thrown_0 rfl ?_
                                refine j_getIv (f := 640) (v := ((0 : Int32))) fe_Mo_139 rfl rfl (by rw [e133]; exact t90) (by rw [e133]; exact (show gI (sI G 640 a2 ((0 : Int32))) 640 a2 = _ from gI_sI_eq)) d_Mo_thrown_1 ?_
                                refine j_iret rfl d_Mo_thrown_4 ?_
                                show J E 14 m_La_law 248 [some (.ref a0), some (.ref a1), some (.ref a2), some (.ref a3), some (.int p4), some (.int s0), none] [.int (((0 : Int32)))] (sI (sI G132 645 a2 ((gA G a0 n11))) 646 a2 ((1 : Int32))) Post
                                refine j_iload d_La_law_248 rfl ?_
                                obtain ⟨Ha, Hb⟩ := H
                                refine j_icmp_eq (tgt := 255) d_La_law_250 (by decide) (fun c134 => ?_) (fun c135 => ?_)
                                · have H := Ha c134
                                  refine j_goto (tgt := 1295) d_La_law_255 (by decide) ?_
                                  refine j_iinc (v := (p4 + (7 : Int32))) (L' := [some (.ref a0), some (.ref a1), some (.ref a2), some (.ref a3), some (.int ((p4 + (7 : Int32)))), some (.int s0), none]) d_La_law_1295 rfl (by rw [show Int32.ofInt (7) = (7 : Int32) by decide]) (by decide) rfl ?_
                                  refine j_goto (tgt := 23) d_La_law_1298 (by decide) ?_
                                  refine j_forget (L' := [some (.ref a0), some (.ref a1), some (.ref a2), some (.ref a3), some (.int ((p4 + (7 : Int32)))), none, none]) ⟨Or.inr rfl, Or.inr rfl, Or.inr rfl, Or.inr rfl, Or.inr rfl, Or.inl rfl, Or.inl rfl, trivial⟩ ?_
                                  exact H
                                · have H := Hb c135
                                  refine j_iconst (v := 0) d_La_law_253 (by decide) ?_
                                  exact j_zret rfl (by decide) d_La_law_254 H
                            · have H := Hb c141
                              refine j_iconst (v := 2) d_Mo_job_106 (by decide) ?_
                              refine j_goto (tgt := 111) d_Mo_job_107 (by decide) ?_
                              refine j_callV (d' := 1) (ci := 10) (As := [.int ((2 : Int32))]) (rest := []) (b := a2) cv_Mo_149 me_Mo_isFine rfl (by decide) rfl rfl t90 rfl rfl (Nat.le_of_ble_eq_true rfl) d_Mo_job_111 (by decide) rfl (j_enter (L := [some (.ref a2), some (.int ((2 : Int32)))]) me_Mo_isFine (cat_c rfl (cat_c rfl cat_n)) (Nat.le_of_ble_eq_true rfl) rfl ?_)
                              refine j_aload_n d_Mo_isFine_0 rfl ?_
                              refine j_iload_n d_Mo_isFine_1 rfl ?_
                              refine j_putI (f := 640) fw_Mo_139 rfl rfl t90 d_Mo_isFine_2 ?_
                              refine j_iload_n d_Mo_isFine_5 rfl ?_
                              refine j_if_ne (tgt := 13) d_Mo_isFine_6 (by decide) (fun _ => ?_) (fun c => absurd c (by decide))
                              refine j_iconst (v := 0) d_Mo_isFine_13 (by decide) ?_
                              refine j_zret rfl (by decide) d_Mo_isFine_14 ?_
                              show J E 2 m_Mo_job 114 [some (.ref a2), some (.int ((gA G a0 n3))), some (.int ((gA G a0 n5))), some (.int ((gA G a0 n7))), some (.int ((gA G a0 n9))), some (.int ((gA G a0 n11))), some (.int ((1 : Int32))), some (.int ((1 : Int32))), some (.int ((1 : Int32)))] [.int ((0 : Int32))] (sI G 640 a2 ((2 : Int32))) (aft E 14 m_La_law 241 [some (.ref a0), some (.ref a1), some (.ref a2), some (.ref a3), some (.int p4), some (.int s0), none] [] Post)
                              refine j_if_eq (tgt := 159) d_Mo_job_114 (by decide) (fun _ => ?_) (fun c => absurd c (by decide))
                              refine j_vret rfl d_Mo_job_159 ?_
                              show J E 14 m_La_law 244 [some (.ref a0), some (.ref a1), some (.ref a2), some (.ref a3), some (.int p4), some (.int s0), none] [] (sI G 640 a2 ((2 : Int32))) Post
                              refine j_aload_n d_La_law_244 rfl ?_
                              refine j_callV (d' := 1) (ci := 10) (As := []) (rest := []) (b := a2) cv_La_80 me_Mo_thrown rfl (by decide) rfl rfl t90 rfl rfl (Nat.le_of_ble_eq_true rfl) d_La_law_245 (by decide) rfl (j_enter (L := [some (.ref a2)]) me_Mo_thrown (cat_c rfl cat_n) (Nat.le_of_ble_eq_true rfl) rfl ?_)
                              refine j_aload_n d_Mo_thrown_0 rfl ?_
                              refine j_getIv (f := 640) (v := ((2 : Int32))) fe_Mo_139 rfl rfl t90 (show gI (sI G 640 a2 ((2 : Int32))) 640 a2 = _ from gI_sI_eq) d_Mo_thrown_1 ?_
                              refine j_iret rfl d_Mo_thrown_4 ?_
                              show J E 14 m_La_law 248 [some (.ref a0), some (.ref a1), some (.ref a2), some (.ref a3), some (.int p4), some (.int s0), none] [.int (((2 : Int32)))] (sI G 640 a2 ((2 : Int32))) Post
                              refine j_iload d_La_law_248 rfl ?_
                              obtain ⟨Ha, Hb⟩ := H
                              refine j_icmp_eq (tgt := 255) d_La_law_250 (by decide) (fun c138 => ?_) (fun c139 => ?_)
                              · have H := Ha c138
                                refine j_goto (tgt := 1295) d_La_law_255 (by decide) ?_
                                refine j_iinc (v := (p4 + (7 : Int32))) (L' := [some (.ref a0), some (.ref a1), some (.ref a2), some (.ref a3), some (.int ((p4 + (7 : Int32)))), some (.int s0), none]) d_La_law_1295 rfl (by rw [show Int32.ofInt (7) = (7 : Int32) by decide]) (by decide) rfl ?_
                                refine j_goto (tgt := 23) d_La_law_1298 (by decide) ?_
                                refine j_forget (L' := [some (.ref a0), some (.ref a1), some (.ref a2), some (.ref a3), some (.int ((p4 + (7 : Int32)))), none, none]) ⟨Or.inr rfl, Or.inr rfl, Or.inr rfl, Or.inr rfl, Or.inr rfl, Or.inl rfl, Or.inl rfl, trivial⟩ ?_
                                exact H
                              · have H := Hb c139
                                refine j_iconst (v := 0) d_La_law_253 (by decide) ?_
                                exact j_zret rfl (by decide) d_La_law_254 H
theorem wp_La_law_275 {E : EV} {G : GH} {Post : Res → GH → Prop} (a0 : Nat) (a1 : Nat) (a2 : Nat) (a3 : Nat) (p4 : Int32) (s0 : Int32) (H : (gT G a0 = 20 ∨ gT G a0 = 25) ∧ ∃ n3, IX ((p4 + (1 : Int32))) n3 (gN G a0) ∧ ∃ n5, IX ((p4 + (2 : Int32))) n5 (gN G a0) ∧ gT G a2 = 11 ∧ ((gA G a0 n3) < (0 : Int32) → (((1 : Int32)) = s0 → (¬ s0 = 0 → J E 14 m_La_law 23 [some (.ref a0), some (.ref a1), some (.ref a2), some (.ref a3), some (.int ((p4 + (7 : Int32)))), none, none] [] (sI G 640 a2 ((1 : Int32))) Post) ∧ (s0 = 0 → gT G a3 = 22 ∧ IX (0 : Int32) 0 (gN G a3) ∧ ((lg_cmp ((gL (sI G 640 a2 ((1 : Int32))) a3 0)) ((Int32.toInt64 ((0 : Int32))))) = 0 → J E 14 m_La_law 23 [some (.ref a0), some (.ref a1), some (.ref a2), some (.ref a3), some (.int ((p4 + (7 : Int32)))), none, none] [] (sI G 640 a2 ((1 : Int32))) Post) ∧ (¬ (lg_cmp ((gL (sI G 640 a2 ((1 : Int32))) a3 0)) ((Int32.toInt64 ((0 : Int32))))) = 0 → Post (.inl (some (.int ((0 : Int32))))) (sI G 640 a2 ((1 : Int32)))))) ∧ (¬ ((1 : Int32)) = s0 → Post (.inl (some (.int ((0 : Int32))))) (sI G 640 a2 ((1 : Int32))))) ∧ (¬ (gA G a0 n3) < (0 : Int32) → ((2 : Int32) < (gA G a0 n3) → (((1 : Int32)) = s0 → (¬ s0 = 0 → J E 14 m_La_law 23 [some (.ref a0), some (.ref a1), some (.ref a2), some (.ref a3), some (.int ((p4 + (7 : Int32)))), none, none] [] (sI G 640 a2 ((1 : Int32))) Post) ∧ (s0 = 0 → gT G a3 = 22 ∧ IX (0 : Int32) 0 (gN G a3) ∧ ((lg_cmp ((gL (sI G 640 a2 ((1 : Int32))) a3 0)) ((Int32.toInt64 ((0 : Int32))))) = 0 → J E 14 m_La_law 23 [some (.ref a0), some (.ref a1), some (.ref a2), some (.ref a3), some (.int ((p4 + (7 : Int32)))), none, none] [] (sI G 640 a2 ((1 : Int32))) Post) ∧ (¬ (lg_cmp ((gL (sI G 640 a2 ((1 : Int32))) a3 0)) ((Int32.toInt64 ((0 : Int32))))) = 0 → Post (.inl (some (.int ((0 : Int32))))) (sI G 640 a2 ((1 : Int32)))))) ∧ (¬ ((1 : Int32)) = s0 → Post (.inl (some (.int ((0 : Int32))))) (sI G 640 a2 ((1 : Int32))))) ∧ (¬ (2 : Int32) < (gA G a0 n3) → ((gA G a0 n5) < (0 : Int32) → (((2 : Int32)) = s0 → (¬ s0 = 0 → J E 14 m_La_law 23 [some (.ref a0), some (.ref a1), some (.ref a2), some (.ref a3), some (.int ((p4 + (7 : Int32)))), none, none] [] (sI G 640 a2 ((2 : Int32))) Post) ∧ (s0 = 0 → gT G a3 = 22 ∧ IX (0 : Int32) 0 (gN G a3) ∧ ((lg_cmp ((gL (sI G 640 a2 ((2 : Int32))) a3 0)) ((Int32.toInt64 ((0 : Int32))))) = 0 → J E 14 m_La_law 23 [some (.ref a0), some (.ref a1), some (.ref a2), some (.ref a3), some (.int ((p4 + (7 : Int32)))), none, none] [] (sI G 640 a2 ((2 : Int32))) Post) ∧ (¬ (lg_cmp ((gL (sI G 640 a2 ((2 : Int32))) a3 0)) ((Int32.toInt64 ((0 : Int32))))) = 0 → Post (.inl (some (.int ((0 : Int32))))) (sI G 640 a2 ((2 : Int32)))))) ∧ (¬ ((2 : Int32)) = s0 → Post (.inl (some (.int ((0 : Int32))))) (sI G 640 a2 ((2 : Int32))))) ∧ (¬ (gA G a0 n5) < (0 : Int32) → ((200 : Int32) < (gA G a0 n5) → (((2 : Int32)) = s0 → (¬ s0 = 0 → J E 14 m_La_law 23 [some (.ref a0), some (.ref a1), some (.ref a2), some (.ref a3), some (.int ((p4 + (7 : Int32)))), none, none] [] (sI G 640 a2 ((2 : Int32))) Post) ∧ (s0 = 0 → gT G a3 = 22 ∧ IX (0 : Int32) 0 (gN G a3) ∧ ((lg_cmp ((gL (sI G 640 a2 ((2 : Int32))) a3 0)) ((Int32.toInt64 ((0 : Int32))))) = 0 → J E 14 m_La_law 23 [some (.ref a0), some (.ref a1), some (.ref a2), some (.ref a3), some (.int ((p4 + (7 : Int32)))), none, none] [] (sI G 640 a2 ((2 : Int32))) Post) ∧ (¬ (lg_cmp ((gL (sI G 640 a2 ((2 : Int32))) a3 0)) ((Int32.toInt64 ((0 : Int32))))) = 0 → Post (.inl (some (.int ((0 : Int32))))) (sI G 640 a2 ((2 : Int32)))))) ∧ (¬ ((2 : Int32)) = s0 → Post (.inl (some (.int ((0 : Int32))))) (sI G 640 a2 ((2 : Int32))))) ∧ (¬ (200 : Int32) < (gA G a0 n5) → ((gI G 648 a2) = 0 → ∃ b39, gR G 655 a2 = some b39 ∧ (gT G b39 = 20 ∨ gT G b39 = 25) ∧ ∃ n43, IX ((gA G a0 n3)) n43 (gN G b39) ∧ gT G b39 = 20 ∧ (((0 : Int32)) = s0 → (¬ s0 = 0 → J E 14 m_La_law 23 [some (.ref a0), some (.ref a1), some (.ref a2), some (.ref a3), some (.int ((p4 + (7 : Int32)))), none, none] [] (sA (sI G 640 a2 ((0 : Int32))) b39 n43 ((gA G a0 n5))) Post) ∧ (s0 = 0 → gT G a3 = 22 ∧ IX (0 : Int32) 0 (gN G a3) ∧ ((lg_cmp ((gL (sA (sI G 640 a2 ((0 : Int32))) b39 n43 ((gA G a0 n5))) a3 0)) ((Int32.toInt64 ((gA (sI G 640 a2 ((0 : Int32))) b39 n43))))) = 0 → J E 14 m_La_law 23 [some (.ref a0), some (.ref a1), some (.ref a2), some (.ref a3), some (.int ((p4 + (7 : Int32)))), none, none] [] (sA (sI G 640 a2 ((0 : Int32))) b39 n43 ((gA G a0 n5))) Post) ∧ (¬ (lg_cmp ((gL (sA (sI G 640 a2 ((0 : Int32))) b39 n43 ((gA G a0 n5))) a3 0)) ((Int32.toInt64 ((gA (sI G 640 a2 ((0 : Int32))) b39 n43))))) = 0 → Post (.inl (some (.int ((0 : Int32))))) (sA (sI G 640 a2 ((0 : Int32))) b39 n43 ((gA G a0 n5)))))) ∧ (¬ ((0 : Int32)) = s0 → Post (.inl (some (.int ((0 : Int32))))) (sA (sI G 640 a2 ((0 : Int32))) b39 n43 ((gA G a0 n5))))) ∧ (¬ (gI G 648 a2) = 0 → (((3 : Int32)) = s0 → (¬ s0 = 0 → J E 14 m_La_law 23 [some (.ref a0), some (.ref a1), some (.ref a2), some (.ref a3), some (.int ((p4 + (7 : Int32)))), none, none] [] (sI G 640 a2 ((3 : Int32))) Post) ∧ (s0 = 0 → gT G a3 = 22 ∧ IX (0 : Int32) 0 (gN G a3) ∧ ((lg_cmp ((gL (sI G 640 a2 ((3 : Int32))) a3 0)) ((Int32.toInt64 ((0 : Int32))))) = 0 → J E 14 m_La_law 23 [some (.ref a0), some (.ref a1), some (.ref a2), some (.ref a3), some (.int ((p4 + (7 : Int32)))), none, none] [] (sI G 640 a2 ((3 : Int32))) Post) ∧ (¬ (lg_cmp ((gL (sI G 640 a2 ((3 : Int32))) a3 0)) ((Int32.toInt64 ((0 : Int32))))) = 0 → Post (.inl (some (.int ((0 : Int32))))) (sI G 640 a2 ((3 : Int32)))))) ∧ (¬ ((3 : Int32)) = s0 → Post (.inl (some (.int ((0 : Int32))))) (sI G 640 a2 ((3 : Int32)))))))))) : J E 14 m_La_law 275 [some (.ref a0), some (.ref a1), some (.ref a2), some (.ref a3), some (.int p4), none, none] [.int s0] G Post := by
  refine j_istore (L' := [some (.ref a0), some (.ref a1), some (.ref a2), some (.ref a3), some (.int p4), some (.int s0), none]) d_La_law_275 (by decide) rfl ?_
  refine j_aload_n d_La_law_277 rfl ?_
  refine j_aload_n d_La_law_278 rfl ?_
  refine j_iload d_La_law_279 rfl ?_
  refine j_iconst (v := 1) d_La_law_281 (by decide) ?_
  refine j_iadd d_La_law_282 ?_
  obtain ⟨t1, H⟩ := H
  obtain ⟨n3, x2, H⟩ := H
  refine j_iald (n := n3) t1 x2 d_La_law_283 ?_
  refine j_aload_n d_La_law_284 rfl ?_
  refine j_iload d_La_law_285 rfl ?_
  refine j_iconst (v := 2) d_La_law_287 (by decide) ?_
  refine j_iadd d_La_law_288 ?_
  obtain ⟨n5, x4, H⟩ := H
  refine j_iald (n := n5) t1 x4 d_La_law_289 ?_
  obtain ⟨t6, H⟩ := H
  refine j_callV (d' := 3) (ci := 10) (As := [.int ((gA G a0 n3)), .int ((gA G a0 n5))]) (rest := []) (b := a2) cv_La_86 me_Mo_slack rfl (by decide) rfl rfl t6 rfl rfl (Nat.le_of_ble_eq_true rfl) d_La_law_290 (by decide) rfl (j_enter (L := [some (.ref a2), some (.int ((gA G a0 n3))), some (.int ((gA G a0 n5))), none]) me_Mo_slack (cat_c rfl (cat_c rfl (cat_c rfl cat_n))) (Nat.le_of_ble_eq_true rfl) rfl ?_)
  refine j_aload_n d_Mo_slack_0 rfl ?_
  refine j_iload_n d_Mo_slack_1 rfl ?_
  refine j_callS (d' := 2) (As := [.int ((gA G a0 n3))]) (rest := [.ref a2]) cs_Mo_156 me_Mo_isSource rfl (by decide) rfl rfl (Nat.le_of_ble_eq_true rfl) d_Mo_slack_2 (by decide) rfl (j_enter (L := [some (.int ((gA G a0 n3)))]) me_Mo_isSource (cat_c rfl cat_n) (Nat.le_of_ble_eq_true rfl) rfl ?_)
  refine j_iload_n d_Mo_isSource_0 rfl ?_
  refine j_iconst (v := 0) d_Mo_isSource_1 (by decide) ?_
  refine j_iconst (v := 2) d_Mo_isSource_2 (by decide) ?_
  refine j_callS (d' := 1) (As := [.int ((gA G a0 n3)), .int ((0 : Int32)), .int ((2 : Int32))]) (rest := []) cs_Mo_142 me_Mo_isIn rfl (by decide) rfl rfl (Nat.le_of_ble_eq_true rfl) d_Mo_isSource_3 (by decide) rfl (j_enter (L := [some (.int ((gA G a0 n3))), some (.int ((0 : Int32))), some (.int ((2 : Int32)))]) me_Mo_isIn (cat_c rfl (cat_c rfl (cat_c rfl cat_n))) (Nat.le_of_ble_eq_true rfl) rfl ?_)
  refine j_iload_n d_Mo_isIn_0 rfl ?_
  refine j_iload_n d_Mo_isIn_1 rfl ?_
  obtain ⟨Ha, Hb⟩ := H
  refine j_icmp_lt (tgt := 14) d_Mo_isIn_2 (by decide) (fun c69 => ?_) (fun c70 => ?_)
  · have H := Ha c69
    refine j_iconst (v := 0) d_Mo_isIn_14 (by decide) ?_
    refine j_zret rfl (by decide) d_Mo_isIn_15 ?_
    show J E 2 m_Mo_isSource 6 [some (.int ((gA G a0 n3)))] [.int ((0 : Int32))] G (aft E 3 m_Mo_slack 2 [some (.ref a2), some (.int ((gA G a0 n3))), some (.int ((gA G a0 n5))), none] [.ref a2] (aft E 14 m_La_law 290 [some (.ref a0), some (.ref a1), some (.ref a2), some (.ref a3), some (.int p4), some (.int s0), none] [] Post))
    refine j_zret rfl (by decide) d_Mo_isSource_6 ?_
    show J E 3 m_Mo_slack 5 [some (.ref a2), some (.int ((gA G a0 n3))), some (.int ((gA G a0 n5))), none] [.int ((0 : Int32)), .ref a2] G (aft E 14 m_La_law 290 [some (.ref a0), some (.ref a1), some (.ref a2), some (.ref a3), some (.int p4), some (.int s0), none] [] Post)
    refine j_if_ne (tgt := 12) d_Mo_slack_5 (by decide) (fun c => absurd c (by decide)) (fun _ => ?_)
    refine j_iconst (v := 1) d_Mo_slack_8 (by decide) ?_
    refine j_goto (tgt := 39) d_Mo_slack_9 (by decide) ?_
    refine j_callV (d' := 1) (ci := 10) (As := [.int ((1 : Int32))]) (rest := []) (b := a2) cv_Mo_149 me_Mo_isFine rfl (by decide) rfl rfl t6 rfl rfl (Nat.le_of_ble_eq_true rfl) d_Mo_slack_39 (by decide) rfl (j_enter (L := [some (.ref a2), some (.int ((1 : Int32)))]) me_Mo_isFine (cat_c rfl (cat_c rfl cat_n)) (Nat.le_of_ble_eq_true rfl) rfl ?_)
    refine j_aload_n d_Mo_isFine_0 rfl ?_
    refine j_iload_n d_Mo_isFine_1 rfl ?_
    refine j_putI (f := 640) fw_Mo_139 rfl rfl t6 d_Mo_isFine_2 ?_
    refine j_iload_n d_Mo_isFine_5 rfl ?_
    refine j_if_ne (tgt := 13) d_Mo_isFine_6 (by decide) (fun _ => ?_) (fun c => absurd c (by decide))
    refine j_iconst (v := 0) d_Mo_isFine_13 (by decide) ?_
    refine j_zret rfl (by decide) d_Mo_isFine_14 ?_
    show J E 3 m_Mo_slack 42 [some (.ref a2), some (.int ((gA G a0 n3))), some (.int ((gA G a0 n5))), none] [.int ((0 : Int32))] (sI G 640 a2 ((1 : Int32))) (aft E 14 m_La_law 290 [some (.ref a0), some (.ref a1), some (.ref a2), some (.ref a3), some (.int p4), some (.int s0), none] [] Post)
    refine j_if_ne (tgt := 47) d_Mo_slack_42 (by decide) (fun c => absurd c (by decide)) (fun _ => ?_)
    refine j_iconst (v := 0) d_Mo_slack_45 (by decide) ?_
    refine j_iret rfl d_Mo_slack_46 ?_
    show J E 14 m_La_law 293 [some (.ref a0), some (.ref a1), some (.ref a2), some (.ref a3), some (.int p4), some (.int s0), none] [.int ((0 : Int32))] (sI G 640 a2 ((1 : Int32))) Post
    refine j_istore (L' := [some (.ref a0), some (.ref a1), some (.ref a2), some (.ref a3), some (.int p4), some (.int s0), some (.int ((0 : Int32)))]) d_La_law_293 (by decide) rfl ?_
    refine j_aload_n d_La_law_295 rfl ?_
    refine j_callV (d' := 1) (ci := 10) (As := []) (rest := []) (b := a2) cv_La_80 me_Mo_thrown rfl (by decide) rfl rfl t6 rfl rfl (Nat.le_of_ble_eq_true rfl) d_La_law_296 (by decide) rfl (j_enter (L := [some (.ref a2)]) me_Mo_thrown (cat_c rfl cat_n) (Nat.le_of_ble_eq_true rfl) rfl ?_)
    refine j_aload_n d_Mo_thrown_0 rfl ?_
    refine j_getIv (f := 640) (v := ((1 : Int32))) fe_Mo_139 rfl rfl t6 (show gI (sI G 640 a2 ((1 : Int32))) 640 a2 = _ from gI_sI_eq) d_Mo_thrown_1 ?_
    refine j_iret rfl d_Mo_thrown_4 ?_
    show J E 14 m_La_law 299 [some (.ref a0), some (.ref a1), some (.ref a2), some (.ref a3), some (.int p4), some (.int s0), some (.int ((0 : Int32)))] [.int (((1 : Int32)))] (sI G 640 a2 ((1 : Int32))) Post
    refine j_iload d_La_law_299 rfl ?_
    obtain ⟨Ha, Hb⟩ := H
    refine j_icmp_eq (tgt := 306) d_La_law_301 (by decide) (fun c13 => ?_) (fun c14 => ?_)
    · have H := Ha c13
      refine j_iload d_La_law_306 rfl ?_
      obtain ⟨Ha, Hb⟩ := H
      refine j_if_ne (tgt := 323) d_La_law_308 (by decide) (fun c11 => ?_) (fun c12 => ?_)
      · have H := Ha c11
        refine j_goto (tgt := 1295) d_La_law_323 (by decide) ?_
        refine j_iinc (v := (p4 + (7 : Int32))) (L' := [some (.ref a0), some (.ref a1), some (.ref a2), some (.ref a3), some (.int ((p4 + (7 : Int32)))), some (.int s0), some (.int ((0 : Int32)))]) d_La_law_1295 rfl (by rw [show Int32.ofInt (7) = (7 : Int32) by decide]) (by decide) rfl ?_
        refine j_goto (tgt := 23) d_La_law_1298 (by decide) ?_
        refine j_forget (L' := [some (.ref a0), some (.ref a1), some (.ref a2), some (.ref a3), some (.int ((p4 + (7 : Int32)))), none, none]) ⟨Or.inr rfl, Or.inr rfl, Or.inr rfl, Or.inr rfl, Or.inr rfl, Or.inl rfl, Or.inl rfl, trivial⟩ ?_
        exact H
      · have H := Hb c12
        refine j_aload_n d_La_law_311 rfl ?_
        refine j_iconst (v := 0) d_La_law_312 (by decide) ?_
        obtain ⟨t7, H⟩ := H
        obtain ⟨x8, H⟩ := H
        refine j_lald (n := 0) t7 x8 d_La_law_313 ?_
        refine j_iload d_La_law_314 rfl ?_
        refine j_i2l d_La_law_316 ?_
        refine j_lcmp d_La_law_317 ?_
        obtain ⟨Ha, Hb⟩ := H
        refine j_if_eq (tgt := 323) d_La_law_318 (by decide) (fun c9 => ?_) (fun c10 => ?_)
        · have H := Ha c9
          refine j_goto (tgt := 1295) d_La_law_323 (by decide) ?_
          refine j_iinc (v := (p4 + (7 : Int32))) (L' := [some (.ref a0), some (.ref a1), some (.ref a2), some (.ref a3), some (.int ((p4 + (7 : Int32)))), some (.int s0), some (.int ((0 : Int32)))]) d_La_law_1295 rfl (by rw [show Int32.ofInt (7) = (7 : Int32) by decide]) (by decide) rfl ?_
          refine j_goto (tgt := 23) d_La_law_1298 (by decide) ?_
          refine j_forget (L' := [some (.ref a0), some (.ref a1), some (.ref a2), some (.ref a3), some (.int ((p4 + (7 : Int32)))), none, none]) ⟨Or.inr rfl, Or.inr rfl, Or.inr rfl, Or.inr rfl, Or.inr rfl, Or.inl rfl, Or.inl rfl, trivial⟩ ?_
          exact H
        · have H := Hb c10
          refine j_iconst (v := 0) d_La_law_321 (by decide) ?_
          exact j_zret rfl (by decide) d_La_law_322 H
    · have H := Hb c14
      refine j_iconst (v := 0) d_La_law_304 (by decide) ?_
      exact j_zret rfl (by decide) d_La_law_305 H
  · have H := Hb c70
    refine j_iload_n d_Mo_isIn_5 rfl ?_
    refine j_iload_n d_Mo_isIn_6 rfl ?_
    obtain ⟨Ha, Hb⟩ := H
    refine j_icmp_gt (tgt := 14) d_Mo_isIn_7 (by decide) (fun c67 => ?_) (fun c68 => ?_)
    · have H := Ha c67
      refine j_iconst (v := 0) d_Mo_isIn_14 (by decide) ?_
      refine j_zret rfl (by decide) d_Mo_isIn_15 ?_
      show J E 2 m_Mo_isSource 6 [some (.int ((gA G a0 n3)))] [.int ((0 : Int32))] G (aft E 3 m_Mo_slack 2 [some (.ref a2), some (.int ((gA G a0 n3))), some (.int ((gA G a0 n5))), none] [.ref a2] (aft E 14 m_La_law 290 [some (.ref a0), some (.ref a1), some (.ref a2), some (.ref a3), some (.int p4), some (.int s0), none] [] Post))
      refine j_zret rfl (by decide) d_Mo_isSource_6 ?_
      show J E 3 m_Mo_slack 5 [some (.ref a2), some (.int ((gA G a0 n3))), some (.int ((gA G a0 n5))), none] [.int ((0 : Int32)), .ref a2] G (aft E 14 m_La_law 290 [some (.ref a0), some (.ref a1), some (.ref a2), some (.ref a3), some (.int p4), some (.int s0), none] [] Post)
      refine j_if_ne (tgt := 12) d_Mo_slack_5 (by decide) (fun c => absurd c (by decide)) (fun _ => ?_)
      refine j_iconst (v := 1) d_Mo_slack_8 (by decide) ?_
      refine j_goto (tgt := 39) d_Mo_slack_9 (by decide) ?_
      refine j_callV (d' := 1) (ci := 10) (As := [.int ((1 : Int32))]) (rest := []) (b := a2) cv_Mo_149 me_Mo_isFine rfl (by decide) rfl rfl t6 rfl rfl (Nat.le_of_ble_eq_true rfl) d_Mo_slack_39 (by decide) rfl (j_enter (L := [some (.ref a2), some (.int ((1 : Int32)))]) me_Mo_isFine (cat_c rfl (cat_c rfl cat_n)) (Nat.le_of_ble_eq_true rfl) rfl ?_)
      refine j_aload_n d_Mo_isFine_0 rfl ?_
      refine j_iload_n d_Mo_isFine_1 rfl ?_
      refine j_putI (f := 640) fw_Mo_139 rfl rfl t6 d_Mo_isFine_2 ?_
      refine j_iload_n d_Mo_isFine_5 rfl ?_
      refine j_if_ne (tgt := 13) d_Mo_isFine_6 (by decide) (fun _ => ?_) (fun c => absurd c (by decide))
      refine j_iconst (v := 0) d_Mo_isFine_13 (by decide) ?_
      refine j_zret rfl (by decide) d_Mo_isFine_14 ?_
      show J E 3 m_Mo_slack 42 [some (.ref a2), some (.int ((gA G a0 n3))), some (.int ((gA G a0 n5))), none] [.int ((0 : Int32))] (sI G 640 a2 ((1 : Int32))) (aft E 14 m_La_law 290 [some (.ref a0), some (.ref a1), some (.ref a2), some (.ref a3), some (.int p4), some (.int s0), none] [] Post)
      refine j_if_ne (tgt := 47) d_Mo_slack_42 (by decide) (fun c => absurd c (by decide)) (fun _ => ?_)
      refine j_iconst (v := 0) d_Mo_slack_45 (by decide) ?_
      refine j_iret rfl d_Mo_slack_46 ?_
      show J E 14 m_La_law 293 [some (.ref a0), some (.ref a1), some (.ref a2), some (.ref a3), some (.int p4), some (.int s0), none] [.int ((0 : Int32))] (sI G 640 a2 ((1 : Int32))) Post
      refine j_istore (L' := [some (.ref a0), some (.ref a1), some (.ref a2), some (.ref a3), some (.int p4), some (.int s0), some (.int ((0 : Int32)))]) d_La_law_293 (by decide) rfl ?_
      refine j_aload_n d_La_law_295 rfl ?_
      refine j_callV (d' := 1) (ci := 10) (As := []) (rest := []) (b := a2) cv_La_80 me_Mo_thrown rfl (by decide) rfl rfl t6 rfl rfl (Nat.le_of_ble_eq_true rfl) d_La_law_296 (by decide) rfl (j_enter (L := [some (.ref a2)]) me_Mo_thrown (cat_c rfl cat_n) (Nat.le_of_ble_eq_true rfl) rfl ?_)
      refine j_aload_n d_Mo_thrown_0 rfl ?_
      refine j_getIv (f := 640) (v := ((1 : Int32))) fe_Mo_139 rfl rfl t6 (show gI (sI G 640 a2 ((1 : Int32))) 640 a2 = _ from gI_sI_eq) d_Mo_thrown_1 ?_
      refine j_iret rfl d_Mo_thrown_4 ?_
      show J E 14 m_La_law 299 [some (.ref a0), some (.ref a1), some (.ref a2), some (.ref a3), some (.int p4), some (.int s0), some (.int ((0 : Int32)))] [.int (((1 : Int32)))] (sI G 640 a2 ((1 : Int32))) Post
      refine j_iload d_La_law_299 rfl ?_
      obtain ⟨Ha, Hb⟩ := H
      refine j_icmp_eq (tgt := 306) d_La_law_301 (by decide) (fun c21 => ?_) (fun c22 => ?_)
      · have H := Ha c21
        refine j_iload d_La_law_306 rfl ?_
        obtain ⟨Ha, Hb⟩ := H
        refine j_if_ne (tgt := 323) d_La_law_308 (by decide) (fun c19 => ?_) (fun c20 => ?_)
        · have H := Ha c19
          refine j_goto (tgt := 1295) d_La_law_323 (by decide) ?_
          refine j_iinc (v := (p4 + (7 : Int32))) (L' := [some (.ref a0), some (.ref a1), some (.ref a2), some (.ref a3), some (.int ((p4 + (7 : Int32)))), some (.int s0), some (.int ((0 : Int32)))]) d_La_law_1295 rfl (by rw [show Int32.ofInt (7) = (7 : Int32) by decide]) (by decide) rfl ?_
          refine j_goto (tgt := 23) d_La_law_1298 (by decide) ?_
          refine j_forget (L' := [some (.ref a0), some (.ref a1), some (.ref a2), some (.ref a3), some (.int ((p4 + (7 : Int32)))), none, none]) ⟨Or.inr rfl, Or.inr rfl, Or.inr rfl, Or.inr rfl, Or.inr rfl, Or.inl rfl, Or.inl rfl, trivial⟩ ?_
          exact H
        · have H := Hb c20
          refine j_aload_n d_La_law_311 rfl ?_
          refine j_iconst (v := 0) d_La_law_312 (by decide) ?_
          obtain ⟨t15, H⟩ := H
          obtain ⟨x16, H⟩ := H
          refine j_lald (n := 0) t15 x16 d_La_law_313 ?_
          refine j_iload d_La_law_314 rfl ?_
          refine j_i2l d_La_law_316 ?_
          refine j_lcmp d_La_law_317 ?_
          obtain ⟨Ha, Hb⟩ := H
          refine j_if_eq (tgt := 323) d_La_law_318 (by decide) (fun c17 => ?_) (fun c18 => ?_)
          · have H := Ha c17
            refine j_goto (tgt := 1295) d_La_law_323 (by decide) ?_
            refine j_iinc (v := (p4 + (7 : Int32))) (L' := [some (.ref a0), some (.ref a1), some (.ref a2), some (.ref a3), some (.int ((p4 + (7 : Int32)))), some (.int s0), some (.int ((0 : Int32)))]) d_La_law_1295 rfl (by rw [show Int32.ofInt (7) = (7 : Int32) by decide]) (by decide) rfl ?_
            refine j_goto (tgt := 23) d_La_law_1298 (by decide) ?_
            refine j_forget (L' := [some (.ref a0), some (.ref a1), some (.ref a2), some (.ref a3), some (.int ((p4 + (7 : Int32)))), none, none]) ⟨Or.inr rfl, Or.inr rfl, Or.inr rfl, Or.inr rfl, Or.inr rfl, Or.inl rfl, Or.inl rfl, trivial⟩ ?_
            exact H
          · have H := Hb c18
            refine j_iconst (v := 0) d_La_law_321 (by decide) ?_
            exact j_zret rfl (by decide) d_La_law_322 H
      · have H := Hb c22
        refine j_iconst (v := 0) d_La_law_304 (by decide) ?_
        exact j_zret rfl (by decide) d_La_law_305 H
    · have H := Hb c68
      refine j_iconst (v := 1) d_Mo_isIn_10 (by decide) ?_
      refine j_goto (tgt := 15) d_Mo_isIn_11 (by decide) ?_
      refine j_zret rfl (by decide) d_Mo_isIn_15 ?_
      show J E 2 m_Mo_isSource 6 [some (.int ((gA G a0 n3)))] [.int ((1 : Int32))] G (aft E 3 m_Mo_slack 2 [some (.ref a2), some (.int ((gA G a0 n3))), some (.int ((gA G a0 n5))), none] [.ref a2] (aft E 14 m_La_law 290 [some (.ref a0), some (.ref a1), some (.ref a2), some (.ref a3), some (.int p4), some (.int s0), none] [] Post))
      refine j_zret rfl (by decide) d_Mo_isSource_6 ?_
      show J E 3 m_Mo_slack 5 [some (.ref a2), some (.int ((gA G a0 n3))), some (.int ((gA G a0 n5))), none] [.int ((1 : Int32)), .ref a2] G (aft E 14 m_La_law 290 [some (.ref a0), some (.ref a1), some (.ref a2), some (.ref a3), some (.int p4), some (.int s0), none] [] Post)
      refine j_if_ne (tgt := 12) d_Mo_slack_5 (by decide) (fun _ => ?_) (fun c => absurd c (by decide))
      refine j_iload_n d_Mo_slack_12 rfl ?_
      refine j_iconst (v := 0) d_Mo_slack_13 (by decide) ?_
      refine j_sipush (v := 200) d_Mo_slack_14 (by decide) ?_
      refine j_callS (d' := 1) (As := [.int ((gA G a0 n5)), .int ((0 : Int32)), .int ((200 : Int32))]) (rest := [.ref a2]) cs_Mo_142 me_Mo_isIn rfl (by decide) rfl rfl (Nat.le_of_ble_eq_true rfl) d_Mo_slack_17 (by decide) rfl (j_enter (L := [some (.int ((gA G a0 n5))), some (.int ((0 : Int32))), some (.int ((200 : Int32)))]) me_Mo_isIn (cat_c rfl (cat_c rfl (cat_c rfl cat_n))) (Nat.le_of_ble_eq_true rfl) rfl ?_)
      refine j_iload_n d_Mo_isIn_0 rfl ?_
      refine j_iload_n d_Mo_isIn_1 rfl ?_
      obtain ⟨Ha, Hb⟩ := H
      refine j_icmp_lt (tgt := 14) d_Mo_isIn_2 (by decide) (fun c65 => ?_) (fun c66 => ?_)
      · have H := Ha c65
        refine j_iconst (v := 0) d_Mo_isIn_14 (by decide) ?_
        refine j_zret rfl (by decide) d_Mo_isIn_15 ?_
        show J E 3 m_Mo_slack 20 [some (.ref a2), some (.int ((gA G a0 n3))), some (.int ((gA G a0 n5))), none] [.int ((0 : Int32)), .ref a2] G (aft E 14 m_La_law 290 [some (.ref a0), some (.ref a1), some (.ref a2), some (.ref a3), some (.int p4), some (.int s0), none] [] Post)
        refine j_if_ne (tgt := 27) d_Mo_slack_20 (by decide) (fun c => absurd c (by decide)) (fun _ => ?_)
        refine j_iconst (v := 2) d_Mo_slack_23 (by decide) ?_
        refine j_goto (tgt := 39) d_Mo_slack_24 (by decide) ?_
        refine j_callV (d' := 1) (ci := 10) (As := [.int ((2 : Int32))]) (rest := []) (b := a2) cv_Mo_149 me_Mo_isFine rfl (by decide) rfl rfl t6 rfl rfl (Nat.le_of_ble_eq_true rfl) d_Mo_slack_39 (by decide) rfl (j_enter (L := [some (.ref a2), some (.int ((2 : Int32)))]) me_Mo_isFine (cat_c rfl (cat_c rfl cat_n)) (Nat.le_of_ble_eq_true rfl) rfl ?_)
        refine j_aload_n d_Mo_isFine_0 rfl ?_
        refine j_iload_n d_Mo_isFine_1 rfl ?_
        refine j_putI (f := 640) fw_Mo_139 rfl rfl t6 d_Mo_isFine_2 ?_
        refine j_iload_n d_Mo_isFine_5 rfl ?_
        refine j_if_ne (tgt := 13) d_Mo_isFine_6 (by decide) (fun _ => ?_) (fun c => absurd c (by decide))
        refine j_iconst (v := 0) d_Mo_isFine_13 (by decide) ?_
        refine j_zret rfl (by decide) d_Mo_isFine_14 ?_
        show J E 3 m_Mo_slack 42 [some (.ref a2), some (.int ((gA G a0 n3))), some (.int ((gA G a0 n5))), none] [.int ((0 : Int32))] (sI G 640 a2 ((2 : Int32))) (aft E 14 m_La_law 290 [some (.ref a0), some (.ref a1), some (.ref a2), some (.ref a3), some (.int p4), some (.int s0), none] [] Post)
        refine j_if_ne (tgt := 47) d_Mo_slack_42 (by decide) (fun c => absurd c (by decide)) (fun _ => ?_)
        refine j_iconst (v := 0) d_Mo_slack_45 (by decide) ?_
        refine j_iret rfl d_Mo_slack_46 ?_
        show J E 14 m_La_law 293 [some (.ref a0), some (.ref a1), some (.ref a2), some (.ref a3), some (.int p4), some (.int s0), none] [.int ((0 : Int32))] (sI G 640 a2 ((2 : Int32))) Post
        refine j_istore (L' := [some (.ref a0), some (.ref a1), some (.ref a2), some (.ref a3), some (.int p4), some (.int s0), some (.int ((0 : Int32)))]) d_La_law_293 (by decide) rfl ?_
        refine j_aload_n d_La_law_295 rfl ?_
        refine j_callV (d' := 1) (ci := 10) (As := []) (rest := []) (b := a2) cv_La_80 me_Mo_thrown rfl (by decide) rfl rfl t6 rfl rfl (Nat.le_of_ble_eq_true rfl) d_La_law_296 (by decide) rfl (j_enter (L := [some (.ref a2)]) me_Mo_thrown (cat_c rfl cat_n) (Nat.le_of_ble_eq_true rfl) rfl ?_)
        refine j_aload_n d_Mo_thrown_0 rfl ?_
        refine j_getIv (f := 640) (v := ((2 : Int32))) fe_Mo_139 rfl rfl t6 (show gI (sI G 640 a2 ((2 : Int32))) 640 a2 = _ from gI_sI_eq) d_Mo_thrown_1 ?_
        refine j_iret rfl d_Mo_thrown_4 ?_
        show J E 14 m_La_law 299 [some (.ref a0), some (.ref a1), some (.ref a2), some (.ref a3), some (.int p4), some (.int s0), some (.int ((0 : Int32)))] [.int (((2 : Int32)))] (sI G 640 a2 ((2 : Int32))) Post
        refine j_iload d_La_law_299 rfl ?_
        obtain ⟨Ha, Hb⟩ := H
        refine j_icmp_eq (tgt := 306) d_La_law_301 (by decide) (fun c29 => ?_) (fun c30 => ?_)
        · have H := Ha c29
          refine j_iload d_La_law_306 rfl ?_
          obtain ⟨Ha, Hb⟩ := H
          refine j_if_ne (tgt := 323) d_La_law_308 (by decide) (fun c27 => ?_) (fun c28 => ?_)
          · have H := Ha c27
            refine j_goto (tgt := 1295) d_La_law_323 (by decide) ?_
            refine j_iinc (v := (p4 + (7 : Int32))) (L' := [some (.ref a0), some (.ref a1), some (.ref a2), some (.ref a3), some (.int ((p4 + (7 : Int32)))), some (.int s0), some (.int ((0 : Int32)))]) d_La_law_1295 rfl (by rw [show Int32.ofInt (7) = (7 : Int32) by decide]) (by decide) rfl ?_
            refine j_goto (tgt := 23) d_La_law_1298 (by decide) ?_
            refine j_forget (L' := [some (.ref a0), some (.ref a1), some (.ref a2), some (.ref a3), some (.int ((p4 + (7 : Int32)))), none, none]) ⟨Or.inr rfl, Or.inr rfl, Or.inr rfl, Or.inr rfl, Or.inr rfl, Or.inl rfl, Or.inl rfl, trivial⟩ ?_
            exact H
          · have H := Hb c28
            refine j_aload_n d_La_law_311 rfl ?_
            refine j_iconst (v := 0) d_La_law_312 (by decide) ?_
            obtain ⟨t23, H⟩ := H
            obtain ⟨x24, H⟩ := H
            refine j_lald (n := 0) t23 x24 d_La_law_313 ?_
            refine j_iload d_La_law_314 rfl ?_
            refine j_i2l d_La_law_316 ?_
            refine j_lcmp d_La_law_317 ?_
            obtain ⟨Ha, Hb⟩ := H
            refine j_if_eq (tgt := 323) d_La_law_318 (by decide) (fun c25 => ?_) (fun c26 => ?_)
            · have H := Ha c25
              refine j_goto (tgt := 1295) d_La_law_323 (by decide) ?_
              refine j_iinc (v := (p4 + (7 : Int32))) (L' := [some (.ref a0), some (.ref a1), some (.ref a2), some (.ref a3), some (.int ((p4 + (7 : Int32)))), some (.int s0), some (.int ((0 : Int32)))]) d_La_law_1295 rfl (by rw [show Int32.ofInt (7) = (7 : Int32) by decide]) (by decide) rfl ?_
              refine j_goto (tgt := 23) d_La_law_1298 (by decide) ?_
              refine j_forget (L' := [some (.ref a0), some (.ref a1), some (.ref a2), some (.ref a3), some (.int ((p4 + (7 : Int32)))), none, none]) ⟨Or.inr rfl, Or.inr rfl, Or.inr rfl, Or.inr rfl, Or.inr rfl, Or.inl rfl, Or.inl rfl, trivial⟩ ?_
              exact H
            · have H := Hb c26
              refine j_iconst (v := 0) d_La_law_321 (by decide) ?_
              exact j_zret rfl (by decide) d_La_law_322 H
        · have H := Hb c30
          refine j_iconst (v := 0) d_La_law_304 (by decide) ?_
          exact j_zret rfl (by decide) d_La_law_305 H
      · have H := Hb c66
        refine j_iload_n d_Mo_isIn_5 rfl ?_
        refine j_iload_n d_Mo_isIn_6 rfl ?_
        obtain ⟨Ha, Hb⟩ := H
        refine j_icmp_gt (tgt := 14) d_Mo_isIn_7 (by decide) (fun c63 => ?_) (fun c64 => ?_)
        · have H := Ha c63
          refine j_iconst (v := 0) d_Mo_isIn_14 (by decide) ?_
          refine j_zret rfl (by decide) d_Mo_isIn_15 ?_
          show J E 3 m_Mo_slack 20 [some (.ref a2), some (.int ((gA G a0 n3))), some (.int ((gA G a0 n5))), none] [.int ((0 : Int32)), .ref a2] G (aft E 14 m_La_law 290 [some (.ref a0), some (.ref a1), some (.ref a2), some (.ref a3), some (.int p4), some (.int s0), none] [] Post)
          refine j_if_ne (tgt := 27) d_Mo_slack_20 (by decide) (fun c => absurd c (by decide)) (fun _ => ?_)
          refine j_iconst (v := 2) d_Mo_slack_23 (by decide) ?_
          refine j_goto (tgt := 39) d_Mo_slack_24 (by decide) ?_
          refine j_callV (d' := 1) (ci := 10) (As := [.int ((2 : Int32))]) (rest := []) (b := a2) cv_Mo_149 me_Mo_isFine rfl (by decide) rfl rfl t6 rfl rfl (Nat.le_of_ble_eq_true rfl) d_Mo_slack_39 (by decide) rfl (j_enter (L := [some (.ref a2), some (.int ((2 : Int32)))]) me_Mo_isFine (cat_c rfl (cat_c rfl cat_n)) (Nat.le_of_ble_eq_true rfl) rfl ?_)
          refine j_aload_n d_Mo_isFine_0 rfl ?_
          refine j_iload_n d_Mo_isFine_1 rfl ?_
          refine j_putI (f := 640) fw_Mo_139 rfl rfl t6 d_Mo_isFine_2 ?_
          refine j_iload_n d_Mo_isFine_5 rfl ?_
          refine j_if_ne (tgt := 13) d_Mo_isFine_6 (by decide) (fun _ => ?_) (fun c => absurd c (by decide))
          refine j_iconst (v := 0) d_Mo_isFine_13 (by decide) ?_
          refine j_zret rfl (by decide) d_Mo_isFine_14 ?_
          show J E 3 m_Mo_slack 42 [some (.ref a2), some (.int ((gA G a0 n3))), some (.int ((gA G a0 n5))), none] [.int ((0 : Int32))] (sI G 640 a2 ((2 : Int32))) (aft E 14 m_La_law 290 [some (.ref a0), some (.ref a1), some (.ref a2), some (.ref a3), some (.int p4), some (.int s0), none] [] Post)
          refine j_if_ne (tgt := 47) d_Mo_slack_42 (by decide) (fun c => absurd c (by decide)) (fun _ => ?_)
          refine j_iconst (v := 0) d_Mo_slack_45 (by decide) ?_
          refine j_iret rfl d_Mo_slack_46 ?_
          show J E 14 m_La_law 293 [some (.ref a0), some (.ref a1), some (.ref a2), some (.ref a3), some (.int p4), some (.int s0), none] [.int ((0 : Int32))] (sI G 640 a2 ((2 : Int32))) Post
          refine j_istore (L' := [some (.ref a0), some (.ref a1), some (.ref a2), some (.ref a3), some (.int p4), some (.int s0), some (.int ((0 : Int32)))]) d_La_law_293 (by decide) rfl ?_
          refine j_aload_n d_La_law_295 rfl ?_
          refine j_callV (d' := 1) (ci := 10) (As := []) (rest := []) (b := a2) cv_La_80 me_Mo_thrown rfl (by decide) rfl rfl t6 rfl rfl (Nat.le_of_ble_eq_true rfl) d_La_law_296 (by decide) rfl (j_enter (L := [some (.ref a2)]) me_Mo_thrown (cat_c rfl cat_n) (Nat.le_of_ble_eq_true rfl) rfl ?_)
          refine j_aload_n d_Mo_thrown_0 rfl ?_
          refine j_getIv (f := 640) (v := ((2 : Int32))) fe_Mo_139 rfl rfl t6 (show gI (sI G 640 a2 ((2 : Int32))) 640 a2 = _ from gI_sI_eq) d_Mo_thrown_1 ?_
          refine j_iret rfl d_Mo_thrown_4 ?_
          show J E 14 m_La_law 299 [some (.ref a0), some (.ref a1), some (.ref a2), some (.ref a3), some (.int p4), some (.int s0), some (.int ((0 : Int32)))] [.int (((2 : Int32)))] (sI G 640 a2 ((2 : Int32))) Post
          refine j_iload d_La_law_299 rfl ?_
          obtain ⟨Ha, Hb⟩ := H
          refine j_icmp_eq (tgt := 306) d_La_law_301 (by decide) (fun c37 => ?_) (fun c38 => ?_)
          · have H := Ha c37
            refine j_iload d_La_law_306 rfl ?_
            obtain ⟨Ha, Hb⟩ := H
            refine j_if_ne (tgt := 323) d_La_law_308 (by decide) (fun c35 => ?_) (fun c36 => ?_)
            · have H := Ha c35
              refine j_goto (tgt := 1295) d_La_law_323 (by decide) ?_
              refine j_iinc (v := (p4 + (7 : Int32))) (L' := [some (.ref a0), some (.ref a1), some (.ref a2), some (.ref a3), some (.int ((p4 + (7 : Int32)))), some (.int s0), some (.int ((0 : Int32)))]) d_La_law_1295 rfl (by rw [show Int32.ofInt (7) = (7 : Int32) by decide]) (by decide) rfl ?_
              refine j_goto (tgt := 23) d_La_law_1298 (by decide) ?_
              refine j_forget (L' := [some (.ref a0), some (.ref a1), some (.ref a2), some (.ref a3), some (.int ((p4 + (7 : Int32)))), none, none]) ⟨Or.inr rfl, Or.inr rfl, Or.inr rfl, Or.inr rfl, Or.inr rfl, Or.inl rfl, Or.inl rfl, trivial⟩ ?_
              exact H
            · have H := Hb c36
              refine j_aload_n d_La_law_311 rfl ?_
              refine j_iconst (v := 0) d_La_law_312 (by decide) ?_
              obtain ⟨t31, H⟩ := H
              obtain ⟨x32, H⟩ := H
              refine j_lald (n := 0) t31 x32 d_La_law_313 ?_
              refine j_iload d_La_law_314 rfl ?_
              refine j_i2l d_La_law_316 ?_
              refine j_lcmp d_La_law_317 ?_
              obtain ⟨Ha, Hb⟩ := H
              refine j_if_eq (tgt := 323) d_La_law_318 (by decide) (fun c33 => ?_) (fun c34 => ?_)
              · have H := Ha c33
                refine j_goto (tgt := 1295) d_La_law_323 (by decide) ?_
                refine j_iinc (v := (p4 + (7 : Int32))) (L' := [some (.ref a0), some (.ref a1), some (.ref a2), some (.ref a3), some (.int ((p4 + (7 : Int32)))), some (.int s0), some (.int ((0 : Int32)))]) d_La_law_1295 rfl (by rw [show Int32.ofInt (7) = (7 : Int32) by decide]) (by decide) rfl ?_
                refine j_goto (tgt := 23) d_La_law_1298 (by decide) ?_
                refine j_forget (L' := [some (.ref a0), some (.ref a1), some (.ref a2), some (.ref a3), some (.int ((p4 + (7 : Int32)))), none, none]) ⟨Or.inr rfl, Or.inr rfl, Or.inr rfl, Or.inr rfl, Or.inr rfl, Or.inl rfl, Or.inl rfl, trivial⟩ ?_
                exact H
              · have H := Hb c34
                refine j_iconst (v := 0) d_La_law_321 (by decide) ?_
                exact j_zret rfl (by decide) d_La_law_322 H
          · have H := Hb c38
            refine j_iconst (v := 0) d_La_law_304 (by decide) ?_
            exact j_zret rfl (by decide) d_La_law_305 H
        · have H := Hb c64
          refine j_iconst (v := 1) d_Mo_isIn_10 (by decide) ?_
          refine j_goto (tgt := 15) d_Mo_isIn_11 (by decide) ?_
          refine j_zret rfl (by decide) d_Mo_isIn_15 ?_
          show J E 3 m_Mo_slack 20 [some (.ref a2), some (.int ((gA G a0 n3))), some (.int ((gA G a0 n5))), none] [.int ((1 : Int32)), .ref a2] G (aft E 14 m_La_law 290 [some (.ref a0), some (.ref a1), some (.ref a2), some (.ref a3), some (.int p4), some (.int s0), none] [] Post)
          refine j_if_ne (tgt := 27) d_Mo_slack_20 (by decide) (fun _ => ?_) (fun c => absurd c (by decide))
          refine j_aload_n d_Mo_slack_27 rfl ?_
          refine j_getI (f := 648) fe_Mo_146 rfl rfl t6 d_Mo_slack_28 ?_
          obtain ⟨Ha, Hb⟩ := H
          refine j_if_eq (tgt := 38) d_Mo_slack_31 (by decide) (fun c61 => ?_) (fun c62 => ?_)
          · have H := Ha c61
            refine j_iconst (v := 0) d_Mo_slack_38 (by decide) ?_
            refine j_callV (d' := 1) (ci := 10) (As := [.int ((0 : Int32))]) (rest := []) (b := a2) cv_Mo_149 me_Mo_isFine rfl (by decide) rfl rfl t6 rfl rfl (Nat.le_of_ble_eq_true rfl) d_Mo_slack_39 (by decide) rfl (j_enter (L := [some (.ref a2), some (.int ((0 : Int32)))]) me_Mo_isFine (cat_c rfl (cat_c rfl cat_n)) (Nat.le_of_ble_eq_true rfl) rfl ?_)
            refine j_aload_n d_Mo_isFine_0 rfl ?_
            refine j_iload_n d_Mo_isFine_1 rfl ?_
            refine j_putI (f := 640) fw_Mo_139 rfl rfl t6 d_Mo_isFine_2 ?_
            refine j_iload_n d_Mo_isFine_5 rfl ?_
            refine j_if_ne (tgt := 13) d_Mo_isFine_6 (by decide) (fun c => absurd c (by decide)) (fun _ => ?_)
            refine j_iconst (v := 1) d_Mo_isFine_9 (by decide) ?_
            refine j_goto (tgt := 14) d_Mo_isFine_10 (by decide) ?_
            refine j_zret rfl (by decide) d_Mo_isFine_14 ?_
            show J E 3 m_Mo_slack 42 [some (.ref a2), some (.int ((gA G a0 n3))), some (.int ((gA G a0 n5))), none] [.int ((1 : Int32))] (sI G 640 a2 ((0 : Int32))) (aft E 14 m_La_law 290 [some (.ref a0), some (.ref a1), some (.ref a2), some (.ref a3), some (.int p4), some (.int s0), none] [] Post)
            refine j_if_ne (tgt := 47) d_Mo_slack_42 (by decide) (fun _ => ?_) (fun c => absurd c (by decide))
            refine j_aload_n d_Mo_slack_47 rfl ?_
            obtain ⟨b39, e40, H⟩ := H
            refine j_getR (f := 655) (b := b39) fe_Mo_48 rfl rfl t6 e40 d_Mo_slack_48 ?_
            refine j_iload_n d_Mo_slack_51 rfl ?_
            obtain ⟨t41, H⟩ := H
            obtain ⟨n43, x42, H⟩ := H
            refine j_iald (n := n43) t41 x42 d_Mo_slack_52 ?_
            refine j_istore_n (L' := [some (.ref a2), some (.int ((gA G a0 n3))), some (.int ((gA G a0 n5))), some (.int ((gA (sI G 640 a2 ((0 : Int32))) b39 n43)))]) d_Mo_slack_53 (by decide) rfl ?_
            refine j_aload_n d_Mo_slack_54 rfl ?_
            refine j_getR (f := 655) (b := b39) fe_Mo_48 rfl rfl t6 e40 d_Mo_slack_55 ?_
            refine j_iload_n d_Mo_slack_58 rfl ?_
            refine j_iload_n d_Mo_slack_59 rfl ?_
            obtain ⟨t44, H⟩ := H
            refine j_iast (n := n43) t44 x42 d_Mo_slack_60 ?_
            refine j_iload_n d_Mo_slack_61 rfl ?_
            refine j_iret rfl d_Mo_slack_62 ?_
            show J E 14 m_La_law 293 [some (.ref a0), some (.ref a1), some (.ref a2), some (.ref a3), some (.int p4), some (.int s0), none] [.int ((gA (sI G 640 a2 ((0 : Int32))) b39 n43))] (sA (sI G 640 a2 ((0 : Int32))) b39 n43 ((gA G a0 n5))) Post
            refine j_istore (L' := [some (.ref a0), some (.ref a1), some (.ref a2), some (.ref a3), some (.int p4), some (.int s0), some (.int ((gA (sI G 640 a2 ((0 : Int32))) b39 n43)))]) d_La_law_293 (by decide) rfl ?_
            refine j_aload_n d_La_law_295 rfl ?_
            refine j_callV (d' := 1) (ci := 10) (As := []) (rest := []) (b := a2) cv_La_80 me_Mo_thrown rfl (by decide) rfl rfl t6 rfl rfl (Nat.le_of_ble_eq_true rfl) d_La_law_296 (by decide) rfl (j_enter (L := [some (.ref a2)]) me_Mo_thrown (cat_c rfl cat_n) (Nat.le_of_ble_eq_true rfl) rfl ?_)
            refine j_aload_n d_Mo_thrown_0 rfl ?_
            refine j_getIv (f := 640) (v := ((0 : Int32))) fe_Mo_139 rfl rfl t6 (show gI (sI G 640 a2 ((0 : Int32))) 640 a2 = _ from gI_sI_eq) d_Mo_thrown_1 ?_
            refine j_iret rfl d_Mo_thrown_4 ?_
            show J E 14 m_La_law 299 [some (.ref a0), some (.ref a1), some (.ref a2), some (.ref a3), some (.int p4), some (.int s0), some (.int ((gA (sI G 640 a2 ((0 : Int32))) b39 n43)))] [.int (((0 : Int32)))] (sA (sI G 640 a2 ((0 : Int32))) b39 n43 ((gA G a0 n5))) Post
            refine j_iload d_La_law_299 rfl ?_
            obtain ⟨Ha, Hb⟩ := H
            refine j_icmp_eq (tgt := 306) d_La_law_301 (by decide) (fun c51 => ?_) (fun c52 => ?_)
            · have H := Ha c51
              refine j_iload d_La_law_306 rfl ?_
              obtain ⟨Ha, Hb⟩ := H
              refine j_if_ne (tgt := 323) d_La_law_308 (by decide) (fun c49 => ?_) (fun c50 => ?_)
              · have H := Ha c49
                refine j_goto (tgt := 1295) d_La_law_323 (by decide) ?_
                refine j_iinc (v := (p4 + (7 : Int32))) (L' := [some (.ref a0), some (.ref a1), some (.ref a2), some (.ref a3), some (.int ((p4 + (7 : Int32)))), some (.int s0), some (.int ((gA (sI G 640 a2 ((0 : Int32))) b39 n43)))]) d_La_law_1295 rfl (by rw [show Int32.ofInt (7) = (7 : Int32) by decide]) (by decide) rfl ?_
                refine j_goto (tgt := 23) d_La_law_1298 (by decide) ?_
                refine j_forget (L' := [some (.ref a0), some (.ref a1), some (.ref a2), some (.ref a3), some (.int ((p4 + (7 : Int32)))), none, none]) ⟨Or.inr rfl, Or.inr rfl, Or.inr rfl, Or.inr rfl, Or.inr rfl, Or.inl rfl, Or.inl rfl, trivial⟩ ?_
                exact H
              · have H := Hb c50
                refine j_aload_n d_La_law_311 rfl ?_
                refine j_iconst (v := 0) d_La_law_312 (by decide) ?_
                obtain ⟨t45, H⟩ := H
                obtain ⟨x46, H⟩ := H
                refine j_lald (n := 0) t45 x46 d_La_law_313 ?_
                refine j_iload d_La_law_314 rfl ?_
                refine j_i2l d_La_law_316 ?_
                refine j_lcmp d_La_law_317 ?_
                obtain ⟨Ha, Hb⟩ := H
                refine j_if_eq (tgt := 323) d_La_law_318 (by decide) (fun c47 => ?_) (fun c48 => ?_)
                · have H := Ha c47
                  refine j_goto (tgt := 1295) d_La_law_323 (by decide) ?_
                  refine j_iinc (v := (p4 + (7 : Int32))) (L' := [some (.ref a0), some (.ref a1), some (.ref a2), some (.ref a3), some (.int ((p4 + (7 : Int32)))), some (.int s0), some (.int ((gA (sI G 640 a2 ((0 : Int32))) b39 n43)))]) d_La_law_1295 rfl (by rw [show Int32.ofInt (7) = (7 : Int32) by decide]) (by decide) rfl ?_
                  refine j_goto (tgt := 23) d_La_law_1298 (by decide) ?_
                  refine j_forget (L' := [some (.ref a0), some (.ref a1), some (.ref a2), some (.ref a3), some (.int ((p4 + (7 : Int32)))), none, none]) ⟨Or.inr rfl, Or.inr rfl, Or.inr rfl, Or.inr rfl, Or.inr rfl, Or.inl rfl, Or.inl rfl, trivial⟩ ?_
                  exact H
                · have H := Hb c48
                  refine j_iconst (v := 0) d_La_law_321 (by decide) ?_
                  exact j_zret rfl (by decide) d_La_law_322 H
            · have H := Hb c52
              refine j_iconst (v := 0) d_La_law_304 (by decide) ?_
              exact j_zret rfl (by decide) d_La_law_305 H
          · have H := Hb c62
            refine j_iconst (v := 3) d_Mo_slack_34 (by decide) ?_
            refine j_goto (tgt := 39) d_Mo_slack_35 (by decide) ?_
            refine j_callV (d' := 1) (ci := 10) (As := [.int ((3 : Int32))]) (rest := []) (b := a2) cv_Mo_149 me_Mo_isFine rfl (by decide) rfl rfl t6 rfl rfl (Nat.le_of_ble_eq_true rfl) d_Mo_slack_39 (by decide) rfl (j_enter (L := [some (.ref a2), some (.int ((3 : Int32)))]) me_Mo_isFine (cat_c rfl (cat_c rfl cat_n)) (Nat.le_of_ble_eq_true rfl) rfl ?_)
            refine j_aload_n d_Mo_isFine_0 rfl ?_
            refine j_iload_n d_Mo_isFine_1 rfl ?_
            refine j_putI (f := 640) fw_Mo_139 rfl rfl t6 d_Mo_isFine_2 ?_
            refine j_iload_n d_Mo_isFine_5 rfl ?_
            refine j_if_ne (tgt := 13) d_Mo_isFine_6 (by decide) (fun _ => ?_) (fun c => absurd c (by decide))
            refine j_iconst (v := 0) d_Mo_isFine_13 (by decide) ?_
            refine j_zret rfl (by decide) d_Mo_isFine_14 ?_
            show J E 3 m_Mo_slack 42 [some (.ref a2), some (.int ((gA G a0 n3))), some (.int ((gA G a0 n5))), none] [.int ((0 : Int32))] (sI G 640 a2 ((3 : Int32))) (aft E 14 m_La_law 290 [some (.ref a0), some (.ref a1), some (.ref a2), some (.ref a3), some (.int p4), some (.int s0), none] [] Post)
            refine j_if_ne (tgt := 47) d_Mo_slack_42 (by decide) (fun c => absurd c (by decide)) (fun _ => ?_)
            refine j_iconst (v := 0) d_Mo_slack_45 (by decide) ?_
            refine j_iret rfl d_Mo_slack_46 ?_
            show J E 14 m_La_law 293 [some (.ref a0), some (.ref a1), some (.ref a2), some (.ref a3), some (.int p4), some (.int s0), none] [.int ((0 : Int32))] (sI G 640 a2 ((3 : Int32))) Post
            refine j_istore (L' := [some (.ref a0), some (.ref a1), some (.ref a2), some (.ref a3), some (.int p4), some (.int s0), some (.int ((0 : Int32)))]) d_La_law_293 (by decide) rfl ?_
            refine j_aload_n d_La_law_295 rfl ?_
            refine j_callV (d' := 1) (ci := 10) (As := []) (rest := []) (b := a2) cv_La_80 me_Mo_thrown rfl (by decide) rfl rfl t6 rfl rfl (Nat.le_of_ble_eq_true rfl) d_La_law_296 (by decide) rfl (j_enter (L := [some (.ref a2)]) me_Mo_thrown (cat_c rfl cat_n) (Nat.le_of_ble_eq_true rfl) rfl ?_)
            refine j_aload_n d_Mo_thrown_0 rfl ?_
            refine j_getIv (f := 640) (v := ((3 : Int32))) fe_Mo_139 rfl rfl t6 (show gI (sI G 640 a2 ((3 : Int32))) 640 a2 = _ from gI_sI_eq) d_Mo_thrown_1 ?_
            refine j_iret rfl d_Mo_thrown_4 ?_
            show J E 14 m_La_law 299 [some (.ref a0), some (.ref a1), some (.ref a2), some (.ref a3), some (.int p4), some (.int s0), some (.int ((0 : Int32)))] [.int (((3 : Int32)))] (sI G 640 a2 ((3 : Int32))) Post
            refine j_iload d_La_law_299 rfl ?_
            obtain ⟨Ha, Hb⟩ := H
            refine j_icmp_eq (tgt := 306) d_La_law_301 (by decide) (fun c59 => ?_) (fun c60 => ?_)
            · have H := Ha c59
              refine j_iload d_La_law_306 rfl ?_
              obtain ⟨Ha, Hb⟩ := H
              refine j_if_ne (tgt := 323) d_La_law_308 (by decide) (fun c57 => ?_) (fun c58 => ?_)
              · have H := Ha c57
                refine j_goto (tgt := 1295) d_La_law_323 (by decide) ?_
                refine j_iinc (v := (p4 + (7 : Int32))) (L' := [some (.ref a0), some (.ref a1), some (.ref a2), some (.ref a3), some (.int ((p4 + (7 : Int32)))), some (.int s0), some (.int ((0 : Int32)))]) d_La_law_1295 rfl (by rw [show Int32.ofInt (7) = (7 : Int32) by decide]) (by decide) rfl ?_
                refine j_goto (tgt := 23) d_La_law_1298 (by decide) ?_
                refine j_forget (L' := [some (.ref a0), some (.ref a1), some (.ref a2), some (.ref a3), some (.int ((p4 + (7 : Int32)))), none, none]) ⟨Or.inr rfl, Or.inr rfl, Or.inr rfl, Or.inr rfl, Or.inr rfl, Or.inl rfl, Or.inl rfl, trivial⟩ ?_
                exact H
              · have H := Hb c58
                refine j_aload_n d_La_law_311 rfl ?_
                refine j_iconst (v := 0) d_La_law_312 (by decide) ?_
                obtain ⟨t53, H⟩ := H
                obtain ⟨x54, H⟩ := H
                refine j_lald (n := 0) t53 x54 d_La_law_313 ?_
                refine j_iload d_La_law_314 rfl ?_
                refine j_i2l d_La_law_316 ?_
                refine j_lcmp d_La_law_317 ?_
                obtain ⟨Ha, Hb⟩ := H
                refine j_if_eq (tgt := 323) d_La_law_318 (by decide) (fun c55 => ?_) (fun c56 => ?_)
                · have H := Ha c55
                  refine j_goto (tgt := 1295) d_La_law_323 (by decide) ?_
                  refine j_iinc (v := (p4 + (7 : Int32))) (L' := [some (.ref a0), some (.ref a1), some (.ref a2), some (.ref a3), some (.int ((p4 + (7 : Int32)))), some (.int s0), some (.int ((0 : Int32)))]) d_La_law_1295 rfl (by rw [show Int32.ofInt (7) = (7 : Int32) by decide]) (by decide) rfl ?_
                  refine j_goto (tgt := 23) d_La_law_1298 (by decide) ?_
                  refine j_forget (L' := [some (.ref a0), some (.ref a1), some (.ref a2), some (.ref a3), some (.int ((p4 + (7 : Int32)))), none, none]) ⟨Or.inr rfl, Or.inr rfl, Or.inr rfl, Or.inr rfl, Or.inr rfl, Or.inl rfl, Or.inl rfl, trivial⟩ ?_
                  exact H
                · have H := Hb c56
                  refine j_iconst (v := 0) d_La_law_321 (by decide) ?_
                  exact j_zret rfl (by decide) d_La_law_322 H
            · have H := Hb c60
              refine j_iconst (v := 0) d_La_law_304 (by decide) ?_
              exact j_zret rfl (by decide) d_La_law_305 H
theorem wp_La_law_355 {E : EV} {G : GH} {Post : Res → GH → Prop} (a0 : Nat) (a1 : Nat) (a2 : Nat) (a3 : Nat) (p4 : Int32) (s0 : Int32) (H : (gT G a0 = 20 ∨ gT G a0 = 25) ∧ ∃ n3, IX ((p4 + (1 : Int32))) n3 (gN G a0) ∧ ∃ n5, IX ((p4 + (2 : Int32))) n5 (gN G a0) ∧ ∃ n7, IX ((p4 + (3 : Int32))) n7 (gN G a0) ∧ ∃ n9, IX ((p4 + (4 : Int32))) n9 (gN G a0) ∧ gT G a2 = 11 ∧ ((gA G a0 n3) < (0 : Int32) → ((gA G a0 n5) < (0 : Int32) → (((1 : Int32)) = s0 → (¬ s0 = 0 → J E 14 m_La_law 23 [some (.ref a0), some (.ref a1), some (.ref a2), some (.ref a3), some (.int ((p4 + (7 : Int32)))), none, none] [] (sI G 640 a2 ((1 : Int32))) Post) ∧ (s0 = 0 → gT G a3 = 22 ∧ IX (0 : Int32) 0 (gN G a3) ∧ ((lg_cmp ((gL (sI G 640 a2 ((1 : Int32))) a3 0)) ((Int32.toInt64 ((0 : Int32))))) = 0 → J E 14 m_La_law 23 [some (.ref a0), some (.ref a1), some (.ref a2), some (.ref a3), some (.int ((p4 + (7 : Int32)))), none, none] [] (sI G 640 a2 ((1 : Int32))) Post) ∧ (¬ (lg_cmp ((gL (sI G 640 a2 ((1 : Int32))) a3 0)) ((Int32.toInt64 ((0 : Int32))))) = 0 → Post (.inl (some (.int ((0 : Int32))))) (sI G 640 a2 ((1 : Int32)))))) ∧ (¬ ((1 : Int32)) = s0 → Post (.inl (some (.int ((0 : Int32))))) (sI G 640 a2 ((1 : Int32))))) ∧ (¬ (gA G a0 n5) < (0 : Int32) → ((999 : Int32) < (gA G a0 n5) → (((1 : Int32)) = s0 → (¬ s0 = 0 → J E 14 m_La_law 23 [some (.ref a0), some (.ref a1), some (.ref a2), some (.ref a3), some (.int ((p4 + (7 : Int32)))), none, none] [] (sI G 640 a2 ((1 : Int32))) Post) ∧ (s0 = 0 → gT G a3 = 22 ∧ IX (0 : Int32) 0 (gN G a3) ∧ ((lg_cmp ((gL (sI G 640 a2 ((1 : Int32))) a3 0)) ((Int32.toInt64 ((0 : Int32))))) = 0 → J E 14 m_La_law 23 [some (.ref a0), some (.ref a1), some (.ref a2), some (.ref a3), some (.int ((p4 + (7 : Int32)))), none, none] [] (sI G 640 a2 ((1 : Int32))) Post) ∧ (¬ (lg_cmp ((gL (sI G 640 a2 ((1 : Int32))) a3 0)) ((Int32.toInt64 ((0 : Int32))))) = 0 → Post (.inl (some (.int ((0 : Int32))))) (sI G 640 a2 ((1 : Int32)))))) ∧ (¬ ((1 : Int32)) = s0 → Post (.inl (some (.int ((0 : Int32))))) (sI G 640 a2 ((1 : Int32))))) ∧ (¬ (999 : Int32) < (gA G a0 n5) → ((gA G a0 n7) < (0 : Int32) → (((1 : Int32)) = s0 → (¬ s0 = 0 → J E 14 m_La_law 23 [some (.ref a0), some (.ref a1), some (.ref a2), some (.ref a3), some (.int ((p4 + (7 : Int32)))), none, none] [] (sI G 640 a2 ((1 : Int32))) Post) ∧ (s0 = 0 → gT G a3 = 22 ∧ IX (0 : Int32) 0 (gN G a3) ∧ ((lg_cmp ((gL (sI G 640 a2 ((1 : Int32))) a3 0)) ((Int32.toInt64 ((0 : Int32))))) = 0 → J E 14 m_La_law 23 [some (.ref a0), some (.ref a1), some (.ref a2), some (.ref a3), some (.int ((p4 + (7 : Int32)))), none, none] [] (sI G 640 a2 ((1 : Int32))) Post) ∧ (¬ (lg_cmp ((gL (sI G 640 a2 ((1 : Int32))) a3 0)) ((Int32.toInt64 ((0 : Int32))))) = 0 → Post (.inl (some (.int ((0 : Int32))))) (sI G 640 a2 ((1 : Int32)))))) ∧ (¬ ((1 : Int32)) = s0 → Post (.inl (some (.int ((0 : Int32))))) (sI G 640 a2 ((1 : Int32))))) ∧ (¬ (gA G a0 n7) < (0 : Int32) → ((5 : Int32) < (gA G a0 n7) → (((1 : Int32)) = s0 → (¬ s0 = 0 → J E 14 m_La_law 23 [some (.ref a0), some (.ref a1), some (.ref a2), some (.ref a3), some (.int ((p4 + (7 : Int32)))), none, none] [] (sI G 640 a2 ((1 : Int32))) Post) ∧ (s0 = 0 → gT G a3 = 22 ∧ IX (0 : Int32) 0 (gN G a3) ∧ ((lg_cmp ((gL (sI G 640 a2 ((1 : Int32))) a3 0)) ((Int32.toInt64 ((0 : Int32))))) = 0 → J E 14 m_La_law 23 [some (.ref a0), some (.ref a1), some (.ref a2), some (.ref a3), some (.int ((p4 + (7 : Int32)))), none, none] [] (sI G 640 a2 ((1 : Int32))) Post) ∧ (¬ (lg_cmp ((gL (sI G 640 a2 ((1 : Int32))) a3 0)) ((Int32.toInt64 ((0 : Int32))))) = 0 → Post (.inl (some (.int ((0 : Int32))))) (sI G 640 a2 ((1 : Int32)))))) ∧ (¬ ((1 : Int32)) = s0 → Post (.inl (some (.int ((0 : Int32))))) (sI G 640 a2 ((1 : Int32))))) ∧ (¬ (5 : Int32) < (gA G a0 n7) → ((gA G a0 n9) < (-1000 : Int32) → (((1 : Int32)) = s0 → (¬ s0 = 0 → J E 14 m_La_law 23 [some (.ref a0), some (.ref a1), some (.ref a2), some (.ref a3), some (.int ((p4 + (7 : Int32)))), none, none] [] (sI G 640 a2 ((1 : Int32))) Post) ∧ (s0 = 0 → gT G a3 = 22 ∧ IX (0 : Int32) 0 (gN G a3) ∧ ((lg_cmp ((gL (sI G 640 a2 ((1 : Int32))) a3 0)) ((Int32.toInt64 ((0 : Int32))))) = 0 → J E 14 m_La_law 23 [some (.ref a0), some (.ref a1), some (.ref a2), some (.ref a3), some (.int ((p4 + (7 : Int32)))), none, none] [] (sI G 640 a2 ((1 : Int32))) Post) ∧ (¬ (lg_cmp ((gL (sI G 640 a2 ((1 : Int32))) a3 0)) ((Int32.toInt64 ((0 : Int32))))) = 0 → Post (.inl (some (.int ((0 : Int32))))) (sI G 640 a2 ((1 : Int32)))))) ∧ (¬ ((1 : Int32)) = s0 → Post (.inl (some (.int ((0 : Int32))))) (sI G 640 a2 ((1 : Int32))))) ∧ (¬ (gA G a0 n9) < (-1000 : Int32) → ((1000 : Int32) < (gA G a0 n9) → (((1 : Int32)) = s0 → (¬ s0 = 0 → J E 14 m_La_law 23 [some (.ref a0), some (.ref a1), some (.ref a2), some (.ref a3), some (.int ((p4 + (7 : Int32)))), none, none] [] (sI G 640 a2 ((1 : Int32))) Post) ∧ (s0 = 0 → gT G a3 = 22 ∧ IX (0 : Int32) 0 (gN G a3) ∧ ((lg_cmp ((gL (sI G 640 a2 ((1 : Int32))) a3 0)) ((Int32.toInt64 ((0 : Int32))))) = 0 → J E 14 m_La_law 23 [some (.ref a0), some (.ref a1), some (.ref a2), some (.ref a3), some (.int ((p4 + (7 : Int32)))), none, none] [] (sI G 640 a2 ((1 : Int32))) Post) ∧ (¬ (lg_cmp ((gL (sI G 640 a2 ((1 : Int32))) a3 0)) ((Int32.toInt64 ((0 : Int32))))) = 0 → Post (.inl (some (.int ((0 : Int32))))) (sI G 640 a2 ((1 : Int32)))))) ∧ (¬ ((1 : Int32)) = s0 → Post (.inl (some (.int ((0 : Int32))))) (sI G 640 a2 ((1 : Int32))))) ∧ (¬ (1000 : Int32) < (gA G a0 n9) → (((1 : Int32)) = s0 → (¬ s0 = 0 → J E 14 m_La_law 23 [some (.ref a0), some (.ref a1), some (.ref a2), some (.ref a3), some (.int ((p4 + (7 : Int32)))), none, none] [] (sI G 640 a2 ((1 : Int32))) Post) ∧ (s0 = 0 → gT G a3 = 22 ∧ IX (0 : Int32) 0 (gN G a3) ∧ ((lg_cmp ((gL (sI G 640 a2 ((1 : Int32))) a3 0)) ((Int32.toInt64 ((0 : Int32))))) = 0 → J E 14 m_La_law 23 [some (.ref a0), some (.ref a1), some (.ref a2), some (.ref a3), some (.int ((p4 + (7 : Int32)))), none, none] [] (sI G 640 a2 ((1 : Int32))) Post) ∧ (¬ (lg_cmp ((gL (sI G 640 a2 ((1 : Int32))) a3 0)) ((Int32.toInt64 ((0 : Int32))))) = 0 → Post (.inl (some (.int ((0 : Int32))))) (sI G 640 a2 ((1 : Int32)))))) ∧ (¬ ((1 : Int32)) = s0 → Post (.inl (some (.int ((0 : Int32))))) (sI G 640 a2 ((1 : Int32))))))))))) ∧ (¬ (gA G a0 n3) < (0 : Int32) → ((2 : Int32) < (gA G a0 n3) → ((gA G a0 n5) < (0 : Int32) → (((1 : Int32)) = s0 → (¬ s0 = 0 → J E 14 m_La_law 23 [some (.ref a0), some (.ref a1), some (.ref a2), some (.ref a3), some (.int ((p4 + (7 : Int32)))), none, none] [] (sI G 640 a2 ((1 : Int32))) Post) ∧ (s0 = 0 → gT G a3 = 22 ∧ IX (0 : Int32) 0 (gN G a3) ∧ ((lg_cmp ((gL (sI G 640 a2 ((1 : Int32))) a3 0)) ((Int32.toInt64 ((0 : Int32))))) = 0 → J E 14 m_La_law 23 [some (.ref a0), some (.ref a1), some (.ref a2), some (.ref a3), some (.int ((p4 + (7 : Int32)))), none, none] [] (sI G 640 a2 ((1 : Int32))) Post) ∧ (¬ (lg_cmp ((gL (sI G 640 a2 ((1 : Int32))) a3 0)) ((Int32.toInt64 ((0 : Int32))))) = 0 → Post (.inl (some (.int ((0 : Int32))))) (sI G 640 a2 ((1 : Int32)))))) ∧ (¬ ((1 : Int32)) = s0 → Post (.inl (some (.int ((0 : Int32))))) (sI G 640 a2 ((1 : Int32))))) ∧ (¬ (gA G a0 n5) < (0 : Int32) → ((999 : Int32) < (gA G a0 n5) → (((1 : Int32)) = s0 → (¬ s0 = 0 → J E 14 m_La_law 23 [some (.ref a0), some (.ref a1), some (.ref a2), some (.ref a3), some (.int ((p4 + (7 : Int32)))), none, none] [] (sI G 640 a2 ((1 : Int32))) Post) ∧ (s0 = 0 → gT G a3 = 22 ∧ IX (0 : Int32) 0 (gN G a3) ∧ ((lg_cmp ((gL (sI G 640 a2 ((1 : Int32))) a3 0)) ((Int32.toInt64 ((0 : Int32))))) = 0 → J E 14 m_La_law 23 [some (.ref a0), some (.ref a1), some (.ref a2), some (.ref a3), some (.int ((p4 + (7 : Int32)))), none, none] [] (sI G 640 a2 ((1 : Int32))) Post) ∧ (¬ (lg_cmp ((gL (sI G 640 a2 ((1 : Int32))) a3 0)) ((Int32.toInt64 ((0 : Int32))))) = 0 → Post (.inl (some (.int ((0 : Int32))))) (sI G 640 a2 ((1 : Int32)))))) ∧ (¬ ((1 : Int32)) = s0 → Post (.inl (some (.int ((0 : Int32))))) (sI G 640 a2 ((1 : Int32))))) ∧ (¬ (999 : Int32) < (gA G a0 n5) → ((gA G a0 n7) < (0 : Int32) → (((1 : Int32)) = s0 → (¬ s0 = 0 → J E 14 m_La_law 23 [some (.ref a0), some (.ref a1), some (.ref a2), some (.ref a3), some (.int ((p4 + (7 : Int32)))), none, none] [] (sI G 640 a2 ((1 : Int32))) Post) ∧ (s0 = 0 → gT G a3 = 22 ∧ IX (0 : Int32) 0 (gN G a3) ∧ ((lg_cmp ((gL (sI G 640 a2 ((1 : Int32))) a3 0)) ((Int32.toInt64 ((0 : Int32))))) = 0 → J E 14 m_La_law 23 [some (.ref a0), some (.ref a1), some (.ref a2), some (.ref a3), some (.int ((p4 + (7 : Int32)))), none, none] [] (sI G 640 a2 ((1 : Int32))) Post) ∧ (¬ (lg_cmp ((gL (sI G 640 a2 ((1 : Int32))) a3 0)) ((Int32.toInt64 ((0 : Int32))))) = 0 → Post (.inl (some (.int ((0 : Int32))))) (sI G 640 a2 ((1 : Int32)))))) ∧ (¬ ((1 : Int32)) = s0 → Post (.inl (some (.int ((0 : Int32))))) (sI G 640 a2 ((1 : Int32))))) ∧ (¬ (gA G a0 n7) < (0 : Int32) → ((5 : Int32) < (gA G a0 n7) → (((1 : Int32)) = s0 → (¬ s0 = 0 → J E 14 m_La_law 23 [some (.ref a0), some (.ref a1), some (.ref a2), some (.ref a3), some (.int ((p4 + (7 : Int32)))), none, none] [] (sI G 640 a2 ((1 : Int32))) Post) ∧ (s0 = 0 → gT G a3 = 22 ∧ IX (0 : Int32) 0 (gN G a3) ∧ ((lg_cmp ((gL (sI G 640 a2 ((1 : Int32))) a3 0)) ((Int32.toInt64 ((0 : Int32))))) = 0 → J E 14 m_La_law 23 [some (.ref a0), some (.ref a1), some (.ref a2), some (.ref a3), some (.int ((p4 + (7 : Int32)))), none, none] [] (sI G 640 a2 ((1 : Int32))) Post) ∧ (¬ (lg_cmp ((gL (sI G 640 a2 ((1 : Int32))) a3 0)) ((Int32.toInt64 ((0 : Int32))))) = 0 → Post (.inl (some (.int ((0 : Int32))))) (sI G 640 a2 ((1 : Int32)))))) ∧ (¬ ((1 : Int32)) = s0 → Post (.inl (some (.int ((0 : Int32))))) (sI G 640 a2 ((1 : Int32))))) ∧ (¬ (5 : Int32) < (gA G a0 n7) → ((gA G a0 n9) < (-1000 : Int32) → (((1 : Int32)) = s0 → (¬ s0 = 0 → J E 14 m_La_law 23 [some (.ref a0), some (.ref a1), some (.ref a2), some (.ref a3), some (.int ((p4 + (7 : Int32)))), none, none] [] (sI G 640 a2 ((1 : Int32))) Post) ∧ (s0 = 0 → gT G a3 = 22 ∧ IX (0 : Int32) 0 (gN G a3) ∧ ((lg_cmp ((gL (sI G 640 a2 ((1 : Int32))) a3 0)) ((Int32.toInt64 ((0 : Int32))))) = 0 → J E 14 m_La_law 23 [some (.ref a0), some (.ref a1), some (.ref a2), some (.ref a3), some (.int ((p4 + (7 : Int32)))), none, none] [] (sI G 640 a2 ((1 : Int32))) Post) ∧ (¬ (lg_cmp ((gL (sI G 640 a2 ((1 : Int32))) a3 0)) ((Int32.toInt64 ((0 : Int32))))) = 0 → Post (.inl (some (.int ((0 : Int32))))) (sI G 640 a2 ((1 : Int32)))))) ∧ (¬ ((1 : Int32)) = s0 → Post (.inl (some (.int ((0 : Int32))))) (sI G 640 a2 ((1 : Int32))))) ∧ (¬ (gA G a0 n9) < (-1000 : Int32) → ((1000 : Int32) < (gA G a0 n9) → (((1 : Int32)) = s0 → (¬ s0 = 0 → J E 14 m_La_law 23 [some (.ref a0), some (.ref a1), some (.ref a2), some (.ref a3), some (.int ((p4 + (7 : Int32)))), none, none] [] (sI G 640 a2 ((1 : Int32))) Post) ∧ (s0 = 0 → gT G a3 = 22 ∧ IX (0 : Int32) 0 (gN G a3) ∧ ((lg_cmp ((gL (sI G 640 a2 ((1 : Int32))) a3 0)) ((Int32.toInt64 ((0 : Int32))))) = 0 → J E 14 m_La_law 23 [some (.ref a0), some (.ref a1), some (.ref a2), some (.ref a3), some (.int ((p4 + (7 : Int32)))), none, none] [] (sI G 640 a2 ((1 : Int32))) Post) ∧ (¬ (lg_cmp ((gL (sI G 640 a2 ((1 : Int32))) a3 0)) ((Int32.toInt64 ((0 : Int32))))) = 0 → Post (.inl (some (.int ((0 : Int32))))) (sI G 640 a2 ((1 : Int32)))))) ∧ (¬ ((1 : Int32)) = s0 → Post (.inl (some (.int ((0 : Int32))))) (sI G 640 a2 ((1 : Int32))))) ∧ (¬ (1000 : Int32) < (gA G a0 n9) → (((1 : Int32)) = s0 → (¬ s0 = 0 → J E 14 m_La_law 23 [some (.ref a0), some (.ref a1), some (.ref a2), some (.ref a3), some (.int ((p4 + (7 : Int32)))), none, none] [] (sI G 640 a2 ((1 : Int32))) Post) ∧ (s0 = 0 → gT G a3 = 22 ∧ IX (0 : Int32) 0 (gN G a3) ∧ ((lg_cmp ((gL (sI G 640 a2 ((1 : Int32))) a3 0)) ((Int32.toInt64 ((0 : Int32))))) = 0 → J E 14 m_La_law 23 [some (.ref a0), some (.ref a1), some (.ref a2), some (.ref a3), some (.int ((p4 + (7 : Int32)))), none, none] [] (sI G 640 a2 ((1 : Int32))) Post) ∧ (¬ (lg_cmp ((gL (sI G 640 a2 ((1 : Int32))) a3 0)) ((Int32.toInt64 ((0 : Int32))))) = 0 → Post (.inl (some (.int ((0 : Int32))))) (sI G 640 a2 ((1 : Int32)))))) ∧ (¬ ((1 : Int32)) = s0 → Post (.inl (some (.int ((0 : Int32))))) (sI G 640 a2 ((1 : Int32))))))))))) ∧ (¬ (2 : Int32) < (gA G a0 n3) → ((gA G a0 n5) < (0 : Int32) → (((2 : Int32)) = s0 → (¬ s0 = 0 → J E 14 m_La_law 23 [some (.ref a0), some (.ref a1), some (.ref a2), some (.ref a3), some (.int ((p4 + (7 : Int32)))), none, none] [] (sI G 640 a2 ((2 : Int32))) Post) ∧ (s0 = 0 → gT G a3 = 22 ∧ IX (0 : Int32) 0 (gN G a3) ∧ ((lg_cmp ((gL (sI G 640 a2 ((2 : Int32))) a3 0)) ((Int32.toInt64 ((0 : Int32))))) = 0 → J E 14 m_La_law 23 [some (.ref a0), some (.ref a1), some (.ref a2), some (.ref a3), some (.int ((p4 + (7 : Int32)))), none, none] [] (sI G 640 a2 ((2 : Int32))) Post) ∧ (¬ (lg_cmp ((gL (sI G 640 a2 ((2 : Int32))) a3 0)) ((Int32.toInt64 ((0 : Int32))))) = 0 → Post (.inl (some (.int ((0 : Int32))))) (sI G 640 a2 ((2 : Int32)))))) ∧ (¬ ((2 : Int32)) = s0 → Post (.inl (some (.int ((0 : Int32))))) (sI G 640 a2 ((2 : Int32))))) ∧ (¬ (gA G a0 n5) < (0 : Int32) → ((999 : Int32) < (gA G a0 n5) → (((2 : Int32)) = s0 → (¬ s0 = 0 → J E 14 m_La_law 23 [some (.ref a0), some (.ref a1), some (.ref a2), some (.ref a3), some (.int ((p4 + (7 : Int32)))), none, none] [] (sI G 640 a2 ((2 : Int32))) Post) ∧ (s0 = 0 → gT G a3 = 22 ∧ IX (0 : Int32) 0 (gN G a3) ∧ ((lg_cmp ((gL (sI G 640 a2 ((2 : Int32))) a3 0)) ((Int32.toInt64 ((0 : Int32))))) = 0 → J E 14 m_La_law 23 [some (.ref a0), some (.ref a1), some (.ref a2), some (.ref a3), some (.int ((p4 + (7 : Int32)))), none, none] [] (sI G 640 a2 ((2 : Int32))) Post) ∧ (¬ (lg_cmp ((gL (sI G 640 a2 ((2 : Int32))) a3 0)) ((Int32.toInt64 ((0 : Int32))))) = 0 → Post (.inl (some (.int ((0 : Int32))))) (sI G 640 a2 ((2 : Int32)))))) ∧ (¬ ((2 : Int32)) = s0 → Post (.inl (some (.int ((0 : Int32))))) (sI G 640 a2 ((2 : Int32))))) ∧ (¬ (999 : Int32) < (gA G a0 n5) → ((gA G a0 n7) < (0 : Int32) → (((2 : Int32)) = s0 → (¬ s0 = 0 → J E 14 m_La_law 23 [some (.ref a0), some (.ref a1), some (.ref a2), some (.ref a3), some (.int ((p4 + (7 : Int32)))), none, none] [] (sI G 640 a2 ((2 : Int32))) Post) ∧ (s0 = 0 → gT G a3 = 22 ∧ IX (0 : Int32) 0 (gN G a3) ∧ ((lg_cmp ((gL (sI G 640 a2 ((2 : Int32))) a3 0)) ((Int32.toInt64 ((0 : Int32))))) = 0 → J E 14 m_La_law 23 [some (.ref a0), some (.ref a1), some (.ref a2), some (.ref a3), some (.int ((p4 + (7 : Int32)))), none, none] [] (sI G 640 a2 ((2 : Int32))) Post) ∧ (¬ (lg_cmp ((gL (sI G 640 a2 ((2 : Int32))) a3 0)) ((Int32.toInt64 ((0 : Int32))))) = 0 → Post (.inl (some (.int ((0 : Int32))))) (sI G 640 a2 ((2 : Int32)))))) ∧ (¬ ((2 : Int32)) = s0 → Post (.inl (some (.int ((0 : Int32))))) (sI G 640 a2 ((2 : Int32))))) ∧ (¬ (gA G a0 n7) < (0 : Int32) → ((5 : Int32) < (gA G a0 n7) → (((2 : Int32)) = s0 → (¬ s0 = 0 → J E 14 m_La_law 23 [some (.ref a0), some (.ref a1), some (.ref a2), some (.ref a3), some (.int ((p4 + (7 : Int32)))), none, none] [] (sI G 640 a2 ((2 : Int32))) Post) ∧ (s0 = 0 → gT G a3 = 22 ∧ IX (0 : Int32) 0 (gN G a3) ∧ ((lg_cmp ((gL (sI G 640 a2 ((2 : Int32))) a3 0)) ((Int32.toInt64 ((0 : Int32))))) = 0 → J E 14 m_La_law 23 [some (.ref a0), some (.ref a1), some (.ref a2), some (.ref a3), some (.int ((p4 + (7 : Int32)))), none, none] [] (sI G 640 a2 ((2 : Int32))) Post) ∧ (¬ (lg_cmp ((gL (sI G 640 a2 ((2 : Int32))) a3 0)) ((Int32.toInt64 ((0 : Int32))))) = 0 → Post (.inl (some (.int ((0 : Int32))))) (sI G 640 a2 ((2 : Int32)))))) ∧ (¬ ((2 : Int32)) = s0 → Post (.inl (some (.int ((0 : Int32))))) (sI G 640 a2 ((2 : Int32))))) ∧ (¬ (5 : Int32) < (gA G a0 n7) → ((gA G a0 n9) < (-1000 : Int32) → (((2 : Int32)) = s0 → (¬ s0 = 0 → J E 14 m_La_law 23 [some (.ref a0), some (.ref a1), some (.ref a2), some (.ref a3), some (.int ((p4 + (7 : Int32)))), none, none] [] (sI G 640 a2 ((2 : Int32))) Post) ∧ (s0 = 0 → gT G a3 = 22 ∧ IX (0 : Int32) 0 (gN G a3) ∧ ((lg_cmp ((gL (sI G 640 a2 ((2 : Int32))) a3 0)) ((Int32.toInt64 ((0 : Int32))))) = 0 → J E 14 m_La_law 23 [some (.ref a0), some (.ref a1), some (.ref a2), some (.ref a3), some (.int ((p4 + (7 : Int32)))), none, none] [] (sI G 640 a2 ((2 : Int32))) Post) ∧ (¬ (lg_cmp ((gL (sI G 640 a2 ((2 : Int32))) a3 0)) ((Int32.toInt64 ((0 : Int32))))) = 0 → Post (.inl (some (.int ((0 : Int32))))) (sI G 640 a2 ((2 : Int32)))))) ∧ (¬ ((2 : Int32)) = s0 → Post (.inl (some (.int ((0 : Int32))))) (sI G 640 a2 ((2 : Int32))))) ∧ (¬ (gA G a0 n9) < (-1000 : Int32) → ((1000 : Int32) < (gA G a0 n9) → (((2 : Int32)) = s0 → (¬ s0 = 0 → J E 14 m_La_law 23 [some (.ref a0), some (.ref a1), some (.ref a2), some (.ref a3), some (.int ((p4 + (7 : Int32)))), none, none] [] (sI G 640 a2 ((2 : Int32))) Post) ∧ (s0 = 0 → gT G a3 = 22 ∧ IX (0 : Int32) 0 (gN G a3) ∧ ((lg_cmp ((gL (sI G 640 a2 ((2 : Int32))) a3 0)) ((Int32.toInt64 ((0 : Int32))))) = 0 → J E 14 m_La_law 23 [some (.ref a0), some (.ref a1), some (.ref a2), some (.ref a3), some (.int ((p4 + (7 : Int32)))), none, none] [] (sI G 640 a2 ((2 : Int32))) Post) ∧ (¬ (lg_cmp ((gL (sI G 640 a2 ((2 : Int32))) a3 0)) ((Int32.toInt64 ((0 : Int32))))) = 0 → Post (.inl (some (.int ((0 : Int32))))) (sI G 640 a2 ((2 : Int32)))))) ∧ (¬ ((2 : Int32)) = s0 → Post (.inl (some (.int ((0 : Int32))))) (sI G 640 a2 ((2 : Int32))))) ∧ (¬ (1000 : Int32) < (gA G a0 n9) → ∃ b195, gR G 652 a2 = some b195 ∧ (gT G b195 = 20 ∨ gT G b195 = 25) ∧ ∃ n199, IX ((gA G a0 n3)) n199 (gN G b195) ∧ (¬ (gA G b195 n199) = (40 : Int32) → ∃ b200, gR G 649 a2 = some b200 ∧ gT G b200 = 20 ∧ ∃ n204, IX ((((40 : Int32) * (gA G a0 n3)) + (gA (sI G 640 a2 ((0 : Int32))) b195 n199))) n204 (gN G b200) ∧ ∃ b205, gR G 650 a2 = some b205 ∧ gT G b205 = 20 ∧ ∃ n209, IX ((((40 : Int32) * (gA G a0 n3)) + (gA (sI G 640 a2 ((0 : Int32))) b195 n199))) n209 (gN G b205) ∧ ∃ b210, gR G 651 a2 = some b210 ∧ gT G b210 = 20 ∧ ∃ n214, IX ((((40 : Int32) * (gA G a0 n3)) + (gA (sI G 640 a2 ((0 : Int32))) b195 n199))) n214 (gN G b210) ∧ ∀ G215, G215 = sA (sA (sA (sI G 640 a2 ((0 : Int32))) b200 n204 ((gA G a0 n5))) b205 n209 ((gA G a0 n7))) b210 n214 ((gA G a0 n9)) → gT G b195 = 20 ∧ (((0 : Int32)) = s0 → (¬ s0 = 0 → J E 14 m_La_law 23 [some (.ref a0), some (.ref a1), some (.ref a2), some (.ref a3), some (.int ((p4 + (7 : Int32)))), none, none] [] (sA G215 b195 n199 (((gA G215 b195 n199) + (1 : Int32)))) Post) ∧ (s0 = 0 → gT G a3 = 22 ∧ IX (0 : Int32) 0 (gN G a3) ∧ ((lg_cmp ((gL (sA G215 b195 n199 (((gA G215 b195 n199) + (1 : Int32)))) a3 0)) ((Int32.toInt64 (((gA (sA G215 b195 n199 (((gA G215 b195 n199) + (1 : Int32)))) b195 n199) - (1 : Int32)))))) = 0 → J E 14 m_La_law 23 [some (.ref a0), some (.ref a1), some (.ref a2), some (.ref a3), some (.int ((p4 + (7 : Int32)))), none, none] [] (sA G215 b195 n199 (((gA G215 b195 n199) + (1 : Int32)))) Post) ∧ (¬ (lg_cmp ((gL (sA G215 b195 n199 (((gA G215 b195 n199) + (1 : Int32)))) a3 0)) ((Int32.toInt64 (((gA (sA G215 b195 n199 (((gA G215 b195 n199) + (1 : Int32)))) b195 n199) - (1 : Int32)))))) = 0 → Post (.inl (some (.int ((0 : Int32))))) (sA G215 b195 n199 (((gA G215 b195 n199) + (1 : Int32))))))) ∧ (¬ ((0 : Int32)) = s0 → Post (.inl (some (.int ((0 : Int32))))) (sA G215 b195 n199 (((gA G215 b195 n199) + (1 : Int32)))))) ∧ ((gA G b195 n199) = (40 : Int32) → (((3 : Int32)) = s0 → (¬ s0 = 0 → J E 14 m_La_law 23 [some (.ref a0), some (.ref a1), some (.ref a2), some (.ref a3), some (.int ((p4 + (7 : Int32)))), none, none] [] (sI G 640 a2 ((3 : Int32))) Post) ∧ (s0 = 0 → gT G a3 = 22 ∧ IX (0 : Int32) 0 (gN G a3) ∧ ((lg_cmp ((gL (sI G 640 a2 ((3 : Int32))) a3 0)) ((Int32.toInt64 ((0 : Int32))))) = 0 → J E 14 m_La_law 23 [some (.ref a0), some (.ref a1), some (.ref a2), some (.ref a3), some (.int ((p4 + (7 : Int32)))), none, none] [] (sI G 640 a2 ((3 : Int32))) Post) ∧ (¬ (lg_cmp ((gL (sI G 640 a2 ((3 : Int32))) a3 0)) ((Int32.toInt64 ((0 : Int32))))) = 0 → Post (.inl (some (.int ((0 : Int32))))) (sI G 640 a2 ((3 : Int32)))))) ∧ (¬ ((3 : Int32)) = s0 → Post (.inl (some (.int ((0 : Int32))))) (sI G 640 a2 ((3 : Int32)))))))))))))) : J E 14 m_La_law 355 [some (.ref a0), some (.ref a1), some (.ref a2), some (.ref a3), some (.int p4), none, none] [.int s0] G Post := by
  refine j_istore (L' := [some (.ref a0), some (.ref a1), some (.ref a2), some (.ref a3), some (.int p4), some (.int s0), none]) d_La_law_355 (by decide) rfl ?_
  refine j_aload_n d_La_law_357 rfl ?_
  refine j_aload_n d_La_law_358 rfl ?_
  refine j_iload d_La_law_359 rfl ?_
  refine j_iconst (v := 1) d_La_law_361 (by decide) ?_
  refine j_iadd d_La_law_362 ?_
  obtain ⟨t1, H⟩ := H
  obtain ⟨n3, x2, H⟩ := H
  refine j_iald (n := n3) t1 x2 d_La_law_363 ?_
  refine j_aload_n d_La_law_364 rfl ?_
  refine j_iload d_La_law_365 rfl ?_
  refine j_iconst (v := 2) d_La_law_367 (by decide) ?_
  refine j_iadd d_La_law_368 ?_
  obtain ⟨n5, x4, H⟩ := H
  refine j_iald (n := n5) t1 x4 d_La_law_369 ?_
  refine j_aload_n d_La_law_370 rfl ?_
  refine j_iload d_La_law_371 rfl ?_
  refine j_iconst (v := 3) d_La_law_373 (by decide) ?_
  refine j_iadd d_La_law_374 ?_
  obtain ⟨n7, x6, H⟩ := H
  refine j_iald (n := n7) t1 x6 d_La_law_375 ?_
  refine j_aload_n d_La_law_376 rfl ?_
  refine j_iload d_La_law_377 rfl ?_
  refine j_iconst (v := 4) d_La_law_379 (by decide) ?_
  refine j_iadd d_La_law_380 ?_
  obtain ⟨n9, x8, H⟩ := H
  refine j_iald (n := n9) t1 x8 d_La_law_381 ?_
  obtain ⟨t10, H⟩ := H
  refine j_callV (d' := 3) (ci := 10) (As := [.int ((gA G a0 n3)), .int ((gA G a0 n5)), .int ((gA G a0 n7)), .int ((gA G a0 n9))]) (rest := []) (b := a2) cv_La_90 me_Mo_append rfl (by decide) rfl rfl t10 rfl rfl (Nat.le_of_ble_eq_true rfl) d_La_law_382 (by decide) rfl (j_enter (L := [some (.ref a2), some (.int ((gA G a0 n3))), some (.int ((gA G a0 n5))), some (.int ((gA G a0 n7))), some (.int ((gA G a0 n9))), none, none, none]) me_Mo_append (cat_c rfl (cat_c rfl (cat_c rfl (cat_c rfl (cat_c rfl cat_n))))) (Nat.le_of_ble_eq_true rfl) rfl ?_)
  refine j_iload_n d_Mo_append_0 rfl ?_
  refine j_callS (d' := 2) (As := [.int ((gA G a0 n3))]) (rest := []) cs_Mo_156 me_Mo_isSource rfl (by decide) rfl rfl (Nat.le_of_ble_eq_true rfl) d_Mo_append_1 (by decide) rfl (j_enter (L := [some (.int ((gA G a0 n3)))]) me_Mo_isSource (cat_c rfl cat_n) (Nat.le_of_ble_eq_true rfl) rfl ?_)
  refine j_iload_n d_Mo_isSource_0 rfl ?_
  refine j_iconst (v := 0) d_Mo_isSource_1 (by decide) ?_
  refine j_iconst (v := 2) d_Mo_isSource_2 (by decide) ?_
  refine j_callS (d' := 1) (As := [.int ((gA G a0 n3)), .int ((0 : Int32)), .int ((2 : Int32))]) (rest := []) cs_Mo_142 me_Mo_isIn rfl (by decide) rfl rfl (Nat.le_of_ble_eq_true rfl) d_Mo_isSource_3 (by decide) rfl (j_enter (L := [some (.int ((gA G a0 n3))), some (.int ((0 : Int32))), some (.int ((2 : Int32)))]) me_Mo_isIn (cat_c rfl (cat_c rfl (cat_c rfl cat_n))) (Nat.le_of_ble_eq_true rfl) rfl ?_)
  refine j_iload_n d_Mo_isIn_0 rfl ?_
  refine j_iload_n d_Mo_isIn_1 rfl ?_
  obtain ⟨Ha, Hb⟩ := H
  refine j_icmp_lt (tgt := 14) d_Mo_isIn_2 (by decide) (fun c250 => ?_) (fun c251 => ?_)
  · have H := Ha c250
    refine j_iconst (v := 0) d_Mo_isIn_14 (by decide) ?_
    refine j_zret rfl (by decide) d_Mo_isIn_15 ?_
    show J E 2 m_Mo_isSource 6 [some (.int ((gA G a0 n3)))] [.int ((0 : Int32))] G (aft E 3 m_Mo_append 1 [some (.ref a2), some (.int ((gA G a0 n3))), some (.int ((gA G a0 n5))), some (.int ((gA G a0 n7))), some (.int ((gA G a0 n9))), none, none, none] [] (aft E 14 m_La_law 382 [some (.ref a0), some (.ref a1), some (.ref a2), some (.ref a3), some (.int p4), some (.int s0), none] [] Post))
    refine j_zret rfl (by decide) d_Mo_isSource_6 ?_
    show J E 3 m_Mo_append 4 [some (.ref a2), some (.int ((gA G a0 n3))), some (.int ((gA G a0 n5))), some (.int ((gA G a0 n7))), some (.int ((gA G a0 n9))), none, none, none] [.int ((0 : Int32))] G (aft E 14 m_La_law 382 [some (.ref a0), some (.ref a1), some (.ref a2), some (.ref a3), some (.int p4), some (.int s0), none] [] Post)
    refine j_istore (L' := [some (.ref a2), some (.int ((gA G a0 n3))), some (.int ((gA G a0 n5))), some (.int ((gA G a0 n7))), some (.int ((gA G a0 n9))), some (.int ((0 : Int32))), none, none]) d_Mo_append_4 (by decide) rfl ?_
    refine j_iload_n d_Mo_append_6 rfl ?_
    refine j_iconst (v := 0) d_Mo_append_7 (by decide) ?_
    refine j_sipush (v := 999) d_Mo_append_8 (by decide) ?_
    refine j_callS (d' := 1) (As := [.int ((gA G a0 n5)), .int ((0 : Int32)), .int ((999 : Int32))]) (rest := []) cs_Mo_142 me_Mo_isIn rfl (by decide) rfl rfl (Nat.le_of_ble_eq_true rfl) d_Mo_append_11 (by decide) rfl (j_enter (L := [some (.int ((gA G a0 n5))), some (.int ((0 : Int32))), some (.int ((999 : Int32)))]) me_Mo_isIn (cat_c rfl (cat_c rfl (cat_c rfl cat_n))) (Nat.le_of_ble_eq_true rfl) rfl ?_)
    refine j_iload_n d_Mo_isIn_0 rfl ?_
    refine j_iload_n d_Mo_isIn_1 rfl ?_
    obtain ⟨Ha, Hb⟩ := H
    refine j_icmp_lt (tgt := 14) d_Mo_isIn_2 (by decide) (fun c77 => ?_) (fun c78 => ?_)
    · have H := Ha c77
      refine j_iconst (v := 0) d_Mo_isIn_14 (by decide) ?_
      refine j_zret rfl (by decide) d_Mo_isIn_15 ?_
      show J E 3 m_Mo_append 14 [some (.ref a2), some (.int ((gA G a0 n3))), some (.int ((gA G a0 n5))), some (.int ((gA G a0 n7))), some (.int ((gA G a0 n9))), some (.int ((0 : Int32))), none, none] [.int ((0 : Int32))] G (aft E 14 m_La_law 382 [some (.ref a0), some (.ref a1), some (.ref a2), some (.ref a3), some (.int p4), some (.int s0), none] [] Post)
      refine j_if_eq (tgt := 42) d_Mo_append_14 (by decide) (fun _ => ?_) (fun c => absurd c (by decide))
      refine j_iconst (v := 0) d_Mo_append_42 (by decide) ?_
      refine j_istore (L' := [some (.ref a2), some (.int ((gA G a0 n3))), some (.int ((gA G a0 n5))), some (.int ((gA G a0 n7))), some (.int ((gA G a0 n9))), some (.int ((0 : Int32))), some (.int ((0 : Int32))), none]) d_Mo_append_43 (by decide) rfl ?_
      refine j_aload_n d_Mo_append_45 rfl ?_
      refine j_iload d_Mo_append_46 rfl ?_
      refine j_if_ne (tgt := 55) d_Mo_append_48 (by decide) (fun c => absurd c (by decide)) (fun _ => ?_)
      refine j_iconst (v := 1) d_Mo_append_51 (by decide) ?_
      refine j_goto (tgt := 80) d_Mo_append_52 (by decide) ?_
      refine j_callV (d' := 1) (ci := 10) (As := [.int ((1 : Int32))]) (rest := []) (b := a2) cv_Mo_149 me_Mo_isFine rfl (by decide) rfl rfl t10 rfl rfl (Nat.le_of_ble_eq_true rfl) d_Mo_append_80 (by decide) rfl (j_enter (L := [some (.ref a2), some (.int ((1 : Int32)))]) me_Mo_isFine (cat_c rfl (cat_c rfl cat_n)) (Nat.le_of_ble_eq_true rfl) rfl ?_)
      refine j_aload_n d_Mo_isFine_0 rfl ?_
      refine j_iload_n d_Mo_isFine_1 rfl ?_
      refine j_putI (f := 640) fw_Mo_139 rfl rfl t10 d_Mo_isFine_2 ?_
      refine j_iload_n d_Mo_isFine_5 rfl ?_
      refine j_if_ne (tgt := 13) d_Mo_isFine_6 (by decide) (fun _ => ?_) (fun c => absurd c (by decide))
      refine j_iconst (v := 0) d_Mo_isFine_13 (by decide) ?_
      refine j_zret rfl (by decide) d_Mo_isFine_14 ?_
      show J E 3 m_Mo_append 83 [some (.ref a2), some (.int ((gA G a0 n3))), some (.int ((gA G a0 n5))), some (.int ((gA G a0 n7))), some (.int ((gA G a0 n9))), some (.int ((0 : Int32))), some (.int ((0 : Int32))), none] [.int ((0 : Int32))] (sI G 640 a2 ((1 : Int32))) (aft E 14 m_La_law 382 [some (.ref a0), some (.ref a1), some (.ref a2), some (.ref a3), some (.int p4), some (.int s0), none] [] Post)
      refine j_if_ne (tgt := 88) d_Mo_append_83 (by decide) (fun c => absurd c (by decide)) (fun _ => ?_)
      refine j_iconst (v := 0) d_Mo_append_86 (by decide) ?_
      refine j_iret rfl d_Mo_append_87 ?_
      show J E 14 m_La_law 385 [some (.ref a0), some (.ref a1), some (.ref a2), some (.ref a3), some (.int p4), some (.int s0), none] [.int ((0 : Int32))] (sI G 640 a2 ((1 : Int32))) Post
      refine j_istore (L' := [some (.ref a0), some (.ref a1), some (.ref a2), some (.ref a3), some (.int p4), some (.int s0), some (.int ((0 : Int32)))]) d_La_law_385 (by decide) rfl ?_
      refine j_aload_n d_La_law_387 rfl ?_
      refine j_callV (d' := 1) (ci := 10) (As := []) (rest := []) (b := a2) cv_La_80 me_Mo_thrown rfl (by decide) rfl rfl t10 rfl rfl (Nat.le_of_ble_eq_true rfl) d_La_law_388 (by decide) rfl (j_enter (L := [some (.ref a2)]) me_Mo_thrown (cat_c rfl cat_n) (Nat.le_of_ble_eq_true rfl) rfl ?_)
      refine j_aload_n d_Mo_thrown_0 rfl ?_
      refine j_getIv (f := 640) (v := ((1 : Int32))) fe_Mo_139 rfl rfl t10 (show gI (sI G 640 a2 ((1 : Int32))) 640 a2 = _ from gI_sI_eq) d_Mo_thrown_1 ?_
      refine j_iret rfl d_Mo_thrown_4 ?_
      show J E 14 m_La_law 391 [some (.ref a0), some (.ref a1), some (.ref a2), some (.ref a3), some (.int p4), some (.int s0), some (.int ((0 : Int32)))] [.int (((1 : Int32)))] (sI G 640 a2 ((1 : Int32))) Post
      refine j_iload d_La_law_391 rfl ?_
      obtain ⟨Ha, Hb⟩ := H
      refine j_icmp_eq (tgt := 398) d_La_law_393 (by decide) (fun c17 => ?_) (fun c18 => ?_)
      · have H := Ha c17
        refine j_iload d_La_law_398 rfl ?_
        obtain ⟨Ha, Hb⟩ := H
        refine j_if_ne (tgt := 415) d_La_law_400 (by decide) (fun c15 => ?_) (fun c16 => ?_)
        · have H := Ha c15
          refine j_goto (tgt := 1295) d_La_law_415 (by decide) ?_
          refine j_iinc (v := (p4 + (7 : Int32))) (L' := [some (.ref a0), some (.ref a1), some (.ref a2), some (.ref a3), some (.int ((p4 + (7 : Int32)))), some (.int s0), some (.int ((0 : Int32)))]) d_La_law_1295 rfl (by rw [show Int32.ofInt (7) = (7 : Int32) by decide]) (by decide) rfl ?_
          refine j_goto (tgt := 23) d_La_law_1298 (by decide) ?_
          refine j_forget (L' := [some (.ref a0), some (.ref a1), some (.ref a2), some (.ref a3), some (.int ((p4 + (7 : Int32)))), none, none]) ⟨Or.inr rfl, Or.inr rfl, Or.inr rfl, Or.inr rfl, Or.inr rfl, Or.inl rfl, Or.inl rfl, trivial⟩ ?_
          exact H
        · have H := Hb c16
          refine j_aload_n d_La_law_403 rfl ?_
          refine j_iconst (v := 0) d_La_law_404 (by decide) ?_
          obtain ⟨t11, H⟩ := H
          obtain ⟨x12, H⟩ := H
          refine j_lald (n := 0) t11 x12 d_La_law_405 ?_
          refine j_iload d_La_law_406 rfl ?_
          refine j_i2l d_La_law_408 ?_
          refine j_lcmp d_La_law_409 ?_
          obtain ⟨Ha, Hb⟩ := H
          refine j_if_eq (tgt := 415) d_La_law_410 (by decide) (fun c13 => ?_) (fun c14 => ?_)
          · have H := Ha c13
            refine j_goto (tgt := 1295) d_La_law_415 (by decide) ?_
            refine j_iinc (v := (p4 + (7 : Int32))) (L' := [some (.ref a0), some (.ref a1), some (.ref a2), some (.ref a3), some (.int ((p4 + (7 : Int32)))), some (.int s0), some (.int ((0 : Int32)))]) d_La_law_1295 rfl (by rw [show Int32.ofInt (7) = (7 : Int32) by decide]) (by decide) rfl ?_
            refine j_goto (tgt := 23) d_La_law_1298 (by decide) ?_
            refine j_forget (L' := [some (.ref a0), some (.ref a1), some (.ref a2), some (.ref a3), some (.int ((p4 + (7 : Int32)))), none, none]) ⟨Or.inr rfl, Or.inr rfl, Or.inr rfl, Or.inr rfl, Or.inr rfl, Or.inl rfl, Or.inl rfl, trivial⟩ ?_
            exact H
          · have H := Hb c14
            refine j_iconst (v := 0) d_La_law_413 (by decide) ?_
            exact j_zret rfl (by decide) d_La_law_414 H
      · have H := Hb c18
        refine j_iconst (v := 0) d_La_law_396 (by decide) ?_
        exact j_zret rfl (by decide) d_La_law_397 H
    · have H := Hb c78
      refine j_iload_n d_Mo_isIn_5 rfl ?_
      refine j_iload_n d_Mo_isIn_6 rfl ?_
      obtain ⟨Ha, Hb⟩ := H
      refine j_icmp_gt (tgt := 14) d_Mo_isIn_7 (by decide) (fun c75 => ?_) (fun c76 => ?_)
      · have H := Ha c75
        refine j_iconst (v := 0) d_Mo_isIn_14 (by decide) ?_
        refine j_zret rfl (by decide) d_Mo_isIn_15 ?_
        show J E 3 m_Mo_append 14 [some (.ref a2), some (.int ((gA G a0 n3))), some (.int ((gA G a0 n5))), some (.int ((gA G a0 n7))), some (.int ((gA G a0 n9))), some (.int ((0 : Int32))), none, none] [.int ((0 : Int32))] G (aft E 14 m_La_law 382 [some (.ref a0), some (.ref a1), some (.ref a2), some (.ref a3), some (.int p4), some (.int s0), none] [] Post)
        refine j_if_eq (tgt := 42) d_Mo_append_14 (by decide) (fun _ => ?_) (fun c => absurd c (by decide))
        refine j_iconst (v := 0) d_Mo_append_42 (by decide) ?_
        refine j_istore (L' := [some (.ref a2), some (.int ((gA G a0 n3))), some (.int ((gA G a0 n5))), some (.int ((gA G a0 n7))), some (.int ((gA G a0 n9))), some (.int ((0 : Int32))), some (.int ((0 : Int32))), none]) d_Mo_append_43 (by decide) rfl ?_
        refine j_aload_n d_Mo_append_45 rfl ?_
        refine j_iload d_Mo_append_46 rfl ?_
        refine j_if_ne (tgt := 55) d_Mo_append_48 (by decide) (fun c => absurd c (by decide)) (fun _ => ?_)
        refine j_iconst (v := 1) d_Mo_append_51 (by decide) ?_
        refine j_goto (tgt := 80) d_Mo_append_52 (by decide) ?_
        refine j_callV (d' := 1) (ci := 10) (As := [.int ((1 : Int32))]) (rest := []) (b := a2) cv_Mo_149 me_Mo_isFine rfl (by decide) rfl rfl t10 rfl rfl (Nat.le_of_ble_eq_true rfl) d_Mo_append_80 (by decide) rfl (j_enter (L := [some (.ref a2), some (.int ((1 : Int32)))]) me_Mo_isFine (cat_c rfl (cat_c rfl cat_n)) (Nat.le_of_ble_eq_true rfl) rfl ?_)
        refine j_aload_n d_Mo_isFine_0 rfl ?_
        refine j_iload_n d_Mo_isFine_1 rfl ?_
        refine j_putI (f := 640) fw_Mo_139 rfl rfl t10 d_Mo_isFine_2 ?_
        refine j_iload_n d_Mo_isFine_5 rfl ?_
        refine j_if_ne (tgt := 13) d_Mo_isFine_6 (by decide) (fun _ => ?_) (fun c => absurd c (by decide))
        refine j_iconst (v := 0) d_Mo_isFine_13 (by decide) ?_
        refine j_zret rfl (by decide) d_Mo_isFine_14 ?_
        show J E 3 m_Mo_append 83 [some (.ref a2), some (.int ((gA G a0 n3))), some (.int ((gA G a0 n5))), some (.int ((gA G a0 n7))), some (.int ((gA G a0 n9))), some (.int ((0 : Int32))), some (.int ((0 : Int32))), none] [.int ((0 : Int32))] (sI G 640 a2 ((1 : Int32))) (aft E 14 m_La_law 382 [some (.ref a0), some (.ref a1), some (.ref a2), some (.ref a3), some (.int p4), some (.int s0), none] [] Post)
        refine j_if_ne (tgt := 88) d_Mo_append_83 (by decide) (fun c => absurd c (by decide)) (fun _ => ?_)
        refine j_iconst (v := 0) d_Mo_append_86 (by decide) ?_
        refine j_iret rfl d_Mo_append_87 ?_
        show J E 14 m_La_law 385 [some (.ref a0), some (.ref a1), some (.ref a2), some (.ref a3), some (.int p4), some (.int s0), none] [.int ((0 : Int32))] (sI G 640 a2 ((1 : Int32))) Post
        refine j_istore (L' := [some (.ref a0), some (.ref a1), some (.ref a2), some (.ref a3), some (.int p4), some (.int s0), some (.int ((0 : Int32)))]) d_La_law_385 (by decide) rfl ?_
        refine j_aload_n d_La_law_387 rfl ?_
        refine j_callV (d' := 1) (ci := 10) (As := []) (rest := []) (b := a2) cv_La_80 me_Mo_thrown rfl (by decide) rfl rfl t10 rfl rfl (Nat.le_of_ble_eq_true rfl) d_La_law_388 (by decide) rfl (j_enter (L := [some (.ref a2)]) me_Mo_thrown (cat_c rfl cat_n) (Nat.le_of_ble_eq_true rfl) rfl ?_)
        refine j_aload_n d_Mo_thrown_0 rfl ?_
        refine j_getIv (f := 640) (v := ((1 : Int32))) fe_Mo_139 rfl rfl t10 (show gI (sI G 640 a2 ((1 : Int32))) 640 a2 = _ from gI_sI_eq) d_Mo_thrown_1 ?_
        refine j_iret rfl d_Mo_thrown_4 ?_
        show J E 14 m_La_law 391 [some (.ref a0), some (.ref a1), some (.ref a2), some (.ref a3), some (.int p4), some (.int s0), some (.int ((0 : Int32)))] [.int (((1 : Int32)))] (sI G 640 a2 ((1 : Int32))) Post
        refine j_iload d_La_law_391 rfl ?_
        obtain ⟨Ha, Hb⟩ := H
        refine j_icmp_eq (tgt := 398) d_La_law_393 (by decide) (fun c25 => ?_) (fun c26 => ?_)
        · have H := Ha c25
          refine j_iload d_La_law_398 rfl ?_
          obtain ⟨Ha, Hb⟩ := H
          refine j_if_ne (tgt := 415) d_La_law_400 (by decide) (fun c23 => ?_) (fun c24 => ?_)
          · have H := Ha c23
            refine j_goto (tgt := 1295) d_La_law_415 (by decide) ?_
            refine j_iinc (v := (p4 + (7 : Int32))) (L' := [some (.ref a0), some (.ref a1), some (.ref a2), some (.ref a3), some (.int ((p4 + (7 : Int32)))), some (.int s0), some (.int ((0 : Int32)))]) d_La_law_1295 rfl (by rw [show Int32.ofInt (7) = (7 : Int32) by decide]) (by decide) rfl ?_
            refine j_goto (tgt := 23) d_La_law_1298 (by decide) ?_
            refine j_forget (L' := [some (.ref a0), some (.ref a1), some (.ref a2), some (.ref a3), some (.int ((p4 + (7 : Int32)))), none, none]) ⟨Or.inr rfl, Or.inr rfl, Or.inr rfl, Or.inr rfl, Or.inr rfl, Or.inl rfl, Or.inl rfl, trivial⟩ ?_
            exact H
          · have H := Hb c24
            refine j_aload_n d_La_law_403 rfl ?_
            refine j_iconst (v := 0) d_La_law_404 (by decide) ?_
            obtain ⟨t19, H⟩ := H
            obtain ⟨x20, H⟩ := H
            refine j_lald (n := 0) t19 x20 d_La_law_405 ?_
            refine j_iload d_La_law_406 rfl ?_
            refine j_i2l d_La_law_408 ?_
            refine j_lcmp d_La_law_409 ?_
            obtain ⟨Ha, Hb⟩ := H
            refine j_if_eq (tgt := 415) d_La_law_410 (by decide) (fun c21 => ?_) (fun c22 => ?_)
            · have H := Ha c21
              refine j_goto (tgt := 1295) d_La_law_415 (by decide) ?_
              refine j_iinc (v := (p4 + (7 : Int32))) (L' := [some (.ref a0), some (.ref a1), some (.ref a2), some (.ref a3), some (.int ((p4 + (7 : Int32)))), some (.int s0), some (.int ((0 : Int32)))]) d_La_law_1295 rfl (by rw [show Int32.ofInt (7) = (7 : Int32) by decide]) (by decide) rfl ?_
              refine j_goto (tgt := 23) d_La_law_1298 (by decide) ?_
              refine j_forget (L' := [some (.ref a0), some (.ref a1), some (.ref a2), some (.ref a3), some (.int ((p4 + (7 : Int32)))), none, none]) ⟨Or.inr rfl, Or.inr rfl, Or.inr rfl, Or.inr rfl, Or.inr rfl, Or.inl rfl, Or.inl rfl, trivial⟩ ?_
              exact H
            · have H := Hb c22
              refine j_iconst (v := 0) d_La_law_413 (by decide) ?_
              exact j_zret rfl (by decide) d_La_law_414 H
        · have H := Hb c26
          refine j_iconst (v := 0) d_La_law_396 (by decide) ?_
          exact j_zret rfl (by decide) d_La_law_397 H
      · have H := Hb c76
        refine j_iconst (v := 1) d_Mo_isIn_10 (by decide) ?_
        refine j_goto (tgt := 15) d_Mo_isIn_11 (by decide) ?_
        refine j_zret rfl (by decide) d_Mo_isIn_15 ?_
        show J E 3 m_Mo_append 14 [some (.ref a2), some (.int ((gA G a0 n3))), some (.int ((gA G a0 n5))), some (.int ((gA G a0 n7))), some (.int ((gA G a0 n9))), some (.int ((0 : Int32))), none, none] [.int ((1 : Int32))] G (aft E 14 m_La_law 382 [some (.ref a0), some (.ref a1), some (.ref a2), some (.ref a3), some (.int p4), some (.int s0), none] [] Post)
        refine j_if_eq (tgt := 42) d_Mo_append_14 (by decide) (fun c => absurd c (by decide)) (fun _ => ?_)
        refine j_iload_n d_Mo_append_17 rfl ?_
        refine j_callS (d' := 2) (As := [.int ((gA G a0 n7))]) (rest := []) cs_Mo_159 me_Mo_isKey rfl (by decide) rfl rfl (Nat.le_of_ble_eq_true rfl) d_Mo_append_18 (by decide) rfl (j_enter (L := [some (.int ((gA G a0 n7)))]) me_Mo_isKey (cat_c rfl cat_n) (Nat.le_of_ble_eq_true rfl) rfl ?_)
        refine j_iload_n d_Mo_isKey_0 rfl ?_
        refine j_iconst (v := 0) d_Mo_isKey_1 (by decide) ?_
        refine j_iconst (v := 5) d_Mo_isKey_2 (by decide) ?_
        refine j_callS (d' := 1) (As := [.int ((gA G a0 n7)), .int ((0 : Int32)), .int ((5 : Int32))]) (rest := []) cs_Mo_142 me_Mo_isIn rfl (by decide) rfl rfl (Nat.le_of_ble_eq_true rfl) d_Mo_isKey_3 (by decide) rfl (j_enter (L := [some (.int ((gA G a0 n7))), some (.int ((0 : Int32))), some (.int ((5 : Int32)))]) me_Mo_isIn (cat_c rfl (cat_c rfl (cat_c rfl cat_n))) (Nat.le_of_ble_eq_true rfl) rfl ?_)
        refine j_iload_n d_Mo_isIn_0 rfl ?_
        refine j_iload_n d_Mo_isIn_1 rfl ?_
        obtain ⟨Ha, Hb⟩ := H
        refine j_icmp_lt (tgt := 14) d_Mo_isIn_2 (by decide) (fun c73 => ?_) (fun c74 => ?_)
        · have H := Ha c73
          refine j_iconst (v := 0) d_Mo_isIn_14 (by decide) ?_
          refine j_zret rfl (by decide) d_Mo_isIn_15 ?_
          show J E 2 m_Mo_isKey 6 [some (.int ((gA G a0 n7)))] [.int ((0 : Int32))] G (aft E 3 m_Mo_append 18 [some (.ref a2), some (.int ((gA G a0 n3))), some (.int ((gA G a0 n5))), some (.int ((gA G a0 n7))), some (.int ((gA G a0 n9))), some (.int ((0 : Int32))), none, none] [] (aft E 14 m_La_law 382 [some (.ref a0), some (.ref a1), some (.ref a2), some (.ref a3), some (.int p4), some (.int s0), none] [] Post))
          refine j_zret rfl (by decide) d_Mo_isKey_6 ?_
          show J E 3 m_Mo_append 21 [some (.ref a2), some (.int ((gA G a0 n3))), some (.int ((gA G a0 n5))), some (.int ((gA G a0 n7))), some (.int ((gA G a0 n9))), some (.int ((0 : Int32))), none, none] [.int ((0 : Int32))] G (aft E 14 m_La_law 382 [some (.ref a0), some (.ref a1), some (.ref a2), some (.ref a3), some (.int p4), some (.int s0), none] [] Post)
          refine j_if_eq (tgt := 42) d_Mo_append_21 (by decide) (fun _ => ?_) (fun c => absurd c (by decide))
          refine j_iconst (v := 0) d_Mo_append_42 (by decide) ?_
          refine j_istore (L' := [some (.ref a2), some (.int ((gA G a0 n3))), some (.int ((gA G a0 n5))), some (.int ((gA G a0 n7))), some (.int ((gA G a0 n9))), some (.int ((0 : Int32))), some (.int ((0 : Int32))), none]) d_Mo_append_43 (by decide) rfl ?_
          refine j_aload_n d_Mo_append_45 rfl ?_
          refine j_iload d_Mo_append_46 rfl ?_
          refine j_if_ne (tgt := 55) d_Mo_append_48 (by decide) (fun c => absurd c (by decide)) (fun _ => ?_)
          refine j_iconst (v := 1) d_Mo_append_51 (by decide) ?_
          refine j_goto (tgt := 80) d_Mo_append_52 (by decide) ?_
          refine j_callV (d' := 1) (ci := 10) (As := [.int ((1 : Int32))]) (rest := []) (b := a2) cv_Mo_149 me_Mo_isFine rfl (by decide) rfl rfl t10 rfl rfl (Nat.le_of_ble_eq_true rfl) d_Mo_append_80 (by decide) rfl (j_enter (L := [some (.ref a2), some (.int ((1 : Int32)))]) me_Mo_isFine (cat_c rfl (cat_c rfl cat_n)) (Nat.le_of_ble_eq_true rfl) rfl ?_)
          refine j_aload_n d_Mo_isFine_0 rfl ?_
          refine j_iload_n d_Mo_isFine_1 rfl ?_
          refine j_putI (f := 640) fw_Mo_139 rfl rfl t10 d_Mo_isFine_2 ?_
          refine j_iload_n d_Mo_isFine_5 rfl ?_
          refine j_if_ne (tgt := 13) d_Mo_isFine_6 (by decide) (fun _ => ?_) (fun c => absurd c (by decide))
          refine j_iconst (v := 0) d_Mo_isFine_13 (by decide) ?_
          refine j_zret rfl (by decide) d_Mo_isFine_14 ?_
          show J E 3 m_Mo_append 83 [some (.ref a2), some (.int ((gA G a0 n3))), some (.int ((gA G a0 n5))), some (.int ((gA G a0 n7))), some (.int ((gA G a0 n9))), some (.int ((0 : Int32))), some (.int ((0 : Int32))), none] [.int ((0 : Int32))] (sI G 640 a2 ((1 : Int32))) (aft E 14 m_La_law 382 [some (.ref a0), some (.ref a1), some (.ref a2), some (.ref a3), some (.int p4), some (.int s0), none] [] Post)
          refine j_if_ne (tgt := 88) d_Mo_append_83 (by decide) (fun c => absurd c (by decide)) (fun _ => ?_)
          refine j_iconst (v := 0) d_Mo_append_86 (by decide) ?_
          refine j_iret rfl d_Mo_append_87 ?_
          show J E 14 m_La_law 385 [some (.ref a0), some (.ref a1), some (.ref a2), some (.ref a3), some (.int p4), some (.int s0), none] [.int ((0 : Int32))] (sI G 640 a2 ((1 : Int32))) Post
          refine j_istore (L' := [some (.ref a0), some (.ref a1), some (.ref a2), some (.ref a3), some (.int p4), some (.int s0), some (.int ((0 : Int32)))]) d_La_law_385 (by decide) rfl ?_
          refine j_aload_n d_La_law_387 rfl ?_
          refine j_callV (d' := 1) (ci := 10) (As := []) (rest := []) (b := a2) cv_La_80 me_Mo_thrown rfl (by decide) rfl rfl t10 rfl rfl (Nat.le_of_ble_eq_true rfl) d_La_law_388 (by decide) rfl (j_enter (L := [some (.ref a2)]) me_Mo_thrown (cat_c rfl cat_n) (Nat.le_of_ble_eq_true rfl) rfl ?_)
          refine j_aload_n d_Mo_thrown_0 rfl ?_
          refine j_getIv (f := 640) (v := ((1 : Int32))) fe_Mo_139 rfl rfl t10 (show gI (sI G 640 a2 ((1 : Int32))) 640 a2 = _ from gI_sI_eq) d_Mo_thrown_1 ?_
          refine j_iret rfl d_Mo_thrown_4 ?_
          show J E 14 m_La_law 391 [some (.ref a0), some (.ref a1), some (.ref a2), some (.ref a3), some (.int p4), some (.int s0), some (.int ((0 : Int32)))] [.int (((1 : Int32)))] (sI G 640 a2 ((1 : Int32))) Post
          refine j_iload d_La_law_391 rfl ?_
          obtain ⟨Ha, Hb⟩ := H
          refine j_icmp_eq (tgt := 398) d_La_law_393 (by decide) (fun c33 => ?_) (fun c34 => ?_)
          · have H := Ha c33
            refine j_iload d_La_law_398 rfl ?_
            obtain ⟨Ha, Hb⟩ := H
            refine j_if_ne (tgt := 415) d_La_law_400 (by decide) (fun c31 => ?_) (fun c32 => ?_)
            · have H := Ha c31
              refine j_goto (tgt := 1295) d_La_law_415 (by decide) ?_
              refine j_iinc (v := (p4 + (7 : Int32))) (L' := [some (.ref a0), some (.ref a1), some (.ref a2), some (.ref a3), some (.int ((p4 + (7 : Int32)))), some (.int s0), some (.int ((0 : Int32)))]) d_La_law_1295 rfl (by rw [show Int32.ofInt (7) = (7 : Int32) by decide]) (by decide) rfl ?_
              refine j_goto (tgt := 23) d_La_law_1298 (by decide) ?_
              refine j_forget (L' := [some (.ref a0), some (.ref a1), some (.ref a2), some (.ref a3), some (.int ((p4 + (7 : Int32)))), none, none]) ⟨Or.inr rfl, Or.inr rfl, Or.inr rfl, Or.inr rfl, Or.inr rfl, Or.inl rfl, Or.inl rfl, trivial⟩ ?_
              exact H
            · have H := Hb c32
              refine j_aload_n d_La_law_403 rfl ?_
              refine j_iconst (v := 0) d_La_law_404 (by decide) ?_
              obtain ⟨t27, H⟩ := H
              obtain ⟨x28, H⟩ := H
              refine j_lald (n := 0) t27 x28 d_La_law_405 ?_
              refine j_iload d_La_law_406 rfl ?_
              refine j_i2l d_La_law_408 ?_
              refine j_lcmp d_La_law_409 ?_
              obtain ⟨Ha, Hb⟩ := H
              refine j_if_eq (tgt := 415) d_La_law_410 (by decide) (fun c29 => ?_) (fun c30 => ?_)
              · have H := Ha c29
                refine j_goto (tgt := 1295) d_La_law_415 (by decide) ?_
                refine j_iinc (v := (p4 + (7 : Int32))) (L' := [some (.ref a0), some (.ref a1), some (.ref a2), some (.ref a3), some (.int ((p4 + (7 : Int32)))), some (.int s0), some (.int ((0 : Int32)))]) d_La_law_1295 rfl (by rw [show Int32.ofInt (7) = (7 : Int32) by decide]) (by decide) rfl ?_
                refine j_goto (tgt := 23) d_La_law_1298 (by decide) ?_
                refine j_forget (L' := [some (.ref a0), some (.ref a1), some (.ref a2), some (.ref a3), some (.int ((p4 + (7 : Int32)))), none, none]) ⟨Or.inr rfl, Or.inr rfl, Or.inr rfl, Or.inr rfl, Or.inr rfl, Or.inl rfl, Or.inl rfl, trivial⟩ ?_
                exact H
              · have H := Hb c30
                refine j_iconst (v := 0) d_La_law_413 (by decide) ?_
                exact j_zret rfl (by decide) d_La_law_414 H
          · have H := Hb c34
            refine j_iconst (v := 0) d_La_law_396 (by decide) ?_
            exact j_zret rfl (by decide) d_La_law_397 H
        · have H := Hb c74
          refine j_iload_n d_Mo_isIn_5 rfl ?_
          refine j_iload_n d_Mo_isIn_6 rfl ?_
          obtain ⟨Ha, Hb⟩ := H
          refine j_icmp_gt (tgt := 14) d_Mo_isIn_7 (by decide) (fun c71 => ?_) (fun c72 => ?_)
          · have H := Ha c71
            refine j_iconst (v := 0) d_Mo_isIn_14 (by decide) ?_
            refine j_zret rfl (by decide) d_Mo_isIn_15 ?_
            show J E 2 m_Mo_isKey 6 [some (.int ((gA G a0 n7)))] [.int ((0 : Int32))] G (aft E 3 m_Mo_append 18 [some (.ref a2), some (.int ((gA G a0 n3))), some (.int ((gA G a0 n5))), some (.int ((gA G a0 n7))), some (.int ((gA G a0 n9))), some (.int ((0 : Int32))), none, none] [] (aft E 14 m_La_law 382 [some (.ref a0), some (.ref a1), some (.ref a2), some (.ref a3), some (.int p4), some (.int s0), none] [] Post))
            refine j_zret rfl (by decide) d_Mo_isKey_6 ?_
            show J E 3 m_Mo_append 21 [some (.ref a2), some (.int ((gA G a0 n3))), some (.int ((gA G a0 n5))), some (.int ((gA G a0 n7))), some (.int ((gA G a0 n9))), some (.int ((0 : Int32))), none, none] [.int ((0 : Int32))] G (aft E 14 m_La_law 382 [some (.ref a0), some (.ref a1), some (.ref a2), some (.ref a3), some (.int p4), some (.int s0), none] [] Post)
            refine j_if_eq (tgt := 42) d_Mo_append_21 (by decide) (fun _ => ?_) (fun c => absurd c (by decide))
            refine j_iconst (v := 0) d_Mo_append_42 (by decide) ?_
            refine j_istore (L' := [some (.ref a2), some (.int ((gA G a0 n3))), some (.int ((gA G a0 n5))), some (.int ((gA G a0 n7))), some (.int ((gA G a0 n9))), some (.int ((0 : Int32))), some (.int ((0 : Int32))), none]) d_Mo_append_43 (by decide) rfl ?_
            refine j_aload_n d_Mo_append_45 rfl ?_
            refine j_iload d_Mo_append_46 rfl ?_
            refine j_if_ne (tgt := 55) d_Mo_append_48 (by decide) (fun c => absurd c (by decide)) (fun _ => ?_)
            refine j_iconst (v := 1) d_Mo_append_51 (by decide) ?_
            refine j_goto (tgt := 80) d_Mo_append_52 (by decide) ?_
            refine j_callV (d' := 1) (ci := 10) (As := [.int ((1 : Int32))]) (rest := []) (b := a2) cv_Mo_149 me_Mo_isFine rfl (by decide) rfl rfl t10 rfl rfl (Nat.le_of_ble_eq_true rfl) d_Mo_append_80 (by decide) rfl (j_enter (L := [some (.ref a2), some (.int ((1 : Int32)))]) me_Mo_isFine (cat_c rfl (cat_c rfl cat_n)) (Nat.le_of_ble_eq_true rfl) rfl ?_)
            refine j_aload_n d_Mo_isFine_0 rfl ?_
            refine j_iload_n d_Mo_isFine_1 rfl ?_
            refine j_putI (f := 640) fw_Mo_139 rfl rfl t10 d_Mo_isFine_2 ?_
            refine j_iload_n d_Mo_isFine_5 rfl ?_
            refine j_if_ne (tgt := 13) d_Mo_isFine_6 (by decide) (fun _ => ?_) (fun c => absurd c (by decide))
            refine j_iconst (v := 0) d_Mo_isFine_13 (by decide) ?_
            refine j_zret rfl (by decide) d_Mo_isFine_14 ?_
            show J E 3 m_Mo_append 83 [some (.ref a2), some (.int ((gA G a0 n3))), some (.int ((gA G a0 n5))), some (.int ((gA G a0 n7))), some (.int ((gA G a0 n9))), some (.int ((0 : Int32))), some (.int ((0 : Int32))), none] [.int ((0 : Int32))] (sI G 640 a2 ((1 : Int32))) (aft E 14 m_La_law 382 [some (.ref a0), some (.ref a1), some (.ref a2), some (.ref a3), some (.int p4), some (.int s0), none] [] Post)
            refine j_if_ne (tgt := 88) d_Mo_append_83 (by decide) (fun c => absurd c (by decide)) (fun _ => ?_)
            refine j_iconst (v := 0) d_Mo_append_86 (by decide) ?_
            refine j_iret rfl d_Mo_append_87 ?_
            show J E 14 m_La_law 385 [some (.ref a0), some (.ref a1), some (.ref a2), some (.ref a3), some (.int p4), some (.int s0), none] [.int ((0 : Int32))] (sI G 640 a2 ((1 : Int32))) Post
            refine j_istore (L' := [some (.ref a0), some (.ref a1), some (.ref a2), some (.ref a3), some (.int p4), some (.int s0), some (.int ((0 : Int32)))]) d_La_law_385 (by decide) rfl ?_
            refine j_aload_n d_La_law_387 rfl ?_
            refine j_callV (d' := 1) (ci := 10) (As := []) (rest := []) (b := a2) cv_La_80 me_Mo_thrown rfl (by decide) rfl rfl t10 rfl rfl (Nat.le_of_ble_eq_true rfl) d_La_law_388 (by decide) rfl (j_enter (L := [some (.ref a2)]) me_Mo_thrown (cat_c rfl cat_n) (Nat.le_of_ble_eq_true rfl) rfl ?_)
            refine j_aload_n d_Mo_thrown_0 rfl ?_
            refine j_getIv (f := 640) (v := ((1 : Int32))) fe_Mo_139 rfl rfl t10 (show gI (sI G 640 a2 ((1 : Int32))) 640 a2 = _ from gI_sI_eq) d_Mo_thrown_1 ?_
            refine j_iret rfl d_Mo_thrown_4 ?_
            show J E 14 m_La_law 391 [some (.ref a0), some (.ref a1), some (.ref a2), some (.ref a3), some (.int p4), some (.int s0), some (.int ((0 : Int32)))] [.int (((1 : Int32)))] (sI G 640 a2 ((1 : Int32))) Post
            refine j_iload d_La_law_391 rfl ?_
            obtain ⟨Ha, Hb⟩ := H
            refine j_icmp_eq (tgt := 398) d_La_law_393 (by decide) (fun c41 => ?_) (fun c42 => ?_)
            · have H := Ha c41
              refine j_iload d_La_law_398 rfl ?_
              obtain ⟨Ha, Hb⟩ := H
              refine j_if_ne (tgt := 415) d_La_law_400 (by decide) (fun c39 => ?_) (fun c40 => ?_)
              · have H := Ha c39
                refine j_goto (tgt := 1295) d_La_law_415 (by decide) ?_
                refine j_iinc (v := (p4 + (7 : Int32))) (L' := [some (.ref a0), some (.ref a1), some (.ref a2), some (.ref a3), some (.int ((p4 + (7 : Int32)))), some (.int s0), some (.int ((0 : Int32)))]) d_La_law_1295 rfl (by rw [show Int32.ofInt (7) = (7 : Int32) by decide]) (by decide) rfl ?_
                refine j_goto (tgt := 23) d_La_law_1298 (by decide) ?_
                refine j_forget (L' := [some (.ref a0), some (.ref a1), some (.ref a2), some (.ref a3), some (.int ((p4 + (7 : Int32)))), none, none]) ⟨Or.inr rfl, Or.inr rfl, Or.inr rfl, Or.inr rfl, Or.inr rfl, Or.inl rfl, Or.inl rfl, trivial⟩ ?_
                exact H
              · have H := Hb c40
                refine j_aload_n d_La_law_403 rfl ?_
                refine j_iconst (v := 0) d_La_law_404 (by decide) ?_
                obtain ⟨t35, H⟩ := H
                obtain ⟨x36, H⟩ := H
                refine j_lald (n := 0) t35 x36 d_La_law_405 ?_
                refine j_iload d_La_law_406 rfl ?_
                refine j_i2l d_La_law_408 ?_
                refine j_lcmp d_La_law_409 ?_
                obtain ⟨Ha, Hb⟩ := H
                refine j_if_eq (tgt := 415) d_La_law_410 (by decide) (fun c37 => ?_) (fun c38 => ?_)
                · have H := Ha c37
                  refine j_goto (tgt := 1295) d_La_law_415 (by decide) ?_
                  refine j_iinc (v := (p4 + (7 : Int32))) (L' := [some (.ref a0), some (.ref a1), some (.ref a2), some (.ref a3), some (.int ((p4 + (7 : Int32)))), some (.int s0), some (.int ((0 : Int32)))]) d_La_law_1295 rfl (by rw [show Int32.ofInt (7) = (7 : Int32) by decide]) (by decide) rfl ?_
                  refine j_goto (tgt := 23) d_La_law_1298 (by decide) ?_
                  refine j_forget (L' := [some (.ref a0), some (.ref a1), some (.ref a2), some (.ref a3), some (.int ((p4 + (7 : Int32)))), none, none]) ⟨Or.inr rfl, Or.inr rfl, Or.inr rfl, Or.inr rfl, Or.inr rfl, Or.inl rfl, Or.inl rfl, trivial⟩ ?_
                  exact H
                · have H := Hb c38
                  refine j_iconst (v := 0) d_La_law_413 (by decide) ?_
                  exact j_zret rfl (by decide) d_La_law_414 H
            · have H := Hb c42
              refine j_iconst (v := 0) d_La_law_396 (by decide) ?_
              exact j_zret rfl (by decide) d_La_law_397 H
          · have H := Hb c72
            refine j_iconst (v := 1) d_Mo_isIn_10 (by decide) ?_
            refine j_goto (tgt := 15) d_Mo_isIn_11 (by decide) ?_
            refine j_zret rfl (by decide) d_Mo_isIn_15 ?_
            show J E 2 m_Mo_isKey 6 [some (.int ((gA G a0 n7)))] [.int ((1 : Int32))] G (aft E 3 m_Mo_append 18 [some (.ref a2), some (.int ((gA G a0 n3))), some (.int ((gA G a0 n5))), some (.int ((gA G a0 n7))), some (.int ((gA G a0 n9))), some (.int ((0 : Int32))), none, none] [] (aft E 14 m_La_law 382 [some (.ref a0), some (.ref a1), some (.ref a2), some (.ref a3), some (.int p4), some (.int s0), none] [] Post))
            refine j_zret rfl (by decide) d_Mo_isKey_6 ?_
            show J E 3 m_Mo_append 21 [some (.ref a2), some (.int ((gA G a0 n3))), some (.int ((gA G a0 n5))), some (.int ((gA G a0 n7))), some (.int ((gA G a0 n9))), some (.int ((0 : Int32))), none, none] [.int ((1 : Int32))] G (aft E 14 m_La_law 382 [some (.ref a0), some (.ref a1), some (.ref a2), some (.ref a3), some (.int p4), some (.int s0), none] [] Post)
            refine j_if_eq (tgt := 42) d_Mo_append_21 (by decide) (fun c => absurd c (by decide)) (fun _ => ?_)
            refine j_iload d_Mo_append_24 rfl ?_
            refine j_sipush (v := -1000) d_Mo_append_26 (by decide) ?_
            refine j_sipush (v := 1000) d_Mo_append_29 (by decide) ?_
            refine j_callS (d' := 1) (As := [.int ((gA G a0 n9)), .int ((-1000 : Int32)), .int ((1000 : Int32))]) (rest := []) cs_Mo_142 me_Mo_isIn rfl (by decide) rfl rfl (Nat.le_of_ble_eq_true rfl) d_Mo_append_32 (by decide) rfl (j_enter (L := [some (.int ((gA G a0 n9))), some (.int ((-1000 : Int32))), some (.int ((1000 : Int32)))]) me_Mo_isIn (cat_c rfl (cat_c rfl (cat_c rfl cat_n))) (Nat.le_of_ble_eq_true rfl) rfl ?_)
            refine j_iload_n d_Mo_isIn_0 rfl ?_
            refine j_iload_n d_Mo_isIn_1 rfl ?_
            obtain ⟨Ha, Hb⟩ := H
            refine j_icmp_lt (tgt := 14) d_Mo_isIn_2 (by decide) (fun c69 => ?_) (fun c70 => ?_)
            · have H := Ha c69
              refine j_iconst (v := 0) d_Mo_isIn_14 (by decide) ?_
              refine j_zret rfl (by decide) d_Mo_isIn_15 ?_
              show J E 3 m_Mo_append 35 [some (.ref a2), some (.int ((gA G a0 n3))), some (.int ((gA G a0 n5))), some (.int ((gA G a0 n7))), some (.int ((gA G a0 n9))), some (.int ((0 : Int32))), none, none] [.int ((0 : Int32))] G (aft E 14 m_La_law 382 [some (.ref a0), some (.ref a1), some (.ref a2), some (.ref a3), some (.int p4), some (.int s0), none] [] Post)
              refine j_if_eq (tgt := 42) d_Mo_append_35 (by decide) (fun _ => ?_) (fun c => absurd c (by decide))
              refine j_iconst (v := 0) d_Mo_append_42 (by decide) ?_
              refine j_istore (L' := [some (.ref a2), some (.int ((gA G a0 n3))), some (.int ((gA G a0 n5))), some (.int ((gA G a0 n7))), some (.int ((gA G a0 n9))), some (.int ((0 : Int32))), some (.int ((0 : Int32))), none]) d_Mo_append_43 (by decide) rfl ?_
              refine j_aload_n d_Mo_append_45 rfl ?_
              refine j_iload d_Mo_append_46 rfl ?_
              refine j_if_ne (tgt := 55) d_Mo_append_48 (by decide) (fun c => absurd c (by decide)) (fun _ => ?_)
              refine j_iconst (v := 1) d_Mo_append_51 (by decide) ?_
              refine j_goto (tgt := 80) d_Mo_append_52 (by decide) ?_
              refine j_callV (d' := 1) (ci := 10) (As := [.int ((1 : Int32))]) (rest := []) (b := a2) cv_Mo_149 me_Mo_isFine rfl (by decide) rfl rfl t10 rfl rfl (Nat.le_of_ble_eq_true rfl) d_Mo_append_80 (by decide) rfl (j_enter (L := [some (.ref a2), some (.int ((1 : Int32)))]) me_Mo_isFine (cat_c rfl (cat_c rfl cat_n)) (Nat.le_of_ble_eq_true rfl) rfl ?_)
              refine j_aload_n d_Mo_isFine_0 rfl ?_
              refine j_iload_n d_Mo_isFine_1 rfl ?_
              refine j_putI (f := 640) fw_Mo_139 rfl rfl t10 d_Mo_isFine_2 ?_
              refine j_iload_n d_Mo_isFine_5 rfl ?_
              refine j_if_ne (tgt := 13) d_Mo_isFine_6 (by decide) (fun _ => ?_) (fun c => absurd c (by decide))
              refine j_iconst (v := 0) d_Mo_isFine_13 (by decide) ?_
              refine j_zret rfl (by decide) d_Mo_isFine_14 ?_
              show J E 3 m_Mo_append 83 [some (.ref a2), some (.int ((gA G a0 n3))), some (.int ((gA G a0 n5))), some (.int ((gA G a0 n7))), some (.int ((gA G a0 n9))), some (.int ((0 : Int32))), some (.int ((0 : Int32))), none] [.int ((0 : Int32))] (sI G 640 a2 ((1 : Int32))) (aft E 14 m_La_law 382 [some (.ref a0), some (.ref a1), some (.ref a2), some (.ref a3), some (.int p4), some (.int s0), none] [] Post)
              refine j_if_ne (tgt := 88) d_Mo_append_83 (by decide) (fun c => absurd c (by decide)) (fun _ => ?_)
              refine j_iconst (v := 0) d_Mo_append_86 (by decide) ?_
              refine j_iret rfl d_Mo_append_87 ?_
              show J E 14 m_La_law 385 [some (.ref a0), some (.ref a1), some (.ref a2), some (.ref a3), some (.int p4), some (.int s0), none] [.int ((0 : Int32))] (sI G 640 a2 ((1 : Int32))) Post
              refine j_istore (L' := [some (.ref a0), some (.ref a1), some (.ref a2), some (.ref a3), some (.int p4), some (.int s0), some (.int ((0 : Int32)))]) d_La_law_385 (by decide) rfl ?_
              refine j_aload_n d_La_law_387 rfl ?_
              refine j_callV (d' := 1) (ci := 10) (As := []) (rest := []) (b := a2) cv_La_80 me_Mo_thrown rfl (by decide) rfl rfl t10 rfl rfl (Nat.le_of_ble_eq_true rfl) d_La_law_388 (by decide) rfl (j_enter (L := [some (.ref a2)]) me_Mo_thrown (cat_c rfl cat_n) (Nat.le_of_ble_eq_true rfl) rfl ?_)
              refine j_aload_n d_Mo_thrown_0 rfl ?_
              refine j_getIv (f := 640) (v := ((1 : Int32))) fe_Mo_139 rfl rfl t10 (show gI (sI G 640 a2 ((1 : Int32))) 640 a2 = _ from gI_sI_eq) d_Mo_thrown_1 ?_
              refine j_iret rfl d_Mo_thrown_4 ?_
              show J E 14 m_La_law 391 [some (.ref a0), some (.ref a1), some (.ref a2), some (.ref a3), some (.int p4), some (.int s0), some (.int ((0 : Int32)))] [.int (((1 : Int32)))] (sI G 640 a2 ((1 : Int32))) Post
              refine j_iload d_La_law_391 rfl ?_
              obtain ⟨Ha, Hb⟩ := H
              refine j_icmp_eq (tgt := 398) d_La_law_393 (by decide) (fun c49 => ?_) (fun c50 => ?_)
              · have H := Ha c49
                refine j_iload d_La_law_398 rfl ?_
                obtain ⟨Ha, Hb⟩ := H
                refine j_if_ne (tgt := 415) d_La_law_400 (by decide) (fun c47 => ?_) (fun c48 => ?_)
                · have H := Ha c47
                  refine j_goto (tgt := 1295) d_La_law_415 (by decide) ?_
                  refine j_iinc (v := (p4 + (7 : Int32))) (L' := [some (.ref a0), some (.ref a1), some (.ref a2), some (.ref a3), some (.int ((p4 + (7 : Int32)))), some (.int s0), some (.int ((0 : Int32)))]) d_La_law_1295 rfl (by rw [show Int32.ofInt (7) = (7 : Int32) by decide]) (by decide) rfl ?_
                  refine j_goto (tgt := 23) d_La_law_1298 (by decide) ?_
                  refine j_forget (L' := [some (.ref a0), some (.ref a1), some (.ref a2), some (.ref a3), some (.int ((p4 + (7 : Int32)))), none, none]) ⟨Or.inr rfl, Or.inr rfl, Or.inr rfl, Or.inr rfl, Or.inr rfl, Or.inl rfl, Or.inl rfl, trivial⟩ ?_
                  exact H
                · have H := Hb c48
                  refine j_aload_n d_La_law_403 rfl ?_
                  refine j_iconst (v := 0) d_La_law_404 (by decide) ?_
                  obtain ⟨t43, H⟩ := H
                  obtain ⟨x44, H⟩ := H
                  refine j_lald (n := 0) t43 x44 d_La_law_405 ?_
                  refine j_iload d_La_law_406 rfl ?_
                  refine j_i2l d_La_law_408 ?_
                  refine j_lcmp d_La_law_409 ?_
                  obtain ⟨Ha, Hb⟩ := H
                  refine j_if_eq (tgt := 415) d_La_law_410 (by decide) (fun c45 => ?_) (fun c46 => ?_)
                  · have H := Ha c45
                    refine j_goto (tgt := 1295) d_La_law_415 (by decide) ?_
                    refine j_iinc (v := (p4 + (7 : Int32))) (L' := [some (.ref a0), some (.ref a1), some (.ref a2), some (.ref a3), some (.int ((p4 + (7 : Int32)))), some (.int s0), some (.int ((0 : Int32)))]) d_La_law_1295 rfl (by rw [show Int32.ofInt (7) = (7 : Int32) by decide]) (by decide) rfl ?_
                    refine j_goto (tgt := 23) d_La_law_1298 (by decide) ?_
                    refine j_forget (L' := [some (.ref a0), some (.ref a1), some (.ref a2), some (.ref a3), some (.int ((p4 + (7 : Int32)))), none, none]) ⟨Or.inr rfl, Or.inr rfl, Or.inr rfl, Or.inr rfl, Or.inr rfl, Or.inl rfl, Or.inl rfl, trivial⟩ ?_
                    exact H
                  · have H := Hb c46
                    refine j_iconst (v := 0) d_La_law_413 (by decide) ?_
                    exact j_zret rfl (by decide) d_La_law_414 H
              · have H := Hb c50
                refine j_iconst (v := 0) d_La_law_396 (by decide) ?_
                exact j_zret rfl (by decide) d_La_law_397 H
            · have H := Hb c70
              refine j_iload_n d_Mo_isIn_5 rfl ?_
              refine j_iload_n d_Mo_isIn_6 rfl ?_
              obtain ⟨Ha, Hb⟩ := H
              refine j_icmp_gt (tgt := 14) d_Mo_isIn_7 (by decide) (fun c67 => ?_) (fun c68 => ?_)
              · have H := Ha c67
                refine j_iconst (v := 0) d_Mo_isIn_14 (by decide) ?_
                refine j_zret rfl (by decide) d_Mo_isIn_15 ?_
                show J E 3 m_Mo_append 35 [some (.ref a2), some (.int ((gA G a0 n3))), some (.int ((gA G a0 n5))), some (.int ((gA G a0 n7))), some (.int ((gA G a0 n9))), some (.int ((0 : Int32))), none, none] [.int ((0 : Int32))] G (aft E 14 m_La_law 382 [some (.ref a0), some (.ref a1), some (.ref a2), some (.ref a3), some (.int p4), some (.int s0), none] [] Post)
                refine j_if_eq (tgt := 42) d_Mo_append_35 (by decide) (fun _ => ?_) (fun c => absurd c (by decide))
                refine j_iconst (v := 0) d_Mo_append_42 (by decide) ?_
                refine j_istore (L' := [some (.ref a2), some (.int ((gA G a0 n3))), some (.int ((gA G a0 n5))), some (.int ((gA G a0 n7))), some (.int ((gA G a0 n9))), some (.int ((0 : Int32))), some (.int ((0 : Int32))), none]) d_Mo_append_43 (by decide) rfl ?_
                refine j_aload_n d_Mo_append_45 rfl ?_
                refine j_iload d_Mo_append_46 rfl ?_
                refine j_if_ne (tgt := 55) d_Mo_append_48 (by decide) (fun c => absurd c (by decide)) (fun _ => ?_)
                refine j_iconst (v := 1) d_Mo_append_51 (by decide) ?_
                refine j_goto (tgt := 80) d_Mo_append_52 (by decide) ?_
                refine j_callV (d' := 1) (ci := 10) (As := [.int ((1 : Int32))]) (rest := []) (b := a2) cv_Mo_149 me_Mo_isFine rfl (by decide) rfl rfl t10 rfl rfl (Nat.le_of_ble_eq_true rfl) d_Mo_append_80 (by decide) rfl (j_enter (L := [some (.ref a2), some (.int ((1 : Int32)))]) me_Mo_isFine (cat_c rfl (cat_c rfl cat_n)) (Nat.le_of_ble_eq_true rfl) rfl ?_)
                refine j_aload_n d_Mo_isFine_0 rfl ?_
                refine j_iload_n d_Mo_isFine_1 rfl ?_
                refine j_putI (f := 640) fw_Mo_139 rfl rfl t10 d_Mo_isFine_2 ?_
                refine j_iload_n d_Mo_isFine_5 rfl ?_
                refine j_if_ne (tgt := 13) d_Mo_isFine_6 (by decide) (fun _ => ?_) (fun c => absurd c (by decide))
                refine j_iconst (v := 0) d_Mo_isFine_13 (by decide) ?_
                refine j_zret rfl (by decide) d_Mo_isFine_14 ?_
                show J E 3 m_Mo_append 83 [some (.ref a2), some (.int ((gA G a0 n3))), some (.int ((gA G a0 n5))), some (.int ((gA G a0 n7))), some (.int ((gA G a0 n9))), some (.int ((0 : Int32))), some (.int ((0 : Int32))), none] [.int ((0 : Int32))] (sI G 640 a2 ((1 : Int32))) (aft E 14 m_La_law 382 [some (.ref a0), some (.ref a1), some (.ref a2), some (.ref a3), some (.int p4), some (.int s0), none] [] Post)
                refine j_if_ne (tgt := 88) d_Mo_append_83 (by decide) (fun c => absurd c (by decide)) (fun _ => ?_)
                refine j_iconst (v := 0) d_Mo_append_86 (by decide) ?_
                refine j_iret rfl d_Mo_append_87 ?_
                show J E 14 m_La_law 385 [some (.ref a0), some (.ref a1), some (.ref a2), some (.ref a3), some (.int p4), some (.int s0), none] [.int ((0 : Int32))] (sI G 640 a2 ((1 : Int32))) Post
                refine j_istore (L' := [some (.ref a0), some (.ref a1), some (.ref a2), some (.ref a3), some (.int p4), some (.int s0), some (.int ((0 : Int32)))]) d_La_law_385 (by decide) rfl ?_
                refine j_aload_n d_La_law_387 rfl ?_
                refine j_callV (d' := 1) (ci := 10) (As := []) (rest := []) (b := a2) cv_La_80 me_Mo_thrown rfl (by decide) rfl rfl t10 rfl rfl (Nat.le_of_ble_eq_true rfl) d_La_law_388 (by decide) rfl (j_enter (L := [some (.ref a2)]) me_Mo_thrown (cat_c rfl cat_n) (Nat.le_of_ble_eq_true rfl) rfl ?_)
                refine j_aload_n d_Mo_thrown_0 rfl ?_
                refine j_getIv (f := 640) (v := ((1 : Int32))) fe_Mo_139 rfl rfl t10 (show gI (sI G 640 a2 ((1 : Int32))) 640 a2 = _ from gI_sI_eq) d_Mo_thrown_1 ?_
                refine j_iret rfl d_Mo_thrown_4 ?_
                show J E 14 m_La_law 391 [some (.ref a0), some (.ref a1), some (.ref a2), some (.ref a3), some (.int p4), some (.int s0), some (.int ((0 : Int32)))] [.int (((1 : Int32)))] (sI G 640 a2 ((1 : Int32))) Post
                refine j_iload d_La_law_391 rfl ?_
                obtain ⟨Ha, Hb⟩ := H
                refine j_icmp_eq (tgt := 398) d_La_law_393 (by decide) (fun c57 => ?_) (fun c58 => ?_)
                · have H := Ha c57
                  refine j_iload d_La_law_398 rfl ?_
                  obtain ⟨Ha, Hb⟩ := H
                  refine j_if_ne (tgt := 415) d_La_law_400 (by decide) (fun c55 => ?_) (fun c56 => ?_)
                  · have H := Ha c55
                    refine j_goto (tgt := 1295) d_La_law_415 (by decide) ?_
                    refine j_iinc (v := (p4 + (7 : Int32))) (L' := [some (.ref a0), some (.ref a1), some (.ref a2), some (.ref a3), some (.int ((p4 + (7 : Int32)))), some (.int s0), some (.int ((0 : Int32)))]) d_La_law_1295 rfl (by rw [show Int32.ofInt (7) = (7 : Int32) by decide]) (by decide) rfl ?_
                    refine j_goto (tgt := 23) d_La_law_1298 (by decide) ?_
                    refine j_forget (L' := [some (.ref a0), some (.ref a1), some (.ref a2), some (.ref a3), some (.int ((p4 + (7 : Int32)))), none, none]) ⟨Or.inr rfl, Or.inr rfl, Or.inr rfl, Or.inr rfl, Or.inr rfl, Or.inl rfl, Or.inl rfl, trivial⟩ ?_
                    exact H
                  · have H := Hb c56
                    refine j_aload_n d_La_law_403 rfl ?_
                    refine j_iconst (v := 0) d_La_law_404 (by decide) ?_
                    obtain ⟨t51, H⟩ := H
                    obtain ⟨x52, H⟩ := H
                    refine j_lald (n := 0) t51 x52 d_La_law_405 ?_
                    refine j_iload d_La_law_406 rfl ?_
                    refine j_i2l d_La_law_408 ?_
                    refine j_lcmp d_La_law_409 ?_
                    obtain ⟨Ha, Hb⟩ := H
                    refine j_if_eq (tgt := 415) d_La_law_410 (by decide) (fun c53 => ?_) (fun c54 => ?_)
                    · have H := Ha c53
                      refine j_goto (tgt := 1295) d_La_law_415 (by decide) ?_
                      refine j_iinc (v := (p4 + (7 : Int32))) (L' := [some (.ref a0), some (.ref a1), some (.ref a2), some (.ref a3), some (.int ((p4 + (7 : Int32)))), some (.int s0), some (.int ((0 : Int32)))]) d_La_law_1295 rfl (by rw [show Int32.ofInt (7) = (7 : Int32) by decide]) (by decide) rfl ?_
                      refine j_goto (tgt := 23) d_La_law_1298 (by decide) ?_
                      refine j_forget (L' := [some (.ref a0), some (.ref a1), some (.ref a2), some (.ref a3), some (.int ((p4 + (7 : Int32)))), none, none]) ⟨Or.inr rfl, Or.inr rfl, Or.inr rfl, Or.inr rfl, Or.inr rfl, Or.inl rfl, Or.inl rfl, trivial⟩ ?_
                      exact H
                    · have H := Hb c54
                      refine j_iconst (v := 0) d_La_law_413 (by decide) ?_
                      exact j_zret rfl (by decide) d_La_law_414 H
                · have H := Hb c58
                  refine j_iconst (v := 0) d_La_law_396 (by decide) ?_
                  exact j_zret rfl (by decide) d_La_law_397 H
              · have H := Hb c68
                refine j_iconst (v := 1) d_Mo_isIn_10 (by decide) ?_
                refine j_goto (tgt := 15) d_Mo_isIn_11 (by decide) ?_
                refine j_zret rfl (by decide) d_Mo_isIn_15 ?_
                show J E 3 m_Mo_append 35 [some (.ref a2), some (.int ((gA G a0 n3))), some (.int ((gA G a0 n5))), some (.int ((gA G a0 n7))), some (.int ((gA G a0 n9))), some (.int ((0 : Int32))), none, none] [.int ((1 : Int32))] G (aft E 14 m_La_law 382 [some (.ref a0), some (.ref a1), some (.ref a2), some (.ref a3), some (.int p4), some (.int s0), none] [] Post)
                refine j_if_eq (tgt := 42) d_Mo_append_35 (by decide) (fun c => absurd c (by decide)) (fun _ => ?_)
                refine j_iconst (v := 1) d_Mo_append_38 (by decide) ?_
                refine j_goto (tgt := 43) d_Mo_append_39 (by decide) ?_
                refine j_istore (L' := [some (.ref a2), some (.int ((gA G a0 n3))), some (.int ((gA G a0 n5))), some (.int ((gA G a0 n7))), some (.int ((gA G a0 n9))), some (.int ((0 : Int32))), some (.int ((1 : Int32))), none]) d_Mo_append_43 (by decide) rfl ?_
                refine j_aload_n d_Mo_append_45 rfl ?_
                refine j_iload d_Mo_append_46 rfl ?_
                refine j_if_ne (tgt := 55) d_Mo_append_48 (by decide) (fun c => absurd c (by decide)) (fun _ => ?_)
                refine j_iconst (v := 1) d_Mo_append_51 (by decide) ?_
                refine j_goto (tgt := 80) d_Mo_append_52 (by decide) ?_
                refine j_callV (d' := 1) (ci := 10) (As := [.int ((1 : Int32))]) (rest := []) (b := a2) cv_Mo_149 me_Mo_isFine rfl (by decide) rfl rfl t10 rfl rfl (Nat.le_of_ble_eq_true rfl) d_Mo_append_80 (by decide) rfl (j_enter (L := [some (.ref a2), some (.int ((1 : Int32)))]) me_Mo_isFine (cat_c rfl (cat_c rfl cat_n)) (Nat.le_of_ble_eq_true rfl) rfl ?_)
                refine j_aload_n d_Mo_isFine_0 rfl ?_
                refine j_iload_n d_Mo_isFine_1 rfl ?_
                refine j_putI (f := 640) fw_Mo_139 rfl rfl t10 d_Mo_isFine_2 ?_
                refine j_iload_n d_Mo_isFine_5 rfl ?_
                refine j_if_ne (tgt := 13) d_Mo_isFine_6 (by decide) (fun _ => ?_) (fun c => absurd c (by decide))
                refine j_iconst (v := 0) d_Mo_isFine_13 (by decide) ?_
                refine j_zret rfl (by decide) d_Mo_isFine_14 ?_
                show J E 3 m_Mo_append 83 [some (.ref a2), some (.int ((gA G a0 n3))), some (.int ((gA G a0 n5))), some (.int ((gA G a0 n7))), some (.int ((gA G a0 n9))), some (.int ((0 : Int32))), some (.int ((1 : Int32))), none] [.int ((0 : Int32))] (sI G 640 a2 ((1 : Int32))) (aft E 14 m_La_law 382 [some (.ref a0), some (.ref a1), some (.ref a2), some (.ref a3), some (.int p4), some (.int s0), none] [] Post)
                refine j_if_ne (tgt := 88) d_Mo_append_83 (by decide) (fun c => absurd c (by decide)) (fun _ => ?_)
                refine j_iconst (v := 0) d_Mo_append_86 (by decide) ?_
                refine j_iret rfl d_Mo_append_87 ?_
                show J E 14 m_La_law 385 [some (.ref a0), some (.ref a1), some (.ref a2), some (.ref a3), some (.int p4), some (.int s0), none] [.int ((0 : Int32))] (sI G 640 a2 ((1 : Int32))) Post
                refine j_istore (L' := [some (.ref a0), some (.ref a1), some (.ref a2), some (.ref a3), some (.int p4), some (.int s0), some (.int ((0 : Int32)))]) d_La_law_385 (by decide) rfl ?_
                refine j_aload_n d_La_law_387 rfl ?_
                refine j_callV (d' := 1) (ci := 10) (As := []) (rest := []) (b := a2) cv_La_80 me_Mo_thrown rfl (by decide) rfl rfl t10 rfl rfl (Nat.le_of_ble_eq_true rfl) d_La_law_388 (by decide) rfl (j_enter (L := [some (.ref a2)]) me_Mo_thrown (cat_c rfl cat_n) (Nat.le_of_ble_eq_true rfl) rfl ?_)
                refine j_aload_n d_Mo_thrown_0 rfl ?_
                refine j_getIv (f := 640) (v := ((1 : Int32))) fe_Mo_139 rfl rfl t10 (show gI (sI G 640 a2 ((1 : Int32))) 640 a2 = _ from gI_sI_eq) d_Mo_thrown_1 ?_
                refine j_iret rfl d_Mo_thrown_4 ?_
                show J E 14 m_La_law 391 [some (.ref a0), some (.ref a1), some (.ref a2), some (.ref a3), some (.int p4), some (.int s0), some (.int ((0 : Int32)))] [.int (((1 : Int32)))] (sI G 640 a2 ((1 : Int32))) Post
                refine j_iload d_La_law_391 rfl ?_
                obtain ⟨Ha, Hb⟩ := H
                refine j_icmp_eq (tgt := 398) d_La_law_393 (by decide) (fun c65 => ?_) (fun c66 => ?_)
                · have H := Ha c65
                  refine j_iload d_La_law_398 rfl ?_
                  obtain ⟨Ha, Hb⟩ := H
                  refine j_if_ne (tgt := 415) d_La_law_400 (by decide) (fun c63 => ?_) (fun c64 => ?_)
                  · have H := Ha c63
                    refine j_goto (tgt := 1295) d_La_law_415 (by decide) ?_
                    refine j_iinc (v := (p4 + (7 : Int32))) (L' := [some (.ref a0), some (.ref a1), some (.ref a2), some (.ref a3), some (.int ((p4 + (7 : Int32)))), some (.int s0), some (.int ((0 : Int32)))]) d_La_law_1295 rfl (by rw [show Int32.ofInt (7) = (7 : Int32) by decide]) (by decide) rfl ?_
                    refine j_goto (tgt := 23) d_La_law_1298 (by decide) ?_
                    refine j_forget (L' := [some (.ref a0), some (.ref a1), some (.ref a2), some (.ref a3), some (.int ((p4 + (7 : Int32)))), none, none]) ⟨Or.inr rfl, Or.inr rfl, Or.inr rfl, Or.inr rfl, Or.inr rfl, Or.inl rfl, Or.inl rfl, trivial⟩ ?_
                    exact H
                  · have H := Hb c64
                    refine j_aload_n d_La_law_403 rfl ?_
                    refine j_iconst (v := 0) d_La_law_404 (by decide) ?_
                    obtain ⟨t59, H⟩ := H
                    obtain ⟨x60, H⟩ := H
                    refine j_lald (n := 0) t59 x60 d_La_law_405 ?_
                    refine j_iload d_La_law_406 rfl ?_
                    refine j_i2l d_La_law_408 ?_
                    refine j_lcmp d_La_law_409 ?_
                    obtain ⟨Ha, Hb⟩ := H
                    refine j_if_eq (tgt := 415) d_La_law_410 (by decide) (fun c61 => ?_) (fun c62 => ?_)
                    · have H := Ha c61
                      refine j_goto (tgt := 1295) d_La_law_415 (by decide) ?_
                      refine j_iinc (v := (p4 + (7 : Int32))) (L' := [some (.ref a0), some (.ref a1), some (.ref a2), some (.ref a3), some (.int ((p4 + (7 : Int32)))), some (.int s0), some (.int ((0 : Int32)))]) d_La_law_1295 rfl (by rw [show Int32.ofInt (7) = (7 : Int32) by decide]) (by decide) rfl ?_
                      refine j_goto (tgt := 23) d_La_law_1298 (by decide) ?_
                      refine j_forget (L' := [some (.ref a0), some (.ref a1), some (.ref a2), some (.ref a3), some (.int ((p4 + (7 : Int32)))), none, none]) ⟨Or.inr rfl, Or.inr rfl, Or.inr rfl, Or.inr rfl, Or.inr rfl, Or.inl rfl, Or.inl rfl, trivial⟩ ?_
                      exact H
                    · have H := Hb c62
                      refine j_iconst (v := 0) d_La_law_413 (by decide) ?_
                      exact j_zret rfl (by decide) d_La_law_414 H
                · have H := Hb c66
                  refine j_iconst (v := 0) d_La_law_396 (by decide) ?_
                  exact j_zret rfl (by decide) d_La_law_397 H
  · have H := Hb c251
    refine j_iload_n d_Mo_isIn_5 rfl ?_
    refine j_iload_n d_Mo_isIn_6 rfl ?_
    obtain ⟨Ha, Hb⟩ := H
    refine j_icmp_gt (tgt := 14) d_Mo_isIn_7 (by decide) (fun c248 => ?_) (fun c249 => ?_)
    · have H := Ha c248
      refine j_iconst (v := 0) d_Mo_isIn_14 (by decide) ?_
      refine j_zret rfl (by decide) d_Mo_isIn_15 ?_
      show J E 2 m_Mo_isSource 6 [some (.int ((gA G a0 n3)))] [.int ((0 : Int32))] G (aft E 3 m_Mo_append 1 [some (.ref a2), some (.int ((gA G a0 n3))), some (.int ((gA G a0 n5))), some (.int ((gA G a0 n7))), some (.int ((gA G a0 n9))), none, none, none] [] (aft E 14 m_La_law 382 [some (.ref a0), some (.ref a1), some (.ref a2), some (.ref a3), some (.int p4), some (.int s0), none] [] Post))
      refine j_zret rfl (by decide) d_Mo_isSource_6 ?_
      show J E 3 m_Mo_append 4 [some (.ref a2), some (.int ((gA G a0 n3))), some (.int ((gA G a0 n5))), some (.int ((gA G a0 n7))), some (.int ((gA G a0 n9))), none, none, none] [.int ((0 : Int32))] G (aft E 14 m_La_law 382 [some (.ref a0), some (.ref a1), some (.ref a2), some (.ref a3), some (.int p4), some (.int s0), none] [] Post)
      refine j_istore (L' := [some (.ref a2), some (.int ((gA G a0 n3))), some (.int ((gA G a0 n5))), some (.int ((gA G a0 n7))), some (.int ((gA G a0 n9))), some (.int ((0 : Int32))), none, none]) d_Mo_append_4 (by decide) rfl ?_
      refine j_iload_n d_Mo_append_6 rfl ?_
      refine j_iconst (v := 0) d_Mo_append_7 (by decide) ?_
      refine j_sipush (v := 999) d_Mo_append_8 (by decide) ?_
      refine j_callS (d' := 1) (As := [.int ((gA G a0 n5)), .int ((0 : Int32)), .int ((999 : Int32))]) (rest := []) cs_Mo_142 me_Mo_isIn rfl (by decide) rfl rfl (Nat.le_of_ble_eq_true rfl) d_Mo_append_11 (by decide) rfl (j_enter (L := [some (.int ((gA G a0 n5))), some (.int ((0 : Int32))), some (.int ((999 : Int32)))]) me_Mo_isIn (cat_c rfl (cat_c rfl (cat_c rfl cat_n))) (Nat.le_of_ble_eq_true rfl) rfl ?_)
      refine j_iload_n d_Mo_isIn_0 rfl ?_
      refine j_iload_n d_Mo_isIn_1 rfl ?_
      obtain ⟨Ha, Hb⟩ := H
      refine j_icmp_lt (tgt := 14) d_Mo_isIn_2 (by decide) (fun c145 => ?_) (fun c146 => ?_)
      · have H := Ha c145
        refine j_iconst (v := 0) d_Mo_isIn_14 (by decide) ?_
        refine j_zret rfl (by decide) d_Mo_isIn_15 ?_
        show J E 3 m_Mo_append 14 [some (.ref a2), some (.int ((gA G a0 n3))), some (.int ((gA G a0 n5))), some (.int ((gA G a0 n7))), some (.int ((gA G a0 n9))), some (.int ((0 : Int32))), none, none] [.int ((0 : Int32))] G (aft E 14 m_La_law 382 [some (.ref a0), some (.ref a1), some (.ref a2), some (.ref a3), some (.int p4), some (.int s0), none] [] Post)
        refine j_if_eq (tgt := 42) d_Mo_append_14 (by decide) (fun _ => ?_) (fun c => absurd c (by decide))
        refine j_iconst (v := 0) d_Mo_append_42 (by decide) ?_
        refine j_istore (L' := [some (.ref a2), some (.int ((gA G a0 n3))), some (.int ((gA G a0 n5))), some (.int ((gA G a0 n7))), some (.int ((gA G a0 n9))), some (.int ((0 : Int32))), some (.int ((0 : Int32))), none]) d_Mo_append_43 (by decide) rfl ?_
        refine j_aload_n d_Mo_append_45 rfl ?_
        refine j_iload d_Mo_append_46 rfl ?_
        refine j_if_ne (tgt := 55) d_Mo_append_48 (by decide) (fun c => absurd c (by decide)) (fun _ => ?_)
        refine j_iconst (v := 1) d_Mo_append_51 (by decide) ?_
        refine j_goto (tgt := 80) d_Mo_append_52 (by decide) ?_
        refine j_callV (d' := 1) (ci := 10) (As := [.int ((1 : Int32))]) (rest := []) (b := a2) cv_Mo_149 me_Mo_isFine rfl (by decide) rfl rfl t10 rfl rfl (Nat.le_of_ble_eq_true rfl) d_Mo_append_80 (by decide) rfl (j_enter (L := [some (.ref a2), some (.int ((1 : Int32)))]) me_Mo_isFine (cat_c rfl (cat_c rfl cat_n)) (Nat.le_of_ble_eq_true rfl) rfl ?_)
        refine j_aload_n d_Mo_isFine_0 rfl ?_
        refine j_iload_n d_Mo_isFine_1 rfl ?_
        refine j_putI (f := 640) fw_Mo_139 rfl rfl t10 d_Mo_isFine_2 ?_
        refine j_iload_n d_Mo_isFine_5 rfl ?_
        refine j_if_ne (tgt := 13) d_Mo_isFine_6 (by decide) (fun _ => ?_) (fun c => absurd c (by decide))
        refine j_iconst (v := 0) d_Mo_isFine_13 (by decide) ?_
        refine j_zret rfl (by decide) d_Mo_isFine_14 ?_
        show J E 3 m_Mo_append 83 [some (.ref a2), some (.int ((gA G a0 n3))), some (.int ((gA G a0 n5))), some (.int ((gA G a0 n7))), some (.int ((gA G a0 n9))), some (.int ((0 : Int32))), some (.int ((0 : Int32))), none] [.int ((0 : Int32))] (sI G 640 a2 ((1 : Int32))) (aft E 14 m_La_law 382 [some (.ref a0), some (.ref a1), some (.ref a2), some (.ref a3), some (.int p4), some (.int s0), none] [] Post)
        refine j_if_ne (tgt := 88) d_Mo_append_83 (by decide) (fun c => absurd c (by decide)) (fun _ => ?_)
        refine j_iconst (v := 0) d_Mo_append_86 (by decide) ?_
        refine j_iret rfl d_Mo_append_87 ?_
        show J E 14 m_La_law 385 [some (.ref a0), some (.ref a1), some (.ref a2), some (.ref a3), some (.int p4), some (.int s0), none] [.int ((0 : Int32))] (sI G 640 a2 ((1 : Int32))) Post
        refine j_istore (L' := [some (.ref a0), some (.ref a1), some (.ref a2), some (.ref a3), some (.int p4), some (.int s0), some (.int ((0 : Int32)))]) d_La_law_385 (by decide) rfl ?_
        refine j_aload_n d_La_law_387 rfl ?_
        refine j_callV (d' := 1) (ci := 10) (As := []) (rest := []) (b := a2) cv_La_80 me_Mo_thrown rfl (by decide) rfl rfl t10 rfl rfl (Nat.le_of_ble_eq_true rfl) d_La_law_388 (by decide) rfl (j_enter (L := [some (.ref a2)]) me_Mo_thrown (cat_c rfl cat_n) (Nat.le_of_ble_eq_true rfl) rfl ?_)
        refine j_aload_n d_Mo_thrown_0 rfl ?_
        refine j_getIv (f := 640) (v := ((1 : Int32))) fe_Mo_139 rfl rfl t10 (show gI (sI G 640 a2 ((1 : Int32))) 640 a2 = _ from gI_sI_eq) d_Mo_thrown_1 ?_
        refine j_iret rfl d_Mo_thrown_4 ?_
        show J E 14 m_La_law 391 [some (.ref a0), some (.ref a1), some (.ref a2), some (.ref a3), some (.int p4), some (.int s0), some (.int ((0 : Int32)))] [.int (((1 : Int32)))] (sI G 640 a2 ((1 : Int32))) Post
        refine j_iload d_La_law_391 rfl ?_
        obtain ⟨Ha, Hb⟩ := H
        refine j_icmp_eq (tgt := 398) d_La_law_393 (by decide) (fun c85 => ?_) (fun c86 => ?_)
        · have H := Ha c85
          refine j_iload d_La_law_398 rfl ?_
          obtain ⟨Ha, Hb⟩ := H
          refine j_if_ne (tgt := 415) d_La_law_400 (by decide) (fun c83 => ?_) (fun c84 => ?_)
          · have H := Ha c83
            refine j_goto (tgt := 1295) d_La_law_415 (by decide) ?_
            refine j_iinc (v := (p4 + (7 : Int32))) (L' := [some (.ref a0), some (.ref a1), some (.ref a2), some (.ref a3), some (.int ((p4 + (7 : Int32)))), some (.int s0), some (.int ((0 : Int32)))]) d_La_law_1295 rfl (by rw [show Int32.ofInt (7) = (7 : Int32) by decide]) (by decide) rfl ?_
            refine j_goto (tgt := 23) d_La_law_1298 (by decide) ?_
            refine j_forget (L' := [some (.ref a0), some (.ref a1), some (.ref a2), some (.ref a3), some (.int ((p4 + (7 : Int32)))), none, none]) ⟨Or.inr rfl, Or.inr rfl, Or.inr rfl, Or.inr rfl, Or.inr rfl, Or.inl rfl, Or.inl rfl, trivial⟩ ?_
            exact H
          · have H := Hb c84
            refine j_aload_n d_La_law_403 rfl ?_
            refine j_iconst (v := 0) d_La_law_404 (by decide) ?_
            obtain ⟨t79, H⟩ := H
            obtain ⟨x80, H⟩ := H
            refine j_lald (n := 0) t79 x80 d_La_law_405 ?_
            refine j_iload d_La_law_406 rfl ?_
            refine j_i2l d_La_law_408 ?_
            refine j_lcmp d_La_law_409 ?_
            obtain ⟨Ha, Hb⟩ := H
            refine j_if_eq (tgt := 415) d_La_law_410 (by decide) (fun c81 => ?_) (fun c82 => ?_)
            · have H := Ha c81
              refine j_goto (tgt := 1295) d_La_law_415 (by decide) ?_
              refine j_iinc (v := (p4 + (7 : Int32))) (L' := [some (.ref a0), some (.ref a1), some (.ref a2), some (.ref a3), some (.int ((p4 + (7 : Int32)))), some (.int s0), some (.int ((0 : Int32)))]) d_La_law_1295 rfl (by rw [show Int32.ofInt (7) = (7 : Int32) by decide]) (by decide) rfl ?_
              refine j_goto (tgt := 23) d_La_law_1298 (by decide) ?_
              refine j_forget (L' := [some (.ref a0), some (.ref a1), some (.ref a2), some (.ref a3), some (.int ((p4 + (7 : Int32)))), none, none]) ⟨Or.inr rfl, Or.inr rfl, Or.inr rfl, Or.inr rfl, Or.inr rfl, Or.inl rfl, Or.inl rfl, trivial⟩ ?_
              exact H
            · have H := Hb c82
              refine j_iconst (v := 0) d_La_law_413 (by decide) ?_
              exact j_zret rfl (by decide) d_La_law_414 H
        · have H := Hb c86
          refine j_iconst (v := 0) d_La_law_396 (by decide) ?_
          exact j_zret rfl (by decide) d_La_law_397 H
      · have H := Hb c146
        refine j_iload_n d_Mo_isIn_5 rfl ?_
        refine j_iload_n d_Mo_isIn_6 rfl ?_
        obtain ⟨Ha, Hb⟩ := H
        refine j_icmp_gt (tgt := 14) d_Mo_isIn_7 (by decide) (fun c143 => ?_) (fun c144 => ?_)
        · have H := Ha c143
          refine j_iconst (v := 0) d_Mo_isIn_14 (by decide) ?_
          refine j_zret rfl (by decide) d_Mo_isIn_15 ?_
          show J E 3 m_Mo_append 14 [some (.ref a2), some (.int ((gA G a0 n3))), some (.int ((gA G a0 n5))), some (.int ((gA G a0 n7))), some (.int ((gA G a0 n9))), some (.int ((0 : Int32))), none, none] [.int ((0 : Int32))] G (aft E 14 m_La_law 382 [some (.ref a0), some (.ref a1), some (.ref a2), some (.ref a3), some (.int p4), some (.int s0), none] [] Post)
          refine j_if_eq (tgt := 42) d_Mo_append_14 (by decide) (fun _ => ?_) (fun c => absurd c (by decide))
          refine j_iconst (v := 0) d_Mo_append_42 (by decide) ?_
          refine j_istore (L' := [some (.ref a2), some (.int ((gA G a0 n3))), some (.int ((gA G a0 n5))), some (.int ((gA G a0 n7))), some (.int ((gA G a0 n9))), some (.int ((0 : Int32))), some (.int ((0 : Int32))), none]) d_Mo_append_43 (by decide) rfl ?_
          refine j_aload_n d_Mo_append_45 rfl ?_
          refine j_iload d_Mo_append_46 rfl ?_
          refine j_if_ne (tgt := 55) d_Mo_append_48 (by decide) (fun c => absurd c (by decide)) (fun _ => ?_)
          refine j_iconst (v := 1) d_Mo_append_51 (by decide) ?_
          refine j_goto (tgt := 80) d_Mo_append_52 (by decide) ?_
          refine j_callV (d' := 1) (ci := 10) (As := [.int ((1 : Int32))]) (rest := []) (b := a2) cv_Mo_149 me_Mo_isFine rfl (by decide) rfl rfl t10 rfl rfl (Nat.le_of_ble_eq_true rfl) d_Mo_append_80 (by decide) rfl (j_enter (L := [some (.ref a2), some (.int ((1 : Int32)))]) me_Mo_isFine (cat_c rfl (cat_c rfl cat_n)) (Nat.le_of_ble_eq_true rfl) rfl ?_)
          refine j_aload_n d_Mo_isFine_0 rfl ?_
          refine j_iload_n d_Mo_isFine_1 rfl ?_
          refine j_putI (f := 640) fw_Mo_139 rfl rfl t10 d_Mo_isFine_2 ?_
          refine j_iload_n d_Mo_isFine_5 rfl ?_
          refine j_if_ne (tgt := 13) d_Mo_isFine_6 (by decide) (fun _ => ?_) (fun c => absurd c (by decide))
          refine j_iconst (v := 0) d_Mo_isFine_13 (by decide) ?_
          refine j_zret rfl (by decide) d_Mo_isFine_14 ?_
          show J E 3 m_Mo_append 83 [some (.ref a2), some (.int ((gA G a0 n3))), some (.int ((gA G a0 n5))), some (.int ((gA G a0 n7))), some (.int ((gA G a0 n9))), some (.int ((0 : Int32))), some (.int ((0 : Int32))), none] [.int ((0 : Int32))] (sI G 640 a2 ((1 : Int32))) (aft E 14 m_La_law 382 [some (.ref a0), some (.ref a1), some (.ref a2), some (.ref a3), some (.int p4), some (.int s0), none] [] Post)
          refine j_if_ne (tgt := 88) d_Mo_append_83 (by decide) (fun c => absurd c (by decide)) (fun _ => ?_)
          refine j_iconst (v := 0) d_Mo_append_86 (by decide) ?_
          refine j_iret rfl d_Mo_append_87 ?_
          show J E 14 m_La_law 385 [some (.ref a0), some (.ref a1), some (.ref a2), some (.ref a3), some (.int p4), some (.int s0), none] [.int ((0 : Int32))] (sI G 640 a2 ((1 : Int32))) Post
          refine j_istore (L' := [some (.ref a0), some (.ref a1), some (.ref a2), some (.ref a3), some (.int p4), some (.int s0), some (.int ((0 : Int32)))]) d_La_law_385 (by decide) rfl ?_
          refine j_aload_n d_La_law_387 rfl ?_
          refine j_callV (d' := 1) (ci := 10) (As := []) (rest := []) (b := a2) cv_La_80 me_Mo_thrown rfl (by decide) rfl rfl t10 rfl rfl (Nat.le_of_ble_eq_true rfl) d_La_law_388 (by decide) rfl (j_enter (L := [some (.ref a2)]) me_Mo_thrown (cat_c rfl cat_n) (Nat.le_of_ble_eq_true rfl) rfl ?_)
          refine j_aload_n d_Mo_thrown_0 rfl ?_
          refine j_getIv (f := 640) (v := ((1 : Int32))) fe_Mo_139 rfl rfl t10 (show gI (sI G 640 a2 ((1 : Int32))) 640 a2 = _ from gI_sI_eq) d_Mo_thrown_1 ?_
          refine j_iret rfl d_Mo_thrown_4 ?_
          show J E 14 m_La_law 391 [some (.ref a0), some (.ref a1), some (.ref a2), some (.ref a3), some (.int p4), some (.int s0), some (.int ((0 : Int32)))] [.int (((1 : Int32)))] (sI G 640 a2 ((1 : Int32))) Post
          refine j_iload d_La_law_391 rfl ?_
          obtain ⟨Ha, Hb⟩ := H
          refine j_icmp_eq (tgt := 398) d_La_law_393 (by decide) (fun c93 => ?_) (fun c94 => ?_)
          · have H := Ha c93
            refine j_iload d_La_law_398 rfl ?_
            obtain ⟨Ha, Hb⟩ := H
            refine j_if_ne (tgt := 415) d_La_law_400 (by decide) (fun c91 => ?_) (fun c92 => ?_)
            · have H := Ha c91
              refine j_goto (tgt := 1295) d_La_law_415 (by decide) ?_
              refine j_iinc (v := (p4 + (7 : Int32))) (L' := [some (.ref a0), some (.ref a1), some (.ref a2), some (.ref a3), some (.int ((p4 + (7 : Int32)))), some (.int s0), some (.int ((0 : Int32)))]) d_La_law_1295 rfl (by rw [show Int32.ofInt (7) = (7 : Int32) by decide]) (by decide) rfl ?_
              refine j_goto (tgt := 23) d_La_law_1298 (by decide) ?_
              refine j_forget (L' := [some (.ref a0), some (.ref a1), some (.ref a2), some (.ref a3), some (.int ((p4 + (7 : Int32)))), none, none]) ⟨Or.inr rfl, Or.inr rfl, Or.inr rfl, Or.inr rfl, Or.inr rfl, Or.inl rfl, Or.inl rfl, trivial⟩ ?_
              exact H
            · have H := Hb c92
              refine j_aload_n d_La_law_403 rfl ?_
              refine j_iconst (v := 0) d_La_law_404 (by decide) ?_
              obtain ⟨t87, H⟩ := H
              obtain ⟨x88, H⟩ := H
              refine j_lald (n := 0) t87 x88 d_La_law_405 ?_
              refine j_iload d_La_law_406 rfl ?_
              refine j_i2l d_La_law_408 ?_
              refine j_lcmp d_La_law_409 ?_
              obtain ⟨Ha, Hb⟩ := H
              refine j_if_eq (tgt := 415) d_La_law_410 (by decide) (fun c89 => ?_) (fun c90 => ?_)
              · have H := Ha c89
                refine j_goto (tgt := 1295) d_La_law_415 (by decide) ?_
                refine j_iinc (v := (p4 + (7 : Int32))) (L' := [some (.ref a0), some (.ref a1), some (.ref a2), some (.ref a3), some (.int ((p4 + (7 : Int32)))), some (.int s0), some (.int ((0 : Int32)))]) d_La_law_1295 rfl (by rw [show Int32.ofInt (7) = (7 : Int32) by decide]) (by decide) rfl ?_
                refine j_goto (tgt := 23) d_La_law_1298 (by decide) ?_
                refine j_forget (L' := [some (.ref a0), some (.ref a1), some (.ref a2), some (.ref a3), some (.int ((p4 + (7 : Int32)))), none, none]) ⟨Or.inr rfl, Or.inr rfl, Or.inr rfl, Or.inr rfl, Or.inr rfl, Or.inl rfl, Or.inl rfl, trivial⟩ ?_
                exact H
              · have H := Hb c90
                refine j_iconst (v := 0) d_La_law_413 (by decide) ?_
                exact j_zret rfl (by decide) d_La_law_414 H
          · have H := Hb c94
            refine j_iconst (v := 0) d_La_law_396 (by decide) ?_
            exact j_zret rfl (by decide) d_La_law_397 H
        · have H := Hb c144
          refine j_iconst (v := 1) d_Mo_isIn_10 (by decide) ?_
          refine j_goto (tgt := 15) d_Mo_isIn_11 (by decide) ?_
          refine j_zret rfl (by decide) d_Mo_isIn_15 ?_
          show J E 3 m_Mo_append 14 [some (.ref a2), some (.int ((gA G a0 n3))), some (.int ((gA G a0 n5))), some (.int ((gA G a0 n7))), some (.int ((gA G a0 n9))), some (.int ((0 : Int32))), none, none] [.int ((1 : Int32))] G (aft E 14 m_La_law 382 [some (.ref a0), some (.ref a1), some (.ref a2), some (.ref a3), some (.int p4), some (.int s0), none] [] Post)
          refine j_if_eq (tgt := 42) d_Mo_append_14 (by decide) (fun c => absurd c (by decide)) (fun _ => ?_)
          refine j_iload_n d_Mo_append_17 rfl ?_
          refine j_callS (d' := 2) (As := [.int ((gA G a0 n7))]) (rest := []) cs_Mo_159 me_Mo_isKey rfl (by decide) rfl rfl (Nat.le_of_ble_eq_true rfl) d_Mo_append_18 (by decide) rfl (j_enter (L := [some (.int ((gA G a0 n7)))]) me_Mo_isKey (cat_c rfl cat_n) (Nat.le_of_ble_eq_true rfl) rfl ?_)
          refine j_iload_n d_Mo_isKey_0 rfl ?_
          refine j_iconst (v := 0) d_Mo_isKey_1 (by decide) ?_
          refine j_iconst (v := 5) d_Mo_isKey_2 (by decide) ?_
          refine j_callS (d' := 1) (As := [.int ((gA G a0 n7)), .int ((0 : Int32)), .int ((5 : Int32))]) (rest := []) cs_Mo_142 me_Mo_isIn rfl (by decide) rfl rfl (Nat.le_of_ble_eq_true rfl) d_Mo_isKey_3 (by decide) rfl (j_enter (L := [some (.int ((gA G a0 n7))), some (.int ((0 : Int32))), some (.int ((5 : Int32)))]) me_Mo_isIn (cat_c rfl (cat_c rfl (cat_c rfl cat_n))) (Nat.le_of_ble_eq_true rfl) rfl ?_)
          refine j_iload_n d_Mo_isIn_0 rfl ?_
          refine j_iload_n d_Mo_isIn_1 rfl ?_
          obtain ⟨Ha, Hb⟩ := H
          refine j_icmp_lt (tgt := 14) d_Mo_isIn_2 (by decide) (fun c141 => ?_) (fun c142 => ?_)
          · have H := Ha c141
            refine j_iconst (v := 0) d_Mo_isIn_14 (by decide) ?_
            refine j_zret rfl (by decide) d_Mo_isIn_15 ?_
            show J E 2 m_Mo_isKey 6 [some (.int ((gA G a0 n7)))] [.int ((0 : Int32))] G (aft E 3 m_Mo_append 18 [some (.ref a2), some (.int ((gA G a0 n3))), some (.int ((gA G a0 n5))), some (.int ((gA G a0 n7))), some (.int ((gA G a0 n9))), some (.int ((0 : Int32))), none, none] [] (aft E 14 m_La_law 382 [some (.ref a0), some (.ref a1), some (.ref a2), some (.ref a3), some (.int p4), some (.int s0), none] [] Post))
            refine j_zret rfl (by decide) d_Mo_isKey_6 ?_
            show J E 3 m_Mo_append 21 [some (.ref a2), some (.int ((gA G a0 n3))), some (.int ((gA G a0 n5))), some (.int ((gA G a0 n7))), some (.int ((gA G a0 n9))), some (.int ((0 : Int32))), none, none] [.int ((0 : Int32))] G (aft E 14 m_La_law 382 [some (.ref a0), some (.ref a1), some (.ref a2), some (.ref a3), some (.int p4), some (.int s0), none] [] Post)
            refine j_if_eq (tgt := 42) d_Mo_append_21 (by decide) (fun _ => ?_) (fun c => absurd c (by decide))
            refine j_iconst (v := 0) d_Mo_append_42 (by decide) ?_
            refine j_istore (L' := [some (.ref a2), some (.int ((gA G a0 n3))), some (.int ((gA G a0 n5))), some (.int ((gA G a0 n7))), some (.int ((gA G a0 n9))), some (.int ((0 : Int32))), some (.int ((0 : Int32))), none]) d_Mo_append_43 (by decide) rfl ?_
            refine j_aload_n d_Mo_append_45 rfl ?_
            refine j_iload d_Mo_append_46 rfl ?_
            refine j_if_ne (tgt := 55) d_Mo_append_48 (by decide) (fun c => absurd c (by decide)) (fun _ => ?_)
            refine j_iconst (v := 1) d_Mo_append_51 (by decide) ?_
            refine j_goto (tgt := 80) d_Mo_append_52 (by decide) ?_
            refine j_callV (d' := 1) (ci := 10) (As := [.int ((1 : Int32))]) (rest := []) (b := a2) cv_Mo_149 me_Mo_isFine rfl (by decide) rfl rfl t10 rfl rfl (Nat.le_of_ble_eq_true rfl) d_Mo_append_80 (by decide) rfl (j_enter (L := [some (.ref a2), some (.int ((1 : Int32)))]) me_Mo_isFine (cat_c rfl (cat_c rfl cat_n)) (Nat.le_of_ble_eq_true rfl) rfl ?_)
            refine j_aload_n d_Mo_isFine_0 rfl ?_
            refine j_iload_n d_Mo_isFine_1 rfl ?_
            refine j_putI (f := 640) fw_Mo_139 rfl rfl t10 d_Mo_isFine_2 ?_
            refine j_iload_n d_Mo_isFine_5 rfl ?_
            refine j_if_ne (tgt := 13) d_Mo_isFine_6 (by decide) (fun _ => ?_) (fun c => absurd c (by decide))
            refine j_iconst (v := 0) d_Mo_isFine_13 (by decide) ?_
            refine j_zret rfl (by decide) d_Mo_isFine_14 ?_
            show J E 3 m_Mo_append 83 [some (.ref a2), some (.int ((gA G a0 n3))), some (.int ((gA G a0 n5))), some (.int ((gA G a0 n7))), some (.int ((gA G a0 n9))), some (.int ((0 : Int32))), some (.int ((0 : Int32))), none] [.int ((0 : Int32))] (sI G 640 a2 ((1 : Int32))) (aft E 14 m_La_law 382 [some (.ref a0), some (.ref a1), some (.ref a2), some (.ref a3), some (.int p4), some (.int s0), none] [] Post)
            refine j_if_ne (tgt := 88) d_Mo_append_83 (by decide) (fun c => absurd c (by decide)) (fun _ => ?_)
            refine j_iconst (v := 0) d_Mo_append_86 (by decide) ?_
            refine j_iret rfl d_Mo_append_87 ?_
            show J E 14 m_La_law 385 [some (.ref a0), some (.ref a1), some (.ref a2), some (.ref a3), some (.int p4), some (.int s0), none] [.int ((0 : Int32))] (sI G 640 a2 ((1 : Int32))) Post
            refine j_istore (L' := [some (.ref a0), some (.ref a1), some (.ref a2), some (.ref a3), some (.int p4), some (.int s0), some (.int ((0 : Int32)))]) d_La_law_385 (by decide) rfl ?_
            refine j_aload_n d_La_law_387 rfl ?_
            refine j_callV (d' := 1) (ci := 10) (As := []) (rest := []) (b := a2) cv_La_80 me_Mo_thrown rfl (by decide) rfl rfl t10 rfl rfl (Nat.le_of_ble_eq_true rfl) d_La_law_388 (by decide) rfl (j_enter (L := [some (.ref a2)]) me_Mo_thrown (cat_c rfl cat_n) (Nat.le_of_ble_eq_true rfl) rfl ?_)
            refine j_aload_n d_Mo_thrown_0 rfl ?_
            refine j_getIv (f := 640) (v := ((1 : Int32))) fe_Mo_139 rfl rfl t10 (show gI (sI G 640 a2 ((1 : Int32))) 640 a2 = _ from gI_sI_eq) d_Mo_thrown_1 ?_
            refine j_iret rfl d_Mo_thrown_4 ?_
            show J E 14 m_La_law 391 [some (.ref a0), some (.ref a1), some (.ref a2), some (.ref a3), some (.int p4), some (.int s0), some (.int ((0 : Int32)))] [.int (((1 : Int32)))] (sI G 640 a2 ((1 : Int32))) Post
            refine j_iload d_La_law_391 rfl ?_
            obtain ⟨Ha, Hb⟩ := H
            refine j_icmp_eq (tgt := 398) d_La_law_393 (by decide) (fun c101 => ?_) (fun c102 => ?_)
            · have H := Ha c101
              refine j_iload d_La_law_398 rfl ?_
              obtain ⟨Ha, Hb⟩ := H
              refine j_if_ne (tgt := 415) d_La_law_400 (by decide) (fun c99 => ?_) (fun c100 => ?_)
              · have H := Ha c99
                refine j_goto (tgt := 1295) d_La_law_415 (by decide) ?_
                refine j_iinc (v := (p4 + (7 : Int32))) (L' := [some (.ref a0), some (.ref a1), some (.ref a2), some (.ref a3), some (.int ((p4 + (7 : Int32)))), some (.int s0), some (.int ((0 : Int32)))]) d_La_law_1295 rfl (by rw [show Int32.ofInt (7) = (7 : Int32) by decide]) (by decide) rfl ?_
                refine j_goto (tgt := 23) d_La_law_1298 (by decide) ?_
                refine j_forget (L' := [some (.ref a0), some (.ref a1), some (.ref a2), some (.ref a3), some (.int ((p4 + (7 : Int32)))), none, none]) ⟨Or.inr rfl, Or.inr rfl, Or.inr rfl, Or.inr rfl, Or.inr rfl, Or.inl rfl, Or.inl rfl, trivial⟩ ?_
                exact H
              · have H := Hb c100
                refine j_aload_n d_La_law_403 rfl ?_
                refine j_iconst (v := 0) d_La_law_404 (by decide) ?_
                obtain ⟨t95, H⟩ := H
                obtain ⟨x96, H⟩ := H
                refine j_lald (n := 0) t95 x96 d_La_law_405 ?_
                refine j_iload d_La_law_406 rfl ?_
                refine j_i2l d_La_law_408 ?_
                refine j_lcmp d_La_law_409 ?_
                obtain ⟨Ha, Hb⟩ := H
                refine j_if_eq (tgt := 415) d_La_law_410 (by decide) (fun c97 => ?_) (fun c98 => ?_)
                · have H := Ha c97
                  refine j_goto (tgt := 1295) d_La_law_415 (by decide) ?_
                  refine j_iinc (v := (p4 + (7 : Int32))) (L' := [some (.ref a0), some (.ref a1), some (.ref a2), some (.ref a3), some (.int ((p4 + (7 : Int32)))), some (.int s0), some (.int ((0 : Int32)))]) d_La_law_1295 rfl (by rw [show Int32.ofInt (7) = (7 : Int32) by decide]) (by decide) rfl ?_
                  refine j_goto (tgt := 23) d_La_law_1298 (by decide) ?_
                  refine j_forget (L' := [some (.ref a0), some (.ref a1), some (.ref a2), some (.ref a3), some (.int ((p4 + (7 : Int32)))), none, none]) ⟨Or.inr rfl, Or.inr rfl, Or.inr rfl, Or.inr rfl, Or.inr rfl, Or.inl rfl, Or.inl rfl, trivial⟩ ?_
                  exact H
                · have H := Hb c98
                  refine j_iconst (v := 0) d_La_law_413 (by decide) ?_
                  exact j_zret rfl (by decide) d_La_law_414 H
            · have H := Hb c102
              refine j_iconst (v := 0) d_La_law_396 (by decide) ?_
              exact j_zret rfl (by decide) d_La_law_397 H
          · have H := Hb c142
            refine j_iload_n d_Mo_isIn_5 rfl ?_
            refine j_iload_n d_Mo_isIn_6 rfl ?_
            obtain ⟨Ha, Hb⟩ := H
            refine j_icmp_gt (tgt := 14) d_Mo_isIn_7 (by decide) (fun c139 => ?_) (fun c140 => ?_)
            · have H := Ha c139
              refine j_iconst (v := 0) d_Mo_isIn_14 (by decide) ?_
              refine j_zret rfl (by decide) d_Mo_isIn_15 ?_
              show J E 2 m_Mo_isKey 6 [some (.int ((gA G a0 n7)))] [.int ((0 : Int32))] G (aft E 3 m_Mo_append 18 [some (.ref a2), some (.int ((gA G a0 n3))), some (.int ((gA G a0 n5))), some (.int ((gA G a0 n7))), some (.int ((gA G a0 n9))), some (.int ((0 : Int32))), none, none] [] (aft E 14 m_La_law 382 [some (.ref a0), some (.ref a1), some (.ref a2), some (.ref a3), some (.int p4), some (.int s0), none] [] Post))
              refine j_zret rfl (by decide) d_Mo_isKey_6 ?_
              show J E 3 m_Mo_append 21 [some (.ref a2), some (.int ((gA G a0 n3))), some (.int ((gA G a0 n5))), some (.int ((gA G a0 n7))), some (.int ((gA G a0 n9))), some (.int ((0 : Int32))), none, none] [.int ((0 : Int32))] G (aft E 14 m_La_law 382 [some (.ref a0), some (.ref a1), some (.ref a2), some (.ref a3), some (.int p4), some (.int s0), none] [] Post)
              refine j_if_eq (tgt := 42) d_Mo_append_21 (by decide) (fun _ => ?_) (fun c => absurd c (by decide))
              refine j_iconst (v := 0) d_Mo_append_42 (by decide) ?_
              refine j_istore (L' := [some (.ref a2), some (.int ((gA G a0 n3))), some (.int ((gA G a0 n5))), some (.int ((gA G a0 n7))), some (.int ((gA G a0 n9))), some (.int ((0 : Int32))), some (.int ((0 : Int32))), none]) d_Mo_append_43 (by decide) rfl ?_
              refine j_aload_n d_Mo_append_45 rfl ?_
              refine j_iload d_Mo_append_46 rfl ?_
              refine j_if_ne (tgt := 55) d_Mo_append_48 (by decide) (fun c => absurd c (by decide)) (fun _ => ?_)
              refine j_iconst (v := 1) d_Mo_append_51 (by decide) ?_
              refine j_goto (tgt := 80) d_Mo_append_52 (by decide) ?_
              refine j_callV (d' := 1) (ci := 10) (As := [.int ((1 : Int32))]) (rest := []) (b := a2) cv_Mo_149 me_Mo_isFine rfl (by decide) rfl rfl t10 rfl rfl (Nat.le_of_ble_eq_true rfl) d_Mo_append_80 (by decide) rfl (j_enter (L := [some (.ref a2), some (.int ((1 : Int32)))]) me_Mo_isFine (cat_c rfl (cat_c rfl cat_n)) (Nat.le_of_ble_eq_true rfl) rfl ?_)
              refine j_aload_n d_Mo_isFine_0 rfl ?_
              refine j_iload_n d_Mo_isFine_1 rfl ?_
              refine j_putI (f := 640) fw_Mo_139 rfl rfl t10 d_Mo_isFine_2 ?_
              refine j_iload_n d_Mo_isFine_5 rfl ?_
              refine j_if_ne (tgt := 13) d_Mo_isFine_6 (by decide) (fun _ => ?_) (fun c => absurd c (by decide))
              refine j_iconst (v := 0) d_Mo_isFine_13 (by decide) ?_
              refine j_zret rfl (by decide) d_Mo_isFine_14 ?_
              show J E 3 m_Mo_append 83 [some (.ref a2), some (.int ((gA G a0 n3))), some (.int ((gA G a0 n5))), some (.int ((gA G a0 n7))), some (.int ((gA G a0 n9))), some (.int ((0 : Int32))), some (.int ((0 : Int32))), none] [.int ((0 : Int32))] (sI G 640 a2 ((1 : Int32))) (aft E 14 m_La_law 382 [some (.ref a0), some (.ref a1), some (.ref a2), some (.ref a3), some (.int p4), some (.int s0), none] [] Post)
              refine j_if_ne (tgt := 88) d_Mo_append_83 (by decide) (fun c => absurd c (by decide)) (fun _ => ?_)
              refine j_iconst (v := 0) d_Mo_append_86 (by decide) ?_
              refine j_iret rfl d_Mo_append_87 ?_
              show J E 14 m_La_law 385 [some (.ref a0), some (.ref a1), some (.ref a2), some (.ref a3), some (.int p4), some (.int s0), none] [.int ((0 : Int32))] (sI G 640 a2 ((1 : Int32))) Post
              refine j_istore (L' := [some (.ref a0), some (.ref a1), some (.ref a2), some (.ref a3), some (.int p4), some (.int s0), some (.int ((0 : Int32)))]) d_La_law_385 (by decide) rfl ?_
              refine j_aload_n d_La_law_387 rfl ?_
              refine j_callV (d' := 1) (ci := 10) (As := []) (rest := []) (b := a2) cv_La_80 me_Mo_thrown rfl (by decide) rfl rfl t10 rfl rfl (Nat.le_of_ble_eq_true rfl) d_La_law_388 (by decide) rfl (j_enter (L := [some (.ref a2)]) me_Mo_thrown (cat_c rfl cat_n) (Nat.le_of_ble_eq_true rfl) rfl ?_)
              refine j_aload_n d_Mo_thrown_0 rfl ?_
              refine j_getIv (f := 640) (v := ((1 : Int32))) fe_Mo_139 rfl rfl t10 (show gI (sI G 640 a2 ((1 : Int32))) 640 a2 = _ from gI_sI_eq) d_Mo_thrown_1 ?_
              refine j_iret rfl d_Mo_thrown_4 ?_
              show J E 14 m_La_law 391 [some (.ref a0), some (.ref a1), some (.ref a2), some (.ref a3), some (.int p4), some (.int s0), some (.int ((0 : Int32)))] [.int (((1 : Int32)))] (sI G 640 a2 ((1 : Int32))) Post
              refine j_iload d_La_law_391 rfl ?_
              obtain ⟨Ha, Hb⟩ := H
              refine j_icmp_eq (tgt := 398) d_La_law_393 (by decide) (fun c109 => ?_) (fun c110 => ?_)
              · have H := Ha c109
                refine j_iload d_La_law_398 rfl ?_
                obtain ⟨Ha, Hb⟩ := H
                refine j_if_ne (tgt := 415) d_La_law_400 (by decide) (fun c107 => ?_) (fun c108 => ?_)
                · have H := Ha c107
                  refine j_goto (tgt := 1295) d_La_law_415 (by decide) ?_
                  refine j_iinc (v := (p4 + (7 : Int32))) (L' := [some (.ref a0), some (.ref a1), some (.ref a2), some (.ref a3), some (.int ((p4 + (7 : Int32)))), some (.int s0), some (.int ((0 : Int32)))]) d_La_law_1295 rfl (by rw [show Int32.ofInt (7) = (7 : Int32) by decide]) (by decide) rfl ?_
                  refine j_goto (tgt := 23) d_La_law_1298 (by decide) ?_
                  refine j_forget (L' := [some (.ref a0), some (.ref a1), some (.ref a2), some (.ref a3), some (.int ((p4 + (7 : Int32)))), none, none]) ⟨Or.inr rfl, Or.inr rfl, Or.inr rfl, Or.inr rfl, Or.inr rfl, Or.inl rfl, Or.inl rfl, trivial⟩ ?_
                  exact H
                · have H := Hb c108
                  refine j_aload_n d_La_law_403 rfl ?_
                  refine j_iconst (v := 0) d_La_law_404 (by decide) ?_
                  obtain ⟨t103, H⟩ := H
                  obtain ⟨x104, H⟩ := H
                  refine j_lald (n := 0) t103 x104 d_La_law_405 ?_
                  refine j_iload d_La_law_406 rfl ?_
                  refine j_i2l d_La_law_408 ?_
                  refine j_lcmp d_La_law_409 ?_
                  obtain ⟨Ha, Hb⟩ := H
                  refine j_if_eq (tgt := 415) d_La_law_410 (by decide) (fun c105 => ?_) (fun c106 => ?_)
                  · have H := Ha c105
                    refine j_goto (tgt := 1295) d_La_law_415 (by decide) ?_
                    refine j_iinc (v := (p4 + (7 : Int32))) (L' := [some (.ref a0), some (.ref a1), some (.ref a2), some (.ref a3), some (.int ((p4 + (7 : Int32)))), some (.int s0), some (.int ((0 : Int32)))]) d_La_law_1295 rfl (by rw [show Int32.ofInt (7) = (7 : Int32) by decide]) (by decide) rfl ?_
                    refine j_goto (tgt := 23) d_La_law_1298 (by decide) ?_
                    refine j_forget (L' := [some (.ref a0), some (.ref a1), some (.ref a2), some (.ref a3), some (.int ((p4 + (7 : Int32)))), none, none]) ⟨Or.inr rfl, Or.inr rfl, Or.inr rfl, Or.inr rfl, Or.inr rfl, Or.inl rfl, Or.inl rfl, trivial⟩ ?_
                    exact H
                  · have H := Hb c106
                    refine j_iconst (v := 0) d_La_law_413 (by decide) ?_
                    exact j_zret rfl (by decide) d_La_law_414 H
              · have H := Hb c110
                refine j_iconst (v := 0) d_La_law_396 (by decide) ?_
                exact j_zret rfl (by decide) d_La_law_397 H
            · have H := Hb c140
              refine j_iconst (v := 1) d_Mo_isIn_10 (by decide) ?_
              refine j_goto (tgt := 15) d_Mo_isIn_11 (by decide) ?_
              refine j_zret rfl (by decide) d_Mo_isIn_15 ?_
              show J E 2 m_Mo_isKey 6 [some (.int ((gA G a0 n7)))] [.int ((1 : Int32))] G (aft E 3 m_Mo_append 18 [some (.ref a2), some (.int ((gA G a0 n3))), some (.int ((gA G a0 n5))), some (.int ((gA G a0 n7))), some (.int ((gA G a0 n9))), some (.int ((0 : Int32))), none, none] [] (aft E 14 m_La_law 382 [some (.ref a0), some (.ref a1), some (.ref a2), some (.ref a3), some (.int p4), some (.int s0), none] [] Post))
              refine j_zret rfl (by decide) d_Mo_isKey_6 ?_
              show J E 3 m_Mo_append 21 [some (.ref a2), some (.int ((gA G a0 n3))), some (.int ((gA G a0 n5))), some (.int ((gA G a0 n7))), some (.int ((gA G a0 n9))), some (.int ((0 : Int32))), none, none] [.int ((1 : Int32))] G (aft E 14 m_La_law 382 [some (.ref a0), some (.ref a1), some (.ref a2), some (.ref a3), some (.int p4), some (.int s0), none] [] Post)
              refine j_if_eq (tgt := 42) d_Mo_append_21 (by decide) (fun c => absurd c (by decide)) (fun _ => ?_)
              refine j_iload d_Mo_append_24 rfl ?_
              refine j_sipush (v := -1000) d_Mo_append_26 (by decide) ?_
              refine j_sipush (v := 1000) d_Mo_append_29 (by decide) ?_
              refine j_callS (d' := 1) (As := [.int ((gA G a0 n9)), .int ((-1000 : Int32)), .int ((1000 : Int32))]) (rest := []) cs_Mo_142 me_Mo_isIn rfl (by decide) rfl rfl (Nat.le_of_ble_eq_true rfl) d_Mo_append_32 (by decide) rfl (j_enter (L := [some (.int ((gA G a0 n9))), some (.int ((-1000 : Int32))), some (.int ((1000 : Int32)))]) me_Mo_isIn (cat_c rfl (cat_c rfl (cat_c rfl cat_n))) (Nat.le_of_ble_eq_true rfl) rfl ?_)
              refine j_iload_n d_Mo_isIn_0 rfl ?_
              refine j_iload_n d_Mo_isIn_1 rfl ?_
              obtain ⟨Ha, Hb⟩ := H
              refine j_icmp_lt (tgt := 14) d_Mo_isIn_2 (by decide) (fun c137 => ?_) (fun c138 => ?_)
              · have H := Ha c137
                refine j_iconst (v := 0) d_Mo_isIn_14 (by decide) ?_
                refine j_zret rfl (by decide) d_Mo_isIn_15 ?_
                show J E 3 m_Mo_append 35 [some (.ref a2), some (.int ((gA G a0 n3))), some (.int ((gA G a0 n5))), some (.int ((gA G a0 n7))), some (.int ((gA G a0 n9))), some (.int ((0 : Int32))), none, none] [.int ((0 : Int32))] G (aft E 14 m_La_law 382 [some (.ref a0), some (.ref a1), some (.ref a2), some (.ref a3), some (.int p4), some (.int s0), none] [] Post)
                refine j_if_eq (tgt := 42) d_Mo_append_35 (by decide) (fun _ => ?_) (fun c => absurd c (by decide))
                refine j_iconst (v := 0) d_Mo_append_42 (by decide) ?_
                refine j_istore (L' := [some (.ref a2), some (.int ((gA G a0 n3))), some (.int ((gA G a0 n5))), some (.int ((gA G a0 n7))), some (.int ((gA G a0 n9))), some (.int ((0 : Int32))), some (.int ((0 : Int32))), none]) d_Mo_append_43 (by decide) rfl ?_
                refine j_aload_n d_Mo_append_45 rfl ?_
                refine j_iload d_Mo_append_46 rfl ?_
                refine j_if_ne (tgt := 55) d_Mo_append_48 (by decide) (fun c => absurd c (by decide)) (fun _ => ?_)
                refine j_iconst (v := 1) d_Mo_append_51 (by decide) ?_
                refine j_goto (tgt := 80) d_Mo_append_52 (by decide) ?_
                refine j_callV (d' := 1) (ci := 10) (As := [.int ((1 : Int32))]) (rest := []) (b := a2) cv_Mo_149 me_Mo_isFine rfl (by decide) rfl rfl t10 rfl rfl (Nat.le_of_ble_eq_true rfl) d_Mo_append_80 (by decide) rfl (j_enter (L := [some (.ref a2), some (.int ((1 : Int32)))]) me_Mo_isFine (cat_c rfl (cat_c rfl cat_n)) (Nat.le_of_ble_eq_true rfl) rfl ?_)
                refine j_aload_n d_Mo_isFine_0 rfl ?_
                refine j_iload_n d_Mo_isFine_1 rfl ?_
                refine j_putI (f := 640) fw_Mo_139 rfl rfl t10 d_Mo_isFine_2 ?_
                refine j_iload_n d_Mo_isFine_5 rfl ?_
                refine j_if_ne (tgt := 13) d_Mo_isFine_6 (by decide) (fun _ => ?_) (fun c => absurd c (by decide))
                refine j_iconst (v := 0) d_Mo_isFine_13 (by decide) ?_
                refine j_zret rfl (by decide) d_Mo_isFine_14 ?_
                show J E 3 m_Mo_append 83 [some (.ref a2), some (.int ((gA G a0 n3))), some (.int ((gA G a0 n5))), some (.int ((gA G a0 n7))), some (.int ((gA G a0 n9))), some (.int ((0 : Int32))), some (.int ((0 : Int32))), none] [.int ((0 : Int32))] (sI G 640 a2 ((1 : Int32))) (aft E 14 m_La_law 382 [some (.ref a0), some (.ref a1), some (.ref a2), some (.ref a3), some (.int p4), some (.int s0), none] [] Post)
                refine j_if_ne (tgt := 88) d_Mo_append_83 (by decide) (fun c => absurd c (by decide)) (fun _ => ?_)
                refine j_iconst (v := 0) d_Mo_append_86 (by decide) ?_
                refine j_iret rfl d_Mo_append_87 ?_
                show J E 14 m_La_law 385 [some (.ref a0), some (.ref a1), some (.ref a2), some (.ref a3), some (.int p4), some (.int s0), none] [.int ((0 : Int32))] (sI G 640 a2 ((1 : Int32))) Post
                refine j_istore (L' := [some (.ref a0), some (.ref a1), some (.ref a2), some (.ref a3), some (.int p4), some (.int s0), some (.int ((0 : Int32)))]) d_La_law_385 (by decide) rfl ?_
                refine j_aload_n d_La_law_387 rfl ?_
                refine j_callV (d' := 1) (ci := 10) (As := []) (rest := []) (b := a2) cv_La_80 me_Mo_thrown rfl (by decide) rfl rfl t10 rfl rfl (Nat.le_of_ble_eq_true rfl) d_La_law_388 (by decide) rfl (j_enter (L := [some (.ref a2)]) me_Mo_thrown (cat_c rfl cat_n) (Nat.le_of_ble_eq_true rfl) rfl ?_)
                refine j_aload_n d_Mo_thrown_0 rfl ?_
                refine j_getIv (f := 640) (v := ((1 : Int32))) fe_Mo_139 rfl rfl t10 (show gI (sI G 640 a2 ((1 : Int32))) 640 a2 = _ from gI_sI_eq) d_Mo_thrown_1 ?_
                refine j_iret rfl d_Mo_thrown_4 ?_
                show J E 14 m_La_law 391 [some (.ref a0), some (.ref a1), some (.ref a2), some (.ref a3), some (.int p4), some (.int s0), some (.int ((0 : Int32)))] [.int (((1 : Int32)))] (sI G 640 a2 ((1 : Int32))) Post
                refine j_iload d_La_law_391 rfl ?_
                obtain ⟨Ha, Hb⟩ := H
                refine j_icmp_eq (tgt := 398) d_La_law_393 (by decide) (fun c117 => ?_) (fun c118 => ?_)
                · have H := Ha c117
                  refine j_iload d_La_law_398 rfl ?_
                  obtain ⟨Ha, Hb⟩ := H
                  refine j_if_ne (tgt := 415) d_La_law_400 (by decide) (fun c115 => ?_) (fun c116 => ?_)
                  · have H := Ha c115
                    refine j_goto (tgt := 1295) d_La_law_415 (by decide) ?_
                    refine j_iinc (v := (p4 + (7 : Int32))) (L' := [some (.ref a0), some (.ref a1), some (.ref a2), some (.ref a3), some (.int ((p4 + (7 : Int32)))), some (.int s0), some (.int ((0 : Int32)))]) d_La_law_1295 rfl (by rw [show Int32.ofInt (7) = (7 : Int32) by decide]) (by decide) rfl ?_
                    refine j_goto (tgt := 23) d_La_law_1298 (by decide) ?_
                    refine j_forget (L' := [some (.ref a0), some (.ref a1), some (.ref a2), some (.ref a3), some (.int ((p4 + (7 : Int32)))), none, none]) ⟨Or.inr rfl, Or.inr rfl, Or.inr rfl, Or.inr rfl, Or.inr rfl, Or.inl rfl, Or.inl rfl, trivial⟩ ?_
                    exact H
                  · have H := Hb c116
                    refine j_aload_n d_La_law_403 rfl ?_
                    refine j_iconst (v := 0) d_La_law_404 (by decide) ?_
                    obtain ⟨t111, H⟩ := H
                    obtain ⟨x112, H⟩ := H
                    refine j_lald (n := 0) t111 x112 d_La_law_405 ?_
                    refine j_iload d_La_law_406 rfl ?_
                    refine j_i2l d_La_law_408 ?_
                    refine j_lcmp d_La_law_409 ?_
                    obtain ⟨Ha, Hb⟩ := H
                    refine j_if_eq (tgt := 415) d_La_law_410 (by decide) (fun c113 => ?_) (fun c114 => ?_)
                    · have H := Ha c113
                      refine j_goto (tgt := 1295) d_La_law_415 (by decide) ?_
                      refine j_iinc (v := (p4 + (7 : Int32))) (L' := [some (.ref a0), some (.ref a1), some (.ref a2), some (.ref a3), some (.int ((p4 + (7 : Int32)))), some (.int s0), some (.int ((0 : Int32)))]) d_La_law_1295 rfl (by rw [show Int32.ofInt (7) = (7 : Int32) by decide]) (by decide) rfl ?_
                      refine j_goto (tgt := 23) d_La_law_1298 (by decide) ?_
                      refine j_forget (L' := [some (.ref a0), some (.ref a1), some (.ref a2), some (.ref a3), some (.int ((p4 + (7 : Int32)))), none, none]) ⟨Or.inr rfl, Or.inr rfl, Or.inr rfl, Or.inr rfl, Or.inr rfl, Or.inl rfl, Or.inl rfl, trivial⟩ ?_
                      exact H
                    · have H := Hb c114
                      refine j_iconst (v := 0) d_La_law_413 (by decide) ?_
                      exact j_zret rfl (by decide) d_La_law_414 H
                · have H := Hb c118
                  refine j_iconst (v := 0) d_La_law_396 (by decide) ?_
                  exact j_zret rfl (by decide) d_La_law_397 H
              · have H := Hb c138
                refine j_iload_n d_Mo_isIn_5 rfl ?_
                refine j_iload_n d_Mo_isIn_6 rfl ?_
                obtain ⟨Ha, Hb⟩ := H
                refine j_icmp_gt (tgt := 14) d_Mo_isIn_7 (by decide) (fun c135 => ?_) (fun c136 => ?_)
                · have H := Ha c135
                  refine j_iconst (v := 0) d_Mo_isIn_14 (by decide) ?_
                  refine j_zret rfl (by decide) d_Mo_isIn_15 ?_
                  show J E 3 m_Mo_append 35 [some (.ref a2), some (.int ((gA G a0 n3))), some (.int ((gA G a0 n5))), some (.int ((gA G a0 n7))), some (.int ((gA G a0 n9))), some (.int ((0 : Int32))), none, none] [.int ((0 : Int32))] G (aft E 14 m_La_law 382 [some (.ref a0), some (.ref a1), some (.ref a2), some (.ref a3), some (.int p4), some (.int s0), none] [] Post)
                  refine j_if_eq (tgt := 42) d_Mo_append_35 (by decide) (fun _ => ?_) (fun c => absurd c (by decide))
                  refine j_iconst (v := 0) d_Mo_append_42 (by decide) ?_
                  refine j_istore (L' := [some (.ref a2), some (.int ((gA G a0 n3))), some (.int ((gA G a0 n5))), some (.int ((gA G a0 n7))), some (.int ((gA G a0 n9))), some (.int ((0 : Int32))), some (.int ((0 : Int32))), none]) d_Mo_append_43 (by decide) rfl ?_
                  refine j_aload_n d_Mo_append_45 rfl ?_
                  refine j_iload d_Mo_append_46 rfl ?_
                  refine j_if_ne (tgt := 55) d_Mo_append_48 (by decide) (fun c => absurd c (by decide)) (fun _ => ?_)
                  refine j_iconst (v := 1) d_Mo_append_51 (by decide) ?_
                  refine j_goto (tgt := 80) d_Mo_append_52 (by decide) ?_
                  refine j_callV (d' := 1) (ci := 10) (As := [.int ((1 : Int32))]) (rest := []) (b := a2) cv_Mo_149 me_Mo_isFine rfl (by decide) rfl rfl t10 rfl rfl (Nat.le_of_ble_eq_true rfl) d_Mo_append_80 (by decide) rfl (j_enter (L := [some (.ref a2), some (.int ((1 : Int32)))]) me_Mo_isFine (cat_c rfl (cat_c rfl cat_n)) (Nat.le_of_ble_eq_true rfl) rfl ?_)
                  refine j_aload_n d_Mo_isFine_0 rfl ?_
                  refine j_iload_n d_Mo_isFine_1 rfl ?_
                  refine j_putI (f := 640) fw_Mo_139 rfl rfl t10 d_Mo_isFine_2 ?_
                  refine j_iload_n d_Mo_isFine_5 rfl ?_
                  refine j_if_ne (tgt := 13) d_Mo_isFine_6 (by decide) (fun _ => ?_) (fun c => absurd c (by decide))
                  refine j_iconst (v := 0) d_Mo_isFine_13 (by decide) ?_
                  refine j_zret rfl (by decide) d_Mo_isFine_14 ?_
                  show J E 3 m_Mo_append 83 [some (.ref a2), some (.int ((gA G a0 n3))), some (.int ((gA G a0 n5))), some (.int ((gA G a0 n7))), some (.int ((gA G a0 n9))), some (.int ((0 : Int32))), some (.int ((0 : Int32))), none] [.int ((0 : Int32))] (sI G 640 a2 ((1 : Int32))) (aft E 14 m_La_law 382 [some (.ref a0), some (.ref a1), some (.ref a2), some (.ref a3), some (.int p4), some (.int s0), none] [] Post)
                  refine j_if_ne (tgt := 88) d_Mo_append_83 (by decide) (fun c => absurd c (by decide)) (fun _ => ?_)
                  refine j_iconst (v := 0) d_Mo_append_86 (by decide) ?_
                  refine j_iret rfl d_Mo_append_87 ?_
                  show J E 14 m_La_law 385 [some (.ref a0), some (.ref a1), some (.ref a2), some (.ref a3), some (.int p4), some (.int s0), none] [.int ((0 : Int32))] (sI G 640 a2 ((1 : Int32))) Post
                  refine j_istore (L' := [some (.ref a0), some (.ref a1), some (.ref a2), some (.ref a3), some (.int p4), some (.int s0), some (.int ((0 : Int32)))]) d_La_law_385 (by decide) rfl ?_
                  refine j_aload_n d_La_law_387 rfl ?_
                  refine j_callV (d' := 1) (ci := 10) (As := []) (rest := []) (b := a2) cv_La_80 me_Mo_thrown rfl (by decide) rfl rfl t10 rfl rfl (Nat.le_of_ble_eq_true rfl) d_La_law_388 (by decide) rfl (j_enter (L := [some (.ref a2)]) me_Mo_thrown (cat_c rfl cat_n) (Nat.le_of_ble_eq_true rfl) rfl ?_)
                  refine j_aload_n d_Mo_thrown_0 rfl ?_
                  refine j_getIv (f := 640) (v := ((1 : Int32))) fe_Mo_139 rfl rfl t10 (show gI (sI G 640 a2 ((1 : Int32))) 640 a2 = _ from gI_sI_eq) d_Mo_thrown_1 ?_
                  refine j_iret rfl d_Mo_thrown_4 ?_
                  show J E 14 m_La_law 391 [some (.ref a0), some (.ref a1), some (.ref a2), some (.ref a3), some (.int p4), some (.int s0), some (.int ((0 : Int32)))] [.int (((1 : Int32)))] (sI G 640 a2 ((1 : Int32))) Post
                  refine j_iload d_La_law_391 rfl ?_
                  obtain ⟨Ha, Hb⟩ := H
                  refine j_icmp_eq (tgt := 398) d_La_law_393 (by decide) (fun c125 => ?_) (fun c126 => ?_)
                  · have H := Ha c125
                    refine j_iload d_La_law_398 rfl ?_
                    obtain ⟨Ha, Hb⟩ := H
                    refine j_if_ne (tgt := 415) d_La_law_400 (by decide) (fun c123 => ?_) (fun c124 => ?_)
                    · have H := Ha c123
                      refine j_goto (tgt := 1295) d_La_law_415 (by decide) ?_
                      refine j_iinc (v := (p4 + (7 : Int32))) (L' := [some (.ref a0), some (.ref a1), some (.ref a2), some (.ref a3), some (.int ((p4 + (7 : Int32)))), some (.int s0), some (.int ((0 : Int32)))]) d_La_law_1295 rfl (by rw [show Int32.ofInt (7) = (7 : Int32) by decide]) (by decide) rfl ?_
                      refine j_goto (tgt := 23) d_La_law_1298 (by decide) ?_
                      refine j_forget (L' := [some (.ref a0), some (.ref a1), some (.ref a2), some (.ref a3), some (.int ((p4 + (7 : Int32)))), none, none]) ⟨Or.inr rfl, Or.inr rfl, Or.inr rfl, Or.inr rfl, Or.inr rfl, Or.inl rfl, Or.inl rfl, trivial⟩ ?_
                      exact H
                    · have H := Hb c124
                      refine j_aload_n d_La_law_403 rfl ?_
                      refine j_iconst (v := 0) d_La_law_404 (by decide) ?_
                      obtain ⟨t119, H⟩ := H
                      obtain ⟨x120, H⟩ := H
                      refine j_lald (n := 0) t119 x120 d_La_law_405 ?_
                      refine j_iload d_La_law_406 rfl ?_
                      refine j_i2l d_La_law_408 ?_
                      refine j_lcmp d_La_law_409 ?_
                      obtain ⟨Ha, Hb⟩ := H
                      refine j_if_eq (tgt := 415) d_La_law_410 (by decide) (fun c121 => ?_) (fun c122 => ?_)
                      · have H := Ha c121
                        refine j_goto (tgt := 1295) d_La_law_415 (by decide) ?_
                        refine j_iinc (v := (p4 + (7 : Int32))) (L' := [some (.ref a0), some (.ref a1), some (.ref a2), some (.ref a3), some (.int ((p4 + (7 : Int32)))), some (.int s0), some (.int ((0 : Int32)))]) d_La_law_1295 rfl (by rw [show Int32.ofInt (7) = (7 : Int32) by decide]) (by decide) rfl ?_
                        refine j_goto (tgt := 23) d_La_law_1298 (by decide) ?_
                        refine j_forget (L' := [some (.ref a0), some (.ref a1), some (.ref a2), some (.ref a3), some (.int ((p4 + (7 : Int32)))), none, none]) ⟨Or.inr rfl, Or.inr rfl, Or.inr rfl, Or.inr rfl, Or.inr rfl, Or.inl rfl, Or.inl rfl, trivial⟩ ?_
                        exact H
                      · have H := Hb c122
                        refine j_iconst (v := 0) d_La_law_413 (by decide) ?_
                        exact j_zret rfl (by decide) d_La_law_414 H
                  · have H := Hb c126
                    refine j_iconst (v := 0) d_La_law_396 (by decide) ?_
                    exact j_zret rfl (by decide) d_La_law_397 H
                · have H := Hb c136
                  refine j_iconst (v := 1) d_Mo_isIn_10 (by decide) ?_
                  refine j_goto (tgt := 15) d_Mo_isIn_11 (by decide) ?_
                  refine j_zret rfl (by decide) d_Mo_isIn_15 ?_
                  show J E 3 m_Mo_append 35 [some (.ref a2), some (.int ((gA G a0 n3))), some (.int ((gA G a0 n5))), some (.int ((gA G a0 n7))), some (.int ((gA G a0 n9))), some (.int ((0 : Int32))), none, none] [.int ((1 : Int32))] G (aft E 14 m_La_law 382 [some (.ref a0), some (.ref a1), some (.ref a2), some (.ref a3), some (.int p4), some (.int s0), none] [] Post)
                  refine j_if_eq (tgt := 42) d_Mo_append_35 (by decide) (fun c => absurd c (by decide)) (fun _ => ?_)
                  refine j_iconst (v := 1) d_Mo_append_38 (by decide) ?_
                  refine j_goto (tgt := 43) d_Mo_append_39 (by decide) ?_
                  refine j_istore (L' := [some (.ref a2), some (.int ((gA G a0 n3))), some (.int ((gA G a0 n5))), some (.int ((gA G a0 n7))), some (.int ((gA G a0 n9))), some (.int ((0 : Int32))), some (.int ((1 : Int32))), none]) d_Mo_append_43 (by decide) rfl ?_
                  refine j_aload_n d_Mo_append_45 rfl ?_
                  refine j_iload d_Mo_append_46 rfl ?_
                  refine j_if_ne (tgt := 55) d_Mo_append_48 (by decide) (fun c => absurd c (by decide)) (fun _ => ?_)
                  refine j_iconst (v := 1) d_Mo_append_51 (by decide) ?_
                  refine j_goto (tgt := 80) d_Mo_append_52 (by decide) ?_
                  refine j_callV (d' := 1) (ci := 10) (As := [.int ((1 : Int32))]) (rest := []) (b := a2) cv_Mo_149 me_Mo_isFine rfl (by decide) rfl rfl t10 rfl rfl (Nat.le_of_ble_eq_true rfl) d_Mo_append_80 (by decide) rfl (j_enter (L := [some (.ref a2), some (.int ((1 : Int32)))]) me_Mo_isFine (cat_c rfl (cat_c rfl cat_n)) (Nat.le_of_ble_eq_true rfl) rfl ?_)
                  refine j_aload_n d_Mo_isFine_0 rfl ?_
                  refine j_iload_n d_Mo_isFine_1 rfl ?_
                  refine j_putI (f := 640) fw_Mo_139 rfl rfl t10 d_Mo_isFine_2 ?_
                  refine j_iload_n d_Mo_isFine_5 rfl ?_
                  refine j_if_ne (tgt := 13) d_Mo_isFine_6 (by decide) (fun _ => ?_) (fun c => absurd c (by decide))
                  refine j_iconst (v := 0) d_Mo_isFine_13 (by decide) ?_
                  refine j_zret rfl (by decide) d_Mo_isFine_14 ?_
                  show J E 3 m_Mo_append 83 [some (.ref a2), some (.int ((gA G a0 n3))), some (.int ((gA G a0 n5))), some (.int ((gA G a0 n7))), some (.int ((gA G a0 n9))), some (.int ((0 : Int32))), some (.int ((1 : Int32))), none] [.int ((0 : Int32))] (sI G 640 a2 ((1 : Int32))) (aft E 14 m_La_law 382 [some (.ref a0), some (.ref a1), some (.ref a2), some (.ref a3), some (.int p4), some (.int s0), none] [] Post)
                  refine j_if_ne (tgt := 88) d_Mo_append_83 (by decide) (fun c => absurd c (by decide)) (fun _ => ?_)
                  refine j_iconst (v := 0) d_Mo_append_86 (by decide) ?_
                  refine j_iret rfl d_Mo_append_87 ?_
                  show J E 14 m_La_law 385 [some (.ref a0), some (.ref a1), some (.ref a2), some (.ref a3), some (.int p4), some (.int s0), none] [.int ((0 : Int32))] (sI G 640 a2 ((1 : Int32))) Post
                  refine j_istore (L' := [some (.ref a0), some (.ref a1), some (.ref a2), some (.ref a3), some (.int p4), some (.int s0), some (.int ((0 : Int32)))]) d_La_law_385 (by decide) rfl ?_
                  refine j_aload_n d_La_law_387 rfl ?_
                  refine j_callV (d' := 1) (ci := 10) (As := []) (rest := []) (b := a2) cv_La_80 me_Mo_thrown rfl (by decide) rfl rfl t10 rfl rfl (Nat.le_of_ble_eq_true rfl) d_La_law_388 (by decide) rfl (j_enter (L := [some (.ref a2)]) me_Mo_thrown (cat_c rfl cat_n) (Nat.le_of_ble_eq_true rfl) rfl ?_)
                  refine j_aload_n d_Mo_thrown_0 rfl ?_
                  refine j_getIv (f := 640) (v := ((1 : Int32))) fe_Mo_139 rfl rfl t10 (show gI (sI G 640 a2 ((1 : Int32))) 640 a2 = _ from gI_sI_eq) d_Mo_thrown_1 ?_
                  refine j_iret rfl d_Mo_thrown_4 ?_
                  show J E 14 m_La_law 391 [some (.ref a0), some (.ref a1), some (.ref a2), some (.ref a3), some (.int p4), some (.int s0), some (.int ((0 : Int32)))] [.int (((1 : Int32)))] (sI G 640 a2 ((1 : Int32))) Post
                  refine j_iload d_La_law_391 rfl ?_
                  obtain ⟨Ha, Hb⟩ := H
                  refine j_icmp_eq (tgt := 398) d_La_law_393 (by decide) (fun c133 => ?_) (fun c134 => ?_)
                  · have H := Ha c133
                    refine j_iload d_La_law_398 rfl ?_
                    obtain ⟨Ha, Hb⟩ := H
                    refine j_if_ne (tgt := 415) d_La_law_400 (by decide) (fun c131 => ?_) (fun c132 => ?_)
                    · have H := Ha c131
                      refine j_goto (tgt := 1295) d_La_law_415 (by decide) ?_
                      refine j_iinc (v := (p4 + (7 : Int32))) (L' := [some (.ref a0), some (.ref a1), some (.ref a2), some (.ref a3), some (.int ((p4 + (7 : Int32)))), some (.int s0), some (.int ((0 : Int32)))]) d_La_law_1295 rfl (by rw [show Int32.ofInt (7) = (7 : Int32) by decide]) (by decide) rfl ?_
                      refine j_goto (tgt := 23) d_La_law_1298 (by decide) ?_
                      refine j_forget (L' := [some (.ref a0), some (.ref a1), some (.ref a2), some (.ref a3), some (.int ((p4 + (7 : Int32)))), none, none]) ⟨Or.inr rfl, Or.inr rfl, Or.inr rfl, Or.inr rfl, Or.inr rfl, Or.inl rfl, Or.inl rfl, trivial⟩ ?_
                      exact H
                    · have H := Hb c132
                      refine j_aload_n d_La_law_403 rfl ?_
                      refine j_iconst (v := 0) d_La_law_404 (by decide) ?_
                      obtain ⟨t127, H⟩ := H
                      obtain ⟨x128, H⟩ := H
                      refine j_lald (n := 0) t127 x128 d_La_law_405 ?_
                      refine j_iload d_La_law_406 rfl ?_
                      refine j_i2l d_La_law_408 ?_
                      refine j_lcmp d_La_law_409 ?_
                      obtain ⟨Ha, Hb⟩ := H
                      refine j_if_eq (tgt := 415) d_La_law_410 (by decide) (fun c129 => ?_) (fun c130 => ?_)
                      · have H := Ha c129
                        refine j_goto (tgt := 1295) d_La_law_415 (by decide) ?_
                        refine j_iinc (v := (p4 + (7 : Int32))) (L' := [some (.ref a0), some (.ref a1), some (.ref a2), some (.ref a3), some (.int ((p4 + (7 : Int32)))), some (.int s0), some (.int ((0 : Int32)))]) d_La_law_1295 rfl (by rw [show Int32.ofInt (7) = (7 : Int32) by decide]) (by decide) rfl ?_
                        refine j_goto (tgt := 23) d_La_law_1298 (by decide) ?_
                        refine j_forget (L' := [some (.ref a0), some (.ref a1), some (.ref a2), some (.ref a3), some (.int ((p4 + (7 : Int32)))), none, none]) ⟨Or.inr rfl, Or.inr rfl, Or.inr rfl, Or.inr rfl, Or.inr rfl, Or.inl rfl, Or.inl rfl, trivial⟩ ?_
                        exact H
                      · have H := Hb c130
                        refine j_iconst (v := 0) d_La_law_413 (by decide) ?_
                        exact j_zret rfl (by decide) d_La_law_414 H
                  · have H := Hb c134
                    refine j_iconst (v := 0) d_La_law_396 (by decide) ?_
                    exact j_zret rfl (by decide) d_La_law_397 H
    · have H := Hb c249
      refine j_iconst (v := 1) d_Mo_isIn_10 (by decide) ?_
      refine j_goto (tgt := 15) d_Mo_isIn_11 (by decide) ?_
      refine j_zret rfl (by decide) d_Mo_isIn_15 ?_
      show J E 2 m_Mo_isSource 6 [some (.int ((gA G a0 n3)))] [.int ((1 : Int32))] G (aft E 3 m_Mo_append 1 [some (.ref a2), some (.int ((gA G a0 n3))), some (.int ((gA G a0 n5))), some (.int ((gA G a0 n7))), some (.int ((gA G a0 n9))), none, none, none] [] (aft E 14 m_La_law 382 [some (.ref a0), some (.ref a1), some (.ref a2), some (.ref a3), some (.int p4), some (.int s0), none] [] Post))
      refine j_zret rfl (by decide) d_Mo_isSource_6 ?_
      show J E 3 m_Mo_append 4 [some (.ref a2), some (.int ((gA G a0 n3))), some (.int ((gA G a0 n5))), some (.int ((gA G a0 n7))), some (.int ((gA G a0 n9))), none, none, none] [.int ((1 : Int32))] G (aft E 14 m_La_law 382 [some (.ref a0), some (.ref a1), some (.ref a2), some (.ref a3), some (.int p4), some (.int s0), none] [] Post)
      refine j_istore (L' := [some (.ref a2), some (.int ((gA G a0 n3))), some (.int ((gA G a0 n5))), some (.int ((gA G a0 n7))), some (.int ((gA G a0 n9))), some (.int ((1 : Int32))), none, none]) d_Mo_append_4 (by decide) rfl ?_
      refine j_iload_n d_Mo_append_6 rfl ?_
      refine j_iconst (v := 0) d_Mo_append_7 (by decide) ?_
      refine j_sipush (v := 999) d_Mo_append_8 (by decide) ?_
      refine j_callS (d' := 1) (As := [.int ((gA G a0 n5)), .int ((0 : Int32)), .int ((999 : Int32))]) (rest := []) cs_Mo_142 me_Mo_isIn rfl (by decide) rfl rfl (Nat.le_of_ble_eq_true rfl) d_Mo_append_11 (by decide) rfl (j_enter (L := [some (.int ((gA G a0 n5))), some (.int ((0 : Int32))), some (.int ((999 : Int32)))]) me_Mo_isIn (cat_c rfl (cat_c rfl (cat_c rfl cat_n))) (Nat.le_of_ble_eq_true rfl) rfl ?_)
      refine j_iload_n d_Mo_isIn_0 rfl ?_
      refine j_iload_n d_Mo_isIn_1 rfl ?_
      obtain ⟨Ha, Hb⟩ := H
      refine j_icmp_lt (tgt := 14) d_Mo_isIn_2 (by decide) (fun c246 => ?_) (fun c247 => ?_)
      · have H := Ha c246
        refine j_iconst (v := 0) d_Mo_isIn_14 (by decide) ?_
        refine j_zret rfl (by decide) d_Mo_isIn_15 ?_
        show J E 3 m_Mo_append 14 [some (.ref a2), some (.int ((gA G a0 n3))), some (.int ((gA G a0 n5))), some (.int ((gA G a0 n7))), some (.int ((gA G a0 n9))), some (.int ((1 : Int32))), none, none] [.int ((0 : Int32))] G (aft E 14 m_La_law 382 [some (.ref a0), some (.ref a1), some (.ref a2), some (.ref a3), some (.int p4), some (.int s0), none] [] Post)
        refine j_if_eq (tgt := 42) d_Mo_append_14 (by decide) (fun _ => ?_) (fun c => absurd c (by decide))
        refine j_iconst (v := 0) d_Mo_append_42 (by decide) ?_
        refine j_istore (L' := [some (.ref a2), some (.int ((gA G a0 n3))), some (.int ((gA G a0 n5))), some (.int ((gA G a0 n7))), some (.int ((gA G a0 n9))), some (.int ((1 : Int32))), some (.int ((0 : Int32))), none]) d_Mo_append_43 (by decide) rfl ?_
        refine j_aload_n d_Mo_append_45 rfl ?_
        refine j_iload d_Mo_append_46 rfl ?_
        refine j_if_ne (tgt := 55) d_Mo_append_48 (by decide) (fun _ => ?_) (fun c => absurd c (by decide))
        refine j_iload d_Mo_append_55 rfl ?_
        refine j_if_ne (tgt := 64) d_Mo_append_57 (by decide) (fun c => absurd c (by decide)) (fun _ => ?_)
        refine j_iconst (v := 2) d_Mo_append_60 (by decide) ?_
        refine j_goto (tgt := 80) d_Mo_append_61 (by decide) ?_
        refine j_callV (d' := 1) (ci := 10) (As := [.int ((2 : Int32))]) (rest := []) (b := a2) cv_Mo_149 me_Mo_isFine rfl (by decide) rfl rfl t10 rfl rfl (Nat.le_of_ble_eq_true rfl) d_Mo_append_80 (by decide) rfl (j_enter (L := [some (.ref a2), some (.int ((2 : Int32)))]) me_Mo_isFine (cat_c rfl (cat_c rfl cat_n)) (Nat.le_of_ble_eq_true rfl) rfl ?_)
        refine j_aload_n d_Mo_isFine_0 rfl ?_
        refine j_iload_n d_Mo_isFine_1 rfl ?_
        refine j_putI (f := 640) fw_Mo_139 rfl rfl t10 d_Mo_isFine_2 ?_
        refine j_iload_n d_Mo_isFine_5 rfl ?_
        refine j_if_ne (tgt := 13) d_Mo_isFine_6 (by decide) (fun _ => ?_) (fun c => absurd c (by decide))
        refine j_iconst (v := 0) d_Mo_isFine_13 (by decide) ?_
        refine j_zret rfl (by decide) d_Mo_isFine_14 ?_
        show J E 3 m_Mo_append 83 [some (.ref a2), some (.int ((gA G a0 n3))), some (.int ((gA G a0 n5))), some (.int ((gA G a0 n7))), some (.int ((gA G a0 n9))), some (.int ((1 : Int32))), some (.int ((0 : Int32))), none] [.int ((0 : Int32))] (sI G 640 a2 ((2 : Int32))) (aft E 14 m_La_law 382 [some (.ref a0), some (.ref a1), some (.ref a2), some (.ref a3), some (.int p4), some (.int s0), none] [] Post)
        refine j_if_ne (tgt := 88) d_Mo_append_83 (by decide) (fun c => absurd c (by decide)) (fun _ => ?_)
        refine j_iconst (v := 0) d_Mo_append_86 (by decide) ?_
        refine j_iret rfl d_Mo_append_87 ?_
        show J E 14 m_La_law 385 [some (.ref a0), some (.ref a1), some (.ref a2), some (.ref a3), some (.int p4), some (.int s0), none] [.int ((0 : Int32))] (sI G 640 a2 ((2 : Int32))) Post
        refine j_istore (L' := [some (.ref a0), some (.ref a1), some (.ref a2), some (.ref a3), some (.int p4), some (.int s0), some (.int ((0 : Int32)))]) d_La_law_385 (by decide) rfl ?_
        refine j_aload_n d_La_law_387 rfl ?_
        refine j_callV (d' := 1) (ci := 10) (As := []) (rest := []) (b := a2) cv_La_80 me_Mo_thrown rfl (by decide) rfl rfl t10 rfl rfl (Nat.le_of_ble_eq_true rfl) d_La_law_388 (by decide) rfl (j_enter (L := [some (.ref a2)]) me_Mo_thrown (cat_c rfl cat_n) (Nat.le_of_ble_eq_true rfl) rfl ?_)
        refine j_aload_n d_Mo_thrown_0 rfl ?_
        refine j_getIv (f := 640) (v := ((2 : Int32))) fe_Mo_139 rfl rfl t10 (show gI (sI G 640 a2 ((2 : Int32))) 640 a2 = _ from gI_sI_eq) d_Mo_thrown_1 ?_
        refine j_iret rfl d_Mo_thrown_4 ?_
        show J E 14 m_La_law 391 [some (.ref a0), some (.ref a1), some (.ref a2), some (.ref a3), some (.int p4), some (.int s0), some (.int ((0 : Int32)))] [.int (((2 : Int32)))] (sI G 640 a2 ((2 : Int32))) Post
        refine j_iload d_La_law_391 rfl ?_
        obtain ⟨Ha, Hb⟩ := H
        refine j_icmp_eq (tgt := 398) d_La_law_393 (by decide) (fun c153 => ?_) (fun c154 => ?_)
        · have H := Ha c153
          refine j_iload d_La_law_398 rfl ?_
          obtain ⟨Ha, Hb⟩ := H
          refine j_if_ne (tgt := 415) d_La_law_400 (by decide) (fun c151 => ?_) (fun c152 => ?_)
          · have H := Ha c151
            refine j_goto (tgt := 1295) d_La_law_415 (by decide) ?_
            refine j_iinc (v := (p4 + (7 : Int32))) (L' := [some (.ref a0), some (.ref a1), some (.ref a2), some (.ref a3), some (.int ((p4 + (7 : Int32)))), some (.int s0), some (.int ((0 : Int32)))]) d_La_law_1295 rfl (by rw [show Int32.ofInt (7) = (7 : Int32) by decide]) (by decide) rfl ?_
            refine j_goto (tgt := 23) d_La_law_1298 (by decide) ?_
            refine j_forget (L' := [some (.ref a0), some (.ref a1), some (.ref a2), some (.ref a3), some (.int ((p4 + (7 : Int32)))), none, none]) ⟨Or.inr rfl, Or.inr rfl, Or.inr rfl, Or.inr rfl, Or.inr rfl, Or.inl rfl, Or.inl rfl, trivial⟩ ?_
            exact H
          · have H := Hb c152
            refine j_aload_n d_La_law_403 rfl ?_
            refine j_iconst (v := 0) d_La_law_404 (by decide) ?_
            obtain ⟨t147, H⟩ := H
            obtain ⟨x148, H⟩ := H
            refine j_lald (n := 0) t147 x148 d_La_law_405 ?_
            refine j_iload d_La_law_406 rfl ?_
            refine j_i2l d_La_law_408 ?_
            refine j_lcmp d_La_law_409 ?_
            obtain ⟨Ha, Hb⟩ := H
            refine j_if_eq (tgt := 415) d_La_law_410 (by decide) (fun c149 => ?_) (fun c150 => ?_)
            · have H := Ha c149
              refine j_goto (tgt := 1295) d_La_law_415 (by decide) ?_
              refine j_iinc (v := (p4 + (7 : Int32))) (L' := [some (.ref a0), some (.ref a1), some (.ref a2), some (.ref a3), some (.int ((p4 + (7 : Int32)))), some (.int s0), some (.int ((0 : Int32)))]) d_La_law_1295 rfl (by rw [show Int32.ofInt (7) = (7 : Int32) by decide]) (by decide) rfl ?_
              refine j_goto (tgt := 23) d_La_law_1298 (by decide) ?_
              refine j_forget (L' := [some (.ref a0), some (.ref a1), some (.ref a2), some (.ref a3), some (.int ((p4 + (7 : Int32)))), none, none]) ⟨Or.inr rfl, Or.inr rfl, Or.inr rfl, Or.inr rfl, Or.inr rfl, Or.inl rfl, Or.inl rfl, trivial⟩ ?_
              exact H
            · have H := Hb c150
              refine j_iconst (v := 0) d_La_law_413 (by decide) ?_
              exact j_zret rfl (by decide) d_La_law_414 H
        · have H := Hb c154
          refine j_iconst (v := 0) d_La_law_396 (by decide) ?_
          exact j_zret rfl (by decide) d_La_law_397 H
      · have H := Hb c247
        refine j_iload_n d_Mo_isIn_5 rfl ?_
        refine j_iload_n d_Mo_isIn_6 rfl ?_
        obtain ⟨Ha, Hb⟩ := H
        refine j_icmp_gt (tgt := 14) d_Mo_isIn_7 (by decide) (fun c244 => ?_) (fun c245 => ?_)
        · have H := Ha c244
          refine j_iconst (v := 0) d_Mo_isIn_14 (by decide) ?_
          refine j_zret rfl (by decide) d_Mo_isIn_15 ?_
          show J E 3 m_Mo_append 14 [some (.ref a2), some (.int ((gA G a0 n3))), some (.int ((gA G a0 n5))), some (.int ((gA G a0 n7))), some (.int ((gA G a0 n9))), some (.int ((1 : Int32))), none, none] [.int ((0 : Int32))] G (aft E 14 m_La_law 382 [some (.ref a0), some (.ref a1), some (.ref a2), some (.ref a3), some (.int p4), some (.int s0), none] [] Post)
          refine j_if_eq (tgt := 42) d_Mo_append_14 (by decide) (fun _ => ?_) (fun c => absurd c (by decide))
          refine j_iconst (v := 0) d_Mo_append_42 (by decide) ?_
          refine j_istore (L' := [some (.ref a2), some (.int ((gA G a0 n3))), some (.int ((gA G a0 n5))), some (.int ((gA G a0 n7))), some (.int ((gA G a0 n9))), some (.int ((1 : Int32))), some (.int ((0 : Int32))), none]) d_Mo_append_43 (by decide) rfl ?_
          refine j_aload_n d_Mo_append_45 rfl ?_
          refine j_iload d_Mo_append_46 rfl ?_
          refine j_if_ne (tgt := 55) d_Mo_append_48 (by decide) (fun _ => ?_) (fun c => absurd c (by decide))
          refine j_iload d_Mo_append_55 rfl ?_
          refine j_if_ne (tgt := 64) d_Mo_append_57 (by decide) (fun c => absurd c (by decide)) (fun _ => ?_)
          refine j_iconst (v := 2) d_Mo_append_60 (by decide) ?_
          refine j_goto (tgt := 80) d_Mo_append_61 (by decide) ?_
          refine j_callV (d' := 1) (ci := 10) (As := [.int ((2 : Int32))]) (rest := []) (b := a2) cv_Mo_149 me_Mo_isFine rfl (by decide) rfl rfl t10 rfl rfl (Nat.le_of_ble_eq_true rfl) d_Mo_append_80 (by decide) rfl (j_enter (L := [some (.ref a2), some (.int ((2 : Int32)))]) me_Mo_isFine (cat_c rfl (cat_c rfl cat_n)) (Nat.le_of_ble_eq_true rfl) rfl ?_)
          refine j_aload_n d_Mo_isFine_0 rfl ?_
          refine j_iload_n d_Mo_isFine_1 rfl ?_
          refine j_putI (f := 640) fw_Mo_139 rfl rfl t10 d_Mo_isFine_2 ?_
          refine j_iload_n d_Mo_isFine_5 rfl ?_
          refine j_if_ne (tgt := 13) d_Mo_isFine_6 (by decide) (fun _ => ?_) (fun c => absurd c (by decide))
          refine j_iconst (v := 0) d_Mo_isFine_13 (by decide) ?_
          refine j_zret rfl (by decide) d_Mo_isFine_14 ?_
          show J E 3 m_Mo_append 83 [some (.ref a2), some (.int ((gA G a0 n3))), some (.int ((gA G a0 n5))), some (.int ((gA G a0 n7))), some (.int ((gA G a0 n9))), some (.int ((1 : Int32))), some (.int ((0 : Int32))), none] [.int ((0 : Int32))] (sI G 640 a2 ((2 : Int32))) (aft E 14 m_La_law 382 [some (.ref a0), some (.ref a1), some (.ref a2), some (.ref a3), some (.int p4), some (.int s0), none] [] Post)
          refine j_if_ne (tgt := 88) d_Mo_append_83 (by decide) (fun c => absurd c (by decide)) (fun _ => ?_)
          refine j_iconst (v := 0) d_Mo_append_86 (by decide) ?_
          refine j_iret rfl d_Mo_append_87 ?_
          show J E 14 m_La_law 385 [some (.ref a0), some (.ref a1), some (.ref a2), some (.ref a3), some (.int p4), some (.int s0), none] [.int ((0 : Int32))] (sI G 640 a2 ((2 : Int32))) Post
          refine j_istore (L' := [some (.ref a0), some (.ref a1), some (.ref a2), some (.ref a3), some (.int p4), some (.int s0), some (.int ((0 : Int32)))]) d_La_law_385 (by decide) rfl ?_
          refine j_aload_n d_La_law_387 rfl ?_
          refine j_callV (d' := 1) (ci := 10) (As := []) (rest := []) (b := a2) cv_La_80 me_Mo_thrown rfl (by decide) rfl rfl t10 rfl rfl (Nat.le_of_ble_eq_true rfl) d_La_law_388 (by decide) rfl (j_enter (L := [some (.ref a2)]) me_Mo_thrown (cat_c rfl cat_n) (Nat.le_of_ble_eq_true rfl) rfl ?_)
          refine j_aload_n d_Mo_thrown_0 rfl ?_
          refine j_getIv (f := 640) (v := ((2 : Int32))) fe_Mo_139 rfl rfl t10 (show gI (sI G 640 a2 ((2 : Int32))) 640 a2 = _ from gI_sI_eq) d_Mo_thrown_1 ?_
          refine j_iret rfl d_Mo_thrown_4 ?_
          show J E 14 m_La_law 391 [some (.ref a0), some (.ref a1), some (.ref a2), some (.ref a3), some (.int p4), some (.int s0), some (.int ((0 : Int32)))] [.int (((2 : Int32)))] (sI G 640 a2 ((2 : Int32))) Post
          refine j_iload d_La_law_391 rfl ?_
          obtain ⟨Ha, Hb⟩ := H
          refine j_icmp_eq (tgt := 398) d_La_law_393 (by decide) (fun c161 => ?_) (fun c162 => ?_)
          · have H := Ha c161
            refine j_iload d_La_law_398 rfl ?_
            obtain ⟨Ha, Hb⟩ := H
            refine j_if_ne (tgt := 415) d_La_law_400 (by decide) (fun c159 => ?_) (fun c160 => ?_)
            · have H := Ha c159
              refine j_goto (tgt := 1295) d_La_law_415 (by decide) ?_
              refine j_iinc (v := (p4 + (7 : Int32))) (L' := [some (.ref a0), some (.ref a1), some (.ref a2), some (.ref a3), some (.int ((p4 + (7 : Int32)))), some (.int s0), some (.int ((0 : Int32)))]) d_La_law_1295 rfl (by rw [show Int32.ofInt (7) = (7 : Int32) by decide]) (by decide) rfl ?_
              refine j_goto (tgt := 23) d_La_law_1298 (by decide) ?_
              refine j_forget (L' := [some (.ref a0), some (.ref a1), some (.ref a2), some (.ref a3), some (.int ((p4 + (7 : Int32)))), none, none]) ⟨Or.inr rfl, Or.inr rfl, Or.inr rfl, Or.inr rfl, Or.inr rfl, Or.inl rfl, Or.inl rfl, trivial⟩ ?_
              exact H
            · have H := Hb c160
              refine j_aload_n d_La_law_403 rfl ?_
              refine j_iconst (v := 0) d_La_law_404 (by decide) ?_
              obtain ⟨t155, H⟩ := H
              obtain ⟨x156, H⟩ := H
              refine j_lald (n := 0) t155 x156 d_La_law_405 ?_
              refine j_iload d_La_law_406 rfl ?_
              refine j_i2l d_La_law_408 ?_
              refine j_lcmp d_La_law_409 ?_
              obtain ⟨Ha, Hb⟩ := H
              refine j_if_eq (tgt := 415) d_La_law_410 (by decide) (fun c157 => ?_) (fun c158 => ?_)
              · have H := Ha c157
                refine j_goto (tgt := 1295) d_La_law_415 (by decide) ?_
                refine j_iinc (v := (p4 + (7 : Int32))) (L' := [some (.ref a0), some (.ref a1), some (.ref a2), some (.ref a3), some (.int ((p4 + (7 : Int32)))), some (.int s0), some (.int ((0 : Int32)))]) d_La_law_1295 rfl (by rw [show Int32.ofInt (7) = (7 : Int32) by decide]) (by decide) rfl ?_
                refine j_goto (tgt := 23) d_La_law_1298 (by decide) ?_
                refine j_forget (L' := [some (.ref a0), some (.ref a1), some (.ref a2), some (.ref a3), some (.int ((p4 + (7 : Int32)))), none, none]) ⟨Or.inr rfl, Or.inr rfl, Or.inr rfl, Or.inr rfl, Or.inr rfl, Or.inl rfl, Or.inl rfl, trivial⟩ ?_
                exact H
              · have H := Hb c158
                refine j_iconst (v := 0) d_La_law_413 (by decide) ?_
                exact j_zret rfl (by decide) d_La_law_414 H
          · have H := Hb c162
            refine j_iconst (v := 0) d_La_law_396 (by decide) ?_
            exact j_zret rfl (by decide) d_La_law_397 H
        · have H := Hb c245
          refine j_iconst (v := 1) d_Mo_isIn_10 (by decide) ?_
          refine j_goto (tgt := 15) d_Mo_isIn_11 (by decide) ?_
          refine j_zret rfl (by decide) d_Mo_isIn_15 ?_
          show J E 3 m_Mo_append 14 [some (.ref a2), some (.int ((gA G a0 n3))), some (.int ((gA G a0 n5))), some (.int ((gA G a0 n7))), some (.int ((gA G a0 n9))), some (.int ((1 : Int32))), none, none] [.int ((1 : Int32))] G (aft E 14 m_La_law 382 [some (.ref a0), some (.ref a1), some (.ref a2), some (.ref a3), some (.int p4), some (.int s0), none] [] Post)
          refine j_if_eq (tgt := 42) d_Mo_append_14 (by decide) (fun c => absurd c (by decide)) (fun _ => ?_)
          refine j_iload_n d_Mo_append_17 rfl ?_
          refine j_callS (d' := 2) (As := [.int ((gA G a0 n7))]) (rest := []) cs_Mo_159 me_Mo_isKey rfl (by decide) rfl rfl (Nat.le_of_ble_eq_true rfl) d_Mo_append_18 (by decide) rfl (j_enter (L := [some (.int ((gA G a0 n7)))]) me_Mo_isKey (cat_c rfl cat_n) (Nat.le_of_ble_eq_true rfl) rfl ?_)
          refine j_iload_n d_Mo_isKey_0 rfl ?_
          refine j_iconst (v := 0) d_Mo_isKey_1 (by decide) ?_
          refine j_iconst (v := 5) d_Mo_isKey_2 (by decide) ?_
          refine j_callS (d' := 1) (As := [.int ((gA G a0 n7)), .int ((0 : Int32)), .int ((5 : Int32))]) (rest := []) cs_Mo_142 me_Mo_isIn rfl (by decide) rfl rfl (Nat.le_of_ble_eq_true rfl) d_Mo_isKey_3 (by decide) rfl (j_enter (L := [some (.int ((gA G a0 n7))), some (.int ((0 : Int32))), some (.int ((5 : Int32)))]) me_Mo_isIn (cat_c rfl (cat_c rfl (cat_c rfl cat_n))) (Nat.le_of_ble_eq_true rfl) rfl ?_)
          refine j_iload_n d_Mo_isIn_0 rfl ?_
          refine j_iload_n d_Mo_isIn_1 rfl ?_
          obtain ⟨Ha, Hb⟩ := H
          refine j_icmp_lt (tgt := 14) d_Mo_isIn_2 (by decide) (fun c242 => ?_) (fun c243 => ?_)
          · have H := Ha c242
            refine j_iconst (v := 0) d_Mo_isIn_14 (by decide) ?_
            refine j_zret rfl (by decide) d_Mo_isIn_15 ?_
            show J E 2 m_Mo_isKey 6 [some (.int ((gA G a0 n7)))] [.int ((0 : Int32))] G (aft E 3 m_Mo_append 18 [some (.ref a2), some (.int ((gA G a0 n3))), some (.int ((gA G a0 n5))), some (.int ((gA G a0 n7))), some (.int ((gA G a0 n9))), some (.int ((1 : Int32))), none, none] [] (aft E 14 m_La_law 382 [some (.ref a0), some (.ref a1), some (.ref a2), some (.ref a3), some (.int p4), some (.int s0), none] [] Post))
            refine j_zret rfl (by decide) d_Mo_isKey_6 ?_
            show J E 3 m_Mo_append 21 [some (.ref a2), some (.int ((gA G a0 n3))), some (.int ((gA G a0 n5))), some (.int ((gA G a0 n7))), some (.int ((gA G a0 n9))), some (.int ((1 : Int32))), none, none] [.int ((0 : Int32))] G (aft E 14 m_La_law 382 [some (.ref a0), some (.ref a1), some (.ref a2), some (.ref a3), some (.int p4), some (.int s0), none] [] Post)
            refine j_if_eq (tgt := 42) d_Mo_append_21 (by decide) (fun _ => ?_) (fun c => absurd c (by decide))
            refine j_iconst (v := 0) d_Mo_append_42 (by decide) ?_
            refine j_istore (L' := [some (.ref a2), some (.int ((gA G a0 n3))), some (.int ((gA G a0 n5))), some (.int ((gA G a0 n7))), some (.int ((gA G a0 n9))), some (.int ((1 : Int32))), some (.int ((0 : Int32))), none]) d_Mo_append_43 (by decide) rfl ?_
            refine j_aload_n d_Mo_append_45 rfl ?_
            refine j_iload d_Mo_append_46 rfl ?_
            refine j_if_ne (tgt := 55) d_Mo_append_48 (by decide) (fun _ => ?_) (fun c => absurd c (by decide))
            refine j_iload d_Mo_append_55 rfl ?_
            refine j_if_ne (tgt := 64) d_Mo_append_57 (by decide) (fun c => absurd c (by decide)) (fun _ => ?_)
            refine j_iconst (v := 2) d_Mo_append_60 (by decide) ?_
            refine j_goto (tgt := 80) d_Mo_append_61 (by decide) ?_
            refine j_callV (d' := 1) (ci := 10) (As := [.int ((2 : Int32))]) (rest := []) (b := a2) cv_Mo_149 me_Mo_isFine rfl (by decide) rfl rfl t10 rfl rfl (Nat.le_of_ble_eq_true rfl) d_Mo_append_80 (by decide) rfl (j_enter (L := [some (.ref a2), some (.int ((2 : Int32)))]) me_Mo_isFine (cat_c rfl (cat_c rfl cat_n)) (Nat.le_of_ble_eq_true rfl) rfl ?_)
            refine j_aload_n d_Mo_isFine_0 rfl ?_
            refine j_iload_n d_Mo_isFine_1 rfl ?_
            refine j_putI (f := 640) fw_Mo_139 rfl rfl t10 d_Mo_isFine_2 ?_
            refine j_iload_n d_Mo_isFine_5 rfl ?_
            refine j_if_ne (tgt := 13) d_Mo_isFine_6 (by decide) (fun _ => ?_) (fun c => absurd c (by decide))
            refine j_iconst (v := 0) d_Mo_isFine_13 (by decide) ?_
            refine j_zret rfl (by decide) d_Mo_isFine_14 ?_
            show J E 3 m_Mo_append 83 [some (.ref a2), some (.int ((gA G a0 n3))), some (.int ((gA G a0 n5))), some (.int ((gA G a0 n7))), some (.int ((gA G a0 n9))), some (.int ((1 : Int32))), some (.int ((0 : Int32))), none] [.int ((0 : Int32))] (sI G 640 a2 ((2 : Int32))) (aft E 14 m_La_law 382 [some (.ref a0), some (.ref a1), some (.ref a2), some (.ref a3), some (.int p4), some (.int s0), none] [] Post)
            refine j_if_ne (tgt := 88) d_Mo_append_83 (by decide) (fun c => absurd c (by decide)) (fun _ => ?_)
            refine j_iconst (v := 0) d_Mo_append_86 (by decide) ?_
            refine j_iret rfl d_Mo_append_87 ?_
            show J E 14 m_La_law 385 [some (.ref a0), some (.ref a1), some (.ref a2), some (.ref a3), some (.int p4), some (.int s0), none] [.int ((0 : Int32))] (sI G 640 a2 ((2 : Int32))) Post
            refine j_istore (L' := [some (.ref a0), some (.ref a1), some (.ref a2), some (.ref a3), some (.int p4), some (.int s0), some (.int ((0 : Int32)))]) d_La_law_385 (by decide) rfl ?_
            refine j_aload_n d_La_law_387 rfl ?_
            refine j_callV (d' := 1) (ci := 10) (As := []) (rest := []) (b := a2) cv_La_80 me_Mo_thrown rfl (by decide) rfl rfl t10 rfl rfl (Nat.le_of_ble_eq_true rfl) d_La_law_388 (by decide) rfl (j_enter (L := [some (.ref a2)]) me_Mo_thrown (cat_c rfl cat_n) (Nat.le_of_ble_eq_true rfl) rfl ?_)
            refine j_aload_n d_Mo_thrown_0 rfl ?_
            refine j_getIv (f := 640) (v := ((2 : Int32))) fe_Mo_139 rfl rfl t10 (show gI (sI G 640 a2 ((2 : Int32))) 640 a2 = _ from gI_sI_eq) d_Mo_thrown_1 ?_
            refine j_iret rfl d_Mo_thrown_4 ?_
            show J E 14 m_La_law 391 [some (.ref a0), some (.ref a1), some (.ref a2), some (.ref a3), some (.int p4), some (.int s0), some (.int ((0 : Int32)))] [.int (((2 : Int32)))] (sI G 640 a2 ((2 : Int32))) Post
            refine j_iload d_La_law_391 rfl ?_
            obtain ⟨Ha, Hb⟩ := H
            refine j_icmp_eq (tgt := 398) d_La_law_393 (by decide) (fun c169 => ?_) (fun c170 => ?_)
            · have H := Ha c169
              refine j_iload d_La_law_398 rfl ?_
              obtain ⟨Ha, Hb⟩ := H
              refine j_if_ne (tgt := 415) d_La_law_400 (by decide) (fun c167 => ?_) (fun c168 => ?_)
              · have H := Ha c167
                refine j_goto (tgt := 1295) d_La_law_415 (by decide) ?_
                refine j_iinc (v := (p4 + (7 : Int32))) (L' := [some (.ref a0), some (.ref a1), some (.ref a2), some (.ref a3), some (.int ((p4 + (7 : Int32)))), some (.int s0), some (.int ((0 : Int32)))]) d_La_law_1295 rfl (by rw [show Int32.ofInt (7) = (7 : Int32) by decide]) (by decide) rfl ?_
                refine j_goto (tgt := 23) d_La_law_1298 (by decide) ?_
                refine j_forget (L' := [some (.ref a0), some (.ref a1), some (.ref a2), some (.ref a3), some (.int ((p4 + (7 : Int32)))), none, none]) ⟨Or.inr rfl, Or.inr rfl, Or.inr rfl, Or.inr rfl, Or.inr rfl, Or.inl rfl, Or.inl rfl, trivial⟩ ?_
                exact H
              · have H := Hb c168
                refine j_aload_n d_La_law_403 rfl ?_
                refine j_iconst (v := 0) d_La_law_404 (by decide) ?_
                obtain ⟨t163, H⟩ := H
                obtain ⟨x164, H⟩ := H
                refine j_lald (n := 0) t163 x164 d_La_law_405 ?_
                refine j_iload d_La_law_406 rfl ?_
                refine j_i2l d_La_law_408 ?_
                refine j_lcmp d_La_law_409 ?_
                obtain ⟨Ha, Hb⟩ := H
                refine j_if_eq (tgt := 415) d_La_law_410 (by decide) (fun c165 => ?_) (fun c166 => ?_)
                · have H := Ha c165
                  refine j_goto (tgt := 1295) d_La_law_415 (by decide) ?_
                  refine j_iinc (v := (p4 + (7 : Int32))) (L' := [some (.ref a0), some (.ref a1), some (.ref a2), some (.ref a3), some (.int ((p4 + (7 : Int32)))), some (.int s0), some (.int ((0 : Int32)))]) d_La_law_1295 rfl (by rw [show Int32.ofInt (7) = (7 : Int32) by decide]) (by decide) rfl ?_
                  refine j_goto (tgt := 23) d_La_law_1298 (by decide) ?_
                  refine j_forget (L' := [some (.ref a0), some (.ref a1), some (.ref a2), some (.ref a3), some (.int ((p4 + (7 : Int32)))), none, none]) ⟨Or.inr rfl, Or.inr rfl, Or.inr rfl, Or.inr rfl, Or.inr rfl, Or.inl rfl, Or.inl rfl, trivial⟩ ?_
                  exact H
                · have H := Hb c166
                  refine j_iconst (v := 0) d_La_law_413 (by decide) ?_
                  exact j_zret rfl (by decide) d_La_law_414 H
            · have H := Hb c170
              refine j_iconst (v := 0) d_La_law_396 (by decide) ?_
              exact j_zret rfl (by decide) d_La_law_397 H
          · have H := Hb c243
            refine j_iload_n d_Mo_isIn_5 rfl ?_
            refine j_iload_n d_Mo_isIn_6 rfl ?_
            obtain ⟨Ha, Hb⟩ := H
            refine j_icmp_gt (tgt := 14) d_Mo_isIn_7 (by decide) (fun c240 => ?_) (fun c241 => ?_)
            · have H := Ha c240
              refine j_iconst (v := 0) d_Mo_isIn_14 (by decide) ?_
              refine j_zret rfl (by decide) d_Mo_isIn_15 ?_
              show J E 2 m_Mo_isKey 6 [some (.int ((gA G a0 n7)))] [.int ((0 : Int32))] G (aft E 3 m_Mo_append 18 [some (.ref a2), some (.int ((gA G a0 n3))), some (.int ((gA G a0 n5))), some (.int ((gA G a0 n7))), some (.int ((gA G a0 n9))), some (.int ((1 : Int32))), none, none] [] (aft E 14 m_La_law 382 [some (.ref a0), some (.ref a1), some (.ref a2), some (.ref a3), some (.int p4), some (.int s0), none] [] Post))
              refine j_zret rfl (by decide) d_Mo_isKey_6 ?_
              show J E 3 m_Mo_append 21 [some (.ref a2), some (.int ((gA G a0 n3))), some (.int ((gA G a0 n5))), some (.int ((gA G a0 n7))), some (.int ((gA G a0 n9))), some (.int ((1 : Int32))), none, none] [.int ((0 : Int32))] G (aft E 14 m_La_law 382 [some (.ref a0), some (.ref a1), some (.ref a2), some (.ref a3), some (.int p4), some (.int s0), none] [] Post)
              refine j_if_eq (tgt := 42) d_Mo_append_21 (by decide) (fun _ => ?_) (fun c => absurd c (by decide))
              refine j_iconst (v := 0) d_Mo_append_42 (by decide) ?_
              refine j_istore (L' := [some (.ref a2), some (.int ((gA G a0 n3))), some (.int ((gA G a0 n5))), some (.int ((gA G a0 n7))), some (.int ((gA G a0 n9))), some (.int ((1 : Int32))), some (.int ((0 : Int32))), none]) d_Mo_append_43 (by decide) rfl ?_
              refine j_aload_n d_Mo_append_45 rfl ?_
              refine j_iload d_Mo_append_46 rfl ?_
              refine j_if_ne (tgt := 55) d_Mo_append_48 (by decide) (fun _ => ?_) (fun c => absurd c (by decide))
              refine j_iload d_Mo_append_55 rfl ?_
              refine j_if_ne (tgt := 64) d_Mo_append_57 (by decide) (fun c => absurd c (by decide)) (fun _ => ?_)
              refine j_iconst (v := 2) d_Mo_append_60 (by decide) ?_
              refine j_goto (tgt := 80) d_Mo_append_61 (by decide) ?_
              refine j_callV (d' := 1) (ci := 10) (As := [.int ((2 : Int32))]) (rest := []) (b := a2) cv_Mo_149 me_Mo_isFine rfl (by decide) rfl rfl t10 rfl rfl (Nat.le_of_ble_eq_true rfl) d_Mo_append_80 (by decide) rfl (j_enter (L := [some (.ref a2), some (.int ((2 : Int32)))]) me_Mo_isFine (cat_c rfl (cat_c rfl cat_n)) (Nat.le_of_ble_eq_true rfl) rfl ?_)
              refine j_aload_n d_Mo_isFine_0 rfl ?_
              refine j_iload_n d_Mo_isFine_1 rfl ?_
              refine j_putI (f := 640) fw_Mo_139 rfl rfl t10 d_Mo_isFine_2 ?_
              refine j_iload_n d_Mo_isFine_5 rfl ?_
              refine j_if_ne (tgt := 13) d_Mo_isFine_6 (by decide) (fun _ => ?_) (fun c => absurd c (by decide))
              refine j_iconst (v := 0) d_Mo_isFine_13 (by decide) ?_
              refine j_zret rfl (by decide) d_Mo_isFine_14 ?_
              show J E 3 m_Mo_append 83 [some (.ref a2), some (.int ((gA G a0 n3))), some (.int ((gA G a0 n5))), some (.int ((gA G a0 n7))), some (.int ((gA G a0 n9))), some (.int ((1 : Int32))), some (.int ((0 : Int32))), none] [.int ((0 : Int32))] (sI G 640 a2 ((2 : Int32))) (aft E 14 m_La_law 382 [some (.ref a0), some (.ref a1), some (.ref a2), some (.ref a3), some (.int p4), some (.int s0), none] [] Post)
              refine j_if_ne (tgt := 88) d_Mo_append_83 (by decide) (fun c => absurd c (by decide)) (fun _ => ?_)
              refine j_iconst (v := 0) d_Mo_append_86 (by decide) ?_
              refine j_iret rfl d_Mo_append_87 ?_
              show J E 14 m_La_law 385 [some (.ref a0), some (.ref a1), some (.ref a2), some (.ref a3), some (.int p4), some (.int s0), none] [.int ((0 : Int32))] (sI G 640 a2 ((2 : Int32))) Post
              refine j_istore (L' := [some (.ref a0), some (.ref a1), some (.ref a2), some (.ref a3), some (.int p4), some (.int s0), some (.int ((0 : Int32)))]) d_La_law_385 (by decide) rfl ?_
              refine j_aload_n d_La_law_387 rfl ?_
              refine j_callV (d' := 1) (ci := 10) (As := []) (rest := []) (b := a2) cv_La_80 me_Mo_thrown rfl (by decide) rfl rfl t10 rfl rfl (Nat.le_of_ble_eq_true rfl) d_La_law_388 (by decide) rfl (j_enter (L := [some (.ref a2)]) me_Mo_thrown (cat_c rfl cat_n) (Nat.le_of_ble_eq_true rfl) rfl ?_)
              refine j_aload_n d_Mo_thrown_0 rfl ?_
              refine j_getIv (f := 640) (v := ((2 : Int32))) fe_Mo_139 rfl rfl t10 (show gI (sI G 640 a2 ((2 : Int32))) 640 a2 = _ from gI_sI_eq) d_Mo_thrown_1 ?_
              refine j_iret rfl d_Mo_thrown_4 ?_
              show J E 14 m_La_law 391 [some (.ref a0), some (.ref a1), some (.ref a2), some (.ref a3), some (.int p4), some (.int s0), some (.int ((0 : Int32)))] [.int (((2 : Int32)))] (sI G 640 a2 ((2 : Int32))) Post
              refine j_iload d_La_law_391 rfl ?_
              obtain ⟨Ha, Hb⟩ := H
              refine j_icmp_eq (tgt := 398) d_La_law_393 (by decide) (fun c177 => ?_) (fun c178 => ?_)
              · have H := Ha c177
                refine j_iload d_La_law_398 rfl ?_
                obtain ⟨Ha, Hb⟩ := H
                refine j_if_ne (tgt := 415) d_La_law_400 (by decide) (fun c175 => ?_) (fun c176 => ?_)
                · have H := Ha c175
                  refine j_goto (tgt := 1295) d_La_law_415 (by decide) ?_
                  refine j_iinc (v := (p4 + (7 : Int32))) (L' := [some (.ref a0), some (.ref a1), some (.ref a2), some (.ref a3), some (.int ((p4 + (7 : Int32)))), some (.int s0), some (.int ((0 : Int32)))]) d_La_law_1295 rfl (by rw [show Int32.ofInt (7) = (7 : Int32) by decide]) (by decide) rfl ?_
                  refine j_goto (tgt := 23) d_La_law_1298 (by decide) ?_
                  refine j_forget (L' := [some (.ref a0), some (.ref a1), some (.ref a2), some (.ref a3), some (.int ((p4 + (7 : Int32)))), none, none]) ⟨Or.inr rfl, Or.inr rfl, Or.inr rfl, Or.inr rfl, Or.inr rfl, Or.inl rfl, Or.inl rfl, trivial⟩ ?_
                  exact H
                · have H := Hb c176
                  refine j_aload_n d_La_law_403 rfl ?_
                  refine j_iconst (v := 0) d_La_law_404 (by decide) ?_
                  obtain ⟨t171, H⟩ := H
                  obtain ⟨x172, H⟩ := H
                  refine j_lald (n := 0) t171 x172 d_La_law_405 ?_
                  refine j_iload d_La_law_406 rfl ?_
                  refine j_i2l d_La_law_408 ?_
                  refine j_lcmp d_La_law_409 ?_
                  obtain ⟨Ha, Hb⟩ := H
                  refine j_if_eq (tgt := 415) d_La_law_410 (by decide) (fun c173 => ?_) (fun c174 => ?_)
                  · have H := Ha c173
                    refine j_goto (tgt := 1295) d_La_law_415 (by decide) ?_
                    refine j_iinc (v := (p4 + (7 : Int32))) (L' := [some (.ref a0), some (.ref a1), some (.ref a2), some (.ref a3), some (.int ((p4 + (7 : Int32)))), some (.int s0), some (.int ((0 : Int32)))]) d_La_law_1295 rfl (by rw [show Int32.ofInt (7) = (7 : Int32) by decide]) (by decide) rfl ?_
                    refine j_goto (tgt := 23) d_La_law_1298 (by decide) ?_
                    refine j_forget (L' := [some (.ref a0), some (.ref a1), some (.ref a2), some (.ref a3), some (.int ((p4 + (7 : Int32)))), none, none]) ⟨Or.inr rfl, Or.inr rfl, Or.inr rfl, Or.inr rfl, Or.inr rfl, Or.inl rfl, Or.inl rfl, trivial⟩ ?_
                    exact H
                  · have H := Hb c174
                    refine j_iconst (v := 0) d_La_law_413 (by decide) ?_
                    exact j_zret rfl (by decide) d_La_law_414 H
              · have H := Hb c178
                refine j_iconst (v := 0) d_La_law_396 (by decide) ?_
                exact j_zret rfl (by decide) d_La_law_397 H
            · have H := Hb c241
              refine j_iconst (v := 1) d_Mo_isIn_10 (by decide) ?_
              refine j_goto (tgt := 15) d_Mo_isIn_11 (by decide) ?_
              refine j_zret rfl (by decide) d_Mo_isIn_15 ?_
              show J E 2 m_Mo_isKey 6 [some (.int ((gA G a0 n7)))] [.int ((1 : Int32))] G (aft E 3 m_Mo_append 18 [some (.ref a2), some (.int ((gA G a0 n3))), some (.int ((gA G a0 n5))), some (.int ((gA G a0 n7))), some (.int ((gA G a0 n9))), some (.int ((1 : Int32))), none, none] [] (aft E 14 m_La_law 382 [some (.ref a0), some (.ref a1), some (.ref a2), some (.ref a3), some (.int p4), some (.int s0), none] [] Post))
              refine j_zret rfl (by decide) d_Mo_isKey_6 ?_
              show J E 3 m_Mo_append 21 [some (.ref a2), some (.int ((gA G a0 n3))), some (.int ((gA G a0 n5))), some (.int ((gA G a0 n7))), some (.int ((gA G a0 n9))), some (.int ((1 : Int32))), none, none] [.int ((1 : Int32))] G (aft E 14 m_La_law 382 [some (.ref a0), some (.ref a1), some (.ref a2), some (.ref a3), some (.int p4), some (.int s0), none] [] Post)
              refine j_if_eq (tgt := 42) d_Mo_append_21 (by decide) (fun c => absurd c (by decide)) (fun _ => ?_)
              refine j_iload d_Mo_append_24 rfl ?_
              refine j_sipush (v := -1000) d_Mo_append_26 (by decide) ?_
              refine j_sipush (v := 1000) d_Mo_append_29 (by decide) ?_
              refine j_callS (d' := 1) (As := [.int ((gA G a0 n9)), .int ((-1000 : Int32)), .int ((1000 : Int32))]) (rest := []) cs_Mo_142 me_Mo_isIn rfl (by decide) rfl rfl (Nat.le_of_ble_eq_true rfl) d_Mo_append_32 (by decide) rfl (j_enter (L := [some (.int ((gA G a0 n9))), some (.int ((-1000 : Int32))), some (.int ((1000 : Int32)))]) me_Mo_isIn (cat_c rfl (cat_c rfl (cat_c rfl cat_n))) (Nat.le_of_ble_eq_true rfl) rfl ?_)
              refine j_iload_n d_Mo_isIn_0 rfl ?_
              refine j_iload_n d_Mo_isIn_1 rfl ?_
              obtain ⟨Ha, Hb⟩ := H
              refine j_icmp_lt (tgt := 14) d_Mo_isIn_2 (by decide) (fun c238 => ?_) (fun c239 => ?_)
              · have H := Ha c238
                refine j_iconst (v := 0) d_Mo_isIn_14 (by decide) ?_
                refine j_zret rfl (by decide) d_Mo_isIn_15 ?_
                show J E 3 m_Mo_append 35 [some (.ref a2), some (.int ((gA G a0 n3))), some (.int ((gA G a0 n5))), some (.int ((gA G a0 n7))), some (.int ((gA G a0 n9))), some (.int ((1 : Int32))), none, none] [.int ((0 : Int32))] G (aft E 14 m_La_law 382 [some (.ref a0), some (.ref a1), some (.ref a2), some (.ref a3), some (.int p4), some (.int s0), none] [] Post)
                refine j_if_eq (tgt := 42) d_Mo_append_35 (by decide) (fun _ => ?_) (fun c => absurd c (by decide))
                refine j_iconst (v := 0) d_Mo_append_42 (by decide) ?_
                refine j_istore (L' := [some (.ref a2), some (.int ((gA G a0 n3))), some (.int ((gA G a0 n5))), some (.int ((gA G a0 n7))), some (.int ((gA G a0 n9))), some (.int ((1 : Int32))), some (.int ((0 : Int32))), none]) d_Mo_append_43 (by decide) rfl ?_
                refine j_aload_n d_Mo_append_45 rfl ?_
                refine j_iload d_Mo_append_46 rfl ?_
                refine j_if_ne (tgt := 55) d_Mo_append_48 (by decide) (fun _ => ?_) (fun c => absurd c (by decide))
                refine j_iload d_Mo_append_55 rfl ?_
                refine j_if_ne (tgt := 64) d_Mo_append_57 (by decide) (fun c => absurd c (by decide)) (fun _ => ?_)
                refine j_iconst (v := 2) d_Mo_append_60 (by decide) ?_
                refine j_goto (tgt := 80) d_Mo_append_61 (by decide) ?_
                refine j_callV (d' := 1) (ci := 10) (As := [.int ((2 : Int32))]) (rest := []) (b := a2) cv_Mo_149 me_Mo_isFine rfl (by decide) rfl rfl t10 rfl rfl (Nat.le_of_ble_eq_true rfl) d_Mo_append_80 (by decide) rfl (j_enter (L := [some (.ref a2), some (.int ((2 : Int32)))]) me_Mo_isFine (cat_c rfl (cat_c rfl cat_n)) (Nat.le_of_ble_eq_true rfl) rfl ?_)
                refine j_aload_n d_Mo_isFine_0 rfl ?_
                refine j_iload_n d_Mo_isFine_1 rfl ?_
                refine j_putI (f := 640) fw_Mo_139 rfl rfl t10 d_Mo_isFine_2 ?_
                refine j_iload_n d_Mo_isFine_5 rfl ?_
                refine j_if_ne (tgt := 13) d_Mo_isFine_6 (by decide) (fun _ => ?_) (fun c => absurd c (by decide))
                refine j_iconst (v := 0) d_Mo_isFine_13 (by decide) ?_
                refine j_zret rfl (by decide) d_Mo_isFine_14 ?_
                show J E 3 m_Mo_append 83 [some (.ref a2), some (.int ((gA G a0 n3))), some (.int ((gA G a0 n5))), some (.int ((gA G a0 n7))), some (.int ((gA G a0 n9))), some (.int ((1 : Int32))), some (.int ((0 : Int32))), none] [.int ((0 : Int32))] (sI G 640 a2 ((2 : Int32))) (aft E 14 m_La_law 382 [some (.ref a0), some (.ref a1), some (.ref a2), some (.ref a3), some (.int p4), some (.int s0), none] [] Post)
                refine j_if_ne (tgt := 88) d_Mo_append_83 (by decide) (fun c => absurd c (by decide)) (fun _ => ?_)
                refine j_iconst (v := 0) d_Mo_append_86 (by decide) ?_
                refine j_iret rfl d_Mo_append_87 ?_
                show J E 14 m_La_law 385 [some (.ref a0), some (.ref a1), some (.ref a2), some (.ref a3), some (.int p4), some (.int s0), none] [.int ((0 : Int32))] (sI G 640 a2 ((2 : Int32))) Post
                refine j_istore (L' := [some (.ref a0), some (.ref a1), some (.ref a2), some (.ref a3), some (.int p4), some (.int s0), some (.int ((0 : Int32)))]) d_La_law_385 (by decide) rfl ?_
                refine j_aload_n d_La_law_387 rfl ?_
                refine j_callV (d' := 1) (ci := 10) (As := []) (rest := []) (b := a2) cv_La_80 me_Mo_thrown rfl (by decide) rfl rfl t10 rfl rfl (Nat.le_of_ble_eq_true rfl) d_La_law_388 (by decide) rfl (j_enter (L := [some (.ref a2)]) me_Mo_thrown (cat_c rfl cat_n) (Nat.le_of_ble_eq_true rfl) rfl ?_)
                refine j_aload_n d_Mo_thrown_0 rfl ?_
                refine j_getIv (f := 640) (v := ((2 : Int32))) fe_Mo_139 rfl rfl t10 (show gI (sI G 640 a2 ((2 : Int32))) 640 a2 = _ from gI_sI_eq) d_Mo_thrown_1 ?_
                refine j_iret rfl d_Mo_thrown_4 ?_
                show J E 14 m_La_law 391 [some (.ref a0), some (.ref a1), some (.ref a2), some (.ref a3), some (.int p4), some (.int s0), some (.int ((0 : Int32)))] [.int (((2 : Int32)))] (sI G 640 a2 ((2 : Int32))) Post
                refine j_iload d_La_law_391 rfl ?_
                obtain ⟨Ha, Hb⟩ := H
                refine j_icmp_eq (tgt := 398) d_La_law_393 (by decide) (fun c185 => ?_) (fun c186 => ?_)
                · have H := Ha c185
                  refine j_iload d_La_law_398 rfl ?_
                  obtain ⟨Ha, Hb⟩ := H
                  refine j_if_ne (tgt := 415) d_La_law_400 (by decide) (fun c183 => ?_) (fun c184 => ?_)
                  · have H := Ha c183
                    refine j_goto (tgt := 1295) d_La_law_415 (by decide) ?_
                    refine j_iinc (v := (p4 + (7 : Int32))) (L' := [some (.ref a0), some (.ref a1), some (.ref a2), some (.ref a3), some (.int ((p4 + (7 : Int32)))), some (.int s0), some (.int ((0 : Int32)))]) d_La_law_1295 rfl (by rw [show Int32.ofInt (7) = (7 : Int32) by decide]) (by decide) rfl ?_
                    refine j_goto (tgt := 23) d_La_law_1298 (by decide) ?_
                    refine j_forget (L' := [some (.ref a0), some (.ref a1), some (.ref a2), some (.ref a3), some (.int ((p4 + (7 : Int32)))), none, none]) ⟨Or.inr rfl, Or.inr rfl, Or.inr rfl, Or.inr rfl, Or.inr rfl, Or.inl rfl, Or.inl rfl, trivial⟩ ?_
                    exact H
                  · have H := Hb c184
                    refine j_aload_n d_La_law_403 rfl ?_
                    refine j_iconst (v := 0) d_La_law_404 (by decide) ?_
                    obtain ⟨t179, H⟩ := H
                    obtain ⟨x180, H⟩ := H
                    refine j_lald (n := 0) t179 x180 d_La_law_405 ?_
                    refine j_iload d_La_law_406 rfl ?_
                    refine j_i2l d_La_law_408 ?_
                    refine j_lcmp d_La_law_409 ?_
                    obtain ⟨Ha, Hb⟩ := H
                    refine j_if_eq (tgt := 415) d_La_law_410 (by decide) (fun c181 => ?_) (fun c182 => ?_)
                    · have H := Ha c181
                      refine j_goto (tgt := 1295) d_La_law_415 (by decide) ?_
                      refine j_iinc (v := (p4 + (7 : Int32))) (L' := [some (.ref a0), some (.ref a1), some (.ref a2), some (.ref a3), some (.int ((p4 + (7 : Int32)))), some (.int s0), some (.int ((0 : Int32)))]) d_La_law_1295 rfl (by rw [show Int32.ofInt (7) = (7 : Int32) by decide]) (by decide) rfl ?_
                      refine j_goto (tgt := 23) d_La_law_1298 (by decide) ?_
                      refine j_forget (L' := [some (.ref a0), some (.ref a1), some (.ref a2), some (.ref a3), some (.int ((p4 + (7 : Int32)))), none, none]) ⟨Or.inr rfl, Or.inr rfl, Or.inr rfl, Or.inr rfl, Or.inr rfl, Or.inl rfl, Or.inl rfl, trivial⟩ ?_
                      exact H
                    · have H := Hb c182
                      refine j_iconst (v := 0) d_La_law_413 (by decide) ?_
                      exact j_zret rfl (by decide) d_La_law_414 H
                · have H := Hb c186
                  refine j_iconst (v := 0) d_La_law_396 (by decide) ?_
                  exact j_zret rfl (by decide) d_La_law_397 H
              · have H := Hb c239
                refine j_iload_n d_Mo_isIn_5 rfl ?_
                refine j_iload_n d_Mo_isIn_6 rfl ?_
                obtain ⟨Ha, Hb⟩ := H
                refine j_icmp_gt (tgt := 14) d_Mo_isIn_7 (by decide) (fun c236 => ?_) (fun c237 => ?_)
                · have H := Ha c236
                  refine j_iconst (v := 0) d_Mo_isIn_14 (by decide) ?_
                  refine j_zret rfl (by decide) d_Mo_isIn_15 ?_
                  show J E 3 m_Mo_append 35 [some (.ref a2), some (.int ((gA G a0 n3))), some (.int ((gA G a0 n5))), some (.int ((gA G a0 n7))), some (.int ((gA G a0 n9))), some (.int ((1 : Int32))), none, none] [.int ((0 : Int32))] G (aft E 14 m_La_law 382 [some (.ref a0), some (.ref a1), some (.ref a2), some (.ref a3), some (.int p4), some (.int s0), none] [] Post)
                  refine j_if_eq (tgt := 42) d_Mo_append_35 (by decide) (fun _ => ?_) (fun c => absurd c (by decide))
                  refine j_iconst (v := 0) d_Mo_append_42 (by decide) ?_
                  refine j_istore (L' := [some (.ref a2), some (.int ((gA G a0 n3))), some (.int ((gA G a0 n5))), some (.int ((gA G a0 n7))), some (.int ((gA G a0 n9))), some (.int ((1 : Int32))), some (.int ((0 : Int32))), none]) d_Mo_append_43 (by decide) rfl ?_
                  refine j_aload_n d_Mo_append_45 rfl ?_
                  refine j_iload d_Mo_append_46 rfl ?_
                  refine j_if_ne (tgt := 55) d_Mo_append_48 (by decide) (fun _ => ?_) (fun c => absurd c (by decide))
                  refine j_iload d_Mo_append_55 rfl ?_
                  refine j_if_ne (tgt := 64) d_Mo_append_57 (by decide) (fun c => absurd c (by decide)) (fun _ => ?_)
                  refine j_iconst (v := 2) d_Mo_append_60 (by decide) ?_
                  refine j_goto (tgt := 80) d_Mo_append_61 (by decide) ?_
                  refine j_callV (d' := 1) (ci := 10) (As := [.int ((2 : Int32))]) (rest := []) (b := a2) cv_Mo_149 me_Mo_isFine rfl (by decide) rfl rfl t10 rfl rfl (Nat.le_of_ble_eq_true rfl) d_Mo_append_80 (by decide) rfl (j_enter (L := [some (.ref a2), some (.int ((2 : Int32)))]) me_Mo_isFine (cat_c rfl (cat_c rfl cat_n)) (Nat.le_of_ble_eq_true rfl) rfl ?_)
                  refine j_aload_n d_Mo_isFine_0 rfl ?_
                  refine j_iload_n d_Mo_isFine_1 rfl ?_
                  refine j_putI (f := 640) fw_Mo_139 rfl rfl t10 d_Mo_isFine_2 ?_
                  refine j_iload_n d_Mo_isFine_5 rfl ?_
                  refine j_if_ne (tgt := 13) d_Mo_isFine_6 (by decide) (fun _ => ?_) (fun c => absurd c (by decide))
                  refine j_iconst (v := 0) d_Mo_isFine_13 (by decide) ?_
                  refine j_zret rfl (by decide) d_Mo_isFine_14 ?_
                  show J E 3 m_Mo_append 83 [some (.ref a2), some (.int ((gA G a0 n3))), some (.int ((gA G a0 n5))), some (.int ((gA G a0 n7))), some (.int ((gA G a0 n9))), some (.int ((1 : Int32))), some (.int ((0 : Int32))), none] [.int ((0 : Int32))] (sI G 640 a2 ((2 : Int32))) (aft E 14 m_La_law 382 [some (.ref a0), some (.ref a1), some (.ref a2), some (.ref a3), some (.int p4), some (.int s0), none] [] Post)
                  refine j_if_ne (tgt := 88) d_Mo_append_83 (by decide) (fun c => absurd c (by decide)) (fun _ => ?_)
                  refine j_iconst (v := 0) d_Mo_append_86 (by decide) ?_
                  refine j_iret rfl d_Mo_append_87 ?_
                  show J E 14 m_La_law 385 [some (.ref a0), some (.ref a1), some (.ref a2), some (.ref a3), some (.int p4), some (.int s0), none] [.int ((0 : Int32))] (sI G 640 a2 ((2 : Int32))) Post
                  refine j_istore (L' := [some (.ref a0), some (.ref a1), some (.ref a2), some (.ref a3), some (.int p4), some (.int s0), some (.int ((0 : Int32)))]) d_La_law_385 (by decide) rfl ?_
                  refine j_aload_n d_La_law_387 rfl ?_
                  refine j_callV (d' := 1) (ci := 10) (As := []) (rest := []) (b := a2) cv_La_80 me_Mo_thrown rfl (by decide) rfl rfl t10 rfl rfl (Nat.le_of_ble_eq_true rfl) d_La_law_388 (by decide) rfl (j_enter (L := [some (.ref a2)]) me_Mo_thrown (cat_c rfl cat_n) (Nat.le_of_ble_eq_true rfl) rfl ?_)
                  refine j_aload_n d_Mo_thrown_0 rfl ?_
                  refine j_getIv (f := 640) (v := ((2 : Int32))) fe_Mo_139 rfl rfl t10 (show gI (sI G 640 a2 ((2 : Int32))) 640 a2 = _ from gI_sI_eq) d_Mo_thrown_1 ?_
                  refine j_iret rfl d_Mo_thrown_4 ?_
                  show J E 14 m_La_law 391 [some (.ref a0), some (.ref a1), some (.ref a2), some (.ref a3), some (.int p4), some (.int s0), some (.int ((0 : Int32)))] [.int (((2 : Int32)))] (sI G 640 a2 ((2 : Int32))) Post
                  refine j_iload d_La_law_391 rfl ?_
                  obtain ⟨Ha, Hb⟩ := H
                  refine j_icmp_eq (tgt := 398) d_La_law_393 (by decide) (fun c193 => ?_) (fun c194 => ?_)
                  · have H := Ha c193
                    refine j_iload d_La_law_398 rfl ?_
                    obtain ⟨Ha, Hb⟩ := H
                    refine j_if_ne (tgt := 415) d_La_law_400 (by decide) (fun c191 => ?_) (fun c192 => ?_)
                    · have H := Ha c191
                      refine j_goto (tgt := 1295) d_La_law_415 (by decide) ?_
                      refine j_iinc (v := (p4 + (7 : Int32))) (L' := [some (.ref a0), some (.ref a1), some (.ref a2), some (.ref a3), some (.int ((p4 + (7 : Int32)))), some (.int s0), some (.int ((0 : Int32)))]) d_La_law_1295 rfl (by rw [show Int32.ofInt (7) = (7 : Int32) by decide]) (by decide) rfl ?_
                      refine j_goto (tgt := 23) d_La_law_1298 (by decide) ?_
                      refine j_forget (L' := [some (.ref a0), some (.ref a1), some (.ref a2), some (.ref a3), some (.int ((p4 + (7 : Int32)))), none, none]) ⟨Or.inr rfl, Or.inr rfl, Or.inr rfl, Or.inr rfl, Or.inr rfl, Or.inl rfl, Or.inl rfl, trivial⟩ ?_
                      exact H
                    · have H := Hb c192
                      refine j_aload_n d_La_law_403 rfl ?_
                      refine j_iconst (v := 0) d_La_law_404 (by decide) ?_
                      obtain ⟨t187, H⟩ := H
                      obtain ⟨x188, H⟩ := H
                      refine j_lald (n := 0) t187 x188 d_La_law_405 ?_
                      refine j_iload d_La_law_406 rfl ?_
                      refine j_i2l d_La_law_408 ?_
                      refine j_lcmp d_La_law_409 ?_
                      obtain ⟨Ha, Hb⟩ := H
                      refine j_if_eq (tgt := 415) d_La_law_410 (by decide) (fun c189 => ?_) (fun c190 => ?_)
                      · have H := Ha c189
                        refine j_goto (tgt := 1295) d_La_law_415 (by decide) ?_
                        refine j_iinc (v := (p4 + (7 : Int32))) (L' := [some (.ref a0), some (.ref a1), some (.ref a2), some (.ref a3), some (.int ((p4 + (7 : Int32)))), some (.int s0), some (.int ((0 : Int32)))]) d_La_law_1295 rfl (by rw [show Int32.ofInt (7) = (7 : Int32) by decide]) (by decide) rfl ?_
                        refine j_goto (tgt := 23) d_La_law_1298 (by decide) ?_
                        refine j_forget (L' := [some (.ref a0), some (.ref a1), some (.ref a2), some (.ref a3), some (.int ((p4 + (7 : Int32)))), none, none]) ⟨Or.inr rfl, Or.inr rfl, Or.inr rfl, Or.inr rfl, Or.inr rfl, Or.inl rfl, Or.inl rfl, trivial⟩ ?_
                        exact H
                      · have H := Hb c190
                        refine j_iconst (v := 0) d_La_law_413 (by decide) ?_
                        exact j_zret rfl (by decide) d_La_law_414 H
                  · have H := Hb c194
                    refine j_iconst (v := 0) d_La_law_396 (by decide) ?_
                    exact j_zret rfl (by decide) d_La_law_397 H
                · have H := Hb c237
                  refine j_iconst (v := 1) d_Mo_isIn_10 (by decide) ?_
                  refine j_goto (tgt := 15) d_Mo_isIn_11 (by decide) ?_
                  refine j_zret rfl (by decide) d_Mo_isIn_15 ?_
                  show J E 3 m_Mo_append 35 [some (.ref a2), some (.int ((gA G a0 n3))), some (.int ((gA G a0 n5))), some (.int ((gA G a0 n7))), some (.int ((gA G a0 n9))), some (.int ((1 : Int32))), none, none] [.int ((1 : Int32))] G (aft E 14 m_La_law 382 [some (.ref a0), some (.ref a1), some (.ref a2), some (.ref a3), some (.int p4), some (.int s0), none] [] Post)
                  refine j_if_eq (tgt := 42) d_Mo_append_35 (by decide) (fun c => absurd c (by decide)) (fun _ => ?_)
                  refine j_iconst (v := 1) d_Mo_append_38 (by decide) ?_
                  refine j_goto (tgt := 43) d_Mo_append_39 (by decide) ?_
                  refine j_istore (L' := [some (.ref a2), some (.int ((gA G a0 n3))), some (.int ((gA G a0 n5))), some (.int ((gA G a0 n7))), some (.int ((gA G a0 n9))), some (.int ((1 : Int32))), some (.int ((1 : Int32))), none]) d_Mo_append_43 (by decide) rfl ?_
                  refine j_aload_n d_Mo_append_45 rfl ?_
                  refine j_iload d_Mo_append_46 rfl ?_
                  refine j_if_ne (tgt := 55) d_Mo_append_48 (by decide) (fun _ => ?_) (fun c => absurd c (by decide))
                  refine j_iload d_Mo_append_55 rfl ?_
                  refine j_if_ne (tgt := 64) d_Mo_append_57 (by decide) (fun _ => ?_) (fun c => absurd c (by decide))
                  refine j_aload_n d_Mo_append_64 rfl ?_
                  obtain ⟨b195, e196, H⟩ := H
                  refine j_getR (f := 652) (b := b195) fe_Mo_39 rfl rfl t10 e196 d_Mo_append_65 ?_
                  refine j_iload_n d_Mo_append_68 rfl ?_
                  obtain ⟨t197, H⟩ := H
                  obtain ⟨n199, x198, H⟩ := H
                  refine j_iald (n := n199) t197 x198 d_Mo_append_69 ?_
                  refine j_bipush (v := 40) d_Mo_append_70 (by decide) ?_
                  obtain ⟨Ha, Hb⟩ := H
                  refine j_icmp_ne (tgt := 79) d_Mo_append_72 (by decide) (fun c234 => ?_) (fun c235 => ?_)
                  · have H := Ha c234
                    refine j_iconst (v := 0) d_Mo_append_79 (by decide) ?_
                    refine j_callV (d' := 1) (ci := 10) (As := [.int ((0 : Int32))]) (rest := []) (b := a2) cv_Mo_149 me_Mo_isFine rfl (by decide) rfl rfl t10 rfl rfl (Nat.le_of_ble_eq_true rfl) d_Mo_append_80 (by decide) rfl (j_enter (L := [some (.ref a2), some (.int ((0 : Int32)))]) me_Mo_isFine (cat_c rfl (cat_c rfl cat_n)) (Nat.le_of_ble_eq_true rfl) rfl ?_)
                    refine j_aload_n d_Mo_isFine_0 rfl ?_
                    refine j_iload_n d_Mo_isFine_1 rfl ?_
                    refine j_putI (f := 640) fw_Mo_139 rfl rfl t10 d_Mo_isFine_2 ?_
                    refine j_iload_n d_Mo_isFine_5 rfl ?_
                    refine j_if_ne (tgt := 13) d_Mo_isFine_6 (by decide) (fun c => absurd c (by decide)) (fun _ => ?_)
                    refine j_iconst (v := 1) d_Mo_isFine_9 (by decide) ?_
                    refine j_goto (tgt := 14) d_Mo_isFine_10 (by decide) ?_
                    refine j_zret rfl (by decide) d_Mo_isFine_14 ?_
                    show J E 3 m_Mo_append 83 [some (.ref a2), some (.int ((gA G a0 n3))), some (.int ((gA G a0 n5))), some (.int ((gA G a0 n7))), some (.int ((gA G a0 n9))), some (.int ((1 : Int32))), some (.int ((1 : Int32))), none] [.int ((1 : Int32))] (sI G 640 a2 ((0 : Int32))) (aft E 14 m_La_law 382 [some (.ref a0), some (.ref a1), some (.ref a2), some (.ref a3), some (.int p4), some (.int s0), none] [] Post)
                    refine j_if_ne (tgt := 88) d_Mo_append_83 (by decide) (fun _ => ?_) (fun c => absurd c (by decide))
                    refine j_bipush (v := 40) d_Mo_append_88 (by decide) ?_
                    refine j_iload_n d_Mo_append_90 rfl ?_
                    refine j_imul d_Mo_append_91 ?_
                    refine j_aload_n d_Mo_append_92 rfl ?_
                    refine j_getR (f := 652) (b := b195) fe_Mo_39 rfl rfl t10 e196 d_Mo_append_93 ?_
                    refine j_iload_n d_Mo_append_96 rfl ?_
                    refine j_iald (n := n199) t197 x198 d_Mo_append_97 ?_
                    refine j_iadd d_Mo_append_98 ?_
                    refine j_istore (L' := [some (.ref a2), some (.int ((gA G a0 n3))), some (.int ((gA G a0 n5))), some (.int ((gA G a0 n7))), some (.int ((gA G a0 n9))), some (.int ((1 : Int32))), some (.int ((1 : Int32))), some (.int ((((40 : Int32) * (gA G a0 n3)) + (gA (sI G 640 a2 ((0 : Int32))) b195 n199))))]) d_Mo_append_99 (by decide) rfl ?_
                    refine j_aload_n d_Mo_append_101 rfl ?_
                    obtain ⟨b200, e201, H⟩ := H
                    refine j_getR (f := 649) (b := b200) fe_Mo_29 rfl rfl t10 e201 d_Mo_append_102 ?_
                    refine j_iload d_Mo_append_105 rfl ?_
                    refine j_iload_n d_Mo_append_107 rfl ?_
                    obtain ⟨t202, H⟩ := H
                    obtain ⟨n204, x203, H⟩ := H
                    refine j_iast (n := n204) t202 x203 d_Mo_append_108 ?_
                    refine j_aload_n d_Mo_append_109 rfl ?_
                    obtain ⟨b205, e206, H⟩ := H
                    refine j_getR (f := 650) (b := b205) fe_Mo_33 rfl rfl t10 e206 d_Mo_append_110 ?_
                    refine j_iload d_Mo_append_113 rfl ?_
                    refine j_iload_n d_Mo_append_115 rfl ?_
                    obtain ⟨t207, H⟩ := H
                    obtain ⟨n209, x208, H⟩ := H
                    refine j_iast (n := n209) t207 x208 d_Mo_append_116 ?_
                    refine j_aload_n d_Mo_append_117 rfl ?_
                    obtain ⟨b210, e211, H⟩ := H
                    refine j_getR (f := 651) (b := b210) fe_Mo_36 rfl rfl t10 e211 d_Mo_append_118 ?_
                    refine j_iload d_Mo_append_121 rfl ?_
                    refine j_iload d_Mo_append_123 rfl ?_
                    obtain ⟨t212, H⟩ := H
                    obtain ⟨n214, x213, H⟩ := H
                    refine j_iast (n := n214) t212 x213 d_Mo_append_125 ?_
                    show J E 3 m_Mo_append 126 [some (.ref a2), some (.int ((gA G a0 n3))), some (.int ((gA G a0 n5))), some (.int ((gA G a0 n7))), some (.int ((gA G a0 n9))), some (.int ((1 : Int32))), some (.int ((1 : Int32))), some (.int ((((40 : Int32) * (gA G a0 n3)) + (gA (sI G 640 a2 ((0 : Int32))) b195 n199))))] [] (sA (sA (sA (sI G 640 a2 ((0 : Int32))) b200 n204 ((gA G a0 n5))) b205 n209 ((gA G a0 n7))) b210 n214 ((gA G a0 n9))) (aft E 14 m_La_law 382 [some (.ref a0), some (.ref a1), some (.ref a2), some (.ref a3), some (.int p4), some (.int s0), none] [] Post)
                    generalize e216 : sA (sA (sA (sI G 640 a2 ((0 : Int32))) b200 n204 ((gA G a0 n5))) b205 n209 ((gA G a0 n7))) b210 n214 ((gA G a0 n9)) = G215
                    have e216 := e216.symm
                    have H := H G215 e216
                    refine j_aload_n d_Mo_append_126 rfl ?_
                    refine j_getR (f := 652) (b := b195) fe_Mo_39 rfl rfl (by rw [e216]; exact t10) (by rw [e216]; exact e196) d_Mo_append_127 ?_
                    refine j_iload_n d_Mo_append_130 rfl ?_
                    refine j_dup2 d_Mo_append_131 rfl rfl ?_
                    refine j_iald (n := n199) (by rw [e216]; exact t197) (IX_n (by first | (rw [e216]; done) | (rw [e216]; rfl)) x198) d_Mo_append_132 ?_
                    refine j_iconst (v := 1) d_Mo_append_133 (by decide) ?_
                    refine j_iadd d_Mo_append_134 ?_
                    obtain ⟨t217, H⟩ := H
                    refine j_iast (n := n199) (by rw [e216]; exact t217) (IX_n (by first | (rw [e216]; done) | (rw [e216]; rfl)) x198) d_Mo_append_135 ?_
                    refine j_aload_n d_Mo_append_136 rfl ?_
                    refine j_getR (f := 652) (b := b195) fe_Mo_39 rfl rfl (by rw [e216]; exact t10) (by rw [e216]; exact e196) d_Mo_append_137 ?_
                    refine j_iload_n d_Mo_append_140 rfl ?_
                    refine j_iald (n := n199) (by rw [e216]; exact (Or.inl t217)) (IX_n (by first | (rw [e216]; done) | (rw [e216]; rfl)) x198) d_Mo_append_141 ?_
                    refine j_iconst (v := 1) d_Mo_append_142 (by decide) ?_
                    refine j_isub d_Mo_append_143 ?_
                    refine j_iret rfl d_Mo_append_144 ?_
                    show J E 14 m_La_law 385 [some (.ref a0), some (.ref a1), some (.ref a2), some (.ref a3), some (.int p4), some (.int s0), none] [.int (((gA (sA G215 b195 n199 (((gA G215 b195 n199) + (1 : Int32)))) b195 n199) - (1 : Int32)))] (sA G215 b195 n199 (((gA G215 b195 n199) + (1 : Int32)))) Post
                    refine j_istore (L' := [some (.ref a0), some (.ref a1), some (.ref a2), some (.ref a3), some (.int p4), some (.int s0), some (.int (((gA (sA G215 b195 n199 (((gA G215 b195 n199) + (1 : Int32)))) b195 n199) - (1 : Int32))))]) d_La_law_385 (by decide) rfl ?_
                    refine j_aload_n d_La_law_387 rfl ?_
                    refine j_callV (d' := 1) (ci := 10) (As := []) (rest := []) (b := a2) cv_La_80 me_Mo_thrown rfl (by decide) rfl rfl (by rw [e216]; exact t10) rfl rfl (Nat.le_of_ble_eq_true rfl) d_La_law_388 (by decide) rfl (j_enter (L := [some (.ref a2)]) me_Mo_thrown (cat_c rfl cat_n) (Nat.le_of_ble_eq_true rfl) rfl ?_)
                    refine j_aload_n d_Mo_thrown_0 rfl ?_
                    refine j_getIv (f := 640) (v := ((0 : Int32))) fe_Mo_139 rfl rfl (by rw [e216]; exact t10) (by rw [e216]; exact (show gI (sI G 640 a2 ((0 : Int32))) 640 a2 = _ from gI_sI_eq)) d_Mo_thrown_1 ?_
                    refine j_iret rfl d_Mo_thrown_4 ?_
                    show J E 14 m_La_law 391 [some (.ref a0), some (.ref a1), some (.ref a2), some (.ref a3), some (.int p4), some (.int s0), some (.int (((gA (sA G215 b195 n199 (((gA G215 b195 n199) + (1 : Int32)))) b195 n199) - (1 : Int32))))] [.int (((0 : Int32)))] (sA G215 b195 n199 (((gA G215 b195 n199) + (1 : Int32)))) Post
                    refine j_iload d_La_law_391 rfl ?_
                    obtain ⟨Ha, Hb⟩ := H
                    refine j_icmp_eq (tgt := 398) d_La_law_393 (by decide) (fun c224 => ?_) (fun c225 => ?_)
                    · have H := Ha c224
                      refine j_iload d_La_law_398 rfl ?_
                      obtain ⟨Ha, Hb⟩ := H
                      refine j_if_ne (tgt := 415) d_La_law_400 (by decide) (fun c222 => ?_) (fun c223 => ?_)
                      · have H := Ha c222
                        refine j_goto (tgt := 1295) d_La_law_415 (by decide) ?_
                        refine j_iinc (v := (p4 + (7 : Int32))) (L' := [some (.ref a0), some (.ref a1), some (.ref a2), some (.ref a3), some (.int ((p4 + (7 : Int32)))), some (.int s0), some (.int (((gA (sA G215 b195 n199 (((gA G215 b195 n199) + (1 : Int32)))) b195 n199) - (1 : Int32))))]) d_La_law_1295 rfl (by rw [show Int32.ofInt (7) = (7 : Int32) by decide]) (by decide) rfl ?_
                        refine j_goto (tgt := 23) d_La_law_1298 (by decide) ?_
                        refine j_forget (L' := [some (.ref a0), some (.ref a1), some (.ref a2), some (.ref a3), some (.int ((p4 + (7 : Int32)))), none, none]) ⟨Or.inr rfl, Or.inr rfl, Or.inr rfl, Or.inr rfl, Or.inr rfl, Or.inl rfl, Or.inl rfl, trivial⟩ ?_
                        exact H
                      · have H := Hb c223
                        refine j_aload_n d_La_law_403 rfl ?_
                        refine j_iconst (v := 0) d_La_law_404 (by decide) ?_
                        obtain ⟨t218, H⟩ := H
                        obtain ⟨x219, H⟩ := H
                        refine j_lald (n := 0) (by rw [e216]; exact t218) (IX_n (by first | (rw [e216]; done) | (rw [e216]; rfl)) x219) d_La_law_405 ?_
                        refine j_iload d_La_law_406 rfl ?_
                        refine j_i2l d_La_law_408 ?_
                        refine j_lcmp d_La_law_409 ?_
                        obtain ⟨Ha, Hb⟩ := H
                        refine j_if_eq (tgt := 415) d_La_law_410 (by decide) (fun c220 => ?_) (fun c221 => ?_)
                        · have H := Ha c220
                          refine j_goto (tgt := 1295) d_La_law_415 (by decide) ?_
                          refine j_iinc (v := (p4 + (7 : Int32))) (L' := [some (.ref a0), some (.ref a1), some (.ref a2), some (.ref a3), some (.int ((p4 + (7 : Int32)))), some (.int s0), some (.int (((gA (sA G215 b195 n199 (((gA G215 b195 n199) + (1 : Int32)))) b195 n199) - (1 : Int32))))]) d_La_law_1295 rfl (by rw [show Int32.ofInt (7) = (7 : Int32) by decide]) (by decide) rfl ?_
                          refine j_goto (tgt := 23) d_La_law_1298 (by decide) ?_
                          refine j_forget (L' := [some (.ref a0), some (.ref a1), some (.ref a2), some (.ref a3), some (.int ((p4 + (7 : Int32)))), none, none]) ⟨Or.inr rfl, Or.inr rfl, Or.inr rfl, Or.inr rfl, Or.inr rfl, Or.inl rfl, Or.inl rfl, trivial⟩ ?_
                          exact H
                        · have H := Hb c221
                          refine j_iconst (v := 0) d_La_law_413 (by decide) ?_
                          exact j_zret rfl (by decide) d_La_law_414 H
                    · have H := Hb c225
                      refine j_iconst (v := 0) d_La_law_396 (by decide) ?_
                      exact j_zret rfl (by decide) d_La_law_397 H
                  · have H := Hb c235
                    refine j_iconst (v := 3) d_Mo_append_75 (by decide) ?_
                    refine j_goto (tgt := 80) d_Mo_append_76 (by decide) ?_
                    refine j_callV (d' := 1) (ci := 10) (As := [.int ((3 : Int32))]) (rest := []) (b := a2) cv_Mo_149 me_Mo_isFine rfl (by decide) rfl rfl t10 rfl rfl (Nat.le_of_ble_eq_true rfl) d_Mo_append_80 (by decide) rfl (j_enter (L := [some (.ref a2), some (.int ((3 : Int32)))]) me_Mo_isFine (cat_c rfl (cat_c rfl cat_n)) (Nat.le_of_ble_eq_true rfl) rfl ?_)
                    refine j_aload_n d_Mo_isFine_0 rfl ?_
                    refine j_iload_n d_Mo_isFine_1 rfl ?_
                    refine j_putI (f := 640) fw_Mo_139 rfl rfl t10 d_Mo_isFine_2 ?_
                    refine j_iload_n d_Mo_isFine_5 rfl ?_
                    refine j_if_ne (tgt := 13) d_Mo_isFine_6 (by decide) (fun _ => ?_) (fun c => absurd c (by decide))
                    refine j_iconst (v := 0) d_Mo_isFine_13 (by decide) ?_
                    refine j_zret rfl (by decide) d_Mo_isFine_14 ?_
                    show J E 3 m_Mo_append 83 [some (.ref a2), some (.int ((gA G a0 n3))), some (.int ((gA G a0 n5))), some (.int ((gA G a0 n7))), some (.int ((gA G a0 n9))), some (.int ((1 : Int32))), some (.int ((1 : Int32))), none] [.int ((0 : Int32))] (sI G 640 a2 ((3 : Int32))) (aft E 14 m_La_law 382 [some (.ref a0), some (.ref a1), some (.ref a2), some (.ref a3), some (.int p4), some (.int s0), none] [] Post)
                    refine j_if_ne (tgt := 88) d_Mo_append_83 (by decide) (fun c => absurd c (by decide)) (fun _ => ?_)
                    refine j_iconst (v := 0) d_Mo_append_86 (by decide) ?_
                    refine j_iret rfl d_Mo_append_87 ?_
                    show J E 14 m_La_law 385 [some (.ref a0), some (.ref a1), some (.ref a2), some (.ref a3), some (.int p4), some (.int s0), none] [.int ((0 : Int32))] (sI G 640 a2 ((3 : Int32))) Post
                    refine j_istore (L' := [some (.ref a0), some (.ref a1), some (.ref a2), some (.ref a3), some (.int p4), some (.int s0), some (.int ((0 : Int32)))]) d_La_law_385 (by decide) rfl ?_
                    refine j_aload_n d_La_law_387 rfl ?_
                    refine j_callV (d' := 1) (ci := 10) (As := []) (rest := []) (b := a2) cv_La_80 me_Mo_thrown rfl (by decide) rfl rfl t10 rfl rfl (Nat.le_of_ble_eq_true rfl) d_La_law_388 (by decide) rfl (j_enter (L := [some (.ref a2)]) me_Mo_thrown (cat_c rfl cat_n) (Nat.le_of_ble_eq_true rfl) rfl ?_)
                    refine j_aload_n d_Mo_thrown_0 rfl ?_
                    refine j_getIv (f := 640) (v := ((3 : Int32))) fe_Mo_139 rfl rfl t10 (show gI (sI G 640 a2 ((3 : Int32))) 640 a2 = _ from gI_sI_eq) d_Mo_thrown_1 ?_
                    refine j_iret rfl d_Mo_thrown_4 ?_
                    show J E 14 m_La_law 391 [some (.ref a0), some (.ref a1), some (.ref a2), some (.ref a3), some (.int p4), some (.int s0), some (.int ((0 : Int32)))] [.int (((3 : Int32)))] (sI G 640 a2 ((3 : Int32))) Post
                    refine j_iload d_La_law_391 rfl ?_
                    obtain ⟨Ha, Hb⟩ := H
                    refine j_icmp_eq (tgt := 398) d_La_law_393 (by decide) (fun c232 => ?_) (fun c233 => ?_)
                    · have H := Ha c232
                      refine j_iload d_La_law_398 rfl ?_
                      obtain ⟨Ha, Hb⟩ := H
                      refine j_if_ne (tgt := 415) d_La_law_400 (by decide) (fun c230 => ?_) (fun c231 => ?_)
                      · have H := Ha c230
                        refine j_goto (tgt := 1295) d_La_law_415 (by decide) ?_
                        refine j_iinc (v := (p4 + (7 : Int32))) (L' := [some (.ref a0), some (.ref a1), some (.ref a2), some (.ref a3), some (.int ((p4 + (7 : Int32)))), some (.int s0), some (.int ((0 : Int32)))]) d_La_law_1295 rfl (by rw [show Int32.ofInt (7) = (7 : Int32) by decide]) (by decide) rfl ?_
                        refine j_goto (tgt := 23) d_La_law_1298 (by decide) ?_
                        refine j_forget (L' := [some (.ref a0), some (.ref a1), some (.ref a2), some (.ref a3), some (.int ((p4 + (7 : Int32)))), none, none]) ⟨Or.inr rfl, Or.inr rfl, Or.inr rfl, Or.inr rfl, Or.inr rfl, Or.inl rfl, Or.inl rfl, trivial⟩ ?_
                        exact H
                      · have H := Hb c231
                        refine j_aload_n d_La_law_403 rfl ?_
                        refine j_iconst (v := 0) d_La_law_404 (by decide) ?_
                        obtain ⟨t226, H⟩ := H
                        obtain ⟨x227, H⟩ := H
                        refine j_lald (n := 0) t226 x227 d_La_law_405 ?_
                        refine j_iload d_La_law_406 rfl ?_
                        refine j_i2l d_La_law_408 ?_
                        refine j_lcmp d_La_law_409 ?_
                        obtain ⟨Ha, Hb⟩ := H
                        refine j_if_eq (tgt := 415) d_La_law_410 (by decide) (fun c228 => ?_) (fun c229 => ?_)
                        · have H := Ha c228
                          refine j_goto (tgt := 1295) d_La_law_415 (by decide) ?_
                          refine j_iinc (v := (p4 + (7 : Int32))) (L' := [some (.ref a0), some (.ref a1), some (.ref a2), some (.ref a3), some (.int ((p4 + (7 : Int32)))), some (.int s0), some (.int ((0 : Int32)))]) d_La_law_1295 rfl (by rw [show Int32.ofInt (7) = (7 : Int32) by decide]) (by decide) rfl ?_
                          refine j_goto (tgt := 23) d_La_law_1298 (by decide) ?_
                          refine j_forget (L' := [some (.ref a0), some (.ref a1), some (.ref a2), some (.ref a3), some (.int ((p4 + (7 : Int32)))), none, none]) ⟨Or.inr rfl, Or.inr rfl, Or.inr rfl, Or.inr rfl, Or.inr rfl, Or.inl rfl, Or.inl rfl, trivial⟩ ?_
                          exact H
                        · have H := Hb c229
                          refine j_iconst (v := 0) d_La_law_413 (by decide) ?_
                          exact j_zret rfl (by decide) d_La_law_414 H
                    · have H := Hb c233
                      refine j_iconst (v := 0) d_La_law_396 (by decide) ?_
                      exact j_zret rfl (by decide) d_La_law_397 H
theorem wp_La_law_429 {E : EV} {G : GH} {Post : Res → GH → Prop} (a0 : Nat) (a1 : Nat) (a2 : Nat) (a3 : Nat) (p4 : Int32) (s0 : Int32) (H : (gT G a0 = 20 ∨ gT G a0 = 25) ∧ ∃ n3, IX ((p4 + (1 : Int32))) n3 (gN G a0) ∧ gT G a2 = 11 ∧ ((gA G a0 n3) < (0 : Int32) → (((1 : Int32)) = s0 → (¬ s0 = 0 → J E 14 m_La_law 23 [some (.ref a0), some (.ref a1), some (.ref a2), some (.ref a3), some (.int ((p4 + (7 : Int32)))), none, none] [] (sI G 640 a2 ((1 : Int32))) Post) ∧ (s0 = 0 → gT G a3 = 22 ∧ IX (0 : Int32) 0 (gN G a3) ∧ ((lg_cmp ((gL (sI G 640 a2 ((1 : Int32))) a3 0)) ((Int32.toInt64 ((0 : Int32))))) = 0 → J E 14 m_La_law 23 [some (.ref a0), some (.ref a1), some (.ref a2), some (.ref a3), some (.int ((p4 + (7 : Int32)))), none, none] [] (sI G 640 a2 ((1 : Int32))) Post) ∧ (¬ (lg_cmp ((gL (sI G 640 a2 ((1 : Int32))) a3 0)) ((Int32.toInt64 ((0 : Int32))))) = 0 → Post (.inl (some (.int ((0 : Int32))))) (sI G 640 a2 ((1 : Int32)))))) ∧ (¬ ((1 : Int32)) = s0 → Post (.inl (some (.int ((0 : Int32))))) (sI G 640 a2 ((1 : Int32))))) ∧ (¬ (gA G a0 n3) < (0 : Int32) → ((2 : Int32) < (gA G a0 n3) → (((1 : Int32)) = s0 → (¬ s0 = 0 → J E 14 m_La_law 23 [some (.ref a0), some (.ref a1), some (.ref a2), some (.ref a3), some (.int ((p4 + (7 : Int32)))), none, none] [] (sI G 640 a2 ((1 : Int32))) Post) ∧ (s0 = 0 → gT G a3 = 22 ∧ IX (0 : Int32) 0 (gN G a3) ∧ ((lg_cmp ((gL (sI G 640 a2 ((1 : Int32))) a3 0)) ((Int32.toInt64 ((0 : Int32))))) = 0 → J E 14 m_La_law 23 [some (.ref a0), some (.ref a1), some (.ref a2), some (.ref a3), some (.int ((p4 + (7 : Int32)))), none, none] [] (sI G 640 a2 ((1 : Int32))) Post) ∧ (¬ (lg_cmp ((gL (sI G 640 a2 ((1 : Int32))) a3 0)) ((Int32.toInt64 ((0 : Int32))))) = 0 → Post (.inl (some (.int ((0 : Int32))))) (sI G 640 a2 ((1 : Int32)))))) ∧ (¬ ((1 : Int32)) = s0 → Post (.inl (some (.int ((0 : Int32))))) (sI G 640 a2 ((1 : Int32))))) ∧ (¬ (2 : Int32) < (gA G a0 n3) → ∃ b21, gR G 653 a2 = some b21 ∧ (gT G b21 = 20 ∨ gT G b21 = 25) ∧ ∃ n25, IX ((gA G a0 n3)) n25 (gN G b21) ∧ ∃ b26, gR G 652 a2 = some b26 ∧ (gT G b26 = 20 ∨ gT G b26 = 25) ∧ ∃ n30, IX ((gA G a0 n3)) n30 (gN G b26) ∧ ((gA G b21 n25) = (gA G b26 n30) → (((2 : Int32)) = s0 → (¬ s0 = 0 → J E 14 m_La_law 23 [some (.ref a0), some (.ref a1), some (.ref a2), some (.ref a3), some (.int ((p4 + (7 : Int32)))), none, none] [] (sI G 640 a2 ((2 : Int32))) Post) ∧ (s0 = 0 → gT G a3 = 22 ∧ IX (0 : Int32) 0 (gN G a3) ∧ ((lg_cmp ((gL (sI G 640 a2 ((2 : Int32))) a3 0)) ((Int32.toInt64 ((0 : Int32))))) = 0 → J E 14 m_La_law 23 [some (.ref a0), some (.ref a1), some (.ref a2), some (.ref a3), some (.int ((p4 + (7 : Int32)))), none, none] [] (sI G 640 a2 ((2 : Int32))) Post) ∧ (¬ (lg_cmp ((gL (sI G 640 a2 ((2 : Int32))) a3 0)) ((Int32.toInt64 ((0 : Int32))))) = 0 → Post (.inl (some (.int ((0 : Int32))))) (sI G 640 a2 ((2 : Int32)))))) ∧ (¬ ((2 : Int32)) = s0 → Post (.inl (some (.int ((0 : Int32))))) (sI G 640 a2 ((2 : Int32))))) ∧ (¬ (gA G b21 n25) = (gA G b26 n30) → ∃ b39, gR G 654 a2 = some b39 ∧ (gT G b39 = 20 ∨ gT G b39 = 25) ∧ ∃ n43, IX ((gA G a0 n3)) n43 (gN G b39) ∧ (¬ ((gA G b21 n25) - (gA G b39 n43)) = (4 : Int32) → gT G b21 = 20 ∧ ∀ G45, G45 = sA (sI (sI G 640 a2 ((0 : Int32))) 648 a2 ((1 : Int32))) b21 n25 (((gA (sI (sI G 640 a2 ((0 : Int32))) 648 a2 ((1 : Int32))) b21 n25) + (1 : Int32))) → (((0 : Int32)) = s0 → (¬ s0 = 0 → J E 14 m_La_law 23 [some (.ref a0), some (.ref a1), some (.ref a2), some (.ref a3), some (.int ((p4 + (7 : Int32)))), none, none] [] G45 Post) ∧ (s0 = 0 → gT G a3 = 22 ∧ IX (0 : Int32) 0 (gN G a3) ∧ ((lg_cmp ((gL G45 a3 0)) ((Int32.toInt64 (((gA G45 b21 n25) - (gA G45 b39 n43)))))) = 0 → J E 14 m_La_law 23 [some (.ref a0), some (.ref a1), some (.ref a2), some (.ref a3), some (.int ((p4 + (7 : Int32)))), none, none] [] G45 Post) ∧ (¬ (lg_cmp ((gL G45 a3 0)) ((Int32.toInt64 (((gA G45 b21 n25) - (gA G45 b39 n43)))))) = 0 → Post (.inl (some (.int ((0 : Int32))))) G45))) ∧ (¬ ((0 : Int32)) = s0 → Post (.inl (some (.int ((0 : Int32))))) G45)) ∧ (((gA G b21 n25) - (gA G b39 n43)) = (4 : Int32) → (((2 : Int32)) = s0 → (¬ s0 = 0 → J E 14 m_La_law 23 [some (.ref a0), some (.ref a1), some (.ref a2), some (.ref a3), some (.int ((p4 + (7 : Int32)))), none, none] [] (sI G 640 a2 ((2 : Int32))) Post) ∧ (s0 = 0 → gT G a3 = 22 ∧ IX (0 : Int32) 0 (gN G a3) ∧ ((lg_cmp ((gL (sI G 640 a2 ((2 : Int32))) a3 0)) ((Int32.toInt64 ((0 : Int32))))) = 0 → J E 14 m_La_law 23 [some (.ref a0), some (.ref a1), some (.ref a2), some (.ref a3), some (.int ((p4 + (7 : Int32)))), none, none] [] (sI G 640 a2 ((2 : Int32))) Post) ∧ (¬ (lg_cmp ((gL (sI G 640 a2 ((2 : Int32))) a3 0)) ((Int32.toInt64 ((0 : Int32))))) = 0 → Post (.inl (some (.int ((0 : Int32))))) (sI G 640 a2 ((2 : Int32)))))) ∧ (¬ ((2 : Int32)) = s0 → Post (.inl (some (.int ((0 : Int32))))) (sI G 640 a2 ((2 : Int32))))))))) : J E 14 m_La_law 429 [some (.ref a0), some (.ref a1), some (.ref a2), some (.ref a3), some (.int p4), none, none] [.int s0] G Post := by
  refine j_istore (L' := [some (.ref a0), some (.ref a1), some (.ref a2), some (.ref a3), some (.int p4), some (.int s0), none]) d_La_law_429 (by decide) rfl ?_
  refine j_aload_n d_La_law_431 rfl ?_
  refine j_aload_n d_La_law_432 rfl ?_
  refine j_iload d_La_law_433 rfl ?_
  refine j_iconst (v := 1) d_La_law_435 (by decide) ?_
  refine j_iadd d_La_law_436 ?_
  obtain ⟨t1, H⟩ := H
  obtain ⟨n3, x2, H⟩ := H
  refine j_iald (n := n3) t1 x2 d_La_law_437 ?_
  obtain ⟨t4, H⟩ := H
  refine j_callV (d' := 3) (ci := 10) (As := [.int ((gA G a0 n3))]) (rest := []) (b := a2) cv_La_94 me_Mo_read rfl (by decide) rfl rfl t4 rfl rfl (Nat.le_of_ble_eq_true rfl) d_La_law_438 (by decide) rfl (j_enter (L := [some (.ref a2), some (.int ((gA G a0 n3))), none]) me_Mo_read (cat_c rfl (cat_c rfl cat_n)) (Nat.le_of_ble_eq_true rfl) rfl ?_)
  refine j_iload_n d_Mo_read_0 rfl ?_
  refine j_callS (d' := 2) (As := [.int ((gA G a0 n3))]) (rest := []) cs_Mo_156 me_Mo_isSource rfl (by decide) rfl rfl (Nat.le_of_ble_eq_true rfl) d_Mo_read_1 (by decide) rfl (j_enter (L := [some (.int ((gA G a0 n3)))]) me_Mo_isSource (cat_c rfl cat_n) (Nat.le_of_ble_eq_true rfl) rfl ?_)
  refine j_iload_n d_Mo_isSource_0 rfl ?_
  refine j_iconst (v := 0) d_Mo_isSource_1 (by decide) ?_
  refine j_iconst (v := 2) d_Mo_isSource_2 (by decide) ?_
  refine j_callS (d' := 1) (As := [.int ((gA G a0 n3)), .int ((0 : Int32)), .int ((2 : Int32))]) (rest := []) cs_Mo_142 me_Mo_isIn rfl (by decide) rfl rfl (Nat.le_of_ble_eq_true rfl) d_Mo_isSource_3 (by decide) rfl (j_enter (L := [some (.int ((gA G a0 n3))), some (.int ((0 : Int32))), some (.int ((2 : Int32)))]) me_Mo_isIn (cat_c rfl (cat_c rfl (cat_c rfl cat_n))) (Nat.le_of_ble_eq_true rfl) rfl ?_)
  refine j_iload_n d_Mo_isIn_0 rfl ?_
  refine j_iload_n d_Mo_isIn_1 rfl ?_
  obtain ⟨Ha, Hb⟩ := H
  refine j_icmp_lt (tgt := 14) d_Mo_isIn_2 (by decide) (fun c69 => ?_) (fun c70 => ?_)
  · have H := Ha c69
    refine j_iconst (v := 0) d_Mo_isIn_14 (by decide) ?_
    refine j_zret rfl (by decide) d_Mo_isIn_15 ?_
    show J E 2 m_Mo_isSource 6 [some (.int ((gA G a0 n3)))] [.int ((0 : Int32))] G (aft E 3 m_Mo_read 1 [some (.ref a2), some (.int ((gA G a0 n3))), none] [] (aft E 14 m_La_law 438 [some (.ref a0), some (.ref a1), some (.ref a2), some (.ref a3), some (.int p4), some (.int s0), none] [] Post))
    refine j_zret rfl (by decide) d_Mo_isSource_6 ?_
    show J E 3 m_Mo_read 4 [some (.ref a2), some (.int ((gA G a0 n3))), none] [.int ((0 : Int32))] G (aft E 14 m_La_law 438 [some (.ref a0), some (.ref a1), some (.ref a2), some (.ref a3), some (.int p4), some (.int s0), none] [] Post)
    refine j_istore_n (L' := [some (.ref a2), some (.int ((gA G a0 n3))), some (.int ((0 : Int32)))]) d_Mo_read_4 (by decide) rfl ?_
    refine j_aload_n d_Mo_read_5 rfl ?_
    refine j_iload_n d_Mo_read_6 rfl ?_
    refine j_if_ne (tgt := 14) d_Mo_read_7 (by decide) (fun c => absurd c (by decide)) (fun _ => ?_)
    refine j_iconst (v := 1) d_Mo_read_10 (by decide) ?_
    refine j_goto (tgt := 51) d_Mo_read_11 (by decide) ?_
    refine j_callV (d' := 1) (ci := 10) (As := [.int ((1 : Int32))]) (rest := []) (b := a2) cv_Mo_149 me_Mo_isFine rfl (by decide) rfl rfl t4 rfl rfl (Nat.le_of_ble_eq_true rfl) d_Mo_read_51 (by decide) rfl (j_enter (L := [some (.ref a2), some (.int ((1 : Int32)))]) me_Mo_isFine (cat_c rfl (cat_c rfl cat_n)) (Nat.le_of_ble_eq_true rfl) rfl ?_)
    refine j_aload_n d_Mo_isFine_0 rfl ?_
    refine j_iload_n d_Mo_isFine_1 rfl ?_
    refine j_putI (f := 640) fw_Mo_139 rfl rfl t4 d_Mo_isFine_2 ?_
    refine j_iload_n d_Mo_isFine_5 rfl ?_
    refine j_if_ne (tgt := 13) d_Mo_isFine_6 (by decide) (fun _ => ?_) (fun c => absurd c (by decide))
    refine j_iconst (v := 0) d_Mo_isFine_13 (by decide) ?_
    refine j_zret rfl (by decide) d_Mo_isFine_14 ?_
    show J E 3 m_Mo_read 54 [some (.ref a2), some (.int ((gA G a0 n3))), some (.int ((0 : Int32)))] [.int ((0 : Int32))] (sI G 640 a2 ((1 : Int32))) (aft E 14 m_La_law 438 [some (.ref a0), some (.ref a1), some (.ref a2), some (.ref a3), some (.int p4), some (.int s0), none] [] Post)
    refine j_if_ne (tgt := 59) d_Mo_read_54 (by decide) (fun c => absurd c (by decide)) (fun _ => ?_)
    refine j_iconst (v := 0) d_Mo_read_57 (by decide) ?_
    refine j_iret rfl d_Mo_read_58 ?_
    show J E 14 m_La_law 441 [some (.ref a0), some (.ref a1), some (.ref a2), some (.ref a3), some (.int p4), some (.int s0), none] [.int ((0 : Int32))] (sI G 640 a2 ((1 : Int32))) Post
    refine j_istore (L' := [some (.ref a0), some (.ref a1), some (.ref a2), some (.ref a3), some (.int p4), some (.int s0), some (.int ((0 : Int32)))]) d_La_law_441 (by decide) rfl ?_
    refine j_aload_n d_La_law_443 rfl ?_
    refine j_callV (d' := 1) (ci := 10) (As := []) (rest := []) (b := a2) cv_La_80 me_Mo_thrown rfl (by decide) rfl rfl t4 rfl rfl (Nat.le_of_ble_eq_true rfl) d_La_law_444 (by decide) rfl (j_enter (L := [some (.ref a2)]) me_Mo_thrown (cat_c rfl cat_n) (Nat.le_of_ble_eq_true rfl) rfl ?_)
    refine j_aload_n d_Mo_thrown_0 rfl ?_
    refine j_getIv (f := 640) (v := ((1 : Int32))) fe_Mo_139 rfl rfl t4 (show gI (sI G 640 a2 ((1 : Int32))) 640 a2 = _ from gI_sI_eq) d_Mo_thrown_1 ?_
    refine j_iret rfl d_Mo_thrown_4 ?_
    show J E 14 m_La_law 447 [some (.ref a0), some (.ref a1), some (.ref a2), some (.ref a3), some (.int p4), some (.int s0), some (.int ((0 : Int32)))] [.int (((1 : Int32)))] (sI G 640 a2 ((1 : Int32))) Post
    refine j_iload d_La_law_447 rfl ?_
    obtain ⟨Ha, Hb⟩ := H
    refine j_icmp_eq (tgt := 454) d_La_law_449 (by decide) (fun c11 => ?_) (fun c12 => ?_)
    · have H := Ha c11
      refine j_iload d_La_law_454 rfl ?_
      obtain ⟨Ha, Hb⟩ := H
      refine j_if_ne (tgt := 471) d_La_law_456 (by decide) (fun c9 => ?_) (fun c10 => ?_)
      · have H := Ha c9
        refine j_goto (tgt := 1295) d_La_law_471 (by decide) ?_
        refine j_iinc (v := (p4 + (7 : Int32))) (L' := [some (.ref a0), some (.ref a1), some (.ref a2), some (.ref a3), some (.int ((p4 + (7 : Int32)))), some (.int s0), some (.int ((0 : Int32)))]) d_La_law_1295 rfl (by rw [show Int32.ofInt (7) = (7 : Int32) by decide]) (by decide) rfl ?_
        refine j_goto (tgt := 23) d_La_law_1298 (by decide) ?_
        refine j_forget (L' := [some (.ref a0), some (.ref a1), some (.ref a2), some (.ref a3), some (.int ((p4 + (7 : Int32)))), none, none]) ⟨Or.inr rfl, Or.inr rfl, Or.inr rfl, Or.inr rfl, Or.inr rfl, Or.inl rfl, Or.inl rfl, trivial⟩ ?_
        exact H
      · have H := Hb c10
        refine j_aload_n d_La_law_459 rfl ?_
        refine j_iconst (v := 0) d_La_law_460 (by decide) ?_
        obtain ⟨t5, H⟩ := H
        obtain ⟨x6, H⟩ := H
        refine j_lald (n := 0) t5 x6 d_La_law_461 ?_
        refine j_iload d_La_law_462 rfl ?_
        refine j_i2l d_La_law_464 ?_
        refine j_lcmp d_La_law_465 ?_
        obtain ⟨Ha, Hb⟩ := H
        refine j_if_eq (tgt := 471) d_La_law_466 (by decide) (fun c7 => ?_) (fun c8 => ?_)
        · have H := Ha c7
          refine j_goto (tgt := 1295) d_La_law_471 (by decide) ?_
          refine j_iinc (v := (p4 + (7 : Int32))) (L' := [some (.ref a0), some (.ref a1), some (.ref a2), some (.ref a3), some (.int ((p4 + (7 : Int32)))), some (.int s0), some (.int ((0 : Int32)))]) d_La_law_1295 rfl (by rw [show Int32.ofInt (7) = (7 : Int32) by decide]) (by decide) rfl ?_
          refine j_goto (tgt := 23) d_La_law_1298 (by decide) ?_
          refine j_forget (L' := [some (.ref a0), some (.ref a1), some (.ref a2), some (.ref a3), some (.int ((p4 + (7 : Int32)))), none, none]) ⟨Or.inr rfl, Or.inr rfl, Or.inr rfl, Or.inr rfl, Or.inr rfl, Or.inl rfl, Or.inl rfl, trivial⟩ ?_
          exact H
        · have H := Hb c8
          refine j_iconst (v := 0) d_La_law_469 (by decide) ?_
          exact j_zret rfl (by decide) d_La_law_470 H
    · have H := Hb c12
      refine j_iconst (v := 0) d_La_law_452 (by decide) ?_
      exact j_zret rfl (by decide) d_La_law_453 H
  · have H := Hb c70
    refine j_iload_n d_Mo_isIn_5 rfl ?_
    refine j_iload_n d_Mo_isIn_6 rfl ?_
    obtain ⟨Ha, Hb⟩ := H
    refine j_icmp_gt (tgt := 14) d_Mo_isIn_7 (by decide) (fun c67 => ?_) (fun c68 => ?_)
    · have H := Ha c67
      refine j_iconst (v := 0) d_Mo_isIn_14 (by decide) ?_
      refine j_zret rfl (by decide) d_Mo_isIn_15 ?_
      show J E 2 m_Mo_isSource 6 [some (.int ((gA G a0 n3)))] [.int ((0 : Int32))] G (aft E 3 m_Mo_read 1 [some (.ref a2), some (.int ((gA G a0 n3))), none] [] (aft E 14 m_La_law 438 [some (.ref a0), some (.ref a1), some (.ref a2), some (.ref a3), some (.int p4), some (.int s0), none] [] Post))
      refine j_zret rfl (by decide) d_Mo_isSource_6 ?_
      show J E 3 m_Mo_read 4 [some (.ref a2), some (.int ((gA G a0 n3))), none] [.int ((0 : Int32))] G (aft E 14 m_La_law 438 [some (.ref a0), some (.ref a1), some (.ref a2), some (.ref a3), some (.int p4), some (.int s0), none] [] Post)
      refine j_istore_n (L' := [some (.ref a2), some (.int ((gA G a0 n3))), some (.int ((0 : Int32)))]) d_Mo_read_4 (by decide) rfl ?_
      refine j_aload_n d_Mo_read_5 rfl ?_
      refine j_iload_n d_Mo_read_6 rfl ?_
      refine j_if_ne (tgt := 14) d_Mo_read_7 (by decide) (fun c => absurd c (by decide)) (fun _ => ?_)
      refine j_iconst (v := 1) d_Mo_read_10 (by decide) ?_
      refine j_goto (tgt := 51) d_Mo_read_11 (by decide) ?_
      refine j_callV (d' := 1) (ci := 10) (As := [.int ((1 : Int32))]) (rest := []) (b := a2) cv_Mo_149 me_Mo_isFine rfl (by decide) rfl rfl t4 rfl rfl (Nat.le_of_ble_eq_true rfl) d_Mo_read_51 (by decide) rfl (j_enter (L := [some (.ref a2), some (.int ((1 : Int32)))]) me_Mo_isFine (cat_c rfl (cat_c rfl cat_n)) (Nat.le_of_ble_eq_true rfl) rfl ?_)
      refine j_aload_n d_Mo_isFine_0 rfl ?_
      refine j_iload_n d_Mo_isFine_1 rfl ?_
      refine j_putI (f := 640) fw_Mo_139 rfl rfl t4 d_Mo_isFine_2 ?_
      refine j_iload_n d_Mo_isFine_5 rfl ?_
      refine j_if_ne (tgt := 13) d_Mo_isFine_6 (by decide) (fun _ => ?_) (fun c => absurd c (by decide))
      refine j_iconst (v := 0) d_Mo_isFine_13 (by decide) ?_
      refine j_zret rfl (by decide) d_Mo_isFine_14 ?_
      show J E 3 m_Mo_read 54 [some (.ref a2), some (.int ((gA G a0 n3))), some (.int ((0 : Int32)))] [.int ((0 : Int32))] (sI G 640 a2 ((1 : Int32))) (aft E 14 m_La_law 438 [some (.ref a0), some (.ref a1), some (.ref a2), some (.ref a3), some (.int p4), some (.int s0), none] [] Post)
      refine j_if_ne (tgt := 59) d_Mo_read_54 (by decide) (fun c => absurd c (by decide)) (fun _ => ?_)
      refine j_iconst (v := 0) d_Mo_read_57 (by decide) ?_
      refine j_iret rfl d_Mo_read_58 ?_
      show J E 14 m_La_law 441 [some (.ref a0), some (.ref a1), some (.ref a2), some (.ref a3), some (.int p4), some (.int s0), none] [.int ((0 : Int32))] (sI G 640 a2 ((1 : Int32))) Post
      refine j_istore (L' := [some (.ref a0), some (.ref a1), some (.ref a2), some (.ref a3), some (.int p4), some (.int s0), some (.int ((0 : Int32)))]) d_La_law_441 (by decide) rfl ?_
      refine j_aload_n d_La_law_443 rfl ?_
      refine j_callV (d' := 1) (ci := 10) (As := []) (rest := []) (b := a2) cv_La_80 me_Mo_thrown rfl (by decide) rfl rfl t4 rfl rfl (Nat.le_of_ble_eq_true rfl) d_La_law_444 (by decide) rfl (j_enter (L := [some (.ref a2)]) me_Mo_thrown (cat_c rfl cat_n) (Nat.le_of_ble_eq_true rfl) rfl ?_)
      refine j_aload_n d_Mo_thrown_0 rfl ?_
      refine j_getIv (f := 640) (v := ((1 : Int32))) fe_Mo_139 rfl rfl t4 (show gI (sI G 640 a2 ((1 : Int32))) 640 a2 = _ from gI_sI_eq) d_Mo_thrown_1 ?_
      refine j_iret rfl d_Mo_thrown_4 ?_
      show J E 14 m_La_law 447 [some (.ref a0), some (.ref a1), some (.ref a2), some (.ref a3), some (.int p4), some (.int s0), some (.int ((0 : Int32)))] [.int (((1 : Int32)))] (sI G 640 a2 ((1 : Int32))) Post
      refine j_iload d_La_law_447 rfl ?_
      obtain ⟨Ha, Hb⟩ := H
      refine j_icmp_eq (tgt := 454) d_La_law_449 (by decide) (fun c19 => ?_) (fun c20 => ?_)
      · have H := Ha c19
        refine j_iload d_La_law_454 rfl ?_
        obtain ⟨Ha, Hb⟩ := H
        refine j_if_ne (tgt := 471) d_La_law_456 (by decide) (fun c17 => ?_) (fun c18 => ?_)
        · have H := Ha c17
          refine j_goto (tgt := 1295) d_La_law_471 (by decide) ?_
          refine j_iinc (v := (p4 + (7 : Int32))) (L' := [some (.ref a0), some (.ref a1), some (.ref a2), some (.ref a3), some (.int ((p4 + (7 : Int32)))), some (.int s0), some (.int ((0 : Int32)))]) d_La_law_1295 rfl (by rw [show Int32.ofInt (7) = (7 : Int32) by decide]) (by decide) rfl ?_
          refine j_goto (tgt := 23) d_La_law_1298 (by decide) ?_
          refine j_forget (L' := [some (.ref a0), some (.ref a1), some (.ref a2), some (.ref a3), some (.int ((p4 + (7 : Int32)))), none, none]) ⟨Or.inr rfl, Or.inr rfl, Or.inr rfl, Or.inr rfl, Or.inr rfl, Or.inl rfl, Or.inl rfl, trivial⟩ ?_
          exact H
        · have H := Hb c18
          refine j_aload_n d_La_law_459 rfl ?_
          refine j_iconst (v := 0) d_La_law_460 (by decide) ?_
          obtain ⟨t13, H⟩ := H
          obtain ⟨x14, H⟩ := H
          refine j_lald (n := 0) t13 x14 d_La_law_461 ?_
          refine j_iload d_La_law_462 rfl ?_
          refine j_i2l d_La_law_464 ?_
          refine j_lcmp d_La_law_465 ?_
          obtain ⟨Ha, Hb⟩ := H
          refine j_if_eq (tgt := 471) d_La_law_466 (by decide) (fun c15 => ?_) (fun c16 => ?_)
          · have H := Ha c15
            refine j_goto (tgt := 1295) d_La_law_471 (by decide) ?_
            refine j_iinc (v := (p4 + (7 : Int32))) (L' := [some (.ref a0), some (.ref a1), some (.ref a2), some (.ref a3), some (.int ((p4 + (7 : Int32)))), some (.int s0), some (.int ((0 : Int32)))]) d_La_law_1295 rfl (by rw [show Int32.ofInt (7) = (7 : Int32) by decide]) (by decide) rfl ?_
            refine j_goto (tgt := 23) d_La_law_1298 (by decide) ?_
            refine j_forget (L' := [some (.ref a0), some (.ref a1), some (.ref a2), some (.ref a3), some (.int ((p4 + (7 : Int32)))), none, none]) ⟨Or.inr rfl, Or.inr rfl, Or.inr rfl, Or.inr rfl, Or.inr rfl, Or.inl rfl, Or.inl rfl, trivial⟩ ?_
            exact H
          · have H := Hb c16
            refine j_iconst (v := 0) d_La_law_469 (by decide) ?_
            exact j_zret rfl (by decide) d_La_law_470 H
      · have H := Hb c20
        refine j_iconst (v := 0) d_La_law_452 (by decide) ?_
        exact j_zret rfl (by decide) d_La_law_453 H
    · have H := Hb c68
      refine j_iconst (v := 1) d_Mo_isIn_10 (by decide) ?_
      refine j_goto (tgt := 15) d_Mo_isIn_11 (by decide) ?_
      refine j_zret rfl (by decide) d_Mo_isIn_15 ?_
      show J E 2 m_Mo_isSource 6 [some (.int ((gA G a0 n3)))] [.int ((1 : Int32))] G (aft E 3 m_Mo_read 1 [some (.ref a2), some (.int ((gA G a0 n3))), none] [] (aft E 14 m_La_law 438 [some (.ref a0), some (.ref a1), some (.ref a2), some (.ref a3), some (.int p4), some (.int s0), none] [] Post))
      refine j_zret rfl (by decide) d_Mo_isSource_6 ?_
      show J E 3 m_Mo_read 4 [some (.ref a2), some (.int ((gA G a0 n3))), none] [.int ((1 : Int32))] G (aft E 14 m_La_law 438 [some (.ref a0), some (.ref a1), some (.ref a2), some (.ref a3), some (.int p4), some (.int s0), none] [] Post)
      refine j_istore_n (L' := [some (.ref a2), some (.int ((gA G a0 n3))), some (.int ((1 : Int32)))]) d_Mo_read_4 (by decide) rfl ?_
      refine j_aload_n d_Mo_read_5 rfl ?_
      refine j_iload_n d_Mo_read_6 rfl ?_
      refine j_if_ne (tgt := 14) d_Mo_read_7 (by decide) (fun _ => ?_) (fun c => absurd c (by decide))
      refine j_aload_n d_Mo_read_14 rfl ?_
      obtain ⟨b21, e22, H⟩ := H
      refine j_getR (f := 653) (b := b21) fe_Mo_42 rfl rfl t4 e22 d_Mo_read_15 ?_
      refine j_iload_n d_Mo_read_18 rfl ?_
      obtain ⟨t23, H⟩ := H
      obtain ⟨n25, x24, H⟩ := H
      refine j_iald (n := n25) t23 x24 d_Mo_read_19 ?_
      refine j_aload_n d_Mo_read_20 rfl ?_
      obtain ⟨b26, e27, H⟩ := H
      refine j_getR (f := 652) (b := b26) fe_Mo_39 rfl rfl t4 e27 d_Mo_read_21 ?_
      refine j_iload_n d_Mo_read_24 rfl ?_
      obtain ⟨t28, H⟩ := H
      obtain ⟨n30, x29, H⟩ := H
      refine j_iald (n := n30) t28 x29 d_Mo_read_25 ?_
      obtain ⟨Ha, Hb⟩ := H
      refine j_icmp_eq (tgt := 46) d_Mo_read_26 (by decide) (fun c65 => ?_) (fun c66 => ?_)
      · have H := Ha c65
        refine j_iconst (v := 2) d_Mo_read_46 (by decide) ?_
        refine j_goto (tgt := 51) d_Mo_read_47 (by decide) ?_
        refine j_callV (d' := 1) (ci := 10) (As := [.int ((2 : Int32))]) (rest := []) (b := a2) cv_Mo_149 me_Mo_isFine rfl (by decide) rfl rfl t4 rfl rfl (Nat.le_of_ble_eq_true rfl) d_Mo_read_51 (by decide) rfl (j_enter (L := [some (.ref a2), some (.int ((2 : Int32)))]) me_Mo_isFine (cat_c rfl (cat_c rfl cat_n)) (Nat.le_of_ble_eq_true rfl) rfl ?_)
        refine j_aload_n d_Mo_isFine_0 rfl ?_
        refine j_iload_n d_Mo_isFine_1 rfl ?_
        refine j_putI (f := 640) fw_Mo_139 rfl rfl t4 d_Mo_isFine_2 ?_
        refine j_iload_n d_Mo_isFine_5 rfl ?_
        refine j_if_ne (tgt := 13) d_Mo_isFine_6 (by decide) (fun _ => ?_) (fun c => absurd c (by decide))
        refine j_iconst (v := 0) d_Mo_isFine_13 (by decide) ?_
        refine j_zret rfl (by decide) d_Mo_isFine_14 ?_
        show J E 3 m_Mo_read 54 [some (.ref a2), some (.int ((gA G a0 n3))), some (.int ((1 : Int32)))] [.int ((0 : Int32))] (sI G 640 a2 ((2 : Int32))) (aft E 14 m_La_law 438 [some (.ref a0), some (.ref a1), some (.ref a2), some (.ref a3), some (.int p4), some (.int s0), none] [] Post)
        refine j_if_ne (tgt := 59) d_Mo_read_54 (by decide) (fun c => absurd c (by decide)) (fun _ => ?_)
        refine j_iconst (v := 0) d_Mo_read_57 (by decide) ?_
        refine j_iret rfl d_Mo_read_58 ?_
        show J E 14 m_La_law 441 [some (.ref a0), some (.ref a1), some (.ref a2), some (.ref a3), some (.int p4), some (.int s0), none] [.int ((0 : Int32))] (sI G 640 a2 ((2 : Int32))) Post
        refine j_istore (L' := [some (.ref a0), some (.ref a1), some (.ref a2), some (.ref a3), some (.int p4), some (.int s0), some (.int ((0 : Int32)))]) d_La_law_441 (by decide) rfl ?_
        refine j_aload_n d_La_law_443 rfl ?_
        refine j_callV (d' := 1) (ci := 10) (As := []) (rest := []) (b := a2) cv_La_80 me_Mo_thrown rfl (by decide) rfl rfl t4 rfl rfl (Nat.le_of_ble_eq_true rfl) d_La_law_444 (by decide) rfl (j_enter (L := [some (.ref a2)]) me_Mo_thrown (cat_c rfl cat_n) (Nat.le_of_ble_eq_true rfl) rfl ?_)
        refine j_aload_n d_Mo_thrown_0 rfl ?_
        refine j_getIv (f := 640) (v := ((2 : Int32))) fe_Mo_139 rfl rfl t4 (show gI (sI G 640 a2 ((2 : Int32))) 640 a2 = _ from gI_sI_eq) d_Mo_thrown_1 ?_
        refine j_iret rfl d_Mo_thrown_4 ?_
        show J E 14 m_La_law 447 [some (.ref a0), some (.ref a1), some (.ref a2), some (.ref a3), some (.int p4), some (.int s0), some (.int ((0 : Int32)))] [.int (((2 : Int32)))] (sI G 640 a2 ((2 : Int32))) Post
        refine j_iload d_La_law_447 rfl ?_
        obtain ⟨Ha, Hb⟩ := H
        refine j_icmp_eq (tgt := 454) d_La_law_449 (by decide) (fun c37 => ?_) (fun c38 => ?_)
        · have H := Ha c37
          refine j_iload d_La_law_454 rfl ?_
          obtain ⟨Ha, Hb⟩ := H
          refine j_if_ne (tgt := 471) d_La_law_456 (by decide) (fun c35 => ?_) (fun c36 => ?_)
          · have H := Ha c35
            refine j_goto (tgt := 1295) d_La_law_471 (by decide) ?_
            refine j_iinc (v := (p4 + (7 : Int32))) (L' := [some (.ref a0), some (.ref a1), some (.ref a2), some (.ref a3), some (.int ((p4 + (7 : Int32)))), some (.int s0), some (.int ((0 : Int32)))]) d_La_law_1295 rfl (by rw [show Int32.ofInt (7) = (7 : Int32) by decide]) (by decide) rfl ?_
            refine j_goto (tgt := 23) d_La_law_1298 (by decide) ?_
            refine j_forget (L' := [some (.ref a0), some (.ref a1), some (.ref a2), some (.ref a3), some (.int ((p4 + (7 : Int32)))), none, none]) ⟨Or.inr rfl, Or.inr rfl, Or.inr rfl, Or.inr rfl, Or.inr rfl, Or.inl rfl, Or.inl rfl, trivial⟩ ?_
            exact H
          · have H := Hb c36
            refine j_aload_n d_La_law_459 rfl ?_
            refine j_iconst (v := 0) d_La_law_460 (by decide) ?_
            obtain ⟨t31, H⟩ := H
            obtain ⟨x32, H⟩ := H
            refine j_lald (n := 0) t31 x32 d_La_law_461 ?_
            refine j_iload d_La_law_462 rfl ?_
            refine j_i2l d_La_law_464 ?_
            refine j_lcmp d_La_law_465 ?_
            obtain ⟨Ha, Hb⟩ := H
            refine j_if_eq (tgt := 471) d_La_law_466 (by decide) (fun c33 => ?_) (fun c34 => ?_)
            · have H := Ha c33
              refine j_goto (tgt := 1295) d_La_law_471 (by decide) ?_
              refine j_iinc (v := (p4 + (7 : Int32))) (L' := [some (.ref a0), some (.ref a1), some (.ref a2), some (.ref a3), some (.int ((p4 + (7 : Int32)))), some (.int s0), some (.int ((0 : Int32)))]) d_La_law_1295 rfl (by rw [show Int32.ofInt (7) = (7 : Int32) by decide]) (by decide) rfl ?_
              refine j_goto (tgt := 23) d_La_law_1298 (by decide) ?_
              refine j_forget (L' := [some (.ref a0), some (.ref a1), some (.ref a2), some (.ref a3), some (.int ((p4 + (7 : Int32)))), none, none]) ⟨Or.inr rfl, Or.inr rfl, Or.inr rfl, Or.inr rfl, Or.inr rfl, Or.inl rfl, Or.inl rfl, trivial⟩ ?_
              exact H
            · have H := Hb c34
              refine j_iconst (v := 0) d_La_law_469 (by decide) ?_
              exact j_zret rfl (by decide) d_La_law_470 H
        · have H := Hb c38
          refine j_iconst (v := 0) d_La_law_452 (by decide) ?_
          exact j_zret rfl (by decide) d_La_law_453 H
      · have H := Hb c66
        refine j_aload_n d_Mo_read_29 rfl ?_
        refine j_getR (f := 653) (b := b21) fe_Mo_42 rfl rfl t4 e22 d_Mo_read_30 ?_
        refine j_iload_n d_Mo_read_33 rfl ?_
        refine j_iald (n := n25) t23 x24 d_Mo_read_34 ?_
        refine j_aload_n d_Mo_read_35 rfl ?_
        obtain ⟨b39, e40, H⟩ := H
        refine j_getR (f := 654) (b := b39) fe_Mo_45 rfl rfl t4 e40 d_Mo_read_36 ?_
        refine j_iload_n d_Mo_read_39 rfl ?_
        obtain ⟨t41, H⟩ := H
        obtain ⟨n43, x42, H⟩ := H
        refine j_iald (n := n43) t41 x42 d_Mo_read_40 ?_
        refine j_isub d_Mo_read_41 ?_
        refine j_iconst (v := 4) d_Mo_read_42 (by decide) ?_
        obtain ⟨Ha, Hb⟩ := H
        refine j_icmp_ne (tgt := 50) d_Mo_read_43 (by decide) (fun c63 => ?_) (fun c64 => ?_)
        · have H := Ha c63
          refine j_iconst (v := 0) d_Mo_read_50 (by decide) ?_
          refine j_callV (d' := 1) (ci := 10) (As := [.int ((0 : Int32))]) (rest := []) (b := a2) cv_Mo_149 me_Mo_isFine rfl (by decide) rfl rfl t4 rfl rfl (Nat.le_of_ble_eq_true rfl) d_Mo_read_51 (by decide) rfl (j_enter (L := [some (.ref a2), some (.int ((0 : Int32)))]) me_Mo_isFine (cat_c rfl (cat_c rfl cat_n)) (Nat.le_of_ble_eq_true rfl) rfl ?_)
          refine j_aload_n d_Mo_isFine_0 rfl ?_
          refine j_iload_n d_Mo_isFine_1 rfl ?_
          refine j_putI (f := 640) fw_Mo_139 rfl rfl t4 d_Mo_isFine_2 ?_
          refine j_iload_n d_Mo_isFine_5 rfl ?_
          refine j_if_ne (tgt := 13) d_Mo_isFine_6 (by decide) (fun c => absurd c (by decide)) (fun _ => ?_)
          refine j_iconst (v := 1) d_Mo_isFine_9 (by decide) ?_
          refine j_goto (tgt := 14) d_Mo_isFine_10 (by decide) ?_
          refine j_zret rfl (by decide) d_Mo_isFine_14 ?_
          show J E 3 m_Mo_read 54 [some (.ref a2), some (.int ((gA G a0 n3))), some (.int ((1 : Int32)))] [.int ((1 : Int32))] (sI G 640 a2 ((0 : Int32))) (aft E 14 m_La_law 438 [some (.ref a0), some (.ref a1), some (.ref a2), some (.ref a3), some (.int p4), some (.int s0), none] [] Post)
          refine j_if_ne (tgt := 59) d_Mo_read_54 (by decide) (fun _ => ?_) (fun c => absurd c (by decide))
          refine j_aload_n d_Mo_read_59 rfl ?_
          refine j_iconst (v := 1) d_Mo_read_60 (by decide) ?_
          refine j_putZ (f := 648) fw_Mo_146 rfl rfl t4 (by decide) d_Mo_read_61 ?_
          refine j_aload_n d_Mo_read_64 rfl ?_
          refine j_getR (f := 653) (b := b21) fe_Mo_42 rfl rfl t4 e22 d_Mo_read_65 ?_
          refine j_iload_n d_Mo_read_68 rfl ?_
          refine j_dup2 d_Mo_read_69 rfl rfl ?_
          refine j_iald (n := n25) t23 x24 d_Mo_read_70 ?_
          refine j_iconst (v := 1) d_Mo_read_71 (by decide) ?_
          refine j_iadd d_Mo_read_72 ?_
          obtain ⟨t44, H⟩ := H
          refine j_iast (n := n25) t44 x24 d_Mo_read_73 ?_
          show J E 3 m_Mo_read 74 [some (.ref a2), some (.int ((gA G a0 n3))), some (.int ((1 : Int32)))] [] (sA (sI (sI G 640 a2 ((0 : Int32))) 648 a2 ((1 : Int32))) b21 n25 (((gA (sI (sI G 640 a2 ((0 : Int32))) 648 a2 ((1 : Int32))) b21 n25) + (1 : Int32)))) (aft E 14 m_La_law 438 [some (.ref a0), some (.ref a1), some (.ref a2), some (.ref a3), some (.int p4), some (.int s0), none] [] Post)
          generalize e46 : sA (sI (sI G 640 a2 ((0 : Int32))) 648 a2 ((1 : Int32))) b21 n25 (((gA (sI (sI G 640 a2 ((0 : Int32))) 648 a2 ((1 : Int32))) b21 n25) + (1 : Int32))) = G45
          have e46 := e46.symm
          have H := H G45 e46
          refine j_aload_n d_Mo_read_74 rfl ?_
          refine j_getR (f := 653) (b := b21) fe_Mo_42 rfl rfl (by rw [e46]; exact t4) (by rw [e46]; exact e22) d_Mo_read_75 ?_
          refine j_iload_n d_Mo_read_78 rfl ?_
          refine j_iald (n := n25) (by rw [e46]; exact (Or.inl t44)) (IX_n (by first | (rw [e46]; done) | (rw [e46]; rfl)) x24) d_Mo_read_79 ?_
          refine j_aload_n d_Mo_read_80 rfl ?_
          refine j_getR (f := 654) (b := b39) fe_Mo_45 rfl rfl (by rw [e46]; exact t4) (by rw [e46]; exact e40) d_Mo_read_81 ?_
          refine j_iload_n d_Mo_read_84 rfl ?_
          refine j_iald (n := n43) (by rw [e46]; exact t41) (IX_n (by first | (rw [e46]; done) | (rw [e46]; rfl)) x42) d_Mo_read_85 ?_
          refine j_isub d_Mo_read_86 ?_
          refine j_iret rfl d_Mo_read_87 ?_
          show J E 14 m_La_law 441 [some (.ref a0), some (.ref a1), some (.ref a2), some (.ref a3), some (.int p4), some (.int s0), none] [.int (((gA G45 b21 n25) - (gA G45 b39 n43)))] G45 Post
          refine j_istore (L' := [some (.ref a0), some (.ref a1), some (.ref a2), some (.ref a3), some (.int p4), some (.int s0), some (.int (((gA G45 b21 n25) - (gA G45 b39 n43))))]) d_La_law_441 (by decide) rfl ?_
          refine j_aload_n d_La_law_443 rfl ?_
          refine j_callV (d' := 1) (ci := 10) (As := []) (rest := []) (b := a2) cv_La_80 me_Mo_thrown rfl (by decide) rfl rfl (by rw [e46]; exact t4) rfl rfl (Nat.le_of_ble_eq_true rfl) d_La_law_444 (by decide) rfl (j_enter (L := [some (.ref a2)]) me_Mo_thrown (cat_c rfl cat_n) (Nat.le_of_ble_eq_true rfl) rfl ?_)
          refine j_aload_n d_Mo_thrown_0 rfl ?_
          refine j_getIv (f := 640) (v := ((0 : Int32))) fe_Mo_139 rfl rfl (by rw [e46]; exact t4) (by rw [e46]; exact (show gI (sI G 640 a2 ((0 : Int32))) 640 a2 = _ from gI_sI_eq)) d_Mo_thrown_1 ?_
          refine j_iret rfl d_Mo_thrown_4 ?_
          show J E 14 m_La_law 447 [some (.ref a0), some (.ref a1), some (.ref a2), some (.ref a3), some (.int p4), some (.int s0), some (.int (((gA G45 b21 n25) - (gA G45 b39 n43))))] [.int (((0 : Int32)))] G45 Post
          refine j_iload d_La_law_447 rfl ?_
          obtain ⟨Ha, Hb⟩ := H
          refine j_icmp_eq (tgt := 454) d_La_law_449 (by decide) (fun c53 => ?_) (fun c54 => ?_)
          · have H := Ha c53
            refine j_iload d_La_law_454 rfl ?_
            obtain ⟨Ha, Hb⟩ := H
            refine j_if_ne (tgt := 471) d_La_law_456 (by decide) (fun c51 => ?_) (fun c52 => ?_)
            · have H := Ha c51
              refine j_goto (tgt := 1295) d_La_law_471 (by decide) ?_
              refine j_iinc (v := (p4 + (7 : Int32))) (L' := [some (.ref a0), some (.ref a1), some (.ref a2), some (.ref a3), some (.int ((p4 + (7 : Int32)))), some (.int s0), some (.int (((gA G45 b21 n25) - (gA G45 b39 n43))))]) d_La_law_1295 rfl (by rw [show Int32.ofInt (7) = (7 : Int32) by decide]) (by decide) rfl ?_
              refine j_goto (tgt := 23) d_La_law_1298 (by decide) ?_
              refine j_forget (L' := [some (.ref a0), some (.ref a1), some (.ref a2), some (.ref a3), some (.int ((p4 + (7 : Int32)))), none, none]) ⟨Or.inr rfl, Or.inr rfl, Or.inr rfl, Or.inr rfl, Or.inr rfl, Or.inl rfl, Or.inl rfl, trivial⟩ ?_
              exact H
            · have H := Hb c52
              refine j_aload_n d_La_law_459 rfl ?_
              refine j_iconst (v := 0) d_La_law_460 (by decide) ?_
              obtain ⟨t47, H⟩ := H
              obtain ⟨x48, H⟩ := H
              refine j_lald (n := 0) (by rw [e46]; exact t47) (IX_n (by first | (rw [e46]; done) | (rw [e46]; rfl)) x48) d_La_law_461 ?_
              refine j_iload d_La_law_462 rfl ?_
              refine j_i2l d_La_law_464 ?_
              refine j_lcmp d_La_law_465 ?_
              obtain ⟨Ha, Hb⟩ := H
              refine j_if_eq (tgt := 471) d_La_law_466 (by decide) (fun c49 => ?_) (fun c50 => ?_)
              · have H := Ha c49
                refine j_goto (tgt := 1295) d_La_law_471 (by decide) ?_
                refine j_iinc (v := (p4 + (7 : Int32))) (L' := [some (.ref a0), some (.ref a1), some (.ref a2), some (.ref a3), some (.int ((p4 + (7 : Int32)))), some (.int s0), some (.int (((gA G45 b21 n25) - (gA G45 b39 n43))))]) d_La_law_1295 rfl (by rw [show Int32.ofInt (7) = (7 : Int32) by decide]) (by decide) rfl ?_
                refine j_goto (tgt := 23) d_La_law_1298 (by decide) ?_
                refine j_forget (L' := [some (.ref a0), some (.ref a1), some (.ref a2), some (.ref a3), some (.int ((p4 + (7 : Int32)))), none, none]) ⟨Or.inr rfl, Or.inr rfl, Or.inr rfl, Or.inr rfl, Or.inr rfl, Or.inl rfl, Or.inl rfl, trivial⟩ ?_
                exact H
              · have H := Hb c50
                refine j_iconst (v := 0) d_La_law_469 (by decide) ?_
                exact j_zret rfl (by decide) d_La_law_470 H
          · have H := Hb c54
            refine j_iconst (v := 0) d_La_law_452 (by decide) ?_
            exact j_zret rfl (by decide) d_La_law_453 H
        · have H := Hb c64
          refine j_iconst (v := 2) d_Mo_read_46 (by decide) ?_
          refine j_goto (tgt := 51) d_Mo_read_47 (by decide) ?_
          refine j_callV (d' := 1) (ci := 10) (As := [.int ((2 : Int32))]) (rest := []) (b := a2) cv_Mo_149 me_Mo_isFine rfl (by decide) rfl rfl t4 rfl rfl (Nat.le_of_ble_eq_true rfl) d_Mo_read_51 (by decide) rfl (j_enter (L := [some (.ref a2), some (.int ((2 : Int32)))]) me_Mo_isFine (cat_c rfl (cat_c rfl cat_n)) (Nat.le_of_ble_eq_true rfl) rfl ?_)
          refine j_aload_n d_Mo_isFine_0 rfl ?_
          refine j_iload_n d_Mo_isFine_1 rfl ?_
          refine j_putI (f := 640) fw_Mo_139 rfl rfl t4 d_Mo_isFine_2 ?_
          refine j_iload_n d_Mo_isFine_5 rfl ?_
          refine j_if_ne (tgt := 13) d_Mo_isFine_6 (by decide) (fun _ => ?_) (fun c => absurd c (by decide))
          refine j_iconst (v := 0) d_Mo_isFine_13 (by decide) ?_
          refine j_zret rfl (by decide) d_Mo_isFine_14 ?_
          show J E 3 m_Mo_read 54 [some (.ref a2), some (.int ((gA G a0 n3))), some (.int ((1 : Int32)))] [.int ((0 : Int32))] (sI G 640 a2 ((2 : Int32))) (aft E 14 m_La_law 438 [some (.ref a0), some (.ref a1), some (.ref a2), some (.ref a3), some (.int p4), some (.int s0), none] [] Post)
          refine j_if_ne (tgt := 59) d_Mo_read_54 (by decide) (fun c => absurd c (by decide)) (fun _ => ?_)
          refine j_iconst (v := 0) d_Mo_read_57 (by decide) ?_
          refine j_iret rfl d_Mo_read_58 ?_
          show J E 14 m_La_law 441 [some (.ref a0), some (.ref a1), some (.ref a2), some (.ref a3), some (.int p4), some (.int s0), none] [.int ((0 : Int32))] (sI G 640 a2 ((2 : Int32))) Post
          refine j_istore (L' := [some (.ref a0), some (.ref a1), some (.ref a2), some (.ref a3), some (.int p4), some (.int s0), some (.int ((0 : Int32)))]) d_La_law_441 (by decide) rfl ?_
          refine j_aload_n d_La_law_443 rfl ?_
          refine j_callV (d' := 1) (ci := 10) (As := []) (rest := []) (b := a2) cv_La_80 me_Mo_thrown rfl (by decide) rfl rfl t4 rfl rfl (Nat.le_of_ble_eq_true rfl) d_La_law_444 (by decide) rfl (j_enter (L := [some (.ref a2)]) me_Mo_thrown (cat_c rfl cat_n) (Nat.le_of_ble_eq_true rfl) rfl ?_)
          refine j_aload_n d_Mo_thrown_0 rfl ?_
          refine j_getIv (f := 640) (v := ((2 : Int32))) fe_Mo_139 rfl rfl t4 (show gI (sI G 640 a2 ((2 : Int32))) 640 a2 = _ from gI_sI_eq) d_Mo_thrown_1 ?_
          refine j_iret rfl d_Mo_thrown_4 ?_
          show J E 14 m_La_law 447 [some (.ref a0), some (.ref a1), some (.ref a2), some (.ref a3), some (.int p4), some (.int s0), some (.int ((0 : Int32)))] [.int (((2 : Int32)))] (sI G 640 a2 ((2 : Int32))) Post
          refine j_iload d_La_law_447 rfl ?_
          obtain ⟨Ha, Hb⟩ := H
          refine j_icmp_eq (tgt := 454) d_La_law_449 (by decide) (fun c61 => ?_) (fun c62 => ?_)
          · have H := Ha c61
            refine j_iload d_La_law_454 rfl ?_
            obtain ⟨Ha, Hb⟩ := H
            refine j_if_ne (tgt := 471) d_La_law_456 (by decide) (fun c59 => ?_) (fun c60 => ?_)
            · have H := Ha c59
              refine j_goto (tgt := 1295) d_La_law_471 (by decide) ?_
              refine j_iinc (v := (p4 + (7 : Int32))) (L' := [some (.ref a0), some (.ref a1), some (.ref a2), some (.ref a3), some (.int ((p4 + (7 : Int32)))), some (.int s0), some (.int ((0 : Int32)))]) d_La_law_1295 rfl (by rw [show Int32.ofInt (7) = (7 : Int32) by decide]) (by decide) rfl ?_
              refine j_goto (tgt := 23) d_La_law_1298 (by decide) ?_
              refine j_forget (L' := [some (.ref a0), some (.ref a1), some (.ref a2), some (.ref a3), some (.int ((p4 + (7 : Int32)))), none, none]) ⟨Or.inr rfl, Or.inr rfl, Or.inr rfl, Or.inr rfl, Or.inr rfl, Or.inl rfl, Or.inl rfl, trivial⟩ ?_
              exact H
            · have H := Hb c60
              refine j_aload_n d_La_law_459 rfl ?_
              refine j_iconst (v := 0) d_La_law_460 (by decide) ?_
              obtain ⟨t55, H⟩ := H
              obtain ⟨x56, H⟩ := H
              refine j_lald (n := 0) t55 x56 d_La_law_461 ?_
              refine j_iload d_La_law_462 rfl ?_
              refine j_i2l d_La_law_464 ?_
              refine j_lcmp d_La_law_465 ?_
              obtain ⟨Ha, Hb⟩ := H
              refine j_if_eq (tgt := 471) d_La_law_466 (by decide) (fun c57 => ?_) (fun c58 => ?_)
              · have H := Ha c57
                refine j_goto (tgt := 1295) d_La_law_471 (by decide) ?_
                refine j_iinc (v := (p4 + (7 : Int32))) (L' := [some (.ref a0), some (.ref a1), some (.ref a2), some (.ref a3), some (.int ((p4 + (7 : Int32)))), some (.int s0), some (.int ((0 : Int32)))]) d_La_law_1295 rfl (by rw [show Int32.ofInt (7) = (7 : Int32) by decide]) (by decide) rfl ?_
                refine j_goto (tgt := 23) d_La_law_1298 (by decide) ?_
                refine j_forget (L' := [some (.ref a0), some (.ref a1), some (.ref a2), some (.ref a3), some (.int ((p4 + (7 : Int32)))), none, none]) ⟨Or.inr rfl, Or.inr rfl, Or.inr rfl, Or.inr rfl, Or.inr rfl, Or.inl rfl, Or.inl rfl, trivial⟩ ?_
                exact H
              · have H := Hb c58
                refine j_iconst (v := 0) d_La_law_469 (by decide) ?_
                exact j_zret rfl (by decide) d_La_law_470 H
          · have H := Hb c62
            refine j_iconst (v := 0) d_La_law_452 (by decide) ?_
            exact j_zret rfl (by decide) d_La_law_453 H
theorem wp_La_law_499 {E : EV} {G : GH} {Post : Res → GH → Prop} (a0 : Nat) (a1 : Nat) (a2 : Nat) (a3 : Nat) (p4 : Int32) (s0 : Int32) (H : (gT G a0 = 20 ∨ gT G a0 = 25) ∧ ∃ n3, IX ((p4 + (1 : Int32))) n3 (gN G a0) ∧ ∃ n5, IX ((p4 + (2 : Int32))) n5 (gN G a0) ∧ ((gA G a0 n5) = 0 → gT G a2 = 11 ∧ Cl E 4 m_Mo_idle [.ref a2, .int ((gA G a0 n3)), .int ((0 : Int32))] G (aft E 14 m_La_law 522 [some (.ref a0), some (.ref a1), some (.ref a2), some (.ref a3), some (.int p4), some (.int s0), none] [] Post)) ∧ (¬ (gA G a0 n5) = 0 → gT G a2 = 11 ∧ Cl E 4 m_Mo_idle [.ref a2, .int ((gA G a0 n3)), .int ((1 : Int32))] G (aft E 14 m_La_law 522 [some (.ref a0), some (.ref a1), some (.ref a2), some (.ref a3), some (.int p4), some (.int s0), none] [] Post))) : J E 14 m_La_law 499 [some (.ref a0), some (.ref a1), some (.ref a2), some (.ref a3), some (.int p4), none, none] [.int s0] G Post := by
  refine j_istore (L' := [some (.ref a0), some (.ref a1), some (.ref a2), some (.ref a3), some (.int p4), some (.int s0), none]) d_La_law_499 (by decide) rfl ?_
  refine j_aload_n d_La_law_501 rfl ?_
  refine j_aload_n d_La_law_502 rfl ?_
  refine j_iload d_La_law_503 rfl ?_
  refine j_iconst (v := 1) d_La_law_505 (by decide) ?_
  refine j_iadd d_La_law_506 ?_
  obtain ⟨t1, H⟩ := H
  obtain ⟨n3, x2, H⟩ := H
  refine j_iald (n := n3) t1 x2 d_La_law_507 ?_
  refine j_aload_n d_La_law_508 rfl ?_
  refine j_iload d_La_law_509 rfl ?_
  refine j_iconst (v := 2) d_La_law_511 (by decide) ?_
  refine j_iadd d_La_law_512 ?_
  obtain ⟨n5, x4, H⟩ := H
  refine j_iald (n := n5) t1 x4 d_La_law_513 ?_
  obtain ⟨Ha, Hb⟩ := H
  refine j_if_eq (tgt := 521) d_La_law_514 (by decide) (fun c8 => ?_) (fun c9 => ?_)
  · have H := Ha c8
    refine j_iconst (v := 0) d_La_law_521 (by decide) ?_
    obtain ⟨t6, H⟩ := H
    exact j_callV (d' := 4) (ci := 10) (As := [.int ((gA G a0 n3)), .int ((0 : Int32))]) (rest := []) (b := a2) cv_La_98 me_Mo_idle rfl (by decide) rfl rfl t6 rfl rfl (Nat.le_of_ble_eq_true rfl) d_La_law_522 (by decide) rfl H
  · have H := Hb c9
    refine j_iconst (v := 1) d_La_law_517 (by decide) ?_
    refine j_goto (tgt := 522) d_La_law_518 (by decide) ?_
    obtain ⟨t7, H⟩ := H
    exact j_callV (d' := 4) (ci := 10) (As := [.int ((gA G a0 n3)), .int ((1 : Int32))]) (rest := []) (b := a2) cv_La_98 me_Mo_idle rfl (by decide) rfl rfl t7 rfl rfl (Nat.le_of_ble_eq_true rfl) d_La_law_522 (by decide) rfl H
theorem wp_La_law_576 {E : EV} {G : GH} {Post : Res → GH → Prop} (a0 : Nat) (a1 : Nat) (a2 : Nat) (a3 : Nat) (p4 : Int32) (s0 : Int32) (H : (gT G a0 = 20 ∨ gT G a0 = 25) ∧ ∃ n3, IX ((p4 + (1 : Int32))) n3 (gN G a0) ∧ gT G a2 = 11 ∧ Cl E 5 m_Mo_take [.ref a2, .int ((gA G a0 n3))] G (aft E 14 m_La_law 585 [some (.ref a0), some (.ref a1), some (.ref a2), some (.ref a3), some (.int p4), some (.int s0), none] [] Post)) : J E 14 m_La_law 576 [some (.ref a0), some (.ref a1), some (.ref a2), some (.ref a3), some (.int p4), none, none] [.int s0] G Post := by
  refine j_istore (L' := [some (.ref a0), some (.ref a1), some (.ref a2), some (.ref a3), some (.int p4), some (.int s0), none]) d_La_law_576 (by decide) rfl ?_
  refine j_aload_n d_La_law_578 rfl ?_
  refine j_aload_n d_La_law_579 rfl ?_
  refine j_iload d_La_law_580 rfl ?_
  refine j_iconst (v := 1) d_La_law_582 (by decide) ?_
  refine j_iadd d_La_law_583 ?_
  obtain ⟨t1, H⟩ := H
  obtain ⟨n3, x2, H⟩ := H
  refine j_iald (n := n3) t1 x2 d_La_law_584 ?_
  obtain ⟨t4, H⟩ := H
  exact j_callV (d' := 5) (ci := 10) (As := [.int ((gA G a0 n3))]) (rest := []) (b := a2) cv_La_101 me_Mo_take rfl (by decide) rfl rfl t4 rfl rfl (Nat.le_of_ble_eq_true rfl) d_La_law_585 (by decide) rfl H
theorem wp_La_law_626 {E : EV} {G : GH} {Post : Res → GH → Prop} (a0 : Nat) (a1 : Nat) (a2 : Nat) (a3 : Nat) (p4 : Int32) (s0 : Int32) (H : gT G a2 = 11 ∧ Cl E 3 m_Mo_barrier [.ref a2] G (aft E 14 m_La_law 629 [some (.ref a0), some (.ref a1), some (.ref a2), some (.ref a3), some (.int p4), some (.int s0), none] [] Post)) : J E 14 m_La_law 626 [some (.ref a0), some (.ref a1), some (.ref a2), some (.ref a3), some (.int p4), none, none] [.int s0] G Post := by
  refine j_istore (L' := [some (.ref a0), some (.ref a1), some (.ref a2), some (.ref a3), some (.int p4), some (.int s0), none]) d_La_law_626 (by decide) rfl ?_
  refine j_aload_n d_La_law_628 rfl ?_
  obtain ⟨t1, H⟩ := H
  exact j_callV (d' := 3) (ci := 10) (As := []) (rest := []) (b := a2) cv_La_105 me_Mo_barrier rfl (by decide) rfl rfl t1 rfl rfl (Nat.le_of_ble_eq_true rfl) d_La_law_629 (by decide) rfl H
theorem wp_La_law_670 {E : EV} {G : GH} {Post : Res → GH → Prop} (a0 : Nat) (a1 : Nat) (a2 : Nat) (a3 : Nat) (p4 : Int32) (s0 : Int32) (H : gT G a2 = 11 ∧ ((gI G 684 a2) = 0 → (((1 : Int32)) = s0 → (¬ s0 = 0 → J E 14 m_La_law 23 [some (.ref a0), some (.ref a1), some (.ref a2), some (.ref a3), some (.int ((p4 + (7 : Int32)))), none, none] [] (sI G 640 a2 ((1 : Int32))) Post) ∧ (s0 = 0 → gT G a3 = 22 ∧ IX (0 : Int32) 0 (gN G a3) ∧ ((lg_cmp ((gL (sI G 640 a2 ((1 : Int32))) a3 0)) ((Int32.toInt64 ((0 : Int32))))) = 0 → J E 14 m_La_law 23 [some (.ref a0), some (.ref a1), some (.ref a2), some (.ref a3), some (.int ((p4 + (7 : Int32)))), none, none] [] (sI G 640 a2 ((1 : Int32))) Post) ∧ (¬ (lg_cmp ((gL (sI G 640 a2 ((1 : Int32))) a3 0)) ((Int32.toInt64 ((0 : Int32))))) = 0 → Post (.inl (some (.int ((0 : Int32))))) (sI G 640 a2 ((1 : Int32)))))) ∧ (¬ ((1 : Int32)) = s0 → Post (.inl (some (.int ((0 : Int32))))) (sI G 640 a2 ((1 : Int32))))) ∧ (¬ (gI G 684 a2) = 0 → (((0 : Int32)) = s0 → (¬ s0 = 0 → J E 14 m_La_law 23 [some (.ref a0), some (.ref a1), some (.ref a2), some (.ref a3), some (.int ((p4 + (7 : Int32)))), none, none] [] (sI (sI (sI G 640 a2 ((0 : Int32))) 684 a2 ((0 : Int32))) 682 a2 ((gI G 681 a2))) Post) ∧ (s0 = 0 → gT G a3 = 22 ∧ IX (0 : Int32) 0 (gN G a3) ∧ ((lg_cmp ((gL (sI (sI (sI G 640 a2 ((0 : Int32))) 684 a2 ((0 : Int32))) 682 a2 ((gI G 681 a2))) a3 0)) ((Int32.toInt64 (((gI G 681 a2)))))) = 0 → J E 14 m_La_law 23 [some (.ref a0), some (.ref a1), some (.ref a2), some (.ref a3), some (.int ((p4 + (7 : Int32)))), none, none] [] (sI (sI (sI G 640 a2 ((0 : Int32))) 684 a2 ((0 : Int32))) 682 a2 ((gI G 681 a2))) Post) ∧ (¬ (lg_cmp ((gL (sI (sI (sI G 640 a2 ((0 : Int32))) 684 a2 ((0 : Int32))) 682 a2 ((gI G 681 a2))) a3 0)) ((Int32.toInt64 (((gI G 681 a2)))))) = 0 → Post (.inl (some (.int ((0 : Int32))))) (sI (sI (sI G 640 a2 ((0 : Int32))) 684 a2 ((0 : Int32))) 682 a2 ((gI G 681 a2)))))) ∧ (¬ ((0 : Int32)) = s0 → Post (.inl (some (.int ((0 : Int32))))) (sI (sI (sI G 640 a2 ((0 : Int32))) 684 a2 ((0 : Int32))) 682 a2 ((gI G 681 a2)))))) : J E 14 m_La_law 670 [some (.ref a0), some (.ref a1), some (.ref a2), some (.ref a3), some (.int p4), none, none] [.int s0] G Post := by
  refine j_istore (L' := [some (.ref a0), some (.ref a1), some (.ref a2), some (.ref a3), some (.int p4), some (.int s0), none]) d_La_law_670 (by decide) rfl ?_
  refine j_aload_n d_La_law_672 rfl ?_
  obtain ⟨t1, H⟩ := H
  refine j_callV (d' := 2) (ci := 10) (As := []) (rest := []) (b := a2) cv_La_108 me_Mo_confirm rfl (by decide) rfl rfl t1 rfl rfl (Nat.le_of_ble_eq_true rfl) d_La_law_673 (by decide) rfl (j_enter (L := [some (.ref a2)]) me_Mo_confirm (cat_c rfl cat_n) (Nat.le_of_ble_eq_true rfl) rfl ?_)
  refine j_aload_n d_Mo_confirm_0 rfl ?_
  refine j_aload_n d_Mo_confirm_1 rfl ?_
  refine j_getI (f := 684) fe_Mo_251 rfl rfl t1 d_Mo_confirm_2 ?_
  obtain ⟨Ha, Hb⟩ := H
  refine j_if_eq (tgt := 12) d_Mo_confirm_5 (by decide) (fun c18 => ?_) (fun c19 => ?_)
  · have H := Ha c18
    refine j_iconst (v := 1) d_Mo_confirm_12 (by decide) ?_
    refine j_callV (d' := 1) (ci := 10) (As := [.int ((1 : Int32))]) (rest := []) (b := a2) cv_Mo_149 me_Mo_isFine rfl (by decide) rfl rfl t1 rfl rfl (Nat.le_of_ble_eq_true rfl) d_Mo_confirm_13 (by decide) rfl (j_enter (L := [some (.ref a2), some (.int ((1 : Int32)))]) me_Mo_isFine (cat_c rfl (cat_c rfl cat_n)) (Nat.le_of_ble_eq_true rfl) rfl ?_)
    refine j_aload_n d_Mo_isFine_0 rfl ?_
    refine j_iload_n d_Mo_isFine_1 rfl ?_
    refine j_putI (f := 640) fw_Mo_139 rfl rfl t1 d_Mo_isFine_2 ?_
    refine j_iload_n d_Mo_isFine_5 rfl ?_
    refine j_if_ne (tgt := 13) d_Mo_isFine_6 (by decide) (fun _ => ?_) (fun c => absurd c (by decide))
    refine j_iconst (v := 0) d_Mo_isFine_13 (by decide) ?_
    refine j_zret rfl (by decide) d_Mo_isFine_14 ?_
    show J E 2 m_Mo_confirm 16 [some (.ref a2)] [.int ((0 : Int32))] (sI G 640 a2 ((1 : Int32))) (aft E 14 m_La_law 673 [some (.ref a0), some (.ref a1), some (.ref a2), some (.ref a3), some (.int p4), some (.int s0), none] [] Post)
    refine j_if_ne (tgt := 21) d_Mo_confirm_16 (by decide) (fun c => absurd c (by decide)) (fun _ => ?_)
    refine j_iconst (v := 0) d_Mo_confirm_19 (by decide) ?_
    refine j_iret rfl d_Mo_confirm_20 ?_
    show J E 14 m_La_law 676 [some (.ref a0), some (.ref a1), some (.ref a2), some (.ref a3), some (.int p4), some (.int s0), none] [.int ((0 : Int32))] (sI G 640 a2 ((1 : Int32))) Post
    refine j_istore (L' := [some (.ref a0), some (.ref a1), some (.ref a2), some (.ref a3), some (.int p4), some (.int s0), some (.int ((0 : Int32)))]) d_La_law_676 (by decide) rfl ?_
    refine j_aload_n d_La_law_678 rfl ?_
    refine j_callV (d' := 1) (ci := 10) (As := []) (rest := []) (b := a2) cv_La_80 me_Mo_thrown rfl (by decide) rfl rfl t1 rfl rfl (Nat.le_of_ble_eq_true rfl) d_La_law_679 (by decide) rfl (j_enter (L := [some (.ref a2)]) me_Mo_thrown (cat_c rfl cat_n) (Nat.le_of_ble_eq_true rfl) rfl ?_)
    refine j_aload_n d_Mo_thrown_0 rfl ?_
    refine j_getIv (f := 640) (v := ((1 : Int32))) fe_Mo_139 rfl rfl t1 (show gI (sI G 640 a2 ((1 : Int32))) 640 a2 = _ from gI_sI_eq) d_Mo_thrown_1 ?_
    refine j_iret rfl d_Mo_thrown_4 ?_
    show J E 14 m_La_law 682 [some (.ref a0), some (.ref a1), some (.ref a2), some (.ref a3), some (.int p4), some (.int s0), some (.int ((0 : Int32)))] [.int (((1 : Int32)))] (sI G 640 a2 ((1 : Int32))) Post
    refine j_iload d_La_law_682 rfl ?_
    obtain ⟨Ha, Hb⟩ := H
    refine j_icmp_eq (tgt := 689) d_La_law_684 (by decide) (fun c8 => ?_) (fun c9 => ?_)
    · have H := Ha c8
      refine j_iload d_La_law_689 rfl ?_
      obtain ⟨Ha, Hb⟩ := H
      refine j_if_ne (tgt := 706) d_La_law_691 (by decide) (fun c6 => ?_) (fun c7 => ?_)
      · have H := Ha c6
        refine j_goto (tgt := 1295) d_La_law_706 (by decide) ?_
        refine j_iinc (v := (p4 + (7 : Int32))) (L' := [some (.ref a0), some (.ref a1), some (.ref a2), some (.ref a3), some (.int ((p4 + (7 : Int32)))), some (.int s0), some (.int ((0 : Int32)))]) d_La_law_1295 rfl (by rw [show Int32.ofInt (7) = (7 : Int32) by decide]) (by decide) rfl ?_
        refine j_goto (tgt := 23) d_La_law_1298 (by decide) ?_
        refine j_forget (L' := [some (.ref a0), some (.ref a1), some (.ref a2), some (.ref a3), some (.int ((p4 + (7 : Int32)))), none, none]) ⟨Or.inr rfl, Or.inr rfl, Or.inr rfl, Or.inr rfl, Or.inr rfl, Or.inl rfl, Or.inl rfl, trivial⟩ ?_
        exact H
      · have H := Hb c7
        refine j_aload_n d_La_law_694 rfl ?_
        refine j_iconst (v := 0) d_La_law_695 (by decide) ?_
        obtain ⟨t2, H⟩ := H
        obtain ⟨x3, H⟩ := H
        refine j_lald (n := 0) t2 x3 d_La_law_696 ?_
        refine j_iload d_La_law_697 rfl ?_
        refine j_i2l d_La_law_699 ?_
        refine j_lcmp d_La_law_700 ?_
        obtain ⟨Ha, Hb⟩ := H
        refine j_if_eq (tgt := 706) d_La_law_701 (by decide) (fun c4 => ?_) (fun c5 => ?_)
        · have H := Ha c4
          refine j_goto (tgt := 1295) d_La_law_706 (by decide) ?_
          refine j_iinc (v := (p4 + (7 : Int32))) (L' := [some (.ref a0), some (.ref a1), some (.ref a2), some (.ref a3), some (.int ((p4 + (7 : Int32)))), some (.int s0), some (.int ((0 : Int32)))]) d_La_law_1295 rfl (by rw [show Int32.ofInt (7) = (7 : Int32) by decide]) (by decide) rfl ?_
          refine j_goto (tgt := 23) d_La_law_1298 (by decide) ?_
          refine j_forget (L' := [some (.ref a0), some (.ref a1), some (.ref a2), some (.ref a3), some (.int ((p4 + (7 : Int32)))), none, none]) ⟨Or.inr rfl, Or.inr rfl, Or.inr rfl, Or.inr rfl, Or.inr rfl, Or.inl rfl, Or.inl rfl, trivial⟩ ?_
          exact H
        · have H := Hb c5
          refine j_iconst (v := 0) d_La_law_704 (by decide) ?_
          exact j_zret rfl (by decide) d_La_law_705 H
    · have H := Hb c9
      refine j_iconst (v := 0) d_La_law_687 (by decide) ?_
      exact j_zret rfl (by decide) d_La_law_688 H
  · have H := Hb c19
    refine j_iconst (v := 0) d_Mo_confirm_8 (by decide) ?_
    refine j_goto (tgt := 13) d_Mo_confirm_9 (by decide) ?_
    refine j_callV (d' := 1) (ci := 10) (As := [.int ((0 : Int32))]) (rest := []) (b := a2) cv_Mo_149 me_Mo_isFine rfl (by decide) rfl rfl t1 rfl rfl (Nat.le_of_ble_eq_true rfl) d_Mo_confirm_13 (by decide) rfl (j_enter (L := [some (.ref a2), some (.int ((0 : Int32)))]) me_Mo_isFine (cat_c rfl (cat_c rfl cat_n)) (Nat.le_of_ble_eq_true rfl) rfl ?_)
    refine j_aload_n d_Mo_isFine_0 rfl ?_
    refine j_iload_n d_Mo_isFine_1 rfl ?_
    refine j_putI (f := 640) fw_Mo_139 rfl rfl t1 d_Mo_isFine_2 ?_
    refine j_iload_n d_Mo_isFine_5 rfl ?_
    refine j_if_ne (tgt := 13) d_Mo_isFine_6 (by decide) (fun c => absurd c (by decide)) (fun _ => ?_)
    refine j_iconst (v := 1) d_Mo_isFine_9 (by decide) ?_
    refine j_goto (tgt := 14) d_Mo_isFine_10 (by decide) ?_
    refine j_zret rfl (by decide) d_Mo_isFine_14 ?_
    show J E 2 m_Mo_confirm 16 [some (.ref a2)] [.int ((1 : Int32))] (sI G 640 a2 ((0 : Int32))) (aft E 14 m_La_law 673 [some (.ref a0), some (.ref a1), some (.ref a2), some (.ref a3), some (.int p4), some (.int s0), none] [] Post)
    refine j_if_ne (tgt := 21) d_Mo_confirm_16 (by decide) (fun _ => ?_) (fun c => absurd c (by decide))
    refine j_aload_n d_Mo_confirm_21 rfl ?_
    refine j_iconst (v := 0) d_Mo_confirm_22 (by decide) ?_
    refine j_putZ (f := 684) fw_Mo_251 rfl rfl t1 (by decide) d_Mo_confirm_23 ?_
    refine j_aload_n d_Mo_confirm_26 rfl ?_
    refine j_aload_n d_Mo_confirm_27 rfl ?_
    refine j_getI (f := 681) fe_Mo_248 rfl rfl t1 d_Mo_confirm_28 ?_
    refine j_putI (f := 682) fw_Mo_257 rfl rfl t1 d_Mo_confirm_31 ?_
    refine j_aload_n d_Mo_confirm_34 rfl ?_
    refine j_getIv (f := 682) (v := ((gI G 681 a2))) fe_Mo_257 rfl rfl t1 (show gI (sI (sI (sI G 640 a2 ((0 : Int32))) 684 a2 ((0 : Int32))) 682 a2 ((gI G 681 a2))) 682 a2 = _ from gI_sI_eq) d_Mo_confirm_35 ?_
    refine j_iret rfl d_Mo_confirm_38 ?_
    show J E 14 m_La_law 676 [some (.ref a0), some (.ref a1), some (.ref a2), some (.ref a3), some (.int p4), some (.int s0), none] [.int (((gI G 681 a2)))] (sI (sI (sI G 640 a2 ((0 : Int32))) 684 a2 ((0 : Int32))) 682 a2 ((gI G 681 a2))) Post
    refine j_istore (L' := [some (.ref a0), some (.ref a1), some (.ref a2), some (.ref a3), some (.int p4), some (.int s0), some (.int (((gI G 681 a2))))]) d_La_law_676 (by decide) rfl ?_
    refine j_aload_n d_La_law_678 rfl ?_
    refine j_callV (d' := 1) (ci := 10) (As := []) (rest := []) (b := a2) cv_La_80 me_Mo_thrown rfl (by decide) rfl rfl t1 rfl rfl (Nat.le_of_ble_eq_true rfl) d_La_law_679 (by decide) rfl (j_enter (L := [some (.ref a2)]) me_Mo_thrown (cat_c rfl cat_n) (Nat.le_of_ble_eq_true rfl) rfl ?_)
    refine j_aload_n d_Mo_thrown_0 rfl ?_
    refine j_getIv (f := 640) (v := ((0 : Int32))) fe_Mo_139 rfl rfl t1 (show gI (sI G 640 a2 ((0 : Int32))) 640 a2 = _ from gI_sI_eq) d_Mo_thrown_1 ?_
    refine j_iret rfl d_Mo_thrown_4 ?_
    show J E 14 m_La_law 682 [some (.ref a0), some (.ref a1), some (.ref a2), some (.ref a3), some (.int p4), some (.int s0), some (.int (((gI G 681 a2))))] [.int (((0 : Int32)))] (sI (sI (sI G 640 a2 ((0 : Int32))) 684 a2 ((0 : Int32))) 682 a2 ((gI G 681 a2))) Post
    refine j_iload d_La_law_682 rfl ?_
    obtain ⟨Ha, Hb⟩ := H
    refine j_icmp_eq (tgt := 689) d_La_law_684 (by decide) (fun c16 => ?_) (fun c17 => ?_)
    · have H := Ha c16
      refine j_iload d_La_law_689 rfl ?_
      obtain ⟨Ha, Hb⟩ := H
      refine j_if_ne (tgt := 706) d_La_law_691 (by decide) (fun c14 => ?_) (fun c15 => ?_)
      · have H := Ha c14
        refine j_goto (tgt := 1295) d_La_law_706 (by decide) ?_
        refine j_iinc (v := (p4 + (7 : Int32))) (L' := [some (.ref a0), some (.ref a1), some (.ref a2), some (.ref a3), some (.int ((p4 + (7 : Int32)))), some (.int s0), some (.int (((gI G 681 a2))))]) d_La_law_1295 rfl (by rw [show Int32.ofInt (7) = (7 : Int32) by decide]) (by decide) rfl ?_
        refine j_goto (tgt := 23) d_La_law_1298 (by decide) ?_
        refine j_forget (L' := [some (.ref a0), some (.ref a1), some (.ref a2), some (.ref a3), some (.int ((p4 + (7 : Int32)))), none, none]) ⟨Or.inr rfl, Or.inr rfl, Or.inr rfl, Or.inr rfl, Or.inr rfl, Or.inl rfl, Or.inl rfl, trivial⟩ ?_
        exact H
      · have H := Hb c15
        refine j_aload_n d_La_law_694 rfl ?_
        refine j_iconst (v := 0) d_La_law_695 (by decide) ?_
        obtain ⟨t10, H⟩ := H
        obtain ⟨x11, H⟩ := H
        refine j_lald (n := 0) t10 x11 d_La_law_696 ?_
        refine j_iload d_La_law_697 rfl ?_
        refine j_i2l d_La_law_699 ?_
        refine j_lcmp d_La_law_700 ?_
        obtain ⟨Ha, Hb⟩ := H
        refine j_if_eq (tgt := 706) d_La_law_701 (by decide) (fun c12 => ?_) (fun c13 => ?_)
        · have H := Ha c12
          refine j_goto (tgt := 1295) d_La_law_706 (by decide) ?_
          refine j_iinc (v := (p4 + (7 : Int32))) (L' := [some (.ref a0), some (.ref a1), some (.ref a2), some (.ref a3), some (.int ((p4 + (7 : Int32)))), some (.int s0), some (.int (((gI G 681 a2))))]) d_La_law_1295 rfl (by rw [show Int32.ofInt (7) = (7 : Int32) by decide]) (by decide) rfl ?_
          refine j_goto (tgt := 23) d_La_law_1298 (by decide) ?_
          refine j_forget (L' := [some (.ref a0), some (.ref a1), some (.ref a2), some (.ref a3), some (.int ((p4 + (7 : Int32)))), none, none]) ⟨Or.inr rfl, Or.inr rfl, Or.inr rfl, Or.inr rfl, Or.inr rfl, Or.inl rfl, Or.inl rfl, trivial⟩ ?_
          exact H
        · have H := Hb c13
          refine j_iconst (v := 0) d_La_law_704 (by decide) ?_
          exact j_zret rfl (by decide) d_La_law_705 H
    · have H := Hb c17
      refine j_iconst (v := 0) d_La_law_687 (by decide) ?_
      exact j_zret rfl (by decide) d_La_law_688 H
theorem wp_La_law_713 {E : EV} {G : GH} {Post : Res → GH → Prop} (a0 : Nat) (a1 : Nat) (a2 : Nat) (a3 : Nat) (p4 : Int32) (s0 : Int32) (H : gT G a2 = 11 ∧ Cl E 5 m_Mo_fail [.ref a2] G (aft E 14 m_La_law 714 [some (.ref a0), some (.ref a1), some (.ref a2), some (.ref a3), some (.int p4), none, none] [.int s0] Post)) : J E 14 m_La_law 713 [some (.ref a0), some (.ref a1), some (.ref a2), some (.ref a3), some (.int p4), none, none] [.int s0] G Post := by
  refine j_aload_n d_La_law_713 rfl ?_
  obtain ⟨t1, H⟩ := H
  exact j_callV (d' := 5) (ci := 10) (As := []) (rest := [.int s0]) (b := a2) cv_La_112 me_Mo_fail rfl (by decide) rfl rfl t1 rfl rfl (Nat.le_of_ble_eq_true rfl) d_La_law_714 (by decide) rfl H
theorem wp_La_law_733 {E : EV} {G : GH} {Post : Res → GH → Prop} (a0 : Nat) (a1 : Nat) (a2 : Nat) (a3 : Nat) (p4 : Int32) (s0 : Int32) (H : (gT G a0 = 20 ∨ gT G a0 = 25) ∧ ∃ n3, IX ((p4 + (1 : Int32))) n3 (gN G a0) ∧ gT G a2 = 11 ∧ Cl E 5 m_Mo_workers [.ref a2, .int ((gA G a0 n3))] G (aft E 14 m_La_law 742 [some (.ref a0), some (.ref a1), some (.ref a2), some (.ref a3), some (.int p4), some (.int s0), none] [] Post)) : J E 14 m_La_law 733 [some (.ref a0), some (.ref a1), some (.ref a2), some (.ref a3), some (.int p4), none, none] [.int s0] G Post := by
  refine j_istore (L' := [some (.ref a0), some (.ref a1), some (.ref a2), some (.ref a3), some (.int p4), some (.int s0), none]) d_La_law_733 (by decide) rfl ?_
  refine j_aload_n d_La_law_735 rfl ?_
  refine j_aload_n d_La_law_736 rfl ?_
  refine j_iload d_La_law_737 rfl ?_
  refine j_iconst (v := 1) d_La_law_739 (by decide) ?_
  refine j_iadd d_La_law_740 ?_
  obtain ⟨t1, H⟩ := H
  obtain ⟨n3, x2, H⟩ := H
  refine j_iald (n := n3) t1 x2 d_La_law_741 ?_
  obtain ⟨t4, H⟩ := H
  exact j_callV (d' := 5) (ci := 10) (As := [.int ((gA G a0 n3))]) (rest := []) (b := a2) cv_La_115 me_Mo_workers rfl (by decide) rfl rfl t4 rfl rfl (Nat.le_of_ble_eq_true rfl) d_La_law_742 (by decide) rfl H
theorem wp_La_law_802 {E : EV} {G : GH} {Post : Res → GH → Prop} (a0 : Nat) (a1 : Nat) (a2 : Nat) (a3 : Nat) (p4 : Int32) (s0 : Int32) (H : (gT G a0 = 20 ∨ gT G a0 = 25) ∧ ∃ n3, IX ((p4 + (1 : Int32))) n3 (gN G a0) ∧ gT G a2 = 11 ∧ ((gA G a0 n3) < (0 : Int32) → (((1 : Int32)) = s0 → (¬ s0 = 0 → J E 14 m_La_law 23 [some (.ref a0), some (.ref a1), some (.ref a2), some (.ref a3), some (.int ((p4 + (7 : Int32)))), none, none] [] (sI G 640 a2 ((1 : Int32))) Post) ∧ (s0 = 0 → gT G a3 = 22 ∧ IX (0 : Int32) 0 (gN G a3) ∧ ((lg_cmp ((gL (sI G 640 a2 ((1 : Int32))) a3 0)) ((Int32.toInt64 ((0 : Int32))))) = 0 → J E 14 m_La_law 23 [some (.ref a0), some (.ref a1), some (.ref a2), some (.ref a3), some (.int ((p4 + (7 : Int32)))), none, none] [] (sI G 640 a2 ((1 : Int32))) Post) ∧ (¬ (lg_cmp ((gL (sI G 640 a2 ((1 : Int32))) a3 0)) ((Int32.toInt64 ((0 : Int32))))) = 0 → Post (.inl (some (.int ((0 : Int32))))) (sI G 640 a2 ((1 : Int32)))))) ∧ (¬ ((1 : Int32)) = s0 → Post (.inl (some (.int ((0 : Int32))))) (sI G 640 a2 ((1 : Int32))))) ∧ (¬ (gA G a0 n3) < (0 : Int32) → ((2 : Int32) < (gA G a0 n3) → (((1 : Int32)) = s0 → (¬ s0 = 0 → J E 14 m_La_law 23 [some (.ref a0), some (.ref a1), some (.ref a2), some (.ref a3), some (.int ((p4 + (7 : Int32)))), none, none] [] (sI G 640 a2 ((1 : Int32))) Post) ∧ (s0 = 0 → gT G a3 = 22 ∧ IX (0 : Int32) 0 (gN G a3) ∧ ((lg_cmp ((gL (sI G 640 a2 ((1 : Int32))) a3 0)) ((Int32.toInt64 ((0 : Int32))))) = 0 → J E 14 m_La_law 23 [some (.ref a0), some (.ref a1), some (.ref a2), some (.ref a3), some (.int ((p4 + (7 : Int32)))), none, none] [] (sI G 640 a2 ((1 : Int32))) Post) ∧ (¬ (lg_cmp ((gL (sI G 640 a2 ((1 : Int32))) a3 0)) ((Int32.toInt64 ((0 : Int32))))) = 0 → Post (.inl (some (.int ((0 : Int32))))) (sI G 640 a2 ((1 : Int32)))))) ∧ (¬ ((1 : Int32)) = s0 → Post (.inl (some (.int ((0 : Int32))))) (sI G 640 a2 ((1 : Int32))))) ∧ (¬ (2 : Int32) < (gA G a0 n3) → ∃ b21, gR G 657 a2 = some b21 ∧ (gT G b21 = 20 ∨ gT G b21 = 25) ∧ ∃ n25, IX ((gA G a0 n3)) n25 (gN G b21) ∧ (¬ (gA (sI G 640 a2 ((0 : Int32))) b21 n25) = (-1 : Int32) → ∃ b26, gR G 655 a2 = some b26 ∧ (gT G b26 = 20 ∨ gT G b26 = 25) ∧ ∃ n30, IX ((gA G a0 n3)) n30 (gN G b26) ∧ ((-1 : Int32) ≤ ((gA (sI G 640 a2 ((0 : Int32))) b21 n25) - (gA (sI G 640 a2 ((0 : Int32))) b26 n30)) → (((0 : Int32)) = s0 → (¬ s0 = 0 → J E 14 m_La_law 23 [some (.ref a0), some (.ref a1), some (.ref a2), some (.ref a3), some (.int ((p4 + (7 : Int32)))), none, none] [] (sI G 640 a2 ((0 : Int32))) Post) ∧ (s0 = 0 → gT G a3 = 22 ∧ IX (0 : Int32) 0 (gN G a3) ∧ ((lg_cmp ((gL (sI G 640 a2 ((0 : Int32))) a3 0)) ((Int32.toInt64 (((gA (sI G 640 a2 ((0 : Int32))) b21 n25) - (gA (sI G 640 a2 ((0 : Int32))) b26 n30)))))) = 0 → J E 14 m_La_law 23 [some (.ref a0), some (.ref a1), some (.ref a2), some (.ref a3), some (.int ((p4 + (7 : Int32)))), none, none] [] (sI G 640 a2 ((0 : Int32))) Post) ∧ (¬ (lg_cmp ((gL (sI G 640 a2 ((0 : Int32))) a3 0)) ((Int32.toInt64 (((gA (sI G 640 a2 ((0 : Int32))) b21 n25) - (gA (sI G 640 a2 ((0 : Int32))) b26 n30)))))) = 0 → Post (.inl (some (.int ((0 : Int32))))) (sI G 640 a2 ((0 : Int32)))))) ∧ (¬ ((0 : Int32)) = s0 → Post (.inl (some (.int ((0 : Int32))))) (sI G 640 a2 ((0 : Int32))))) ∧ (¬ (-1 : Int32) ≤ ((gA (sI G 640 a2 ((0 : Int32))) b21 n25) - (gA (sI G 640 a2 ((0 : Int32))) b26 n30)) → (((0 : Int32)) = s0 → (¬ s0 = 0 → J E 14 m_La_law 23 [some (.ref a0), some (.ref a1), some (.ref a2), some (.ref a3), some (.int ((p4 + (7 : Int32)))), none, none] [] (sI G 640 a2 ((0 : Int32))) Post) ∧ (s0 = 0 → gT G a3 = 22 ∧ IX (0 : Int32) 0 (gN G a3) ∧ ((lg_cmp ((gL (sI G 640 a2 ((0 : Int32))) a3 0)) ((Int32.toInt64 ((-1 : Int32))))) = 0 → J E 14 m_La_law 23 [some (.ref a0), some (.ref a1), some (.ref a2), some (.ref a3), some (.int ((p4 + (7 : Int32)))), none, none] [] (sI G 640 a2 ((0 : Int32))) Post) ∧ (¬ (lg_cmp ((gL (sI G 640 a2 ((0 : Int32))) a3 0)) ((Int32.toInt64 ((-1 : Int32))))) = 0 → Post (.inl (some (.int ((0 : Int32))))) (sI G 640 a2 ((0 : Int32)))))) ∧ (¬ ((0 : Int32)) = s0 → Post (.inl (some (.int ((0 : Int32))))) (sI G 640 a2 ((0 : Int32)))))) ∧ ((gA (sI G 640 a2 ((0 : Int32))) b21 n25) = (-1 : Int32) → (((0 : Int32)) = s0 → (¬ s0 = 0 → J E 14 m_La_law 23 [some (.ref a0), some (.ref a1), some (.ref a2), some (.ref a3), some (.int ((p4 + (7 : Int32)))), none, none] [] (sI G 640 a2 ((0 : Int32))) Post) ∧ (s0 = 0 → gT G a3 = 22 ∧ IX (0 : Int32) 0 (gN G a3) ∧ ((lg_cmp ((gL (sI G 640 a2 ((0 : Int32))) a3 0)) ((Int32.toInt64 ((-1 : Int32))))) = 0 → J E 14 m_La_law 23 [some (.ref a0), some (.ref a1), some (.ref a2), some (.ref a3), some (.int ((p4 + (7 : Int32)))), none, none] [] (sI G 640 a2 ((0 : Int32))) Post) ∧ (¬ (lg_cmp ((gL (sI G 640 a2 ((0 : Int32))) a3 0)) ((Int32.toInt64 ((-1 : Int32))))) = 0 → Post (.inl (some (.int ((0 : Int32))))) (sI G 640 a2 ((0 : Int32)))))) ∧ (¬ ((0 : Int32)) = s0 → Post (.inl (some (.int ((0 : Int32))))) (sI G 640 a2 ((0 : Int32)))))))) : J E 14 m_La_law 802 [some (.ref a0), some (.ref a1), some (.ref a2), some (.ref a3), some (.int p4), none, none] [.int s0] G Post := by
  refine j_istore (L' := [some (.ref a0), some (.ref a1), some (.ref a2), some (.ref a3), some (.int p4), some (.int s0), none]) d_La_law_802 (by decide) rfl ?_
  refine j_aload_n d_La_law_804 rfl ?_
  refine j_aload_n d_La_law_805 rfl ?_
  refine j_iload d_La_law_806 rfl ?_
  refine j_iconst (v := 1) d_La_law_808 (by decide) ?_
  refine j_iadd d_La_law_809 ?_
  obtain ⟨t1, H⟩ := H
  obtain ⟨n3, x2, H⟩ := H
  refine j_iald (n := n3) t1 x2 d_La_law_810 ?_
  obtain ⟨t4, H⟩ := H
  refine j_callV (d' := 3) (ci := 10) (As := [.int ((gA G a0 n3))]) (rest := []) (b := a2) cv_La_122 me_Mo_sourceWatermark rfl (by decide) rfl rfl t4 rfl rfl (Nat.le_of_ble_eq_true rfl) d_La_law_811 (by decide) rfl (j_enter (L := [some (.ref a2), some (.int ((gA G a0 n3)))]) me_Mo_sourceWatermark (cat_c rfl (cat_c rfl cat_n)) (Nat.le_of_ble_eq_true rfl) rfl ?_)
  refine j_aload_n d_Mo_sourceWatermark_0 rfl ?_
  refine j_iload_n d_Mo_sourceWatermark_1 rfl ?_
  refine j_callS (d' := 2) (As := [.int ((gA G a0 n3))]) (rest := [.ref a2]) cs_Mo_156 me_Mo_isSource rfl (by decide) rfl rfl (Nat.le_of_ble_eq_true rfl) d_Mo_sourceWatermark_2 (by decide) rfl (j_enter (L := [some (.int ((gA G a0 n3)))]) me_Mo_isSource (cat_c rfl cat_n) (Nat.le_of_ble_eq_true rfl) rfl ?_)
  refine j_iload_n d_Mo_isSource_0 rfl ?_
  refine j_iconst (v := 0) d_Mo_isSource_1 (by decide) ?_
  refine j_iconst (v := 2) d_Mo_isSource_2 (by decide) ?_
  refine j_callS (d' := 1) (As := [.int ((gA G a0 n3)), .int ((0 : Int32)), .int ((2 : Int32))]) (rest := []) cs_Mo_142 me_Mo_isIn rfl (by decide) rfl rfl (Nat.le_of_ble_eq_true rfl) d_Mo_isSource_3 (by decide) rfl (j_enter (L := [some (.int ((gA G a0 n3))), some (.int ((0 : Int32))), some (.int ((2 : Int32)))]) me_Mo_isIn (cat_c rfl (cat_c rfl (cat_c rfl cat_n))) (Nat.le_of_ble_eq_true rfl) rfl ?_)
  refine j_iload_n d_Mo_isIn_0 rfl ?_
  refine j_iload_n d_Mo_isIn_1 rfl ?_
  obtain ⟨Ha, Hb⟩ := H
  refine j_icmp_lt (tgt := 14) d_Mo_isIn_2 (by decide) (fun c61 => ?_) (fun c62 => ?_)
  · have H := Ha c61
    refine j_iconst (v := 0) d_Mo_isIn_14 (by decide) ?_
    refine j_zret rfl (by decide) d_Mo_isIn_15 ?_
    show J E 2 m_Mo_isSource 6 [some (.int ((gA G a0 n3)))] [.int ((0 : Int32))] G (aft E 3 m_Mo_sourceWatermark 2 [some (.ref a2), some (.int ((gA G a0 n3)))] [.ref a2] (aft E 14 m_La_law 811 [some (.ref a0), some (.ref a1), some (.ref a2), some (.ref a3), some (.int p4), some (.int s0), none] [] Post))
    refine j_zret rfl (by decide) d_Mo_isSource_6 ?_
    show J E 3 m_Mo_sourceWatermark 5 [some (.ref a2), some (.int ((gA G a0 n3)))] [.int ((0 : Int32)), .ref a2] G (aft E 14 m_La_law 811 [some (.ref a0), some (.ref a1), some (.ref a2), some (.ref a3), some (.int p4), some (.int s0), none] [] Post)
    refine j_if_eq (tgt := 12) d_Mo_sourceWatermark_5 (by decide) (fun _ => ?_) (fun c => absurd c (by decide))
    refine j_iconst (v := 1) d_Mo_sourceWatermark_12 (by decide) ?_
    refine j_callV (d' := 1) (ci := 10) (As := [.int ((1 : Int32))]) (rest := []) (b := a2) cv_Mo_149 me_Mo_isFine rfl (by decide) rfl rfl t4 rfl rfl (Nat.le_of_ble_eq_true rfl) d_Mo_sourceWatermark_13 (by decide) rfl (j_enter (L := [some (.ref a2), some (.int ((1 : Int32)))]) me_Mo_isFine (cat_c rfl (cat_c rfl cat_n)) (Nat.le_of_ble_eq_true rfl) rfl ?_)
    refine j_aload_n d_Mo_isFine_0 rfl ?_
    refine j_iload_n d_Mo_isFine_1 rfl ?_
    refine j_putI (f := 640) fw_Mo_139 rfl rfl t4 d_Mo_isFine_2 ?_
    refine j_iload_n d_Mo_isFine_5 rfl ?_
    refine j_if_ne (tgt := 13) d_Mo_isFine_6 (by decide) (fun _ => ?_) (fun c => absurd c (by decide))
    refine j_iconst (v := 0) d_Mo_isFine_13 (by decide) ?_
    refine j_zret rfl (by decide) d_Mo_isFine_14 ?_
    show J E 3 m_Mo_sourceWatermark 16 [some (.ref a2), some (.int ((gA G a0 n3)))] [.int ((0 : Int32))] (sI G 640 a2 ((1 : Int32))) (aft E 14 m_La_law 811 [some (.ref a0), some (.ref a1), some (.ref a2), some (.ref a3), some (.int p4), some (.int s0), none] [] Post)
    refine j_if_eq (tgt := 27) d_Mo_sourceWatermark_16 (by decide) (fun _ => ?_) (fun c => absurd c (by decide))
    refine j_iconst (v := 0) d_Mo_sourceWatermark_27 (by decide) ?_
    refine j_iret rfl d_Mo_sourceWatermark_28 ?_
    show J E 14 m_La_law 814 [some (.ref a0), some (.ref a1), some (.ref a2), some (.ref a3), some (.int p4), some (.int s0), none] [.int ((0 : Int32))] (sI G 640 a2 ((1 : Int32))) Post
    refine j_istore (L' := [some (.ref a0), some (.ref a1), some (.ref a2), some (.ref a3), some (.int p4), some (.int s0), some (.int ((0 : Int32)))]) d_La_law_814 (by decide) rfl ?_
    refine j_aload_n d_La_law_816 rfl ?_
    refine j_callV (d' := 1) (ci := 10) (As := []) (rest := []) (b := a2) cv_La_80 me_Mo_thrown rfl (by decide) rfl rfl t4 rfl rfl (Nat.le_of_ble_eq_true rfl) d_La_law_817 (by decide) rfl (j_enter (L := [some (.ref a2)]) me_Mo_thrown (cat_c rfl cat_n) (Nat.le_of_ble_eq_true rfl) rfl ?_)
    refine j_aload_n d_Mo_thrown_0 rfl ?_
    refine j_getIv (f := 640) (v := ((1 : Int32))) fe_Mo_139 rfl rfl t4 (show gI (sI G 640 a2 ((1 : Int32))) 640 a2 = _ from gI_sI_eq) d_Mo_thrown_1 ?_
    refine j_iret rfl d_Mo_thrown_4 ?_
    show J E 14 m_La_law 820 [some (.ref a0), some (.ref a1), some (.ref a2), some (.ref a3), some (.int p4), some (.int s0), some (.int ((0 : Int32)))] [.int (((1 : Int32)))] (sI G 640 a2 ((1 : Int32))) Post
    refine j_iload d_La_law_820 rfl ?_
    obtain ⟨Ha, Hb⟩ := H
    refine j_icmp_eq (tgt := 827) d_La_law_822 (by decide) (fun c11 => ?_) (fun c12 => ?_)
    · have H := Ha c11
      refine j_iload d_La_law_827 rfl ?_
      obtain ⟨Ha, Hb⟩ := H
      refine j_if_ne (tgt := 844) d_La_law_829 (by decide) (fun c9 => ?_) (fun c10 => ?_)
      · have H := Ha c9
        refine j_goto (tgt := 1295) d_La_law_844 (by decide) ?_
        refine j_iinc (v := (p4 + (7 : Int32))) (L' := [some (.ref a0), some (.ref a1), some (.ref a2), some (.ref a3), some (.int ((p4 + (7 : Int32)))), some (.int s0), some (.int ((0 : Int32)))]) d_La_law_1295 rfl (by rw [show Int32.ofInt (7) = (7 : Int32) by decide]) (by decide) rfl ?_
        refine j_goto (tgt := 23) d_La_law_1298 (by decide) ?_
        refine j_forget (L' := [some (.ref a0), some (.ref a1), some (.ref a2), some (.ref a3), some (.int ((p4 + (7 : Int32)))), none, none]) ⟨Or.inr rfl, Or.inr rfl, Or.inr rfl, Or.inr rfl, Or.inr rfl, Or.inl rfl, Or.inl rfl, trivial⟩ ?_
        exact H
      · have H := Hb c10
        refine j_aload_n d_La_law_832 rfl ?_
        refine j_iconst (v := 0) d_La_law_833 (by decide) ?_
        obtain ⟨t5, H⟩ := H
        obtain ⟨x6, H⟩ := H
        refine j_lald (n := 0) t5 x6 d_La_law_834 ?_
        refine j_iload d_La_law_835 rfl ?_
        refine j_i2l d_La_law_837 ?_
        refine j_lcmp d_La_law_838 ?_
        obtain ⟨Ha, Hb⟩ := H
        refine j_if_eq (tgt := 844) d_La_law_839 (by decide) (fun c7 => ?_) (fun c8 => ?_)
        · have H := Ha c7
          refine j_goto (tgt := 1295) d_La_law_844 (by decide) ?_
          refine j_iinc (v := (p4 + (7 : Int32))) (L' := [some (.ref a0), some (.ref a1), some (.ref a2), some (.ref a3), some (.int ((p4 + (7 : Int32)))), some (.int s0), some (.int ((0 : Int32)))]) d_La_law_1295 rfl (by rw [show Int32.ofInt (7) = (7 : Int32) by decide]) (by decide) rfl ?_
          refine j_goto (tgt := 23) d_La_law_1298 (by decide) ?_
          refine j_forget (L' := [some (.ref a0), some (.ref a1), some (.ref a2), some (.ref a3), some (.int ((p4 + (7 : Int32)))), none, none]) ⟨Or.inr rfl, Or.inr rfl, Or.inr rfl, Or.inr rfl, Or.inr rfl, Or.inl rfl, Or.inl rfl, trivial⟩ ?_
          exact H
        · have H := Hb c8
          refine j_iconst (v := 0) d_La_law_842 (by decide) ?_
          exact j_zret rfl (by decide) d_La_law_843 H
    · have H := Hb c12
      refine j_iconst (v := 0) d_La_law_825 (by decide) ?_
      exact j_zret rfl (by decide) d_La_law_826 H
  · have H := Hb c62
    refine j_iload_n d_Mo_isIn_5 rfl ?_
    refine j_iload_n d_Mo_isIn_6 rfl ?_
    obtain ⟨Ha, Hb⟩ := H
    refine j_icmp_gt (tgt := 14) d_Mo_isIn_7 (by decide) (fun c59 => ?_) (fun c60 => ?_)
    · have H := Ha c59
      refine j_iconst (v := 0) d_Mo_isIn_14 (by decide) ?_
      refine j_zret rfl (by decide) d_Mo_isIn_15 ?_
      show J E 2 m_Mo_isSource 6 [some (.int ((gA G a0 n3)))] [.int ((0 : Int32))] G (aft E 3 m_Mo_sourceWatermark 2 [some (.ref a2), some (.int ((gA G a0 n3)))] [.ref a2] (aft E 14 m_La_law 811 [some (.ref a0), some (.ref a1), some (.ref a2), some (.ref a3), some (.int p4), some (.int s0), none] [] Post))
      refine j_zret rfl (by decide) d_Mo_isSource_6 ?_
      show J E 3 m_Mo_sourceWatermark 5 [some (.ref a2), some (.int ((gA G a0 n3)))] [.int ((0 : Int32)), .ref a2] G (aft E 14 m_La_law 811 [some (.ref a0), some (.ref a1), some (.ref a2), some (.ref a3), some (.int p4), some (.int s0), none] [] Post)
      refine j_if_eq (tgt := 12) d_Mo_sourceWatermark_5 (by decide) (fun _ => ?_) (fun c => absurd c (by decide))
      refine j_iconst (v := 1) d_Mo_sourceWatermark_12 (by decide) ?_
      refine j_callV (d' := 1) (ci := 10) (As := [.int ((1 : Int32))]) (rest := []) (b := a2) cv_Mo_149 me_Mo_isFine rfl (by decide) rfl rfl t4 rfl rfl (Nat.le_of_ble_eq_true rfl) d_Mo_sourceWatermark_13 (by decide) rfl (j_enter (L := [some (.ref a2), some (.int ((1 : Int32)))]) me_Mo_isFine (cat_c rfl (cat_c rfl cat_n)) (Nat.le_of_ble_eq_true rfl) rfl ?_)
      refine j_aload_n d_Mo_isFine_0 rfl ?_
      refine j_iload_n d_Mo_isFine_1 rfl ?_
      refine j_putI (f := 640) fw_Mo_139 rfl rfl t4 d_Mo_isFine_2 ?_
      refine j_iload_n d_Mo_isFine_5 rfl ?_
      refine j_if_ne (tgt := 13) d_Mo_isFine_6 (by decide) (fun _ => ?_) (fun c => absurd c (by decide))
      refine j_iconst (v := 0) d_Mo_isFine_13 (by decide) ?_
      refine j_zret rfl (by decide) d_Mo_isFine_14 ?_
      show J E 3 m_Mo_sourceWatermark 16 [some (.ref a2), some (.int ((gA G a0 n3)))] [.int ((0 : Int32))] (sI G 640 a2 ((1 : Int32))) (aft E 14 m_La_law 811 [some (.ref a0), some (.ref a1), some (.ref a2), some (.ref a3), some (.int p4), some (.int s0), none] [] Post)
      refine j_if_eq (tgt := 27) d_Mo_sourceWatermark_16 (by decide) (fun _ => ?_) (fun c => absurd c (by decide))
      refine j_iconst (v := 0) d_Mo_sourceWatermark_27 (by decide) ?_
      refine j_iret rfl d_Mo_sourceWatermark_28 ?_
      show J E 14 m_La_law 814 [some (.ref a0), some (.ref a1), some (.ref a2), some (.ref a3), some (.int p4), some (.int s0), none] [.int ((0 : Int32))] (sI G 640 a2 ((1 : Int32))) Post
      refine j_istore (L' := [some (.ref a0), some (.ref a1), some (.ref a2), some (.ref a3), some (.int p4), some (.int s0), some (.int ((0 : Int32)))]) d_La_law_814 (by decide) rfl ?_
      refine j_aload_n d_La_law_816 rfl ?_
      refine j_callV (d' := 1) (ci := 10) (As := []) (rest := []) (b := a2) cv_La_80 me_Mo_thrown rfl (by decide) rfl rfl t4 rfl rfl (Nat.le_of_ble_eq_true rfl) d_La_law_817 (by decide) rfl (j_enter (L := [some (.ref a2)]) me_Mo_thrown (cat_c rfl cat_n) (Nat.le_of_ble_eq_true rfl) rfl ?_)
      refine j_aload_n d_Mo_thrown_0 rfl ?_
      refine j_getIv (f := 640) (v := ((1 : Int32))) fe_Mo_139 rfl rfl t4 (show gI (sI G 640 a2 ((1 : Int32))) 640 a2 = _ from gI_sI_eq) d_Mo_thrown_1 ?_
      refine j_iret rfl d_Mo_thrown_4 ?_
      show J E 14 m_La_law 820 [some (.ref a0), some (.ref a1), some (.ref a2), some (.ref a3), some (.int p4), some (.int s0), some (.int ((0 : Int32)))] [.int (((1 : Int32)))] (sI G 640 a2 ((1 : Int32))) Post
      refine j_iload d_La_law_820 rfl ?_
      obtain ⟨Ha, Hb⟩ := H
      refine j_icmp_eq (tgt := 827) d_La_law_822 (by decide) (fun c19 => ?_) (fun c20 => ?_)
      · have H := Ha c19
        refine j_iload d_La_law_827 rfl ?_
        obtain ⟨Ha, Hb⟩ := H
        refine j_if_ne (tgt := 844) d_La_law_829 (by decide) (fun c17 => ?_) (fun c18 => ?_)
        · have H := Ha c17
          refine j_goto (tgt := 1295) d_La_law_844 (by decide) ?_
          refine j_iinc (v := (p4 + (7 : Int32))) (L' := [some (.ref a0), some (.ref a1), some (.ref a2), some (.ref a3), some (.int ((p4 + (7 : Int32)))), some (.int s0), some (.int ((0 : Int32)))]) d_La_law_1295 rfl (by rw [show Int32.ofInt (7) = (7 : Int32) by decide]) (by decide) rfl ?_
          refine j_goto (tgt := 23) d_La_law_1298 (by decide) ?_
          refine j_forget (L' := [some (.ref a0), some (.ref a1), some (.ref a2), some (.ref a3), some (.int ((p4 + (7 : Int32)))), none, none]) ⟨Or.inr rfl, Or.inr rfl, Or.inr rfl, Or.inr rfl, Or.inr rfl, Or.inl rfl, Or.inl rfl, trivial⟩ ?_
          exact H
        · have H := Hb c18
          refine j_aload_n d_La_law_832 rfl ?_
          refine j_iconst (v := 0) d_La_law_833 (by decide) ?_
          obtain ⟨t13, H⟩ := H
          obtain ⟨x14, H⟩ := H
          refine j_lald (n := 0) t13 x14 d_La_law_834 ?_
          refine j_iload d_La_law_835 rfl ?_
          refine j_i2l d_La_law_837 ?_
          refine j_lcmp d_La_law_838 ?_
          obtain ⟨Ha, Hb⟩ := H
          refine j_if_eq (tgt := 844) d_La_law_839 (by decide) (fun c15 => ?_) (fun c16 => ?_)
          · have H := Ha c15
            refine j_goto (tgt := 1295) d_La_law_844 (by decide) ?_
            refine j_iinc (v := (p4 + (7 : Int32))) (L' := [some (.ref a0), some (.ref a1), some (.ref a2), some (.ref a3), some (.int ((p4 + (7 : Int32)))), some (.int s0), some (.int ((0 : Int32)))]) d_La_law_1295 rfl (by rw [show Int32.ofInt (7) = (7 : Int32) by decide]) (by decide) rfl ?_
            refine j_goto (tgt := 23) d_La_law_1298 (by decide) ?_
            refine j_forget (L' := [some (.ref a0), some (.ref a1), some (.ref a2), some (.ref a3), some (.int ((p4 + (7 : Int32)))), none, none]) ⟨Or.inr rfl, Or.inr rfl, Or.inr rfl, Or.inr rfl, Or.inr rfl, Or.inl rfl, Or.inl rfl, trivial⟩ ?_
            exact H
          · have H := Hb c16
            refine j_iconst (v := 0) d_La_law_842 (by decide) ?_
            exact j_zret rfl (by decide) d_La_law_843 H
      · have H := Hb c20
        refine j_iconst (v := 0) d_La_law_825 (by decide) ?_
        exact j_zret rfl (by decide) d_La_law_826 H
    · have H := Hb c60
      refine j_iconst (v := 1) d_Mo_isIn_10 (by decide) ?_
      refine j_goto (tgt := 15) d_Mo_isIn_11 (by decide) ?_
      refine j_zret rfl (by decide) d_Mo_isIn_15 ?_
      show J E 2 m_Mo_isSource 6 [some (.int ((gA G a0 n3)))] [.int ((1 : Int32))] G (aft E 3 m_Mo_sourceWatermark 2 [some (.ref a2), some (.int ((gA G a0 n3)))] [.ref a2] (aft E 14 m_La_law 811 [some (.ref a0), some (.ref a1), some (.ref a2), some (.ref a3), some (.int p4), some (.int s0), none] [] Post))
      refine j_zret rfl (by decide) d_Mo_isSource_6 ?_
      show J E 3 m_Mo_sourceWatermark 5 [some (.ref a2), some (.int ((gA G a0 n3)))] [.int ((1 : Int32)), .ref a2] G (aft E 14 m_La_law 811 [some (.ref a0), some (.ref a1), some (.ref a2), some (.ref a3), some (.int p4), some (.int s0), none] [] Post)
      refine j_if_eq (tgt := 12) d_Mo_sourceWatermark_5 (by decide) (fun c => absurd c (by decide)) (fun _ => ?_)
      refine j_iconst (v := 0) d_Mo_sourceWatermark_8 (by decide) ?_
      refine j_goto (tgt := 13) d_Mo_sourceWatermark_9 (by decide) ?_
      refine j_callV (d' := 1) (ci := 10) (As := [.int ((0 : Int32))]) (rest := []) (b := a2) cv_Mo_149 me_Mo_isFine rfl (by decide) rfl rfl t4 rfl rfl (Nat.le_of_ble_eq_true rfl) d_Mo_sourceWatermark_13 (by decide) rfl (j_enter (L := [some (.ref a2), some (.int ((0 : Int32)))]) me_Mo_isFine (cat_c rfl (cat_c rfl cat_n)) (Nat.le_of_ble_eq_true rfl) rfl ?_)
      refine j_aload_n d_Mo_isFine_0 rfl ?_
      refine j_iload_n d_Mo_isFine_1 rfl ?_
      refine j_putI (f := 640) fw_Mo_139 rfl rfl t4 d_Mo_isFine_2 ?_
      refine j_iload_n d_Mo_isFine_5 rfl ?_
      refine j_if_ne (tgt := 13) d_Mo_isFine_6 (by decide) (fun c => absurd c (by decide)) (fun _ => ?_)
      refine j_iconst (v := 1) d_Mo_isFine_9 (by decide) ?_
      refine j_goto (tgt := 14) d_Mo_isFine_10 (by decide) ?_
      refine j_zret rfl (by decide) d_Mo_isFine_14 ?_
      show J E 3 m_Mo_sourceWatermark 16 [some (.ref a2), some (.int ((gA G a0 n3)))] [.int ((1 : Int32))] (sI G 640 a2 ((0 : Int32))) (aft E 14 m_La_law 811 [some (.ref a0), some (.ref a1), some (.ref a2), some (.ref a3), some (.int p4), some (.int s0), none] [] Post)
      refine j_if_eq (tgt := 27) d_Mo_sourceWatermark_16 (by decide) (fun c => absurd c (by decide)) (fun _ => ?_)
      refine j_aload_n d_Mo_sourceWatermark_19 rfl ?_
      refine j_iload_n d_Mo_sourceWatermark_20 rfl ?_
      refine j_callV (d' := 2) (ci := 10) (As := [.int ((gA G a0 n3))]) (rest := []) (b := a2) cv_Mo_172 me_Mo_markOf rfl (by decide) rfl rfl t4 rfl rfl (Nat.le_of_ble_eq_true rfl) d_Mo_sourceWatermark_21 (by decide) rfl (j_enter (L := [some (.ref a2), some (.int ((gA G a0 n3)))]) me_Mo_markOf (cat_c rfl (cat_c rfl cat_n)) (Nat.le_of_ble_eq_true rfl) rfl ?_)
      refine j_aload_n d_Mo_markOf_0 rfl ?_
      obtain ⟨b21, e22, H⟩ := H
      refine j_getR (f := 657) (b := b21) fe_Mo_55 rfl rfl t4 e22 d_Mo_markOf_1 ?_
      refine j_iload_n d_Mo_markOf_4 rfl ?_
      obtain ⟨t23, H⟩ := H
      obtain ⟨n25, x24, H⟩ := H
      refine j_iald (n := n25) t23 x24 d_Mo_markOf_5 ?_
      refine j_iconst (v := -1) d_Mo_markOf_6 (by decide) ?_
      obtain ⟨Ha, Hb⟩ := H
      refine j_icmp_ne (tgt := 14) d_Mo_markOf_7 (by decide) (fun c57 => ?_) (fun c58 => ?_)
      · have H := Ha c57
        refine j_iconst (v := -1) d_Mo_markOf_14 (by decide) ?_
        refine j_aload_n d_Mo_markOf_15 rfl ?_
        refine j_getR (f := 657) (b := b21) fe_Mo_55 rfl rfl t4 e22 d_Mo_markOf_16 ?_
        refine j_iload_n d_Mo_markOf_19 rfl ?_
        refine j_iald (n := n25) t23 x24 d_Mo_markOf_20 ?_
        refine j_aload_n d_Mo_markOf_21 rfl ?_
        obtain ⟨b26, e27, H⟩ := H
        refine j_getR (f := 655) (b := b26) fe_Mo_48 rfl rfl t4 e27 d_Mo_markOf_22 ?_
        refine j_iload_n d_Mo_markOf_25 rfl ?_
        obtain ⟨t28, H⟩ := H
        obtain ⟨n30, x29, H⟩ := H
        refine j_iald (n := n30) t28 x29 d_Mo_markOf_26 ?_
        refine j_isub d_Mo_markOf_27 ?_
        refine j_callS (d' := 1) (As := [.int ((-1 : Int32)), .int (((gA (sI G 640 a2 ((0 : Int32))) b21 n25) - (gA (sI G 640 a2 ((0 : Int32))) b26 n30)))]) (rest := []) cs_Mo_165 me_Mo_greater rfl (by decide) rfl rfl (Nat.le_of_ble_eq_true rfl) d_Mo_markOf_28 (by decide) rfl (j_enter (L := [some (.int ((-1 : Int32))), some (.int (((gA (sI G 640 a2 ((0 : Int32))) b21 n25) - (gA (sI G 640 a2 ((0 : Int32))) b26 n30))))]) me_Mo_greater (cat_c rfl (cat_c rfl cat_n)) (Nat.le_of_ble_eq_true rfl) rfl ?_)
        refine j_iload_n d_Mo_greater_0 rfl ?_
        refine j_iload_n d_Mo_greater_1 rfl ?_
        obtain ⟨Ha, Hb⟩ := H
        refine j_icmp_le (tgt := 9) d_Mo_greater_2 (by decide) (fun c47 => ?_) (fun c48 => ?_)
        · have H := Ha c47
          refine j_iload_n d_Mo_greater_9 rfl ?_
          refine j_iret rfl d_Mo_greater_10 ?_
          show J E 2 m_Mo_markOf 31 [some (.ref a2), some (.int ((gA G a0 n3)))] [.int (((gA (sI G 640 a2 ((0 : Int32))) b21 n25) - (gA (sI G 640 a2 ((0 : Int32))) b26 n30)))] (sI G 640 a2 ((0 : Int32))) (aft E 3 m_Mo_sourceWatermark 21 [some (.ref a2), some (.int ((gA G a0 n3)))] [] (aft E 14 m_La_law 811 [some (.ref a0), some (.ref a1), some (.ref a2), some (.ref a3), some (.int p4), some (.int s0), none] [] Post))
          refine j_iret rfl d_Mo_markOf_31 ?_
          show J E 3 m_Mo_sourceWatermark 24 [some (.ref a2), some (.int ((gA G a0 n3)))] [.int (((gA (sI G 640 a2 ((0 : Int32))) b21 n25) - (gA (sI G 640 a2 ((0 : Int32))) b26 n30)))] (sI G 640 a2 ((0 : Int32))) (aft E 14 m_La_law 811 [some (.ref a0), some (.ref a1), some (.ref a2), some (.ref a3), some (.int p4), some (.int s0), none] [] Post)
          refine j_goto (tgt := 28) d_Mo_sourceWatermark_24 (by decide) ?_
          refine j_iret rfl d_Mo_sourceWatermark_28 ?_
          show J E 14 m_La_law 814 [some (.ref a0), some (.ref a1), some (.ref a2), some (.ref a3), some (.int p4), some (.int s0), none] [.int (((gA (sI G 640 a2 ((0 : Int32))) b21 n25) - (gA (sI G 640 a2 ((0 : Int32))) b26 n30)))] (sI G 640 a2 ((0 : Int32))) Post
          refine j_istore (L' := [some (.ref a0), some (.ref a1), some (.ref a2), some (.ref a3), some (.int p4), some (.int s0), some (.int (((gA (sI G 640 a2 ((0 : Int32))) b21 n25) - (gA (sI G 640 a2 ((0 : Int32))) b26 n30))))]) d_La_law_814 (by decide) rfl ?_
          refine j_aload_n d_La_law_816 rfl ?_
          refine j_callV (d' := 1) (ci := 10) (As := []) (rest := []) (b := a2) cv_La_80 me_Mo_thrown rfl (by decide) rfl rfl t4 rfl rfl (Nat.le_of_ble_eq_true rfl) d_La_law_817 (by decide) rfl (j_enter (L := [some (.ref a2)]) me_Mo_thrown (cat_c rfl cat_n) (Nat.le_of_ble_eq_true rfl) rfl ?_)
          refine j_aload_n d_Mo_thrown_0 rfl ?_
          refine j_getIv (f := 640) (v := ((0 : Int32))) fe_Mo_139 rfl rfl t4 (show gI (sI G 640 a2 ((0 : Int32))) 640 a2 = _ from gI_sI_eq) d_Mo_thrown_1 ?_
          refine j_iret rfl d_Mo_thrown_4 ?_
          show J E 14 m_La_law 820 [some (.ref a0), some (.ref a1), some (.ref a2), some (.ref a3), some (.int p4), some (.int s0), some (.int (((gA (sI G 640 a2 ((0 : Int32))) b21 n25) - (gA (sI G 640 a2 ((0 : Int32))) b26 n30))))] [.int (((0 : Int32)))] (sI G 640 a2 ((0 : Int32))) Post
          refine j_iload d_La_law_820 rfl ?_
          obtain ⟨Ha, Hb⟩ := H
          refine j_icmp_eq (tgt := 827) d_La_law_822 (by decide) (fun c37 => ?_) (fun c38 => ?_)
          · have H := Ha c37
            refine j_iload d_La_law_827 rfl ?_
            obtain ⟨Ha, Hb⟩ := H
            refine j_if_ne (tgt := 844) d_La_law_829 (by decide) (fun c35 => ?_) (fun c36 => ?_)
            · have H := Ha c35
              refine j_goto (tgt := 1295) d_La_law_844 (by decide) ?_
              refine j_iinc (v := (p4 + (7 : Int32))) (L' := [some (.ref a0), some (.ref a1), some (.ref a2), some (.ref a3), some (.int ((p4 + (7 : Int32)))), some (.int s0), some (.int (((gA (sI G 640 a2 ((0 : Int32))) b21 n25) - (gA (sI G 640 a2 ((0 : Int32))) b26 n30))))]) d_La_law_1295 rfl (by rw [show Int32.ofInt (7) = (7 : Int32) by decide]) (by decide) rfl ?_
              refine j_goto (tgt := 23) d_La_law_1298 (by decide) ?_
              refine j_forget (L' := [some (.ref a0), some (.ref a1), some (.ref a2), some (.ref a3), some (.int ((p4 + (7 : Int32)))), none, none]) ⟨Or.inr rfl, Or.inr rfl, Or.inr rfl, Or.inr rfl, Or.inr rfl, Or.inl rfl, Or.inl rfl, trivial⟩ ?_
              exact H
            · have H := Hb c36
              refine j_aload_n d_La_law_832 rfl ?_
              refine j_iconst (v := 0) d_La_law_833 (by decide) ?_
              obtain ⟨t31, H⟩ := H
              obtain ⟨x32, H⟩ := H
              refine j_lald (n := 0) t31 x32 d_La_law_834 ?_
              refine j_iload d_La_law_835 rfl ?_
              refine j_i2l d_La_law_837 ?_
              refine j_lcmp d_La_law_838 ?_
              obtain ⟨Ha, Hb⟩ := H
              refine j_if_eq (tgt := 844) d_La_law_839 (by decide) (fun c33 => ?_) (fun c34 => ?_)
              · have H := Ha c33
                refine j_goto (tgt := 1295) d_La_law_844 (by decide) ?_
                refine j_iinc (v := (p4 + (7 : Int32))) (L' := [some (.ref a0), some (.ref a1), some (.ref a2), some (.ref a3), some (.int ((p4 + (7 : Int32)))), some (.int s0), some (.int (((gA (sI G 640 a2 ((0 : Int32))) b21 n25) - (gA (sI G 640 a2 ((0 : Int32))) b26 n30))))]) d_La_law_1295 rfl (by rw [show Int32.ofInt (7) = (7 : Int32) by decide]) (by decide) rfl ?_
                refine j_goto (tgt := 23) d_La_law_1298 (by decide) ?_
                refine j_forget (L' := [some (.ref a0), some (.ref a1), some (.ref a2), some (.ref a3), some (.int ((p4 + (7 : Int32)))), none, none]) ⟨Or.inr rfl, Or.inr rfl, Or.inr rfl, Or.inr rfl, Or.inr rfl, Or.inl rfl, Or.inl rfl, trivial⟩ ?_
                exact H
              · have H := Hb c34
                refine j_iconst (v := 0) d_La_law_842 (by decide) ?_
                exact j_zret rfl (by decide) d_La_law_843 H
          · have H := Hb c38
            refine j_iconst (v := 0) d_La_law_825 (by decide) ?_
            exact j_zret rfl (by decide) d_La_law_826 H
        · have H := Hb c48
          refine j_iload_n d_Mo_greater_5 rfl ?_
          refine j_goto (tgt := 10) d_Mo_greater_6 (by decide) ?_
          refine j_iret rfl d_Mo_greater_10 ?_
          show J E 2 m_Mo_markOf 31 [some (.ref a2), some (.int ((gA G a0 n3)))] [.int ((-1 : Int32))] (sI G 640 a2 ((0 : Int32))) (aft E 3 m_Mo_sourceWatermark 21 [some (.ref a2), some (.int ((gA G a0 n3)))] [] (aft E 14 m_La_law 811 [some (.ref a0), some (.ref a1), some (.ref a2), some (.ref a3), some (.int p4), some (.int s0), none] [] Post))
          refine j_iret rfl d_Mo_markOf_31 ?_
          show J E 3 m_Mo_sourceWatermark 24 [some (.ref a2), some (.int ((gA G a0 n3)))] [.int ((-1 : Int32))] (sI G 640 a2 ((0 : Int32))) (aft E 14 m_La_law 811 [some (.ref a0), some (.ref a1), some (.ref a2), some (.ref a3), some (.int p4), some (.int s0), none] [] Post)
          refine j_goto (tgt := 28) d_Mo_sourceWatermark_24 (by decide) ?_
          refine j_iret rfl d_Mo_sourceWatermark_28 ?_
          show J E 14 m_La_law 814 [some (.ref a0), some (.ref a1), some (.ref a2), some (.ref a3), some (.int p4), some (.int s0), none] [.int ((-1 : Int32))] (sI G 640 a2 ((0 : Int32))) Post
          refine j_istore (L' := [some (.ref a0), some (.ref a1), some (.ref a2), some (.ref a3), some (.int p4), some (.int s0), some (.int ((-1 : Int32)))]) d_La_law_814 (by decide) rfl ?_
          refine j_aload_n d_La_law_816 rfl ?_
          refine j_callV (d' := 1) (ci := 10) (As := []) (rest := []) (b := a2) cv_La_80 me_Mo_thrown rfl (by decide) rfl rfl t4 rfl rfl (Nat.le_of_ble_eq_true rfl) d_La_law_817 (by decide) rfl (j_enter (L := [some (.ref a2)]) me_Mo_thrown (cat_c rfl cat_n) (Nat.le_of_ble_eq_true rfl) rfl ?_)
          refine j_aload_n d_Mo_thrown_0 rfl ?_
          refine j_getIv (f := 640) (v := ((0 : Int32))) fe_Mo_139 rfl rfl t4 (show gI (sI G 640 a2 ((0 : Int32))) 640 a2 = _ from gI_sI_eq) d_Mo_thrown_1 ?_
          refine j_iret rfl d_Mo_thrown_4 ?_
          show J E 14 m_La_law 820 [some (.ref a0), some (.ref a1), some (.ref a2), some (.ref a3), some (.int p4), some (.int s0), some (.int ((-1 : Int32)))] [.int (((0 : Int32)))] (sI G 640 a2 ((0 : Int32))) Post
          refine j_iload d_La_law_820 rfl ?_
          obtain ⟨Ha, Hb⟩ := H
          refine j_icmp_eq (tgt := 827) d_La_law_822 (by decide) (fun c45 => ?_) (fun c46 => ?_)
          · have H := Ha c45
            refine j_iload d_La_law_827 rfl ?_
            obtain ⟨Ha, Hb⟩ := H
            refine j_if_ne (tgt := 844) d_La_law_829 (by decide) (fun c43 => ?_) (fun c44 => ?_)
            · have H := Ha c43
              refine j_goto (tgt := 1295) d_La_law_844 (by decide) ?_
              refine j_iinc (v := (p4 + (7 : Int32))) (L' := [some (.ref a0), some (.ref a1), some (.ref a2), some (.ref a3), some (.int ((p4 + (7 : Int32)))), some (.int s0), some (.int ((-1 : Int32)))]) d_La_law_1295 rfl (by rw [show Int32.ofInt (7) = (7 : Int32) by decide]) (by decide) rfl ?_
              refine j_goto (tgt := 23) d_La_law_1298 (by decide) ?_
              refine j_forget (L' := [some (.ref a0), some (.ref a1), some (.ref a2), some (.ref a3), some (.int ((p4 + (7 : Int32)))), none, none]) ⟨Or.inr rfl, Or.inr rfl, Or.inr rfl, Or.inr rfl, Or.inr rfl, Or.inl rfl, Or.inl rfl, trivial⟩ ?_
              exact H
            · have H := Hb c44
              refine j_aload_n d_La_law_832 rfl ?_
              refine j_iconst (v := 0) d_La_law_833 (by decide) ?_
              obtain ⟨t39, H⟩ := H
              obtain ⟨x40, H⟩ := H
              refine j_lald (n := 0) t39 x40 d_La_law_834 ?_
              refine j_iload d_La_law_835 rfl ?_
              refine j_i2l d_La_law_837 ?_
              refine j_lcmp d_La_law_838 ?_
              obtain ⟨Ha, Hb⟩ := H
              refine j_if_eq (tgt := 844) d_La_law_839 (by decide) (fun c41 => ?_) (fun c42 => ?_)
              · have H := Ha c41
                refine j_goto (tgt := 1295) d_La_law_844 (by decide) ?_
                refine j_iinc (v := (p4 + (7 : Int32))) (L' := [some (.ref a0), some (.ref a1), some (.ref a2), some (.ref a3), some (.int ((p4 + (7 : Int32)))), some (.int s0), some (.int ((-1 : Int32)))]) d_La_law_1295 rfl (by rw [show Int32.ofInt (7) = (7 : Int32) by decide]) (by decide) rfl ?_
                refine j_goto (tgt := 23) d_La_law_1298 (by decide) ?_
                refine j_forget (L' := [some (.ref a0), some (.ref a1), some (.ref a2), some (.ref a3), some (.int ((p4 + (7 : Int32)))), none, none]) ⟨Or.inr rfl, Or.inr rfl, Or.inr rfl, Or.inr rfl, Or.inr rfl, Or.inl rfl, Or.inl rfl, trivial⟩ ?_
                exact H
              · have H := Hb c42
                refine j_iconst (v := 0) d_La_law_842 (by decide) ?_
                exact j_zret rfl (by decide) d_La_law_843 H
          · have H := Hb c46
            refine j_iconst (v := 0) d_La_law_825 (by decide) ?_
            exact j_zret rfl (by decide) d_La_law_826 H
      · have H := Hb c58
        refine j_iconst (v := -1) d_Mo_markOf_10 (by decide) ?_
        refine j_goto (tgt := 31) d_Mo_markOf_11 (by decide) ?_
        refine j_iret rfl d_Mo_markOf_31 ?_
        show J E 3 m_Mo_sourceWatermark 24 [some (.ref a2), some (.int ((gA G a0 n3)))] [.int ((-1 : Int32))] (sI G 640 a2 ((0 : Int32))) (aft E 14 m_La_law 811 [some (.ref a0), some (.ref a1), some (.ref a2), some (.ref a3), some (.int p4), some (.int s0), none] [] Post)
        refine j_goto (tgt := 28) d_Mo_sourceWatermark_24 (by decide) ?_
        refine j_iret rfl d_Mo_sourceWatermark_28 ?_
        show J E 14 m_La_law 814 [some (.ref a0), some (.ref a1), some (.ref a2), some (.ref a3), some (.int p4), some (.int s0), none] [.int ((-1 : Int32))] (sI G 640 a2 ((0 : Int32))) Post
        refine j_istore (L' := [some (.ref a0), some (.ref a1), some (.ref a2), some (.ref a3), some (.int p4), some (.int s0), some (.int ((-1 : Int32)))]) d_La_law_814 (by decide) rfl ?_
        refine j_aload_n d_La_law_816 rfl ?_
        refine j_callV (d' := 1) (ci := 10) (As := []) (rest := []) (b := a2) cv_La_80 me_Mo_thrown rfl (by decide) rfl rfl t4 rfl rfl (Nat.le_of_ble_eq_true rfl) d_La_law_817 (by decide) rfl (j_enter (L := [some (.ref a2)]) me_Mo_thrown (cat_c rfl cat_n) (Nat.le_of_ble_eq_true rfl) rfl ?_)
        refine j_aload_n d_Mo_thrown_0 rfl ?_
        refine j_getIv (f := 640) (v := ((0 : Int32))) fe_Mo_139 rfl rfl t4 (show gI (sI G 640 a2 ((0 : Int32))) 640 a2 = _ from gI_sI_eq) d_Mo_thrown_1 ?_
        refine j_iret rfl d_Mo_thrown_4 ?_
        show J E 14 m_La_law 820 [some (.ref a0), some (.ref a1), some (.ref a2), some (.ref a3), some (.int p4), some (.int s0), some (.int ((-1 : Int32)))] [.int (((0 : Int32)))] (sI G 640 a2 ((0 : Int32))) Post
        refine j_iload d_La_law_820 rfl ?_
        obtain ⟨Ha, Hb⟩ := H
        refine j_icmp_eq (tgt := 827) d_La_law_822 (by decide) (fun c55 => ?_) (fun c56 => ?_)
        · have H := Ha c55
          refine j_iload d_La_law_827 rfl ?_
          obtain ⟨Ha, Hb⟩ := H
          refine j_if_ne (tgt := 844) d_La_law_829 (by decide) (fun c53 => ?_) (fun c54 => ?_)
          · have H := Ha c53
            refine j_goto (tgt := 1295) d_La_law_844 (by decide) ?_
            refine j_iinc (v := (p4 + (7 : Int32))) (L' := [some (.ref a0), some (.ref a1), some (.ref a2), some (.ref a3), some (.int ((p4 + (7 : Int32)))), some (.int s0), some (.int ((-1 : Int32)))]) d_La_law_1295 rfl (by rw [show Int32.ofInt (7) = (7 : Int32) by decide]) (by decide) rfl ?_
            refine j_goto (tgt := 23) d_La_law_1298 (by decide) ?_
            refine j_forget (L' := [some (.ref a0), some (.ref a1), some (.ref a2), some (.ref a3), some (.int ((p4 + (7 : Int32)))), none, none]) ⟨Or.inr rfl, Or.inr rfl, Or.inr rfl, Or.inr rfl, Or.inr rfl, Or.inl rfl, Or.inl rfl, trivial⟩ ?_
            exact H
          · have H := Hb c54
            refine j_aload_n d_La_law_832 rfl ?_
            refine j_iconst (v := 0) d_La_law_833 (by decide) ?_
            obtain ⟨t49, H⟩ := H
            obtain ⟨x50, H⟩ := H
            refine j_lald (n := 0) t49 x50 d_La_law_834 ?_
            refine j_iload d_La_law_835 rfl ?_
            refine j_i2l d_La_law_837 ?_
            refine j_lcmp d_La_law_838 ?_
            obtain ⟨Ha, Hb⟩ := H
            refine j_if_eq (tgt := 844) d_La_law_839 (by decide) (fun c51 => ?_) (fun c52 => ?_)
            · have H := Ha c51
              refine j_goto (tgt := 1295) d_La_law_844 (by decide) ?_
              refine j_iinc (v := (p4 + (7 : Int32))) (L' := [some (.ref a0), some (.ref a1), some (.ref a2), some (.ref a3), some (.int ((p4 + (7 : Int32)))), some (.int s0), some (.int ((-1 : Int32)))]) d_La_law_1295 rfl (by rw [show Int32.ofInt (7) = (7 : Int32) by decide]) (by decide) rfl ?_
              refine j_goto (tgt := 23) d_La_law_1298 (by decide) ?_
              refine j_forget (L' := [some (.ref a0), some (.ref a1), some (.ref a2), some (.ref a3), some (.int ((p4 + (7 : Int32)))), none, none]) ⟨Or.inr rfl, Or.inr rfl, Or.inr rfl, Or.inr rfl, Or.inr rfl, Or.inl rfl, Or.inl rfl, trivial⟩ ?_
              exact H
            · have H := Hb c52
              refine j_iconst (v := 0) d_La_law_842 (by decide) ?_
              exact j_zret rfl (by decide) d_La_law_843 H
        · have H := Hb c56
          refine j_iconst (v := 0) d_La_law_825 (by decide) ?_
          exact j_zret rfl (by decide) d_La_law_826 H
theorem wp_La_law_858 {E : EV} {G : GH} {Post : Res → GH → Prop} (a0 : Nat) (a1 : Nat) (a2 : Nat) (a3 : Nat) (p4 : Int32) (s0 : Int32) (H : (gT G a0 = 20 ∨ gT G a0 = 25) ∧ ∃ n3, IX ((p4 + (1 : Int32))) n3 (gN G a0) ∧ gT G a2 = 11 ∧ ((gA G a0 n3) < (0 : Int32) → (((1 : Int32)) = s0 → (¬ s0 = 0 → J E 14 m_La_law 23 [some (.ref a0), some (.ref a1), some (.ref a2), some (.ref a3), some (.int ((p4 + (7 : Int32)))), none, none] [] (sI G 640 a2 ((1 : Int32))) Post) ∧ (s0 = 0 → gT G a3 = 22 ∧ IX (0 : Int32) 0 (gN G a3) ∧ ((lg_cmp ((gL (sI G 640 a2 ((1 : Int32))) a3 0)) ((Int32.toInt64 ((0 : Int32))))) = 0 → J E 14 m_La_law 23 [some (.ref a0), some (.ref a1), some (.ref a2), some (.ref a3), some (.int ((p4 + (7 : Int32)))), none, none] [] (sI G 640 a2 ((1 : Int32))) Post) ∧ (¬ (lg_cmp ((gL (sI G 640 a2 ((1 : Int32))) a3 0)) ((Int32.toInt64 ((0 : Int32))))) = 0 → Post (.inl (some (.int ((0 : Int32))))) (sI G 640 a2 ((1 : Int32)))))) ∧ (¬ ((1 : Int32)) = s0 → Post (.inl (some (.int ((0 : Int32))))) (sI G 640 a2 ((1 : Int32))))) ∧ (¬ (gA G a0 n3) < (0 : Int32) → ((2 : Int32) < (gA G a0 n3) → (((1 : Int32)) = s0 → (¬ s0 = 0 → J E 14 m_La_law 23 [some (.ref a0), some (.ref a1), some (.ref a2), some (.ref a3), some (.int ((p4 + (7 : Int32)))), none, none] [] (sI G 640 a2 ((1 : Int32))) Post) ∧ (s0 = 0 → gT G a3 = 22 ∧ IX (0 : Int32) 0 (gN G a3) ∧ ((lg_cmp ((gL (sI G 640 a2 ((1 : Int32))) a3 0)) ((Int32.toInt64 ((0 : Int32))))) = 0 → J E 14 m_La_law 23 [some (.ref a0), some (.ref a1), some (.ref a2), some (.ref a3), some (.int ((p4 + (7 : Int32)))), none, none] [] (sI G 640 a2 ((1 : Int32))) Post) ∧ (¬ (lg_cmp ((gL (sI G 640 a2 ((1 : Int32))) a3 0)) ((Int32.toInt64 ((0 : Int32))))) = 0 → Post (.inl (some (.int ((0 : Int32))))) (sI G 640 a2 ((1 : Int32)))))) ∧ (¬ ((1 : Int32)) = s0 → Post (.inl (some (.int ((0 : Int32))))) (sI G 640 a2 ((1 : Int32))))) ∧ (¬ (2 : Int32) < (gA G a0 n3) → ∃ b21, gR G 653 a2 = some b21 ∧ (gT G b21 = 20 ∨ gT G b21 = 25) ∧ ∃ n25, IX ((gA G a0 n3)) n25 (gN G b21) ∧ (((0 : Int32)) = s0 → (¬ s0 = 0 → J E 14 m_La_law 23 [some (.ref a0), some (.ref a1), some (.ref a2), some (.ref a3), some (.int ((p4 + (7 : Int32)))), none, none] [] (sI G 640 a2 ((0 : Int32))) Post) ∧ (s0 = 0 → gT G a3 = 22 ∧ IX (0 : Int32) 0 (gN G a3) ∧ ((lg_cmp ((gL (sI G 640 a2 ((0 : Int32))) a3 0)) ((Int32.toInt64 ((gA (sI G 640 a2 ((0 : Int32))) b21 n25))))) = 0 → J E 14 m_La_law 23 [some (.ref a0), some (.ref a1), some (.ref a2), some (.ref a3), some (.int ((p4 + (7 : Int32)))), none, none] [] (sI G 640 a2 ((0 : Int32))) Post) ∧ (¬ (lg_cmp ((gL (sI G 640 a2 ((0 : Int32))) a3 0)) ((Int32.toInt64 ((gA (sI G 640 a2 ((0 : Int32))) b21 n25))))) = 0 → Post (.inl (some (.int ((0 : Int32))))) (sI G 640 a2 ((0 : Int32)))))) ∧ (¬ ((0 : Int32)) = s0 → Post (.inl (some (.int ((0 : Int32))))) (sI G 640 a2 ((0 : Int32))))))) : J E 14 m_La_law 858 [some (.ref a0), some (.ref a1), some (.ref a2), some (.ref a3), some (.int p4), none, none] [.int s0] G Post := by
  refine j_istore (L' := [some (.ref a0), some (.ref a1), some (.ref a2), some (.ref a3), some (.int p4), some (.int s0), none]) d_La_law_858 (by decide) rfl ?_
  refine j_aload_n d_La_law_860 rfl ?_
  refine j_aload_n d_La_law_861 rfl ?_
  refine j_iload d_La_law_862 rfl ?_
  refine j_iconst (v := 1) d_La_law_864 (by decide) ?_
  refine j_iadd d_La_law_865 ?_
  obtain ⟨t1, H⟩ := H
  obtain ⟨n3, x2, H⟩ := H
  refine j_iald (n := n3) t1 x2 d_La_law_866 ?_
  obtain ⟨t4, H⟩ := H
  refine j_callV (d' := 3) (ci := 10) (As := [.int ((gA G a0 n3))]) (rest := []) (b := a2) cv_La_125 me_Mo_offset rfl (by decide) rfl rfl t4 rfl rfl (Nat.le_of_ble_eq_true rfl) d_La_law_867 (by decide) rfl (j_enter (L := [some (.ref a2), some (.int ((gA G a0 n3)))]) me_Mo_offset (cat_c rfl (cat_c rfl cat_n)) (Nat.le_of_ble_eq_true rfl) rfl ?_)
  refine j_aload_n d_Mo_offset_0 rfl ?_
  refine j_iload_n d_Mo_offset_1 rfl ?_
  refine j_callS (d' := 2) (As := [.int ((gA G a0 n3))]) (rest := [.ref a2]) cs_Mo_156 me_Mo_isSource rfl (by decide) rfl rfl (Nat.le_of_ble_eq_true rfl) d_Mo_offset_2 (by decide) rfl (j_enter (L := [some (.int ((gA G a0 n3)))]) me_Mo_isSource (cat_c rfl cat_n) (Nat.le_of_ble_eq_true rfl) rfl ?_)
  refine j_iload_n d_Mo_isSource_0 rfl ?_
  refine j_iconst (v := 0) d_Mo_isSource_1 (by decide) ?_
  refine j_iconst (v := 2) d_Mo_isSource_2 (by decide) ?_
  refine j_callS (d' := 1) (As := [.int ((gA G a0 n3)), .int ((0 : Int32)), .int ((2 : Int32))]) (rest := []) cs_Mo_142 me_Mo_isIn rfl (by decide) rfl rfl (Nat.le_of_ble_eq_true rfl) d_Mo_isSource_3 (by decide) rfl (j_enter (L := [some (.int ((gA G a0 n3))), some (.int ((0 : Int32))), some (.int ((2 : Int32)))]) me_Mo_isIn (cat_c rfl (cat_c rfl (cat_c rfl cat_n))) (Nat.le_of_ble_eq_true rfl) rfl ?_)
  refine j_iload_n d_Mo_isIn_0 rfl ?_
  refine j_iload_n d_Mo_isIn_1 rfl ?_
  obtain ⟨Ha, Hb⟩ := H
  refine j_icmp_lt (tgt := 14) d_Mo_isIn_2 (by decide) (fun c36 => ?_) (fun c37 => ?_)
  · have H := Ha c36
    refine j_iconst (v := 0) d_Mo_isIn_14 (by decide) ?_
    refine j_zret rfl (by decide) d_Mo_isIn_15 ?_
    show J E 2 m_Mo_isSource 6 [some (.int ((gA G a0 n3)))] [.int ((0 : Int32))] G (aft E 3 m_Mo_offset 2 [some (.ref a2), some (.int ((gA G a0 n3)))] [.ref a2] (aft E 14 m_La_law 867 [some (.ref a0), some (.ref a1), some (.ref a2), some (.ref a3), some (.int p4), some (.int s0), none] [] Post))
    refine j_zret rfl (by decide) d_Mo_isSource_6 ?_
    show J E 3 m_Mo_offset 5 [some (.ref a2), some (.int ((gA G a0 n3)))] [.int ((0 : Int32)), .ref a2] G (aft E 14 m_La_law 867 [some (.ref a0), some (.ref a1), some (.ref a2), some (.ref a3), some (.int p4), some (.int s0), none] [] Post)
    refine j_if_eq (tgt := 12) d_Mo_offset_5 (by decide) (fun _ => ?_) (fun c => absurd c (by decide))
    refine j_iconst (v := 1) d_Mo_offset_12 (by decide) ?_
    refine j_callV (d' := 1) (ci := 10) (As := [.int ((1 : Int32))]) (rest := []) (b := a2) cv_Mo_149 me_Mo_isFine rfl (by decide) rfl rfl t4 rfl rfl (Nat.le_of_ble_eq_true rfl) d_Mo_offset_13 (by decide) rfl (j_enter (L := [some (.ref a2), some (.int ((1 : Int32)))]) me_Mo_isFine (cat_c rfl (cat_c rfl cat_n)) (Nat.le_of_ble_eq_true rfl) rfl ?_)
    refine j_aload_n d_Mo_isFine_0 rfl ?_
    refine j_iload_n d_Mo_isFine_1 rfl ?_
    refine j_putI (f := 640) fw_Mo_139 rfl rfl t4 d_Mo_isFine_2 ?_
    refine j_iload_n d_Mo_isFine_5 rfl ?_
    refine j_if_ne (tgt := 13) d_Mo_isFine_6 (by decide) (fun _ => ?_) (fun c => absurd c (by decide))
    refine j_iconst (v := 0) d_Mo_isFine_13 (by decide) ?_
    refine j_zret rfl (by decide) d_Mo_isFine_14 ?_
    show J E 3 m_Mo_offset 16 [some (.ref a2), some (.int ((gA G a0 n3)))] [.int ((0 : Int32))] (sI G 640 a2 ((1 : Int32))) (aft E 14 m_La_law 867 [some (.ref a0), some (.ref a1), some (.ref a2), some (.ref a3), some (.int p4), some (.int s0), none] [] Post)
    refine j_if_eq (tgt := 28) d_Mo_offset_16 (by decide) (fun _ => ?_) (fun c => absurd c (by decide))
    refine j_iconst (v := 0) d_Mo_offset_28 (by decide) ?_
    refine j_iret rfl d_Mo_offset_29 ?_
    show J E 14 m_La_law 870 [some (.ref a0), some (.ref a1), some (.ref a2), some (.ref a3), some (.int p4), some (.int s0), none] [.int ((0 : Int32))] (sI G 640 a2 ((1 : Int32))) Post
    refine j_istore (L' := [some (.ref a0), some (.ref a1), some (.ref a2), some (.ref a3), some (.int p4), some (.int s0), some (.int ((0 : Int32)))]) d_La_law_870 (by decide) rfl ?_
    refine j_aload_n d_La_law_872 rfl ?_
    refine j_callV (d' := 1) (ci := 10) (As := []) (rest := []) (b := a2) cv_La_80 me_Mo_thrown rfl (by decide) rfl rfl t4 rfl rfl (Nat.le_of_ble_eq_true rfl) d_La_law_873 (by decide) rfl (j_enter (L := [some (.ref a2)]) me_Mo_thrown (cat_c rfl cat_n) (Nat.le_of_ble_eq_true rfl) rfl ?_)
    refine j_aload_n d_Mo_thrown_0 rfl ?_
    refine j_getIv (f := 640) (v := ((1 : Int32))) fe_Mo_139 rfl rfl t4 (show gI (sI G 640 a2 ((1 : Int32))) 640 a2 = _ from gI_sI_eq) d_Mo_thrown_1 ?_
    refine j_iret rfl d_Mo_thrown_4 ?_
    show J E 14 m_La_law 876 [some (.ref a0), some (.ref a1), some (.ref a2), some (.ref a3), some (.int p4), some (.int s0), some (.int ((0 : Int32)))] [.int (((1 : Int32)))] (sI G 640 a2 ((1 : Int32))) Post
    refine j_iload d_La_law_876 rfl ?_
    obtain ⟨Ha, Hb⟩ := H
    refine j_icmp_eq (tgt := 883) d_La_law_878 (by decide) (fun c11 => ?_) (fun c12 => ?_)
    · have H := Ha c11
      refine j_iload d_La_law_883 rfl ?_
      obtain ⟨Ha, Hb⟩ := H
      refine j_if_ne (tgt := 900) d_La_law_885 (by decide) (fun c9 => ?_) (fun c10 => ?_)
      · have H := Ha c9
        refine j_goto (tgt := 1295) d_La_law_900 (by decide) ?_
        refine j_iinc (v := (p4 + (7 : Int32))) (L' := [some (.ref a0), some (.ref a1), some (.ref a2), some (.ref a3), some (.int ((p4 + (7 : Int32)))), some (.int s0), some (.int ((0 : Int32)))]) d_La_law_1295 rfl (by rw [show Int32.ofInt (7) = (7 : Int32) by decide]) (by decide) rfl ?_
        refine j_goto (tgt := 23) d_La_law_1298 (by decide) ?_
        refine j_forget (L' := [some (.ref a0), some (.ref a1), some (.ref a2), some (.ref a3), some (.int ((p4 + (7 : Int32)))), none, none]) ⟨Or.inr rfl, Or.inr rfl, Or.inr rfl, Or.inr rfl, Or.inr rfl, Or.inl rfl, Or.inl rfl, trivial⟩ ?_
        exact H
      · have H := Hb c10
        refine j_aload_n d_La_law_888 rfl ?_
        refine j_iconst (v := 0) d_La_law_889 (by decide) ?_
        obtain ⟨t5, H⟩ := H
        obtain ⟨x6, H⟩ := H
        refine j_lald (n := 0) t5 x6 d_La_law_890 ?_
        refine j_iload d_La_law_891 rfl ?_
        refine j_i2l d_La_law_893 ?_
        refine j_lcmp d_La_law_894 ?_
        obtain ⟨Ha, Hb⟩ := H
        refine j_if_eq (tgt := 900) d_La_law_895 (by decide) (fun c7 => ?_) (fun c8 => ?_)
        · have H := Ha c7
          refine j_goto (tgt := 1295) d_La_law_900 (by decide) ?_
          refine j_iinc (v := (p4 + (7 : Int32))) (L' := [some (.ref a0), some (.ref a1), some (.ref a2), some (.ref a3), some (.int ((p4 + (7 : Int32)))), some (.int s0), some (.int ((0 : Int32)))]) d_La_law_1295 rfl (by rw [show Int32.ofInt (7) = (7 : Int32) by decide]) (by decide) rfl ?_
          refine j_goto (tgt := 23) d_La_law_1298 (by decide) ?_
          refine j_forget (L' := [some (.ref a0), some (.ref a1), some (.ref a2), some (.ref a3), some (.int ((p4 + (7 : Int32)))), none, none]) ⟨Or.inr rfl, Or.inr rfl, Or.inr rfl, Or.inr rfl, Or.inr rfl, Or.inl rfl, Or.inl rfl, trivial⟩ ?_
          exact H
        · have H := Hb c8
          refine j_iconst (v := 0) d_La_law_898 (by decide) ?_
          exact j_zret rfl (by decide) d_La_law_899 H
    · have H := Hb c12
      refine j_iconst (v := 0) d_La_law_881 (by decide) ?_
      exact j_zret rfl (by decide) d_La_law_882 H
  · have H := Hb c37
    refine j_iload_n d_Mo_isIn_5 rfl ?_
    refine j_iload_n d_Mo_isIn_6 rfl ?_
    obtain ⟨Ha, Hb⟩ := H
    refine j_icmp_gt (tgt := 14) d_Mo_isIn_7 (by decide) (fun c34 => ?_) (fun c35 => ?_)
    · have H := Ha c34
      refine j_iconst (v := 0) d_Mo_isIn_14 (by decide) ?_
      refine j_zret rfl (by decide) d_Mo_isIn_15 ?_
      show J E 2 m_Mo_isSource 6 [some (.int ((gA G a0 n3)))] [.int ((0 : Int32))] G (aft E 3 m_Mo_offset 2 [some (.ref a2), some (.int ((gA G a0 n3)))] [.ref a2] (aft E 14 m_La_law 867 [some (.ref a0), some (.ref a1), some (.ref a2), some (.ref a3), some (.int p4), some (.int s0), none] [] Post))
      refine j_zret rfl (by decide) d_Mo_isSource_6 ?_
      show J E 3 m_Mo_offset 5 [some (.ref a2), some (.int ((gA G a0 n3)))] [.int ((0 : Int32)), .ref a2] G (aft E 14 m_La_law 867 [some (.ref a0), some (.ref a1), some (.ref a2), some (.ref a3), some (.int p4), some (.int s0), none] [] Post)
      refine j_if_eq (tgt := 12) d_Mo_offset_5 (by decide) (fun _ => ?_) (fun c => absurd c (by decide))
      refine j_iconst (v := 1) d_Mo_offset_12 (by decide) ?_
      refine j_callV (d' := 1) (ci := 10) (As := [.int ((1 : Int32))]) (rest := []) (b := a2) cv_Mo_149 me_Mo_isFine rfl (by decide) rfl rfl t4 rfl rfl (Nat.le_of_ble_eq_true rfl) d_Mo_offset_13 (by decide) rfl (j_enter (L := [some (.ref a2), some (.int ((1 : Int32)))]) me_Mo_isFine (cat_c rfl (cat_c rfl cat_n)) (Nat.le_of_ble_eq_true rfl) rfl ?_)
      refine j_aload_n d_Mo_isFine_0 rfl ?_
      refine j_iload_n d_Mo_isFine_1 rfl ?_
      refine j_putI (f := 640) fw_Mo_139 rfl rfl t4 d_Mo_isFine_2 ?_
      refine j_iload_n d_Mo_isFine_5 rfl ?_
      refine j_if_ne (tgt := 13) d_Mo_isFine_6 (by decide) (fun _ => ?_) (fun c => absurd c (by decide))
      refine j_iconst (v := 0) d_Mo_isFine_13 (by decide) ?_
      refine j_zret rfl (by decide) d_Mo_isFine_14 ?_
      show J E 3 m_Mo_offset 16 [some (.ref a2), some (.int ((gA G a0 n3)))] [.int ((0 : Int32))] (sI G 640 a2 ((1 : Int32))) (aft E 14 m_La_law 867 [some (.ref a0), some (.ref a1), some (.ref a2), some (.ref a3), some (.int p4), some (.int s0), none] [] Post)
      refine j_if_eq (tgt := 28) d_Mo_offset_16 (by decide) (fun _ => ?_) (fun c => absurd c (by decide))
      refine j_iconst (v := 0) d_Mo_offset_28 (by decide) ?_
      refine j_iret rfl d_Mo_offset_29 ?_
      show J E 14 m_La_law 870 [some (.ref a0), some (.ref a1), some (.ref a2), some (.ref a3), some (.int p4), some (.int s0), none] [.int ((0 : Int32))] (sI G 640 a2 ((1 : Int32))) Post
      refine j_istore (L' := [some (.ref a0), some (.ref a1), some (.ref a2), some (.ref a3), some (.int p4), some (.int s0), some (.int ((0 : Int32)))]) d_La_law_870 (by decide) rfl ?_
      refine j_aload_n d_La_law_872 rfl ?_
      refine j_callV (d' := 1) (ci := 10) (As := []) (rest := []) (b := a2) cv_La_80 me_Mo_thrown rfl (by decide) rfl rfl t4 rfl rfl (Nat.le_of_ble_eq_true rfl) d_La_law_873 (by decide) rfl (j_enter (L := [some (.ref a2)]) me_Mo_thrown (cat_c rfl cat_n) (Nat.le_of_ble_eq_true rfl) rfl ?_)
      refine j_aload_n d_Mo_thrown_0 rfl ?_
      refine j_getIv (f := 640) (v := ((1 : Int32))) fe_Mo_139 rfl rfl t4 (show gI (sI G 640 a2 ((1 : Int32))) 640 a2 = _ from gI_sI_eq) d_Mo_thrown_1 ?_
      refine j_iret rfl d_Mo_thrown_4 ?_
      show J E 14 m_La_law 876 [some (.ref a0), some (.ref a1), some (.ref a2), some (.ref a3), some (.int p4), some (.int s0), some (.int ((0 : Int32)))] [.int (((1 : Int32)))] (sI G 640 a2 ((1 : Int32))) Post
      refine j_iload d_La_law_876 rfl ?_
      obtain ⟨Ha, Hb⟩ := H
      refine j_icmp_eq (tgt := 883) d_La_law_878 (by decide) (fun c19 => ?_) (fun c20 => ?_)
      · have H := Ha c19
        refine j_iload d_La_law_883 rfl ?_
        obtain ⟨Ha, Hb⟩ := H
        refine j_if_ne (tgt := 900) d_La_law_885 (by decide) (fun c17 => ?_) (fun c18 => ?_)
        · have H := Ha c17
          refine j_goto (tgt := 1295) d_La_law_900 (by decide) ?_
          refine j_iinc (v := (p4 + (7 : Int32))) (L' := [some (.ref a0), some (.ref a1), some (.ref a2), some (.ref a3), some (.int ((p4 + (7 : Int32)))), some (.int s0), some (.int ((0 : Int32)))]) d_La_law_1295 rfl (by rw [show Int32.ofInt (7) = (7 : Int32) by decide]) (by decide) rfl ?_
          refine j_goto (tgt := 23) d_La_law_1298 (by decide) ?_
          refine j_forget (L' := [some (.ref a0), some (.ref a1), some (.ref a2), some (.ref a3), some (.int ((p4 + (7 : Int32)))), none, none]) ⟨Or.inr rfl, Or.inr rfl, Or.inr rfl, Or.inr rfl, Or.inr rfl, Or.inl rfl, Or.inl rfl, trivial⟩ ?_
          exact H
        · have H := Hb c18
          refine j_aload_n d_La_law_888 rfl ?_
          refine j_iconst (v := 0) d_La_law_889 (by decide) ?_
          obtain ⟨t13, H⟩ := H
          obtain ⟨x14, H⟩ := H
          refine j_lald (n := 0) t13 x14 d_La_law_890 ?_
          refine j_iload d_La_law_891 rfl ?_
          refine j_i2l d_La_law_893 ?_
          refine j_lcmp d_La_law_894 ?_
          obtain ⟨Ha, Hb⟩ := H
          refine j_if_eq (tgt := 900) d_La_law_895 (by decide) (fun c15 => ?_) (fun c16 => ?_)
          · have H := Ha c15
            refine j_goto (tgt := 1295) d_La_law_900 (by decide) ?_
            refine j_iinc (v := (p4 + (7 : Int32))) (L' := [some (.ref a0), some (.ref a1), some (.ref a2), some (.ref a3), some (.int ((p4 + (7 : Int32)))), some (.int s0), some (.int ((0 : Int32)))]) d_La_law_1295 rfl (by rw [show Int32.ofInt (7) = (7 : Int32) by decide]) (by decide) rfl ?_
            refine j_goto (tgt := 23) d_La_law_1298 (by decide) ?_
            refine j_forget (L' := [some (.ref a0), some (.ref a1), some (.ref a2), some (.ref a3), some (.int ((p4 + (7 : Int32)))), none, none]) ⟨Or.inr rfl, Or.inr rfl, Or.inr rfl, Or.inr rfl, Or.inr rfl, Or.inl rfl, Or.inl rfl, trivial⟩ ?_
            exact H
          · have H := Hb c16
            refine j_iconst (v := 0) d_La_law_898 (by decide) ?_
            exact j_zret rfl (by decide) d_La_law_899 H
      · have H := Hb c20
        refine j_iconst (v := 0) d_La_law_881 (by decide) ?_
        exact j_zret rfl (by decide) d_La_law_882 H
    · have H := Hb c35
      refine j_iconst (v := 1) d_Mo_isIn_10 (by decide) ?_
      refine j_goto (tgt := 15) d_Mo_isIn_11 (by decide) ?_
      refine j_zret rfl (by decide) d_Mo_isIn_15 ?_
      show J E 2 m_Mo_isSource 6 [some (.int ((gA G a0 n3)))] [.int ((1 : Int32))] G (aft E 3 m_Mo_offset 2 [some (.ref a2), some (.int ((gA G a0 n3)))] [.ref a2] (aft E 14 m_La_law 867 [some (.ref a0), some (.ref a1), some (.ref a2), some (.ref a3), some (.int p4), some (.int s0), none] [] Post))
      refine j_zret rfl (by decide) d_Mo_isSource_6 ?_
      show J E 3 m_Mo_offset 5 [some (.ref a2), some (.int ((gA G a0 n3)))] [.int ((1 : Int32)), .ref a2] G (aft E 14 m_La_law 867 [some (.ref a0), some (.ref a1), some (.ref a2), some (.ref a3), some (.int p4), some (.int s0), none] [] Post)
      refine j_if_eq (tgt := 12) d_Mo_offset_5 (by decide) (fun c => absurd c (by decide)) (fun _ => ?_)
      refine j_iconst (v := 0) d_Mo_offset_8 (by decide) ?_
      refine j_goto (tgt := 13) d_Mo_offset_9 (by decide) ?_
      refine j_callV (d' := 1) (ci := 10) (As := [.int ((0 : Int32))]) (rest := []) (b := a2) cv_Mo_149 me_Mo_isFine rfl (by decide) rfl rfl t4 rfl rfl (Nat.le_of_ble_eq_true rfl) d_Mo_offset_13 (by decide) rfl (j_enter (L := [some (.ref a2), some (.int ((0 : Int32)))]) me_Mo_isFine (cat_c rfl (cat_c rfl cat_n)) (Nat.le_of_ble_eq_true rfl) rfl ?_)
      refine j_aload_n d_Mo_isFine_0 rfl ?_
      refine j_iload_n d_Mo_isFine_1 rfl ?_
      refine j_putI (f := 640) fw_Mo_139 rfl rfl t4 d_Mo_isFine_2 ?_
      refine j_iload_n d_Mo_isFine_5 rfl ?_
      refine j_if_ne (tgt := 13) d_Mo_isFine_6 (by decide) (fun c => absurd c (by decide)) (fun _ => ?_)
      refine j_iconst (v := 1) d_Mo_isFine_9 (by decide) ?_
      refine j_goto (tgt := 14) d_Mo_isFine_10 (by decide) ?_
      refine j_zret rfl (by decide) d_Mo_isFine_14 ?_
      show J E 3 m_Mo_offset 16 [some (.ref a2), some (.int ((gA G a0 n3)))] [.int ((1 : Int32))] (sI G 640 a2 ((0 : Int32))) (aft E 14 m_La_law 867 [some (.ref a0), some (.ref a1), some (.ref a2), some (.ref a3), some (.int p4), some (.int s0), none] [] Post)
      refine j_if_eq (tgt := 28) d_Mo_offset_16 (by decide) (fun c => absurd c (by decide)) (fun _ => ?_)
      refine j_aload_n d_Mo_offset_19 rfl ?_
      obtain ⟨b21, e22, H⟩ := H
      refine j_getR (f := 653) (b := b21) fe_Mo_42 rfl rfl t4 e22 d_Mo_offset_20 ?_
      refine j_iload_n d_Mo_offset_23 rfl ?_
      obtain ⟨t23, H⟩ := H
      obtain ⟨n25, x24, H⟩ := H
      refine j_iald (n := n25) t23 x24 d_Mo_offset_24 ?_
      refine j_goto (tgt := 29) d_Mo_offset_25 (by decide) ?_
      refine j_iret rfl d_Mo_offset_29 ?_
      show J E 14 m_La_law 870 [some (.ref a0), some (.ref a1), some (.ref a2), some (.ref a3), some (.int p4), some (.int s0), none] [.int ((gA (sI G 640 a2 ((0 : Int32))) b21 n25))] (sI G 640 a2 ((0 : Int32))) Post
      refine j_istore (L' := [some (.ref a0), some (.ref a1), some (.ref a2), some (.ref a3), some (.int p4), some (.int s0), some (.int ((gA (sI G 640 a2 ((0 : Int32))) b21 n25)))]) d_La_law_870 (by decide) rfl ?_
      refine j_aload_n d_La_law_872 rfl ?_
      refine j_callV (d' := 1) (ci := 10) (As := []) (rest := []) (b := a2) cv_La_80 me_Mo_thrown rfl (by decide) rfl rfl t4 rfl rfl (Nat.le_of_ble_eq_true rfl) d_La_law_873 (by decide) rfl (j_enter (L := [some (.ref a2)]) me_Mo_thrown (cat_c rfl cat_n) (Nat.le_of_ble_eq_true rfl) rfl ?_)
      refine j_aload_n d_Mo_thrown_0 rfl ?_
      refine j_getIv (f := 640) (v := ((0 : Int32))) fe_Mo_139 rfl rfl t4 (show gI (sI G 640 a2 ((0 : Int32))) 640 a2 = _ from gI_sI_eq) d_Mo_thrown_1 ?_
      refine j_iret rfl d_Mo_thrown_4 ?_
      show J E 14 m_La_law 876 [some (.ref a0), some (.ref a1), some (.ref a2), some (.ref a3), some (.int p4), some (.int s0), some (.int ((gA (sI G 640 a2 ((0 : Int32))) b21 n25)))] [.int (((0 : Int32)))] (sI G 640 a2 ((0 : Int32))) Post
      refine j_iload d_La_law_876 rfl ?_
      obtain ⟨Ha, Hb⟩ := H
      refine j_icmp_eq (tgt := 883) d_La_law_878 (by decide) (fun c32 => ?_) (fun c33 => ?_)
      · have H := Ha c32
        refine j_iload d_La_law_883 rfl ?_
        obtain ⟨Ha, Hb⟩ := H
        refine j_if_ne (tgt := 900) d_La_law_885 (by decide) (fun c30 => ?_) (fun c31 => ?_)
        · have H := Ha c30
          refine j_goto (tgt := 1295) d_La_law_900 (by decide) ?_
          refine j_iinc (v := (p4 + (7 : Int32))) (L' := [some (.ref a0), some (.ref a1), some (.ref a2), some (.ref a3), some (.int ((p4 + (7 : Int32)))), some (.int s0), some (.int ((gA (sI G 640 a2 ((0 : Int32))) b21 n25)))]) d_La_law_1295 rfl (by rw [show Int32.ofInt (7) = (7 : Int32) by decide]) (by decide) rfl ?_
          refine j_goto (tgt := 23) d_La_law_1298 (by decide) ?_
          refine j_forget (L' := [some (.ref a0), some (.ref a1), some (.ref a2), some (.ref a3), some (.int ((p4 + (7 : Int32)))), none, none]) ⟨Or.inr rfl, Or.inr rfl, Or.inr rfl, Or.inr rfl, Or.inr rfl, Or.inl rfl, Or.inl rfl, trivial⟩ ?_
          exact H
        · have H := Hb c31
          refine j_aload_n d_La_law_888 rfl ?_
          refine j_iconst (v := 0) d_La_law_889 (by decide) ?_
          obtain ⟨t26, H⟩ := H
          obtain ⟨x27, H⟩ := H
          refine j_lald (n := 0) t26 x27 d_La_law_890 ?_
          refine j_iload d_La_law_891 rfl ?_
          refine j_i2l d_La_law_893 ?_
          refine j_lcmp d_La_law_894 ?_
          obtain ⟨Ha, Hb⟩ := H
          refine j_if_eq (tgt := 900) d_La_law_895 (by decide) (fun c28 => ?_) (fun c29 => ?_)
          · have H := Ha c28
            refine j_goto (tgt := 1295) d_La_law_900 (by decide) ?_
            refine j_iinc (v := (p4 + (7 : Int32))) (L' := [some (.ref a0), some (.ref a1), some (.ref a2), some (.ref a3), some (.int ((p4 + (7 : Int32)))), some (.int s0), some (.int ((gA (sI G 640 a2 ((0 : Int32))) b21 n25)))]) d_La_law_1295 rfl (by rw [show Int32.ofInt (7) = (7 : Int32) by decide]) (by decide) rfl ?_
            refine j_goto (tgt := 23) d_La_law_1298 (by decide) ?_
            refine j_forget (L' := [some (.ref a0), some (.ref a1), some (.ref a2), some (.ref a3), some (.int ((p4 + (7 : Int32)))), none, none]) ⟨Or.inr rfl, Or.inr rfl, Or.inr rfl, Or.inr rfl, Or.inr rfl, Or.inl rfl, Or.inl rfl, trivial⟩ ?_
            exact H
          · have H := Hb c29
            refine j_iconst (v := 0) d_La_law_898 (by decide) ?_
            exact j_zret rfl (by decide) d_La_law_899 H
      · have H := Hb c33
        refine j_iconst (v := 0) d_La_law_881 (by decide) ?_
        exact j_zret rfl (by decide) d_La_law_882 H
theorem wp_La_law_914 {E : EV} {G : GH} {Post : Res → GH → Prop} (a0 : Nat) (a1 : Nat) (a2 : Nat) (a3 : Nat) (p4 : Int32) (s0 : Int32) (H : (gT G a0 = 20 ∨ gT G a0 = 25) ∧ ∃ n3, IX ((p4 + (1 : Int32))) n3 (gN G a0) ∧ gT G a2 = 11 ∧ ((gA G a0 n3) < (0 : Int32) → (((1 : Int32)) = s0 → (¬ s0 = 0 → J E 14 m_La_law 23 [some (.ref a0), some (.ref a1), some (.ref a2), some (.ref a3), some (.int ((p4 + (7 : Int32)))), none, none] [] (sI G 640 a2 ((1 : Int32))) Post) ∧ (s0 = 0 → gT G a3 = 22 ∧ IX (0 : Int32) 0 (gN G a3) ∧ ((lg_cmp ((gL (sI G 640 a2 ((1 : Int32))) a3 0)) ((Int32.toInt64 ((0 : Int32))))) = 0 → J E 14 m_La_law 23 [some (.ref a0), some (.ref a1), some (.ref a2), some (.ref a3), some (.int ((p4 + (7 : Int32)))), none, none] [] (sI G 640 a2 ((1 : Int32))) Post) ∧ (¬ (lg_cmp ((gL (sI G 640 a2 ((1 : Int32))) a3 0)) ((Int32.toInt64 ((0 : Int32))))) = 0 → Post (.inl (some (.int ((0 : Int32))))) (sI G 640 a2 ((1 : Int32)))))) ∧ (¬ ((1 : Int32)) = s0 → Post (.inl (some (.int ((0 : Int32))))) (sI G 640 a2 ((1 : Int32))))) ∧ (¬ (gA G a0 n3) < (0 : Int32) → ((2 : Int32) < (gA G a0 n3) → (((1 : Int32)) = s0 → (¬ s0 = 0 → J E 14 m_La_law 23 [some (.ref a0), some (.ref a1), some (.ref a2), some (.ref a3), some (.int ((p4 + (7 : Int32)))), none, none] [] (sI G 640 a2 ((1 : Int32))) Post) ∧ (s0 = 0 → gT G a3 = 22 ∧ IX (0 : Int32) 0 (gN G a3) ∧ ((lg_cmp ((gL (sI G 640 a2 ((1 : Int32))) a3 0)) ((Int32.toInt64 ((0 : Int32))))) = 0 → J E 14 m_La_law 23 [some (.ref a0), some (.ref a1), some (.ref a2), some (.ref a3), some (.int ((p4 + (7 : Int32)))), none, none] [] (sI G 640 a2 ((1 : Int32))) Post) ∧ (¬ (lg_cmp ((gL (sI G 640 a2 ((1 : Int32))) a3 0)) ((Int32.toInt64 ((0 : Int32))))) = 0 → Post (.inl (some (.int ((0 : Int32))))) (sI G 640 a2 ((1 : Int32)))))) ∧ (¬ ((1 : Int32)) = s0 → Post (.inl (some (.int ((0 : Int32))))) (sI G 640 a2 ((1 : Int32))))) ∧ (¬ (2 : Int32) < (gA G a0 n3) → ∃ b21, gR G 653 a2 = some b21 ∧ (gT G b21 = 20 ∨ gT G b21 = 25) ∧ ∃ n25, IX ((gA G a0 n3)) n25 (gN G b21) ∧ ∃ b26, gR G 654 a2 = some b26 ∧ (gT G b26 = 20 ∨ gT G b26 = 25) ∧ ∃ n30, IX ((gA G a0 n3)) n30 (gN G b26) ∧ (((0 : Int32)) = s0 → (¬ s0 = 0 → J E 14 m_La_law 23 [some (.ref a0), some (.ref a1), some (.ref a2), some (.ref a3), some (.int ((p4 + (7 : Int32)))), none, none] [] (sI G 640 a2 ((0 : Int32))) Post) ∧ (s0 = 0 → gT G a3 = 22 ∧ IX (0 : Int32) 0 (gN G a3) ∧ ((lg_cmp ((gL (sI G 640 a2 ((0 : Int32))) a3 0)) ((Int32.toInt64 (((gA (sI G 640 a2 ((0 : Int32))) b21 n25) - (gA (sI G 640 a2 ((0 : Int32))) b26 n30)))))) = 0 → J E 14 m_La_law 23 [some (.ref a0), some (.ref a1), some (.ref a2), some (.ref a3), some (.int ((p4 + (7 : Int32)))), none, none] [] (sI G 640 a2 ((0 : Int32))) Post) ∧ (¬ (lg_cmp ((gL (sI G 640 a2 ((0 : Int32))) a3 0)) ((Int32.toInt64 (((gA (sI G 640 a2 ((0 : Int32))) b21 n25) - (gA (sI G 640 a2 ((0 : Int32))) b26 n30)))))) = 0 → Post (.inl (some (.int ((0 : Int32))))) (sI G 640 a2 ((0 : Int32)))))) ∧ (¬ ((0 : Int32)) = s0 → Post (.inl (some (.int ((0 : Int32))))) (sI G 640 a2 ((0 : Int32))))))) : J E 14 m_La_law 914 [some (.ref a0), some (.ref a1), some (.ref a2), some (.ref a3), some (.int p4), none, none] [.int s0] G Post := by
  refine j_istore (L' := [some (.ref a0), some (.ref a1), some (.ref a2), some (.ref a3), some (.int p4), some (.int s0), none]) d_La_law_914 (by decide) rfl ?_
  refine j_aload_n d_La_law_916 rfl ?_
  refine j_aload_n d_La_law_917 rfl ?_
  refine j_iload d_La_law_918 rfl ?_
  refine j_iconst (v := 1) d_La_law_920 (by decide) ?_
  refine j_iadd d_La_law_921 ?_
  obtain ⟨t1, H⟩ := H
  obtain ⟨n3, x2, H⟩ := H
  refine j_iald (n := n3) t1 x2 d_La_law_922 ?_
  obtain ⟨t4, H⟩ := H
  refine j_callV (d' := 3) (ci := 10) (As := [.int ((gA G a0 n3))]) (rest := []) (b := a2) cv_La_128 me_Mo_inChannel rfl (by decide) rfl rfl t4 rfl rfl (Nat.le_of_ble_eq_true rfl) d_La_law_923 (by decide) rfl (j_enter (L := [some (.ref a2), some (.int ((gA G a0 n3)))]) me_Mo_inChannel (cat_c rfl (cat_c rfl cat_n)) (Nat.le_of_ble_eq_true rfl) rfl ?_)
  refine j_aload_n d_Mo_inChannel_0 rfl ?_
  refine j_iload_n d_Mo_inChannel_1 rfl ?_
  refine j_callS (d' := 2) (As := [.int ((gA G a0 n3))]) (rest := [.ref a2]) cs_Mo_156 me_Mo_isSource rfl (by decide) rfl rfl (Nat.le_of_ble_eq_true rfl) d_Mo_inChannel_2 (by decide) rfl (j_enter (L := [some (.int ((gA G a0 n3)))]) me_Mo_isSource (cat_c rfl cat_n) (Nat.le_of_ble_eq_true rfl) rfl ?_)
  refine j_iload_n d_Mo_isSource_0 rfl ?_
  refine j_iconst (v := 0) d_Mo_isSource_1 (by decide) ?_
  refine j_iconst (v := 2) d_Mo_isSource_2 (by decide) ?_
  refine j_callS (d' := 1) (As := [.int ((gA G a0 n3)), .int ((0 : Int32)), .int ((2 : Int32))]) (rest := []) cs_Mo_142 me_Mo_isIn rfl (by decide) rfl rfl (Nat.le_of_ble_eq_true rfl) d_Mo_isSource_3 (by decide) rfl (j_enter (L := [some (.int ((gA G a0 n3))), some (.int ((0 : Int32))), some (.int ((2 : Int32)))]) me_Mo_isIn (cat_c rfl (cat_c rfl (cat_c rfl cat_n))) (Nat.le_of_ble_eq_true rfl) rfl ?_)
  refine j_iload_n d_Mo_isIn_0 rfl ?_
  refine j_iload_n d_Mo_isIn_1 rfl ?_
  obtain ⟨Ha, Hb⟩ := H
  refine j_icmp_lt (tgt := 14) d_Mo_isIn_2 (by decide) (fun c41 => ?_) (fun c42 => ?_)
  · have H := Ha c41
    refine j_iconst (v := 0) d_Mo_isIn_14 (by decide) ?_
    refine j_zret rfl (by decide) d_Mo_isIn_15 ?_
    show J E 2 m_Mo_isSource 6 [some (.int ((gA G a0 n3)))] [.int ((0 : Int32))] G (aft E 3 m_Mo_inChannel 2 [some (.ref a2), some (.int ((gA G a0 n3)))] [.ref a2] (aft E 14 m_La_law 923 [some (.ref a0), some (.ref a1), some (.ref a2), some (.ref a3), some (.int p4), some (.int s0), none] [] Post))
    refine j_zret rfl (by decide) d_Mo_isSource_6 ?_
    show J E 3 m_Mo_inChannel 5 [some (.ref a2), some (.int ((gA G a0 n3)))] [.int ((0 : Int32)), .ref a2] G (aft E 14 m_La_law 923 [some (.ref a0), some (.ref a1), some (.ref a2), some (.ref a3), some (.int p4), some (.int s0), none] [] Post)
    refine j_if_eq (tgt := 12) d_Mo_inChannel_5 (by decide) (fun _ => ?_) (fun c => absurd c (by decide))
    refine j_iconst (v := 1) d_Mo_inChannel_12 (by decide) ?_
    refine j_callV (d' := 1) (ci := 10) (As := [.int ((1 : Int32))]) (rest := []) (b := a2) cv_Mo_149 me_Mo_isFine rfl (by decide) rfl rfl t4 rfl rfl (Nat.le_of_ble_eq_true rfl) d_Mo_inChannel_13 (by decide) rfl (j_enter (L := [some (.ref a2), some (.int ((1 : Int32)))]) me_Mo_isFine (cat_c rfl (cat_c rfl cat_n)) (Nat.le_of_ble_eq_true rfl) rfl ?_)
    refine j_aload_n d_Mo_isFine_0 rfl ?_
    refine j_iload_n d_Mo_isFine_1 rfl ?_
    refine j_putI (f := 640) fw_Mo_139 rfl rfl t4 d_Mo_isFine_2 ?_
    refine j_iload_n d_Mo_isFine_5 rfl ?_
    refine j_if_ne (tgt := 13) d_Mo_isFine_6 (by decide) (fun _ => ?_) (fun c => absurd c (by decide))
    refine j_iconst (v := 0) d_Mo_isFine_13 (by decide) ?_
    refine j_zret rfl (by decide) d_Mo_isFine_14 ?_
    show J E 3 m_Mo_inChannel 16 [some (.ref a2), some (.int ((gA G a0 n3)))] [.int ((0 : Int32))] (sI G 640 a2 ((1 : Int32))) (aft E 14 m_La_law 923 [some (.ref a0), some (.ref a1), some (.ref a2), some (.ref a3), some (.int p4), some (.int s0), none] [] Post)
    refine j_if_eq (tgt := 35) d_Mo_inChannel_16 (by decide) (fun _ => ?_) (fun c => absurd c (by decide))
    refine j_iconst (v := 0) d_Mo_inChannel_35 (by decide) ?_
    refine j_iret rfl d_Mo_inChannel_36 ?_
    show J E 14 m_La_law 926 [some (.ref a0), some (.ref a1), some (.ref a2), some (.ref a3), some (.int p4), some (.int s0), none] [.int ((0 : Int32))] (sI G 640 a2 ((1 : Int32))) Post
    refine j_istore (L' := [some (.ref a0), some (.ref a1), some (.ref a2), some (.ref a3), some (.int p4), some (.int s0), some (.int ((0 : Int32)))]) d_La_law_926 (by decide) rfl ?_
    refine j_aload_n d_La_law_928 rfl ?_
    refine j_callV (d' := 1) (ci := 10) (As := []) (rest := []) (b := a2) cv_La_80 me_Mo_thrown rfl (by decide) rfl rfl t4 rfl rfl (Nat.le_of_ble_eq_true rfl) d_La_law_929 (by decide) rfl (j_enter (L := [some (.ref a2)]) me_Mo_thrown (cat_c rfl cat_n) (Nat.le_of_ble_eq_true rfl) rfl ?_)
    refine j_aload_n d_Mo_thrown_0 rfl ?_
    refine j_getIv (f := 640) (v := ((1 : Int32))) fe_Mo_139 rfl rfl t4 (show gI (sI G 640 a2 ((1 : Int32))) 640 a2 = _ from gI_sI_eq) d_Mo_thrown_1 ?_
    refine j_iret rfl d_Mo_thrown_4 ?_
    show J E 14 m_La_law 932 [some (.ref a0), some (.ref a1), some (.ref a2), some (.ref a3), some (.int p4), some (.int s0), some (.int ((0 : Int32)))] [.int (((1 : Int32)))] (sI G 640 a2 ((1 : Int32))) Post
    refine j_iload d_La_law_932 rfl ?_
    obtain ⟨Ha, Hb⟩ := H
    refine j_icmp_eq (tgt := 939) d_La_law_934 (by decide) (fun c11 => ?_) (fun c12 => ?_)
    · have H := Ha c11
      refine j_iload d_La_law_939 rfl ?_
      obtain ⟨Ha, Hb⟩ := H
      refine j_if_ne (tgt := 956) d_La_law_941 (by decide) (fun c9 => ?_) (fun c10 => ?_)
      · have H := Ha c9
        refine j_goto (tgt := 1295) d_La_law_956 (by decide) ?_
        refine j_iinc (v := (p4 + (7 : Int32))) (L' := [some (.ref a0), some (.ref a1), some (.ref a2), some (.ref a3), some (.int ((p4 + (7 : Int32)))), some (.int s0), some (.int ((0 : Int32)))]) d_La_law_1295 rfl (by rw [show Int32.ofInt (7) = (7 : Int32) by decide]) (by decide) rfl ?_
        refine j_goto (tgt := 23) d_La_law_1298 (by decide) ?_
        refine j_forget (L' := [some (.ref a0), some (.ref a1), some (.ref a2), some (.ref a3), some (.int ((p4 + (7 : Int32)))), none, none]) ⟨Or.inr rfl, Or.inr rfl, Or.inr rfl, Or.inr rfl, Or.inr rfl, Or.inl rfl, Or.inl rfl, trivial⟩ ?_
        exact H
      · have H := Hb c10
        refine j_aload_n d_La_law_944 rfl ?_
        refine j_iconst (v := 0) d_La_law_945 (by decide) ?_
        obtain ⟨t5, H⟩ := H
        obtain ⟨x6, H⟩ := H
        refine j_lald (n := 0) t5 x6 d_La_law_946 ?_
        refine j_iload d_La_law_947 rfl ?_
        refine j_i2l d_La_law_949 ?_
        refine j_lcmp d_La_law_950 ?_
        obtain ⟨Ha, Hb⟩ := H
        refine j_if_eq (tgt := 956) d_La_law_951 (by decide) (fun c7 => ?_) (fun c8 => ?_)
        · have H := Ha c7
          refine j_goto (tgt := 1295) d_La_law_956 (by decide) ?_
          refine j_iinc (v := (p4 + (7 : Int32))) (L' := [some (.ref a0), some (.ref a1), some (.ref a2), some (.ref a3), some (.int ((p4 + (7 : Int32)))), some (.int s0), some (.int ((0 : Int32)))]) d_La_law_1295 rfl (by rw [show Int32.ofInt (7) = (7 : Int32) by decide]) (by decide) rfl ?_
          refine j_goto (tgt := 23) d_La_law_1298 (by decide) ?_
          refine j_forget (L' := [some (.ref a0), some (.ref a1), some (.ref a2), some (.ref a3), some (.int ((p4 + (7 : Int32)))), none, none]) ⟨Or.inr rfl, Or.inr rfl, Or.inr rfl, Or.inr rfl, Or.inr rfl, Or.inl rfl, Or.inl rfl, trivial⟩ ?_
          exact H
        · have H := Hb c8
          refine j_iconst (v := 0) d_La_law_954 (by decide) ?_
          exact j_zret rfl (by decide) d_La_law_955 H
    · have H := Hb c12
      refine j_iconst (v := 0) d_La_law_937 (by decide) ?_
      exact j_zret rfl (by decide) d_La_law_938 H
  · have H := Hb c42
    refine j_iload_n d_Mo_isIn_5 rfl ?_
    refine j_iload_n d_Mo_isIn_6 rfl ?_
    obtain ⟨Ha, Hb⟩ := H
    refine j_icmp_gt (tgt := 14) d_Mo_isIn_7 (by decide) (fun c39 => ?_) (fun c40 => ?_)
    · have H := Ha c39
      refine j_iconst (v := 0) d_Mo_isIn_14 (by decide) ?_
      refine j_zret rfl (by decide) d_Mo_isIn_15 ?_
      show J E 2 m_Mo_isSource 6 [some (.int ((gA G a0 n3)))] [.int ((0 : Int32))] G (aft E 3 m_Mo_inChannel 2 [some (.ref a2), some (.int ((gA G a0 n3)))] [.ref a2] (aft E 14 m_La_law 923 [some (.ref a0), some (.ref a1), some (.ref a2), some (.ref a3), some (.int p4), some (.int s0), none] [] Post))
      refine j_zret rfl (by decide) d_Mo_isSource_6 ?_
      show J E 3 m_Mo_inChannel 5 [some (.ref a2), some (.int ((gA G a0 n3)))] [.int ((0 : Int32)), .ref a2] G (aft E 14 m_La_law 923 [some (.ref a0), some (.ref a1), some (.ref a2), some (.ref a3), some (.int p4), some (.int s0), none] [] Post)
      refine j_if_eq (tgt := 12) d_Mo_inChannel_5 (by decide) (fun _ => ?_) (fun c => absurd c (by decide))
      refine j_iconst (v := 1) d_Mo_inChannel_12 (by decide) ?_
      refine j_callV (d' := 1) (ci := 10) (As := [.int ((1 : Int32))]) (rest := []) (b := a2) cv_Mo_149 me_Mo_isFine rfl (by decide) rfl rfl t4 rfl rfl (Nat.le_of_ble_eq_true rfl) d_Mo_inChannel_13 (by decide) rfl (j_enter (L := [some (.ref a2), some (.int ((1 : Int32)))]) me_Mo_isFine (cat_c rfl (cat_c rfl cat_n)) (Nat.le_of_ble_eq_true rfl) rfl ?_)
      refine j_aload_n d_Mo_isFine_0 rfl ?_
      refine j_iload_n d_Mo_isFine_1 rfl ?_
      refine j_putI (f := 640) fw_Mo_139 rfl rfl t4 d_Mo_isFine_2 ?_
      refine j_iload_n d_Mo_isFine_5 rfl ?_
      refine j_if_ne (tgt := 13) d_Mo_isFine_6 (by decide) (fun _ => ?_) (fun c => absurd c (by decide))
      refine j_iconst (v := 0) d_Mo_isFine_13 (by decide) ?_
      refine j_zret rfl (by decide) d_Mo_isFine_14 ?_
      show J E 3 m_Mo_inChannel 16 [some (.ref a2), some (.int ((gA G a0 n3)))] [.int ((0 : Int32))] (sI G 640 a2 ((1 : Int32))) (aft E 14 m_La_law 923 [some (.ref a0), some (.ref a1), some (.ref a2), some (.ref a3), some (.int p4), some (.int s0), none] [] Post)
      refine j_if_eq (tgt := 35) d_Mo_inChannel_16 (by decide) (fun _ => ?_) (fun c => absurd c (by decide))
      refine j_iconst (v := 0) d_Mo_inChannel_35 (by decide) ?_
      refine j_iret rfl d_Mo_inChannel_36 ?_
      show J E 14 m_La_law 926 [some (.ref a0), some (.ref a1), some (.ref a2), some (.ref a3), some (.int p4), some (.int s0), none] [.int ((0 : Int32))] (sI G 640 a2 ((1 : Int32))) Post
      refine j_istore (L' := [some (.ref a0), some (.ref a1), some (.ref a2), some (.ref a3), some (.int p4), some (.int s0), some (.int ((0 : Int32)))]) d_La_law_926 (by decide) rfl ?_
      refine j_aload_n d_La_law_928 rfl ?_
      refine j_callV (d' := 1) (ci := 10) (As := []) (rest := []) (b := a2) cv_La_80 me_Mo_thrown rfl (by decide) rfl rfl t4 rfl rfl (Nat.le_of_ble_eq_true rfl) d_La_law_929 (by decide) rfl (j_enter (L := [some (.ref a2)]) me_Mo_thrown (cat_c rfl cat_n) (Nat.le_of_ble_eq_true rfl) rfl ?_)
      refine j_aload_n d_Mo_thrown_0 rfl ?_
      refine j_getIv (f := 640) (v := ((1 : Int32))) fe_Mo_139 rfl rfl t4 (show gI (sI G 640 a2 ((1 : Int32))) 640 a2 = _ from gI_sI_eq) d_Mo_thrown_1 ?_
      refine j_iret rfl d_Mo_thrown_4 ?_
      show J E 14 m_La_law 932 [some (.ref a0), some (.ref a1), some (.ref a2), some (.ref a3), some (.int p4), some (.int s0), some (.int ((0 : Int32)))] [.int (((1 : Int32)))] (sI G 640 a2 ((1 : Int32))) Post
      refine j_iload d_La_law_932 rfl ?_
      obtain ⟨Ha, Hb⟩ := H
      refine j_icmp_eq (tgt := 939) d_La_law_934 (by decide) (fun c19 => ?_) (fun c20 => ?_)
      · have H := Ha c19
        refine j_iload d_La_law_939 rfl ?_
        obtain ⟨Ha, Hb⟩ := H
        refine j_if_ne (tgt := 956) d_La_law_941 (by decide) (fun c17 => ?_) (fun c18 => ?_)
        · have H := Ha c17
          refine j_goto (tgt := 1295) d_La_law_956 (by decide) ?_
          refine j_iinc (v := (p4 + (7 : Int32))) (L' := [some (.ref a0), some (.ref a1), some (.ref a2), some (.ref a3), some (.int ((p4 + (7 : Int32)))), some (.int s0), some (.int ((0 : Int32)))]) d_La_law_1295 rfl (by rw [show Int32.ofInt (7) = (7 : Int32) by decide]) (by decide) rfl ?_
          refine j_goto (tgt := 23) d_La_law_1298 (by decide) ?_
          refine j_forget (L' := [some (.ref a0), some (.ref a1), some (.ref a2), some (.ref a3), some (.int ((p4 + (7 : Int32)))), none, none]) ⟨Or.inr rfl, Or.inr rfl, Or.inr rfl, Or.inr rfl, Or.inr rfl, Or.inl rfl, Or.inl rfl, trivial⟩ ?_
          exact H
        · have H := Hb c18
          refine j_aload_n d_La_law_944 rfl ?_
          refine j_iconst (v := 0) d_La_law_945 (by decide) ?_
          obtain ⟨t13, H⟩ := H
          obtain ⟨x14, H⟩ := H
          refine j_lald (n := 0) t13 x14 d_La_law_946 ?_
          refine j_iload d_La_law_947 rfl ?_
          refine j_i2l d_La_law_949 ?_
          refine j_lcmp d_La_law_950 ?_
          obtain ⟨Ha, Hb⟩ := H
          refine j_if_eq (tgt := 956) d_La_law_951 (by decide) (fun c15 => ?_) (fun c16 => ?_)
          · have H := Ha c15
            refine j_goto (tgt := 1295) d_La_law_956 (by decide) ?_
            refine j_iinc (v := (p4 + (7 : Int32))) (L' := [some (.ref a0), some (.ref a1), some (.ref a2), some (.ref a3), some (.int ((p4 + (7 : Int32)))), some (.int s0), some (.int ((0 : Int32)))]) d_La_law_1295 rfl (by rw [show Int32.ofInt (7) = (7 : Int32) by decide]) (by decide) rfl ?_
            refine j_goto (tgt := 23) d_La_law_1298 (by decide) ?_
            refine j_forget (L' := [some (.ref a0), some (.ref a1), some (.ref a2), some (.ref a3), some (.int ((p4 + (7 : Int32)))), none, none]) ⟨Or.inr rfl, Or.inr rfl, Or.inr rfl, Or.inr rfl, Or.inr rfl, Or.inl rfl, Or.inl rfl, trivial⟩ ?_
            exact H
          · have H := Hb c16
            refine j_iconst (v := 0) d_La_law_954 (by decide) ?_
            exact j_zret rfl (by decide) d_La_law_955 H
      · have H := Hb c20
        refine j_iconst (v := 0) d_La_law_937 (by decide) ?_
        exact j_zret rfl (by decide) d_La_law_938 H
    · have H := Hb c40
      refine j_iconst (v := 1) d_Mo_isIn_10 (by decide) ?_
      refine j_goto (tgt := 15) d_Mo_isIn_11 (by decide) ?_
      refine j_zret rfl (by decide) d_Mo_isIn_15 ?_
      show J E 2 m_Mo_isSource 6 [some (.int ((gA G a0 n3)))] [.int ((1 : Int32))] G (aft E 3 m_Mo_inChannel 2 [some (.ref a2), some (.int ((gA G a0 n3)))] [.ref a2] (aft E 14 m_La_law 923 [some (.ref a0), some (.ref a1), some (.ref a2), some (.ref a3), some (.int p4), some (.int s0), none] [] Post))
      refine j_zret rfl (by decide) d_Mo_isSource_6 ?_
      show J E 3 m_Mo_inChannel 5 [some (.ref a2), some (.int ((gA G a0 n3)))] [.int ((1 : Int32)), .ref a2] G (aft E 14 m_La_law 923 [some (.ref a0), some (.ref a1), some (.ref a2), some (.ref a3), some (.int p4), some (.int s0), none] [] Post)
      refine j_if_eq (tgt := 12) d_Mo_inChannel_5 (by decide) (fun c => absurd c (by decide)) (fun _ => ?_)
      refine j_iconst (v := 0) d_Mo_inChannel_8 (by decide) ?_
      refine j_goto (tgt := 13) d_Mo_inChannel_9 (by decide) ?_
      refine j_callV (d' := 1) (ci := 10) (As := [.int ((0 : Int32))]) (rest := []) (b := a2) cv_Mo_149 me_Mo_isFine rfl (by decide) rfl rfl t4 rfl rfl (Nat.le_of_ble_eq_true rfl) d_Mo_inChannel_13 (by decide) rfl (j_enter (L := [some (.ref a2), some (.int ((0 : Int32)))]) me_Mo_isFine (cat_c rfl (cat_c rfl cat_n)) (Nat.le_of_ble_eq_true rfl) rfl ?_)
      refine j_aload_n d_Mo_isFine_0 rfl ?_
      refine j_iload_n d_Mo_isFine_1 rfl ?_
      refine j_putI (f := 640) fw_Mo_139 rfl rfl t4 d_Mo_isFine_2 ?_
      refine j_iload_n d_Mo_isFine_5 rfl ?_
      refine j_if_ne (tgt := 13) d_Mo_isFine_6 (by decide) (fun c => absurd c (by decide)) (fun _ => ?_)
      refine j_iconst (v := 1) d_Mo_isFine_9 (by decide) ?_
      refine j_goto (tgt := 14) d_Mo_isFine_10 (by decide) ?_
      refine j_zret rfl (by decide) d_Mo_isFine_14 ?_
      show J E 3 m_Mo_inChannel 16 [some (.ref a2), some (.int ((gA G a0 n3)))] [.int ((1 : Int32))] (sI G 640 a2 ((0 : Int32))) (aft E 14 m_La_law 923 [some (.ref a0), some (.ref a1), some (.ref a2), some (.ref a3), some (.int p4), some (.int s0), none] [] Post)
      refine j_if_eq (tgt := 35) d_Mo_inChannel_16 (by decide) (fun c => absurd c (by decide)) (fun _ => ?_)
      refine j_aload_n d_Mo_inChannel_19 rfl ?_
      obtain ⟨b21, e22, H⟩ := H
      refine j_getR (f := 653) (b := b21) fe_Mo_42 rfl rfl t4 e22 d_Mo_inChannel_20 ?_
      refine j_iload_n d_Mo_inChannel_23 rfl ?_
      obtain ⟨t23, H⟩ := H
      obtain ⟨n25, x24, H⟩ := H
      refine j_iald (n := n25) t23 x24 d_Mo_inChannel_24 ?_
      refine j_aload_n d_Mo_inChannel_25 rfl ?_
      obtain ⟨b26, e27, H⟩ := H
      refine j_getR (f := 654) (b := b26) fe_Mo_45 rfl rfl t4 e27 d_Mo_inChannel_26 ?_
      refine j_iload_n d_Mo_inChannel_29 rfl ?_
      obtain ⟨t28, H⟩ := H
      obtain ⟨n30, x29, H⟩ := H
      refine j_iald (n := n30) t28 x29 d_Mo_inChannel_30 ?_
      refine j_isub d_Mo_inChannel_31 ?_
      refine j_goto (tgt := 36) d_Mo_inChannel_32 (by decide) ?_
      refine j_iret rfl d_Mo_inChannel_36 ?_
      show J E 14 m_La_law 926 [some (.ref a0), some (.ref a1), some (.ref a2), some (.ref a3), some (.int p4), some (.int s0), none] [.int (((gA (sI G 640 a2 ((0 : Int32))) b21 n25) - (gA (sI G 640 a2 ((0 : Int32))) b26 n30)))] (sI G 640 a2 ((0 : Int32))) Post
      refine j_istore (L' := [some (.ref a0), some (.ref a1), some (.ref a2), some (.ref a3), some (.int p4), some (.int s0), some (.int (((gA (sI G 640 a2 ((0 : Int32))) b21 n25) - (gA (sI G 640 a2 ((0 : Int32))) b26 n30))))]) d_La_law_926 (by decide) rfl ?_
      refine j_aload_n d_La_law_928 rfl ?_
      refine j_callV (d' := 1) (ci := 10) (As := []) (rest := []) (b := a2) cv_La_80 me_Mo_thrown rfl (by decide) rfl rfl t4 rfl rfl (Nat.le_of_ble_eq_true rfl) d_La_law_929 (by decide) rfl (j_enter (L := [some (.ref a2)]) me_Mo_thrown (cat_c rfl cat_n) (Nat.le_of_ble_eq_true rfl) rfl ?_)
      refine j_aload_n d_Mo_thrown_0 rfl ?_
      refine j_getIv (f := 640) (v := ((0 : Int32))) fe_Mo_139 rfl rfl t4 (show gI (sI G 640 a2 ((0 : Int32))) 640 a2 = _ from gI_sI_eq) d_Mo_thrown_1 ?_
      refine j_iret rfl d_Mo_thrown_4 ?_
      show J E 14 m_La_law 932 [some (.ref a0), some (.ref a1), some (.ref a2), some (.ref a3), some (.int p4), some (.int s0), some (.int (((gA (sI G 640 a2 ((0 : Int32))) b21 n25) - (gA (sI G 640 a2 ((0 : Int32))) b26 n30))))] [.int (((0 : Int32)))] (sI G 640 a2 ((0 : Int32))) Post
      refine j_iload d_La_law_932 rfl ?_
      obtain ⟨Ha, Hb⟩ := H
      refine j_icmp_eq (tgt := 939) d_La_law_934 (by decide) (fun c37 => ?_) (fun c38 => ?_)
      · have H := Ha c37
        refine j_iload d_La_law_939 rfl ?_
        obtain ⟨Ha, Hb⟩ := H
        refine j_if_ne (tgt := 956) d_La_law_941 (by decide) (fun c35 => ?_) (fun c36 => ?_)
        · have H := Ha c35
          refine j_goto (tgt := 1295) d_La_law_956 (by decide) ?_
          refine j_iinc (v := (p4 + (7 : Int32))) (L' := [some (.ref a0), some (.ref a1), some (.ref a2), some (.ref a3), some (.int ((p4 + (7 : Int32)))), some (.int s0), some (.int (((gA (sI G 640 a2 ((0 : Int32))) b21 n25) - (gA (sI G 640 a2 ((0 : Int32))) b26 n30))))]) d_La_law_1295 rfl (by rw [show Int32.ofInt (7) = (7 : Int32) by decide]) (by decide) rfl ?_
          refine j_goto (tgt := 23) d_La_law_1298 (by decide) ?_
          refine j_forget (L' := [some (.ref a0), some (.ref a1), some (.ref a2), some (.ref a3), some (.int ((p4 + (7 : Int32)))), none, none]) ⟨Or.inr rfl, Or.inr rfl, Or.inr rfl, Or.inr rfl, Or.inr rfl, Or.inl rfl, Or.inl rfl, trivial⟩ ?_
          exact H
        · have H := Hb c36
          refine j_aload_n d_La_law_944 rfl ?_
          refine j_iconst (v := 0) d_La_law_945 (by decide) ?_
          obtain ⟨t31, H⟩ := H
          obtain ⟨x32, H⟩ := H
          refine j_lald (n := 0) t31 x32 d_La_law_946 ?_
          refine j_iload d_La_law_947 rfl ?_
          refine j_i2l d_La_law_949 ?_
          refine j_lcmp d_La_law_950 ?_
          obtain ⟨Ha, Hb⟩ := H
          refine j_if_eq (tgt := 956) d_La_law_951 (by decide) (fun c33 => ?_) (fun c34 => ?_)
          · have H := Ha c33
            refine j_goto (tgt := 1295) d_La_law_956 (by decide) ?_
            refine j_iinc (v := (p4 + (7 : Int32))) (L' := [some (.ref a0), some (.ref a1), some (.ref a2), some (.ref a3), some (.int ((p4 + (7 : Int32)))), some (.int s0), some (.int (((gA (sI G 640 a2 ((0 : Int32))) b21 n25) - (gA (sI G 640 a2 ((0 : Int32))) b26 n30))))]) d_La_law_1295 rfl (by rw [show Int32.ofInt (7) = (7 : Int32) by decide]) (by decide) rfl ?_
            refine j_goto (tgt := 23) d_La_law_1298 (by decide) ?_
            refine j_forget (L' := [some (.ref a0), some (.ref a1), some (.ref a2), some (.ref a3), some (.int ((p4 + (7 : Int32)))), none, none]) ⟨Or.inr rfl, Or.inr rfl, Or.inr rfl, Or.inr rfl, Or.inr rfl, Or.inl rfl, Or.inl rfl, trivial⟩ ?_
            exact H
          · have H := Hb c34
            refine j_iconst (v := 0) d_La_law_954 (by decide) ?_
            exact j_zret rfl (by decide) d_La_law_955 H
      · have H := Hb c38
        refine j_iconst (v := 0) d_La_law_937 (by decide) ?_
        exact j_zret rfl (by decide) d_La_law_938 H
theorem wp_La_law_970 {E : EV} {G : GH} {Post : Res → GH → Prop} (a0 : Nat) (a1 : Nat) (a2 : Nat) (a3 : Nat) (p4 : Int32) (s0 : Int32) (H : (gT G a0 = 20 ∨ gT G a0 = 25) ∧ ∃ n3, IX ((p4 + (1 : Int32))) n3 (gN G a0) ∧ gT G a2 = 11 ∧ Cl E 2 m_Mo_open [.ref a2, .int ((gA G a0 n3))] G (aft E 14 m_La_law 979 [some (.ref a0), some (.ref a1), some (.ref a2), some (.ref a3), some (.int p4), some (.int s0), none] [] Post)) : J E 14 m_La_law 970 [some (.ref a0), some (.ref a1), some (.ref a2), some (.ref a3), some (.int p4), none, none] [.int s0] G Post := by
  refine j_istore (L' := [some (.ref a0), some (.ref a1), some (.ref a2), some (.ref a3), some (.int p4), some (.int s0), none]) d_La_law_970 (by decide) rfl ?_
  refine j_aload_n d_La_law_972 rfl ?_
  refine j_aload_n d_La_law_973 rfl ?_
  refine j_iload d_La_law_974 rfl ?_
  refine j_iconst (v := 1) d_La_law_976 (by decide) ?_
  refine j_iadd d_La_law_977 ?_
  obtain ⟨t1, H⟩ := H
  obtain ⟨n3, x2, H⟩ := H
  refine j_iald (n := n3) t1 x2 d_La_law_978 ?_
  obtain ⟨t4, H⟩ := H
  exact j_callV (d' := 2) (ci := 10) (As := [.int ((gA G a0 n3))]) (rest := []) (b := a2) cv_La_131 me_Mo_open rfl (by decide) rfl rfl t4 rfl rfl (Nat.le_of_ble_eq_true rfl) d_La_law_979 (by decide) rfl H
theorem wp_La_law_1032 {E : EV} {G : GH} {Post : Res → GH → Prop} (a0 : Nat) (a1 : Nat) (a2 : Nat) (a3 : Nat) (p4 : Int32) (s0 : Int32) (H : (gT G a0 = 20 ∨ gT G a0 = 25) ∧ ∃ n3, IX ((p4 + (1 : Int32))) n3 (gN G a0) ∧ ∃ n5, IX ((p4 + (2 : Int32))) n5 (gN G a0) ∧ gT G a2 = 11 ∧ Cl E 3 m_Mo_sumAt [.ref a2, .int ((gA G a0 n3)), .int ((gA G a0 n5))] G (aft E 14 m_La_law 1047 [some (.ref a0), some (.ref a1), some (.ref a2), some (.ref a3), some (.int p4), some (.int s0), none] [] Post)) : J E 14 m_La_law 1032 [some (.ref a0), some (.ref a1), some (.ref a2), some (.ref a3), some (.int p4), none, none] [.int s0] G Post := by
  refine j_istore (L' := [some (.ref a0), some (.ref a1), some (.ref a2), some (.ref a3), some (.int p4), some (.int s0), none]) d_La_law_1032 (by decide) rfl ?_
  refine j_aload_n d_La_law_1034 rfl ?_
  refine j_aload_n d_La_law_1035 rfl ?_
  refine j_iload d_La_law_1036 rfl ?_
  refine j_iconst (v := 1) d_La_law_1038 (by decide) ?_
  refine j_iadd d_La_law_1039 ?_
  obtain ⟨t1, H⟩ := H
  obtain ⟨n3, x2, H⟩ := H
  refine j_iald (n := n3) t1 x2 d_La_law_1040 ?_
  refine j_aload_n d_La_law_1041 rfl ?_
  refine j_iload d_La_law_1042 rfl ?_
  refine j_iconst (v := 2) d_La_law_1044 (by decide) ?_
  refine j_iadd d_La_law_1045 ?_
  obtain ⟨n5, x4, H⟩ := H
  refine j_iald (n := n5) t1 x4 d_La_law_1046 ?_
  obtain ⟨t6, H⟩ := H
  exact j_callV (d' := 3) (ci := 10) (As := [.int ((gA G a0 n3)), .int ((gA G a0 n5))]) (rest := []) (b := a2) cv_La_134 me_Mo_sumAt rfl (by decide) rfl rfl t6 rfl rfl (Nat.le_of_ble_eq_true rfl) d_La_law_1047 (by decide) rfl H
theorem wp_La_law_1104 {E : EV} {G : GH} {Post : Res → GH → Prop} (a0 : Nat) (a1 : Nat) (a2 : Nat) (a3 : Nat) (p4 : Int32) (s0 : Int32) (s1 : Int32) (H : (s0 = s1 → J E 14 m_La_law 23 [some (.ref a0), some (.ref a1), some (.ref a2), some (.ref a3), some (.int ((p4 + (7 : Int32)))), none, none] [] G Post) ∧ (¬ s0 = s1 → Post (.inl (some (.int ((0 : Int32))))) G)) : J E 14 m_La_law 1104 [some (.ref a0), some (.ref a1), some (.ref a2), some (.ref a3), some (.int p4), none, none] [.int s1, .int s0] G Post := by
  obtain ⟨Ha, Hb⟩ := H
  refine j_icmp_eq (tgt := 1295) d_La_law_1104 (by decide) (fun c1 => ?_) (fun c2 => ?_)
  · have H := Ha c1
    refine j_iinc (v := (p4 + (7 : Int32))) (L' := [some (.ref a0), some (.ref a1), some (.ref a2), some (.ref a3), some (.int ((p4 + (7 : Int32)))), none, none]) d_La_law_1295 rfl (by rw [show Int32.ofInt (7) = (7 : Int32) by decide]) (by decide) rfl ?_
    refine j_goto (tgt := 23) d_La_law_1298 (by decide) ?_
    exact H
  · have H := Hb c2
    refine j_iconst (v := 0) d_La_law_1107 (by decide) ?_
    exact j_zret rfl (by decide) d_La_law_1108 H
theorem wp_La_law_1113 {E : EV} {G : GH} {Post : Res → GH → Prop} (a0 : Nat) (a1 : Nat) (a2 : Nat) (a3 : Nat) (p4 : Int32) (s0 : Int32) (H : gT G a2 = 11 ∧ Cl E 2 m_Mo_pairsAnew [.ref a2] G (aft E 14 m_La_law 1114 [some (.ref a0), some (.ref a1), some (.ref a2), some (.ref a3), some (.int p4), none, none] [.int s0] Post)) : J E 14 m_La_law 1113 [some (.ref a0), some (.ref a1), some (.ref a2), some (.ref a3), some (.int p4), none, none] [.int s0] G Post := by
  refine j_aload_n d_La_law_1113 rfl ?_
  obtain ⟨t1, H⟩ := H
  exact j_callV (d' := 2) (ci := 10) (As := []) (rest := [.int s0]) (b := a2) cv_La_146 me_Mo_pairsAnew rfl (by decide) rfl rfl t1 rfl rfl (Nat.le_of_ble_eq_true rfl) d_La_law_1114 (by decide) rfl H
theorem wp_La_law_1158 {E : EV} {G : GH} {Post : Res → GH → Prop} (a0 : Nat) (a1 : Nat) (a2 : Nat) (a3 : Nat) (p4 : Int32) (s0 : Int32) (H : (gT G a0 = 20 ∨ gT G a0 = 25) ∧ ∃ n3, IX ((p4 + (1 : Int32))) n3 (gN G a0) ∧ ∃ n5, IX ((p4 + (2 : Int32))) n5 (gN G a0) ∧ ∃ n7, IX ((p4 + (3 : Int32))) n7 (gN G a0) ∧ gT G a2 = 11 ∧ Cl E 3 m_Mo_result [.ref a2, .int ((gA G a0 n3)), .int ((gA G a0 n5)), .int ((gA G a0 n7))] G (aft E 14 m_La_law 1179 [some (.ref a0), some (.ref a1), some (.ref a2), some (.ref a3), some (.int p4), some (.int s0), none] [] Post)) : J E 14 m_La_law 1158 [some (.ref a0), some (.ref a1), some (.ref a2), some (.ref a3), some (.int p4), none, none] [.int s0] G Post := by
  refine j_istore (L' := [some (.ref a0), some (.ref a1), some (.ref a2), some (.ref a3), some (.int p4), some (.int s0), none]) d_La_law_1158 (by decide) rfl ?_
  refine j_aload_n d_La_law_1160 rfl ?_
  refine j_aload_n d_La_law_1161 rfl ?_
  refine j_iload d_La_law_1162 rfl ?_
  refine j_iconst (v := 1) d_La_law_1164 (by decide) ?_
  refine j_iadd d_La_law_1165 ?_
  obtain ⟨t1, H⟩ := H
  obtain ⟨n3, x2, H⟩ := H
  refine j_iald (n := n3) t1 x2 d_La_law_1166 ?_
  refine j_aload_n d_La_law_1167 rfl ?_
  refine j_iload d_La_law_1168 rfl ?_
  refine j_iconst (v := 2) d_La_law_1170 (by decide) ?_
  refine j_iadd d_La_law_1171 ?_
  obtain ⟨n5, x4, H⟩ := H
  refine j_iald (n := n5) t1 x4 d_La_law_1172 ?_
  refine j_aload_n d_La_law_1173 rfl ?_
  refine j_iload d_La_law_1174 rfl ?_
  refine j_iconst (v := 3) d_La_law_1176 (by decide) ?_
  refine j_iadd d_La_law_1177 ?_
  obtain ⟨n7, x6, H⟩ := H
  refine j_iald (n := n7) t1 x6 d_La_law_1178 ?_
  obtain ⟨t8, H⟩ := H
  exact j_callV (d' := 3) (ci := 10) (As := [.int ((gA G a0 n3)), .int ((gA G a0 n5)), .int ((gA G a0 n7))]) (rest := []) (b := a2) cv_La_154 me_Mo_result rfl (by decide) rfl rfl t8 rfl rfl (Nat.le_of_ble_eq_true rfl) d_La_law_1179 (by decide) rfl H
theorem wp_La_law_1238 {E : EV} {G : GH} {Post : Res → GH → Prop} (a0 : Nat) (a1 : Nat) (a2 : Nat) (a3 : Nat) (p4 : Int32) (s0 : Int32) (H : (gT G a0 = 20 ∨ gT G a0 = 25) ∧ ∃ n3, IX ((p4 + (1 : Int32))) n3 (gN G a0) ∧ ∃ n5, IX ((p4 + (2 : Int32))) n5 (gN G a0) ∧ ∃ n7, IX ((p4 + (3 : Int32))) n7 (gN G a0) ∧ gT G a2 = 11 ∧ Cl E 3 m_Mo_resultAnew [.ref a2, .int ((gA G a0 n3)), .int ((gA G a0 n5)), .int ((gA G a0 n7))] G (aft E 14 m_La_law 1259 [some (.ref a0), some (.ref a1), some (.ref a2), some (.ref a3), some (.int p4), some (.int s0), none] [] Post)) : J E 14 m_La_law 1238 [some (.ref a0), some (.ref a1), some (.ref a2), some (.ref a3), some (.int p4), none, none] [.int s0] G Post := by
  refine j_istore (L' := [some (.ref a0), some (.ref a1), some (.ref a2), some (.ref a3), some (.int p4), some (.int s0), none]) d_La_law_1238 (by decide) rfl ?_
  refine j_aload_n d_La_law_1240 rfl ?_
  refine j_aload_n d_La_law_1241 rfl ?_
  refine j_iload d_La_law_1242 rfl ?_
  refine j_iconst (v := 1) d_La_law_1244 (by decide) ?_
  refine j_iadd d_La_law_1245 ?_
  obtain ⟨t1, H⟩ := H
  obtain ⟨n3, x2, H⟩ := H
  refine j_iald (n := n3) t1 x2 d_La_law_1246 ?_
  refine j_aload_n d_La_law_1247 rfl ?_
  refine j_iload d_La_law_1248 rfl ?_
  refine j_iconst (v := 2) d_La_law_1250 (by decide) ?_
  refine j_iadd d_La_law_1251 ?_
  obtain ⟨n5, x4, H⟩ := H
  refine j_iald (n := n5) t1 x4 d_La_law_1252 ?_
  refine j_aload_n d_La_law_1253 rfl ?_
  refine j_iload d_La_law_1254 rfl ?_
  refine j_iconst (v := 3) d_La_law_1256 (by decide) ?_
  refine j_iadd d_La_law_1257 ?_
  obtain ⟨n7, x6, H⟩ := H
  refine j_iald (n := n7) t1 x6 d_La_law_1258 ?_
  obtain ⟨t8, H⟩ := H
  exact j_callV (d' := 3) (ci := 10) (As := [.int ((gA G a0 n3)), .int ((gA G a0 n5)), .int ((gA G a0 n7))]) (rest := []) (b := a2) cv_La_157 me_Mo_resultAnew rfl (by decide) rfl rfl t8 rfl rfl (Nat.le_of_ble_eq_true rfl) d_La_law_1259 (by decide) rfl H
theorem wp_La_law_525 {E : EV} {G : GH} {Post : Res → GH → Prop} (a0 : Nat) (a1 : Nat) (a2 : Nat) (a3 : Nat) (p4 : Int32) (p5 : Int32) (s0 : Int32) (H : gT G a2 = 11 ∧ ((gI G 640 a2) = p5 → (¬ p5 = 0 → J E 14 m_La_law 23 [some (.ref a0), some (.ref a1), some (.ref a2), some (.ref a3), some (.int ((p4 + (7 : Int32)))), none, none] [] G Post) ∧ (p5 = 0 → gT G a3 = 22 ∧ IX (0 : Int32) 0 (gN G a3) ∧ (s0 = 0 → ((lg_cmp ((gL G a3 0)) ((0 : Int64))) = 0 → J E 14 m_La_law 23 [some (.ref a0), some (.ref a1), some (.ref a2), some (.ref a3), some (.int ((p4 + (7 : Int32)))), none, none] [] G Post) ∧ (¬ (lg_cmp ((gL G a3 0)) ((0 : Int64))) = 0 → Post (.inl (some (.int ((0 : Int32))))) G)) ∧ (¬ s0 = 0 → ((lg_cmp ((gL G a3 0)) ((1 : Int64))) = 0 → J E 14 m_La_law 23 [some (.ref a0), some (.ref a1), some (.ref a2), some (.ref a3), some (.int ((p4 + (7 : Int32)))), none, none] [] G Post) ∧ (¬ (lg_cmp ((gL G a3 0)) ((1 : Int64))) = 0 → Post (.inl (some (.int ((0 : Int32))))) G)))) ∧ (¬ (gI G 640 a2) = p5 → Post (.inl (some (.int ((0 : Int32))))) G)) : J E 14 m_La_law 525 [some (.ref a0), some (.ref a1), some (.ref a2), some (.ref a3), some (.int p4), some (.int p5), none] [.int s0] G Post := by
  refine j_istore (L' := [some (.ref a0), some (.ref a1), some (.ref a2), some (.ref a3), some (.int p4), some (.int p5), some (.int s0)]) d_La_law_525 (by decide) rfl ?_
  refine j_aload_n d_La_law_527 rfl ?_
  obtain ⟨t1, H⟩ := H
  refine j_callV (d' := 1) (ci := 10) (As := []) (rest := []) (b := a2) cv_La_80 me_Mo_thrown rfl (by decide) rfl rfl t1 rfl rfl (Nat.le_of_ble_eq_true rfl) d_La_law_528 (by decide) rfl (j_enter (L := [some (.ref a2)]) me_Mo_thrown (cat_c rfl cat_n) (Nat.le_of_ble_eq_true rfl) rfl ?_)
  refine j_aload_n d_Mo_thrown_0 rfl ?_
  refine j_getI (f := 640) fe_Mo_139 rfl rfl t1 d_Mo_thrown_1 ?_
  refine j_iret rfl d_Mo_thrown_4 ?_
  show J E 14 m_La_law 531 [some (.ref a0), some (.ref a1), some (.ref a2), some (.ref a3), some (.int p4), some (.int p5), some (.int s0)] [.int ((gI G 640 a2))] G Post
  refine j_iload d_La_law_531 rfl ?_
  obtain ⟨Ha, Hb⟩ := H
  refine j_icmp_eq (tgt := 538) d_La_law_533 (by decide) (fun c12 => ?_) (fun c13 => ?_)
  · have H := Ha c12
    refine j_iload d_La_law_538 rfl ?_
    obtain ⟨Ha, Hb⟩ := H
    refine j_if_ne (tgt := 562) d_La_law_540 (by decide) (fun c10 => ?_) (fun c11 => ?_)
    · have H := Ha c10
      refine j_goto (tgt := 1295) d_La_law_562 (by decide) ?_
      refine j_iinc (v := (p4 + (7 : Int32))) (L' := [some (.ref a0), some (.ref a1), some (.ref a2), some (.ref a3), some (.int ((p4 + (7 : Int32)))), some (.int p5), some (.int s0)]) d_La_law_1295 rfl (by rw [show Int32.ofInt (7) = (7 : Int32) by decide]) (by decide) rfl ?_
      refine j_goto (tgt := 23) d_La_law_1298 (by decide) ?_
      refine j_forget (L' := [some (.ref a0), some (.ref a1), some (.ref a2), some (.ref a3), some (.int ((p4 + (7 : Int32)))), none, none]) ⟨Or.inr rfl, Or.inr rfl, Or.inr rfl, Or.inr rfl, Or.inr rfl, Or.inl rfl, Or.inl rfl, trivial⟩ ?_
      exact H
    · have H := Hb c11
      refine j_aload_n d_La_law_543 rfl ?_
      refine j_iconst (v := 0) d_La_law_544 (by decide) ?_
      obtain ⟨t2, H⟩ := H
      obtain ⟨x3, H⟩ := H
      refine j_lald (n := 0) t2 x3 d_La_law_545 ?_
      refine j_iload d_La_law_546 rfl ?_
      obtain ⟨Ha, Hb⟩ := H
      refine j_if_eq (tgt := 555) d_La_law_548 (by decide) (fun c8 => ?_) (fun c9 => ?_)
      · have H := Ha c8
        refine j_lconst (v := 0) d_La_law_555 (by decide) ?_
        refine j_lcmp d_La_law_556 ?_
        obtain ⟨Ha, Hb⟩ := H
        refine j_if_eq (tgt := 562) d_La_law_557 (by decide) (fun c4 => ?_) (fun c5 => ?_)
        · have H := Ha c4
          refine j_goto (tgt := 1295) d_La_law_562 (by decide) ?_
          refine j_iinc (v := (p4 + (7 : Int32))) (L' := [some (.ref a0), some (.ref a1), some (.ref a2), some (.ref a3), some (.int ((p4 + (7 : Int32)))), some (.int p5), some (.int s0)]) d_La_law_1295 rfl (by rw [show Int32.ofInt (7) = (7 : Int32) by decide]) (by decide) rfl ?_
          refine j_goto (tgt := 23) d_La_law_1298 (by decide) ?_
          refine j_forget (L' := [some (.ref a0), some (.ref a1), some (.ref a2), some (.ref a3), some (.int ((p4 + (7 : Int32)))), none, none]) ⟨Or.inr rfl, Or.inr rfl, Or.inr rfl, Or.inr rfl, Or.inr rfl, Or.inl rfl, Or.inl rfl, trivial⟩ ?_
          exact H
        · have H := Hb c5
          refine j_iconst (v := 0) d_La_law_560 (by decide) ?_
          exact j_zret rfl (by decide) d_La_law_561 H
      · have H := Hb c9
        refine j_lconst (v := 1) d_La_law_551 (by decide) ?_
        refine j_goto (tgt := 556) d_La_law_552 (by decide) ?_
        refine j_lcmp d_La_law_556 ?_
        obtain ⟨Ha, Hb⟩ := H
        refine j_if_eq (tgt := 562) d_La_law_557 (by decide) (fun c6 => ?_) (fun c7 => ?_)
        · have H := Ha c6
          refine j_goto (tgt := 1295) d_La_law_562 (by decide) ?_
          refine j_iinc (v := (p4 + (7 : Int32))) (L' := [some (.ref a0), some (.ref a1), some (.ref a2), some (.ref a3), some (.int ((p4 + (7 : Int32)))), some (.int p5), some (.int s0)]) d_La_law_1295 rfl (by rw [show Int32.ofInt (7) = (7 : Int32) by decide]) (by decide) rfl ?_
          refine j_goto (tgt := 23) d_La_law_1298 (by decide) ?_
          refine j_forget (L' := [some (.ref a0), some (.ref a1), some (.ref a2), some (.ref a3), some (.int ((p4 + (7 : Int32)))), none, none]) ⟨Or.inr rfl, Or.inr rfl, Or.inr rfl, Or.inr rfl, Or.inr rfl, Or.inl rfl, Or.inl rfl, trivial⟩ ?_
          exact H
        · have H := Hb c7
          refine j_iconst (v := 0) d_La_law_560 (by decide) ?_
          exact j_zret rfl (by decide) d_La_law_561 H
  · have H := Hb c13
    refine j_iconst (v := 0) d_La_law_536 (by decide) ?_
    exact j_zret rfl (by decide) d_La_law_537 H
theorem wp_La_law_588 {E : EV} {G : GH} {Post : Res → GH → Prop} (a0 : Nat) (a1 : Nat) (a2 : Nat) (a3 : Nat) (p4 : Int32) (p5 : Int32) (s0 : Int32) (H : gT G a2 = 11 ∧ ((gI G 640 a2) = p5 → (¬ p5 = 0 → J E 14 m_La_law 23 [some (.ref a0), some (.ref a1), some (.ref a2), some (.ref a3), some (.int ((p4 + (7 : Int32)))), none, none] [] G Post) ∧ (p5 = 0 → gT G a3 = 22 ∧ IX (0 : Int32) 0 (gN G a3) ∧ ((lg_cmp ((gL G a3 0)) ((Int32.toInt64 s0))) = 0 → J E 14 m_La_law 23 [some (.ref a0), some (.ref a1), some (.ref a2), some (.ref a3), some (.int ((p4 + (7 : Int32)))), none, none] [] G Post) ∧ (¬ (lg_cmp ((gL G a3 0)) ((Int32.toInt64 s0))) = 0 → Post (.inl (some (.int ((0 : Int32))))) G))) ∧ (¬ (gI G 640 a2) = p5 → Post (.inl (some (.int ((0 : Int32))))) G)) : J E 14 m_La_law 588 [some (.ref a0), some (.ref a1), some (.ref a2), some (.ref a3), some (.int p4), some (.int p5), none] [.int s0] G Post := by
  refine j_istore (L' := [some (.ref a0), some (.ref a1), some (.ref a2), some (.ref a3), some (.int p4), some (.int p5), some (.int s0)]) d_La_law_588 (by decide) rfl ?_
  refine j_aload_n d_La_law_590 rfl ?_
  obtain ⟨t1, H⟩ := H
  refine j_callV (d' := 1) (ci := 10) (As := []) (rest := []) (b := a2) cv_La_80 me_Mo_thrown rfl (by decide) rfl rfl t1 rfl rfl (Nat.le_of_ble_eq_true rfl) d_La_law_591 (by decide) rfl (j_enter (L := [some (.ref a2)]) me_Mo_thrown (cat_c rfl cat_n) (Nat.le_of_ble_eq_true rfl) rfl ?_)
  refine j_aload_n d_Mo_thrown_0 rfl ?_
  refine j_getI (f := 640) fe_Mo_139 rfl rfl t1 d_Mo_thrown_1 ?_
  refine j_iret rfl d_Mo_thrown_4 ?_
  show J E 14 m_La_law 594 [some (.ref a0), some (.ref a1), some (.ref a2), some (.ref a3), some (.int p4), some (.int p5), some (.int s0)] [.int ((gI G 640 a2))] G Post
  refine j_iload d_La_law_594 rfl ?_
  obtain ⟨Ha, Hb⟩ := H
  refine j_icmp_eq (tgt := 601) d_La_law_596 (by decide) (fun c8 => ?_) (fun c9 => ?_)
  · have H := Ha c8
    refine j_iload d_La_law_601 rfl ?_
    obtain ⟨Ha, Hb⟩ := H
    refine j_if_ne (tgt := 618) d_La_law_603 (by decide) (fun c6 => ?_) (fun c7 => ?_)
    · have H := Ha c6
      refine j_goto (tgt := 1295) d_La_law_618 (by decide) ?_
      refine j_iinc (v := (p4 + (7 : Int32))) (L' := [some (.ref a0), some (.ref a1), some (.ref a2), some (.ref a3), some (.int ((p4 + (7 : Int32)))), some (.int p5), some (.int s0)]) d_La_law_1295 rfl (by rw [show Int32.ofInt (7) = (7 : Int32) by decide]) (by decide) rfl ?_
      refine j_goto (tgt := 23) d_La_law_1298 (by decide) ?_
      refine j_forget (L' := [some (.ref a0), some (.ref a1), some (.ref a2), some (.ref a3), some (.int ((p4 + (7 : Int32)))), none, none]) ⟨Or.inr rfl, Or.inr rfl, Or.inr rfl, Or.inr rfl, Or.inr rfl, Or.inl rfl, Or.inl rfl, trivial⟩ ?_
      exact H
    · have H := Hb c7
      refine j_aload_n d_La_law_606 rfl ?_
      refine j_iconst (v := 0) d_La_law_607 (by decide) ?_
      obtain ⟨t2, H⟩ := H
      obtain ⟨x3, H⟩ := H
      refine j_lald (n := 0) t2 x3 d_La_law_608 ?_
      refine j_iload d_La_law_609 rfl ?_
      refine j_i2l d_La_law_611 ?_
      refine j_lcmp d_La_law_612 ?_
      obtain ⟨Ha, Hb⟩ := H
      refine j_if_eq (tgt := 618) d_La_law_613 (by decide) (fun c4 => ?_) (fun c5 => ?_)
      · have H := Ha c4
        refine j_goto (tgt := 1295) d_La_law_618 (by decide) ?_
        refine j_iinc (v := (p4 + (7 : Int32))) (L' := [some (.ref a0), some (.ref a1), some (.ref a2), some (.ref a3), some (.int ((p4 + (7 : Int32)))), some (.int p5), some (.int s0)]) d_La_law_1295 rfl (by rw [show Int32.ofInt (7) = (7 : Int32) by decide]) (by decide) rfl ?_
        refine j_goto (tgt := 23) d_La_law_1298 (by decide) ?_
        refine j_forget (L' := [some (.ref a0), some (.ref a1), some (.ref a2), some (.ref a3), some (.int ((p4 + (7 : Int32)))), none, none]) ⟨Or.inr rfl, Or.inr rfl, Or.inr rfl, Or.inr rfl, Or.inr rfl, Or.inl rfl, Or.inl rfl, trivial⟩ ?_
        exact H
      · have H := Hb c5
        refine j_iconst (v := 0) d_La_law_616 (by decide) ?_
        exact j_zret rfl (by decide) d_La_law_617 H
  · have H := Hb c9
    refine j_iconst (v := 0) d_La_law_599 (by decide) ?_
    exact j_zret rfl (by decide) d_La_law_600 H
theorem wp_La_law_632 {E : EV} {G : GH} {Post : Res → GH → Prop} (a0 : Nat) (a1 : Nat) (a2 : Nat) (a3 : Nat) (p4 : Int32) (p5 : Int32) (s0 : Int32) (H : gT G a2 = 11 ∧ ((gI G 640 a2) = p5 → (¬ p5 = 0 → J E 14 m_La_law 23 [some (.ref a0), some (.ref a1), some (.ref a2), some (.ref a3), some (.int ((p4 + (7 : Int32)))), none, none] [] G Post) ∧ (p5 = 0 → gT G a3 = 22 ∧ IX (0 : Int32) 0 (gN G a3) ∧ ((lg_cmp ((gL G a3 0)) ((Int32.toInt64 s0))) = 0 → J E 14 m_La_law 23 [some (.ref a0), some (.ref a1), some (.ref a2), some (.ref a3), some (.int ((p4 + (7 : Int32)))), none, none] [] G Post) ∧ (¬ (lg_cmp ((gL G a3 0)) ((Int32.toInt64 s0))) = 0 → Post (.inl (some (.int ((0 : Int32))))) G))) ∧ (¬ (gI G 640 a2) = p5 → Post (.inl (some (.int ((0 : Int32))))) G)) : J E 14 m_La_law 632 [some (.ref a0), some (.ref a1), some (.ref a2), some (.ref a3), some (.int p4), some (.int p5), none] [.int s0] G Post := by
  refine j_istore (L' := [some (.ref a0), some (.ref a1), some (.ref a2), some (.ref a3), some (.int p4), some (.int p5), some (.int s0)]) d_La_law_632 (by decide) rfl ?_
  refine j_aload_n d_La_law_634 rfl ?_
  obtain ⟨t1, H⟩ := H
  refine j_callV (d' := 1) (ci := 10) (As := []) (rest := []) (b := a2) cv_La_80 me_Mo_thrown rfl (by decide) rfl rfl t1 rfl rfl (Nat.le_of_ble_eq_true rfl) d_La_law_635 (by decide) rfl (j_enter (L := [some (.ref a2)]) me_Mo_thrown (cat_c rfl cat_n) (Nat.le_of_ble_eq_true rfl) rfl ?_)
  refine j_aload_n d_Mo_thrown_0 rfl ?_
  refine j_getI (f := 640) fe_Mo_139 rfl rfl t1 d_Mo_thrown_1 ?_
  refine j_iret rfl d_Mo_thrown_4 ?_
  show J E 14 m_La_law 638 [some (.ref a0), some (.ref a1), some (.ref a2), some (.ref a3), some (.int p4), some (.int p5), some (.int s0)] [.int ((gI G 640 a2))] G Post
  refine j_iload d_La_law_638 rfl ?_
  obtain ⟨Ha, Hb⟩ := H
  refine j_icmp_eq (tgt := 645) d_La_law_640 (by decide) (fun c8 => ?_) (fun c9 => ?_)
  · have H := Ha c8
    refine j_iload d_La_law_645 rfl ?_
    obtain ⟨Ha, Hb⟩ := H
    refine j_if_ne (tgt := 662) d_La_law_647 (by decide) (fun c6 => ?_) (fun c7 => ?_)
    · have H := Ha c6
      refine j_goto (tgt := 1295) d_La_law_662 (by decide) ?_
      refine j_iinc (v := (p4 + (7 : Int32))) (L' := [some (.ref a0), some (.ref a1), some (.ref a2), some (.ref a3), some (.int ((p4 + (7 : Int32)))), some (.int p5), some (.int s0)]) d_La_law_1295 rfl (by rw [show Int32.ofInt (7) = (7 : Int32) by decide]) (by decide) rfl ?_
      refine j_goto (tgt := 23) d_La_law_1298 (by decide) ?_
      refine j_forget (L' := [some (.ref a0), some (.ref a1), some (.ref a2), some (.ref a3), some (.int ((p4 + (7 : Int32)))), none, none]) ⟨Or.inr rfl, Or.inr rfl, Or.inr rfl, Or.inr rfl, Or.inr rfl, Or.inl rfl, Or.inl rfl, trivial⟩ ?_
      exact H
    · have H := Hb c7
      refine j_aload_n d_La_law_650 rfl ?_
      refine j_iconst (v := 0) d_La_law_651 (by decide) ?_
      obtain ⟨t2, H⟩ := H
      obtain ⟨x3, H⟩ := H
      refine j_lald (n := 0) t2 x3 d_La_law_652 ?_
      refine j_iload d_La_law_653 rfl ?_
      refine j_i2l d_La_law_655 ?_
      refine j_lcmp d_La_law_656 ?_
      obtain ⟨Ha, Hb⟩ := H
      refine j_if_eq (tgt := 662) d_La_law_657 (by decide) (fun c4 => ?_) (fun c5 => ?_)
      · have H := Ha c4
        refine j_goto (tgt := 1295) d_La_law_662 (by decide) ?_
        refine j_iinc (v := (p4 + (7 : Int32))) (L' := [some (.ref a0), some (.ref a1), some (.ref a2), some (.ref a3), some (.int ((p4 + (7 : Int32)))), some (.int p5), some (.int s0)]) d_La_law_1295 rfl (by rw [show Int32.ofInt (7) = (7 : Int32) by decide]) (by decide) rfl ?_
        refine j_goto (tgt := 23) d_La_law_1298 (by decide) ?_
        refine j_forget (L' := [some (.ref a0), some (.ref a1), some (.ref a2), some (.ref a3), some (.int ((p4 + (7 : Int32)))), none, none]) ⟨Or.inr rfl, Or.inr rfl, Or.inr rfl, Or.inr rfl, Or.inr rfl, Or.inl rfl, Or.inl rfl, trivial⟩ ?_
        exact H
      · have H := Hb c5
        refine j_iconst (v := 0) d_La_law_660 (by decide) ?_
        exact j_zret rfl (by decide) d_La_law_661 H
  · have H := Hb c9
    refine j_iconst (v := 0) d_La_law_643 (by decide) ?_
    exact j_zret rfl (by decide) d_La_law_644 H
theorem wp_La_law_717 {E : EV} {G : GH} {Post : Res → GH → Prop} (a0 : Nat) (a1 : Nat) (a2 : Nat) (a3 : Nat) (p4 : Int32) (s0 : Int32) (s1 : Int32) (H : (s0 = s1 → J E 14 m_La_law 23 [some (.ref a0), some (.ref a1), some (.ref a2), some (.ref a3), some (.int ((p4 + (7 : Int32)))), none, none] [] G Post) ∧ (¬ s0 = s1 → Post (.inl (some (.int ((0 : Int32))))) G)) : J E 14 m_La_law 717 [some (.ref a0), some (.ref a1), some (.ref a2), some (.ref a3), some (.int p4), none, none] [.int s1, .int s0] G Post := by
  obtain ⟨Ha, Hb⟩ := H
  refine j_icmp_eq (tgt := 1295) d_La_law_717 (by decide) (fun c1 => ?_) (fun c2 => ?_)
  · have H := Ha c1
    refine j_iinc (v := (p4 + (7 : Int32))) (L' := [some (.ref a0), some (.ref a1), some (.ref a2), some (.ref a3), some (.int ((p4 + (7 : Int32)))), none, none]) d_La_law_1295 rfl (by rw [show Int32.ofInt (7) = (7 : Int32) by decide]) (by decide) rfl ?_
    refine j_goto (tgt := 23) d_La_law_1298 (by decide) ?_
    exact H
  · have H := Hb c2
    refine j_iconst (v := 0) d_La_law_720 (by decide) ?_
    exact j_zret rfl (by decide) d_La_law_721 H
theorem wp_La_law_745 {E : EV} {G : GH} {Post : Res → GH → Prop} (a0 : Nat) (a1 : Nat) (a2 : Nat) (a3 : Nat) (p4 : Int32) (p5 : Int32) (s0 : Int32) (H : gT G a2 = 11 ∧ ((gI G 640 a2) = p5 → (¬ p5 = 0 → J E 14 m_La_law 23 [some (.ref a0), some (.ref a1), some (.ref a2), some (.ref a3), some (.int ((p4 + (7 : Int32)))), none, none] [] G Post) ∧ (p5 = 0 → gT G a3 = 22 ∧ IX (0 : Int32) 0 (gN G a3) ∧ ((lg_cmp ((gL G a3 0)) ((Int32.toInt64 s0))) = 0 → J E 14 m_La_law 23 [some (.ref a0), some (.ref a1), some (.ref a2), some (.ref a3), some (.int ((p4 + (7 : Int32)))), none, none] [] G Post) ∧ (¬ (lg_cmp ((gL G a3 0)) ((Int32.toInt64 s0))) = 0 → Post (.inl (some (.int ((0 : Int32))))) G))) ∧ (¬ (gI G 640 a2) = p5 → Post (.inl (some (.int ((0 : Int32))))) G)) : J E 14 m_La_law 745 [some (.ref a0), some (.ref a1), some (.ref a2), some (.ref a3), some (.int p4), some (.int p5), none] [.int s0] G Post := by
  refine j_istore (L' := [some (.ref a0), some (.ref a1), some (.ref a2), some (.ref a3), some (.int p4), some (.int p5), some (.int s0)]) d_La_law_745 (by decide) rfl ?_
  refine j_aload_n d_La_law_747 rfl ?_
  obtain ⟨t1, H⟩ := H
  refine j_callV (d' := 1) (ci := 10) (As := []) (rest := []) (b := a2) cv_La_80 me_Mo_thrown rfl (by decide) rfl rfl t1 rfl rfl (Nat.le_of_ble_eq_true rfl) d_La_law_748 (by decide) rfl (j_enter (L := [some (.ref a2)]) me_Mo_thrown (cat_c rfl cat_n) (Nat.le_of_ble_eq_true rfl) rfl ?_)
  refine j_aload_n d_Mo_thrown_0 rfl ?_
  refine j_getI (f := 640) fe_Mo_139 rfl rfl t1 d_Mo_thrown_1 ?_
  refine j_iret rfl d_Mo_thrown_4 ?_
  show J E 14 m_La_law 751 [some (.ref a0), some (.ref a1), some (.ref a2), some (.ref a3), some (.int p4), some (.int p5), some (.int s0)] [.int ((gI G 640 a2))] G Post
  refine j_iload d_La_law_751 rfl ?_
  obtain ⟨Ha, Hb⟩ := H
  refine j_icmp_eq (tgt := 758) d_La_law_753 (by decide) (fun c8 => ?_) (fun c9 => ?_)
  · have H := Ha c8
    refine j_iload d_La_law_758 rfl ?_
    obtain ⟨Ha, Hb⟩ := H
    refine j_if_ne (tgt := 775) d_La_law_760 (by decide) (fun c6 => ?_) (fun c7 => ?_)
    · have H := Ha c6
      refine j_goto (tgt := 1295) d_La_law_775 (by decide) ?_
      refine j_iinc (v := (p4 + (7 : Int32))) (L' := [some (.ref a0), some (.ref a1), some (.ref a2), some (.ref a3), some (.int ((p4 + (7 : Int32)))), some (.int p5), some (.int s0)]) d_La_law_1295 rfl (by rw [show Int32.ofInt (7) = (7 : Int32) by decide]) (by decide) rfl ?_
      refine j_goto (tgt := 23) d_La_law_1298 (by decide) ?_
      refine j_forget (L' := [some (.ref a0), some (.ref a1), some (.ref a2), some (.ref a3), some (.int ((p4 + (7 : Int32)))), none, none]) ⟨Or.inr rfl, Or.inr rfl, Or.inr rfl, Or.inr rfl, Or.inr rfl, Or.inl rfl, Or.inl rfl, trivial⟩ ?_
      exact H
    · have H := Hb c7
      refine j_aload_n d_La_law_763 rfl ?_
      refine j_iconst (v := 0) d_La_law_764 (by decide) ?_
      obtain ⟨t2, H⟩ := H
      obtain ⟨x3, H⟩ := H
      refine j_lald (n := 0) t2 x3 d_La_law_765 ?_
      refine j_iload d_La_law_766 rfl ?_
      refine j_i2l d_La_law_768 ?_
      refine j_lcmp d_La_law_769 ?_
      obtain ⟨Ha, Hb⟩ := H
      refine j_if_eq (tgt := 775) d_La_law_770 (by decide) (fun c4 => ?_) (fun c5 => ?_)
      · have H := Ha c4
        refine j_goto (tgt := 1295) d_La_law_775 (by decide) ?_
        refine j_iinc (v := (p4 + (7 : Int32))) (L' := [some (.ref a0), some (.ref a1), some (.ref a2), some (.ref a3), some (.int ((p4 + (7 : Int32)))), some (.int p5), some (.int s0)]) d_La_law_1295 rfl (by rw [show Int32.ofInt (7) = (7 : Int32) by decide]) (by decide) rfl ?_
        refine j_goto (tgt := 23) d_La_law_1298 (by decide) ?_
        refine j_forget (L' := [some (.ref a0), some (.ref a1), some (.ref a2), some (.ref a3), some (.int ((p4 + (7 : Int32)))), none, none]) ⟨Or.inr rfl, Or.inr rfl, Or.inr rfl, Or.inr rfl, Or.inr rfl, Or.inl rfl, Or.inl rfl, trivial⟩ ?_
        exact H
      · have H := Hb c5
        refine j_iconst (v := 0) d_La_law_773 (by decide) ?_
        exact j_zret rfl (by decide) d_La_law_774 H
  · have H := Hb c9
    refine j_iconst (v := 0) d_La_law_756 (by decide) ?_
    exact j_zret rfl (by decide) d_La_law_757 H
theorem wp_La_law_982 {E : EV} {G : GH} {Post : Res → GH → Prop} (a0 : Nat) (a1 : Nat) (a2 : Nat) (a3 : Nat) (p4 : Int32) (p5 : Int32) (s0 : Int32) (H : gT G a2 = 11 ∧ ((gI G 640 a2) = p5 → (¬ p5 = 0 → J E 14 m_La_law 23 [some (.ref a0), some (.ref a1), some (.ref a2), some (.ref a3), some (.int ((p4 + (7 : Int32)))), none, none] [] G Post) ∧ (p5 = 0 → gT G a3 = 22 ∧ IX (0 : Int32) 0 (gN G a3) ∧ ((lg_cmp ((gL G a3 0)) ((Int32.toInt64 s0))) = 0 → J E 14 m_La_law 23 [some (.ref a0), some (.ref a1), some (.ref a2), some (.ref a3), some (.int ((p4 + (7 : Int32)))), none, none] [] G Post) ∧ (¬ (lg_cmp ((gL G a3 0)) ((Int32.toInt64 s0))) = 0 → Post (.inl (some (.int ((0 : Int32))))) G))) ∧ (¬ (gI G 640 a2) = p5 → Post (.inl (some (.int ((0 : Int32))))) G)) : J E 14 m_La_law 982 [some (.ref a0), some (.ref a1), some (.ref a2), some (.ref a3), some (.int p4), some (.int p5), none] [.int s0] G Post := by
  refine j_istore (L' := [some (.ref a0), some (.ref a1), some (.ref a2), some (.ref a3), some (.int p4), some (.int p5), some (.int s0)]) d_La_law_982 (by decide) rfl ?_
  refine j_aload_n d_La_law_984 rfl ?_
  obtain ⟨t1, H⟩ := H
  refine j_callV (d' := 1) (ci := 10) (As := []) (rest := []) (b := a2) cv_La_80 me_Mo_thrown rfl (by decide) rfl rfl t1 rfl rfl (Nat.le_of_ble_eq_true rfl) d_La_law_985 (by decide) rfl (j_enter (L := [some (.ref a2)]) me_Mo_thrown (cat_c rfl cat_n) (Nat.le_of_ble_eq_true rfl) rfl ?_)
  refine j_aload_n d_Mo_thrown_0 rfl ?_
  refine j_getI (f := 640) fe_Mo_139 rfl rfl t1 d_Mo_thrown_1 ?_
  refine j_iret rfl d_Mo_thrown_4 ?_
  show J E 14 m_La_law 988 [some (.ref a0), some (.ref a1), some (.ref a2), some (.ref a3), some (.int p4), some (.int p5), some (.int s0)] [.int ((gI G 640 a2))] G Post
  refine j_iload d_La_law_988 rfl ?_
  obtain ⟨Ha, Hb⟩ := H
  refine j_icmp_eq (tgt := 995) d_La_law_990 (by decide) (fun c8 => ?_) (fun c9 => ?_)
  · have H := Ha c8
    refine j_iload d_La_law_995 rfl ?_
    obtain ⟨Ha, Hb⟩ := H
    refine j_if_ne (tgt := 1012) d_La_law_997 (by decide) (fun c6 => ?_) (fun c7 => ?_)
    · have H := Ha c6
      refine j_goto (tgt := 1295) d_La_law_1012 (by decide) ?_
      refine j_iinc (v := (p4 + (7 : Int32))) (L' := [some (.ref a0), some (.ref a1), some (.ref a2), some (.ref a3), some (.int ((p4 + (7 : Int32)))), some (.int p5), some (.int s0)]) d_La_law_1295 rfl (by rw [show Int32.ofInt (7) = (7 : Int32) by decide]) (by decide) rfl ?_
      refine j_goto (tgt := 23) d_La_law_1298 (by decide) ?_
      refine j_forget (L' := [some (.ref a0), some (.ref a1), some (.ref a2), some (.ref a3), some (.int ((p4 + (7 : Int32)))), none, none]) ⟨Or.inr rfl, Or.inr rfl, Or.inr rfl, Or.inr rfl, Or.inr rfl, Or.inl rfl, Or.inl rfl, trivial⟩ ?_
      exact H
    · have H := Hb c7
      refine j_aload_n d_La_law_1000 rfl ?_
      refine j_iconst (v := 0) d_La_law_1001 (by decide) ?_
      obtain ⟨t2, H⟩ := H
      obtain ⟨x3, H⟩ := H
      refine j_lald (n := 0) t2 x3 d_La_law_1002 ?_
      refine j_iload d_La_law_1003 rfl ?_
      refine j_i2l d_La_law_1005 ?_
      refine j_lcmp d_La_law_1006 ?_
      obtain ⟨Ha, Hb⟩ := H
      refine j_if_eq (tgt := 1012) d_La_law_1007 (by decide) (fun c4 => ?_) (fun c5 => ?_)
      · have H := Ha c4
        refine j_goto (tgt := 1295) d_La_law_1012 (by decide) ?_
        refine j_iinc (v := (p4 + (7 : Int32))) (L' := [some (.ref a0), some (.ref a1), some (.ref a2), some (.ref a3), some (.int ((p4 + (7 : Int32)))), some (.int p5), some (.int s0)]) d_La_law_1295 rfl (by rw [show Int32.ofInt (7) = (7 : Int32) by decide]) (by decide) rfl ?_
        refine j_goto (tgt := 23) d_La_law_1298 (by decide) ?_
        refine j_forget (L' := [some (.ref a0), some (.ref a1), some (.ref a2), some (.ref a3), some (.int ((p4 + (7 : Int32)))), none, none]) ⟨Or.inr rfl, Or.inr rfl, Or.inr rfl, Or.inr rfl, Or.inr rfl, Or.inl rfl, Or.inl rfl, trivial⟩ ?_
        exact H
      · have H := Hb c5
        refine j_iconst (v := 0) d_La_law_1010 (by decide) ?_
        exact j_zret rfl (by decide) d_La_law_1011 H
  · have H := Hb c9
    refine j_iconst (v := 0) d_La_law_993 (by decide) ?_
    exact j_zret rfl (by decide) d_La_law_994 H
theorem wp_La_law_1050 {E : EV} {G : GH} {Post : Res → GH → Prop} (a0 : Nat) (a1 : Nat) (a2 : Nat) (a3 : Nat) (p4 : Int32) (p5 : Int32) (s0 : Int32) (H : gT G a2 = 11 ∧ ((gI G 640 a2) = p5 → (¬ p5 = 0 → J E 14 m_La_law 23 [some (.ref a0), some (.ref a1), some (.ref a2), some (.ref a3), some (.int ((p4 + (7 : Int32)))), none, none] [] G Post) ∧ (p5 = 0 → gT G a3 = 22 ∧ IX (0 : Int32) 0 (gN G a3) ∧ ((lg_cmp ((gL G a3 0)) ((Int32.toInt64 s0))) = 0 → J E 14 m_La_law 23 [some (.ref a0), some (.ref a1), some (.ref a2), some (.ref a3), some (.int ((p4 + (7 : Int32)))), none, none] [] G Post) ∧ (¬ (lg_cmp ((gL G a3 0)) ((Int32.toInt64 s0))) = 0 → Post (.inl (some (.int ((0 : Int32))))) G))) ∧ (¬ (gI G 640 a2) = p5 → Post (.inl (some (.int ((0 : Int32))))) G)) : J E 14 m_La_law 1050 [some (.ref a0), some (.ref a1), some (.ref a2), some (.ref a3), some (.int p4), some (.int p5), none] [.int s0] G Post := by
  refine j_istore (L' := [some (.ref a0), some (.ref a1), some (.ref a2), some (.ref a3), some (.int p4), some (.int p5), some (.int s0)]) d_La_law_1050 (by decide) rfl ?_
  refine j_aload_n d_La_law_1052 rfl ?_
  obtain ⟨t1, H⟩ := H
  refine j_callV (d' := 1) (ci := 10) (As := []) (rest := []) (b := a2) cv_La_80 me_Mo_thrown rfl (by decide) rfl rfl t1 rfl rfl (Nat.le_of_ble_eq_true rfl) d_La_law_1053 (by decide) rfl (j_enter (L := [some (.ref a2)]) me_Mo_thrown (cat_c rfl cat_n) (Nat.le_of_ble_eq_true rfl) rfl ?_)
  refine j_aload_n d_Mo_thrown_0 rfl ?_
  refine j_getI (f := 640) fe_Mo_139 rfl rfl t1 d_Mo_thrown_1 ?_
  refine j_iret rfl d_Mo_thrown_4 ?_
  show J E 14 m_La_law 1056 [some (.ref a0), some (.ref a1), some (.ref a2), some (.ref a3), some (.int p4), some (.int p5), some (.int s0)] [.int ((gI G 640 a2))] G Post
  refine j_iload d_La_law_1056 rfl ?_
  obtain ⟨Ha, Hb⟩ := H
  refine j_icmp_eq (tgt := 1063) d_La_law_1058 (by decide) (fun c8 => ?_) (fun c9 => ?_)
  · have H := Ha c8
    refine j_iload d_La_law_1063 rfl ?_
    obtain ⟨Ha, Hb⟩ := H
    refine j_if_ne (tgt := 1080) d_La_law_1065 (by decide) (fun c6 => ?_) (fun c7 => ?_)
    · have H := Ha c6
      refine j_goto (tgt := 1295) d_La_law_1080 (by decide) ?_
      refine j_iinc (v := (p4 + (7 : Int32))) (L' := [some (.ref a0), some (.ref a1), some (.ref a2), some (.ref a3), some (.int ((p4 + (7 : Int32)))), some (.int p5), some (.int s0)]) d_La_law_1295 rfl (by rw [show Int32.ofInt (7) = (7 : Int32) by decide]) (by decide) rfl ?_
      refine j_goto (tgt := 23) d_La_law_1298 (by decide) ?_
      refine j_forget (L' := [some (.ref a0), some (.ref a1), some (.ref a2), some (.ref a3), some (.int ((p4 + (7 : Int32)))), none, none]) ⟨Or.inr rfl, Or.inr rfl, Or.inr rfl, Or.inr rfl, Or.inr rfl, Or.inl rfl, Or.inl rfl, trivial⟩ ?_
      exact H
    · have H := Hb c7
      refine j_aload_n d_La_law_1068 rfl ?_
      refine j_iconst (v := 0) d_La_law_1069 (by decide) ?_
      obtain ⟨t2, H⟩ := H
      obtain ⟨x3, H⟩ := H
      refine j_lald (n := 0) t2 x3 d_La_law_1070 ?_
      refine j_iload d_La_law_1071 rfl ?_
      refine j_i2l d_La_law_1073 ?_
      refine j_lcmp d_La_law_1074 ?_
      obtain ⟨Ha, Hb⟩ := H
      refine j_if_eq (tgt := 1080) d_La_law_1075 (by decide) (fun c4 => ?_) (fun c5 => ?_)
      · have H := Ha c4
        refine j_goto (tgt := 1295) d_La_law_1080 (by decide) ?_
        refine j_iinc (v := (p4 + (7 : Int32))) (L' := [some (.ref a0), some (.ref a1), some (.ref a2), some (.ref a3), some (.int ((p4 + (7 : Int32)))), some (.int p5), some (.int s0)]) d_La_law_1295 rfl (by rw [show Int32.ofInt (7) = (7 : Int32) by decide]) (by decide) rfl ?_
        refine j_goto (tgt := 23) d_La_law_1298 (by decide) ?_
        refine j_forget (L' := [some (.ref a0), some (.ref a1), some (.ref a2), some (.ref a3), some (.int ((p4 + (7 : Int32)))), none, none]) ⟨Or.inr rfl, Or.inr rfl, Or.inr rfl, Or.inr rfl, Or.inr rfl, Or.inl rfl, Or.inl rfl, trivial⟩ ?_
        exact H
      · have H := Hb c5
        refine j_iconst (v := 0) d_La_law_1078 (by decide) ?_
        exact j_zret rfl (by decide) d_La_law_1079 H
  · have H := Hb c9
    refine j_iconst (v := 0) d_La_law_1061 (by decide) ?_
    exact j_zret rfl (by decide) d_La_law_1062 H
theorem wp_La_law_1117 {E : EV} {G : GH} {Post : Res → GH → Prop} (a0 : Nat) (a1 : Nat) (a2 : Nat) (a3 : Nat) (p4 : Int32) (s0 : Int32) (s1 : Int32) (H : (s0 = s1 → J E 14 m_La_law 23 [some (.ref a0), some (.ref a1), some (.ref a2), some (.ref a3), some (.int ((p4 + (7 : Int32)))), none, none] [] G Post) ∧ (¬ s0 = s1 → Post (.inl (some (.int ((0 : Int32))))) G)) : J E 14 m_La_law 1117 [some (.ref a0), some (.ref a1), some (.ref a2), some (.ref a3), some (.int p4), none, none] [.int s1, .int s0] G Post := by
  obtain ⟨Ha, Hb⟩ := H
  refine j_icmp_eq (tgt := 1295) d_La_law_1117 (by decide) (fun c1 => ?_) (fun c2 => ?_)
  · have H := Ha c1
    refine j_iinc (v := (p4 + (7 : Int32))) (L' := [some (.ref a0), some (.ref a1), some (.ref a2), some (.ref a3), some (.int ((p4 + (7 : Int32)))), none, none]) d_La_law_1295 rfl (by rw [show Int32.ofInt (7) = (7 : Int32) by decide]) (by decide) rfl ?_
    refine j_goto (tgt := 23) d_La_law_1298 (by decide) ?_
    exact H
  · have H := Hb c2
    refine j_iconst (v := 0) d_La_law_1120 (by decide) ?_
    exact j_zret rfl (by decide) d_La_law_1121 H
theorem wp_La_law_1182 {E : EV} {G : GH} {Post : Res → GH → Prop} (a0 : Nat) (a1 : Nat) (a2 : Nat) (a3 : Nat) (p4 : Int32) (p5 : Int32) (s0 : Int32) (H : gT G a2 = 11 ∧ ((gI G 640 a2) = p5 → (¬ p5 = 0 → J E 14 m_La_law 23 [some (.ref a0), some (.ref a1), some (.ref a2), some (.ref a3), some (.int ((p4 + (7 : Int32)))), none, none] [] G Post) ∧ (p5 = 0 → gT G a3 = 22 ∧ IX (0 : Int32) 0 (gN G a3) ∧ ((lg_cmp ((gL G a3 0)) ((Int32.toInt64 s0))) = 0 → J E 14 m_La_law 23 [some (.ref a0), some (.ref a1), some (.ref a2), some (.ref a3), some (.int ((p4 + (7 : Int32)))), none, none] [] G Post) ∧ (¬ (lg_cmp ((gL G a3 0)) ((Int32.toInt64 s0))) = 0 → Post (.inl (some (.int ((0 : Int32))))) G))) ∧ (¬ (gI G 640 a2) = p5 → Post (.inl (some (.int ((0 : Int32))))) G)) : J E 14 m_La_law 1182 [some (.ref a0), some (.ref a1), some (.ref a2), some (.ref a3), some (.int p4), some (.int p5), none] [.int s0] G Post := by
  refine j_istore (L' := [some (.ref a0), some (.ref a1), some (.ref a2), some (.ref a3), some (.int p4), some (.int p5), some (.int s0)]) d_La_law_1182 (by decide) rfl ?_
  refine j_aload_n d_La_law_1184 rfl ?_
  obtain ⟨t1, H⟩ := H
  refine j_callV (d' := 1) (ci := 10) (As := []) (rest := []) (b := a2) cv_La_80 me_Mo_thrown rfl (by decide) rfl rfl t1 rfl rfl (Nat.le_of_ble_eq_true rfl) d_La_law_1185 (by decide) rfl (j_enter (L := [some (.ref a2)]) me_Mo_thrown (cat_c rfl cat_n) (Nat.le_of_ble_eq_true rfl) rfl ?_)
  refine j_aload_n d_Mo_thrown_0 rfl ?_
  refine j_getI (f := 640) fe_Mo_139 rfl rfl t1 d_Mo_thrown_1 ?_
  refine j_iret rfl d_Mo_thrown_4 ?_
  show J E 14 m_La_law 1188 [some (.ref a0), some (.ref a1), some (.ref a2), some (.ref a3), some (.int p4), some (.int p5), some (.int s0)] [.int ((gI G 640 a2))] G Post
  refine j_iload d_La_law_1188 rfl ?_
  obtain ⟨Ha, Hb⟩ := H
  refine j_icmp_eq (tgt := 1195) d_La_law_1190 (by decide) (fun c8 => ?_) (fun c9 => ?_)
  · have H := Ha c8
    refine j_iload d_La_law_1195 rfl ?_
    obtain ⟨Ha, Hb⟩ := H
    refine j_if_ne (tgt := 1212) d_La_law_1197 (by decide) (fun c6 => ?_) (fun c7 => ?_)
    · have H := Ha c6
      refine j_goto (tgt := 1295) d_La_law_1212 (by decide) ?_
      refine j_iinc (v := (p4 + (7 : Int32))) (L' := [some (.ref a0), some (.ref a1), some (.ref a2), some (.ref a3), some (.int ((p4 + (7 : Int32)))), some (.int p5), some (.int s0)]) d_La_law_1295 rfl (by rw [show Int32.ofInt (7) = (7 : Int32) by decide]) (by decide) rfl ?_
      refine j_goto (tgt := 23) d_La_law_1298 (by decide) ?_
      refine j_forget (L' := [some (.ref a0), some (.ref a1), some (.ref a2), some (.ref a3), some (.int ((p4 + (7 : Int32)))), none, none]) ⟨Or.inr rfl, Or.inr rfl, Or.inr rfl, Or.inr rfl, Or.inr rfl, Or.inl rfl, Or.inl rfl, trivial⟩ ?_
      exact H
    · have H := Hb c7
      refine j_aload_n d_La_law_1200 rfl ?_
      refine j_iconst (v := 0) d_La_law_1201 (by decide) ?_
      obtain ⟨t2, H⟩ := H
      obtain ⟨x3, H⟩ := H
      refine j_lald (n := 0) t2 x3 d_La_law_1202 ?_
      refine j_iload d_La_law_1203 rfl ?_
      refine j_i2l d_La_law_1205 ?_
      refine j_lcmp d_La_law_1206 ?_
      obtain ⟨Ha, Hb⟩ := H
      refine j_if_eq (tgt := 1212) d_La_law_1207 (by decide) (fun c4 => ?_) (fun c5 => ?_)
      · have H := Ha c4
        refine j_goto (tgt := 1295) d_La_law_1212 (by decide) ?_
        refine j_iinc (v := (p4 + (7 : Int32))) (L' := [some (.ref a0), some (.ref a1), some (.ref a2), some (.ref a3), some (.int ((p4 + (7 : Int32)))), some (.int p5), some (.int s0)]) d_La_law_1295 rfl (by rw [show Int32.ofInt (7) = (7 : Int32) by decide]) (by decide) rfl ?_
        refine j_goto (tgt := 23) d_La_law_1298 (by decide) ?_
        refine j_forget (L' := [some (.ref a0), some (.ref a1), some (.ref a2), some (.ref a3), some (.int ((p4 + (7 : Int32)))), none, none]) ⟨Or.inr rfl, Or.inr rfl, Or.inr rfl, Or.inr rfl, Or.inr rfl, Or.inl rfl, Or.inl rfl, trivial⟩ ?_
        exact H
      · have H := Hb c5
        refine j_iconst (v := 0) d_La_law_1210 (by decide) ?_
        exact j_zret rfl (by decide) d_La_law_1211 H
  · have H := Hb c9
    refine j_iconst (v := 0) d_La_law_1193 (by decide) ?_
    exact j_zret rfl (by decide) d_La_law_1194 H
theorem wp_La_law_1262 {E : EV} {G : GH} {Post : Res → GH → Prop} (a0 : Nat) (a1 : Nat) (a2 : Nat) (a3 : Nat) (p4 : Int32) (p5 : Int32) (s0 : Int32) (H : gT G a2 = 11 ∧ ((gI G 640 a2) = p5 → (¬ p5 = 0 → J E 14 m_La_law 23 [some (.ref a0), some (.ref a1), some (.ref a2), some (.ref a3), some (.int ((p4 + (7 : Int32)))), none, none] [] G Post) ∧ (p5 = 0 → gT G a3 = 22 ∧ IX (0 : Int32) 0 (gN G a3) ∧ ((lg_cmp ((gL G a3 0)) ((Int32.toInt64 s0))) = 0 → J E 14 m_La_law 23 [some (.ref a0), some (.ref a1), some (.ref a2), some (.ref a3), some (.int ((p4 + (7 : Int32)))), none, none] [] G Post) ∧ (¬ (lg_cmp ((gL G a3 0)) ((Int32.toInt64 s0))) = 0 → Post (.inl (some (.int ((0 : Int32))))) G))) ∧ (¬ (gI G 640 a2) = p5 → Post (.inl (some (.int ((0 : Int32))))) G)) : J E 14 m_La_law 1262 [some (.ref a0), some (.ref a1), some (.ref a2), some (.ref a3), some (.int p4), some (.int p5), none] [.int s0] G Post := by
  refine j_istore (L' := [some (.ref a0), some (.ref a1), some (.ref a2), some (.ref a3), some (.int p4), some (.int p5), some (.int s0)]) d_La_law_1262 (by decide) rfl ?_
  refine j_aload_n d_La_law_1264 rfl ?_
  obtain ⟨t1, H⟩ := H
  refine j_callV (d' := 1) (ci := 10) (As := []) (rest := []) (b := a2) cv_La_80 me_Mo_thrown rfl (by decide) rfl rfl t1 rfl rfl (Nat.le_of_ble_eq_true rfl) d_La_law_1265 (by decide) rfl (j_enter (L := [some (.ref a2)]) me_Mo_thrown (cat_c rfl cat_n) (Nat.le_of_ble_eq_true rfl) rfl ?_)
  refine j_aload_n d_Mo_thrown_0 rfl ?_
  refine j_getI (f := 640) fe_Mo_139 rfl rfl t1 d_Mo_thrown_1 ?_
  refine j_iret rfl d_Mo_thrown_4 ?_
  show J E 14 m_La_law 1268 [some (.ref a0), some (.ref a1), some (.ref a2), some (.ref a3), some (.int p4), some (.int p5), some (.int s0)] [.int ((gI G 640 a2))] G Post
  refine j_iload d_La_law_1268 rfl ?_
  obtain ⟨Ha, Hb⟩ := H
  refine j_icmp_eq (tgt := 1275) d_La_law_1270 (by decide) (fun c8 => ?_) (fun c9 => ?_)
  · have H := Ha c8
    refine j_iload d_La_law_1275 rfl ?_
    obtain ⟨Ha, Hb⟩ := H
    refine j_if_ne (tgt := 1292) d_La_law_1277 (by decide) (fun c6 => ?_) (fun c7 => ?_)
    · have H := Ha c6
      refine j_goto (tgt := 1295) d_La_law_1292 (by decide) ?_
      refine j_iinc (v := (p4 + (7 : Int32))) (L' := [some (.ref a0), some (.ref a1), some (.ref a2), some (.ref a3), some (.int ((p4 + (7 : Int32)))), some (.int p5), some (.int s0)]) d_La_law_1295 rfl (by rw [show Int32.ofInt (7) = (7 : Int32) by decide]) (by decide) rfl ?_
      refine j_goto (tgt := 23) d_La_law_1298 (by decide) ?_
      refine j_forget (L' := [some (.ref a0), some (.ref a1), some (.ref a2), some (.ref a3), some (.int ((p4 + (7 : Int32)))), none, none]) ⟨Or.inr rfl, Or.inr rfl, Or.inr rfl, Or.inr rfl, Or.inr rfl, Or.inl rfl, Or.inl rfl, trivial⟩ ?_
      exact H
    · have H := Hb c7
      refine j_aload_n d_La_law_1280 rfl ?_
      refine j_iconst (v := 0) d_La_law_1281 (by decide) ?_
      obtain ⟨t2, H⟩ := H
      obtain ⟨x3, H⟩ := H
      refine j_lald (n := 0) t2 x3 d_La_law_1282 ?_
      refine j_iload d_La_law_1283 rfl ?_
      refine j_i2l d_La_law_1285 ?_
      refine j_lcmp d_La_law_1286 ?_
      obtain ⟨Ha, Hb⟩ := H
      refine j_if_eq (tgt := 1292) d_La_law_1287 (by decide) (fun c4 => ?_) (fun c5 => ?_)
      · have H := Ha c4
        refine j_goto (tgt := 1295) d_La_law_1292 (by decide) ?_
        refine j_iinc (v := (p4 + (7 : Int32))) (L' := [some (.ref a0), some (.ref a1), some (.ref a2), some (.ref a3), some (.int ((p4 + (7 : Int32)))), some (.int p5), some (.int s0)]) d_La_law_1295 rfl (by rw [show Int32.ofInt (7) = (7 : Int32) by decide]) (by decide) rfl ?_
        refine j_goto (tgt := 23) d_La_law_1298 (by decide) ?_
        refine j_forget (L' := [some (.ref a0), some (.ref a1), some (.ref a2), some (.ref a3), some (.int ((p4 + (7 : Int32)))), none, none]) ⟨Or.inr rfl, Or.inr rfl, Or.inr rfl, Or.inr rfl, Or.inr rfl, Or.inl rfl, Or.inl rfl, trivial⟩ ?_
        exact H
      · have H := Hb c5
        refine j_iconst (v := 0) d_La_law_1290 (by decide) ?_
        exact j_zret rfl (by decide) d_La_law_1291 H
  · have H := Hb c9
    refine j_iconst (v := 0) d_La_law_1273 (by decide) ?_
    exact j_zret rfl (by decide) d_La_law_1274 H
