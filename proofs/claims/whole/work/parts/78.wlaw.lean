/-! the law, with every call of the reference left as a call; printed by wip/gen/wlaw.py -/
theorem wl_La_law_0 {E : EV} {G : GH} {Post : Res → GH → Prop} (a0 : Nat) (H : ∀ G1, G1 = al G 10 11 → Cl E 6 m_St_init [.ref ((gz G))] G1 (aft E 14 m_La_law 4 [some (.ref a0), none, none, none, none, none, none] [.ref ((gz G))] Post)) : J E 14 m_La_law 0 [some (.ref a0), none, none, none, none, none, none] [] G Post := by
  refine j_newT (n := 11) (t := 10) rfl ne_La_8 rfl (by decide) d_La_law_0 ?_
  show J E 14 m_La_law 3 [some (.ref a0), none, none, none, none, none, none] [.ref ((gz G))] (al G 10 11) Post
  generalize e2 : al G 10 11 = G1
  have e2 := e2.symm
  have H := H G1 e2
  refine j_dup d_La_law_3 rfl ?_
  exact j_callI (d' := 6) (As := []) (rest := [.ref ((gz G))]) (b := ((gz G))) ci_La_70 me_St_init rfl rfl (by decide) rfl rfl (Nat.le_of_ble_eq_true rfl) d_La_law_4 (by decide) rfl H
theorem wl_La_law_7 {E : EV} {G : GH} {Post : Res → GH → Prop} (a0 : Nat) (u0 : Nat) (H : ∀ G1, G1 = al G 11 58 → Cl E 1 m_Mo_init [.ref ((gz G))] G1 (aft E 14 m_La_law 12 [some (.ref a0), some (.ref u0), none, none, none, none, none] [.ref ((gz G))] Post)) : J E 14 m_La_law 7 [some (.ref a0), none, none, none, none, none, none] [.ref u0] G Post := by
  refine j_astore_n (x := (some u0)) (L' := [some (.ref a0), some (.ref u0), none, none, none, none, none]) rfl d_La_law_7 (by decide) rfl ?_
  refine j_newT (n := 58) (t := 11) rfl ne_La_71 rfl (by decide) d_La_law_8 ?_
  show J E 14 m_La_law 11 [some (.ref a0), some (.ref u0), none, none, none, none, none] [.ref ((gz G))] (al G 11 58) Post
  generalize e2 : al G 11 58 = G1
  have e2 := e2.symm
  have H := H G1 e2
  refine j_dup d_La_law_11 rfl ?_
  exact j_callI (d' := 1) (As := []) (rest := [.ref ((gz G))]) (b := ((gz G))) ci_La_73 me_Mo_init rfl rfl (by decide) rfl rfl (Nat.le_of_ble_eq_true rfl) d_La_law_12 (by decide) rfl H
theorem wl_La_law_15 {E : EV} {G : GH} {Post : Res → GH → Prop} (a0 : Nat) (a1 : Nat) (u0 : Nat) (H : ∀ G1, G1 = al G 22 1 → J E 14 m_La_law 23 [some (.ref a0), some (.ref a1), some (.ref u0), some (.ref ((gz G))), some (.int ((0 : Int32))), none, none] [] G1 Post) : J E 14 m_La_law 15 [some (.ref a0), some (.ref a1), none, none, none, none, none] [.ref u0] G Post := by
  refine j_astore_n (x := (some u0)) (L' := [some (.ref a0), some (.ref a1), some (.ref u0), none, none, none, none]) rfl d_La_law_15 (by decide) rfl ?_
  refine j_iconst (v := 1) d_La_law_16 (by decide) ?_
  refine j_newL (n := 1) (by decide) (by decide) (by decide) wa_long d_La_law_17 ?_
  show J E 14 m_La_law 19 [some (.ref a0), some (.ref a1), some (.ref u0), none, none, none, none] [.ref ((gz G))] (al G 22 1) Post
  generalize e2 : al G 22 1 = G1
  have e2 := e2.symm
  have H := H G1 e2
  refine j_astore_n (x := (some ((gz G)))) (L' := [some (.ref a0), some (.ref a1), some (.ref u0), some (.ref ((gz G))), none, none, none]) rfl d_La_law_19 (by decide) rfl ?_
  refine j_iconst (v := 0) d_La_law_20 (by decide) ?_
  refine j_istore (L' := [some (.ref a0), some (.ref a1), some (.ref u0), some (.ref ((gz G))), some (.int ((0 : Int32))), none, none]) d_La_law_21 (by decide) rfl ?_
  exact H
theorem wl_La_law_23 {E : EV} {G : GH} {Post : Res → GH → Prop} (a0 : Nat) (a1 : Nat) (a2 : Nat) (a3 : Nat) (p4 : Int32) (H : (20 ≤ gT G a0 ∧ gT G a0 ≤ 26) ∧ (((nI (gN G a0)) - (7 : Int32)) < p4 → Post (.inl (some (.int ((1 : Int32))))) G) ∧ (¬ ((nI (gN G a0)) - (7 : Int32)) < p4 → (gT G a0 = 20 ∨ gT G a0 = 25) ∧ ∃ n4, IX p4 n4 (gN G a0) ∧ (((gA G a0 n4) &&& (31 : Int32)) = 0 → ∃ n6, IX ((p4 + (1 : Int32))) n6 (gN G a0) ∧ ∃ n8, IX ((p4 + (2 : Int32))) n8 (gN G a0) ∧ ∃ n10, IX ((p4 + (3 : Int32))) n10 (gN G a0) ∧ ∃ n12, IX ((p4 + (4 : Int32))) n12 (gN G a0) ∧ ∃ n14, IX ((p4 + (5 : Int32))) n14 (gN G a0) ∧ ∃ n16, IX ((p4 + (6 : Int32))) n16 (gN G a0) ∧ ((gA G a0 n16) = 0 → Cl E 3 m_La_job [.ref a1, .int ((gA G a0 n6)), .int ((gA G a0 n8)), .int ((gA G a0 n10)), .int ((gA G a0 n12)), .int ((gA G a0 n14)), .int ((0 : Int32))] G (aft E 14 m_La_law 190 [some (.ref a0), some (.ref a1), some (.ref a2), some (.ref a3), some (.int p4), none, none] [] Post)) ∧ (¬ (gA G a0 n16) = 0 → Cl E 3 m_La_job [.ref a1, .int ((gA G a0 n6)), .int ((gA G a0 n8)), .int ((gA G a0 n10)), .int ((gA G a0 n12)), .int ((gA G a0 n14)), .int ((1 : Int32))] G (aft E 14 m_La_law 190 [some (.ref a0), some (.ref a1), some (.ref a2), some (.ref a3), some (.int p4), none, none] [] Post))) ∧ (((gA G a0 n4) &&& (31 : Int32)) = 1 → ∃ n21, IX ((p4 + (1 : Int32))) n21 (gN G a0) ∧ ∃ n23, IX ((p4 + (2 : Int32))) n23 (gN G a0) ∧ Cl E 3 m_La_slack [.ref a1, .int ((gA G a0 n21)), .int ((gA G a0 n23)), .ref a3] G (aft E 14 m_La_law 272 [some (.ref a0), some (.ref a1), some (.ref a2), some (.ref a3), some (.int p4), none, none] [] Post)) ∧ (((gA G a0 n4) &&& (31 : Int32)) = 2 → ∃ n26, IX ((p4 + (1 : Int32))) n26 (gN G a0) ∧ ∃ n28, IX ((p4 + (2 : Int32))) n28 (gN G a0) ∧ ∃ n30, IX ((p4 + (3 : Int32))) n30 (gN G a0) ∧ ∃ n32, IX ((p4 + (4 : Int32))) n32 (gN G a0) ∧ Cl E 8 m_La_append [.ref a1, .int ((gA G a0 n26)), .int ((gA G a0 n28)), .int ((gA G a0 n30)), .int ((gA G a0 n32)), .ref a3] G (aft E 14 m_La_law 352 [some (.ref a0), some (.ref a1), some (.ref a2), some (.ref a3), some (.int p4), none, none] [] Post)) ∧ (((gA G a0 n4) &&& (31 : Int32)) = 3 → ∃ n35, IX ((p4 + (1 : Int32))) n35 (gN G a0) ∧ Cl E 3 m_La_read [.ref a1, .int ((gA G a0 n35)), .ref a3] G (aft E 14 m_La_law 426 [some (.ref a0), some (.ref a1), some (.ref a2), some (.ref a3), some (.int p4), none, none] [] Post)) ∧ (((gA G a0 n4) &&& (31 : Int32)) = 4 → ∃ n38, IX ((p4 + (1 : Int32))) n38 (gN G a0) ∧ ∃ n40, IX ((p4 + (2 : Int32))) n40 (gN G a0) ∧ ((gA G a0 n40) = 0 → Cl E 11 m_La_idle [.ref a1, .int ((gA G a0 n38)), .int ((0 : Int32)), .ref a3] G (aft E 14 m_La_law 496 [some (.ref a0), some (.ref a1), some (.ref a2), some (.ref a3), some (.int p4), none, none] [] Post)) ∧ (¬ (gA G a0 n40) = 0 → Cl E 11 m_La_idle [.ref a1, .int ((gA G a0 n38)), .int ((1 : Int32)), .ref a3] G (aft E 14 m_La_law 496 [some (.ref a0), some (.ref a1), some (.ref a2), some (.ref a3), some (.int p4), none, none] [] Post))) ∧ (((gA G a0 n4) &&& (31 : Int32)) = 5 → ∃ n45, IX ((p4 + (1 : Int32))) n45 (gN G a0) ∧ Cl E 13 m_La_take [.ref a1, .int ((gA G a0 n45)), .ref a3] G (aft E 14 m_La_law 573 [some (.ref a0), some (.ref a1), some (.ref a2), some (.ref a3), some (.int p4), none, none] [] Post)) ∧ (((gA G a0 n4) &&& (31 : Int32)) = 6 → Cl E 11 m_La_barrier [.ref a1, .ref a3] G (aft E 14 m_La_law 623 [some (.ref a0), some (.ref a1), some (.ref a2), some (.ref a3), some (.int p4), none, none] [] Post)) ∧ (((gA G a0 n4) &&& (31 : Int32)) = 7 → Cl E 3 m_La_confirm [.ref a1, .ref a3] G (aft E 14 m_La_law 667 [some (.ref a0), some (.ref a1), some (.ref a2), some (.ref a3), some (.int p4), none, none] [] Post)) ∧ (((gA G a0 n4) &&& (31 : Int32)) = 8 → gT G a1 = 10 ∧ Cl E 11 m_St_fail [.ref a1] G (aft E 14 m_La_law 710 [some (.ref a0), some (.ref a1), some (.ref a2), some (.ref a3), some (.int p4), none, none] [] Post)) ∧ (((gA G a0 n4) &&& (31 : Int32)) = 9 → ∃ n52, IX ((p4 + (1 : Int32))) n52 (gN G a0) ∧ Cl E 12 m_La_workers [.ref a1, .int ((gA G a0 n52)), .ref a3] G (aft E 14 m_La_law 730 [some (.ref a0), some (.ref a1), some (.ref a2), some (.ref a3), some (.int p4), none, none] [] Post)) ∧ (((gA G a0 n4) &&& (31 : Int32)) = 10 → gT G a1 = 10 ∧ Cl E 1 m_St_watermark [.ref a1] G (aft E 14 m_La_law 779 [some (.ref a0), some (.ref a1), some (.ref a2), some (.ref a3), some (.int p4), none, none] [] Post)) ∧ (((gA G a0 n4) &&& (31 : Int32)) = 11 → ∃ n57, IX ((p4 + (1 : Int32))) n57 (gN G a0) ∧ Cl E 3 m_La_sourceWatermark [.ref a1, .int ((gA G a0 n57)), .ref a3] G (aft E 14 m_La_law 799 [some (.ref a0), some (.ref a1), some (.ref a2), some (.ref a3), some (.int p4), none, none] [] Post)) ∧ (((gA G a0 n4) &&& (31 : Int32)) = 12 → ∃ n60, IX ((p4 + (1 : Int32))) n60 (gN G a0) ∧ Cl E 3 m_La_offset [.ref a1, .int ((gA G a0 n60)), .ref a3] G (aft E 14 m_La_law 855 [some (.ref a0), some (.ref a1), some (.ref a2), some (.ref a3), some (.int p4), none, none] [] Post)) ∧ (((gA G a0 n4) &&& (31 : Int32)) = 13 → ∃ n63, IX ((p4 + (1 : Int32))) n63 (gN G a0) ∧ Cl E 3 m_La_inChannel [.ref a1, .int ((gA G a0 n63)), .ref a3] G (aft E 14 m_La_law 911 [some (.ref a0), some (.ref a1), some (.ref a2), some (.ref a3), some (.int p4), none, none] [] Post)) ∧ (((gA G a0 n4) &&& (31 : Int32)) = 14 → ∃ n66, IX ((p4 + (1 : Int32))) n66 (gN G a0) ∧ Cl E 5 m_La_open [.ref a1, .int ((gA G a0 n66)), .ref a3] G (aft E 14 m_La_law 967 [some (.ref a0), some (.ref a1), some (.ref a2), some (.ref a3), some (.int p4), none, none] [] Post)) ∧ (((gA G a0 n4) &&& (31 : Int32)) = 15 → ∃ n69, IX ((p4 + (1 : Int32))) n69 (gN G a0) ∧ ∃ n71, IX ((p4 + (2 : Int32))) n71 (gN G a0) ∧ Cl E 5 m_La_sumAt [.ref a1, .int ((gA G a0 n69)), .int ((gA G a0 n71)), .ref a3] G (aft E 14 m_La_law 1029 [some (.ref a0), some (.ref a1), some (.ref a2), some (.ref a3), some (.int p4), none, none] [] Post)) ∧ (((gA G a0 n4) &&& (31 : Int32)) = 16 → gT G a1 = 10 ∧ Cl E 1 m_St_dropped [.ref a1] G (aft E 14 m_La_law 1084 [some (.ref a0), some (.ref a1), some (.ref a2), some (.ref a3), some (.int p4), none, none] [] Post)) ∧ (((gA G a0 n4) &&& (31 : Int32)) = 17 → gT G a1 = 10 ∧ Cl E 1 m_St_pairs [.ref a1] G (aft E 14 m_La_law 1097 [some (.ref a0), some (.ref a1), some (.ref a2), some (.ref a3), some (.int p4), none, none] [] Post)) ∧ (((gA G a0 n4) &&& (31 : Int32)) = 18 → gT G a1 = 10 ∧ Cl E 5 m_St_pairsAnew [.ref a1] G (aft E 14 m_La_law 1110 [some (.ref a0), some (.ref a1), some (.ref a2), some (.ref a3), some (.int p4), none, none] [] Post)) ∧ (((gA G a0 n4) &&& (31 : Int32)) = 19 → gT G a1 = 10 ∧ Cl E 1 m_St_uncommitted [.ref a1] G (aft E 14 m_La_law 1123 [some (.ref a0), some (.ref a1), some (.ref a2), some (.ref a3), some (.int p4), none, none] [] Post)) ∧ (((gA G a0 n4) &&& (31 : Int32)) = 20 → ∃ n82, IX ((p4 + (1 : Int32))) n82 (gN G a0) ∧ ∃ n84, IX ((p4 + (2 : Int32))) n84 (gN G a0) ∧ ∃ n86, IX ((p4 + (3 : Int32))) n86 (gN G a0) ∧ Cl E 6 m_La_result [.ref a1, .int ((gA G a0 n82)), .int ((gA G a0 n84)), .int ((gA G a0 n86)), .ref a3] G (aft E 14 m_La_law 1155 [some (.ref a0), some (.ref a1), some (.ref a2), some (.ref a3), some (.int p4), none, none] [] Post)) ∧ (((gA G a0 n4) &&& (31 : Int32)) = 21 → ∃ n89, IX ((p4 + (1 : Int32))) n89 (gN G a0) ∧ ∃ n91, IX ((p4 + (2 : Int32))) n91 (gN G a0) ∧ ∃ n93, IX ((p4 + (3 : Int32))) n93 (gN G a0) ∧ Cl E 8 m_La_resultAnew [.ref a1, .int ((gA G a0 n89)), .int ((gA G a0 n91)), .int ((gA G a0 n93)), .ref a3] G (aft E 14 m_La_law 1235 [some (.ref a0), some (.ref a1), some (.ref a2), some (.ref a3), some (.int p4), none, none] [] Post)) ∧ ((¬ ((gA G a0 n4) &&& (31 : Int32)) = 0 ∧ ¬ ((gA G a0 n4) &&& (31 : Int32)) = 1 ∧ ¬ ((gA G a0 n4) &&& (31 : Int32)) = 2 ∧ ¬ ((gA G a0 n4) &&& (31 : Int32)) = 3 ∧ ¬ ((gA G a0 n4) &&& (31 : Int32)) = 4 ∧ ¬ ((gA G a0 n4) &&& (31 : Int32)) = 5 ∧ ¬ ((gA G a0 n4) &&& (31 : Int32)) = 6 ∧ ¬ ((gA G a0 n4) &&& (31 : Int32)) = 7 ∧ ¬ ((gA G a0 n4) &&& (31 : Int32)) = 8 ∧ ¬ ((gA G a0 n4) &&& (31 : Int32)) = 9 ∧ ¬ ((gA G a0 n4) &&& (31 : Int32)) = 10 ∧ ¬ ((gA G a0 n4) &&& (31 : Int32)) = 11 ∧ ¬ ((gA G a0 n4) &&& (31 : Int32)) = 12 ∧ ¬ ((gA G a0 n4) &&& (31 : Int32)) = 13 ∧ ¬ ((gA G a0 n4) &&& (31 : Int32)) = 14 ∧ ¬ ((gA G a0 n4) &&& (31 : Int32)) = 15 ∧ ¬ ((gA G a0 n4) &&& (31 : Int32)) = 16 ∧ ¬ ((gA G a0 n4) &&& (31 : Int32)) = 17 ∧ ¬ ((gA G a0 n4) &&& (31 : Int32)) = 18 ∧ ¬ ((gA G a0 n4) &&& (31 : Int32)) = 19 ∧ ¬ ((gA G a0 n4) &&& (31 : Int32)) = 20 ∧ ¬ ((gA G a0 n4) &&& (31 : Int32)) = 21) → (Int32.toInt (((gA G a0 n4) &&& (31 : Int32))) < 0 ∨ 21 < Int32.toInt (((gA G a0 n4) &&& (31 : Int32)))) ∧ J E 14 m_La_law 23 [some (.ref a0), some (.ref a1), some (.ref a2), some (.ref a3), some (.int ((p4 + (7 : Int32)))), none, none] [] G Post))) : J E 14 m_La_law 23 [some (.ref a0), some (.ref a1), some (.ref a2), some (.ref a3), some (.int p4), none, none] [] G Post := by
  refine j_iload d_La_law_23 rfl ?_
  refine j_aload_n d_La_law_25 rfl ?_
  obtain ⟨t1, H⟩ := H
  refine j_alen t1 d_La_law_26 ?_
  refine j_bipush (v := 7) d_La_law_27 (by decide) ?_
  refine j_isub d_La_law_29 ?_
  obtain ⟨Ha, Hb⟩ := H
  refine j_icmp_gt (tgt := 1301) d_La_law_30 (by decide) (fun c96 => ?_) (fun c97 => ?_)
  · have H := Ha c96
    refine j_iconst (v := 1) d_La_law_1301 (by decide) ?_
    exact j_zret rfl (by decide) d_La_law_1302 H
  · have H := Hb c97
    refine j_aload_n d_La_law_33 rfl ?_
    refine j_iload d_La_law_34 rfl ?_
    obtain ⟨t2, H⟩ := H
    obtain ⟨n4, x3, H⟩ := H
    refine j_iald (n := n4) t2 x3 d_La_law_36 ?_
    refine j_bipush (v := 31) d_La_law_37 (by decide) ?_
    refine j_iand d_La_law_39 ?_
    obtain ⟨H0, H1, H2, H3, H4, H5, H6, H7, H8, H9, H10, H11, H12, H13, H14, H15, H16, H17, H18, H19, H20, H21, Hd⟩ := H
    by_cases c19 : ((gA G a0 n4) &&& (31 : Int32)) = 0
    · have H := H0 c19
      rw [c19]
      refine j_tableIn (off := 104) (tgt := 144) d_La_law_40 (by decide) (by decide) (by decide) (by decide) ?_
      refine j_aload_n d_La_law_144 rfl ?_
      refine j_aload_n d_La_law_145 rfl ?_
      refine j_iload d_La_law_146 rfl ?_
      refine j_iconst (v := 1) d_La_law_148 (by decide) ?_
      refine j_iadd d_La_law_149 ?_
      obtain ⟨n6, x5, H⟩ := H
      refine j_iald (n := n6) t2 x5 d_La_law_150 ?_
      refine j_aload_n d_La_law_151 rfl ?_
      refine j_iload d_La_law_152 rfl ?_
      refine j_iconst (v := 2) d_La_law_154 (by decide) ?_
      refine j_iadd d_La_law_155 ?_
      obtain ⟨n8, x7, H⟩ := H
      refine j_iald (n := n8) t2 x7 d_La_law_156 ?_
      refine j_aload_n d_La_law_157 rfl ?_
      refine j_iload d_La_law_158 rfl ?_
      refine j_iconst (v := 3) d_La_law_160 (by decide) ?_
      refine j_iadd d_La_law_161 ?_
      obtain ⟨n10, x9, H⟩ := H
      refine j_iald (n := n10) t2 x9 d_La_law_162 ?_
      refine j_aload_n d_La_law_163 rfl ?_
      refine j_iload d_La_law_164 rfl ?_
      refine j_iconst (v := 4) d_La_law_166 (by decide) ?_
      refine j_iadd d_La_law_167 ?_
      obtain ⟨n12, x11, H⟩ := H
      refine j_iald (n := n12) t2 x11 d_La_law_168 ?_
      refine j_aload_n d_La_law_169 rfl ?_
      refine j_iload d_La_law_170 rfl ?_
      refine j_iconst (v := 5) d_La_law_172 (by decide) ?_
      refine j_iadd d_La_law_173 ?_
      obtain ⟨n14, x13, H⟩ := H
      refine j_iald (n := n14) t2 x13 d_La_law_174 ?_
      refine j_aload_n d_La_law_175 rfl ?_
      refine j_iload d_La_law_176 rfl ?_
      refine j_bipush (v := 6) d_La_law_178 (by decide) ?_
      refine j_iadd d_La_law_180 ?_
      obtain ⟨n16, x15, H⟩ := H
      refine j_iald (n := n16) t2 x15 d_La_law_181 ?_
      obtain ⟨Ha, Hb⟩ := H
      refine j_if_eq (tgt := 189) d_La_law_182 (by decide) (fun c17 => ?_) (fun c18 => ?_)
      · have H := Ha c17
        refine j_iconst (v := 0) d_La_law_189 (by decide) ?_
        exact j_callSX (d' := 3) (As := [.ref a1, .int ((gA G a0 n6)), .int ((gA G a0 n8)), .int ((gA G a0 n10)), .int ((gA G a0 n12)), .int ((gA G a0 n14)), .int ((0 : Int32))]) (rest := []) cs_La_74 me_La_job ⟨_, _, rfl⟩ (by decide) rfl rfl (Nat.le_of_ble_eq_true rfl) d_La_law_190 (by decide) rfl H
      · have H := Hb c18
        refine j_iconst (v := 1) d_La_law_185 (by decide) ?_
        refine j_goto (tgt := 190) d_La_law_186 (by decide) ?_
        exact j_callSX (d' := 3) (As := [.ref a1, .int ((gA G a0 n6)), .int ((gA G a0 n8)), .int ((gA G a0 n10)), .int ((gA G a0 n12)), .int ((gA G a0 n14)), .int ((1 : Int32))]) (rest := []) cs_La_74 me_La_job ⟨_, _, rfl⟩ (by decide) rfl rfl (Nat.le_of_ble_eq_true rfl) d_La_law_190 (by decide) rfl H
    by_cases c24 : ((gA G a0 n4) &&& (31 : Int32)) = 1
    · have H := H1 c24
      rw [c24]
      refine j_tableIn (off := 218) (tgt := 258) d_La_law_40 (by decide) (by decide) (by decide) (by decide) ?_
      refine j_aload_n d_La_law_258 rfl ?_
      refine j_aload_n d_La_law_259 rfl ?_
      refine j_iload d_La_law_260 rfl ?_
      refine j_iconst (v := 1) d_La_law_262 (by decide) ?_
      refine j_iadd d_La_law_263 ?_
      obtain ⟨n21, x20, H⟩ := H
      refine j_iald (n := n21) t2 x20 d_La_law_264 ?_
      refine j_aload_n d_La_law_265 rfl ?_
      refine j_iload d_La_law_266 rfl ?_
      refine j_iconst (v := 2) d_La_law_268 (by decide) ?_
      refine j_iadd d_La_law_269 ?_
      obtain ⟨n23, x22, H⟩ := H
      refine j_iald (n := n23) t2 x22 d_La_law_270 ?_
      refine j_aload_n d_La_law_271 rfl ?_
      exact j_callSX (d' := 3) (As := [.ref a1, .int ((gA G a0 n21)), .int ((gA G a0 n23)), .ref a3]) (rest := []) cs_La_83 me_La_slack ⟨_, _, rfl⟩ (by decide) rfl rfl (Nat.le_of_ble_eq_true rfl) d_La_law_272 (by decide) rfl H
    by_cases c33 : ((gA G a0 n4) &&& (31 : Int32)) = 2
    · have H := H2 c33
      rw [c33]
      refine j_tableIn (off := 286) (tgt := 326) d_La_law_40 (by decide) (by decide) (by decide) (by decide) ?_
      refine j_aload_n d_La_law_326 rfl ?_
      refine j_aload_n d_La_law_327 rfl ?_
      refine j_iload d_La_law_328 rfl ?_
      refine j_iconst (v := 1) d_La_law_330 (by decide) ?_
      refine j_iadd d_La_law_331 ?_
      obtain ⟨n26, x25, H⟩ := H
      refine j_iald (n := n26) t2 x25 d_La_law_332 ?_
      refine j_aload_n d_La_law_333 rfl ?_
      refine j_iload d_La_law_334 rfl ?_
      refine j_iconst (v := 2) d_La_law_336 (by decide) ?_
      refine j_iadd d_La_law_337 ?_
      obtain ⟨n28, x27, H⟩ := H
      refine j_iald (n := n28) t2 x27 d_La_law_338 ?_
      refine j_aload_n d_La_law_339 rfl ?_
      refine j_iload d_La_law_340 rfl ?_
      refine j_iconst (v := 3) d_La_law_342 (by decide) ?_
      refine j_iadd d_La_law_343 ?_
      obtain ⟨n30, x29, H⟩ := H
      refine j_iald (n := n30) t2 x29 d_La_law_344 ?_
      refine j_aload_n d_La_law_345 rfl ?_
      refine j_iload d_La_law_346 rfl ?_
      refine j_iconst (v := 4) d_La_law_348 (by decide) ?_
      refine j_iadd d_La_law_349 ?_
      obtain ⟨n32, x31, H⟩ := H
      refine j_iald (n := n32) t2 x31 d_La_law_350 ?_
      refine j_aload_n d_La_law_351 rfl ?_
      exact j_callSX (d' := 8) (As := [.ref a1, .int ((gA G a0 n26)), .int ((gA G a0 n28)), .int ((gA G a0 n30)), .int ((gA G a0 n32)), .ref a3]) (rest := []) cs_La_87 me_La_append ⟨_, _, rfl⟩ (by decide) rfl rfl (Nat.le_of_ble_eq_true rfl) d_La_law_352 (by decide) rfl H
    by_cases c36 : ((gA G a0 n4) &&& (31 : Int32)) = 3
    · have H := H3 c36
      rw [c36]
      refine j_tableIn (off := 378) (tgt := 418) d_La_law_40 (by decide) (by decide) (by decide) (by decide) ?_
      refine j_aload_n d_La_law_418 rfl ?_
      refine j_aload_n d_La_law_419 rfl ?_
      refine j_iload d_La_law_420 rfl ?_
      refine j_iconst (v := 1) d_La_law_422 (by decide) ?_
      refine j_iadd d_La_law_423 ?_
      obtain ⟨n35, x34, H⟩ := H
      refine j_iald (n := n35) t2 x34 d_La_law_424 ?_
      refine j_aload_n d_La_law_425 rfl ?_
      exact j_callSX (d' := 3) (As := [.ref a1, .int ((gA G a0 n35)), .ref a3]) (rest := []) cs_La_91 me_La_read ⟨_, _, rfl⟩ (by decide) rfl rfl (Nat.le_of_ble_eq_true rfl) d_La_law_426 (by decide) rfl H
    by_cases c43 : ((gA G a0 n4) &&& (31 : Int32)) = 4
    · have H := H4 c43
      rw [c43]
      refine j_tableIn (off := 434) (tgt := 474) d_La_law_40 (by decide) (by decide) (by decide) (by decide) ?_
      refine j_aload_n d_La_law_474 rfl ?_
      refine j_aload_n d_La_law_475 rfl ?_
      refine j_iload d_La_law_476 rfl ?_
      refine j_iconst (v := 1) d_La_law_478 (by decide) ?_
      refine j_iadd d_La_law_479 ?_
      obtain ⟨n38, x37, H⟩ := H
      refine j_iald (n := n38) t2 x37 d_La_law_480 ?_
      refine j_aload_n d_La_law_481 rfl ?_
      refine j_iload d_La_law_482 rfl ?_
      refine j_iconst (v := 2) d_La_law_484 (by decide) ?_
      refine j_iadd d_La_law_485 ?_
      obtain ⟨n40, x39, H⟩ := H
      refine j_iald (n := n40) t2 x39 d_La_law_486 ?_
      obtain ⟨Ha, Hb⟩ := H
      refine j_if_eq (tgt := 494) d_La_law_487 (by decide) (fun c41 => ?_) (fun c42 => ?_)
      · have H := Ha c41
        refine j_iconst (v := 0) d_La_law_494 (by decide) ?_
        refine j_aload_n d_La_law_495 rfl ?_
        exact j_callSX (d' := 11) (As := [.ref a1, .int ((gA G a0 n38)), .int ((0 : Int32)), .ref a3]) (rest := []) cs_La_95 me_La_idle ⟨_, _, rfl⟩ (by decide) rfl rfl (Nat.le_of_ble_eq_true rfl) d_La_law_496 (by decide) rfl H
      · have H := Hb c42
        refine j_iconst (v := 1) d_La_law_490 (by decide) ?_
        refine j_goto (tgt := 495) d_La_law_491 (by decide) ?_
        refine j_aload_n d_La_law_495 rfl ?_
        exact j_callSX (d' := 11) (As := [.ref a1, .int ((gA G a0 n38)), .int ((1 : Int32)), .ref a3]) (rest := []) cs_La_95 me_La_idle ⟨_, _, rfl⟩ (by decide) rfl rfl (Nat.le_of_ble_eq_true rfl) d_La_law_496 (by decide) rfl H
    by_cases c46 : ((gA G a0 n4) &&& (31 : Int32)) = 5
    · have H := H5 c46
      rw [c46]
      refine j_tableIn (off := 525) (tgt := 565) d_La_law_40 (by decide) (by decide) (by decide) (by decide) ?_
      refine j_aload_n d_La_law_565 rfl ?_
      refine j_aload_n d_La_law_566 rfl ?_
      refine j_iload d_La_law_567 rfl ?_
      refine j_iconst (v := 1) d_La_law_569 (by decide) ?_
      refine j_iadd d_La_law_570 ?_
      obtain ⟨n45, x44, H⟩ := H
      refine j_iald (n := n45) t2 x44 d_La_law_571 ?_
      refine j_aload_n d_La_law_572 rfl ?_
      exact j_callSX (d' := 13) (As := [.ref a1, .int ((gA G a0 n45)), .ref a3]) (rest := []) cs_La_99 me_La_take ⟨_, _, rfl⟩ (by decide) rfl rfl (Nat.le_of_ble_eq_true rfl) d_La_law_573 (by decide) rfl H
    by_cases c47 : ((gA G a0 n4) &&& (31 : Int32)) = 6
    · have H := H6 c47
      rw [c47]
      refine j_tableIn (off := 581) (tgt := 621) d_La_law_40 (by decide) (by decide) (by decide) (by decide) ?_
      refine j_aload_n d_La_law_621 rfl ?_
      refine j_aload_n d_La_law_622 rfl ?_
      exact j_callSX (d' := 11) (As := [.ref a1, .ref a3]) (rest := []) cs_La_102 me_La_barrier ⟨_, _, rfl⟩ (by decide) rfl rfl (Nat.le_of_ble_eq_true rfl) d_La_law_623 (by decide) rfl H
    by_cases c48 : ((gA G a0 n4) &&& (31 : Int32)) = 7
    · have H := H7 c48
      rw [c48]
      refine j_tableIn (off := 625) (tgt := 665) d_La_law_40 (by decide) (by decide) (by decide) (by decide) ?_
      refine j_aload_n d_La_law_665 rfl ?_
      refine j_aload_n d_La_law_666 rfl ?_
      exact j_callSX (d' := 3) (As := [.ref a1, .ref a3]) (rest := []) cs_La_106 me_La_confirm ⟨_, _, rfl⟩ (by decide) rfl rfl (Nat.le_of_ble_eq_true rfl) d_La_law_667 (by decide) rfl H
    by_cases c50 : ((gA G a0 n4) &&& (31 : Int32)) = 8
    · have H := H8 c50
      rw [c50]
      refine j_tableIn (off := 669) (tgt := 709) d_La_law_40 (by decide) (by decide) (by decide) (by decide) ?_
      refine j_aload_n d_La_law_709 rfl ?_
      obtain ⟨t49, H⟩ := H
      exact j_callV (d' := 11) (ci := 9) (As := []) (rest := []) (b := a1) cv_La_109 me_St_fail rfl (by decide) rfl rfl t49 rfl rfl (Nat.le_of_ble_eq_true rfl) d_La_law_710 (by decide) rfl H
    by_cases c53 : ((gA G a0 n4) &&& (31 : Int32)) = 9
    · have H := H9 c53
      rw [c53]
      refine j_tableIn (off := 682) (tgt := 722) d_La_law_40 (by decide) (by decide) (by decide) (by decide) ?_
      refine j_aload_n d_La_law_722 rfl ?_
      refine j_aload_n d_La_law_723 rfl ?_
      refine j_iload d_La_law_724 rfl ?_
      refine j_iconst (v := 1) d_La_law_726 (by decide) ?_
      refine j_iadd d_La_law_727 ?_
      obtain ⟨n52, x51, H⟩ := H
      refine j_iald (n := n52) t2 x51 d_La_law_728 ?_
      refine j_aload_n d_La_law_729 rfl ?_
      exact j_callSX (d' := 12) (As := [.ref a1, .int ((gA G a0 n52)), .ref a3]) (rest := []) cs_La_113 me_La_workers ⟨_, _, rfl⟩ (by decide) rfl rfl (Nat.le_of_ble_eq_true rfl) d_La_law_730 (by decide) rfl H
    by_cases c55 : ((gA G a0 n4) &&& (31 : Int32)) = 10
    · have H := H10 c55
      rw [c55]
      refine j_tableIn (off := 738) (tgt := 778) d_La_law_40 (by decide) (by decide) (by decide) (by decide) ?_
      refine j_aload_n d_La_law_778 rfl ?_
      obtain ⟨t54, H⟩ := H
      exact j_callV (d' := 1) (ci := 9) (As := []) (rest := []) (b := a1) cv_La_116 me_St_watermark rfl (by decide) rfl rfl t54 rfl rfl (Nat.le_of_ble_eq_true rfl) d_La_law_779 (by decide) rfl H
    by_cases c58 : ((gA G a0 n4) &&& (31 : Int32)) = 11
    · have H := H11 c58
      rw [c58]
      refine j_tableIn (off := 751) (tgt := 791) d_La_law_40 (by decide) (by decide) (by decide) (by decide) ?_
      refine j_aload_n d_La_law_791 rfl ?_
      refine j_aload_n d_La_law_792 rfl ?_
      refine j_iload d_La_law_793 rfl ?_
      refine j_iconst (v := 1) d_La_law_795 (by decide) ?_
      refine j_iadd d_La_law_796 ?_
      obtain ⟨n57, x56, H⟩ := H
      refine j_iald (n := n57) t2 x56 d_La_law_797 ?_
      refine j_aload_n d_La_law_798 rfl ?_
      exact j_callSX (d' := 3) (As := [.ref a1, .int ((gA G a0 n57)), .ref a3]) (rest := []) cs_La_120 me_La_sourceWatermark ⟨_, _, rfl⟩ (by decide) rfl rfl (Nat.le_of_ble_eq_true rfl) d_La_law_799 (by decide) rfl H
    by_cases c61 : ((gA G a0 n4) &&& (31 : Int32)) = 12
    · have H := H12 c61
      rw [c61]
      refine j_tableIn (off := 807) (tgt := 847) d_La_law_40 (by decide) (by decide) (by decide) (by decide) ?_
      refine j_aload_n d_La_law_847 rfl ?_
      refine j_aload_n d_La_law_848 rfl ?_
      refine j_iload d_La_law_849 rfl ?_
      refine j_iconst (v := 1) d_La_law_851 (by decide) ?_
      refine j_iadd d_La_law_852 ?_
      obtain ⟨n60, x59, H⟩ := H
      refine j_iald (n := n60) t2 x59 d_La_law_853 ?_
      refine j_aload_n d_La_law_854 rfl ?_
      exact j_callSX (d' := 3) (As := [.ref a1, .int ((gA G a0 n60)), .ref a3]) (rest := []) cs_La_123 me_La_offset ⟨_, _, rfl⟩ (by decide) rfl rfl (Nat.le_of_ble_eq_true rfl) d_La_law_855 (by decide) rfl H
    by_cases c64 : ((gA G a0 n4) &&& (31 : Int32)) = 13
    · have H := H13 c64
      rw [c64]
      refine j_tableIn (off := 863) (tgt := 903) d_La_law_40 (by decide) (by decide) (by decide) (by decide) ?_
      refine j_aload_n d_La_law_903 rfl ?_
      refine j_aload_n d_La_law_904 rfl ?_
      refine j_iload d_La_law_905 rfl ?_
      refine j_iconst (v := 1) d_La_law_907 (by decide) ?_
      refine j_iadd d_La_law_908 ?_
      obtain ⟨n63, x62, H⟩ := H
      refine j_iald (n := n63) t2 x62 d_La_law_909 ?_
      refine j_aload_n d_La_law_910 rfl ?_
      exact j_callSX (d' := 3) (As := [.ref a1, .int ((gA G a0 n63)), .ref a3]) (rest := []) cs_La_126 me_La_inChannel ⟨_, _, rfl⟩ (by decide) rfl rfl (Nat.le_of_ble_eq_true rfl) d_La_law_911 (by decide) rfl H
    by_cases c67 : ((gA G a0 n4) &&& (31 : Int32)) = 14
    · have H := H14 c67
      rw [c67]
      refine j_tableIn (off := 919) (tgt := 959) d_La_law_40 (by decide) (by decide) (by decide) (by decide) ?_
      refine j_aload_n d_La_law_959 rfl ?_
      refine j_aload_n d_La_law_960 rfl ?_
      refine j_iload d_La_law_961 rfl ?_
      refine j_iconst (v := 1) d_La_law_963 (by decide) ?_
      refine j_iadd d_La_law_964 ?_
      obtain ⟨n66, x65, H⟩ := H
      refine j_iald (n := n66) t2 x65 d_La_law_965 ?_
      refine j_aload_n d_La_law_966 rfl ?_
      exact j_callSX (d' := 5) (As := [.ref a1, .int ((gA G a0 n66)), .ref a3]) (rest := []) cs_La_129 me_La_open ⟨_, _, rfl⟩ (by decide) rfl rfl (Nat.le_of_ble_eq_true rfl) d_La_law_967 (by decide) rfl H
    by_cases c72 : ((gA G a0 n4) &&& (31 : Int32)) = 15
    · have H := H15 c72
      rw [c72]
      refine j_tableIn (off := 975) (tgt := 1015) d_La_law_40 (by decide) (by decide) (by decide) (by decide) ?_
      refine j_aload_n d_La_law_1015 rfl ?_
      refine j_aload_n d_La_law_1016 rfl ?_
      refine j_iload d_La_law_1017 rfl ?_
      refine j_iconst (v := 1) d_La_law_1019 (by decide) ?_
      refine j_iadd d_La_law_1020 ?_
      obtain ⟨n69, x68, H⟩ := H
      refine j_iald (n := n69) t2 x68 d_La_law_1021 ?_
      refine j_aload_n d_La_law_1022 rfl ?_
      refine j_iload d_La_law_1023 rfl ?_
      refine j_iconst (v := 2) d_La_law_1025 (by decide) ?_
      refine j_iadd d_La_law_1026 ?_
      obtain ⟨n71, x70, H⟩ := H
      refine j_iald (n := n71) t2 x70 d_La_law_1027 ?_
      refine j_aload_n d_La_law_1028 rfl ?_
      exact j_callSX (d' := 5) (As := [.ref a1, .int ((gA G a0 n69)), .int ((gA G a0 n71)), .ref a3]) (rest := []) cs_La_132 me_La_sumAt ⟨_, _, rfl⟩ (by decide) rfl rfl (Nat.le_of_ble_eq_true rfl) d_La_law_1029 (by decide) rfl H
    by_cases c74 : ((gA G a0 n4) &&& (31 : Int32)) = 16
    · have H := H16 c74
      rw [c74]
      refine j_tableIn (off := 1043) (tgt := 1083) d_La_law_40 (by decide) (by decide) (by decide) (by decide) ?_
      refine j_aload_n d_La_law_1083 rfl ?_
      obtain ⟨t73, H⟩ := H
      exact j_callV (d' := 1) (ci := 9) (As := []) (rest := []) (b := a1) cv_La_135 me_St_dropped rfl (by decide) rfl rfl t73 rfl rfl (Nat.le_of_ble_eq_true rfl) d_La_law_1084 (by decide) rfl H
    by_cases c76 : ((gA G a0 n4) &&& (31 : Int32)) = 17
    · have H := H17 c76
      rw [c76]
      refine j_tableIn (off := 1056) (tgt := 1096) d_La_law_40 (by decide) (by decide) (by decide) (by decide) ?_
      refine j_aload_n d_La_law_1096 rfl ?_
      obtain ⟨t75, H⟩ := H
      exact j_callV (d' := 1) (ci := 9) (As := []) (rest := []) (b := a1) cv_La_139 me_St_pairs rfl (by decide) rfl rfl t75 rfl rfl (Nat.le_of_ble_eq_true rfl) d_La_law_1097 (by decide) rfl H
    by_cases c78 : ((gA G a0 n4) &&& (31 : Int32)) = 18
    · have H := H18 c78
      rw [c78]
      refine j_tableIn (off := 1069) (tgt := 1109) d_La_law_40 (by decide) (by decide) (by decide) (by decide) ?_
      refine j_aload_n d_La_law_1109 rfl ?_
      obtain ⟨t77, H⟩ := H
      exact j_callV (d' := 5) (ci := 9) (As := []) (rest := []) (b := a1) cv_La_143 me_St_pairsAnew rfl (by decide) rfl rfl t77 rfl rfl (Nat.le_of_ble_eq_true rfl) d_La_law_1110 (by decide) rfl H
    by_cases c80 : ((gA G a0 n4) &&& (31 : Int32)) = 19
    · have H := H19 c80
      rw [c80]
      refine j_tableIn (off := 1082) (tgt := 1122) d_La_law_40 (by decide) (by decide) (by decide) (by decide) ?_
      refine j_aload_n d_La_law_1122 rfl ?_
      obtain ⟨t79, H⟩ := H
      exact j_callV (d' := 1) (ci := 9) (As := []) (rest := []) (b := a1) cv_La_147 me_St_uncommitted rfl (by decide) rfl rfl t79 rfl rfl (Nat.le_of_ble_eq_true rfl) d_La_law_1123 (by decide) rfl H
    by_cases c87 : ((gA G a0 n4) &&& (31 : Int32)) = 20
    · have H := H20 c87
      rw [c87]
      refine j_tableIn (off := 1095) (tgt := 1135) d_La_law_40 (by decide) (by decide) (by decide) (by decide) ?_
      refine j_aload_n d_La_law_1135 rfl ?_
      refine j_aload_n d_La_law_1136 rfl ?_
      refine j_iload d_La_law_1137 rfl ?_
      refine j_iconst (v := 1) d_La_law_1139 (by decide) ?_
      refine j_iadd d_La_law_1140 ?_
      obtain ⟨n82, x81, H⟩ := H
      refine j_iald (n := n82) t2 x81 d_La_law_1141 ?_
      refine j_aload_n d_La_law_1142 rfl ?_
      refine j_iload d_La_law_1143 rfl ?_
      refine j_iconst (v := 2) d_La_law_1145 (by decide) ?_
      refine j_iadd d_La_law_1146 ?_
      obtain ⟨n84, x83, H⟩ := H
      refine j_iald (n := n84) t2 x83 d_La_law_1147 ?_
      refine j_aload_n d_La_law_1148 rfl ?_
      refine j_iload d_La_law_1149 rfl ?_
      refine j_iconst (v := 3) d_La_law_1151 (by decide) ?_
      refine j_iadd d_La_law_1152 ?_
      obtain ⟨n86, x85, H⟩ := H
      refine j_iald (n := n86) t2 x85 d_La_law_1153 ?_
      refine j_aload_n d_La_law_1154 rfl ?_
      exact j_callSX (d' := 6) (As := [.ref a1, .int ((gA G a0 n82)), .int ((gA G a0 n84)), .int ((gA G a0 n86)), .ref a3]) (rest := []) cs_La_151 me_La_result ⟨_, _, rfl⟩ (by decide) rfl rfl (Nat.le_of_ble_eq_true rfl) d_La_law_1155 (by decide) rfl H
    by_cases c94 : ((gA G a0 n4) &&& (31 : Int32)) = 21
    · have H := H21 c94
      rw [c94]
      refine j_tableIn (off := 1175) (tgt := 1215) d_La_law_40 (by decide) (by decide) (by decide) (by decide) ?_
      refine j_aload_n d_La_law_1215 rfl ?_
      refine j_aload_n d_La_law_1216 rfl ?_
      refine j_iload d_La_law_1217 rfl ?_
      refine j_iconst (v := 1) d_La_law_1219 (by decide) ?_
      refine j_iadd d_La_law_1220 ?_
      obtain ⟨n89, x88, H⟩ := H
      refine j_iald (n := n89) t2 x88 d_La_law_1221 ?_
      refine j_aload_n d_La_law_1222 rfl ?_
      refine j_iload d_La_law_1223 rfl ?_
      refine j_iconst (v := 2) d_La_law_1225 (by decide) ?_
      refine j_iadd d_La_law_1226 ?_
      obtain ⟨n91, x90, H⟩ := H
      refine j_iald (n := n91) t2 x90 d_La_law_1227 ?_
      refine j_aload_n d_La_law_1228 rfl ?_
      refine j_iload d_La_law_1229 rfl ?_
      refine j_iconst (v := 3) d_La_law_1231 (by decide) ?_
      refine j_iadd d_La_law_1232 ?_
      obtain ⟨n93, x92, H⟩ := H
      refine j_iald (n := n93) t2 x92 d_La_law_1233 ?_
      refine j_aload_n d_La_law_1234 rfl ?_
      exact j_callSX (d' := 8) (As := [.ref a1, .int ((gA G a0 n89)), .int ((gA G a0 n91)), .int ((gA G a0 n93)), .ref a3]) (rest := []) cs_La_155 me_La_resultAnew ⟨_, _, rfl⟩ (by decide) rfl rfl (Nat.le_of_ble_eq_true rfl) d_La_law_1235 (by decide) rfl H
    obtain ⟨o95, H⟩ := Hd ⟨c19, c24, c33, c36, c43, c46, c47, c48, c50, c53, c55, c58, c61, c64, c67, c72, c74, c76, c78, c80, c87, c94⟩
    refine j_tableOut (tgt := 1295) d_La_law_40 o95 (by decide) ?_
    refine j_iinc (v := (p4 + (7 : Int32))) (L' := [some (.ref a0), some (.ref a1), some (.ref a2), some (.ref a3), some (.int ((p4 + (7 : Int32)))), none, none]) d_La_law_1295 rfl (by rw [show Int32.ofInt (7) = (7 : Int32) by decide]) (by decide) rfl ?_
    refine j_goto (tgt := 23) d_La_law_1298 (by decide) ?_
    exact H
theorem wl_La_law_193 {E : EV} {G : GH} {Post : Res → GH → Prop} (a0 : Nat) (a1 : Nat) (a2 : Nat) (a3 : Nat) (p4 : Int32) (s0 : Int32) (H : (gT G a0 = 20 ∨ gT G a0 = 25) ∧ ∃ n3, IX ((p4 + (1 : Int32))) n3 (gN G a0) ∧ ∃ n5, IX ((p4 + (2 : Int32))) n5 (gN G a0) ∧ ∃ n7, IX ((p4 + (3 : Int32))) n7 (gN G a0) ∧ ∃ n9, IX ((p4 + (4 : Int32))) n9 (gN G a0) ∧ ∃ n11, IX ((p4 + (5 : Int32))) n11 (gN G a0) ∧ ∃ n13, IX ((p4 + (6 : Int32))) n13 (gN G a0) ∧ ((gA G a0 n13) = 0 → gT G a2 = 11 ∧ Cl E 2 m_Mo_job [.ref a2, .int ((gA G a0 n3)), .int ((gA G a0 n5)), .int ((gA G a0 n7)), .int ((gA G a0 n9)), .int ((gA G a0 n11)), .int ((0 : Int32))] G (aft E 14 m_La_law 241 [some (.ref a0), some (.ref a1), some (.ref a2), some (.ref a3), some (.int p4), some (.int s0), none] [] Post)) ∧ (¬ (gA G a0 n13) = 0 → gT G a2 = 11 ∧ Cl E 2 m_Mo_job [.ref a2, .int ((gA G a0 n3)), .int ((gA G a0 n5)), .int ((gA G a0 n7)), .int ((gA G a0 n9)), .int ((gA G a0 n11)), .int ((1 : Int32))] G (aft E 14 m_La_law 241 [some (.ref a0), some (.ref a1), some (.ref a2), some (.ref a3), some (.int p4), some (.int s0), none] [] Post))) : J E 14 m_La_law 193 [some (.ref a0), some (.ref a1), some (.ref a2), some (.ref a3), some (.int p4), none, none] [.int s0] G Post := by
  refine j_istore (L' := [some (.ref a0), some (.ref a1), some (.ref a2), some (.ref a3), some (.int p4), some (.int s0), none]) d_La_law_193 (by decide) rfl ?_
  refine j_aload_n d_La_law_195 rfl ?_
  refine j_aload_n d_La_law_196 rfl ?_
  refine j_iload d_La_law_197 rfl ?_
  refine j_iconst (v := 1) d_La_law_199 (by decide) ?_
  refine j_iadd d_La_law_200 ?_
  obtain ⟨t1, H⟩ := H
  obtain ⟨n3, x2, H⟩ := H
  refine j_iald (n := n3) t1 x2 d_La_law_201 ?_
  refine j_aload_n d_La_law_202 rfl ?_
  refine j_iload d_La_law_203 rfl ?_
  refine j_iconst (v := 2) d_La_law_205 (by decide) ?_
  refine j_iadd d_La_law_206 ?_
  obtain ⟨n5, x4, H⟩ := H
  refine j_iald (n := n5) t1 x4 d_La_law_207 ?_
  refine j_aload_n d_La_law_208 rfl ?_
  refine j_iload d_La_law_209 rfl ?_
  refine j_iconst (v := 3) d_La_law_211 (by decide) ?_
  refine j_iadd d_La_law_212 ?_
  obtain ⟨n7, x6, H⟩ := H
  refine j_iald (n := n7) t1 x6 d_La_law_213 ?_
  refine j_aload_n d_La_law_214 rfl ?_
  refine j_iload d_La_law_215 rfl ?_
  refine j_iconst (v := 4) d_La_law_217 (by decide) ?_
  refine j_iadd d_La_law_218 ?_
  obtain ⟨n9, x8, H⟩ := H
  refine j_iald (n := n9) t1 x8 d_La_law_219 ?_
  refine j_aload_n d_La_law_220 rfl ?_
  refine j_iload d_La_law_221 rfl ?_
  refine j_iconst (v := 5) d_La_law_223 (by decide) ?_
  refine j_iadd d_La_law_224 ?_
  obtain ⟨n11, x10, H⟩ := H
  refine j_iald (n := n11) t1 x10 d_La_law_225 ?_
  refine j_aload_n d_La_law_226 rfl ?_
  refine j_iload d_La_law_227 rfl ?_
  refine j_bipush (v := 6) d_La_law_229 (by decide) ?_
  refine j_iadd d_La_law_231 ?_
  obtain ⟨n13, x12, H⟩ := H
  refine j_iald (n := n13) t1 x12 d_La_law_232 ?_
  obtain ⟨Ha, Hb⟩ := H
  refine j_if_eq (tgt := 240) d_La_law_233 (by decide) (fun c16 => ?_) (fun c17 => ?_)
  · have H := Ha c16
    refine j_iconst (v := 0) d_La_law_240 (by decide) ?_
    obtain ⟨t14, H⟩ := H
    exact j_callV (d' := 2) (ci := 10) (As := [.int ((gA G a0 n3)), .int ((gA G a0 n5)), .int ((gA G a0 n7)), .int ((gA G a0 n9)), .int ((gA G a0 n11)), .int ((0 : Int32))]) (rest := []) (b := a2) cv_La_79 me_Mo_job rfl (by decide) rfl rfl t14 rfl rfl (Nat.le_of_ble_eq_true rfl) d_La_law_241 (by decide) rfl H
  · have H := Hb c17
    refine j_iconst (v := 1) d_La_law_236 (by decide) ?_
    refine j_goto (tgt := 241) d_La_law_237 (by decide) ?_
    obtain ⟨t15, H⟩ := H
    exact j_callV (d' := 2) (ci := 10) (As := [.int ((gA G a0 n3)), .int ((gA G a0 n5)), .int ((gA G a0 n7)), .int ((gA G a0 n9)), .int ((gA G a0 n11)), .int ((1 : Int32))]) (rest := []) (b := a2) cv_La_79 me_Mo_job rfl (by decide) rfl rfl t15 rfl rfl (Nat.le_of_ble_eq_true rfl) d_La_law_241 (by decide) rfl H
theorem wl_La_law_275 {E : EV} {G : GH} {Post : Res → GH → Prop} (a0 : Nat) (a1 : Nat) (a2 : Nat) (a3 : Nat) (p4 : Int32) (s0 : Int32) (H : (gT G a0 = 20 ∨ gT G a0 = 25) ∧ ∃ n3, IX ((p4 + (1 : Int32))) n3 (gN G a0) ∧ ∃ n5, IX ((p4 + (2 : Int32))) n5 (gN G a0) ∧ gT G a2 = 11 ∧ Cl E 3 m_Mo_slack [.ref a2, .int ((gA G a0 n3)), .int ((gA G a0 n5))] G (aft E 14 m_La_law 290 [some (.ref a0), some (.ref a1), some (.ref a2), some (.ref a3), some (.int p4), some (.int s0), none] [] Post)) : J E 14 m_La_law 275 [some (.ref a0), some (.ref a1), some (.ref a2), some (.ref a3), some (.int p4), none, none] [.int s0] G Post := by
  refine j_istore (L' := [some (.ref a0), some (.ref a1), some (.ref a2), some (.ref a3), some (.int p4), some (.int s0), none]) d_La_law_275 (by decide) rfl ?_
  refine j_aload_n d_La_law_277 rfl ?_
  refine j_aload_n d_La_law_278 rfl ?_
  refine j_iload d_La_law_279 rfl ?_
  refine j_iconst (v := 1) d_La_law_281 (by decide) ?_
  refine j_iadd d_La_law_282 ?_
  obtain ⟨t1, H⟩ := H
  obtain ⟨n3, x2, H⟩ := H
  refine j_iald (n := n3) t1 x2 d_La_law_283 ?_
  refine j_aload_n d_La_law_284 rfl ?_
  refine j_iload d_La_law_285 rfl ?_
  refine j_iconst (v := 2) d_La_law_287 (by decide) ?_
  refine j_iadd d_La_law_288 ?_
  obtain ⟨n5, x4, H⟩ := H
  refine j_iald (n := n5) t1 x4 d_La_law_289 ?_
  obtain ⟨t6, H⟩ := H
  exact j_callV (d' := 3) (ci := 10) (As := [.int ((gA G a0 n3)), .int ((gA G a0 n5))]) (rest := []) (b := a2) cv_La_86 me_Mo_slack rfl (by decide) rfl rfl t6 rfl rfl (Nat.le_of_ble_eq_true rfl) d_La_law_290 (by decide) rfl H
theorem wl_La_law_355 {E : EV} {G : GH} {Post : Res → GH → Prop} (a0 : Nat) (a1 : Nat) (a2 : Nat) (a3 : Nat) (p4 : Int32) (s0 : Int32) (H : (gT G a0 = 20 ∨ gT G a0 = 25) ∧ ∃ n3, IX ((p4 + (1 : Int32))) n3 (gN G a0) ∧ ∃ n5, IX ((p4 + (2 : Int32))) n5 (gN G a0) ∧ ∃ n7, IX ((p4 + (3 : Int32))) n7 (gN G a0) ∧ ∃ n9, IX ((p4 + (4 : Int32))) n9 (gN G a0) ∧ gT G a2 = 11 ∧ Cl E 3 m_Mo_append [.ref a2, .int ((gA G a0 n3)), .int ((gA G a0 n5)), .int ((gA G a0 n7)), .int ((gA G a0 n9))] G (aft E 14 m_La_law 382 [some (.ref a0), some (.ref a1), some (.ref a2), some (.ref a3), some (.int p4), some (.int s0), none] [] Post)) : J E 14 m_La_law 355 [some (.ref a0), some (.ref a1), some (.ref a2), some (.ref a3), some (.int p4), none, none] [.int s0] G Post := by
  refine j_istore (L' := [some (.ref a0), some (.ref a1), some (.ref a2), some (.ref a3), some (.int p4), some (.int s0), none]) d_La_law_355 (by decide) rfl ?_
  refine j_aload_n d_La_law_357 rfl ?_
  refine j_aload_n d_La_law_358 rfl ?_
  refine j_iload d_La_law_359 rfl ?_
  refine j_iconst (v := 1) d_La_law_361 (by decide) ?_
  refine j_iadd d_La_law_362 ?_
  obtain ⟨t1, H⟩ := H
  obtain ⟨n3, x2, H⟩ := H
  refine j_iald (n := n3) t1 x2 d_La_law_363 ?_
  refine j_aload_n d_La_law_364 rfl ?_
  refine j_iload d_La_law_365 rfl ?_
  refine j_iconst (v := 2) d_La_law_367 (by decide) ?_
  refine j_iadd d_La_law_368 ?_
  obtain ⟨n5, x4, H⟩ := H
  refine j_iald (n := n5) t1 x4 d_La_law_369 ?_
  refine j_aload_n d_La_law_370 rfl ?_
  refine j_iload d_La_law_371 rfl ?_
  refine j_iconst (v := 3) d_La_law_373 (by decide) ?_
  refine j_iadd d_La_law_374 ?_
  obtain ⟨n7, x6, H⟩ := H
  refine j_iald (n := n7) t1 x6 d_La_law_375 ?_
  refine j_aload_n d_La_law_376 rfl ?_
  refine j_iload d_La_law_377 rfl ?_
  refine j_iconst (v := 4) d_La_law_379 (by decide) ?_
  refine j_iadd d_La_law_380 ?_
  obtain ⟨n9, x8, H⟩ := H
  refine j_iald (n := n9) t1 x8 d_La_law_381 ?_
  obtain ⟨t10, H⟩ := H
  exact j_callV (d' := 3) (ci := 10) (As := [.int ((gA G a0 n3)), .int ((gA G a0 n5)), .int ((gA G a0 n7)), .int ((gA G a0 n9))]) (rest := []) (b := a2) cv_La_90 me_Mo_append rfl (by decide) rfl rfl t10 rfl rfl (Nat.le_of_ble_eq_true rfl) d_La_law_382 (by decide) rfl H
theorem wl_La_law_429 {E : EV} {G : GH} {Post : Res → GH → Prop} (a0 : Nat) (a1 : Nat) (a2 : Nat) (a3 : Nat) (p4 : Int32) (s0 : Int32) (H : (gT G a0 = 20 ∨ gT G a0 = 25) ∧ ∃ n3, IX ((p4 + (1 : Int32))) n3 (gN G a0) ∧ gT G a2 = 11 ∧ Cl E 3 m_Mo_read [.ref a2, .int ((gA G a0 n3))] G (aft E 14 m_La_law 438 [some (.ref a0), some (.ref a1), some (.ref a2), some (.ref a3), some (.int p4), some (.int s0), none] [] Post)) : J E 14 m_La_law 429 [some (.ref a0), some (.ref a1), some (.ref a2), some (.ref a3), some (.int p4), none, none] [.int s0] G Post := by
  refine j_istore (L' := [some (.ref a0), some (.ref a1), some (.ref a2), some (.ref a3), some (.int p4), some (.int s0), none]) d_La_law_429 (by decide) rfl ?_
  refine j_aload_n d_La_law_431 rfl ?_
  refine j_aload_n d_La_law_432 rfl ?_
  refine j_iload d_La_law_433 rfl ?_
  refine j_iconst (v := 1) d_La_law_435 (by decide) ?_
  refine j_iadd d_La_law_436 ?_
  obtain ⟨t1, H⟩ := H
  obtain ⟨n3, x2, H⟩ := H
  refine j_iald (n := n3) t1 x2 d_La_law_437 ?_
  obtain ⟨t4, H⟩ := H
  exact j_callV (d' := 3) (ci := 10) (As := [.int ((gA G a0 n3))]) (rest := []) (b := a2) cv_La_94 me_Mo_read rfl (by decide) rfl rfl t4 rfl rfl (Nat.le_of_ble_eq_true rfl) d_La_law_438 (by decide) rfl H
theorem wl_La_law_499 {E : EV} {G : GH} {Post : Res → GH → Prop} (a0 : Nat) (a1 : Nat) (a2 : Nat) (a3 : Nat) (p4 : Int32) (s0 : Int32) (H : (gT G a0 = 20 ∨ gT G a0 = 25) ∧ ∃ n3, IX ((p4 + (1 : Int32))) n3 (gN G a0) ∧ ∃ n5, IX ((p4 + (2 : Int32))) n5 (gN G a0) ∧ ((gA G a0 n5) = 0 → gT G a2 = 11 ∧ Cl E 4 m_Mo_idle [.ref a2, .int ((gA G a0 n3)), .int ((0 : Int32))] G (aft E 14 m_La_law 522 [some (.ref a0), some (.ref a1), some (.ref a2), some (.ref a3), some (.int p4), some (.int s0), none] [] Post)) ∧ (¬ (gA G a0 n5) = 0 → gT G a2 = 11 ∧ Cl E 4 m_Mo_idle [.ref a2, .int ((gA G a0 n3)), .int ((1 : Int32))] G (aft E 14 m_La_law 522 [some (.ref a0), some (.ref a1), some (.ref a2), some (.ref a3), some (.int p4), some (.int s0), none] [] Post))) : J E 14 m_La_law 499 [some (.ref a0), some (.ref a1), some (.ref a2), some (.ref a3), some (.int p4), none, none] [.int s0] G Post := by
  refine j_istore (L' := [some (.ref a0), some (.ref a1), some (.ref a2), some (.ref a3), some (.int p4), some (.int s0), none]) d_La_law_499 (by decide) rfl ?_
  refine j_aload_n d_La_law_501 rfl ?_
  refine j_aload_n d_La_law_502 rfl ?_
  refine j_iload d_La_law_503 rfl ?_
  refine j_iconst (v := 1) d_La_law_505 (by decide) ?_
  refine j_iadd d_La_law_506 ?_
  obtain ⟨t1, H⟩ := H
  obtain ⟨n3, x2, H⟩ := H
  refine j_iald (n := n3) t1 x2 d_La_law_507 ?_
  refine j_aload_n d_La_law_508 rfl ?_
  refine j_iload d_La_law_509 rfl ?_
  refine j_iconst (v := 2) d_La_law_511 (by decide) ?_
  refine j_iadd d_La_law_512 ?_
  obtain ⟨n5, x4, H⟩ := H
  refine j_iald (n := n5) t1 x4 d_La_law_513 ?_
  obtain ⟨Ha, Hb⟩ := H
  refine j_if_eq (tgt := 521) d_La_law_514 (by decide) (fun c8 => ?_) (fun c9 => ?_)
  · have H := Ha c8
    refine j_iconst (v := 0) d_La_law_521 (by decide) ?_
    obtain ⟨t6, H⟩ := H
    exact j_callV (d' := 4) (ci := 10) (As := [.int ((gA G a0 n3)), .int ((0 : Int32))]) (rest := []) (b := a2) cv_La_98 me_Mo_idle rfl (by decide) rfl rfl t6 rfl rfl (Nat.le_of_ble_eq_true rfl) d_La_law_522 (by decide) rfl H
  · have H := Hb c9
    refine j_iconst (v := 1) d_La_law_517 (by decide) ?_
    refine j_goto (tgt := 522) d_La_law_518 (by decide) ?_
    obtain ⟨t7, H⟩ := H
    exact j_callV (d' := 4) (ci := 10) (As := [.int ((gA G a0 n3)), .int ((1 : Int32))]) (rest := []) (b := a2) cv_La_98 me_Mo_idle rfl (by decide) rfl rfl t7 rfl rfl (Nat.le_of_ble_eq_true rfl) d_La_law_522 (by decide) rfl H
theorem wl_La_law_576 {E : EV} {G : GH} {Post : Res → GH → Prop} (a0 : Nat) (a1 : Nat) (a2 : Nat) (a3 : Nat) (p4 : Int32) (s0 : Int32) (H : (gT G a0 = 20 ∨ gT G a0 = 25) ∧ ∃ n3, IX ((p4 + (1 : Int32))) n3 (gN G a0) ∧ gT G a2 = 11 ∧ Cl E 5 m_Mo_take [.ref a2, .int ((gA G a0 n3))] G (aft E 14 m_La_law 585 [some (.ref a0), some (.ref a1), some (.ref a2), some (.ref a3), some (.int p4), some (.int s0), none] [] Post)) : J E 14 m_La_law 576 [some (.ref a0), some (.ref a1), some (.ref a2), some (.ref a3), some (.int p4), none, none] [.int s0] G Post := by
  refine j_istore (L' := [some (.ref a0), some (.ref a1), some (.ref a2), some (.ref a3), some (.int p4), some (.int s0), none]) d_La_law_576 (by decide) rfl ?_
  refine j_aload_n d_La_law_578 rfl ?_
  refine j_aload_n d_La_law_579 rfl ?_
  refine j_iload d_La_law_580 rfl ?_
  refine j_iconst (v := 1) d_La_law_582 (by decide) ?_
  refine j_iadd d_La_law_583 ?_
  obtain ⟨t1, H⟩ := H
  obtain ⟨n3, x2, H⟩ := H
  refine j_iald (n := n3) t1 x2 d_La_law_584 ?_
  obtain ⟨t4, H⟩ := H
  exact j_callV (d' := 5) (ci := 10) (As := [.int ((gA G a0 n3))]) (rest := []) (b := a2) cv_La_101 me_Mo_take rfl (by decide) rfl rfl t4 rfl rfl (Nat.le_of_ble_eq_true rfl) d_La_law_585 (by decide) rfl H
theorem wl_La_law_626 {E : EV} {G : GH} {Post : Res → GH → Prop} (a0 : Nat) (a1 : Nat) (a2 : Nat) (a3 : Nat) (p4 : Int32) (s0 : Int32) (H : gT G a2 = 11 ∧ Cl E 3 m_Mo_barrier [.ref a2] G (aft E 14 m_La_law 629 [some (.ref a0), some (.ref a1), some (.ref a2), some (.ref a3), some (.int p4), some (.int s0), none] [] Post)) : J E 14 m_La_law 626 [some (.ref a0), some (.ref a1), some (.ref a2), some (.ref a3), some (.int p4), none, none] [.int s0] G Post := by
  refine j_istore (L' := [some (.ref a0), some (.ref a1), some (.ref a2), some (.ref a3), some (.int p4), some (.int s0), none]) d_La_law_626 (by decide) rfl ?_
  refine j_aload_n d_La_law_628 rfl ?_
  obtain ⟨t1, H⟩ := H
  exact j_callV (d' := 3) (ci := 10) (As := []) (rest := []) (b := a2) cv_La_105 me_Mo_barrier rfl (by decide) rfl rfl t1 rfl rfl (Nat.le_of_ble_eq_true rfl) d_La_law_629 (by decide) rfl H
theorem wl_La_law_670 {E : EV} {G : GH} {Post : Res → GH → Prop} (a0 : Nat) (a1 : Nat) (a2 : Nat) (a3 : Nat) (p4 : Int32) (s0 : Int32) (H : gT G a2 = 11 ∧ Cl E 2 m_Mo_confirm [.ref a2] G (aft E 14 m_La_law 673 [some (.ref a0), some (.ref a1), some (.ref a2), some (.ref a3), some (.int p4), some (.int s0), none] [] Post)) : J E 14 m_La_law 670 [some (.ref a0), some (.ref a1), some (.ref a2), some (.ref a3), some (.int p4), none, none] [.int s0] G Post := by
  refine j_istore (L' := [some (.ref a0), some (.ref a1), some (.ref a2), some (.ref a3), some (.int p4), some (.int s0), none]) d_La_law_670 (by decide) rfl ?_
  refine j_aload_n d_La_law_672 rfl ?_
  obtain ⟨t1, H⟩ := H
  exact j_callV (d' := 2) (ci := 10) (As := []) (rest := []) (b := a2) cv_La_108 me_Mo_confirm rfl (by decide) rfl rfl t1 rfl rfl (Nat.le_of_ble_eq_true rfl) d_La_law_673 (by decide) rfl H
theorem wl_La_law_713 {E : EV} {G : GH} {Post : Res → GH → Prop} (a0 : Nat) (a1 : Nat) (a2 : Nat) (a3 : Nat) (p4 : Int32) (s0 : Int32) (H : gT G a2 = 11 ∧ Cl E 5 m_Mo_fail [.ref a2] G (aft E 14 m_La_law 714 [some (.ref a0), some (.ref a1), some (.ref a2), some (.ref a3), some (.int p4), none, none] [.int s0] Post)) : J E 14 m_La_law 713 [some (.ref a0), some (.ref a1), some (.ref a2), some (.ref a3), some (.int p4), none, none] [.int s0] G Post := by
  refine j_aload_n d_La_law_713 rfl ?_
  obtain ⟨t1, H⟩ := H
  exact j_callV (d' := 5) (ci := 10) (As := []) (rest := [.int s0]) (b := a2) cv_La_112 me_Mo_fail rfl (by decide) rfl rfl t1 rfl rfl (Nat.le_of_ble_eq_true rfl) d_La_law_714 (by decide) rfl H
theorem wl_La_law_733 {E : EV} {G : GH} {Post : Res → GH → Prop} (a0 : Nat) (a1 : Nat) (a2 : Nat) (a3 : Nat) (p4 : Int32) (s0 : Int32) (H : (gT G a0 = 20 ∨ gT G a0 = 25) ∧ ∃ n3, IX ((p4 + (1 : Int32))) n3 (gN G a0) ∧ gT G a2 = 11 ∧ Cl E 5 m_Mo_workers [.ref a2, .int ((gA G a0 n3))] G (aft E 14 m_La_law 742 [some (.ref a0), some (.ref a1), some (.ref a2), some (.ref a3), some (.int p4), some (.int s0), none] [] Post)) : J E 14 m_La_law 733 [some (.ref a0), some (.ref a1), some (.ref a2), some (.ref a3), some (.int p4), none, none] [.int s0] G Post := by
  refine j_istore (L' := [some (.ref a0), some (.ref a1), some (.ref a2), some (.ref a3), some (.int p4), some (.int s0), none]) d_La_law_733 (by decide) rfl ?_
  refine j_aload_n d_La_law_735 rfl ?_
  refine j_aload_n d_La_law_736 rfl ?_
  refine j_iload d_La_law_737 rfl ?_
  refine j_iconst (v := 1) d_La_law_739 (by decide) ?_
  refine j_iadd d_La_law_740 ?_
  obtain ⟨t1, H⟩ := H
  obtain ⟨n3, x2, H⟩ := H
  refine j_iald (n := n3) t1 x2 d_La_law_741 ?_
  obtain ⟨t4, H⟩ := H
  exact j_callV (d' := 5) (ci := 10) (As := [.int ((gA G a0 n3))]) (rest := []) (b := a2) cv_La_115 me_Mo_workers rfl (by decide) rfl rfl t4 rfl rfl (Nat.le_of_ble_eq_true rfl) d_La_law_742 (by decide) rfl H
theorem wl_La_law_782 {E : EV} {G : GH} {Post : Res → GH → Prop} (a0 : Nat) (a1 : Nat) (a2 : Nat) (a3 : Nat) (p4 : Int32) (s0 : Int32) (H : gT G a2 = 11 ∧ Cl E 1 m_Mo_watermark [.ref a2] G (aft E 14 m_La_law 783 [some (.ref a0), some (.ref a1), some (.ref a2), some (.ref a3), some (.int p4), none, none] [.int s0] Post)) : J E 14 m_La_law 782 [some (.ref a0), some (.ref a1), some (.ref a2), some (.ref a3), some (.int p4), none, none] [.int s0] G Post := by
  refine j_aload_n d_La_law_782 rfl ?_
  obtain ⟨t1, H⟩ := H
  exact j_callV (d' := 1) (ci := 10) (As := []) (rest := [.int s0]) (b := a2) cv_La_119 me_Mo_watermark rfl (by decide) rfl rfl t1 rfl rfl (Nat.le_of_ble_eq_true rfl) d_La_law_783 (by decide) rfl H
theorem wl_La_law_802 {E : EV} {G : GH} {Post : Res → GH → Prop} (a0 : Nat) (a1 : Nat) (a2 : Nat) (a3 : Nat) (p4 : Int32) (s0 : Int32) (H : (gT G a0 = 20 ∨ gT G a0 = 25) ∧ ∃ n3, IX ((p4 + (1 : Int32))) n3 (gN G a0) ∧ gT G a2 = 11 ∧ Cl E 3 m_Mo_sourceWatermark [.ref a2, .int ((gA G a0 n3))] G (aft E 14 m_La_law 811 [some (.ref a0), some (.ref a1), some (.ref a2), some (.ref a3), some (.int p4), some (.int s0), none] [] Post)) : J E 14 m_La_law 802 [some (.ref a0), some (.ref a1), some (.ref a2), some (.ref a3), some (.int p4), none, none] [.int s0] G Post := by
  refine j_istore (L' := [some (.ref a0), some (.ref a1), some (.ref a2), some (.ref a3), some (.int p4), some (.int s0), none]) d_La_law_802 (by decide) rfl ?_
  refine j_aload_n d_La_law_804 rfl ?_
  refine j_aload_n d_La_law_805 rfl ?_
  refine j_iload d_La_law_806 rfl ?_
  refine j_iconst (v := 1) d_La_law_808 (by decide) ?_
  refine j_iadd d_La_law_809 ?_
  obtain ⟨t1, H⟩ := H
  obtain ⟨n3, x2, H⟩ := H
  refine j_iald (n := n3) t1 x2 d_La_law_810 ?_
  obtain ⟨t4, H⟩ := H
  exact j_callV (d' := 3) (ci := 10) (As := [.int ((gA G a0 n3))]) (rest := []) (b := a2) cv_La_122 me_Mo_sourceWatermark rfl (by decide) rfl rfl t4 rfl rfl (Nat.le_of_ble_eq_true rfl) d_La_law_811 (by decide) rfl H
theorem wl_La_law_858 {E : EV} {G : GH} {Post : Res → GH → Prop} (a0 : Nat) (a1 : Nat) (a2 : Nat) (a3 : Nat) (p4 : Int32) (s0 : Int32) (H : (gT G a0 = 20 ∨ gT G a0 = 25) ∧ ∃ n3, IX ((p4 + (1 : Int32))) n3 (gN G a0) ∧ gT G a2 = 11 ∧ Cl E 3 m_Mo_offset [.ref a2, .int ((gA G a0 n3))] G (aft E 14 m_La_law 867 [some (.ref a0), some (.ref a1), some (.ref a2), some (.ref a3), some (.int p4), some (.int s0), none] [] Post)) : J E 14 m_La_law 858 [some (.ref a0), some (.ref a1), some (.ref a2), some (.ref a3), some (.int p4), none, none] [.int s0] G Post := by
  refine j_istore (L' := [some (.ref a0), some (.ref a1), some (.ref a2), some (.ref a3), some (.int p4), some (.int s0), none]) d_La_law_858 (by decide) rfl ?_
  refine j_aload_n d_La_law_860 rfl ?_
  refine j_aload_n d_La_law_861 rfl ?_
  refine j_iload d_La_law_862 rfl ?_
  refine j_iconst (v := 1) d_La_law_864 (by decide) ?_
  refine j_iadd d_La_law_865 ?_
  obtain ⟨t1, H⟩ := H
  obtain ⟨n3, x2, H⟩ := H
  refine j_iald (n := n3) t1 x2 d_La_law_866 ?_
  obtain ⟨t4, H⟩ := H
  exact j_callV (d' := 3) (ci := 10) (As := [.int ((gA G a0 n3))]) (rest := []) (b := a2) cv_La_125 me_Mo_offset rfl (by decide) rfl rfl t4 rfl rfl (Nat.le_of_ble_eq_true rfl) d_La_law_867 (by decide) rfl H
theorem wl_La_law_914 {E : EV} {G : GH} {Post : Res → GH → Prop} (a0 : Nat) (a1 : Nat) (a2 : Nat) (a3 : Nat) (p4 : Int32) (s0 : Int32) (H : (gT G a0 = 20 ∨ gT G a0 = 25) ∧ ∃ n3, IX ((p4 + (1 : Int32))) n3 (gN G a0) ∧ gT G a2 = 11 ∧ Cl E 3 m_Mo_inChannel [.ref a2, .int ((gA G a0 n3))] G (aft E 14 m_La_law 923 [some (.ref a0), some (.ref a1), some (.ref a2), some (.ref a3), some (.int p4), some (.int s0), none] [] Post)) : J E 14 m_La_law 914 [some (.ref a0), some (.ref a1), some (.ref a2), some (.ref a3), some (.int p4), none, none] [.int s0] G Post := by
  refine j_istore (L' := [some (.ref a0), some (.ref a1), some (.ref a2), some (.ref a3), some (.int p4), some (.int s0), none]) d_La_law_914 (by decide) rfl ?_
  refine j_aload_n d_La_law_916 rfl ?_
  refine j_aload_n d_La_law_917 rfl ?_
  refine j_iload d_La_law_918 rfl ?_
  refine j_iconst (v := 1) d_La_law_920 (by decide) ?_
  refine j_iadd d_La_law_921 ?_
  obtain ⟨t1, H⟩ := H
  obtain ⟨n3, x2, H⟩ := H
  refine j_iald (n := n3) t1 x2 d_La_law_922 ?_
  obtain ⟨t4, H⟩ := H
  exact j_callV (d' := 3) (ci := 10) (As := [.int ((gA G a0 n3))]) (rest := []) (b := a2) cv_La_128 me_Mo_inChannel rfl (by decide) rfl rfl t4 rfl rfl (Nat.le_of_ble_eq_true rfl) d_La_law_923 (by decide) rfl H
theorem wl_La_law_970 {E : EV} {G : GH} {Post : Res → GH → Prop} (a0 : Nat) (a1 : Nat) (a2 : Nat) (a3 : Nat) (p4 : Int32) (s0 : Int32) (H : (gT G a0 = 20 ∨ gT G a0 = 25) ∧ ∃ n3, IX ((p4 + (1 : Int32))) n3 (gN G a0) ∧ gT G a2 = 11 ∧ Cl E 2 m_Mo_open [.ref a2, .int ((gA G a0 n3))] G (aft E 14 m_La_law 979 [some (.ref a0), some (.ref a1), some (.ref a2), some (.ref a3), some (.int p4), some (.int s0), none] [] Post)) : J E 14 m_La_law 970 [some (.ref a0), some (.ref a1), some (.ref a2), some (.ref a3), some (.int p4), none, none] [.int s0] G Post := by
  refine j_istore (L' := [some (.ref a0), some (.ref a1), some (.ref a2), some (.ref a3), some (.int p4), some (.int s0), none]) d_La_law_970 (by decide) rfl ?_
  refine j_aload_n d_La_law_972 rfl ?_
  refine j_aload_n d_La_law_973 rfl ?_
  refine j_iload d_La_law_974 rfl ?_
  refine j_iconst (v := 1) d_La_law_976 (by decide) ?_
  refine j_iadd d_La_law_977 ?_
  obtain ⟨t1, H⟩ := H
  obtain ⟨n3, x2, H⟩ := H
  refine j_iald (n := n3) t1 x2 d_La_law_978 ?_
  obtain ⟨t4, H⟩ := H
  exact j_callV (d' := 2) (ci := 10) (As := [.int ((gA G a0 n3))]) (rest := []) (b := a2) cv_La_131 me_Mo_open rfl (by decide) rfl rfl t4 rfl rfl (Nat.le_of_ble_eq_true rfl) d_La_law_979 (by decide) rfl H
theorem wl_La_law_1032 {E : EV} {G : GH} {Post : Res → GH → Prop} (a0 : Nat) (a1 : Nat) (a2 : Nat) (a3 : Nat) (p4 : Int32) (s0 : Int32) (H : (gT G a0 = 20 ∨ gT G a0 = 25) ∧ ∃ n3, IX ((p4 + (1 : Int32))) n3 (gN G a0) ∧ ∃ n5, IX ((p4 + (2 : Int32))) n5 (gN G a0) ∧ gT G a2 = 11 ∧ Cl E 3 m_Mo_sumAt [.ref a2, .int ((gA G a0 n3)), .int ((gA G a0 n5))] G (aft E 14 m_La_law 1047 [some (.ref a0), some (.ref a1), some (.ref a2), some (.ref a3), some (.int p4), some (.int s0), none] [] Post)) : J E 14 m_La_law 1032 [some (.ref a0), some (.ref a1), some (.ref a2), some (.ref a3), some (.int p4), none, none] [.int s0] G Post := by
  refine j_istore (L' := [some (.ref a0), some (.ref a1), some (.ref a2), some (.ref a3), some (.int p4), some (.int s0), none]) d_La_law_1032 (by decide) rfl ?_
  refine j_aload_n d_La_law_1034 rfl ?_
  refine j_aload_n d_La_law_1035 rfl ?_
  refine j_iload d_La_law_1036 rfl ?_
  refine j_iconst (v := 1) d_La_law_1038 (by decide) ?_
  refine j_iadd d_La_law_1039 ?_
  obtain ⟨t1, H⟩ := H
  obtain ⟨n3, x2, H⟩ := H
  refine j_iald (n := n3) t1 x2 d_La_law_1040 ?_
  refine j_aload_n d_La_law_1041 rfl ?_
  refine j_iload d_La_law_1042 rfl ?_
  refine j_iconst (v := 2) d_La_law_1044 (by decide) ?_
  refine j_iadd d_La_law_1045 ?_
  obtain ⟨n5, x4, H⟩ := H
  refine j_iald (n := n5) t1 x4 d_La_law_1046 ?_
  obtain ⟨t6, H⟩ := H
  exact j_callV (d' := 3) (ci := 10) (As := [.int ((gA G a0 n3)), .int ((gA G a0 n5))]) (rest := []) (b := a2) cv_La_134 me_Mo_sumAt rfl (by decide) rfl rfl t6 rfl rfl (Nat.le_of_ble_eq_true rfl) d_La_law_1047 (by decide) rfl H
theorem wl_La_law_1087 {E : EV} {G : GH} {Post : Res → GH → Prop} (a0 : Nat) (a1 : Nat) (a2 : Nat) (a3 : Nat) (p4 : Int32) (s0 : Int32) (H : gT G a2 = 11 ∧ Cl E 1 m_Mo_dropped [.ref a2] G (aft E 14 m_La_law 1088 [some (.ref a0), some (.ref a1), some (.ref a2), some (.ref a3), some (.int p4), none, none] [.int s0] Post)) : J E 14 m_La_law 1087 [some (.ref a0), some (.ref a1), some (.ref a2), some (.ref a3), some (.int p4), none, none] [.int s0] G Post := by
  refine j_aload_n d_La_law_1087 rfl ?_
  obtain ⟨t1, H⟩ := H
  exact j_callV (d' := 1) (ci := 10) (As := []) (rest := [.int s0]) (b := a2) cv_La_138 me_Mo_dropped rfl (by decide) rfl rfl t1 rfl rfl (Nat.le_of_ble_eq_true rfl) d_La_law_1088 (by decide) rfl H
theorem wl_La_law_1100 {E : EV} {G : GH} {Post : Res → GH → Prop} (a0 : Nat) (a1 : Nat) (a2 : Nat) (a3 : Nat) (p4 : Int32) (s0 : Int32) (H : gT G a2 = 11 ∧ Cl E 2 m_Mo_pairs [.ref a2] G (aft E 14 m_La_law 1101 [some (.ref a0), some (.ref a1), some (.ref a2), some (.ref a3), some (.int p4), none, none] [.int s0] Post)) : J E 14 m_La_law 1100 [some (.ref a0), some (.ref a1), some (.ref a2), some (.ref a3), some (.int p4), none, none] [.int s0] G Post := by
  refine j_aload_n d_La_law_1100 rfl ?_
  obtain ⟨t1, H⟩ := H
  exact j_callV (d' := 2) (ci := 10) (As := []) (rest := [.int s0]) (b := a2) cv_La_142 me_Mo_pairs rfl (by decide) rfl rfl t1 rfl rfl (Nat.le_of_ble_eq_true rfl) d_La_law_1101 (by decide) rfl H
theorem wl_La_law_1113 {E : EV} {G : GH} {Post : Res → GH → Prop} (a0 : Nat) (a1 : Nat) (a2 : Nat) (a3 : Nat) (p4 : Int32) (s0 : Int32) (H : gT G a2 = 11 ∧ Cl E 2 m_Mo_pairsAnew [.ref a2] G (aft E 14 m_La_law 1114 [some (.ref a0), some (.ref a1), some (.ref a2), some (.ref a3), some (.int p4), none, none] [.int s0] Post)) : J E 14 m_La_law 1113 [some (.ref a0), some (.ref a1), some (.ref a2), some (.ref a3), some (.int p4), none, none] [.int s0] G Post := by
  refine j_aload_n d_La_law_1113 rfl ?_
  obtain ⟨t1, H⟩ := H
  exact j_callV (d' := 2) (ci := 10) (As := []) (rest := [.int s0]) (b := a2) cv_La_146 me_Mo_pairsAnew rfl (by decide) rfl rfl t1 rfl rfl (Nat.le_of_ble_eq_true rfl) d_La_law_1114 (by decide) rfl H
theorem wl_La_law_1126 {E : EV} {G : GH} {Post : Res → GH → Prop} (a0 : Nat) (a1 : Nat) (a2 : Nat) (a3 : Nat) (p4 : Int32) (s0 : Int32) (H : gT G a2 = 11 ∧ Cl E 1 m_Mo_uncommitted [.ref a2] G (aft E 14 m_La_law 1127 [some (.ref a0), some (.ref a1), some (.ref a2), some (.ref a3), some (.int p4), none, none] [.int s0] Post)) : J E 14 m_La_law 1126 [some (.ref a0), some (.ref a1), some (.ref a2), some (.ref a3), some (.int p4), none, none] [.int s0] G Post := by
  refine j_aload_n d_La_law_1126 rfl ?_
  obtain ⟨t1, H⟩ := H
  exact j_callV (d' := 1) (ci := 10) (As := []) (rest := [.int s0]) (b := a2) cv_La_150 me_Mo_uncommitted rfl (by decide) rfl rfl t1 rfl rfl (Nat.le_of_ble_eq_true rfl) d_La_law_1127 (by decide) rfl H
theorem wl_La_law_1158 {E : EV} {G : GH} {Post : Res → GH → Prop} (a0 : Nat) (a1 : Nat) (a2 : Nat) (a3 : Nat) (p4 : Int32) (s0 : Int32) (H : (gT G a0 = 20 ∨ gT G a0 = 25) ∧ ∃ n3, IX ((p4 + (1 : Int32))) n3 (gN G a0) ∧ ∃ n5, IX ((p4 + (2 : Int32))) n5 (gN G a0) ∧ ∃ n7, IX ((p4 + (3 : Int32))) n7 (gN G a0) ∧ gT G a2 = 11 ∧ Cl E 3 m_Mo_result [.ref a2, .int ((gA G a0 n3)), .int ((gA G a0 n5)), .int ((gA G a0 n7))] G (aft E 14 m_La_law 1179 [some (.ref a0), some (.ref a1), some (.ref a2), some (.ref a3), some (.int p4), some (.int s0), none] [] Post)) : J E 14 m_La_law 1158 [some (.ref a0), some (.ref a1), some (.ref a2), some (.ref a3), some (.int p4), none, none] [.int s0] G Post := by
  refine j_istore (L' := [some (.ref a0), some (.ref a1), some (.ref a2), some (.ref a3), some (.int p4), some (.int s0), none]) d_La_law_1158 (by decide) rfl ?_
  refine j_aload_n d_La_law_1160 rfl ?_
  refine j_aload_n d_La_law_1161 rfl ?_
  refine j_iload d_La_law_1162 rfl ?_
  refine j_iconst (v := 1) d_La_law_1164 (by decide) ?_
  refine j_iadd d_La_law_1165 ?_
  obtain ⟨t1, H⟩ := H
  obtain ⟨n3, x2, H⟩ := H
  refine j_iald (n := n3) t1 x2 d_La_law_1166 ?_
  refine j_aload_n d_La_law_1167 rfl ?_
  refine j_iload d_La_law_1168 rfl ?_
  refine j_iconst (v := 2) d_La_law_1170 (by decide) ?_
  refine j_iadd d_La_law_1171 ?_
  obtain ⟨n5, x4, H⟩ := H
  refine j_iald (n := n5) t1 x4 d_La_law_1172 ?_
  refine j_aload_n d_La_law_1173 rfl ?_
  refine j_iload d_La_law_1174 rfl ?_
  refine j_iconst (v := 3) d_La_law_1176 (by decide) ?_
  refine j_iadd d_La_law_1177 ?_
  obtain ⟨n7, x6, H⟩ := H
  refine j_iald (n := n7) t1 x6 d_La_law_1178 ?_
  obtain ⟨t8, H⟩ := H
  exact j_callV (d' := 3) (ci := 10) (As := [.int ((gA G a0 n3)), .int ((gA G a0 n5)), .int ((gA G a0 n7))]) (rest := []) (b := a2) cv_La_154 me_Mo_result rfl (by decide) rfl rfl t8 rfl rfl (Nat.le_of_ble_eq_true rfl) d_La_law_1179 (by decide) rfl H
theorem wl_La_law_1238 {E : EV} {G : GH} {Post : Res → GH → Prop} (a0 : Nat) (a1 : Nat) (a2 : Nat) (a3 : Nat) (p4 : Int32) (s0 : Int32) (H : (gT G a0 = 20 ∨ gT G a0 = 25) ∧ ∃ n3, IX ((p4 + (1 : Int32))) n3 (gN G a0) ∧ ∃ n5, IX ((p4 + (2 : Int32))) n5 (gN G a0) ∧ ∃ n7, IX ((p4 + (3 : Int32))) n7 (gN G a0) ∧ gT G a2 = 11 ∧ Cl E 3 m_Mo_resultAnew [.ref a2, .int ((gA G a0 n3)), .int ((gA G a0 n5)), .int ((gA G a0 n7))] G (aft E 14 m_La_law 1259 [some (.ref a0), some (.ref a1), some (.ref a2), some (.ref a3), some (.int p4), some (.int s0), none] [] Post)) : J E 14 m_La_law 1238 [some (.ref a0), some (.ref a1), some (.ref a2), some (.ref a3), some (.int p4), none, none] [.int s0] G Post := by
  refine j_istore (L' := [some (.ref a0), some (.ref a1), some (.ref a2), some (.ref a3), some (.int p4), some (.int s0), none]) d_La_law_1238 (by decide) rfl ?_
  refine j_aload_n d_La_law_1240 rfl ?_
  refine j_aload_n d_La_law_1241 rfl ?_
  refine j_iload d_La_law_1242 rfl ?_
  refine j_iconst (v := 1) d_La_law_1244 (by decide) ?_
  refine j_iadd d_La_law_1245 ?_
  obtain ⟨t1, H⟩ := H
  obtain ⟨n3, x2, H⟩ := H
  refine j_iald (n := n3) t1 x2 d_La_law_1246 ?_
  refine j_aload_n d_La_law_1247 rfl ?_
  refine j_iload d_La_law_1248 rfl ?_
  refine j_iconst (v := 2) d_La_law_1250 (by decide) ?_
  refine j_iadd d_La_law_1251 ?_
  obtain ⟨n5, x4, H⟩ := H
  refine j_iald (n := n5) t1 x4 d_La_law_1252 ?_
  refine j_aload_n d_La_law_1253 rfl ?_
  refine j_iload d_La_law_1254 rfl ?_
  refine j_iconst (v := 3) d_La_law_1256 (by decide) ?_
  refine j_iadd d_La_law_1257 ?_
  obtain ⟨n7, x6, H⟩ := H
  refine j_iald (n := n7) t1 x6 d_La_law_1258 ?_
  obtain ⟨t8, H⟩ := H
  exact j_callV (d' := 3) (ci := 10) (As := [.int ((gA G a0 n3)), .int ((gA G a0 n5)), .int ((gA G a0 n7))]) (rest := []) (b := a2) cv_La_157 me_Mo_resultAnew rfl (by decide) rfl rfl t8 rfl rfl (Nat.le_of_ble_eq_true rfl) d_La_law_1259 (by decide) rfl H
theorem wl_La_law_244 {E : EV} {G : GH} {Post : Res → GH → Prop} (a0 : Nat) (a1 : Nat) (a2 : Nat) (a3 : Nat) (p4 : Int32) (p5 : Int32) (H : gT G a2 = 11 ∧ ((gI G 640 a2) = p5 → J E 14 m_La_law 23 [some (.ref a0), some (.ref a1), some (.ref a2), some (.ref a3), some (.int ((p4 + (7 : Int32)))), none, none] [] G Post) ∧ (¬ (gI G 640 a2) = p5 → Post (.inl (some (.int ((0 : Int32))))) G)) : J E 14 m_La_law 244 [some (.ref a0), some (.ref a1), some (.ref a2), some (.ref a3), some (.int p4), some (.int p5), none] [] G Post := by
  refine j_aload_n d_La_law_244 rfl ?_
  obtain ⟨t1, H⟩ := H
  refine j_callV (d' := 1) (ci := 10) (As := []) (rest := []) (b := a2) cv_La_80 me_Mo_thrown rfl (by decide) rfl rfl t1 rfl rfl (Nat.le_of_ble_eq_true rfl) d_La_law_245 (by decide) rfl (j_enter (L := [some (.ref a2)]) me_Mo_thrown (cat_c rfl cat_n) (Nat.le_of_ble_eq_true rfl) rfl ?_)
  refine j_aload_n d_Mo_thrown_0 rfl ?_
  refine j_getI (f := 640) fe_Mo_139 rfl rfl t1 d_Mo_thrown_1 ?_
  refine j_iret rfl d_Mo_thrown_4 ?_
  show J E 14 m_La_law 248 [some (.ref a0), some (.ref a1), some (.ref a2), some (.ref a3), some (.int p4), some (.int p5), none] [.int ((gI G 640 a2))] G Post
  refine j_iload d_La_law_248 rfl ?_
  obtain ⟨Ha, Hb⟩ := H
  refine j_icmp_eq (tgt := 255) d_La_law_250 (by decide) (fun c2 => ?_) (fun c3 => ?_)
  · have H := Ha c2
    refine j_goto (tgt := 1295) d_La_law_255 (by decide) ?_
    refine j_iinc (v := (p4 + (7 : Int32))) (L' := [some (.ref a0), some (.ref a1), some (.ref a2), some (.ref a3), some (.int ((p4 + (7 : Int32)))), some (.int p5), none]) d_La_law_1295 rfl (by rw [show Int32.ofInt (7) = (7 : Int32) by decide]) (by decide) rfl ?_
    refine j_goto (tgt := 23) d_La_law_1298 (by decide) ?_
    refine j_forget (L' := [some (.ref a0), some (.ref a1), some (.ref a2), some (.ref a3), some (.int ((p4 + (7 : Int32)))), none, none]) ⟨Or.inr rfl, Or.inr rfl, Or.inr rfl, Or.inr rfl, Or.inr rfl, Or.inl rfl, Or.inl rfl, trivial⟩ ?_
    exact H
  · have H := Hb c3
    refine j_iconst (v := 0) d_La_law_253 (by decide) ?_
    exact j_zret rfl (by decide) d_La_law_254 H
theorem wl_La_law_293 {E : EV} {G : GH} {Post : Res → GH → Prop} (a0 : Nat) (a1 : Nat) (a2 : Nat) (a3 : Nat) (p4 : Int32) (p5 : Int32) (s0 : Int32) (H : gT G a2 = 11 ∧ ((gI G 640 a2) = p5 → (¬ p5 = 0 → J E 14 m_La_law 23 [some (.ref a0), some (.ref a1), some (.ref a2), some (.ref a3), some (.int ((p4 + (7 : Int32)))), none, none] [] G Post) ∧ (p5 = 0 → gT G a3 = 22 ∧ IX (0 : Int32) 0 (gN G a3) ∧ ((lg_cmp ((gL G a3 0)) ((Int32.toInt64 s0))) = 0 → J E 14 m_La_law 23 [some (.ref a0), some (.ref a1), some (.ref a2), some (.ref a3), some (.int ((p4 + (7 : Int32)))), none, none] [] G Post) ∧ (¬ (lg_cmp ((gL G a3 0)) ((Int32.toInt64 s0))) = 0 → Post (.inl (some (.int ((0 : Int32))))) G))) ∧ (¬ (gI G 640 a2) = p5 → Post (.inl (some (.int ((0 : Int32))))) G)) : J E 14 m_La_law 293 [some (.ref a0), some (.ref a1), some (.ref a2), some (.ref a3), some (.int p4), some (.int p5), none] [.int s0] G Post := by
  refine j_istore (L' := [some (.ref a0), some (.ref a1), some (.ref a2), some (.ref a3), some (.int p4), some (.int p5), some (.int s0)]) d_La_law_293 (by decide) rfl ?_
  refine j_aload_n d_La_law_295 rfl ?_
  obtain ⟨t1, H⟩ := H
  refine j_callV (d' := 1) (ci := 10) (As := []) (rest := []) (b := a2) cv_La_80 me_Mo_thrown rfl (by decide) rfl rfl t1 rfl rfl (Nat.le_of_ble_eq_true rfl) d_La_law_296 (by decide) rfl (j_enter (L := [some (.ref a2)]) me_Mo_thrown (cat_c rfl cat_n) (Nat.le_of_ble_eq_true rfl) rfl ?_)
  refine j_aload_n d_Mo_thrown_0 rfl ?_
  refine j_getI (f := 640) fe_Mo_139 rfl rfl t1 d_Mo_thrown_1 ?_
  refine j_iret rfl d_Mo_thrown_4 ?_
  show J E 14 m_La_law 299 [some (.ref a0), some (.ref a1), some (.ref a2), some (.ref a3), some (.int p4), some (.int p5), some (.int s0)] [.int ((gI G 640 a2))] G Post
  refine j_iload d_La_law_299 rfl ?_
  obtain ⟨Ha, Hb⟩ := H
  refine j_icmp_eq (tgt := 306) d_La_law_301 (by decide) (fun c8 => ?_) (fun c9 => ?_)
  · have H := Ha c8
    refine j_iload d_La_law_306 rfl ?_
    obtain ⟨Ha, Hb⟩ := H
    refine j_if_ne (tgt := 323) d_La_law_308 (by decide) (fun c6 => ?_) (fun c7 => ?_)
    · have H := Ha c6
      refine j_goto (tgt := 1295) d_La_law_323 (by decide) ?_
      refine j_iinc (v := (p4 + (7 : Int32))) (L' := [some (.ref a0), some (.ref a1), some (.ref a2), some (.ref a3), some (.int ((p4 + (7 : Int32)))), some (.int p5), some (.int s0)]) d_La_law_1295 rfl (by rw [show Int32.ofInt (7) = (7 : Int32) by decide]) (by decide) rfl ?_
      refine j_goto (tgt := 23) d_La_law_1298 (by decide) ?_
      refine j_forget (L' := [some (.ref a0), some (.ref a1), some (.ref a2), some (.ref a3), some (.int ((p4 + (7 : Int32)))), none, none]) ⟨Or.inr rfl, Or.inr rfl, Or.inr rfl, Or.inr rfl, Or.inr rfl, Or.inl rfl, Or.inl rfl, trivial⟩ ?_
      exact H
    · have H := Hb c7
      refine j_aload_n d_La_law_311 rfl ?_
      refine j_iconst (v := 0) d_La_law_312 (by decide) ?_
      obtain ⟨t2, H⟩ := H
      obtain ⟨x3, H⟩ := H
      refine j_lald (n := 0) t2 x3 d_La_law_313 ?_
      refine j_iload d_La_law_314 rfl ?_
      refine j_i2l d_La_law_316 ?_
      refine j_lcmp d_La_law_317 ?_
      obtain ⟨Ha, Hb⟩ := H
      refine j_if_eq (tgt := 323) d_La_law_318 (by decide) (fun c4 => ?_) (fun c5 => ?_)
      · have H := Ha c4
        refine j_goto (tgt := 1295) d_La_law_323 (by decide) ?_
        refine j_iinc (v := (p4 + (7 : Int32))) (L' := [some (.ref a0), some (.ref a1), some (.ref a2), some (.ref a3), some (.int ((p4 + (7 : Int32)))), some (.int p5), some (.int s0)]) d_La_law_1295 rfl (by rw [show Int32.ofInt (7) = (7 : Int32) by decide]) (by decide) rfl ?_
        refine j_goto (tgt := 23) d_La_law_1298 (by decide) ?_
        refine j_forget (L' := [some (.ref a0), some (.ref a1), some (.ref a2), some (.ref a3), some (.int ((p4 + (7 : Int32)))), none, none]) ⟨Or.inr rfl, Or.inr rfl, Or.inr rfl, Or.inr rfl, Or.inr rfl, Or.inl rfl, Or.inl rfl, trivial⟩ ?_
        exact H
      · have H := Hb c5
        refine j_iconst (v := 0) d_La_law_321 (by decide) ?_
        exact j_zret rfl (by decide) d_La_law_322 H
  · have H := Hb c9
    refine j_iconst (v := 0) d_La_law_304 (by decide) ?_
    exact j_zret rfl (by decide) d_La_law_305 H
theorem wl_La_law_385 {E : EV} {G : GH} {Post : Res → GH → Prop} (a0 : Nat) (a1 : Nat) (a2 : Nat) (a3 : Nat) (p4 : Int32) (p5 : Int32) (s0 : Int32) (H : gT G a2 = 11 ∧ ((gI G 640 a2) = p5 → (¬ p5 = 0 → J E 14 m_La_law 23 [some (.ref a0), some (.ref a1), some (.ref a2), some (.ref a3), some (.int ((p4 + (7 : Int32)))), none, none] [] G Post) ∧ (p5 = 0 → gT G a3 = 22 ∧ IX (0 : Int32) 0 (gN G a3) ∧ ((lg_cmp ((gL G a3 0)) ((Int32.toInt64 s0))) = 0 → J E 14 m_La_law 23 [some (.ref a0), some (.ref a1), some (.ref a2), some (.ref a3), some (.int ((p4 + (7 : Int32)))), none, none] [] G Post) ∧ (¬ (lg_cmp ((gL G a3 0)) ((Int32.toInt64 s0))) = 0 → Post (.inl (some (.int ((0 : Int32))))) G))) ∧ (¬ (gI G 640 a2) = p5 → Post (.inl (some (.int ((0 : Int32))))) G)) : J E 14 m_La_law 385 [some (.ref a0), some (.ref a1), some (.ref a2), some (.ref a3), some (.int p4), some (.int p5), none] [.int s0] G Post := by
  refine j_istore (L' := [some (.ref a0), some (.ref a1), some (.ref a2), some (.ref a3), some (.int p4), some (.int p5), some (.int s0)]) d_La_law_385 (by decide) rfl ?_
  refine j_aload_n d_La_law_387 rfl ?_
  obtain ⟨t1, H⟩ := H
  refine j_callV (d' := 1) (ci := 10) (As := []) (rest := []) (b := a2) cv_La_80 me_Mo_thrown rfl (by decide) rfl rfl t1 rfl rfl (Nat.le_of_ble_eq_true rfl) d_La_law_388 (by decide) rfl (j_enter (L := [some (.ref a2)]) me_Mo_thrown (cat_c rfl cat_n) (Nat.le_of_ble_eq_true rfl) rfl ?_)
  refine j_aload_n d_Mo_thrown_0 rfl ?_
  refine j_getI (f := 640) fe_Mo_139 rfl rfl t1 d_Mo_thrown_1 ?_
  refine j_iret rfl d_Mo_thrown_4 ?_
  show J E 14 m_La_law 391 [some (.ref a0), some (.ref a1), some (.ref a2), some (.ref a3), some (.int p4), some (.int p5), some (.int s0)] [.int ((gI G 640 a2))] G Post
  refine j_iload d_La_law_391 rfl ?_
  obtain ⟨Ha, Hb⟩ := H
  refine j_icmp_eq (tgt := 398) d_La_law_393 (by decide) (fun c8 => ?_) (fun c9 => ?_)
  · have H := Ha c8
    refine j_iload d_La_law_398 rfl ?_
    obtain ⟨Ha, Hb⟩ := H
    refine j_if_ne (tgt := 415) d_La_law_400 (by decide) (fun c6 => ?_) (fun c7 => ?_)
    · have H := Ha c6
      refine j_goto (tgt := 1295) d_La_law_415 (by decide) ?_
      refine j_iinc (v := (p4 + (7 : Int32))) (L' := [some (.ref a0), some (.ref a1), some (.ref a2), some (.ref a3), some (.int ((p4 + (7 : Int32)))), some (.int p5), some (.int s0)]) d_La_law_1295 rfl (by rw [show Int32.ofInt (7) = (7 : Int32) by decide]) (by decide) rfl ?_
      refine j_goto (tgt := 23) d_La_law_1298 (by decide) ?_
      refine j_forget (L' := [some (.ref a0), some (.ref a1), some (.ref a2), some (.ref a3), some (.int ((p4 + (7 : Int32)))), none, none]) ⟨Or.inr rfl, Or.inr rfl, Or.inr rfl, Or.inr rfl, Or.inr rfl, Or.inl rfl, Or.inl rfl, trivial⟩ ?_
      exact H
    · have H := Hb c7
      refine j_aload_n d_La_law_403 rfl ?_
      refine j_iconst (v := 0) d_La_law_404 (by decide) ?_
      obtain ⟨t2, H⟩ := H
      obtain ⟨x3, H⟩ := H
      refine j_lald (n := 0) t2 x3 d_La_law_405 ?_
      refine j_iload d_La_law_406 rfl ?_
      refine j_i2l d_La_law_408 ?_
      refine j_lcmp d_La_law_409 ?_
      obtain ⟨Ha, Hb⟩ := H
      refine j_if_eq (tgt := 415) d_La_law_410 (by decide) (fun c4 => ?_) (fun c5 => ?_)
      · have H := Ha c4
        refine j_goto (tgt := 1295) d_La_law_415 (by decide) ?_
        refine j_iinc (v := (p4 + (7 : Int32))) (L' := [some (.ref a0), some (.ref a1), some (.ref a2), some (.ref a3), some (.int ((p4 + (7 : Int32)))), some (.int p5), some (.int s0)]) d_La_law_1295 rfl (by rw [show Int32.ofInt (7) = (7 : Int32) by decide]) (by decide) rfl ?_
        refine j_goto (tgt := 23) d_La_law_1298 (by decide) ?_
        refine j_forget (L' := [some (.ref a0), some (.ref a1), some (.ref a2), some (.ref a3), some (.int ((p4 + (7 : Int32)))), none, none]) ⟨Or.inr rfl, Or.inr rfl, Or.inr rfl, Or.inr rfl, Or.inr rfl, Or.inl rfl, Or.inl rfl, trivial⟩ ?_
        exact H
      · have H := Hb c5
        refine j_iconst (v := 0) d_La_law_413 (by decide) ?_
        exact j_zret rfl (by decide) d_La_law_414 H
  · have H := Hb c9
    refine j_iconst (v := 0) d_La_law_396 (by decide) ?_
    exact j_zret rfl (by decide) d_La_law_397 H
theorem wl_La_law_441 {E : EV} {G : GH} {Post : Res → GH → Prop} (a0 : Nat) (a1 : Nat) (a2 : Nat) (a3 : Nat) (p4 : Int32) (p5 : Int32) (s0 : Int32) (H : gT G a2 = 11 ∧ ((gI G 640 a2) = p5 → (¬ p5 = 0 → J E 14 m_La_law 23 [some (.ref a0), some (.ref a1), some (.ref a2), some (.ref a3), some (.int ((p4 + (7 : Int32)))), none, none] [] G Post) ∧ (p5 = 0 → gT G a3 = 22 ∧ IX (0 : Int32) 0 (gN G a3) ∧ ((lg_cmp ((gL G a3 0)) ((Int32.toInt64 s0))) = 0 → J E 14 m_La_law 23 [some (.ref a0), some (.ref a1), some (.ref a2), some (.ref a3), some (.int ((p4 + (7 : Int32)))), none, none] [] G Post) ∧ (¬ (lg_cmp ((gL G a3 0)) ((Int32.toInt64 s0))) = 0 → Post (.inl (some (.int ((0 : Int32))))) G))) ∧ (¬ (gI G 640 a2) = p5 → Post (.inl (some (.int ((0 : Int32))))) G)) : J E 14 m_La_law 441 [some (.ref a0), some (.ref a1), some (.ref a2), some (.ref a3), some (.int p4), some (.int p5), none] [.int s0] G Post := by
  refine j_istore (L' := [some (.ref a0), some (.ref a1), some (.ref a2), some (.ref a3), some (.int p4), some (.int p5), some (.int s0)]) d_La_law_441 (by decide) rfl ?_
  refine j_aload_n d_La_law_443 rfl ?_
  obtain ⟨t1, H⟩ := H
  refine j_callV (d' := 1) (ci := 10) (As := []) (rest := []) (b := a2) cv_La_80 me_Mo_thrown rfl (by decide) rfl rfl t1 rfl rfl (Nat.le_of_ble_eq_true rfl) d_La_law_444 (by decide) rfl (j_enter (L := [some (.ref a2)]) me_Mo_thrown (cat_c rfl cat_n) (Nat.le_of_ble_eq_true rfl) rfl ?_)
  refine j_aload_n d_Mo_thrown_0 rfl ?_
  refine j_getI (f := 640) fe_Mo_139 rfl rfl t1 d_Mo_thrown_1 ?_
  refine j_iret rfl d_Mo_thrown_4 ?_
  show J E 14 m_La_law 447 [some (.ref a0), some (.ref a1), some (.ref a2), some (.ref a3), some (.int p4), some (.int p5), some (.int s0)] [.int ((gI G 640 a2))] G Post
  refine j_iload d_La_law_447 rfl ?_
  obtain ⟨Ha, Hb⟩ := H
  refine j_icmp_eq (tgt := 454) d_La_law_449 (by decide) (fun c8 => ?_) (fun c9 => ?_)
  · have H := Ha c8
    refine j_iload d_La_law_454 rfl ?_
    obtain ⟨Ha, Hb⟩ := H
    refine j_if_ne (tgt := 471) d_La_law_456 (by decide) (fun c6 => ?_) (fun c7 => ?_)
    · have H := Ha c6
      refine j_goto (tgt := 1295) d_La_law_471 (by decide) ?_
      refine j_iinc (v := (p4 + (7 : Int32))) (L' := [some (.ref a0), some (.ref a1), some (.ref a2), some (.ref a3), some (.int ((p4 + (7 : Int32)))), some (.int p5), some (.int s0)]) d_La_law_1295 rfl (by rw [show Int32.ofInt (7) = (7 : Int32) by decide]) (by decide) rfl ?_
      refine j_goto (tgt := 23) d_La_law_1298 (by decide) ?_
      refine j_forget (L' := [some (.ref a0), some (.ref a1), some (.ref a2), some (.ref a3), some (.int ((p4 + (7 : Int32)))), none, none]) ⟨Or.inr rfl, Or.inr rfl, Or.inr rfl, Or.inr rfl, Or.inr rfl, Or.inl rfl, Or.inl rfl, trivial⟩ ?_
      exact H
    · have H := Hb c7
      refine j_aload_n d_La_law_459 rfl ?_
      refine j_iconst (v := 0) d_La_law_460 (by decide) ?_
      obtain ⟨t2, H⟩ := H
      obtain ⟨x3, H⟩ := H
      refine j_lald (n := 0) t2 x3 d_La_law_461 ?_
      refine j_iload d_La_law_462 rfl ?_
      refine j_i2l d_La_law_464 ?_
      refine j_lcmp d_La_law_465 ?_
      obtain ⟨Ha, Hb⟩ := H
      refine j_if_eq (tgt := 471) d_La_law_466 (by decide) (fun c4 => ?_) (fun c5 => ?_)
      · have H := Ha c4
        refine j_goto (tgt := 1295) d_La_law_471 (by decide) ?_
        refine j_iinc (v := (p4 + (7 : Int32))) (L' := [some (.ref a0), some (.ref a1), some (.ref a2), some (.ref a3), some (.int ((p4 + (7 : Int32)))), some (.int p5), some (.int s0)]) d_La_law_1295 rfl (by rw [show Int32.ofInt (7) = (7 : Int32) by decide]) (by decide) rfl ?_
        refine j_goto (tgt := 23) d_La_law_1298 (by decide) ?_
        refine j_forget (L' := [some (.ref a0), some (.ref a1), some (.ref a2), some (.ref a3), some (.int ((p4 + (7 : Int32)))), none, none]) ⟨Or.inr rfl, Or.inr rfl, Or.inr rfl, Or.inr rfl, Or.inr rfl, Or.inl rfl, Or.inl rfl, trivial⟩ ?_
        exact H
      · have H := Hb c5
        refine j_iconst (v := 0) d_La_law_469 (by decide) ?_
        exact j_zret rfl (by decide) d_La_law_470 H
  · have H := Hb c9
    refine j_iconst (v := 0) d_La_law_452 (by decide) ?_
    exact j_zret rfl (by decide) d_La_law_453 H
theorem wl_La_law_525 {E : EV} {G : GH} {Post : Res → GH → Prop} (a0 : Nat) (a1 : Nat) (a2 : Nat) (a3 : Nat) (p4 : Int32) (p5 : Int32) (s0 : Int32) (H : gT G a2 = 11 ∧ ((gI G 640 a2) = p5 → (¬ p5 = 0 → J E 14 m_La_law 23 [some (.ref a0), some (.ref a1), some (.ref a2), some (.ref a3), some (.int ((p4 + (7 : Int32)))), none, none] [] G Post) ∧ (p5 = 0 → gT G a3 = 22 ∧ IX (0 : Int32) 0 (gN G a3) ∧ (s0 = 0 → ((lg_cmp ((gL G a3 0)) ((0 : Int64))) = 0 → J E 14 m_La_law 23 [some (.ref a0), some (.ref a1), some (.ref a2), some (.ref a3), some (.int ((p4 + (7 : Int32)))), none, none] [] G Post) ∧ (¬ (lg_cmp ((gL G a3 0)) ((0 : Int64))) = 0 → Post (.inl (some (.int ((0 : Int32))))) G)) ∧ (¬ s0 = 0 → ((lg_cmp ((gL G a3 0)) ((1 : Int64))) = 0 → J E 14 m_La_law 23 [some (.ref a0), some (.ref a1), some (.ref a2), some (.ref a3), some (.int ((p4 + (7 : Int32)))), none, none] [] G Post) ∧ (¬ (lg_cmp ((gL G a3 0)) ((1 : Int64))) = 0 → Post (.inl (some (.int ((0 : Int32))))) G)))) ∧ (¬ (gI G 640 a2) = p5 → Post (.inl (some (.int ((0 : Int32))))) G)) : J E 14 m_La_law 525 [some (.ref a0), some (.ref a1), some (.ref a2), some (.ref a3), some (.int p4), some (.int p5), none] [.int s0] G Post := by
  refine j_istore (L' := [some (.ref a0), some (.ref a1), some (.ref a2), some (.ref a3), some (.int p4), some (.int p5), some (.int s0)]) d_La_law_525 (by decide) rfl ?_
  refine j_aload_n d_La_law_527 rfl ?_
  obtain ⟨t1, H⟩ := H
  refine j_callV (d' := 1) (ci := 10) (As := []) (rest := []) (b := a2) cv_La_80 me_Mo_thrown rfl (by decide) rfl rfl t1 rfl rfl (Nat.le_of_ble_eq_true rfl) d_La_law_528 (by decide) rfl (j_enter (L := [some (.ref a2)]) me_Mo_thrown (cat_c rfl cat_n) (Nat.le_of_ble_eq_true rfl) rfl ?_)
  refine j_aload_n d_Mo_thrown_0 rfl ?_
  refine j_getI (f := 640) fe_Mo_139 rfl rfl t1 d_Mo_thrown_1 ?_
  refine j_iret rfl d_Mo_thrown_4 ?_
  show J E 14 m_La_law 531 [some (.ref a0), some (.ref a1), some (.ref a2), some (.ref a3), some (.int p4), some (.int p5), some (.int s0)] [.int ((gI G 640 a2))] G Post
  refine j_iload d_La_law_531 rfl ?_
  obtain ⟨Ha, Hb⟩ := H
  refine j_icmp_eq (tgt := 538) d_La_law_533 (by decide) (fun c12 => ?_) (fun c13 => ?_)
  · have H := Ha c12
    refine j_iload d_La_law_538 rfl ?_
    obtain ⟨Ha, Hb⟩ := H
    refine j_if_ne (tgt := 562) d_La_law_540 (by decide) (fun c10 => ?_) (fun c11 => ?_)
    · have H := Ha c10
      refine j_goto (tgt := 1295) d_La_law_562 (by decide) ?_
      refine j_iinc (v := (p4 + (7 : Int32))) (L' := [some (.ref a0), some (.ref a1), some (.ref a2), some (.ref a3), some (.int ((p4 + (7 : Int32)))), some (.int p5), some (.int s0)]) d_La_law_1295 rfl (by rw [show Int32.ofInt (7) = (7 : Int32) by decide]) (by decide) rfl ?_
      refine j_goto (tgt := 23) d_La_law_1298 (by decide) ?_
      refine j_forget (L' := [some (.ref a0), some (.ref a1), some (.ref a2), some (.ref a3), some (.int ((p4 + (7 : Int32)))), none, none]) ⟨Or.inr rfl, Or.inr rfl, Or.inr rfl, Or.inr rfl, Or.inr rfl, Or.inl rfl, Or.inl rfl, trivial⟩ ?_
      exact H
    · have H := Hb c11
      refine j_aload_n d_La_law_543 rfl ?_
      refine j_iconst (v := 0) d_La_law_544 (by decide) ?_
      obtain ⟨t2, H⟩ := H
      obtain ⟨x3, H⟩ := H
      refine j_lald (n := 0) t2 x3 d_La_law_545 ?_
      refine j_iload d_La_law_546 rfl ?_
      obtain ⟨Ha, Hb⟩ := H
      refine j_if_eq (tgt := 555) d_La_law_548 (by decide) (fun c8 => ?_) (fun c9 => ?_)
      · have H := Ha c8
        refine j_lconst (v := 0) d_La_law_555 (by decide) ?_
        refine j_lcmp d_La_law_556 ?_
        obtain ⟨Ha, Hb⟩ := H
        refine j_if_eq (tgt := 562) d_La_law_557 (by decide) (fun c4 => ?_) (fun c5 => ?_)
        · have H := Ha c4
          refine j_goto (tgt := 1295) d_La_law_562 (by decide) ?_
          refine j_iinc (v := (p4 + (7 : Int32))) (L' := [some (.ref a0), some (.ref a1), some (.ref a2), some (.ref a3), some (.int ((p4 + (7 : Int32)))), some (.int p5), some (.int s0)]) d_La_law_1295 rfl (by rw [show Int32.ofInt (7) = (7 : Int32) by decide]) (by decide) rfl ?_
          refine j_goto (tgt := 23) d_La_law_1298 (by decide) ?_
          refine j_forget (L' := [some (.ref a0), some (.ref a1), some (.ref a2), some (.ref a3), some (.int ((p4 + (7 : Int32)))), none, none]) ⟨Or.inr rfl, Or.inr rfl, Or.inr rfl, Or.inr rfl, Or.inr rfl, Or.inl rfl, Or.inl rfl, trivial⟩ ?_
          exact H
        · have H := Hb c5
          refine j_iconst (v := 0) d_La_law_560 (by decide) ?_
          exact j_zret rfl (by decide) d_La_law_561 H
      · have H := Hb c9
        refine j_lconst (v := 1) d_La_law_551 (by decide) ?_
        refine j_goto (tgt := 556) d_La_law_552 (by decide) ?_
        refine j_lcmp d_La_law_556 ?_
        obtain ⟨Ha, Hb⟩ := H
        refine j_if_eq (tgt := 562) d_La_law_557 (by decide) (fun c6 => ?_) (fun c7 => ?_)
        · have H := Ha c6
          refine j_goto (tgt := 1295) d_La_law_562 (by decide) ?_
          refine j_iinc (v := (p4 + (7 : Int32))) (L' := [some (.ref a0), some (.ref a1), some (.ref a2), some (.ref a3), some (.int ((p4 + (7 : Int32)))), some (.int p5), some (.int s0)]) d_La_law_1295 rfl (by rw [show Int32.ofInt (7) = (7 : Int32) by decide]) (by decide) rfl ?_
          refine j_goto (tgt := 23) d_La_law_1298 (by decide) ?_
          refine j_forget (L' := [some (.ref a0), some (.ref a1), some (.ref a2), some (.ref a3), some (.int ((p4 + (7 : Int32)))), none, none]) ⟨Or.inr rfl, Or.inr rfl, Or.inr rfl, Or.inr rfl, Or.inr rfl, Or.inl rfl, Or.inl rfl, trivial⟩ ?_
          exact H
        · have H := Hb c7
          refine j_iconst (v := 0) d_La_law_560 (by decide) ?_
          exact j_zret rfl (by decide) d_La_law_561 H
  · have H := Hb c13
    refine j_iconst (v := 0) d_La_law_536 (by decide) ?_
    exact j_zret rfl (by decide) d_La_law_537 H
theorem wl_La_law_588 {E : EV} {G : GH} {Post : Res → GH → Prop} (a0 : Nat) (a1 : Nat) (a2 : Nat) (a3 : Nat) (p4 : Int32) (p5 : Int32) (s0 : Int32) (H : gT G a2 = 11 ∧ ((gI G 640 a2) = p5 → (¬ p5 = 0 → J E 14 m_La_law 23 [some (.ref a0), some (.ref a1), some (.ref a2), some (.ref a3), some (.int ((p4 + (7 : Int32)))), none, none] [] G Post) ∧ (p5 = 0 → gT G a3 = 22 ∧ IX (0 : Int32) 0 (gN G a3) ∧ ((lg_cmp ((gL G a3 0)) ((Int32.toInt64 s0))) = 0 → J E 14 m_La_law 23 [some (.ref a0), some (.ref a1), some (.ref a2), some (.ref a3), some (.int ((p4 + (7 : Int32)))), none, none] [] G Post) ∧ (¬ (lg_cmp ((gL G a3 0)) ((Int32.toInt64 s0))) = 0 → Post (.inl (some (.int ((0 : Int32))))) G))) ∧ (¬ (gI G 640 a2) = p5 → Post (.inl (some (.int ((0 : Int32))))) G)) : J E 14 m_La_law 588 [some (.ref a0), some (.ref a1), some (.ref a2), some (.ref a3), some (.int p4), some (.int p5), none] [.int s0] G Post := by
  refine j_istore (L' := [some (.ref a0), some (.ref a1), some (.ref a2), some (.ref a3), some (.int p4), some (.int p5), some (.int s0)]) d_La_law_588 (by decide) rfl ?_
  refine j_aload_n d_La_law_590 rfl ?_
  obtain ⟨t1, H⟩ := H
  refine j_callV (d' := 1) (ci := 10) (As := []) (rest := []) (b := a2) cv_La_80 me_Mo_thrown rfl (by decide) rfl rfl t1 rfl rfl (Nat.le_of_ble_eq_true rfl) d_La_law_591 (by decide) rfl (j_enter (L := [some (.ref a2)]) me_Mo_thrown (cat_c rfl cat_n) (Nat.le_of_ble_eq_true rfl) rfl ?_)
  refine j_aload_n d_Mo_thrown_0 rfl ?_
  refine j_getI (f := 640) fe_Mo_139 rfl rfl t1 d_Mo_thrown_1 ?_
  refine j_iret rfl d_Mo_thrown_4 ?_
  show J E 14 m_La_law 594 [some (.ref a0), some (.ref a1), some (.ref a2), some (.ref a3), some (.int p4), some (.int p5), some (.int s0)] [.int ((gI G 640 a2))] G Post
  refine j_iload d_La_law_594 rfl ?_
  obtain ⟨Ha, Hb⟩ := H
  refine j_icmp_eq (tgt := 601) d_La_law_596 (by decide) (fun c8 => ?_) (fun c9 => ?_)
  · have H := Ha c8
    refine j_iload d_La_law_601 rfl ?_
    obtain ⟨Ha, Hb⟩ := H
    refine j_if_ne (tgt := 618) d_La_law_603 (by decide) (fun c6 => ?_) (fun c7 => ?_)
    · have H := Ha c6
      refine j_goto (tgt := 1295) d_La_law_618 (by decide) ?_
      refine j_iinc (v := (p4 + (7 : Int32))) (L' := [some (.ref a0), some (.ref a1), some (.ref a2), some (.ref a3), some (.int ((p4 + (7 : Int32)))), some (.int p5), some (.int s0)]) d_La_law_1295 rfl (by rw [show Int32.ofInt (7) = (7 : Int32) by decide]) (by decide) rfl ?_
      refine j_goto (tgt := 23) d_La_law_1298 (by decide) ?_
      refine j_forget (L' := [some (.ref a0), some (.ref a1), some (.ref a2), some (.ref a3), some (.int ((p4 + (7 : Int32)))), none, none]) ⟨Or.inr rfl, Or.inr rfl, Or.inr rfl, Or.inr rfl, Or.inr rfl, Or.inl rfl, Or.inl rfl, trivial⟩ ?_
      exact H
    · have H := Hb c7
      refine j_aload_n d_La_law_606 rfl ?_
      refine j_iconst (v := 0) d_La_law_607 (by decide) ?_
      obtain ⟨t2, H⟩ := H
      obtain ⟨x3, H⟩ := H
      refine j_lald (n := 0) t2 x3 d_La_law_608 ?_
      refine j_iload d_La_law_609 rfl ?_
      refine j_i2l d_La_law_611 ?_
      refine j_lcmp d_La_law_612 ?_
      obtain ⟨Ha, Hb⟩ := H
      refine j_if_eq (tgt := 618) d_La_law_613 (by decide) (fun c4 => ?_) (fun c5 => ?_)
      · have H := Ha c4
        refine j_goto (tgt := 1295) d_La_law_618 (by decide) ?_
        refine j_iinc (v := (p4 + (7 : Int32))) (L' := [some (.ref a0), some (.ref a1), some (.ref a2), some (.ref a3), some (.int ((p4 + (7 : Int32)))), some (.int p5), some (.int s0)]) d_La_law_1295 rfl (by rw [show Int32.ofInt (7) = (7 : Int32) by decide]) (by decide) rfl ?_
        refine j_goto (tgt := 23) d_La_law_1298 (by decide) ?_
        refine j_forget (L' := [some (.ref a0), some (.ref a1), some (.ref a2), some (.ref a3), some (.int ((p4 + (7 : Int32)))), none, none]) ⟨Or.inr rfl, Or.inr rfl, Or.inr rfl, Or.inr rfl, Or.inr rfl, Or.inl rfl, Or.inl rfl, trivial⟩ ?_
        exact H
      · have H := Hb c5
        refine j_iconst (v := 0) d_La_law_616 (by decide) ?_
        exact j_zret rfl (by decide) d_La_law_617 H
  · have H := Hb c9
    refine j_iconst (v := 0) d_La_law_599 (by decide) ?_
    exact j_zret rfl (by decide) d_La_law_600 H
theorem wl_La_law_632 {E : EV} {G : GH} {Post : Res → GH → Prop} (a0 : Nat) (a1 : Nat) (a2 : Nat) (a3 : Nat) (p4 : Int32) (p5 : Int32) (s0 : Int32) (H : gT G a2 = 11 ∧ ((gI G 640 a2) = p5 → (¬ p5 = 0 → J E 14 m_La_law 23 [some (.ref a0), some (.ref a1), some (.ref a2), some (.ref a3), some (.int ((p4 + (7 : Int32)))), none, none] [] G Post) ∧ (p5 = 0 → gT G a3 = 22 ∧ IX (0 : Int32) 0 (gN G a3) ∧ ((lg_cmp ((gL G a3 0)) ((Int32.toInt64 s0))) = 0 → J E 14 m_La_law 23 [some (.ref a0), some (.ref a1), some (.ref a2), some (.ref a3), some (.int ((p4 + (7 : Int32)))), none, none] [] G Post) ∧ (¬ (lg_cmp ((gL G a3 0)) ((Int32.toInt64 s0))) = 0 → Post (.inl (some (.int ((0 : Int32))))) G))) ∧ (¬ (gI G 640 a2) = p5 → Post (.inl (some (.int ((0 : Int32))))) G)) : J E 14 m_La_law 632 [some (.ref a0), some (.ref a1), some (.ref a2), some (.ref a3), some (.int p4), some (.int p5), none] [.int s0] G Post := by
  refine j_istore (L' := [some (.ref a0), some (.ref a1), some (.ref a2), some (.ref a3), some (.int p4), some (.int p5), some (.int s0)]) d_La_law_632 (by decide) rfl ?_
  refine j_aload_n d_La_law_634 rfl ?_
  obtain ⟨t1, H⟩ := H
  refine j_callV (d' := 1) (ci := 10) (As := []) (rest := []) (b := a2) cv_La_80 me_Mo_thrown rfl (by decide) rfl rfl t1 rfl rfl (Nat.le_of_ble_eq_true rfl) d_La_law_635 (by decide) rfl (j_enter (L := [some (.ref a2)]) me_Mo_thrown (cat_c rfl cat_n) (Nat.le_of_ble_eq_true rfl) rfl ?_)
  refine j_aload_n d_Mo_thrown_0 rfl ?_
  refine j_getI (f := 640) fe_Mo_139 rfl rfl t1 d_Mo_thrown_1 ?_
  refine j_iret rfl d_Mo_thrown_4 ?_
  show J E 14 m_La_law 638 [some (.ref a0), some (.ref a1), some (.ref a2), some (.ref a3), some (.int p4), some (.int p5), some (.int s0)] [.int ((gI G 640 a2))] G Post
  refine j_iload d_La_law_638 rfl ?_
  obtain ⟨Ha, Hb⟩ := H
  refine j_icmp_eq (tgt := 645) d_La_law_640 (by decide) (fun c8 => ?_) (fun c9 => ?_)
  · have H := Ha c8
    refine j_iload d_La_law_645 rfl ?_
    obtain ⟨Ha, Hb⟩ := H
    refine j_if_ne (tgt := 662) d_La_law_647 (by decide) (fun c6 => ?_) (fun c7 => ?_)
    · have H := Ha c6
      refine j_goto (tgt := 1295) d_La_law_662 (by decide) ?_
      refine j_iinc (v := (p4 + (7 : Int32))) (L' := [some (.ref a0), some (.ref a1), some (.ref a2), some (.ref a3), some (.int ((p4 + (7 : Int32)))), some (.int p5), some (.int s0)]) d_La_law_1295 rfl (by rw [show Int32.ofInt (7) = (7 : Int32) by decide]) (by decide) rfl ?_
      refine j_goto (tgt := 23) d_La_law_1298 (by decide) ?_
      refine j_forget (L' := [some (.ref a0), some (.ref a1), some (.ref a2), some (.ref a3), some (.int ((p4 + (7 : Int32)))), none, none]) ⟨Or.inr rfl, Or.inr rfl, Or.inr rfl, Or.inr rfl, Or.inr rfl, Or.inl rfl, Or.inl rfl, trivial⟩ ?_
      exact H
    · have H := Hb c7
      refine j_aload_n d_La_law_650 rfl ?_
      refine j_iconst (v := 0) d_La_law_651 (by decide) ?_
      obtain ⟨t2, H⟩ := H
      obtain ⟨x3, H⟩ := H
      refine j_lald (n := 0) t2 x3 d_La_law_652 ?_
      refine j_iload d_La_law_653 rfl ?_
      refine j_i2l d_La_law_655 ?_
      refine j_lcmp d_La_law_656 ?_
      obtain ⟨Ha, Hb⟩ := H
      refine j_if_eq (tgt := 662) d_La_law_657 (by decide) (fun c4 => ?_) (fun c5 => ?_)
      · have H := Ha c4
        refine j_goto (tgt := 1295) d_La_law_662 (by decide) ?_
        refine j_iinc (v := (p4 + (7 : Int32))) (L' := [some (.ref a0), some (.ref a1), some (.ref a2), some (.ref a3), some (.int ((p4 + (7 : Int32)))), some (.int p5), some (.int s0)]) d_La_law_1295 rfl (by rw [show Int32.ofInt (7) = (7 : Int32) by decide]) (by decide) rfl ?_
        refine j_goto (tgt := 23) d_La_law_1298 (by decide) ?_
        refine j_forget (L' := [some (.ref a0), some (.ref a1), some (.ref a2), some (.ref a3), some (.int ((p4 + (7 : Int32)))), none, none]) ⟨Or.inr rfl, Or.inr rfl, Or.inr rfl, Or.inr rfl, Or.inr rfl, Or.inl rfl, Or.inl rfl, trivial⟩ ?_
        exact H
      · have H := Hb c5
        refine j_iconst (v := 0) d_La_law_660 (by decide) ?_
        exact j_zret rfl (by decide) d_La_law_661 H
  · have H := Hb c9
    refine j_iconst (v := 0) d_La_law_643 (by decide) ?_
    exact j_zret rfl (by decide) d_La_law_644 H
theorem wl_La_law_676 {E : EV} {G : GH} {Post : Res → GH → Prop} (a0 : Nat) (a1 : Nat) (a2 : Nat) (a3 : Nat) (p4 : Int32) (p5 : Int32) (s0 : Int32) (H : gT G a2 = 11 ∧ ((gI G 640 a2) = p5 → (¬ p5 = 0 → J E 14 m_La_law 23 [some (.ref a0), some (.ref a1), some (.ref a2), some (.ref a3), some (.int ((p4 + (7 : Int32)))), none, none] [] G Post) ∧ (p5 = 0 → gT G a3 = 22 ∧ IX (0 : Int32) 0 (gN G a3) ∧ ((lg_cmp ((gL G a3 0)) ((Int32.toInt64 s0))) = 0 → J E 14 m_La_law 23 [some (.ref a0), some (.ref a1), some (.ref a2), some (.ref a3), some (.int ((p4 + (7 : Int32)))), none, none] [] G Post) ∧ (¬ (lg_cmp ((gL G a3 0)) ((Int32.toInt64 s0))) = 0 → Post (.inl (some (.int ((0 : Int32))))) G))) ∧ (¬ (gI G 640 a2) = p5 → Post (.inl (some (.int ((0 : Int32))))) G)) : J E 14 m_La_law 676 [some (.ref a0), some (.ref a1), some (.ref a2), some (.ref a3), some (.int p4), some (.int p5), none] [.int s0] G Post := by
  refine j_istore (L' := [some (.ref a0), some (.ref a1), some (.ref a2), some (.ref a3), some (.int p4), some (.int p5), some (.int s0)]) d_La_law_676 (by decide) rfl ?_
  refine j_aload_n d_La_law_678 rfl ?_
  obtain ⟨t1, H⟩ := H
  refine j_callV (d' := 1) (ci := 10) (As := []) (rest := []) (b := a2) cv_La_80 me_Mo_thrown rfl (by decide) rfl rfl t1 rfl rfl (Nat.le_of_ble_eq_true rfl) d_La_law_679 (by decide) rfl (j_enter (L := [some (.ref a2)]) me_Mo_thrown (cat_c rfl cat_n) (Nat.le_of_ble_eq_true rfl) rfl ?_)
  refine j_aload_n d_Mo_thrown_0 rfl ?_
  refine j_getI (f := 640) fe_Mo_139 rfl rfl t1 d_Mo_thrown_1 ?_
  refine j_iret rfl d_Mo_thrown_4 ?_
  show J E 14 m_La_law 682 [some (.ref a0), some (.ref a1), some (.ref a2), some (.ref a3), some (.int p4), some (.int p5), some (.int s0)] [.int ((gI G 640 a2))] G Post
  refine j_iload d_La_law_682 rfl ?_
  obtain ⟨Ha, Hb⟩ := H
  refine j_icmp_eq (tgt := 689) d_La_law_684 (by decide) (fun c8 => ?_) (fun c9 => ?_)
  · have H := Ha c8
    refine j_iload d_La_law_689 rfl ?_
    obtain ⟨Ha, Hb⟩ := H
    refine j_if_ne (tgt := 706) d_La_law_691 (by decide) (fun c6 => ?_) (fun c7 => ?_)
    · have H := Ha c6
      refine j_goto (tgt := 1295) d_La_law_706 (by decide) ?_
      refine j_iinc (v := (p4 + (7 : Int32))) (L' := [some (.ref a0), some (.ref a1), some (.ref a2), some (.ref a3), some (.int ((p4 + (7 : Int32)))), some (.int p5), some (.int s0)]) d_La_law_1295 rfl (by rw [show Int32.ofInt (7) = (7 : Int32) by decide]) (by decide) rfl ?_
      refine j_goto (tgt := 23) d_La_law_1298 (by decide) ?_
      refine j_forget (L' := [some (.ref a0), some (.ref a1), some (.ref a2), some (.ref a3), some (.int ((p4 + (7 : Int32)))), none, none]) ⟨Or.inr rfl, Or.inr rfl, Or.inr rfl, Or.inr rfl, Or.inr rfl, Or.inl rfl, Or.inl rfl, trivial⟩ ?_
      exact H
    · have H := Hb c7
      refine j_aload_n d_La_law_694 rfl ?_
      refine j_iconst (v := 0) d_La_law_695 (by decide) ?_
      obtain ⟨t2, H⟩ := H
      obtain ⟨x3, H⟩ := H
      refine j_lald (n := 0) t2 x3 d_La_law_696 ?_
      refine j_iload d_La_law_697 rfl ?_
      refine j_i2l d_La_law_699 ?_
      refine j_lcmp d_La_law_700 ?_
      obtain ⟨Ha, Hb⟩ := H
      refine j_if_eq (tgt := 706) d_La_law_701 (by decide) (fun c4 => ?_) (fun c5 => ?_)
      · have H := Ha c4
        refine j_goto (tgt := 1295) d_La_law_706 (by decide) ?_
        refine j_iinc (v := (p4 + (7 : Int32))) (L' := [some (.ref a0), some (.ref a1), some (.ref a2), some (.ref a3), some (.int ((p4 + (7 : Int32)))), some (.int p5), some (.int s0)]) d_La_law_1295 rfl (by rw [show Int32.ofInt (7) = (7 : Int32) by decide]) (by decide) rfl ?_
        refine j_goto (tgt := 23) d_La_law_1298 (by decide) ?_
        refine j_forget (L' := [some (.ref a0), some (.ref a1), some (.ref a2), some (.ref a3), some (.int ((p4 + (7 : Int32)))), none, none]) ⟨Or.inr rfl, Or.inr rfl, Or.inr rfl, Or.inr rfl, Or.inr rfl, Or.inl rfl, Or.inl rfl, trivial⟩ ?_
        exact H
      · have H := Hb c5
        refine j_iconst (v := 0) d_La_law_704 (by decide) ?_
        exact j_zret rfl (by decide) d_La_law_705 H
  · have H := Hb c9
    refine j_iconst (v := 0) d_La_law_687 (by decide) ?_
    exact j_zret rfl (by decide) d_La_law_688 H
theorem wl_La_law_717 {E : EV} {G : GH} {Post : Res → GH → Prop} (a0 : Nat) (a1 : Nat) (a2 : Nat) (a3 : Nat) (p4 : Int32) (s0 : Int32) (s1 : Int32) (H : (s0 = s1 → J E 14 m_La_law 23 [some (.ref a0), some (.ref a1), some (.ref a2), some (.ref a3), some (.int ((p4 + (7 : Int32)))), none, none] [] G Post) ∧ (¬ s0 = s1 → Post (.inl (some (.int ((0 : Int32))))) G)) : J E 14 m_La_law 717 [some (.ref a0), some (.ref a1), some (.ref a2), some (.ref a3), some (.int p4), none, none] [.int s1, .int s0] G Post := by
  obtain ⟨Ha, Hb⟩ := H
  refine j_icmp_eq (tgt := 1295) d_La_law_717 (by decide) (fun c1 => ?_) (fun c2 => ?_)
  · have H := Ha c1
    refine j_iinc (v := (p4 + (7 : Int32))) (L' := [some (.ref a0), some (.ref a1), some (.ref a2), some (.ref a3), some (.int ((p4 + (7 : Int32)))), none, none]) d_La_law_1295 rfl (by rw [show Int32.ofInt (7) = (7 : Int32) by decide]) (by decide) rfl ?_
    refine j_goto (tgt := 23) d_La_law_1298 (by decide) ?_
    exact H
  · have H := Hb c2
    refine j_iconst (v := 0) d_La_law_720 (by decide) ?_
    exact j_zret rfl (by decide) d_La_law_721 H
theorem wl_La_law_745 {E : EV} {G : GH} {Post : Res → GH → Prop} (a0 : Nat) (a1 : Nat) (a2 : Nat) (a3 : Nat) (p4 : Int32) (p5 : Int32) (s0 : Int32) (H : gT G a2 = 11 ∧ ((gI G 640 a2) = p5 → (¬ p5 = 0 → J E 14 m_La_law 23 [some (.ref a0), some (.ref a1), some (.ref a2), some (.ref a3), some (.int ((p4 + (7 : Int32)))), none, none] [] G Post) ∧ (p5 = 0 → gT G a3 = 22 ∧ IX (0 : Int32) 0 (gN G a3) ∧ ((lg_cmp ((gL G a3 0)) ((Int32.toInt64 s0))) = 0 → J E 14 m_La_law 23 [some (.ref a0), some (.ref a1), some (.ref a2), some (.ref a3), some (.int ((p4 + (7 : Int32)))), none, none] [] G Post) ∧ (¬ (lg_cmp ((gL G a3 0)) ((Int32.toInt64 s0))) = 0 → Post (.inl (some (.int ((0 : Int32))))) G))) ∧ (¬ (gI G 640 a2) = p5 → Post (.inl (some (.int ((0 : Int32))))) G)) : J E 14 m_La_law 745 [some (.ref a0), some (.ref a1), some (.ref a2), some (.ref a3), some (.int p4), some (.int p5), none] [.int s0] G Post := by
  refine j_istore (L' := [some (.ref a0), some (.ref a1), some (.ref a2), some (.ref a3), some (.int p4), some (.int p5), some (.int s0)]) d_La_law_745 (by decide) rfl ?_
  refine j_aload_n d_La_law_747 rfl ?_
  obtain ⟨t1, H⟩ := H
  refine j_callV (d' := 1) (ci := 10) (As := []) (rest := []) (b := a2) cv_La_80 me_Mo_thrown rfl (by decide) rfl rfl t1 rfl rfl (Nat.le_of_ble_eq_true rfl) d_La_law_748 (by decide) rfl (j_enter (L := [some (.ref a2)]) me_Mo_thrown (cat_c rfl cat_n) (Nat.le_of_ble_eq_true rfl) rfl ?_)
  refine j_aload_n d_Mo_thrown_0 rfl ?_
  refine j_getI (f := 640) fe_Mo_139 rfl rfl t1 d_Mo_thrown_1 ?_
  refine j_iret rfl d_Mo_thrown_4 ?_
  show J E 14 m_La_law 751 [some (.ref a0), some (.ref a1), some (.ref a2), some (.ref a3), some (.int p4), some (.int p5), some (.int s0)] [.int ((gI G 640 a2))] G Post
  refine j_iload d_La_law_751 rfl ?_
  obtain ⟨Ha, Hb⟩ := H
  refine j_icmp_eq (tgt := 758) d_La_law_753 (by decide) (fun c8 => ?_) (fun c9 => ?_)
  · have H := Ha c8
    refine j_iload d_La_law_758 rfl ?_
    obtain ⟨Ha, Hb⟩ := H
    refine j_if_ne (tgt := 775) d_La_law_760 (by decide) (fun c6 => ?_) (fun c7 => ?_)
    · have H := Ha c6
      refine j_goto (tgt := 1295) d_La_law_775 (by decide) ?_
      refine j_iinc (v := (p4 + (7 : Int32))) (L' := [some (.ref a0), some (.ref a1), some (.ref a2), some (.ref a3), some (.int ((p4 + (7 : Int32)))), some (.int p5), some (.int s0)]) d_La_law_1295 rfl (by rw [show Int32.ofInt (7) = (7 : Int32) by decide]) (by decide) rfl ?_
      refine j_goto (tgt := 23) d_La_law_1298 (by decide) ?_
      refine j_forget (L' := [some (.ref a0), some (.ref a1), some (.ref a2), some (.ref a3), some (.int ((p4 + (7 : Int32)))), none, none]) ⟨Or.inr rfl, Or.inr rfl, Or.inr rfl, Or.inr rfl, Or.inr rfl, Or.inl rfl, Or.inl rfl, trivial⟩ ?_
      exact H
    · have H := Hb c7
      refine j_aload_n d_La_law_763 rfl ?_
      refine j_iconst (v := 0) d_La_law_764 (by decide) ?_
      obtain ⟨t2, H⟩ := H
      obtain ⟨x3, H⟩ := H
      refine j_lald (n := 0) t2 x3 d_La_law_765 ?_
      refine j_iload d_La_law_766 rfl ?_
      refine j_i2l d_La_law_768 ?_
      refine j_lcmp d_La_law_769 ?_
      obtain ⟨Ha, Hb⟩ := H
      refine j_if_eq (tgt := 775) d_La_law_770 (by decide) (fun c4 => ?_) (fun c5 => ?_)
      · have H := Ha c4
        refine j_goto (tgt := 1295) d_La_law_775 (by decide) ?_
        refine j_iinc (v := (p4 + (7 : Int32))) (L' := [some (.ref a0), some (.ref a1), some (.ref a2), some (.ref a3), some (.int ((p4 + (7 : Int32)))), some (.int p5), some (.int s0)]) d_La_law_1295 rfl (by rw [show Int32.ofInt (7) = (7 : Int32) by decide]) (by decide) rfl ?_
        refine j_goto (tgt := 23) d_La_law_1298 (by decide) ?_
        refine j_forget (L' := [some (.ref a0), some (.ref a1), some (.ref a2), some (.ref a3), some (.int ((p4 + (7 : Int32)))), none, none]) ⟨Or.inr rfl, Or.inr rfl, Or.inr rfl, Or.inr rfl, Or.inr rfl, Or.inl rfl, Or.inl rfl, trivial⟩ ?_
        exact H
      · have H := Hb c5
        refine j_iconst (v := 0) d_La_law_773 (by decide) ?_
        exact j_zret rfl (by decide) d_La_law_774 H
  · have H := Hb c9
    refine j_iconst (v := 0) d_La_law_756 (by decide) ?_
    exact j_zret rfl (by decide) d_La_law_757 H
theorem wl_La_law_786 {E : EV} {G : GH} {Post : Res → GH → Prop} (a0 : Nat) (a1 : Nat) (a2 : Nat) (a3 : Nat) (p4 : Int32) (s0 : Int32) (s1 : Int32) (H : (s0 = s1 → J E 14 m_La_law 23 [some (.ref a0), some (.ref a1), some (.ref a2), some (.ref a3), some (.int ((p4 + (7 : Int32)))), none, none] [] G Post) ∧ (¬ s0 = s1 → Post (.inl (some (.int ((0 : Int32))))) G)) : J E 14 m_La_law 786 [some (.ref a0), some (.ref a1), some (.ref a2), some (.ref a3), some (.int p4), none, none] [.int s1, .int s0] G Post := by
  obtain ⟨Ha, Hb⟩ := H
  refine j_icmp_eq (tgt := 1295) d_La_law_786 (by decide) (fun c1 => ?_) (fun c2 => ?_)
  · have H := Ha c1
    refine j_iinc (v := (p4 + (7 : Int32))) (L' := [some (.ref a0), some (.ref a1), some (.ref a2), some (.ref a3), some (.int ((p4 + (7 : Int32)))), none, none]) d_La_law_1295 rfl (by rw [show Int32.ofInt (7) = (7 : Int32) by decide]) (by decide) rfl ?_
    refine j_goto (tgt := 23) d_La_law_1298 (by decide) ?_
    exact H
  · have H := Hb c2
    refine j_iconst (v := 0) d_La_law_789 (by decide) ?_
    exact j_zret rfl (by decide) d_La_law_790 H
theorem wl_La_law_814 {E : EV} {G : GH} {Post : Res → GH → Prop} (a0 : Nat) (a1 : Nat) (a2 : Nat) (a3 : Nat) (p4 : Int32) (p5 : Int32) (s0 : Int32) (H : gT G a2 = 11 ∧ ((gI G 640 a2) = p5 → (¬ p5 = 0 → J E 14 m_La_law 23 [some (.ref a0), some (.ref a1), some (.ref a2), some (.ref a3), some (.int ((p4 + (7 : Int32)))), none, none] [] G Post) ∧ (p5 = 0 → gT G a3 = 22 ∧ IX (0 : Int32) 0 (gN G a3) ∧ ((lg_cmp ((gL G a3 0)) ((Int32.toInt64 s0))) = 0 → J E 14 m_La_law 23 [some (.ref a0), some (.ref a1), some (.ref a2), some (.ref a3), some (.int ((p4 + (7 : Int32)))), none, none] [] G Post) ∧ (¬ (lg_cmp ((gL G a3 0)) ((Int32.toInt64 s0))) = 0 → Post (.inl (some (.int ((0 : Int32))))) G))) ∧ (¬ (gI G 640 a2) = p5 → Post (.inl (some (.int ((0 : Int32))))) G)) : J E 14 m_La_law 814 [some (.ref a0), some (.ref a1), some (.ref a2), some (.ref a3), some (.int p4), some (.int p5), none] [.int s0] G Post := by
  refine j_istore (L' := [some (.ref a0), some (.ref a1), some (.ref a2), some (.ref a3), some (.int p4), some (.int p5), some (.int s0)]) d_La_law_814 (by decide) rfl ?_
  refine j_aload_n d_La_law_816 rfl ?_
  obtain ⟨t1, H⟩ := H
  refine j_callV (d' := 1) (ci := 10) (As := []) (rest := []) (b := a2) cv_La_80 me_Mo_thrown rfl (by decide) rfl rfl t1 rfl rfl (Nat.le_of_ble_eq_true rfl) d_La_law_817 (by decide) rfl (j_enter (L := [some (.ref a2)]) me_Mo_thrown (cat_c rfl cat_n) (Nat.le_of_ble_eq_true rfl) rfl ?_)
  refine j_aload_n d_Mo_thrown_0 rfl ?_
  refine j_getI (f := 640) fe_Mo_139 rfl rfl t1 d_Mo_thrown_1 ?_
  refine j_iret rfl d_Mo_thrown_4 ?_
  show J E 14 m_La_law 820 [some (.ref a0), some (.ref a1), some (.ref a2), some (.ref a3), some (.int p4), some (.int p5), some (.int s0)] [.int ((gI G 640 a2))] G Post
  refine j_iload d_La_law_820 rfl ?_
  obtain ⟨Ha, Hb⟩ := H
  refine j_icmp_eq (tgt := 827) d_La_law_822 (by decide) (fun c8 => ?_) (fun c9 => ?_)
  · have H := Ha c8
    refine j_iload d_La_law_827 rfl ?_
    obtain ⟨Ha, Hb⟩ := H
    refine j_if_ne (tgt := 844) d_La_law_829 (by decide) (fun c6 => ?_) (fun c7 => ?_)
    · have H := Ha c6
      refine j_goto (tgt := 1295) d_La_law_844 (by decide) ?_
      refine j_iinc (v := (p4 + (7 : Int32))) (L' := [some (.ref a0), some (.ref a1), some (.ref a2), some (.ref a3), some (.int ((p4 + (7 : Int32)))), some (.int p5), some (.int s0)]) d_La_law_1295 rfl (by rw [show Int32.ofInt (7) = (7 : Int32) by decide]) (by decide) rfl ?_
      refine j_goto (tgt := 23) d_La_law_1298 (by decide) ?_
      refine j_forget (L' := [some (.ref a0), some (.ref a1), some (.ref a2), some (.ref a3), some (.int ((p4 + (7 : Int32)))), none, none]) ⟨Or.inr rfl, Or.inr rfl, Or.inr rfl, Or.inr rfl, Or.inr rfl, Or.inl rfl, Or.inl rfl, trivial⟩ ?_
      exact H
    · have H := Hb c7
      refine j_aload_n d_La_law_832 rfl ?_
      refine j_iconst (v := 0) d_La_law_833 (by decide) ?_
      obtain ⟨t2, H⟩ := H
      obtain ⟨x3, H⟩ := H
      refine j_lald (n := 0) t2 x3 d_La_law_834 ?_
      refine j_iload d_La_law_835 rfl ?_
      refine j_i2l d_La_law_837 ?_
      refine j_lcmp d_La_law_838 ?_
      obtain ⟨Ha, Hb⟩ := H
      refine j_if_eq (tgt := 844) d_La_law_839 (by decide) (fun c4 => ?_) (fun c5 => ?_)
      · have H := Ha c4
        refine j_goto (tgt := 1295) d_La_law_844 (by decide) ?_
        refine j_iinc (v := (p4 + (7 : Int32))) (L' := [some (.ref a0), some (.ref a1), some (.ref a2), some (.ref a3), some (.int ((p4 + (7 : Int32)))), some (.int p5), some (.int s0)]) d_La_law_1295 rfl (by rw [show Int32.ofInt (7) = (7 : Int32) by decide]) (by decide) rfl ?_
        refine j_goto (tgt := 23) d_La_law_1298 (by decide) ?_
        refine j_forget (L' := [some (.ref a0), some (.ref a1), some (.ref a2), some (.ref a3), some (.int ((p4 + (7 : Int32)))), none, none]) ⟨Or.inr rfl, Or.inr rfl, Or.inr rfl, Or.inr rfl, Or.inr rfl, Or.inl rfl, Or.inl rfl, trivial⟩ ?_
        exact H
      · have H := Hb c5
        refine j_iconst (v := 0) d_La_law_842 (by decide) ?_
        exact j_zret rfl (by decide) d_La_law_843 H
  · have H := Hb c9
    refine j_iconst (v := 0) d_La_law_825 (by decide) ?_
    exact j_zret rfl (by decide) d_La_law_826 H
theorem wl_La_law_870 {E : EV} {G : GH} {Post : Res → GH → Prop} (a0 : Nat) (a1 : Nat) (a2 : Nat) (a3 : Nat) (p4 : Int32) (p5 : Int32) (s0 : Int32) (H : gT G a2 = 11 ∧ ((gI G 640 a2) = p5 → (¬ p5 = 0 → J E 14 m_La_law 23 [some (.ref a0), some (.ref a1), some (.ref a2), some (.ref a3), some (.int ((p4 + (7 : Int32)))), none, none] [] G Post) ∧ (p5 = 0 → gT G a3 = 22 ∧ IX (0 : Int32) 0 (gN G a3) ∧ ((lg_cmp ((gL G a3 0)) ((Int32.toInt64 s0))) = 0 → J E 14 m_La_law 23 [some (.ref a0), some (.ref a1), some (.ref a2), some (.ref a3), some (.int ((p4 + (7 : Int32)))), none, none] [] G Post) ∧ (¬ (lg_cmp ((gL G a3 0)) ((Int32.toInt64 s0))) = 0 → Post (.inl (some (.int ((0 : Int32))))) G))) ∧ (¬ (gI G 640 a2) = p5 → Post (.inl (some (.int ((0 : Int32))))) G)) : J E 14 m_La_law 870 [some (.ref a0), some (.ref a1), some (.ref a2), some (.ref a3), some (.int p4), some (.int p5), none] [.int s0] G Post := by
  refine j_istore (L' := [some (.ref a0), some (.ref a1), some (.ref a2), some (.ref a3), some (.int p4), some (.int p5), some (.int s0)]) d_La_law_870 (by decide) rfl ?_
  refine j_aload_n d_La_law_872 rfl ?_
  obtain ⟨t1, H⟩ := H
  refine j_callV (d' := 1) (ci := 10) (As := []) (rest := []) (b := a2) cv_La_80 me_Mo_thrown rfl (by decide) rfl rfl t1 rfl rfl (Nat.le_of_ble_eq_true rfl) d_La_law_873 (by decide) rfl (j_enter (L := [some (.ref a2)]) me_Mo_thrown (cat_c rfl cat_n) (Nat.le_of_ble_eq_true rfl) rfl ?_)
  refine j_aload_n d_Mo_thrown_0 rfl ?_
  refine j_getI (f := 640) fe_Mo_139 rfl rfl t1 d_Mo_thrown_1 ?_
  refine j_iret rfl d_Mo_thrown_4 ?_
  show J E 14 m_La_law 876 [some (.ref a0), some (.ref a1), some (.ref a2), some (.ref a3), some (.int p4), some (.int p5), some (.int s0)] [.int ((gI G 640 a2))] G Post
  refine j_iload d_La_law_876 rfl ?_
  obtain ⟨Ha, Hb⟩ := H
  refine j_icmp_eq (tgt := 883) d_La_law_878 (by decide) (fun c8 => ?_) (fun c9 => ?_)
  · have H := Ha c8
    refine j_iload d_La_law_883 rfl ?_
    obtain ⟨Ha, Hb⟩ := H
    refine j_if_ne (tgt := 900) d_La_law_885 (by decide) (fun c6 => ?_) (fun c7 => ?_)
    · have H := Ha c6
      refine j_goto (tgt := 1295) d_La_law_900 (by decide) ?_
      refine j_iinc (v := (p4 + (7 : Int32))) (L' := [some (.ref a0), some (.ref a1), some (.ref a2), some (.ref a3), some (.int ((p4 + (7 : Int32)))), some (.int p5), some (.int s0)]) d_La_law_1295 rfl (by rw [show Int32.ofInt (7) = (7 : Int32) by decide]) (by decide) rfl ?_
      refine j_goto (tgt := 23) d_La_law_1298 (by decide) ?_
      refine j_forget (L' := [some (.ref a0), some (.ref a1), some (.ref a2), some (.ref a3), some (.int ((p4 + (7 : Int32)))), none, none]) ⟨Or.inr rfl, Or.inr rfl, Or.inr rfl, Or.inr rfl, Or.inr rfl, Or.inl rfl, Or.inl rfl, trivial⟩ ?_
      exact H
    · have H := Hb c7
      refine j_aload_n d_La_law_888 rfl ?_
      refine j_iconst (v := 0) d_La_law_889 (by decide) ?_
      obtain ⟨t2, H⟩ := H
      obtain ⟨x3, H⟩ := H
      refine j_lald (n := 0) t2 x3 d_La_law_890 ?_
      refine j_iload d_La_law_891 rfl ?_
      refine j_i2l d_La_law_893 ?_
      refine j_lcmp d_La_law_894 ?_
      obtain ⟨Ha, Hb⟩ := H
      refine j_if_eq (tgt := 900) d_La_law_895 (by decide) (fun c4 => ?_) (fun c5 => ?_)
      · have H := Ha c4
        refine j_goto (tgt := 1295) d_La_law_900 (by decide) ?_
        refine j_iinc (v := (p4 + (7 : Int32))) (L' := [some (.ref a0), some (.ref a1), some (.ref a2), some (.ref a3), some (.int ((p4 + (7 : Int32)))), some (.int p5), some (.int s0)]) d_La_law_1295 rfl (by rw [show Int32.ofInt (7) = (7 : Int32) by decide]) (by decide) rfl ?_
        refine j_goto (tgt := 23) d_La_law_1298 (by decide) ?_
        refine j_forget (L' := [some (.ref a0), some (.ref a1), some (.ref a2), some (.ref a3), some (.int ((p4 + (7 : Int32)))), none, none]) ⟨Or.inr rfl, Or.inr rfl, Or.inr rfl, Or.inr rfl, Or.inr rfl, Or.inl rfl, Or.inl rfl, trivial⟩ ?_
        exact H
      · have H := Hb c5
        refine j_iconst (v := 0) d_La_law_898 (by decide) ?_
        exact j_zret rfl (by decide) d_La_law_899 H
  · have H := Hb c9
    refine j_iconst (v := 0) d_La_law_881 (by decide) ?_
    exact j_zret rfl (by decide) d_La_law_882 H
theorem wl_La_law_926 {E : EV} {G : GH} {Post : Res → GH → Prop} (a0 : Nat) (a1 : Nat) (a2 : Nat) (a3 : Nat) (p4 : Int32) (p5 : Int32) (s0 : Int32) (H : gT G a2 = 11 ∧ ((gI G 640 a2) = p5 → (¬ p5 = 0 → J E 14 m_La_law 23 [some (.ref a0), some (.ref a1), some (.ref a2), some (.ref a3), some (.int ((p4 + (7 : Int32)))), none, none] [] G Post) ∧ (p5 = 0 → gT G a3 = 22 ∧ IX (0 : Int32) 0 (gN G a3) ∧ ((lg_cmp ((gL G a3 0)) ((Int32.toInt64 s0))) = 0 → J E 14 m_La_law 23 [some (.ref a0), some (.ref a1), some (.ref a2), some (.ref a3), some (.int ((p4 + (7 : Int32)))), none, none] [] G Post) ∧ (¬ (lg_cmp ((gL G a3 0)) ((Int32.toInt64 s0))) = 0 → Post (.inl (some (.int ((0 : Int32))))) G))) ∧ (¬ (gI G 640 a2) = p5 → Post (.inl (some (.int ((0 : Int32))))) G)) : J E 14 m_La_law 926 [some (.ref a0), some (.ref a1), some (.ref a2), some (.ref a3), some (.int p4), some (.int p5), none] [.int s0] G Post := by
  refine j_istore (L' := [some (.ref a0), some (.ref a1), some (.ref a2), some (.ref a3), some (.int p4), some (.int p5), some (.int s0)]) d_La_law_926 (by decide) rfl ?_
  refine j_aload_n d_La_law_928 rfl ?_
  obtain ⟨t1, H⟩ := H
  refine j_callV (d' := 1) (ci := 10) (As := []) (rest := []) (b := a2) cv_La_80 me_Mo_thrown rfl (by decide) rfl rfl t1 rfl rfl (Nat.le_of_ble_eq_true rfl) d_La_law_929 (by decide) rfl (j_enter (L := [some (.ref a2)]) me_Mo_thrown (cat_c rfl cat_n) (Nat.le_of_ble_eq_true rfl) rfl ?_)
  refine j_aload_n d_Mo_thrown_0 rfl ?_
  refine j_getI (f := 640) fe_Mo_139 rfl rfl t1 d_Mo_thrown_1 ?_
  refine j_iret rfl d_Mo_thrown_4 ?_
  show J E 14 m_La_law 932 [some (.ref a0), some (.ref a1), some (.ref a2), some (.ref a3), some (.int p4), some (.int p5), some (.int s0)] [.int ((gI G 640 a2))] G Post
  refine j_iload d_La_law_932 rfl ?_
  obtain ⟨Ha, Hb⟩ := H
  refine j_icmp_eq (tgt := 939) d_La_law_934 (by decide) (fun c8 => ?_) (fun c9 => ?_)
  · have H := Ha c8
    refine j_iload d_La_law_939 rfl ?_
    obtain ⟨Ha, Hb⟩ := H
    refine j_if_ne (tgt := 956) d_La_law_941 (by decide) (fun c6 => ?_) (fun c7 => ?_)
    · have H := Ha c6
      refine j_goto (tgt := 1295) d_La_law_956 (by decide) ?_
      refine j_iinc (v := (p4 + (7 : Int32))) (L' := [some (.ref a0), some (.ref a1), some (.ref a2), some (.ref a3), some (.int ((p4 + (7 : Int32)))), some (.int p5), some (.int s0)]) d_La_law_1295 rfl (by rw [show Int32.ofInt (7) = (7 : Int32) by decide]) (by decide) rfl ?_
      refine j_goto (tgt := 23) d_La_law_1298 (by decide) ?_
      refine j_forget (L' := [some (.ref a0), some (.ref a1), some (.ref a2), some (.ref a3), some (.int ((p4 + (7 : Int32)))), none, none]) ⟨Or.inr rfl, Or.inr rfl, Or.inr rfl, Or.inr rfl, Or.inr rfl, Or.inl rfl, Or.inl rfl, trivial⟩ ?_
      exact H
    · have H := Hb c7
      refine j_aload_n d_La_law_944 rfl ?_
      refine j_iconst (v := 0) d_La_law_945 (by decide) ?_
      obtain ⟨t2, H⟩ := H
      obtain ⟨x3, H⟩ := H
      refine j_lald (n := 0) t2 x3 d_La_law_946 ?_
      refine j_iload d_La_law_947 rfl ?_
      refine j_i2l d_La_law_949 ?_
      refine j_lcmp d_La_law_950 ?_
      obtain ⟨Ha, Hb⟩ := H
      refine j_if_eq (tgt := 956) d_La_law_951 (by decide) (fun c4 => ?_) (fun c5 => ?_)
      · have H := Ha c4
        refine j_goto (tgt := 1295) d_La_law_956 (by decide) ?_
        refine j_iinc (v := (p4 + (7 : Int32))) (L' := [some (.ref a0), some (.ref a1), some (.ref a2), some (.ref a3), some (.int ((p4 + (7 : Int32)))), some (.int p5), some (.int s0)]) d_La_law_1295 rfl (by rw [show Int32.ofInt (7) = (7 : Int32) by decide]) (by decide) rfl ?_
        refine j_goto (tgt := 23) d_La_law_1298 (by decide) ?_
        refine j_forget (L' := [some (.ref a0), some (.ref a1), some (.ref a2), some (.ref a3), some (.int ((p4 + (7 : Int32)))), none, none]) ⟨Or.inr rfl, Or.inr rfl, Or.inr rfl, Or.inr rfl, Or.inr rfl, Or.inl rfl, Or.inl rfl, trivial⟩ ?_
        exact H
      · have H := Hb c5
        refine j_iconst (v := 0) d_La_law_954 (by decide) ?_
        exact j_zret rfl (by decide) d_La_law_955 H
  · have H := Hb c9
    refine j_iconst (v := 0) d_La_law_937 (by decide) ?_
    exact j_zret rfl (by decide) d_La_law_938 H
theorem wl_La_law_982 {E : EV} {G : GH} {Post : Res → GH → Prop} (a0 : Nat) (a1 : Nat) (a2 : Nat) (a3 : Nat) (p4 : Int32) (p5 : Int32) (s0 : Int32) (H : gT G a2 = 11 ∧ ((gI G 640 a2) = p5 → (¬ p5 = 0 → J E 14 m_La_law 23 [some (.ref a0), some (.ref a1), some (.ref a2), some (.ref a3), some (.int ((p4 + (7 : Int32)))), none, none] [] G Post) ∧ (p5 = 0 → gT G a3 = 22 ∧ IX (0 : Int32) 0 (gN G a3) ∧ ((lg_cmp ((gL G a3 0)) ((Int32.toInt64 s0))) = 0 → J E 14 m_La_law 23 [some (.ref a0), some (.ref a1), some (.ref a2), some (.ref a3), some (.int ((p4 + (7 : Int32)))), none, none] [] G Post) ∧ (¬ (lg_cmp ((gL G a3 0)) ((Int32.toInt64 s0))) = 0 → Post (.inl (some (.int ((0 : Int32))))) G))) ∧ (¬ (gI G 640 a2) = p5 → Post (.inl (some (.int ((0 : Int32))))) G)) : J E 14 m_La_law 982 [some (.ref a0), some (.ref a1), some (.ref a2), some (.ref a3), some (.int p4), some (.int p5), none] [.int s0] G Post := by
  refine j_istore (L' := [some (.ref a0), some (.ref a1), some (.ref a2), some (.ref a3), some (.int p4), some (.int p5), some (.int s0)]) d_La_law_982 (by decide) rfl ?_
  refine j_aload_n d_La_law_984 rfl ?_
  obtain ⟨t1, H⟩ := H
  refine j_callV (d' := 1) (ci := 10) (As := []) (rest := []) (b := a2) cv_La_80 me_Mo_thrown rfl (by decide) rfl rfl t1 rfl rfl (Nat.le_of_ble_eq_true rfl) d_La_law_985 (by decide) rfl (j_enter (L := [some (.ref a2)]) me_Mo_thrown (cat_c rfl cat_n) (Nat.le_of_ble_eq_true rfl) rfl ?_)
  refine j_aload_n d_Mo_thrown_0 rfl ?_
  refine j_getI (f := 640) fe_Mo_139 rfl rfl t1 d_Mo_thrown_1 ?_
  refine j_iret rfl d_Mo_thrown_4 ?_
  show J E 14 m_La_law 988 [some (.ref a0), some (.ref a1), some (.ref a2), some (.ref a3), some (.int p4), some (.int p5), some (.int s0)] [.int ((gI G 640 a2))] G Post
  refine j_iload d_La_law_988 rfl ?_
  obtain ⟨Ha, Hb⟩ := H
  refine j_icmp_eq (tgt := 995) d_La_law_990 (by decide) (fun c8 => ?_) (fun c9 => ?_)
  · have H := Ha c8
    refine j_iload d_La_law_995 rfl ?_
    obtain ⟨Ha, Hb⟩ := H
    refine j_if_ne (tgt := 1012) d_La_law_997 (by decide) (fun c6 => ?_) (fun c7 => ?_)
    · have H := Ha c6
      refine j_goto (tgt := 1295) d_La_law_1012 (by decide) ?_
      refine j_iinc (v := (p4 + (7 : Int32))) (L' := [some (.ref a0), some (.ref a1), some (.ref a2), some (.ref a3), some (.int ((p4 + (7 : Int32)))), some (.int p5), some (.int s0)]) d_La_law_1295 rfl (by rw [show Int32.ofInt (7) = (7 : Int32) by decide]) (by decide) rfl ?_
      refine j_goto (tgt := 23) d_La_law_1298 (by decide) ?_
      refine j_forget (L' := [some (.ref a0), some (.ref a1), some (.ref a2), some (.ref a3), some (.int ((p4 + (7 : Int32)))), none, none]) ⟨Or.inr rfl, Or.inr rfl, Or.inr rfl, Or.inr rfl, Or.inr rfl, Or.inl rfl, Or.inl rfl, trivial⟩ ?_
      exact H
    · have H := Hb c7
      refine j_aload_n d_La_law_1000 rfl ?_
      refine j_iconst (v := 0) d_La_law_1001 (by decide) ?_
      obtain ⟨t2, H⟩ := H
      obtain ⟨x3, H⟩ := H
      refine j_lald (n := 0) t2 x3 d_La_law_1002 ?_
      refine j_iload d_La_law_1003 rfl ?_
      refine j_i2l d_La_law_1005 ?_
      refine j_lcmp d_La_law_1006 ?_
      obtain ⟨Ha, Hb⟩ := H
      refine j_if_eq (tgt := 1012) d_La_law_1007 (by decide) (fun c4 => ?_) (fun c5 => ?_)
      · have H := Ha c4
        refine j_goto (tgt := 1295) d_La_law_1012 (by decide) ?_
        refine j_iinc (v := (p4 + (7 : Int32))) (L' := [some (.ref a0), some (.ref a1), some (.ref a2), some (.ref a3), some (.int ((p4 + (7 : Int32)))), some (.int p5), some (.int s0)]) d_La_law_1295 rfl (by rw [show Int32.ofInt (7) = (7 : Int32) by decide]) (by decide) rfl ?_
        refine j_goto (tgt := 23) d_La_law_1298 (by decide) ?_
        refine j_forget (L' := [some (.ref a0), some (.ref a1), some (.ref a2), some (.ref a3), some (.int ((p4 + (7 : Int32)))), none, none]) ⟨Or.inr rfl, Or.inr rfl, Or.inr rfl, Or.inr rfl, Or.inr rfl, Or.inl rfl, Or.inl rfl, trivial⟩ ?_
        exact H
      · have H := Hb c5
        refine j_iconst (v := 0) d_La_law_1010 (by decide) ?_
        exact j_zret rfl (by decide) d_La_law_1011 H
  · have H := Hb c9
    refine j_iconst (v := 0) d_La_law_993 (by decide) ?_
    exact j_zret rfl (by decide) d_La_law_994 H
theorem wl_La_law_1050 {E : EV} {G : GH} {Post : Res → GH → Prop} (a0 : Nat) (a1 : Nat) (a2 : Nat) (a3 : Nat) (p4 : Int32) (p5 : Int32) (s0 : Int32) (H : gT G a2 = 11 ∧ ((gI G 640 a2) = p5 → (¬ p5 = 0 → J E 14 m_La_law 23 [some (.ref a0), some (.ref a1), some (.ref a2), some (.ref a3), some (.int ((p4 + (7 : Int32)))), none, none] [] G Post) ∧ (p5 = 0 → gT G a3 = 22 ∧ IX (0 : Int32) 0 (gN G a3) ∧ ((lg_cmp ((gL G a3 0)) ((Int32.toInt64 s0))) = 0 → J E 14 m_La_law 23 [some (.ref a0), some (.ref a1), some (.ref a2), some (.ref a3), some (.int ((p4 + (7 : Int32)))), none, none] [] G Post) ∧ (¬ (lg_cmp ((gL G a3 0)) ((Int32.toInt64 s0))) = 0 → Post (.inl (some (.int ((0 : Int32))))) G))) ∧ (¬ (gI G 640 a2) = p5 → Post (.inl (some (.int ((0 : Int32))))) G)) : J E 14 m_La_law 1050 [some (.ref a0), some (.ref a1), some (.ref a2), some (.ref a3), some (.int p4), some (.int p5), none] [.int s0] G Post := by
  refine j_istore (L' := [some (.ref a0), some (.ref a1), some (.ref a2), some (.ref a3), some (.int p4), some (.int p5), some (.int s0)]) d_La_law_1050 (by decide) rfl ?_
  refine j_aload_n d_La_law_1052 rfl ?_
  obtain ⟨t1, H⟩ := H
  refine j_callV (d' := 1) (ci := 10) (As := []) (rest := []) (b := a2) cv_La_80 me_Mo_thrown rfl (by decide) rfl rfl t1 rfl rfl (Nat.le_of_ble_eq_true rfl) d_La_law_1053 (by decide) rfl (j_enter (L := [some (.ref a2)]) me_Mo_thrown (cat_c rfl cat_n) (Nat.le_of_ble_eq_true rfl) rfl ?_)
  refine j_aload_n d_Mo_thrown_0 rfl ?_
  refine j_getI (f := 640) fe_Mo_139 rfl rfl t1 d_Mo_thrown_1 ?_
  refine j_iret rfl d_Mo_thrown_4 ?_
  show J E 14 m_La_law 1056 [some (.ref a0), some (.ref a1), some (.ref a2), some (.ref a3), some (.int p4), some (.int p5), some (.int s0)] [.int ((gI G 640 a2))] G Post
  refine j_iload d_La_law_1056 rfl ?_
  obtain ⟨Ha, Hb⟩ := H
  refine j_icmp_eq (tgt := 1063) d_La_law_1058 (by decide) (fun c8 => ?_) (fun c9 => ?_)
  · have H := Ha c8
    refine j_iload d_La_law_1063 rfl ?_
    obtain ⟨Ha, Hb⟩ := H
    refine j_if_ne (tgt := 1080) d_La_law_1065 (by decide) (fun c6 => ?_) (fun c7 => ?_)
    · have H := Ha c6
      refine j_goto (tgt := 1295) d_La_law_1080 (by decide) ?_
      refine j_iinc (v := (p4 + (7 : Int32))) (L' := [some (.ref a0), some (.ref a1), some (.ref a2), some (.ref a3), some (.int ((p4 + (7 : Int32)))), some (.int p5), some (.int s0)]) d_La_law_1295 rfl (by rw [show Int32.ofInt (7) = (7 : Int32) by decide]) (by decide) rfl ?_
      refine j_goto (tgt := 23) d_La_law_1298 (by decide) ?_
      refine j_forget (L' := [some (.ref a0), some (.ref a1), some (.ref a2), some (.ref a3), some (.int ((p4 + (7 : Int32)))), none, none]) ⟨Or.inr rfl, Or.inr rfl, Or.inr rfl, Or.inr rfl, Or.inr rfl, Or.inl rfl, Or.inl rfl, trivial⟩ ?_
      exact H
    · have H := Hb c7
      refine j_aload_n d_La_law_1068 rfl ?_
      refine j_iconst (v := 0) d_La_law_1069 (by decide) ?_
      obtain ⟨t2, H⟩ := H
      obtain ⟨x3, H⟩ := H
      refine j_lald (n := 0) t2 x3 d_La_law_1070 ?_
      refine j_iload d_La_law_1071 rfl ?_
      refine j_i2l d_La_law_1073 ?_
      refine j_lcmp d_La_law_1074 ?_
      obtain ⟨Ha, Hb⟩ := H
      refine j_if_eq (tgt := 1080) d_La_law_1075 (by decide) (fun c4 => ?_) (fun c5 => ?_)
      · have H := Ha c4
        refine j_goto (tgt := 1295) d_La_law_1080 (by decide) ?_
        refine j_iinc (v := (p4 + (7 : Int32))) (L' := [some (.ref a0), some (.ref a1), some (.ref a2), some (.ref a3), some (.int ((p4 + (7 : Int32)))), some (.int p5), some (.int s0)]) d_La_law_1295 rfl (by rw [show Int32.ofInt (7) = (7 : Int32) by decide]) (by decide) rfl ?_
        refine j_goto (tgt := 23) d_La_law_1298 (by decide) ?_
        refine j_forget (L' := [some (.ref a0), some (.ref a1), some (.ref a2), some (.ref a3), some (.int ((p4 + (7 : Int32)))), none, none]) ⟨Or.inr rfl, Or.inr rfl, Or.inr rfl, Or.inr rfl, Or.inr rfl, Or.inl rfl, Or.inl rfl, trivial⟩ ?_
        exact H
      · have H := Hb c5
        refine j_iconst (v := 0) d_La_law_1078 (by decide) ?_
        exact j_zret rfl (by decide) d_La_law_1079 H
  · have H := Hb c9
    refine j_iconst (v := 0) d_La_law_1061 (by decide) ?_
    exact j_zret rfl (by decide) d_La_law_1062 H
theorem wl_La_law_1091 {E : EV} {G : GH} {Post : Res → GH → Prop} (a0 : Nat) (a1 : Nat) (a2 : Nat) (a3 : Nat) (p4 : Int32) (s0 : Int32) (s1 : Int32) (H : (s0 = s1 → J E 14 m_La_law 23 [some (.ref a0), some (.ref a1), some (.ref a2), some (.ref a3), some (.int ((p4 + (7 : Int32)))), none, none] [] G Post) ∧ (¬ s0 = s1 → Post (.inl (some (.int ((0 : Int32))))) G)) : J E 14 m_La_law 1091 [some (.ref a0), some (.ref a1), some (.ref a2), some (.ref a3), some (.int p4), none, none] [.int s1, .int s0] G Post := by
  obtain ⟨Ha, Hb⟩ := H
  refine j_icmp_eq (tgt := 1295) d_La_law_1091 (by decide) (fun c1 => ?_) (fun c2 => ?_)
  · have H := Ha c1
    refine j_iinc (v := (p4 + (7 : Int32))) (L' := [some (.ref a0), some (.ref a1), some (.ref a2), some (.ref a3), some (.int ((p4 + (7 : Int32)))), none, none]) d_La_law_1295 rfl (by rw [show Int32.ofInt (7) = (7 : Int32) by decide]) (by decide) rfl ?_
    refine j_goto (tgt := 23) d_La_law_1298 (by decide) ?_
    exact H
  · have H := Hb c2
    refine j_iconst (v := 0) d_La_law_1094 (by decide) ?_
    exact j_zret rfl (by decide) d_La_law_1095 H
theorem wl_La_law_1104 {E : EV} {G : GH} {Post : Res → GH → Prop} (a0 : Nat) (a1 : Nat) (a2 : Nat) (a3 : Nat) (p4 : Int32) (s0 : Int32) (s1 : Int32) (H : (s0 = s1 → J E 14 m_La_law 23 [some (.ref a0), some (.ref a1), some (.ref a2), some (.ref a3), some (.int ((p4 + (7 : Int32)))), none, none] [] G Post) ∧ (¬ s0 = s1 → Post (.inl (some (.int ((0 : Int32))))) G)) : J E 14 m_La_law 1104 [some (.ref a0), some (.ref a1), some (.ref a2), some (.ref a3), some (.int p4), none, none] [.int s1, .int s0] G Post := by
  obtain ⟨Ha, Hb⟩ := H
  refine j_icmp_eq (tgt := 1295) d_La_law_1104 (by decide) (fun c1 => ?_) (fun c2 => ?_)
  · have H := Ha c1
    refine j_iinc (v := (p4 + (7 : Int32))) (L' := [some (.ref a0), some (.ref a1), some (.ref a2), some (.ref a3), some (.int ((p4 + (7 : Int32)))), none, none]) d_La_law_1295 rfl (by rw [show Int32.ofInt (7) = (7 : Int32) by decide]) (by decide) rfl ?_
    refine j_goto (tgt := 23) d_La_law_1298 (by decide) ?_
    exact H
  · have H := Hb c2
    refine j_iconst (v := 0) d_La_law_1107 (by decide) ?_
    exact j_zret rfl (by decide) d_La_law_1108 H
theorem wl_La_law_1117 {E : EV} {G : GH} {Post : Res → GH → Prop} (a0 : Nat) (a1 : Nat) (a2 : Nat) (a3 : Nat) (p4 : Int32) (s0 : Int32) (s1 : Int32) (H : (s0 = s1 → J E 14 m_La_law 23 [some (.ref a0), some (.ref a1), some (.ref a2), some (.ref a3), some (.int ((p4 + (7 : Int32)))), none, none] [] G Post) ∧ (¬ s0 = s1 → Post (.inl (some (.int ((0 : Int32))))) G)) : J E 14 m_La_law 1117 [some (.ref a0), some (.ref a1), some (.ref a2), some (.ref a3), some (.int p4), none, none] [.int s1, .int s0] G Post := by
  obtain ⟨Ha, Hb⟩ := H
  refine j_icmp_eq (tgt := 1295) d_La_law_1117 (by decide) (fun c1 => ?_) (fun c2 => ?_)
  · have H := Ha c1
    refine j_iinc (v := (p4 + (7 : Int32))) (L' := [some (.ref a0), some (.ref a1), some (.ref a2), some (.ref a3), some (.int ((p4 + (7 : Int32)))), none, none]) d_La_law_1295 rfl (by rw [show Int32.ofInt (7) = (7 : Int32) by decide]) (by decide) rfl ?_
    refine j_goto (tgt := 23) d_La_law_1298 (by decide) ?_
    exact H
  · have H := Hb c2
    refine j_iconst (v := 0) d_La_law_1120 (by decide) ?_
    exact j_zret rfl (by decide) d_La_law_1121 H
theorem wl_La_law_1130 {E : EV} {G : GH} {Post : Res → GH → Prop} (a0 : Nat) (a1 : Nat) (a2 : Nat) (a3 : Nat) (p4 : Int32) (s0 : Int32) (s1 : Int32) (H : (s0 = s1 → J E 14 m_La_law 23 [some (.ref a0), some (.ref a1), some (.ref a2), some (.ref a3), some (.int ((p4 + (7 : Int32)))), none, none] [] G Post) ∧ (¬ s0 = s1 → Post (.inl (some (.int ((0 : Int32))))) G)) : J E 14 m_La_law 1130 [some (.ref a0), some (.ref a1), some (.ref a2), some (.ref a3), some (.int p4), none, none] [.int s1, .int s0] G Post := by
  obtain ⟨Ha, Hb⟩ := H
  refine j_icmp_eq (tgt := 1295) d_La_law_1130 (by decide) (fun c1 => ?_) (fun c2 => ?_)
  · have H := Ha c1
    refine j_iinc (v := (p4 + (7 : Int32))) (L' := [some (.ref a0), some (.ref a1), some (.ref a2), some (.ref a3), some (.int ((p4 + (7 : Int32)))), none, none]) d_La_law_1295 rfl (by rw [show Int32.ofInt (7) = (7 : Int32) by decide]) (by decide) rfl ?_
    refine j_goto (tgt := 23) d_La_law_1298 (by decide) ?_
    exact H
  · have H := Hb c2
    refine j_iconst (v := 0) d_La_law_1133 (by decide) ?_
    exact j_zret rfl (by decide) d_La_law_1134 H
theorem wl_La_law_1182 {E : EV} {G : GH} {Post : Res → GH → Prop} (a0 : Nat) (a1 : Nat) (a2 : Nat) (a3 : Nat) (p4 : Int32) (p5 : Int32) (s0 : Int32) (H : gT G a2 = 11 ∧ ((gI G 640 a2) = p5 → (¬ p5 = 0 → J E 14 m_La_law 23 [some (.ref a0), some (.ref a1), some (.ref a2), some (.ref a3), some (.int ((p4 + (7 : Int32)))), none, none] [] G Post) ∧ (p5 = 0 → gT G a3 = 22 ∧ IX (0 : Int32) 0 (gN G a3) ∧ ((lg_cmp ((gL G a3 0)) ((Int32.toInt64 s0))) = 0 → J E 14 m_La_law 23 [some (.ref a0), some (.ref a1), some (.ref a2), some (.ref a3), some (.int ((p4 + (7 : Int32)))), none, none] [] G Post) ∧ (¬ (lg_cmp ((gL G a3 0)) ((Int32.toInt64 s0))) = 0 → Post (.inl (some (.int ((0 : Int32))))) G))) ∧ (¬ (gI G 640 a2) = p5 → Post (.inl (some (.int ((0 : Int32))))) G)) : J E 14 m_La_law 1182 [some (.ref a0), some (.ref a1), some (.ref a2), some (.ref a3), some (.int p4), some (.int p5), none] [.int s0] G Post := by
  refine j_istore (L' := [some (.ref a0), some (.ref a1), some (.ref a2), some (.ref a3), some (.int p4), some (.int p5), some (.int s0)]) d_La_law_1182 (by decide) rfl ?_
  refine j_aload_n d_La_law_1184 rfl ?_
  obtain ⟨t1, H⟩ := H
  refine j_callV (d' := 1) (ci := 10) (As := []) (rest := []) (b := a2) cv_La_80 me_Mo_thrown rfl (by decide) rfl rfl t1 rfl rfl (Nat.le_of_ble_eq_true rfl) d_La_law_1185 (by decide) rfl (j_enter (L := [some (.ref a2)]) me_Mo_thrown (cat_c rfl cat_n) (Nat.le_of_ble_eq_true rfl) rfl ?_)
  refine j_aload_n d_Mo_thrown_0 rfl ?_
  refine j_getI (f := 640) fe_Mo_139 rfl rfl t1 d_Mo_thrown_1 ?_
  refine j_iret rfl d_Mo_thrown_4 ?_
  show J E 14 m_La_law 1188 [some (.ref a0), some (.ref a1), some (.ref a2), some (.ref a3), some (.int p4), some (.int p5), some (.int s0)] [.int ((gI G 640 a2))] G Post
  refine j_iload d_La_law_1188 rfl ?_
  obtain ⟨Ha, Hb⟩ := H
  refine j_icmp_eq (tgt := 1195) d_La_law_1190 (by decide) (fun c8 => ?_) (fun c9 => ?_)
  · have H := Ha c8
    refine j_iload d_La_law_1195 rfl ?_
    obtain ⟨Ha, Hb⟩ := H
    refine j_if_ne (tgt := 1212) d_La_law_1197 (by decide) (fun c6 => ?_) (fun c7 => ?_)
    · have H := Ha c6
      refine j_goto (tgt := 1295) d_La_law_1212 (by decide) ?_
      refine j_iinc (v := (p4 + (7 : Int32))) (L' := [some (.ref a0), some (.ref a1), some (.ref a2), some (.ref a3), some (.int ((p4 + (7 : Int32)))), some (.int p5), some (.int s0)]) d_La_law_1295 rfl (by rw [show Int32.ofInt (7) = (7 : Int32) by decide]) (by decide) rfl ?_
      refine j_goto (tgt := 23) d_La_law_1298 (by decide) ?_
      refine j_forget (L' := [some (.ref a0), some (.ref a1), some (.ref a2), some (.ref a3), some (.int ((p4 + (7 : Int32)))), none, none]) ⟨Or.inr rfl, Or.inr rfl, Or.inr rfl, Or.inr rfl, Or.inr rfl, Or.inl rfl, Or.inl rfl, trivial⟩ ?_
      exact H
    · have H := Hb c7
      refine j_aload_n d_La_law_1200 rfl ?_
      refine j_iconst (v := 0) d_La_law_1201 (by decide) ?_
      obtain ⟨t2, H⟩ := H
      obtain ⟨x3, H⟩ := H
      refine j_lald (n := 0) t2 x3 d_La_law_1202 ?_
      refine j_iload d_La_law_1203 rfl ?_
      refine j_i2l d_La_law_1205 ?_
      refine j_lcmp d_La_law_1206 ?_
      obtain ⟨Ha, Hb⟩ := H
      refine j_if_eq (tgt := 1212) d_La_law_1207 (by decide) (fun c4 => ?_) (fun c5 => ?_)
      · have H := Ha c4
        refine j_goto (tgt := 1295) d_La_law_1212 (by decide) ?_
        refine j_iinc (v := (p4 + (7 : Int32))) (L' := [some (.ref a0), some (.ref a1), some (.ref a2), some (.ref a3), some (.int ((p4 + (7 : Int32)))), some (.int p5), some (.int s0)]) d_La_law_1295 rfl (by rw [show Int32.ofInt (7) = (7 : Int32) by decide]) (by decide) rfl ?_
        refine j_goto (tgt := 23) d_La_law_1298 (by decide) ?_
        refine j_forget (L' := [some (.ref a0), some (.ref a1), some (.ref a2), some (.ref a3), some (.int ((p4 + (7 : Int32)))), none, none]) ⟨Or.inr rfl, Or.inr rfl, Or.inr rfl, Or.inr rfl, Or.inr rfl, Or.inl rfl, Or.inl rfl, trivial⟩ ?_
        exact H
      · have H := Hb c5
        refine j_iconst (v := 0) d_La_law_1210 (by decide) ?_
        exact j_zret rfl (by decide) d_La_law_1211 H
  · have H := Hb c9
    refine j_iconst (v := 0) d_La_law_1193 (by decide) ?_
    exact j_zret rfl (by decide) d_La_law_1194 H
theorem wl_La_law_1262 {E : EV} {G : GH} {Post : Res → GH → Prop} (a0 : Nat) (a1 : Nat) (a2 : Nat) (a3 : Nat) (p4 : Int32) (p5 : Int32) (s0 : Int32) (H : gT G a2 = 11 ∧ ((gI G 640 a2) = p5 → (¬ p5 = 0 → J E 14 m_La_law 23 [some (.ref a0), some (.ref a1), some (.ref a2), some (.ref a3), some (.int ((p4 + (7 : Int32)))), none, none] [] G Post) ∧ (p5 = 0 → gT G a3 = 22 ∧ IX (0 : Int32) 0 (gN G a3) ∧ ((lg_cmp ((gL G a3 0)) ((Int32.toInt64 s0))) = 0 → J E 14 m_La_law 23 [some (.ref a0), some (.ref a1), some (.ref a2), some (.ref a3), some (.int ((p4 + (7 : Int32)))), none, none] [] G Post) ∧ (¬ (lg_cmp ((gL G a3 0)) ((Int32.toInt64 s0))) = 0 → Post (.inl (some (.int ((0 : Int32))))) G))) ∧ (¬ (gI G 640 a2) = p5 → Post (.inl (some (.int ((0 : Int32))))) G)) : J E 14 m_La_law 1262 [some (.ref a0), some (.ref a1), some (.ref a2), some (.ref a3), some (.int p4), some (.int p5), none] [.int s0] G Post := by
  refine j_istore (L' := [some (.ref a0), some (.ref a1), some (.ref a2), some (.ref a3), some (.int p4), some (.int p5), some (.int s0)]) d_La_law_1262 (by decide) rfl ?_
  refine j_aload_n d_La_law_1264 rfl ?_
  obtain ⟨t1, H⟩ := H
  refine j_callV (d' := 1) (ci := 10) (As := []) (rest := []) (b := a2) cv_La_80 me_Mo_thrown rfl (by decide) rfl rfl t1 rfl rfl (Nat.le_of_ble_eq_true rfl) d_La_law_1265 (by decide) rfl (j_enter (L := [some (.ref a2)]) me_Mo_thrown (cat_c rfl cat_n) (Nat.le_of_ble_eq_true rfl) rfl ?_)
  refine j_aload_n d_Mo_thrown_0 rfl ?_
  refine j_getI (f := 640) fe_Mo_139 rfl rfl t1 d_Mo_thrown_1 ?_
  refine j_iret rfl d_Mo_thrown_4 ?_
  show J E 14 m_La_law 1268 [some (.ref a0), some (.ref a1), some (.ref a2), some (.ref a3), some (.int p4), some (.int p5), some (.int s0)] [.int ((gI G 640 a2))] G Post
  refine j_iload d_La_law_1268 rfl ?_
  obtain ⟨Ha, Hb⟩ := H
  refine j_icmp_eq (tgt := 1275) d_La_law_1270 (by decide) (fun c8 => ?_) (fun c9 => ?_)
  · have H := Ha c8
    refine j_iload d_La_law_1275 rfl ?_
    obtain ⟨Ha, Hb⟩ := H
    refine j_if_ne (tgt := 1292) d_La_law_1277 (by decide) (fun c6 => ?_) (fun c7 => ?_)
    · have H := Ha c6
      refine j_goto (tgt := 1295) d_La_law_1292 (by decide) ?_
      refine j_iinc (v := (p4 + (7 : Int32))) (L' := [some (.ref a0), some (.ref a1), some (.ref a2), some (.ref a3), some (.int ((p4 + (7 : Int32)))), some (.int p5), some (.int s0)]) d_La_law_1295 rfl (by rw [show Int32.ofInt (7) = (7 : Int32) by decide]) (by decide) rfl ?_
      refine j_goto (tgt := 23) d_La_law_1298 (by decide) ?_
      refine j_forget (L' := [some (.ref a0), some (.ref a1), some (.ref a2), some (.ref a3), some (.int ((p4 + (7 : Int32)))), none, none]) ⟨Or.inr rfl, Or.inr rfl, Or.inr rfl, Or.inr rfl, Or.inr rfl, Or.inl rfl, Or.inl rfl, trivial⟩ ?_
      exact H
    · have H := Hb c7
      refine j_aload_n d_La_law_1280 rfl ?_
      refine j_iconst (v := 0) d_La_law_1281 (by decide) ?_
      obtain ⟨t2, H⟩ := H
      obtain ⟨x3, H⟩ := H
      refine j_lald (n := 0) t2 x3 d_La_law_1282 ?_
      refine j_iload d_La_law_1283 rfl ?_
      refine j_i2l d_La_law_1285 ?_
      refine j_lcmp d_La_law_1286 ?_
      obtain ⟨Ha, Hb⟩ := H
      refine j_if_eq (tgt := 1292) d_La_law_1287 (by decide) (fun c4 => ?_) (fun c5 => ?_)
      · have H := Ha c4
        refine j_goto (tgt := 1295) d_La_law_1292 (by decide) ?_
        refine j_iinc (v := (p4 + (7 : Int32))) (L' := [some (.ref a0), some (.ref a1), some (.ref a2), some (.ref a3), some (.int ((p4 + (7 : Int32)))), some (.int p5), some (.int s0)]) d_La_law_1295 rfl (by rw [show Int32.ofInt (7) = (7 : Int32) by decide]) (by decide) rfl ?_
        refine j_goto (tgt := 23) d_La_law_1298 (by decide) ?_
        refine j_forget (L' := [some (.ref a0), some (.ref a1), some (.ref a2), some (.ref a3), some (.int ((p4 + (7 : Int32)))), none, none]) ⟨Or.inr rfl, Or.inr rfl, Or.inr rfl, Or.inr rfl, Or.inr rfl, Or.inl rfl, Or.inl rfl, trivial⟩ ?_
        exact H
      · have H := Hb c5
        refine j_iconst (v := 0) d_La_law_1290 (by decide) ?_
        exact j_zret rfl (by decide) d_La_law_1291 H
  · have H := Hb c9
    refine j_iconst (v := 0) d_La_law_1273 (by decide) ?_
    exact j_zret rfl (by decide) d_La_law_1274 H
