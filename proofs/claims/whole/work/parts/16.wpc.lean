/-! walks; printed by wip/gen/wps.py -/
theorem wp_Mo_init_0 {E : EV} {G : GH} {Post : Res → GH → Prop} (a0 : Nat) (H : gT G a0 = 11 ∧ J E 1 m_Mo_init 15 [some (.ref a0), none] [] (sI (sI G 641 a0 ((0 : Int32))) 642 a0 ((10 : Int32))) Post) : J E 1 m_Mo_init 0 [some (.ref a0), none] [] G Post := by
  refine j_aload_n d_Mo_init_0 rfl ?_
  refine j_objInit co_Mo_1 ob1 ob2 (Nat.le_of_ble_eq_true rfl) d_Mo_init_1 ?_
  refine j_aload_n d_Mo_init_4 rfl ?_
  refine j_iconst (v := 0) d_Mo_init_5 (by decide) ?_
  obtain ⟨t1, H⟩ := H
  refine j_putI (f := 641) fw_Mo_9 rfl rfl t1 d_Mo_init_6 ?_
  refine j_aload_n d_Mo_init_9 rfl ?_
  refine j_bipush (v := 10) d_Mo_init_10 (by decide) ?_
  refine j_putI (f := 642) fw_Mo_13 rfl rfl t1 d_Mo_init_12 ?_
  exact H
theorem wp_Mo_init_15 {E : EV} {G : GH} {Post : Res → GH → Prop} (a0 : Nat) (H : gT G a0 = 11 ∧ J E 1 m_Mo_init 26 [some (.ref a0), none] [] (sI (sI G 643 a0 ((10 : Int32))) 645 a0 ((5 : Int32))) Post) : J E 1 m_Mo_init 15 [some (.ref a0), none] [] G Post := by
  refine j_aload_n d_Mo_init_15 rfl ?_
  refine j_bipush (v := 10) d_Mo_init_16 (by decide) ?_
  obtain ⟨t1, H⟩ := H
  refine j_putI (f := 643) fw_Mo_16 rfl rfl t1 d_Mo_init_18 ?_
  refine j_aload_n d_Mo_init_21 rfl ?_
  refine j_iconst (v := 5) d_Mo_init_22 (by decide) ?_
  refine j_putI (f := 645) fw_Mo_19 rfl rfl t1 d_Mo_init_23 ?_
  exact H
theorem wp_Mo_init_26 {E : EV} {G : GH} {Post : Res → GH → Prop} (a0 : Nat) (H : gT G a0 = 11 ∧ J E 1 m_Mo_init 36 [some (.ref a0), none] [] (sI (sI G 646 a0 ((1 : Int32))) 647 a0 ((1 : Int32))) Post) : J E 1 m_Mo_init 26 [some (.ref a0), none] [] G Post := by
  refine j_aload_n d_Mo_init_26 rfl ?_
  refine j_iconst (v := 1) d_Mo_init_27 (by decide) ?_
  obtain ⟨t1, H⟩ := H
  refine j_putZ (f := 646) fw_Mo_22 rfl rfl t1 (by decide) d_Mo_init_28 ?_
  refine j_aload_n d_Mo_init_31 rfl ?_
  refine j_iconst (v := 1) d_Mo_init_32 (by decide) ?_
  refine j_putI (f := 647) fw_Mo_26 rfl rfl t1 d_Mo_init_33 ?_
  exact H
theorem wp_Mo_init_36 {E : EV} {G : GH} {Post : Res → GH → Prop} (a0 : Nat) (H : ∀ G1, G1 = al G 20 120 → gT G1 a0 = 11 ∧ ∀ G4, G4 = al (sR G1 649 a0 (some ((gz G)))) 20 120 → gT G4 a0 = 11 ∧ J E 1 m_Mo_init 52 [some (.ref a0), none] [] (sR G4 650 a0 (some ((gz G1)))) Post) : J E 1 m_Mo_init 36 [some (.ref a0), none] [] G Post := by
  refine j_aload_n d_Mo_init_36 rfl ?_
  refine j_bipush (v := 120) d_Mo_init_37 (by decide) ?_
  refine j_newI (n := 120) (by decide) (by decide) (by decide) wa_int d_Mo_init_39 ?_
  show J E 1 m_Mo_init 41 [some (.ref a0), none] [.ref ((gz G)), .ref a0] (al G 20 120) Post
  generalize e2 : al G 20 120 = G1
  have e2 := e2.symm
  have H := H G1 e2
  obtain ⟨t3, H⟩ := H
  refine j_putFR (r := (some ((gz G)))) (f := 649) rfl ff_Mo_29 rfl rfl rfl t3 d_Mo_init_41 ?_
  refine j_aload_n d_Mo_init_44 rfl ?_
  refine j_bipush (v := 120) d_Mo_init_45 (by decide) ?_
  refine j_newI (n := 120) (by decide) (by decide) (by decide) wa_int d_Mo_init_47 ?_
  show J E 1 m_Mo_init 49 [some (.ref a0), none] [.ref ((gz G1)), .ref a0] (al (sR G1 649 a0 (some ((gz G)))) 20 120) Post
  generalize e5 : al (sR G1 649 a0 (some ((gz G)))) 20 120 = G4
  have e5 := e5.symm
  have H := H G4 e5
  obtain ⟨t6, H⟩ := H
  refine j_putFR (r := (some ((gz G1)))) (f := 650) rfl ff_Mo_33 rfl rfl rfl t6 d_Mo_init_49 ?_
  exact H
theorem wp_Mo_init_52 {E : EV} {G : GH} {Post : Res → GH → Prop} (a0 : Nat) (H : ∀ G1, G1 = al G 20 120 → gT G1 a0 = 11 ∧ ∀ G4, G4 = al (sR G1 651 a0 (some ((gz G)))) 20 3 → gT G4 a0 = 11 ∧ J E 1 m_Mo_init 67 [some (.ref a0), none] [] (sR G4 652 a0 (some ((gz G1)))) Post) : J E 1 m_Mo_init 52 [some (.ref a0), none] [] G Post := by
  refine j_aload_n d_Mo_init_52 rfl ?_
  refine j_bipush (v := 120) d_Mo_init_53 (by decide) ?_
  refine j_newI (n := 120) (by decide) (by decide) (by decide) wa_int d_Mo_init_55 ?_
  show J E 1 m_Mo_init 57 [some (.ref a0), none] [.ref ((gz G)), .ref a0] (al G 20 120) Post
  generalize e2 : al G 20 120 = G1
  have e2 := e2.symm
  have H := H G1 e2
  obtain ⟨t3, H⟩ := H
  refine j_putFR (r := (some ((gz G)))) (f := 651) rfl ff_Mo_36 rfl rfl rfl t3 d_Mo_init_57 ?_
  refine j_aload_n d_Mo_init_60 rfl ?_
  refine j_iconst (v := 3) d_Mo_init_61 (by decide) ?_
  refine j_newI (n := 3) (by decide) (by decide) (by decide) wa_int d_Mo_init_62 ?_
  show J E 1 m_Mo_init 64 [some (.ref a0), none] [.ref ((gz G1)), .ref a0] (al (sR G1 651 a0 (some ((gz G)))) 20 3) Post
  generalize e5 : al (sR G1 651 a0 (some ((gz G)))) 20 3 = G4
  have e5 := e5.symm
  have H := H G4 e5
  obtain ⟨t6, H⟩ := H
  refine j_putFR (r := (some ((gz G1)))) (f := 652) rfl ff_Mo_39 rfl rfl rfl t6 d_Mo_init_64 ?_
  exact H
theorem wp_Mo_init_67 {E : EV} {G : GH} {Post : Res → GH → Prop} (a0 : Nat) (H : ∀ G1, G1 = al G 20 3 → gT G1 a0 = 11 ∧ ∀ G4, G4 = al (sR G1 653 a0 (some ((gz G)))) 20 3 → gT G4 a0 = 11 ∧ J E 1 m_Mo_init 81 [some (.ref a0), none] [] (sR G4 654 a0 (some ((gz G1)))) Post) : J E 1 m_Mo_init 67 [some (.ref a0), none] [] G Post := by
  refine j_aload_n d_Mo_init_67 rfl ?_
  refine j_iconst (v := 3) d_Mo_init_68 (by decide) ?_
  refine j_newI (n := 3) (by decide) (by decide) (by decide) wa_int d_Mo_init_69 ?_
  show J E 1 m_Mo_init 71 [some (.ref a0), none] [.ref ((gz G)), .ref a0] (al G 20 3) Post
  generalize e2 : al G 20 3 = G1
  have e2 := e2.symm
  have H := H G1 e2
  obtain ⟨t3, H⟩ := H
  refine j_putFR (r := (some ((gz G)))) (f := 653) rfl ff_Mo_42 rfl rfl rfl t3 d_Mo_init_71 ?_
  refine j_aload_n d_Mo_init_74 rfl ?_
  refine j_iconst (v := 3) d_Mo_init_75 (by decide) ?_
  refine j_newI (n := 3) (by decide) (by decide) (by decide) wa_int d_Mo_init_76 ?_
  show J E 1 m_Mo_init 78 [some (.ref a0), none] [.ref ((gz G1)), .ref a0] (al (sR G1 653 a0 (some ((gz G)))) 20 3) Post
  generalize e5 : al (sR G1 653 a0 (some ((gz G)))) 20 3 = G4
  have e5 := e5.symm
  have H := H G4 e5
  obtain ⟨t6, H⟩ := H
  refine j_putFR (r := (some ((gz G1)))) (f := 654) rfl ff_Mo_45 rfl rfl rfl t6 d_Mo_init_78 ?_
  exact H
theorem wp_Mo_init_81 {E : EV} {G : GH} {Post : Res → GH → Prop} (a0 : Nat) (H : ∀ G1, G1 = al G 20 3 → gT G1 a0 = 11 ∧ ∀ G4, G4 = al (sR G1 655 a0 (some ((gz G)))) 21 3 → gT G4 a0 = 11 ∧ J E 1 m_Mo_init 95 [some (.ref a0), none] [] (sR G4 656 a0 (some ((gz G1)))) Post) : J E 1 m_Mo_init 81 [some (.ref a0), none] [] G Post := by
  refine j_aload_n d_Mo_init_81 rfl ?_
  refine j_iconst (v := 3) d_Mo_init_82 (by decide) ?_
  refine j_newI (n := 3) (by decide) (by decide) (by decide) wa_int d_Mo_init_83 ?_
  show J E 1 m_Mo_init 85 [some (.ref a0), none] [.ref ((gz G)), .ref a0] (al G 20 3) Post
  generalize e2 : al G 20 3 = G1
  have e2 := e2.symm
  have H := H G1 e2
  obtain ⟨t3, H⟩ := H
  refine j_putFR (r := (some ((gz G)))) (f := 655) rfl ff_Mo_48 rfl rfl rfl t3 d_Mo_init_85 ?_
  refine j_aload_n d_Mo_init_88 rfl ?_
  refine j_iconst (v := 3) d_Mo_init_89 (by decide) ?_
  refine j_newZ (n := 3) (by decide) (by decide) (by decide) wa_boolean d_Mo_init_90 ?_
  show J E 1 m_Mo_init 92 [some (.ref a0), none] [.ref ((gz G1)), .ref a0] (al (sR G1 655 a0 (some ((gz G)))) 21 3) Post
  generalize e5 : al (sR G1 655 a0 (some ((gz G)))) 21 3 = G4
  have e5 := e5.symm
  have H := H G4 e5
  obtain ⟨t6, H⟩ := H
  refine j_putFR (r := (some ((gz G1)))) (f := 656) rfl ff_Mo_51 rfl rfl rfl t6 d_Mo_init_92 ?_
  exact H
theorem wp_Mo_init_95 {E : EV} {G : GH} {Post : Res → GH → Prop} (a0 : Nat) (H : ∀ G1, G1 = al G 20 3 → gT G1 a0 = 11 ∧ J E 1 m_Mo_init 107 [some (.ref a0), none] [] (sI (sR G1 657 a0 (some ((gz G)))) 658 a0 ((-1 : Int32))) Post) : J E 1 m_Mo_init 95 [some (.ref a0), none] [] G Post := by
  refine j_aload_n d_Mo_init_95 rfl ?_
  refine j_iconst (v := 3) d_Mo_init_96 (by decide) ?_
  refine j_newI (n := 3) (by decide) (by decide) (by decide) wa_int d_Mo_init_97 ?_
  show J E 1 m_Mo_init 99 [some (.ref a0), none] [.ref ((gz G)), .ref a0] (al G 20 3) Post
  generalize e2 : al G 20 3 = G1
  have e2 := e2.symm
  have H := H G1 e2
  obtain ⟨t3, H⟩ := H
  refine j_putFR (r := (some ((gz G)))) (f := 657) rfl ff_Mo_55 rfl rfl rfl t3 d_Mo_init_99 ?_
  refine j_aload_n d_Mo_init_102 rfl ?_
  refine j_iconst (v := -1) d_Mo_init_103 (by decide) ?_
  refine j_putI (f := 658) fw_Mo_58 rfl rfl t3 d_Mo_init_104 ?_
  exact H
theorem wp_Mo_init_107 {E : EV} {G : GH} {Post : Res → GH → Prop} (a0 : Nat) (H : ∀ G1, G1 = al G 20 3 → gT G1 a0 = 11 ∧ ∀ G4, G4 = al (sR G1 661 a0 (some ((gz G)))) 21 3 → gT G4 a0 = 11 ∧ J E 1 m_Mo_init 121 [some (.ref a0), none] [] (sR G4 662 a0 (some ((gz G1)))) Post) : J E 1 m_Mo_init 107 [some (.ref a0), none] [] G Post := by
  refine j_aload_n d_Mo_init_107 rfl ?_
  refine j_iconst (v := 3) d_Mo_init_108 (by decide) ?_
  refine j_newI (n := 3) (by decide) (by decide) (by decide) wa_int d_Mo_init_109 ?_
  show J E 1 m_Mo_init 111 [some (.ref a0), none] [.ref ((gz G)), .ref a0] (al G 20 3) Post
  generalize e2 : al G 20 3 = G1
  have e2 := e2.symm
  have H := H G1 e2
  obtain ⟨t3, H⟩ := H
  refine j_putFR (r := (some ((gz G)))) (f := 661) rfl ff_Mo_61 rfl rfl rfl t3 d_Mo_init_111 ?_
  refine j_aload_n d_Mo_init_114 rfl ?_
  refine j_iconst (v := 3) d_Mo_init_115 (by decide) ?_
  refine j_newZ (n := 3) (by decide) (by decide) (by decide) wa_boolean d_Mo_init_116 ?_
  show J E 1 m_Mo_init 118 [some (.ref a0), none] [.ref ((gz G1)), .ref a0] (al (sR G1 661 a0 (some ((gz G)))) 21 3) Post
  generalize e5 : al (sR G1 661 a0 (some ((gz G)))) 21 3 = G4
  have e5 := e5.symm
  have H := H G4 e5
  obtain ⟨t6, H⟩ := H
  refine j_putFR (r := (some ((gz G1)))) (f := 662) rfl ff_Mo_64 rfl rfl rfl t6 d_Mo_init_118 ?_
  exact H
theorem wp_Mo_init_121 {E : EV} {G : GH} {Post : Res → GH → Prop} (a0 : Nat) (H : ∀ G1, G1 = al G 20 1000 → gT G1 a0 = 11 ∧ ∀ G4, G4 = al (sR G1 663 a0 (some ((gz G)))) 20 1000 → gT G4 a0 = 11 ∧ J E 1 m_Mo_init 139 [some (.ref a0), none] [] (sR G4 664 a0 (some ((gz G1)))) Post) : J E 1 m_Mo_init 121 [some (.ref a0), none] [] G Post := by
  refine j_aload_n d_Mo_init_121 rfl ?_
  refine j_sipush (v := 1000) d_Mo_init_122 (by decide) ?_
  refine j_newI (n := 1000) (by decide) (by decide) (by decide) wa_int d_Mo_init_125 ?_
  show J E 1 m_Mo_init 127 [some (.ref a0), none] [.ref ((gz G)), .ref a0] (al G 20 1000) Post
  generalize e2 : al G 20 1000 = G1
  have e2 := e2.symm
  have H := H G1 e2
  obtain ⟨t3, H⟩ := H
  refine j_putFR (r := (some ((gz G)))) (f := 663) rfl ff_Mo_67 rfl rfl rfl t3 d_Mo_init_127 ?_
  refine j_aload_n d_Mo_init_130 rfl ?_
  refine j_sipush (v := 1000) d_Mo_init_131 (by decide) ?_
  refine j_newI (n := 1000) (by decide) (by decide) (by decide) wa_int d_Mo_init_134 ?_
  show J E 1 m_Mo_init 136 [some (.ref a0), none] [.ref ((gz G1)), .ref a0] (al (sR G1 663 a0 (some ((gz G)))) 20 1000) Post
  generalize e5 : al (sR G1 663 a0 (some ((gz G)))) 20 1000 = G4
  have e5 := e5.symm
  have H := H G4 e5
  obtain ⟨t6, H⟩ := H
  refine j_putFR (r := (some ((gz G1)))) (f := 664) rfl ff_Mo_70 rfl rfl rfl t6 d_Mo_init_136 ?_
  exact H
theorem wp_Mo_init_139 {E : EV} {G : GH} {Post : Res → GH → Prop} (a0 : Nat) (H : ∀ G1, G1 = al G 20 1000 → gT G1 a0 = 11 ∧ ∀ G4, G4 = al (sR G1 665 a0 (some ((gz G)))) 20 1000 → gT G4 a0 = 11 ∧ J E 1 m_Mo_init 157 [some (.ref a0), none] [] (sR G4 666 a0 (some ((gz G1)))) Post) : J E 1 m_Mo_init 139 [some (.ref a0), none] [] G Post := by
  refine j_aload_n d_Mo_init_139 rfl ?_
  refine j_sipush (v := 1000) d_Mo_init_140 (by decide) ?_
  refine j_newI (n := 1000) (by decide) (by decide) (by decide) wa_int d_Mo_init_143 ?_
  show J E 1 m_Mo_init 145 [some (.ref a0), none] [.ref ((gz G)), .ref a0] (al G 20 1000) Post
  generalize e2 : al G 20 1000 = G1
  have e2 := e2.symm
  have H := H G1 e2
  obtain ⟨t3, H⟩ := H
  refine j_putFR (r := (some ((gz G)))) (f := 665) rfl ff_Mo_73 rfl rfl rfl t3 d_Mo_init_145 ?_
  refine j_aload_n d_Mo_init_148 rfl ?_
  refine j_sipush (v := 1000) d_Mo_init_149 (by decide) ?_
  refine j_newI (n := 1000) (by decide) (by decide) (by decide) wa_int d_Mo_init_152 ?_
  show J E 1 m_Mo_init 154 [some (.ref a0), none] [.ref ((gz G1)), .ref a0] (al (sR G1 665 a0 (some ((gz G)))) 20 1000) Post
  generalize e5 : al (sR G1 665 a0 (some ((gz G)))) 20 1000 = G4
  have e5 := e5.symm
  have H := H G4 e5
  obtain ⟨t6, H⟩ := H
  refine j_putFR (r := (some ((gz G1)))) (f := 666) rfl ff_Mo_76 rfl rfl rfl t6 d_Mo_init_154 ?_
  exact H
theorem wp_Mo_init_157 {E : EV} {G : GH} {Post : Res → GH → Prop} (a0 : Nat) (H : ∀ G1, G1 = al G 20 1000 → gT G1 a0 = 11 ∧ ∀ G4, G4 = al (sR G1 667 a0 (some ((gz G)))) 21 1000 → gT G4 a0 = 11 ∧ J E 1 m_Mo_init 175 [some (.ref a0), none] [] (sR G4 668 a0 (some ((gz G1)))) Post) : J E 1 m_Mo_init 157 [some (.ref a0), none] [] G Post := by
  refine j_aload_n d_Mo_init_157 rfl ?_
  refine j_sipush (v := 1000) d_Mo_init_158 (by decide) ?_
  refine j_newI (n := 1000) (by decide) (by decide) (by decide) wa_int d_Mo_init_161 ?_
  show J E 1 m_Mo_init 163 [some (.ref a0), none] [.ref ((gz G)), .ref a0] (al G 20 1000) Post
  generalize e2 : al G 20 1000 = G1
  have e2 := e2.symm
  have H := H G1 e2
  obtain ⟨t3, H⟩ := H
  refine j_putFR (r := (some ((gz G)))) (f := 667) rfl ff_Mo_79 rfl rfl rfl t3 d_Mo_init_163 ?_
  refine j_aload_n d_Mo_init_166 rfl ?_
  refine j_sipush (v := 1000) d_Mo_init_167 (by decide) ?_
  refine j_newZ (n := 1000) (by decide) (by decide) (by decide) wa_boolean d_Mo_init_170 ?_
  show J E 1 m_Mo_init 172 [some (.ref a0), none] [.ref ((gz G1)), .ref a0] (al (sR G1 667 a0 (some ((gz G)))) 21 1000) Post
  generalize e5 : al (sR G1 667 a0 (some ((gz G)))) 21 1000 = G4
  have e5 := e5.symm
  have H := H G4 e5
  obtain ⟨t6, H⟩ := H
  refine j_putFR (r := (some ((gz G1)))) (f := 668) rfl ff_Mo_82 rfl rfl rfl t6 d_Mo_init_172 ?_
  exact H
theorem wp_Mo_init_175 {E : EV} {G : GH} {Post : Res → GH → Prop} (a0 : Nat) (H : ∀ G1, G1 = al G 20 200 → gT G1 a0 = 11 ∧ ∀ G4, G4 = al (sR G1 670 a0 (some ((gz G)))) 20 80 → gT G4 a0 = 11 ∧ J E 1 m_Mo_init 192 [some (.ref a0), none] [] (sR G4 672 a0 (some ((gz G1)))) Post) : J E 1 m_Mo_init 175 [some (.ref a0), none] [] G Post := by
  refine j_aload_n d_Mo_init_175 rfl ?_
  refine j_sipush (v := 200) d_Mo_init_176 (by decide) ?_
  refine j_newI (n := 200) (by decide) (by decide) (by decide) wa_int d_Mo_init_179 ?_
  show J E 1 m_Mo_init 181 [some (.ref a0), none] [.ref ((gz G)), .ref a0] (al G 20 200) Post
  generalize e2 : al G 20 200 = G1
  have e2 := e2.symm
  have H := H G1 e2
  obtain ⟨t3, H⟩ := H
  refine j_putFR (r := (some ((gz G)))) (f := 670) rfl ff_Mo_85 rfl rfl rfl t3 d_Mo_init_181 ?_
  refine j_aload_n d_Mo_init_184 rfl ?_
  refine j_bipush (v := 80) d_Mo_init_185 (by decide) ?_
  refine j_newI (n := 80) (by decide) (by decide) (by decide) wa_int d_Mo_init_187 ?_
  show J E 1 m_Mo_init 189 [some (.ref a0), none] [.ref ((gz G1)), .ref a0] (al (sR G1 670 a0 (some ((gz G)))) 20 80) Post
  generalize e5 : al (sR G1 670 a0 (some ((gz G)))) 20 80 = G4
  have e5 := e5.symm
  have H := H G4 e5
  obtain ⟨t6, H⟩ := H
  refine j_putFR (r := (some ((gz G1)))) (f := 672) rfl ff_Mo_88 rfl rfl rfl t6 d_Mo_init_189 ?_
  exact H
theorem wp_Mo_init_192 {E : EV} {G : GH} {Post : Res → GH → Prop} (a0 : Nat) (H : ∀ G1, G1 = al G 20 4000 → gT G1 a0 = 11 ∧ ∀ G4, G4 = al (sR G1 674 a0 (some ((gz G)))) 20 4000 → gT G4 a0 = 11 ∧ J E 1 m_Mo_init 210 [some (.ref a0), none] [] (sR G4 675 a0 (some ((gz G1)))) Post) : J E 1 m_Mo_init 192 [some (.ref a0), none] [] G Post := by
  refine j_aload_n d_Mo_init_192 rfl ?_
  refine j_sipush (v := 4000) d_Mo_init_193 (by decide) ?_
  refine j_newI (n := 4000) (by decide) (by decide) (by decide) wa_int d_Mo_init_196 ?_
  show J E 1 m_Mo_init 198 [some (.ref a0), none] [.ref ((gz G)), .ref a0] (al G 20 4000) Post
  generalize e2 : al G 20 4000 = G1
  have e2 := e2.symm
  have H := H G1 e2
  obtain ⟨t3, H⟩ := H
  refine j_putFR (r := (some ((gz G)))) (f := 674) rfl ff_Mo_91 rfl rfl rfl t3 d_Mo_init_198 ?_
  refine j_aload_n d_Mo_init_201 rfl ?_
  refine j_sipush (v := 4000) d_Mo_init_202 (by decide) ?_
  refine j_newI (n := 4000) (by decide) (by decide) (by decide) wa_int d_Mo_init_205 ?_
  show J E 1 m_Mo_init 207 [some (.ref a0), none] [.ref ((gz G1)), .ref a0] (al (sR G1 674 a0 (some ((gz G)))) 20 4000) Post
  generalize e5 : al (sR G1 674 a0 (some ((gz G)))) 20 4000 = G4
  have e5 := e5.symm
  have H := H G4 e5
  obtain ⟨t6, H⟩ := H
  refine j_putFR (r := (some ((gz G1)))) (f := 675) rfl ff_Mo_94 rfl rfl rfl t6 d_Mo_init_207 ?_
  exact H
theorem wp_Mo_init_210 {E : EV} {G : GH} {Post : Res → GH → Prop} (a0 : Nat) (H : ∀ G1, G1 = al G 20 4000 → gT G1 a0 = 11 ∧ ∀ G4, G4 = al (sR G1 676 a0 (some ((gz G)))) 20 4000 → gT G4 a0 = 11 ∧ J E 1 m_Mo_init 228 [some (.ref a0), none] [] (sR G4 677 a0 (some ((gz G1)))) Post) : J E 1 m_Mo_init 210 [some (.ref a0), none] [] G Post := by
  refine j_aload_n d_Mo_init_210 rfl ?_
  refine j_sipush (v := 4000) d_Mo_init_211 (by decide) ?_
  refine j_newI (n := 4000) (by decide) (by decide) (by decide) wa_int d_Mo_init_214 ?_
  show J E 1 m_Mo_init 216 [some (.ref a0), none] [.ref ((gz G)), .ref a0] (al G 20 4000) Post
  generalize e2 : al G 20 4000 = G1
  have e2 := e2.symm
  have H := H G1 e2
  obtain ⟨t3, H⟩ := H
  refine j_putFR (r := (some ((gz G)))) (f := 676) rfl ff_Mo_97 rfl rfl rfl t3 d_Mo_init_216 ?_
  refine j_aload_n d_Mo_init_219 rfl ?_
  refine j_sipush (v := 4000) d_Mo_init_220 (by decide) ?_
  refine j_newI (n := 4000) (by decide) (by decide) (by decide) wa_int d_Mo_init_223 ?_
  show J E 1 m_Mo_init 225 [some (.ref a0), none] [.ref ((gz G1)), .ref a0] (al (sR G1 676 a0 (some ((gz G)))) 20 4000) Post
  generalize e5 : al (sR G1 676 a0 (some ((gz G)))) 20 4000 = G4
  have e5 := e5.symm
  have H := H G4 e5
  obtain ⟨t6, H⟩ := H
  refine j_putFR (r := (some ((gz G1)))) (f := 677) rfl ff_Mo_100 rfl rfl rfl t6 d_Mo_init_225 ?_
  exact H
theorem wp_Mo_init_228 {E : EV} {G : GH} {Post : Res → GH → Prop} (a0 : Nat) (H : ∀ G1, G1 = al G 20 4000 → gT G1 a0 = 11 ∧ ∀ G4, G4 = al (sR G1 678 a0 (some ((gz G)))) 21 4000 → gT G4 a0 = 11 ∧ J E 1 m_Mo_init 246 [some (.ref a0), none] [] (sR G4 679 a0 (some ((gz G1)))) Post) : J E 1 m_Mo_init 228 [some (.ref a0), none] [] G Post := by
  refine j_aload_n d_Mo_init_228 rfl ?_
  refine j_sipush (v := 4000) d_Mo_init_229 (by decide) ?_
  refine j_newI (n := 4000) (by decide) (by decide) (by decide) wa_int d_Mo_init_232 ?_
  show J E 1 m_Mo_init 234 [some (.ref a0), none] [.ref ((gz G)), .ref a0] (al G 20 4000) Post
  generalize e2 : al G 20 4000 = G1
  have e2 := e2.symm
  have H := H G1 e2
  obtain ⟨t3, H⟩ := H
  refine j_putFR (r := (some ((gz G)))) (f := 678) rfl ff_Mo_103 rfl rfl rfl t3 d_Mo_init_234 ?_
  refine j_aload_n d_Mo_init_237 rfl ?_
  refine j_sipush (v := 4000) d_Mo_init_238 (by decide) ?_
  refine j_newZ (n := 4000) (by decide) (by decide) (by decide) wa_boolean d_Mo_init_241 ?_
  show J E 1 m_Mo_init 243 [some (.ref a0), none] [.ref ((gz G1)), .ref a0] (al (sR G1 678 a0 (some ((gz G)))) 21 4000) Post
  generalize e5 : al (sR G1 678 a0 (some ((gz G)))) 21 4000 = G4
  have e5 := e5.symm
  have H := H G4 e5
  obtain ⟨t6, H⟩ := H
  refine j_putFR (r := (some ((gz G1)))) (f := 679) rfl ff_Mo_106 rfl rfl rfl t6 d_Mo_init_243 ?_
  exact H
theorem wp_Mo_init_246 {E : EV} {G : GH} {Post : Res → GH → Prop} (a0 : Nat) (H : ∀ G1, G1 = al G 20 1000 → gT G1 a0 = 11 ∧ ∀ G4, G4 = al (sR G1 685 a0 (some ((gz G)))) 20 1000 → gT G4 a0 = 11 ∧ J E 1 m_Mo_init 264 [some (.ref a0), none] [] (sR G4 686 a0 (some ((gz G1)))) Post) : J E 1 m_Mo_init 246 [some (.ref a0), none] [] G Post := by
  refine j_aload_n d_Mo_init_246 rfl ?_
  refine j_sipush (v := 1000) d_Mo_init_247 (by decide) ?_
  refine j_newI (n := 1000) (by decide) (by decide) (by decide) wa_int d_Mo_init_250 ?_
  show J E 1 m_Mo_init 252 [some (.ref a0), none] [.ref ((gz G)), .ref a0] (al G 20 1000) Post
  generalize e2 : al G 20 1000 = G1
  have e2 := e2.symm
  have H := H G1 e2
  obtain ⟨t3, H⟩ := H
  refine j_putFR (r := (some ((gz G)))) (f := 685) rfl ff_Mo_109 rfl rfl rfl t3 d_Mo_init_252 ?_
  refine j_aload_n d_Mo_init_255 rfl ?_
  refine j_sipush (v := 1000) d_Mo_init_256 (by decide) ?_
  refine j_newI (n := 1000) (by decide) (by decide) (by decide) wa_int d_Mo_init_259 ?_
  show J E 1 m_Mo_init 261 [some (.ref a0), none] [.ref ((gz G1)), .ref a0] (al (sR G1 685 a0 (some ((gz G)))) 20 1000) Post
  generalize e5 : al (sR G1 685 a0 (some ((gz G)))) 20 1000 = G4
  have e5 := e5.symm
  have H := H G4 e5
  obtain ⟨t6, H⟩ := H
  refine j_putFR (r := (some ((gz G1)))) (f := 686) rfl ff_Mo_112 rfl rfl rfl t6 d_Mo_init_261 ?_
  exact H
theorem wp_Mo_init_264 {E : EV} {G : GH} {Post : Res → GH → Prop} (a0 : Nat) (H : ∀ G1, G1 = al G 20 1000 → gT G1 a0 = 11 ∧ ∀ G4, G4 = al (sR G1 687 a0 (some ((gz G)))) 20 1000 → gT G4 a0 = 11 ∧ J E 1 m_Mo_init 282 [some (.ref a0), none] [] (sR G4 688 a0 (some ((gz G1)))) Post) : J E 1 m_Mo_init 264 [some (.ref a0), none] [] G Post := by
  refine j_aload_n d_Mo_init_264 rfl ?_
  refine j_sipush (v := 1000) d_Mo_init_265 (by decide) ?_
  refine j_newI (n := 1000) (by decide) (by decide) (by decide) wa_int d_Mo_init_268 ?_
  show J E 1 m_Mo_init 270 [some (.ref a0), none] [.ref ((gz G)), .ref a0] (al G 20 1000) Post
  generalize e2 : al G 20 1000 = G1
  have e2 := e2.symm
  have H := H G1 e2
  obtain ⟨t3, H⟩ := H
  refine j_putFR (r := (some ((gz G)))) (f := 687) rfl ff_Mo_115 rfl rfl rfl t3 d_Mo_init_270 ?_
  refine j_aload_n d_Mo_init_273 rfl ?_
  refine j_sipush (v := 1000) d_Mo_init_274 (by decide) ?_
  refine j_newI (n := 1000) (by decide) (by decide) (by decide) wa_int d_Mo_init_277 ?_
  show J E 1 m_Mo_init 279 [some (.ref a0), none] [.ref ((gz G1)), .ref a0] (al (sR G1 687 a0 (some ((gz G)))) 20 1000) Post
  generalize e5 : al (sR G1 687 a0 (some ((gz G)))) 20 1000 = G4
  have e5 := e5.symm
  have H := H G4 e5
  obtain ⟨t6, H⟩ := H
  refine j_putFR (r := (some ((gz G1)))) (f := 688) rfl ff_Mo_118 rfl rfl rfl t6 d_Mo_init_279 ?_
  exact H
theorem wp_Mo_init_282 {E : EV} {G : GH} {Post : Res → GH → Prop} (a0 : Nat) (H : ∀ G1, G1 = al G 20 1000 → gT G1 a0 = 11 ∧ ∀ G4, G4 = al (sR G1 689 a0 (some ((gz G)))) 21 1000 → gT G4 a0 = 11 ∧ J E 1 m_Mo_init 300 [some (.ref a0), none] [] (sR G4 690 a0 (some ((gz G1)))) Post) : J E 1 m_Mo_init 282 [some (.ref a0), none] [] G Post := by
  refine j_aload_n d_Mo_init_282 rfl ?_
  refine j_sipush (v := 1000) d_Mo_init_283 (by decide) ?_
  refine j_newI (n := 1000) (by decide) (by decide) (by decide) wa_int d_Mo_init_286 ?_
  show J E 1 m_Mo_init 288 [some (.ref a0), none] [.ref ((gz G)), .ref a0] (al G 20 1000) Post
  generalize e2 : al G 20 1000 = G1
  have e2 := e2.symm
  have H := H G1 e2
  obtain ⟨t3, H⟩ := H
  refine j_putFR (r := (some ((gz G)))) (f := 689) rfl ff_Mo_121 rfl rfl rfl t3 d_Mo_init_288 ?_
  refine j_aload_n d_Mo_init_291 rfl ?_
  refine j_sipush (v := 1000) d_Mo_init_292 (by decide) ?_
  refine j_newZ (n := 1000) (by decide) (by decide) (by decide) wa_boolean d_Mo_init_295 ?_
  show J E 1 m_Mo_init 297 [some (.ref a0), none] [.ref ((gz G1)), .ref a0] (al (sR G1 689 a0 (some ((gz G)))) 21 1000) Post
  generalize e5 : al (sR G1 689 a0 (some ((gz G)))) 21 1000 = G4
  have e5 := e5.symm
  have H := H G4 e5
  obtain ⟨t6, H⟩ := H
  refine j_putFR (r := (some ((gz G1)))) (f := 690) rfl ff_Mo_124 rfl rfl rfl t6 d_Mo_init_297 ?_
  exact H
theorem wp_Mo_init_300 {E : EV} {G : GH} {Post : Res → GH → Prop} (a0 : Nat) (H : ∀ G1, G1 = al G 20 3 → gT G1 a0 = 11 ∧ ∀ G4, G4 = al (sR G1 692 a0 (some ((gz G)))) 20 3 → gT G4 a0 = 11 ∧ J E 1 m_Mo_init 314 [some (.ref a0), none] [] (sR G4 693 a0 (some ((gz G1)))) Post) : J E 1 m_Mo_init 300 [some (.ref a0), none] [] G Post := by
  refine j_aload_n d_Mo_init_300 rfl ?_
  refine j_iconst (v := 3) d_Mo_init_301 (by decide) ?_
  refine j_newI (n := 3) (by decide) (by decide) (by decide) wa_int d_Mo_init_302 ?_
  show J E 1 m_Mo_init 304 [some (.ref a0), none] [.ref ((gz G)), .ref a0] (al G 20 3) Post
  generalize e2 : al G 20 3 = G1
  have e2 := e2.symm
  have H := H G1 e2
  obtain ⟨t3, H⟩ := H
  refine j_putFR (r := (some ((gz G)))) (f := 692) rfl ff_Mo_127 rfl rfl rfl t3 d_Mo_init_304 ?_
  refine j_aload_n d_Mo_init_307 rfl ?_
  refine j_iconst (v := 3) d_Mo_init_308 (by decide) ?_
  refine j_newI (n := 3) (by decide) (by decide) (by decide) wa_int d_Mo_init_309 ?_
  show J E 1 m_Mo_init 311 [some (.ref a0), none] [.ref ((gz G1)), .ref a0] (al (sR G1 692 a0 (some ((gz G)))) 20 3) Post
  generalize e5 : al (sR G1 692 a0 (some ((gz G)))) 20 3 = G4
  have e5 := e5.symm
  have H := H G4 e5
  obtain ⟨t6, H⟩ := H
  refine j_putFR (r := (some ((gz G1)))) (f := 693) rfl ff_Mo_130 rfl rfl rfl t6 d_Mo_init_311 ?_
  exact H
theorem wp_Mo_init_314 {E : EV} {G : GH} {Post : Res → GH → Prop} (a0 : Nat) (H : ∀ G1, G1 = al G 20 3 → gT G1 a0 = 11 ∧ J E 1 m_Mo_init 326 [some (.ref a0), none] [] (sI (sR G1 694 a0 (some ((gz G)))) 695 a0 ((-1 : Int32))) Post) : J E 1 m_Mo_init 314 [some (.ref a0), none] [] G Post := by
  refine j_aload_n d_Mo_init_314 rfl ?_
  refine j_iconst (v := 3) d_Mo_init_315 (by decide) ?_
  refine j_newI (n := 3) (by decide) (by decide) (by decide) wa_int d_Mo_init_316 ?_
  show J E 1 m_Mo_init 318 [some (.ref a0), none] [.ref ((gz G)), .ref a0] (al G 20 3) Post
  generalize e2 : al G 20 3 = G1
  have e2 := e2.symm
  have H := H G1 e2
  obtain ⟨t3, H⟩ := H
  refine j_putFR (r := (some ((gz G)))) (f := 694) rfl ff_Mo_133 rfl rfl rfl t3 d_Mo_init_318 ?_
  refine j_aload_n d_Mo_init_321 rfl ?_
  refine j_iconst (v := -1) d_Mo_init_322 (by decide) ?_
  refine j_putI (f := 695) fw_Mo_136 rfl rfl t3 d_Mo_init_323 ?_
  exact H
theorem wp_Mo_init_326 {E : EV} {G : GH} {Post : Res → GH → Prop} (a0 : Nat) (H : J E 1 m_Mo_init 328 [some (.ref a0), some (.int ((0 : Int32)))] [] G Post) : J E 1 m_Mo_init 326 [some (.ref a0), none] [] G Post := by
  refine j_iconst (v := 0) d_Mo_init_326 (by decide) ?_
  refine j_istore_n (L' := [some (.ref a0), some (.int ((0 : Int32)))]) d_Mo_init_327 (by decide) rfl ?_
  exact H
theorem wp_Mo_init_328 {E : EV} {G : GH} {Post : Res → GH → Prop} (a0 : Nat) (p1 : Int32) (H : ((3 : Int32) ≤ p1 → Post (.inl none) G) ∧ (¬ (3 : Int32) ≤ p1 → gT G a0 = 11 ∧ ∃ b2, gR G 657 a0 = some b2 ∧ gT G b2 = 20 ∧ ∃ n6, IX p1 n6 (gN G b2) ∧ ∃ b7, gR G 694 a0 = some b7 ∧ gT G b7 = 20 ∧ ∃ n11, IX p1 n11 (gN G b7) ∧ J E 1 m_Mo_init 328 [some (.ref a0), some (.int ((p1 + (1 : Int32))))] [] (sA (sA G b2 n6 ((-1 : Int32))) b7 n11 ((-1 : Int32))) Post)) : J E 1 m_Mo_init 328 [some (.ref a0), some (.int p1)] [] G Post := by
  refine j_iload_n d_Mo_init_328 rfl ?_
  refine j_iconst (v := 3) d_Mo_init_329 (by decide) ?_
  obtain ⟨Ha, Hb⟩ := H
  refine j_icmp_ge (tgt := 353) d_Mo_init_330 (by decide) (fun c12 => ?_) (fun c13 => ?_)
  · have H := Ha c12
    exact j_vret rfl d_Mo_init_353 H
  · have H := Hb c13
    refine j_aload_n d_Mo_init_333 rfl ?_
    obtain ⟨t1, H⟩ := H
    obtain ⟨b2, e3, H⟩ := H
    refine j_getR (f := 657) (b := b2) fe_Mo_55 rfl rfl t1 e3 d_Mo_init_334 ?_
    refine j_iload_n d_Mo_init_337 rfl ?_
    refine j_iconst (v := -1) d_Mo_init_338 (by decide) ?_
    obtain ⟨t4, H⟩ := H
    obtain ⟨n6, x5, H⟩ := H
    refine j_iast (n := n6) t4 x5 d_Mo_init_339 ?_
    refine j_aload_n d_Mo_init_340 rfl ?_
    obtain ⟨b7, e8, H⟩ := H
    refine j_getR (f := 694) (b := b7) fe_Mo_133 rfl rfl t1 e8 d_Mo_init_341 ?_
    refine j_iload_n d_Mo_init_344 rfl ?_
    refine j_iconst (v := -1) d_Mo_init_345 (by decide) ?_
    obtain ⟨t9, H⟩ := H
    obtain ⟨n11, x10, H⟩ := H
    refine j_iast (n := n11) t9 x10 d_Mo_init_346 ?_
    refine j_iinc (v := (p1 + (1 : Int32))) (L' := [some (.ref a0), some (.int ((p1 + (1 : Int32))))]) d_Mo_init_347 rfl (by rw [show Int32.ofInt (1) = (1 : Int32) by decide]) (by decide) rfl ?_
    refine j_goto (tgt := 328) d_Mo_init_350 (by decide) ?_
    exact H
theorem wp_Mo_thrown_0 {E : EV} {G : GH} {Post : Res → GH → Prop} (a0 : Nat) (H : gT G a0 = 11 ∧ Post (.inl (some (.int ((gI G 640 a0))))) G) : J E 1 m_Mo_thrown 0 [some (.ref a0)] [] G Post := by
  refine j_aload_n d_Mo_thrown_0 rfl ?_
  obtain ⟨t1, H⟩ := H
  refine j_getI (f := 640) fe_Mo_139 rfl rfl t1 d_Mo_thrown_1 ?_
  exact j_iret rfl d_Mo_thrown_4 H
theorem wp_Mo_job_0 {E : EV} {G : GH} {Post : Res → GH → Prop} (a0 : Nat) (p1 : Int32) (p2 : Int32) (p3 : Int32) (p4 : Int32) (p5 : Int32) (p6 : Int32) (H : (p1 < (0 : Int32) → gT G a0 = 11 ∧ Post (.inl none) (sI G 640 a0 ((1 : Int32)))) ∧ (¬ p1 < (0 : Int32) → ((2 : Int32) < p1 → gT G a0 = 11 ∧ Post (.inl none) (sI G 640 a0 ((1 : Int32)))) ∧ (¬ (2 : Int32) < p1 → (p2 < (1 : Int32) → gT G a0 = 11 ∧ Post (.inl none) (sI G 640 a0 ((1 : Int32)))) ∧ (¬ p2 < (1 : Int32) → ((200 : Int32) < p2 → gT G a0 = 11 ∧ Post (.inl none) (sI G 640 a0 ((1 : Int32)))) ∧ (¬ (200 : Int32) < p2 → (p4 < (0 : Int32) → gT G a0 = 11 ∧ Post (.inl none) (sI G 640 a0 ((1 : Int32)))) ∧ (¬ p4 < (0 : Int32) → ((200 : Int32) < p4 → gT G a0 = 11 ∧ Post (.inl none) (sI G 640 a0 ((1 : Int32)))) ∧ (¬ (200 : Int32) < p4 → (p5 < (0 : Int32) → gT G a0 = 11 ∧ Post (.inl none) (sI G 640 a0 ((1 : Int32)))) ∧ (¬ p5 < (0 : Int32) → ((200 : Int32) < p5 → gT G a0 = 11 ∧ Post (.inl none) (sI G 640 a0 ((1 : Int32)))) ∧ (¬ (200 : Int32) < p5 → (¬ p1 = (1 : Int32) → gT G a0 = 11 ∧ ((gI G 648 a0) = 0 → (¬ p1 = (1 : Int32) → (p6 = 0 ∨ p6 = 1) ∧ ∀ G11, G11 = sI (sI (sI (sI (sI (sI (sI G 640 a0 ((0 : Int32))) 641 a0 p1) 642 a0 p2) 643 a0 p2) 644 a0 p4) 645 a0 p5) 646 a0 p6 → Post (.inl none) G11) ∧ (p1 = (1 : Int32) → (p6 = 0 ∨ p6 = 1) ∧ ∀ G14, G14 = sI (sI (sI (sI (sI (sI (sI G 640 a0 ((0 : Int32))) 641 a0 p1) 642 a0 p2) 643 a0 p3) 644 a0 p4) 645 a0 p5) 646 a0 p6 → Post (.inl none) G14)) ∧ (¬ (gI G 648 a0) = 0 → Post (.inl none) (sI G 640 a0 ((2 : Int32))))) ∧ (p1 = (1 : Int32) → (p3 < (1 : Int32) → gT G a0 = 11 ∧ Post (.inl none) (sI G 640 a0 ((1 : Int32)))) ∧ (¬ p3 < (1 : Int32) → (p2 < p3 → gT G a0 = 11 ∧ Post (.inl none) (sI G 640 a0 ((1 : Int32)))) ∧ (¬ p2 < p3 → ¬ p3 = 0 ∧ ((8 : Int32) < (((p2 + p3) - (1 : Int32)) / p3) → gT G a0 = 11 ∧ Post (.inl none) (sI G 640 a0 ((1 : Int32)))) ∧ (¬ (8 : Int32) < (((p2 + p3) - (1 : Int32)) / p3) → gT G a0 = 11 ∧ ((gI G 648 a0) = 0 → (¬ p1 = (1 : Int32) → (p6 = 0 ∨ p6 = 1) ∧ ∀ G26, G26 = sI (sI (sI (sI (sI (sI (sI G 640 a0 ((0 : Int32))) 641 a0 p1) 642 a0 p2) 643 a0 p2) 644 a0 p4) 645 a0 p5) 646 a0 p6 → Post (.inl none) G26) ∧ (p1 = (1 : Int32) → (p6 = 0 ∨ p6 = 1) ∧ ∀ G29, G29 = sI (sI (sI (sI (sI (sI (sI G 640 a0 ((0 : Int32))) 641 a0 p1) 642 a0 p2) 643 a0 p3) 644 a0 p4) 645 a0 p5) 646 a0 p6 → Post (.inl none) G29)) ∧ (¬ (gI G 648 a0) = 0 → Post (.inl none) (sI G 640 a0 ((2 : Int32))))))))))))))))) : J E 2 m_Mo_job 0 [some (.ref a0), some (.int p1), some (.int p2), some (.int p3), some (.int p4), some (.int p5), some (.int p6), none, none] [] G Post := by
  refine j_iload_n d_Mo_job_0 rfl ?_
  refine j_iconst (v := 0) d_Mo_job_1 (by decide) ?_
  refine j_iconst (v := 2) d_Mo_job_2 (by decide) ?_
  refine j_callS (d' := 1) (As := [.int p1, .int ((0 : Int32)), .int ((2 : Int32))]) (rest := []) cs_Mo_142 me_Mo_isIn rfl (by decide) rfl rfl (Nat.le_of_ble_eq_true rfl) d_Mo_job_3 (by decide) rfl (j_enter (L := [some (.int p1), some (.int ((0 : Int32))), some (.int ((2 : Int32)))]) me_Mo_isIn (cat_c rfl (cat_c rfl (cat_c rfl cat_n))) (Nat.le_of_ble_eq_true rfl) rfl ?_)
  refine j_iload_n d_Mo_isIn_0 rfl ?_
  refine j_iload_n d_Mo_isIn_1 rfl ?_
  obtain ⟨Ha, Hb⟩ := H
  refine j_icmp_lt (tgt := 14) d_Mo_isIn_2 (by decide) (fun c57 => ?_) (fun c58 => ?_)
  · have H := Ha c57
    refine j_iconst (v := 0) d_Mo_isIn_14 (by decide) ?_
    refine j_zret rfl (by decide) d_Mo_isIn_15 ?_
    show J E 2 m_Mo_job 6 [some (.ref a0), some (.int p1), some (.int p2), some (.int p3), some (.int p4), some (.int p5), some (.int p6), none, none] [.int ((0 : Int32))] G Post
    refine j_if_eq (tgt := 48) d_Mo_job_6 (by decide) (fun _ => ?_) (fun c => absurd c (by decide))
    refine j_iconst (v := 0) d_Mo_job_48 (by decide) ?_
    refine j_istore (L' := [some (.ref a0), some (.int p1), some (.int p2), some (.int p3), some (.int p4), some (.int p5), some (.int p6), some (.int ((0 : Int32))), none]) d_Mo_job_49 (by decide) rfl ?_
    refine j_iload d_Mo_job_51 rfl ?_
    refine j_if_eq (tgt := 86) d_Mo_job_53 (by decide) (fun _ => ?_) (fun c => absurd c (by decide))
    refine j_iconst (v := 0) d_Mo_job_86 (by decide) ?_
    refine j_istore (L' := [some (.ref a0), some (.int p1), some (.int p2), some (.int p3), some (.int p4), some (.int p5), some (.int p6), some (.int ((0 : Int32))), some (.int ((0 : Int32)))]) d_Mo_job_87 (by decide) rfl ?_
    refine j_aload_n d_Mo_job_89 rfl ?_
    refine j_iload d_Mo_job_90 rfl ?_
    refine j_if_ne (tgt := 99) d_Mo_job_92 (by decide) (fun c => absurd c (by decide)) (fun _ => ?_)
    refine j_iconst (v := 1) d_Mo_job_95 (by decide) ?_
    refine j_goto (tgt := 111) d_Mo_job_96 (by decide) ?_
    obtain ⟨t1, H⟩ := H
    refine j_callV (d' := 1) (ci := 10) (As := [.int ((1 : Int32))]) (rest := []) (b := a0) cv_Mo_149 me_Mo_isFine rfl (by decide) rfl rfl t1 rfl rfl (Nat.le_of_ble_eq_true rfl) d_Mo_job_111 (by decide) rfl (j_enter (L := [some (.ref a0), some (.int ((1 : Int32)))]) me_Mo_isFine (cat_c rfl (cat_c rfl cat_n)) (Nat.le_of_ble_eq_true rfl) rfl ?_)
    refine j_aload_n d_Mo_isFine_0 rfl ?_
    refine j_iload_n d_Mo_isFine_1 rfl ?_
    refine j_putI (f := 640) fw_Mo_139 rfl rfl t1 d_Mo_isFine_2 ?_
    refine j_iload_n d_Mo_isFine_5 rfl ?_
    refine j_if_ne (tgt := 13) d_Mo_isFine_6 (by decide) (fun _ => ?_) (fun c => absurd c (by decide))
    refine j_iconst (v := 0) d_Mo_isFine_13 (by decide) ?_
    refine j_zret rfl (by decide) d_Mo_isFine_14 ?_
    show J E 2 m_Mo_job 114 [some (.ref a0), some (.int p1), some (.int p2), some (.int p3), some (.int p4), some (.int p5), some (.int p6), some (.int ((0 : Int32))), some (.int ((0 : Int32)))] [.int ((0 : Int32))] (sI G 640 a0 ((1 : Int32))) Post
    refine j_if_eq (tgt := 159) d_Mo_job_114 (by decide) (fun _ => ?_) (fun c => absurd c (by decide))
    exact j_vret rfl d_Mo_job_159 H
  · have H := Hb c58
    refine j_iload_n d_Mo_isIn_5 rfl ?_
    refine j_iload_n d_Mo_isIn_6 rfl ?_
    obtain ⟨Ha, Hb⟩ := H
    refine j_icmp_gt (tgt := 14) d_Mo_isIn_7 (by decide) (fun c55 => ?_) (fun c56 => ?_)
    · have H := Ha c55
      refine j_iconst (v := 0) d_Mo_isIn_14 (by decide) ?_
      refine j_zret rfl (by decide) d_Mo_isIn_15 ?_
      show J E 2 m_Mo_job 6 [some (.ref a0), some (.int p1), some (.int p2), some (.int p3), some (.int p4), some (.int p5), some (.int p6), none, none] [.int ((0 : Int32))] G Post
      refine j_if_eq (tgt := 48) d_Mo_job_6 (by decide) (fun _ => ?_) (fun c => absurd c (by decide))
      refine j_iconst (v := 0) d_Mo_job_48 (by decide) ?_
      refine j_istore (L' := [some (.ref a0), some (.int p1), some (.int p2), some (.int p3), some (.int p4), some (.int p5), some (.int p6), some (.int ((0 : Int32))), none]) d_Mo_job_49 (by decide) rfl ?_
      refine j_iload d_Mo_job_51 rfl ?_
      refine j_if_eq (tgt := 86) d_Mo_job_53 (by decide) (fun _ => ?_) (fun c => absurd c (by decide))
      refine j_iconst (v := 0) d_Mo_job_86 (by decide) ?_
      refine j_istore (L' := [some (.ref a0), some (.int p1), some (.int p2), some (.int p3), some (.int p4), some (.int p5), some (.int p6), some (.int ((0 : Int32))), some (.int ((0 : Int32)))]) d_Mo_job_87 (by decide) rfl ?_
      refine j_aload_n d_Mo_job_89 rfl ?_
      refine j_iload d_Mo_job_90 rfl ?_
      refine j_if_ne (tgt := 99) d_Mo_job_92 (by decide) (fun c => absurd c (by decide)) (fun _ => ?_)
      refine j_iconst (v := 1) d_Mo_job_95 (by decide) ?_
      refine j_goto (tgt := 111) d_Mo_job_96 (by decide) ?_
      obtain ⟨t2, H⟩ := H
      refine j_callV (d' := 1) (ci := 10) (As := [.int ((1 : Int32))]) (rest := []) (b := a0) cv_Mo_149 me_Mo_isFine rfl (by decide) rfl rfl t2 rfl rfl (Nat.le_of_ble_eq_true rfl) d_Mo_job_111 (by decide) rfl (j_enter (L := [some (.ref a0), some (.int ((1 : Int32)))]) me_Mo_isFine (cat_c rfl (cat_c rfl cat_n)) (Nat.le_of_ble_eq_true rfl) rfl ?_)
      refine j_aload_n d_Mo_isFine_0 rfl ?_
      refine j_iload_n d_Mo_isFine_1 rfl ?_
      refine j_putI (f := 640) fw_Mo_139 rfl rfl t2 d_Mo_isFine_2 ?_
      refine j_iload_n d_Mo_isFine_5 rfl ?_
      refine j_if_ne (tgt := 13) d_Mo_isFine_6 (by decide) (fun _ => ?_) (fun c => absurd c (by decide))
      refine j_iconst (v := 0) d_Mo_isFine_13 (by decide) ?_
      refine j_zret rfl (by decide) d_Mo_isFine_14 ?_
      show J E 2 m_Mo_job 114 [some (.ref a0), some (.int p1), some (.int p2), some (.int p3), some (.int p4), some (.int p5), some (.int p6), some (.int ((0 : Int32))), some (.int ((0 : Int32)))] [.int ((0 : Int32))] (sI G 640 a0 ((1 : Int32))) Post
      refine j_if_eq (tgt := 159) d_Mo_job_114 (by decide) (fun _ => ?_) (fun c => absurd c (by decide))
      exact j_vret rfl d_Mo_job_159 H
    · have H := Hb c56
      refine j_iconst (v := 1) d_Mo_isIn_10 (by decide) ?_
      refine j_goto (tgt := 15) d_Mo_isIn_11 (by decide) ?_
      refine j_zret rfl (by decide) d_Mo_isIn_15 ?_
      show J E 2 m_Mo_job 6 [some (.ref a0), some (.int p1), some (.int p2), some (.int p3), some (.int p4), some (.int p5), some (.int p6), none, none] [.int ((1 : Int32))] G Post
      refine j_if_eq (tgt := 48) d_Mo_job_6 (by decide) (fun c => absurd c (by decide)) (fun _ => ?_)
      refine j_iload_n d_Mo_job_9 rfl ?_
      refine j_iconst (v := 1) d_Mo_job_10 (by decide) ?_
      refine j_sipush (v := 200) d_Mo_job_11 (by decide) ?_
      refine j_callS (d' := 1) (As := [.int p2, .int ((1 : Int32)), .int ((200 : Int32))]) (rest := []) cs_Mo_142 me_Mo_isIn rfl (by decide) rfl rfl (Nat.le_of_ble_eq_true rfl) d_Mo_job_14 (by decide) rfl (j_enter (L := [some (.int p2), some (.int ((1 : Int32))), some (.int ((200 : Int32)))]) me_Mo_isIn (cat_c rfl (cat_c rfl (cat_c rfl cat_n))) (Nat.le_of_ble_eq_true rfl) rfl ?_)
      refine j_iload_n d_Mo_isIn_0 rfl ?_
      refine j_iload_n d_Mo_isIn_1 rfl ?_
      obtain ⟨Ha, Hb⟩ := H
      refine j_icmp_lt (tgt := 14) d_Mo_isIn_2 (by decide) (fun c53 => ?_) (fun c54 => ?_)
      · have H := Ha c53
        refine j_iconst (v := 0) d_Mo_isIn_14 (by decide) ?_
        refine j_zret rfl (by decide) d_Mo_isIn_15 ?_
        show J E 2 m_Mo_job 17 [some (.ref a0), some (.int p1), some (.int p2), some (.int p3), some (.int p4), some (.int p5), some (.int p6), none, none] [.int ((0 : Int32))] G Post
        refine j_if_eq (tgt := 48) d_Mo_job_17 (by decide) (fun _ => ?_) (fun c => absurd c (by decide))
        refine j_iconst (v := 0) d_Mo_job_48 (by decide) ?_
        refine j_istore (L' := [some (.ref a0), some (.int p1), some (.int p2), some (.int p3), some (.int p4), some (.int p5), some (.int p6), some (.int ((0 : Int32))), none]) d_Mo_job_49 (by decide) rfl ?_
        refine j_iload d_Mo_job_51 rfl ?_
        refine j_if_eq (tgt := 86) d_Mo_job_53 (by decide) (fun _ => ?_) (fun c => absurd c (by decide))
        refine j_iconst (v := 0) d_Mo_job_86 (by decide) ?_
        refine j_istore (L' := [some (.ref a0), some (.int p1), some (.int p2), some (.int p3), some (.int p4), some (.int p5), some (.int p6), some (.int ((0 : Int32))), some (.int ((0 : Int32)))]) d_Mo_job_87 (by decide) rfl ?_
        refine j_aload_n d_Mo_job_89 rfl ?_
        refine j_iload d_Mo_job_90 rfl ?_
        refine j_if_ne (tgt := 99) d_Mo_job_92 (by decide) (fun c => absurd c (by decide)) (fun _ => ?_)
        refine j_iconst (v := 1) d_Mo_job_95 (by decide) ?_
        refine j_goto (tgt := 111) d_Mo_job_96 (by decide) ?_
        obtain ⟨t3, H⟩ := H
        refine j_callV (d' := 1) (ci := 10) (As := [.int ((1 : Int32))]) (rest := []) (b := a0) cv_Mo_149 me_Mo_isFine rfl (by decide) rfl rfl t3 rfl rfl (Nat.le_of_ble_eq_true rfl) d_Mo_job_111 (by decide) rfl (j_enter (L := [some (.ref a0), some (.int ((1 : Int32)))]) me_Mo_isFine (cat_c rfl (cat_c rfl cat_n)) (Nat.le_of_ble_eq_true rfl) rfl ?_)
        refine j_aload_n d_Mo_isFine_0 rfl ?_
        refine j_iload_n d_Mo_isFine_1 rfl ?_
        refine j_putI (f := 640) fw_Mo_139 rfl rfl t3 d_Mo_isFine_2 ?_
        refine j_iload_n d_Mo_isFine_5 rfl ?_
        refine j_if_ne (tgt := 13) d_Mo_isFine_6 (by decide) (fun _ => ?_) (fun c => absurd c (by decide))
        refine j_iconst (v := 0) d_Mo_isFine_13 (by decide) ?_
        refine j_zret rfl (by decide) d_Mo_isFine_14 ?_
        show J E 2 m_Mo_job 114 [some (.ref a0), some (.int p1), some (.int p2), some (.int p3), some (.int p4), some (.int p5), some (.int p6), some (.int ((0 : Int32))), some (.int ((0 : Int32)))] [.int ((0 : Int32))] (sI G 640 a0 ((1 : Int32))) Post
        refine j_if_eq (tgt := 159) d_Mo_job_114 (by decide) (fun _ => ?_) (fun c => absurd c (by decide))
        exact j_vret rfl d_Mo_job_159 H
      · have H := Hb c54
        refine j_iload_n d_Mo_isIn_5 rfl ?_
        refine j_iload_n d_Mo_isIn_6 rfl ?_
        obtain ⟨Ha, Hb⟩ := H
        refine j_icmp_gt (tgt := 14) d_Mo_isIn_7 (by decide) (fun c51 => ?_) (fun c52 => ?_)
        · have H := Ha c51
          refine j_iconst (v := 0) d_Mo_isIn_14 (by decide) ?_
          refine j_zret rfl (by decide) d_Mo_isIn_15 ?_
          show J E 2 m_Mo_job 17 [some (.ref a0), some (.int p1), some (.int p2), some (.int p3), some (.int p4), some (.int p5), some (.int p6), none, none] [.int ((0 : Int32))] G Post
          refine j_if_eq (tgt := 48) d_Mo_job_17 (by decide) (fun _ => ?_) (fun c => absurd c (by decide))
          refine j_iconst (v := 0) d_Mo_job_48 (by decide) ?_
          refine j_istore (L' := [some (.ref a0), some (.int p1), some (.int p2), some (.int p3), some (.int p4), some (.int p5), some (.int p6), some (.int ((0 : Int32))), none]) d_Mo_job_49 (by decide) rfl ?_
          refine j_iload d_Mo_job_51 rfl ?_
          refine j_if_eq (tgt := 86) d_Mo_job_53 (by decide) (fun _ => ?_) (fun c => absurd c (by decide))
          refine j_iconst (v := 0) d_Mo_job_86 (by decide) ?_
          refine j_istore (L' := [some (.ref a0), some (.int p1), some (.int p2), some (.int p3), some (.int p4), some (.int p5), some (.int p6), some (.int ((0 : Int32))), some (.int ((0 : Int32)))]) d_Mo_job_87 (by decide) rfl ?_
          refine j_aload_n d_Mo_job_89 rfl ?_
          refine j_iload d_Mo_job_90 rfl ?_
          refine j_if_ne (tgt := 99) d_Mo_job_92 (by decide) (fun c => absurd c (by decide)) (fun _ => ?_)
          refine j_iconst (v := 1) d_Mo_job_95 (by decide) ?_
          refine j_goto (tgt := 111) d_Mo_job_96 (by decide) ?_
          obtain ⟨t4, H⟩ := H
          refine j_callV (d' := 1) (ci := 10) (As := [.int ((1 : Int32))]) (rest := []) (b := a0) cv_Mo_149 me_Mo_isFine rfl (by decide) rfl rfl t4 rfl rfl (Nat.le_of_ble_eq_true rfl) d_Mo_job_111 (by decide) rfl (j_enter (L := [some (.ref a0), some (.int ((1 : Int32)))]) me_Mo_isFine (cat_c rfl (cat_c rfl cat_n)) (Nat.le_of_ble_eq_true rfl) rfl ?_)
          refine j_aload_n d_Mo_isFine_0 rfl ?_
          refine j_iload_n d_Mo_isFine_1 rfl ?_
          refine j_putI (f := 640) fw_Mo_139 rfl rfl t4 d_Mo_isFine_2 ?_
          refine j_iload_n d_Mo_isFine_5 rfl ?_
          refine j_if_ne (tgt := 13) d_Mo_isFine_6 (by decide) (fun _ => ?_) (fun c => absurd c (by decide))
          refine j_iconst (v := 0) d_Mo_isFine_13 (by decide) ?_
          refine j_zret rfl (by decide) d_Mo_isFine_14 ?_
          show J E 2 m_Mo_job 114 [some (.ref a0), some (.int p1), some (.int p2), some (.int p3), some (.int p4), some (.int p5), some (.int p6), some (.int ((0 : Int32))), some (.int ((0 : Int32)))] [.int ((0 : Int32))] (sI G 640 a0 ((1 : Int32))) Post
          refine j_if_eq (tgt := 159) d_Mo_job_114 (by decide) (fun _ => ?_) (fun c => absurd c (by decide))
          exact j_vret rfl d_Mo_job_159 H
        · have H := Hb c52
          refine j_iconst (v := 1) d_Mo_isIn_10 (by decide) ?_
          refine j_goto (tgt := 15) d_Mo_isIn_11 (by decide) ?_
          refine j_zret rfl (by decide) d_Mo_isIn_15 ?_
          show J E 2 m_Mo_job 17 [some (.ref a0), some (.int p1), some (.int p2), some (.int p3), some (.int p4), some (.int p5), some (.int p6), none, none] [.int ((1 : Int32))] G Post
          refine j_if_eq (tgt := 48) d_Mo_job_17 (by decide) (fun c => absurd c (by decide)) (fun _ => ?_)
          refine j_iload d_Mo_job_20 rfl ?_
          refine j_iconst (v := 0) d_Mo_job_22 (by decide) ?_
          refine j_sipush (v := 200) d_Mo_job_23 (by decide) ?_
          refine j_callS (d' := 1) (As := [.int p4, .int ((0 : Int32)), .int ((200 : Int32))]) (rest := []) cs_Mo_142 me_Mo_isIn rfl (by decide) rfl rfl (Nat.le_of_ble_eq_true rfl) d_Mo_job_26 (by decide) rfl (j_enter (L := [some (.int p4), some (.int ((0 : Int32))), some (.int ((200 : Int32)))]) me_Mo_isIn (cat_c rfl (cat_c rfl (cat_c rfl cat_n))) (Nat.le_of_ble_eq_true rfl) rfl ?_)
          refine j_iload_n d_Mo_isIn_0 rfl ?_
          refine j_iload_n d_Mo_isIn_1 rfl ?_
          obtain ⟨Ha, Hb⟩ := H
          refine j_icmp_lt (tgt := 14) d_Mo_isIn_2 (by decide) (fun c49 => ?_) (fun c50 => ?_)
          · have H := Ha c49
            refine j_iconst (v := 0) d_Mo_isIn_14 (by decide) ?_
            refine j_zret rfl (by decide) d_Mo_isIn_15 ?_
            show J E 2 m_Mo_job 29 [some (.ref a0), some (.int p1), some (.int p2), some (.int p3), some (.int p4), some (.int p5), some (.int p6), none, none] [.int ((0 : Int32))] G Post
            refine j_if_eq (tgt := 48) d_Mo_job_29 (by decide) (fun _ => ?_) (fun c => absurd c (by decide))
            refine j_iconst (v := 0) d_Mo_job_48 (by decide) ?_
            refine j_istore (L' := [some (.ref a0), some (.int p1), some (.int p2), some (.int p3), some (.int p4), some (.int p5), some (.int p6), some (.int ((0 : Int32))), none]) d_Mo_job_49 (by decide) rfl ?_
            refine j_iload d_Mo_job_51 rfl ?_
            refine j_if_eq (tgt := 86) d_Mo_job_53 (by decide) (fun _ => ?_) (fun c => absurd c (by decide))
            refine j_iconst (v := 0) d_Mo_job_86 (by decide) ?_
            refine j_istore (L' := [some (.ref a0), some (.int p1), some (.int p2), some (.int p3), some (.int p4), some (.int p5), some (.int p6), some (.int ((0 : Int32))), some (.int ((0 : Int32)))]) d_Mo_job_87 (by decide) rfl ?_
            refine j_aload_n d_Mo_job_89 rfl ?_
            refine j_iload d_Mo_job_90 rfl ?_
            refine j_if_ne (tgt := 99) d_Mo_job_92 (by decide) (fun c => absurd c (by decide)) (fun _ => ?_)
            refine j_iconst (v := 1) d_Mo_job_95 (by decide) ?_
            refine j_goto (tgt := 111) d_Mo_job_96 (by decide) ?_
            obtain ⟨t5, H⟩ := H
            refine j_callV (d' := 1) (ci := 10) (As := [.int ((1 : Int32))]) (rest := []) (b := a0) cv_Mo_149 me_Mo_isFine rfl (by decide) rfl rfl t5 rfl rfl (Nat.le_of_ble_eq_true rfl) d_Mo_job_111 (by decide) rfl (j_enter (L := [some (.ref a0), some (.int ((1 : Int32)))]) me_Mo_isFine (cat_c rfl (cat_c rfl cat_n)) (Nat.le_of_ble_eq_true rfl) rfl ?_)
            refine j_aload_n d_Mo_isFine_0 rfl ?_
            refine j_iload_n d_Mo_isFine_1 rfl ?_
            refine j_putI (f := 640) fw_Mo_139 rfl rfl t5 d_Mo_isFine_2 ?_
            refine j_iload_n d_Mo_isFine_5 rfl ?_
            refine j_if_ne (tgt := 13) d_Mo_isFine_6 (by decide) (fun _ => ?_) (fun c => absurd c (by decide))
            refine j_iconst (v := 0) d_Mo_isFine_13 (by decide) ?_
            refine j_zret rfl (by decide) d_Mo_isFine_14 ?_
            show J E 2 m_Mo_job 114 [some (.ref a0), some (.int p1), some (.int p2), some (.int p3), some (.int p4), some (.int p5), some (.int p6), some (.int ((0 : Int32))), some (.int ((0 : Int32)))] [.int ((0 : Int32))] (sI G 640 a0 ((1 : Int32))) Post
            refine j_if_eq (tgt := 159) d_Mo_job_114 (by decide) (fun _ => ?_) (fun c => absurd c (by decide))
            exact j_vret rfl d_Mo_job_159 H
          · have H := Hb c50
            refine j_iload_n d_Mo_isIn_5 rfl ?_
            refine j_iload_n d_Mo_isIn_6 rfl ?_
            obtain ⟨Ha, Hb⟩ := H
            refine j_icmp_gt (tgt := 14) d_Mo_isIn_7 (by decide) (fun c47 => ?_) (fun c48 => ?_)
            · have H := Ha c47
              refine j_iconst (v := 0) d_Mo_isIn_14 (by decide) ?_
              refine j_zret rfl (by decide) d_Mo_isIn_15 ?_
              show J E 2 m_Mo_job 29 [some (.ref a0), some (.int p1), some (.int p2), some (.int p3), some (.int p4), some (.int p5), some (.int p6), none, none] [.int ((0 : Int32))] G Post
              refine j_if_eq (tgt := 48) d_Mo_job_29 (by decide) (fun _ => ?_) (fun c => absurd c (by decide))
              refine j_iconst (v := 0) d_Mo_job_48 (by decide) ?_
              refine j_istore (L' := [some (.ref a0), some (.int p1), some (.int p2), some (.int p3), some (.int p4), some (.int p5), some (.int p6), some (.int ((0 : Int32))), none]) d_Mo_job_49 (by decide) rfl ?_
              refine j_iload d_Mo_job_51 rfl ?_
              refine j_if_eq (tgt := 86) d_Mo_job_53 (by decide) (fun _ => ?_) (fun c => absurd c (by decide))
              refine j_iconst (v := 0) d_Mo_job_86 (by decide) ?_
              refine j_istore (L' := [some (.ref a0), some (.int p1), some (.int p2), some (.int p3), some (.int p4), some (.int p5), some (.int p6), some (.int ((0 : Int32))), some (.int ((0 : Int32)))]) d_Mo_job_87 (by decide) rfl ?_
              refine j_aload_n d_Mo_job_89 rfl ?_
              refine j_iload d_Mo_job_90 rfl ?_
              refine j_if_ne (tgt := 99) d_Mo_job_92 (by decide) (fun c => absurd c (by decide)) (fun _ => ?_)
              refine j_iconst (v := 1) d_Mo_job_95 (by decide) ?_
              refine j_goto (tgt := 111) d_Mo_job_96 (by decide) ?_
              obtain ⟨t6, H⟩ := H
              refine j_callV (d' := 1) (ci := 10) (As := [.int ((1 : Int32))]) (rest := []) (b := a0) cv_Mo_149 me_Mo_isFine rfl (by decide) rfl rfl t6 rfl rfl (Nat.le_of_ble_eq_true rfl) d_Mo_job_111 (by decide) rfl (j_enter (L := [some (.ref a0), some (.int ((1 : Int32)))]) me_Mo_isFine (cat_c rfl (cat_c rfl cat_n)) (Nat.le_of_ble_eq_true rfl) rfl ?_)
              refine j_aload_n d_Mo_isFine_0 rfl ?_
              refine j_iload_n d_Mo_isFine_1 rfl ?_
              refine j_putI (f := 640) fw_Mo_139 rfl rfl t6 d_Mo_isFine_2 ?_
              refine j_iload_n d_Mo_isFine_5 rfl ?_
              refine j_if_ne (tgt := 13) d_Mo_isFine_6 (by decide) (fun _ => ?_) (fun c => absurd c (by decide))
              refine j_iconst (v := 0) d_Mo_isFine_13 (by decide) ?_
              refine j_zret rfl (by decide) d_Mo_isFine_14 ?_
              show J E 2 m_Mo_job 114 [some (.ref a0), some (.int p1), some (.int p2), some (.int p3), some (.int p4), some (.int p5), some (.int p6), some (.int ((0 : Int32))), some (.int ((0 : Int32)))] [.int ((0 : Int32))] (sI G 640 a0 ((1 : Int32))) Post
              refine j_if_eq (tgt := 159) d_Mo_job_114 (by decide) (fun _ => ?_) (fun c => absurd c (by decide))
              exact j_vret rfl d_Mo_job_159 H
            · have H := Hb c48
              refine j_iconst (v := 1) d_Mo_isIn_10 (by decide) ?_
              refine j_goto (tgt := 15) d_Mo_isIn_11 (by decide) ?_
              refine j_zret rfl (by decide) d_Mo_isIn_15 ?_
              show J E 2 m_Mo_job 29 [some (.ref a0), some (.int p1), some (.int p2), some (.int p3), some (.int p4), some (.int p5), some (.int p6), none, none] [.int ((1 : Int32))] G Post
              refine j_if_eq (tgt := 48) d_Mo_job_29 (by decide) (fun c => absurd c (by decide)) (fun _ => ?_)
              refine j_iload d_Mo_job_32 rfl ?_
              refine j_iconst (v := 0) d_Mo_job_34 (by decide) ?_
              refine j_sipush (v := 200) d_Mo_job_35 (by decide) ?_
              refine j_callS (d' := 1) (As := [.int p5, .int ((0 : Int32)), .int ((200 : Int32))]) (rest := []) cs_Mo_142 me_Mo_isIn rfl (by decide) rfl rfl (Nat.le_of_ble_eq_true rfl) d_Mo_job_38 (by decide) rfl (j_enter (L := [some (.int p5), some (.int ((0 : Int32))), some (.int ((200 : Int32)))]) me_Mo_isIn (cat_c rfl (cat_c rfl (cat_c rfl cat_n))) (Nat.le_of_ble_eq_true rfl) rfl ?_)
              refine j_iload_n d_Mo_isIn_0 rfl ?_
              refine j_iload_n d_Mo_isIn_1 rfl ?_
              obtain ⟨Ha, Hb⟩ := H
              refine j_icmp_lt (tgt := 14) d_Mo_isIn_2 (by decide) (fun c45 => ?_) (fun c46 => ?_)
              · have H := Ha c45
                refine j_iconst (v := 0) d_Mo_isIn_14 (by decide) ?_
                refine j_zret rfl (by decide) d_Mo_isIn_15 ?_
                show J E 2 m_Mo_job 41 [some (.ref a0), some (.int p1), some (.int p2), some (.int p3), some (.int p4), some (.int p5), some (.int p6), none, none] [.int ((0 : Int32))] G Post
                refine j_if_eq (tgt := 48) d_Mo_job_41 (by decide) (fun _ => ?_) (fun c => absurd c (by decide))
                refine j_iconst (v := 0) d_Mo_job_48 (by decide) ?_
                refine j_istore (L' := [some (.ref a0), some (.int p1), some (.int p2), some (.int p3), some (.int p4), some (.int p5), some (.int p6), some (.int ((0 : Int32))), none]) d_Mo_job_49 (by decide) rfl ?_
                refine j_iload d_Mo_job_51 rfl ?_
                refine j_if_eq (tgt := 86) d_Mo_job_53 (by decide) (fun _ => ?_) (fun c => absurd c (by decide))
                refine j_iconst (v := 0) d_Mo_job_86 (by decide) ?_
                refine j_istore (L' := [some (.ref a0), some (.int p1), some (.int p2), some (.int p3), some (.int p4), some (.int p5), some (.int p6), some (.int ((0 : Int32))), some (.int ((0 : Int32)))]) d_Mo_job_87 (by decide) rfl ?_
                refine j_aload_n d_Mo_job_89 rfl ?_
                refine j_iload d_Mo_job_90 rfl ?_
                refine j_if_ne (tgt := 99) d_Mo_job_92 (by decide) (fun c => absurd c (by decide)) (fun _ => ?_)
                refine j_iconst (v := 1) d_Mo_job_95 (by decide) ?_
                refine j_goto (tgt := 111) d_Mo_job_96 (by decide) ?_
                obtain ⟨t7, H⟩ := H
                refine j_callV (d' := 1) (ci := 10) (As := [.int ((1 : Int32))]) (rest := []) (b := a0) cv_Mo_149 me_Mo_isFine rfl (by decide) rfl rfl t7 rfl rfl (Nat.le_of_ble_eq_true rfl) d_Mo_job_111 (by decide) rfl (j_enter (L := [some (.ref a0), some (.int ((1 : Int32)))]) me_Mo_isFine (cat_c rfl (cat_c rfl cat_n)) (Nat.le_of_ble_eq_true rfl) rfl ?_)
                refine j_aload_n d_Mo_isFine_0 rfl ?_
                refine j_iload_n d_Mo_isFine_1 rfl ?_
                refine j_putI (f := 640) fw_Mo_139 rfl rfl t7 d_Mo_isFine_2 ?_
                refine j_iload_n d_Mo_isFine_5 rfl ?_
                refine j_if_ne (tgt := 13) d_Mo_isFine_6 (by decide) (fun _ => ?_) (fun c => absurd c (by decide))
                refine j_iconst (v := 0) d_Mo_isFine_13 (by decide) ?_
                refine j_zret rfl (by decide) d_Mo_isFine_14 ?_
                show J E 2 m_Mo_job 114 [some (.ref a0), some (.int p1), some (.int p2), some (.int p3), some (.int p4), some (.int p5), some (.int p6), some (.int ((0 : Int32))), some (.int ((0 : Int32)))] [.int ((0 : Int32))] (sI G 640 a0 ((1 : Int32))) Post
                refine j_if_eq (tgt := 159) d_Mo_job_114 (by decide) (fun _ => ?_) (fun c => absurd c (by decide))
                exact j_vret rfl d_Mo_job_159 H
              · have H := Hb c46
                refine j_iload_n d_Mo_isIn_5 rfl ?_
                refine j_iload_n d_Mo_isIn_6 rfl ?_
                obtain ⟨Ha, Hb⟩ := H
                refine j_icmp_gt (tgt := 14) d_Mo_isIn_7 (by decide) (fun c43 => ?_) (fun c44 => ?_)
                · have H := Ha c43
                  refine j_iconst (v := 0) d_Mo_isIn_14 (by decide) ?_
                  refine j_zret rfl (by decide) d_Mo_isIn_15 ?_
                  show J E 2 m_Mo_job 41 [some (.ref a0), some (.int p1), some (.int p2), some (.int p3), some (.int p4), some (.int p5), some (.int p6), none, none] [.int ((0 : Int32))] G Post
                  refine j_if_eq (tgt := 48) d_Mo_job_41 (by decide) (fun _ => ?_) (fun c => absurd c (by decide))
                  refine j_iconst (v := 0) d_Mo_job_48 (by decide) ?_
                  refine j_istore (L' := [some (.ref a0), some (.int p1), some (.int p2), some (.int p3), some (.int p4), some (.int p5), some (.int p6), some (.int ((0 : Int32))), none]) d_Mo_job_49 (by decide) rfl ?_
                  refine j_iload d_Mo_job_51 rfl ?_
                  refine j_if_eq (tgt := 86) d_Mo_job_53 (by decide) (fun _ => ?_) (fun c => absurd c (by decide))
                  refine j_iconst (v := 0) d_Mo_job_86 (by decide) ?_
                  refine j_istore (L' := [some (.ref a0), some (.int p1), some (.int p2), some (.int p3), some (.int p4), some (.int p5), some (.int p6), some (.int ((0 : Int32))), some (.int ((0 : Int32)))]) d_Mo_job_87 (by decide) rfl ?_
                  refine j_aload_n d_Mo_job_89 rfl ?_
                  refine j_iload d_Mo_job_90 rfl ?_
                  refine j_if_ne (tgt := 99) d_Mo_job_92 (by decide) (fun c => absurd c (by decide)) (fun _ => ?_)
                  refine j_iconst (v := 1) d_Mo_job_95 (by decide) ?_
                  refine j_goto (tgt := 111) d_Mo_job_96 (by decide) ?_
                  obtain ⟨t8, H⟩ := H
                  refine j_callV (d' := 1) (ci := 10) (As := [.int ((1 : Int32))]) (rest := []) (b := a0) cv_Mo_149 me_Mo_isFine rfl (by decide) rfl rfl t8 rfl rfl (Nat.le_of_ble_eq_true rfl) d_Mo_job_111 (by decide) rfl (j_enter (L := [some (.ref a0), some (.int ((1 : Int32)))]) me_Mo_isFine (cat_c rfl (cat_c rfl cat_n)) (Nat.le_of_ble_eq_true rfl) rfl ?_)
                  refine j_aload_n d_Mo_isFine_0 rfl ?_
                  refine j_iload_n d_Mo_isFine_1 rfl ?_
                  refine j_putI (f := 640) fw_Mo_139 rfl rfl t8 d_Mo_isFine_2 ?_
                  refine j_iload_n d_Mo_isFine_5 rfl ?_
                  refine j_if_ne (tgt := 13) d_Mo_isFine_6 (by decide) (fun _ => ?_) (fun c => absurd c (by decide))
                  refine j_iconst (v := 0) d_Mo_isFine_13 (by decide) ?_
                  refine j_zret rfl (by decide) d_Mo_isFine_14 ?_
                  show J E 2 m_Mo_job 114 [some (.ref a0), some (.int p1), some (.int p2), some (.int p3), some (.int p4), some (.int p5), some (.int p6), some (.int ((0 : Int32))), some (.int ((0 : Int32)))] [.int ((0 : Int32))] (sI G 640 a0 ((1 : Int32))) Post
                  refine j_if_eq (tgt := 159) d_Mo_job_114 (by decide) (fun _ => ?_) (fun c => absurd c (by decide))
                  exact j_vret rfl d_Mo_job_159 H
                · have H := Hb c44
                  refine j_iconst (v := 1) d_Mo_isIn_10 (by decide) ?_
                  refine j_goto (tgt := 15) d_Mo_isIn_11 (by decide) ?_
                  refine j_zret rfl (by decide) d_Mo_isIn_15 ?_
                  show J E 2 m_Mo_job 41 [some (.ref a0), some (.int p1), some (.int p2), some (.int p3), some (.int p4), some (.int p5), some (.int p6), none, none] [.int ((1 : Int32))] G Post
                  refine j_if_eq (tgt := 48) d_Mo_job_41 (by decide) (fun c => absurd c (by decide)) (fun _ => ?_)
                  refine j_iconst (v := 1) d_Mo_job_44 (by decide) ?_
                  refine j_goto (tgt := 49) d_Mo_job_45 (by decide) ?_
                  refine j_istore (L' := [some (.ref a0), some (.int p1), some (.int p2), some (.int p3), some (.int p4), some (.int p5), some (.int p6), some (.int ((1 : Int32))), none]) d_Mo_job_49 (by decide) rfl ?_
                  refine j_iload d_Mo_job_51 rfl ?_
                  refine j_if_eq (tgt := 86) d_Mo_job_53 (by decide) (fun c => absurd c (by decide)) (fun _ => ?_)
                  refine j_iload_n d_Mo_job_56 rfl ?_
                  refine j_iconst (v := 1) d_Mo_job_57 (by decide) ?_
                  obtain ⟨Ha, Hb⟩ := H
                  refine j_icmp_ne (tgt := 82) d_Mo_job_58 (by decide) (fun c41 => ?_) (fun c42 => ?_)
                  · have H := Ha c41
                    refine j_iconst (v := 1) d_Mo_job_82 (by decide) ?_
                    refine j_goto (tgt := 87) d_Mo_job_83 (by decide) ?_
                    refine j_istore (L' := [some (.ref a0), some (.int p1), some (.int p2), some (.int p3), some (.int p4), some (.int p5), some (.int p6), some (.int ((1 : Int32))), some (.int ((1 : Int32)))]) d_Mo_job_87 (by decide) rfl ?_
                    refine j_aload_n d_Mo_job_89 rfl ?_
                    refine j_iload d_Mo_job_90 rfl ?_
                    refine j_if_ne (tgt := 99) d_Mo_job_92 (by decide) (fun _ => ?_) (fun c => absurd c (by decide))
                    refine j_aload_n d_Mo_job_99 rfl ?_
                    obtain ⟨t9, H⟩ := H
                    refine j_getI (f := 648) fe_Mo_146 rfl rfl t9 d_Mo_job_100 ?_
                    obtain ⟨Ha, Hb⟩ := H
                    refine j_if_eq (tgt := 110) d_Mo_job_103 (by decide) (fun c18 => ?_) (fun c19 => ?_)
                    · have H := Ha c18
                      refine j_iconst (v := 0) d_Mo_job_110 (by decide) ?_
                      refine j_callV (d' := 1) (ci := 10) (As := [.int ((0 : Int32))]) (rest := []) (b := a0) cv_Mo_149 me_Mo_isFine rfl (by decide) rfl rfl t9 rfl rfl (Nat.le_of_ble_eq_true rfl) d_Mo_job_111 (by decide) rfl (j_enter (L := [some (.ref a0), some (.int ((0 : Int32)))]) me_Mo_isFine (cat_c rfl (cat_c rfl cat_n)) (Nat.le_of_ble_eq_true rfl) rfl ?_)
                      refine j_aload_n d_Mo_isFine_0 rfl ?_
                      refine j_iload_n d_Mo_isFine_1 rfl ?_
                      refine j_putI (f := 640) fw_Mo_139 rfl rfl t9 d_Mo_isFine_2 ?_
                      refine j_iload_n d_Mo_isFine_5 rfl ?_
                      refine j_if_ne (tgt := 13) d_Mo_isFine_6 (by decide) (fun c => absurd c (by decide)) (fun _ => ?_)
                      refine j_iconst (v := 1) d_Mo_isFine_9 (by decide) ?_
                      refine j_goto (tgt := 14) d_Mo_isFine_10 (by decide) ?_
                      refine j_zret rfl (by decide) d_Mo_isFine_14 ?_
                      show J E 2 m_Mo_job 114 [some (.ref a0), some (.int p1), some (.int p2), some (.int p3), some (.int p4), some (.int p5), some (.int p6), some (.int ((1 : Int32))), some (.int ((1 : Int32)))] [.int ((1 : Int32))] (sI G 640 a0 ((0 : Int32))) Post
                      refine j_if_eq (tgt := 159) d_Mo_job_114 (by decide) (fun c => absurd c (by decide)) (fun _ => ?_)
                      refine j_aload_n d_Mo_job_117 rfl ?_
                      refine j_iload_n d_Mo_job_118 rfl ?_
                      refine j_putI (f := 641) fw_Mo_9 rfl rfl t9 d_Mo_job_119 ?_
                      refine j_aload_n d_Mo_job_122 rfl ?_
                      refine j_iload_n d_Mo_job_123 rfl ?_
                      refine j_putI (f := 642) fw_Mo_13 rfl rfl t9 d_Mo_job_124 ?_
                      refine j_aload_n d_Mo_job_127 rfl ?_
                      refine j_iload_n d_Mo_job_128 rfl ?_
                      refine j_iconst (v := 1) d_Mo_job_129 (by decide) ?_
                      obtain ⟨Ha, Hb⟩ := H
                      refine j_icmp_ne (tgt := 137) d_Mo_job_130 (by decide) (fun c16 => ?_) (fun c17 => ?_)
                      · have H := Ha c16
                        refine j_iload_n d_Mo_job_137 rfl ?_
                        refine j_putI (f := 643) fw_Mo_16 rfl rfl t9 d_Mo_job_138 ?_
                        refine j_aload_n d_Mo_job_141 rfl ?_
                        refine j_iload d_Mo_job_142 rfl ?_
                        refine j_putI (f := 644) fw_Mo_153 rfl rfl t9 d_Mo_job_144 ?_
                        refine j_aload_n d_Mo_job_147 rfl ?_
                        refine j_iload d_Mo_job_148 rfl ?_
                        refine j_putI (f := 645) fw_Mo_19 rfl rfl t9 d_Mo_job_150 ?_
                        refine j_aload_n d_Mo_job_153 rfl ?_
                        refine j_iload d_Mo_job_154 rfl ?_
                        obtain ⟨z10, H⟩ := H
                        refine j_putZ (f := 646) fw_Mo_22 rfl rfl t9 z10 d_Mo_job_156 ?_
                        show J E 2 m_Mo_job 159 [some (.ref a0), some (.int p1), some (.int p2), some (.int p3), some (.int p4), some (.int p5), some (.int p6), some (.int ((1 : Int32))), some (.int ((1 : Int32)))] [] (sI (sI (sI (sI (sI (sI (sI G 640 a0 ((0 : Int32))) 641 a0 p1) 642 a0 p2) 643 a0 p2) 644 a0 p4) 645 a0 p5) 646 a0 p6) Post
                        generalize e12 : sI (sI (sI (sI (sI (sI (sI G 640 a0 ((0 : Int32))) 641 a0 p1) 642 a0 p2) 643 a0 p2) 644 a0 p4) 645 a0 p5) 646 a0 p6 = G11
                        have e12 := e12.symm
                        have H := H G11 e12
                        exact j_vret rfl d_Mo_job_159 H
                      · have H := Hb c17
                        refine j_iload_n d_Mo_job_133 rfl ?_
                        refine j_goto (tgt := 138) d_Mo_job_134 (by decide) ?_
                        refine j_putI (f := 643) fw_Mo_16 rfl rfl t9 d_Mo_job_138 ?_
                        refine j_aload_n d_Mo_job_141 rfl ?_
                        refine j_iload d_Mo_job_142 rfl ?_
                        refine j_putI (f := 644) fw_Mo_153 rfl rfl t9 d_Mo_job_144 ?_
                        refine j_aload_n d_Mo_job_147 rfl ?_
                        refine j_iload d_Mo_job_148 rfl ?_
                        refine j_putI (f := 645) fw_Mo_19 rfl rfl t9 d_Mo_job_150 ?_
                        refine j_aload_n d_Mo_job_153 rfl ?_
                        refine j_iload d_Mo_job_154 rfl ?_
                        obtain ⟨z13, H⟩ := H
                        refine j_putZ (f := 646) fw_Mo_22 rfl rfl t9 z13 d_Mo_job_156 ?_
                        show J E 2 m_Mo_job 159 [some (.ref a0), some (.int p1), some (.int p2), some (.int p3), some (.int p4), some (.int p5), some (.int p6), some (.int ((1 : Int32))), some (.int ((1 : Int32)))] [] (sI (sI (sI (sI (sI (sI (sI G 640 a0 ((0 : Int32))) 641 a0 p1) 642 a0 p2) 643 a0 p3) 644 a0 p4) 645 a0 p5) 646 a0 p6) Post
                        generalize e15 : sI (sI (sI (sI (sI (sI (sI G 640 a0 ((0 : Int32))) 641 a0 p1) 642 a0 p2) 643 a0 p3) 644 a0 p4) 645 a0 p5) 646 a0 p6 = G14
                        have e15 := e15.symm
                        have H := H G14 e15
                        exact j_vret rfl d_Mo_job_159 H
                    · have H := Hb c19
                      refine j_iconst (v := 2) d_Mo_job_106 (by decide) ?_
                      refine j_goto (tgt := 111) d_Mo_job_107 (by decide) ?_
                      refine j_callV (d' := 1) (ci := 10) (As := [.int ((2 : Int32))]) (rest := []) (b := a0) cv_Mo_149 me_Mo_isFine rfl (by decide) rfl rfl t9 rfl rfl (Nat.le_of_ble_eq_true rfl) d_Mo_job_111 (by decide) rfl (j_enter (L := [some (.ref a0), some (.int ((2 : Int32)))]) me_Mo_isFine (cat_c rfl (cat_c rfl cat_n)) (Nat.le_of_ble_eq_true rfl) rfl ?_)
                      refine j_aload_n d_Mo_isFine_0 rfl ?_
                      refine j_iload_n d_Mo_isFine_1 rfl ?_
                      refine j_putI (f := 640) fw_Mo_139 rfl rfl t9 d_Mo_isFine_2 ?_
                      refine j_iload_n d_Mo_isFine_5 rfl ?_
                      refine j_if_ne (tgt := 13) d_Mo_isFine_6 (by decide) (fun _ => ?_) (fun c => absurd c (by decide))
                      refine j_iconst (v := 0) d_Mo_isFine_13 (by decide) ?_
                      refine j_zret rfl (by decide) d_Mo_isFine_14 ?_
                      show J E 2 m_Mo_job 114 [some (.ref a0), some (.int p1), some (.int p2), some (.int p3), some (.int p4), some (.int p5), some (.int p6), some (.int ((1 : Int32))), some (.int ((1 : Int32)))] [.int ((0 : Int32))] (sI G 640 a0 ((2 : Int32))) Post
                      refine j_if_eq (tgt := 159) d_Mo_job_114 (by decide) (fun _ => ?_) (fun c => absurd c (by decide))
                      exact j_vret rfl d_Mo_job_159 H
                  · have H := Hb c42
                    refine j_iload_n d_Mo_job_61 rfl ?_
                    refine j_iconst (v := 1) d_Mo_job_62 (by decide) ?_
                    refine j_iload_n d_Mo_job_63 rfl ?_
                    refine j_callS (d' := 1) (As := [.int p3, .int ((1 : Int32)), .int p2]) (rest := []) cs_Mo_142 me_Mo_isIn rfl (by decide) rfl rfl (Nat.le_of_ble_eq_true rfl) d_Mo_job_64 (by decide) rfl (j_enter (L := [some (.int p3), some (.int ((1 : Int32))), some (.int p2)]) me_Mo_isIn (cat_c rfl (cat_c rfl (cat_c rfl cat_n))) (Nat.le_of_ble_eq_true rfl) rfl ?_)
                    refine j_iload_n d_Mo_isIn_0 rfl ?_
                    refine j_iload_n d_Mo_isIn_1 rfl ?_
                    obtain ⟨Ha, Hb⟩ := H
                    refine j_icmp_lt (tgt := 14) d_Mo_isIn_2 (by decide) (fun c39 => ?_) (fun c40 => ?_)
                    · have H := Ha c39
                      refine j_iconst (v := 0) d_Mo_isIn_14 (by decide) ?_
                      refine j_zret rfl (by decide) d_Mo_isIn_15 ?_
                      show J E 2 m_Mo_job 67 [some (.ref a0), some (.int p1), some (.int p2), some (.int p3), some (.int p4), some (.int p5), some (.int p6), some (.int ((1 : Int32))), none] [.int ((0 : Int32))] G Post
                      refine j_if_eq (tgt := 86) d_Mo_job_67 (by decide) (fun _ => ?_) (fun c => absurd c (by decide))
                      refine j_iconst (v := 0) d_Mo_job_86 (by decide) ?_
                      refine j_istore (L' := [some (.ref a0), some (.int p1), some (.int p2), some (.int p3), some (.int p4), some (.int p5), some (.int p6), some (.int ((1 : Int32))), some (.int ((0 : Int32)))]) d_Mo_job_87 (by decide) rfl ?_
                      refine j_aload_n d_Mo_job_89 rfl ?_
                      refine j_iload d_Mo_job_90 rfl ?_
                      refine j_if_ne (tgt := 99) d_Mo_job_92 (by decide) (fun c => absurd c (by decide)) (fun _ => ?_)
                      refine j_iconst (v := 1) d_Mo_job_95 (by decide) ?_
                      refine j_goto (tgt := 111) d_Mo_job_96 (by decide) ?_
                      obtain ⟨t20, H⟩ := H
                      refine j_callV (d' := 1) (ci := 10) (As := [.int ((1 : Int32))]) (rest := []) (b := a0) cv_Mo_149 me_Mo_isFine rfl (by decide) rfl rfl t20 rfl rfl (Nat.le_of_ble_eq_true rfl) d_Mo_job_111 (by decide) rfl (j_enter (L := [some (.ref a0), some (.int ((1 : Int32)))]) me_Mo_isFine (cat_c rfl (cat_c rfl cat_n)) (Nat.le_of_ble_eq_true rfl) rfl ?_)
                      refine j_aload_n d_Mo_isFine_0 rfl ?_
                      refine j_iload_n d_Mo_isFine_1 rfl ?_
                      refine j_putI (f := 640) fw_Mo_139 rfl rfl t20 d_Mo_isFine_2 ?_
                      refine j_iload_n d_Mo_isFine_5 rfl ?_
                      refine j_if_ne (tgt := 13) d_Mo_isFine_6 (by decide) (fun _ => ?_) (fun c => absurd c (by decide))
                      refine j_iconst (v := 0) d_Mo_isFine_13 (by decide) ?_
                      refine j_zret rfl (by decide) d_Mo_isFine_14 ?_
                      show J E 2 m_Mo_job 114 [some (.ref a0), some (.int p1), some (.int p2), some (.int p3), some (.int p4), some (.int p5), some (.int p6), some (.int ((1 : Int32))), some (.int ((0 : Int32)))] [.int ((0 : Int32))] (sI G 640 a0 ((1 : Int32))) Post
                      refine j_if_eq (tgt := 159) d_Mo_job_114 (by decide) (fun _ => ?_) (fun c => absurd c (by decide))
                      exact j_vret rfl d_Mo_job_159 H
                    · have H := Hb c40
                      refine j_iload_n d_Mo_isIn_5 rfl ?_
                      refine j_iload_n d_Mo_isIn_6 rfl ?_
                      obtain ⟨Ha, Hb⟩ := H
                      refine j_icmp_gt (tgt := 14) d_Mo_isIn_7 (by decide) (fun c37 => ?_) (fun c38 => ?_)
                      · have H := Ha c37
                        refine j_iconst (v := 0) d_Mo_isIn_14 (by decide) ?_
                        refine j_zret rfl (by decide) d_Mo_isIn_15 ?_
                        show J E 2 m_Mo_job 67 [some (.ref a0), some (.int p1), some (.int p2), some (.int p3), some (.int p4), some (.int p5), some (.int p6), some (.int ((1 : Int32))), none] [.int ((0 : Int32))] G Post
                        refine j_if_eq (tgt := 86) d_Mo_job_67 (by decide) (fun _ => ?_) (fun c => absurd c (by decide))
                        refine j_iconst (v := 0) d_Mo_job_86 (by decide) ?_
                        refine j_istore (L' := [some (.ref a0), some (.int p1), some (.int p2), some (.int p3), some (.int p4), some (.int p5), some (.int p6), some (.int ((1 : Int32))), some (.int ((0 : Int32)))]) d_Mo_job_87 (by decide) rfl ?_
                        refine j_aload_n d_Mo_job_89 rfl ?_
                        refine j_iload d_Mo_job_90 rfl ?_
                        refine j_if_ne (tgt := 99) d_Mo_job_92 (by decide) (fun c => absurd c (by decide)) (fun _ => ?_)
                        refine j_iconst (v := 1) d_Mo_job_95 (by decide) ?_
                        refine j_goto (tgt := 111) d_Mo_job_96 (by decide) ?_
                        obtain ⟨t21, H⟩ := H
                        refine j_callV (d' := 1) (ci := 10) (As := [.int ((1 : Int32))]) (rest := []) (b := a0) cv_Mo_149 me_Mo_isFine rfl (by decide) rfl rfl t21 rfl rfl (Nat.le_of_ble_eq_true rfl) d_Mo_job_111 (by decide) rfl (j_enter (L := [some (.ref a0), some (.int ((1 : Int32)))]) me_Mo_isFine (cat_c rfl (cat_c rfl cat_n)) (Nat.le_of_ble_eq_true rfl) rfl ?_)
                        refine j_aload_n d_Mo_isFine_0 rfl ?_
                        refine j_iload_n d_Mo_isFine_1 rfl ?_
                        refine j_putI (f := 640) fw_Mo_139 rfl rfl t21 d_Mo_isFine_2 ?_
                        refine j_iload_n d_Mo_isFine_5 rfl ?_
                        refine j_if_ne (tgt := 13) d_Mo_isFine_6 (by decide) (fun _ => ?_) (fun c => absurd c (by decide))
                        refine j_iconst (v := 0) d_Mo_isFine_13 (by decide) ?_
                        refine j_zret rfl (by decide) d_Mo_isFine_14 ?_
                        show J E 2 m_Mo_job 114 [some (.ref a0), some (.int p1), some (.int p2), some (.int p3), some (.int p4), some (.int p5), some (.int p6), some (.int ((1 : Int32))), some (.int ((0 : Int32)))] [.int ((0 : Int32))] (sI G 640 a0 ((1 : Int32))) Post
                        refine j_if_eq (tgt := 159) d_Mo_job_114 (by decide) (fun _ => ?_) (fun c => absurd c (by decide))
                        exact j_vret rfl d_Mo_job_159 H
                      · have H := Hb c38
                        refine j_iconst (v := 1) d_Mo_isIn_10 (by decide) ?_
                        refine j_goto (tgt := 15) d_Mo_isIn_11 (by decide) ?_
                        refine j_zret rfl (by decide) d_Mo_isIn_15 ?_
                        show J E 2 m_Mo_job 67 [some (.ref a0), some (.int p1), some (.int p2), some (.int p3), some (.int p4), some (.int p5), some (.int p6), some (.int ((1 : Int32))), none] [.int ((1 : Int32))] G Post
                        refine j_if_eq (tgt := 86) d_Mo_job_67 (by decide) (fun c => absurd c (by decide)) (fun _ => ?_)
                        refine j_iload_n d_Mo_job_70 rfl ?_
                        refine j_iload_n d_Mo_job_71 rfl ?_
                        refine j_iadd d_Mo_job_72 ?_
                        refine j_iconst (v := 1) d_Mo_job_73 (by decide) ?_
                        refine j_isub d_Mo_job_74 ?_
                        refine j_iload_n d_Mo_job_75 rfl ?_
                        obtain ⟨z22, H⟩ := H
                        refine j_idiv d_Mo_job_76 z22 ?_
                        refine j_bipush (v := 8) d_Mo_job_77 (by decide) ?_
                        obtain ⟨Ha, Hb⟩ := H
                        refine j_icmp_gt (tgt := 86) d_Mo_job_79 (by decide) (fun c35 => ?_) (fun c36 => ?_)
                        · have H := Ha c35
                          refine j_iconst (v := 0) d_Mo_job_86 (by decide) ?_
                          refine j_istore (L' := [some (.ref a0), some (.int p1), some (.int p2), some (.int p3), some (.int p4), some (.int p5), some (.int p6), some (.int ((1 : Int32))), some (.int ((0 : Int32)))]) d_Mo_job_87 (by decide) rfl ?_
                          refine j_aload_n d_Mo_job_89 rfl ?_
                          refine j_iload d_Mo_job_90 rfl ?_
                          refine j_if_ne (tgt := 99) d_Mo_job_92 (by decide) (fun c => absurd c (by decide)) (fun _ => ?_)
                          refine j_iconst (v := 1) d_Mo_job_95 (by decide) ?_
                          refine j_goto (tgt := 111) d_Mo_job_96 (by decide) ?_
                          obtain ⟨t23, H⟩ := H
                          refine j_callV (d' := 1) (ci := 10) (As := [.int ((1 : Int32))]) (rest := []) (b := a0) cv_Mo_149 me_Mo_isFine rfl (by decide) rfl rfl t23 rfl rfl (Nat.le_of_ble_eq_true rfl) d_Mo_job_111 (by decide) rfl (j_enter (L := [some (.ref a0), some (.int ((1 : Int32)))]) me_Mo_isFine (cat_c rfl (cat_c rfl cat_n)) (Nat.le_of_ble_eq_true rfl) rfl ?_)
                          refine j_aload_n d_Mo_isFine_0 rfl ?_
                          refine j_iload_n d_Mo_isFine_1 rfl ?_
                          refine j_putI (f := 640) fw_Mo_139 rfl rfl t23 d_Mo_isFine_2 ?_
                          refine j_iload_n d_Mo_isFine_5 rfl ?_
                          refine j_if_ne (tgt := 13) d_Mo_isFine_6 (by decide) (fun _ => ?_) (fun c => absurd c (by decide))
                          refine j_iconst (v := 0) d_Mo_isFine_13 (by decide) ?_
                          refine j_zret rfl (by decide) d_Mo_isFine_14 ?_
                          show J E 2 m_Mo_job 114 [some (.ref a0), some (.int p1), some (.int p2), some (.int p3), some (.int p4), some (.int p5), some (.int p6), some (.int ((1 : Int32))), some (.int ((0 : Int32)))] [.int ((0 : Int32))] (sI G 640 a0 ((1 : Int32))) Post
                          refine j_if_eq (tgt := 159) d_Mo_job_114 (by decide) (fun _ => ?_) (fun c => absurd c (by decide))
                          exact j_vret rfl d_Mo_job_159 H
                        · have H := Hb c36
                          refine j_iconst (v := 1) d_Mo_job_82 (by decide) ?_
                          refine j_goto (tgt := 87) d_Mo_job_83 (by decide) ?_
                          refine j_istore (L' := [some (.ref a0), some (.int p1), some (.int p2), some (.int p3), some (.int p4), some (.int p5), some (.int p6), some (.int ((1 : Int32))), some (.int ((1 : Int32)))]) d_Mo_job_87 (by decide) rfl ?_
                          refine j_aload_n d_Mo_job_89 rfl ?_
                          refine j_iload d_Mo_job_90 rfl ?_
                          refine j_if_ne (tgt := 99) d_Mo_job_92 (by decide) (fun _ => ?_) (fun c => absurd c (by decide))
                          refine j_aload_n d_Mo_job_99 rfl ?_
                          obtain ⟨t24, H⟩ := H
                          refine j_getI (f := 648) fe_Mo_146 rfl rfl t24 d_Mo_job_100 ?_
                          obtain ⟨Ha, Hb⟩ := H
                          refine j_if_eq (tgt := 110) d_Mo_job_103 (by decide) (fun c33 => ?_) (fun c34 => ?_)
                          · have H := Ha c33
                            refine j_iconst (v := 0) d_Mo_job_110 (by decide) ?_
                            refine j_callV (d' := 1) (ci := 10) (As := [.int ((0 : Int32))]) (rest := []) (b := a0) cv_Mo_149 me_Mo_isFine rfl (by decide) rfl rfl t24 rfl rfl (Nat.le_of_ble_eq_true rfl) d_Mo_job_111 (by decide) rfl (j_enter (L := [some (.ref a0), some (.int ((0 : Int32)))]) me_Mo_isFine (cat_c rfl (cat_c rfl cat_n)) (Nat.le_of_ble_eq_true rfl) rfl ?_)
                            refine j_aload_n d_Mo_isFine_0 rfl ?_
                            refine j_iload_n d_Mo_isFine_1 rfl ?_
                            refine j_putI (f := 640) fw_Mo_139 rfl rfl t24 d_Mo_isFine_2 ?_
                            refine j_iload_n d_Mo_isFine_5 rfl ?_
                            refine j_if_ne (tgt := 13) d_Mo_isFine_6 (by decide) (fun c => absurd c (by decide)) (fun _ => ?_)
                            refine j_iconst (v := 1) d_Mo_isFine_9 (by decide) ?_
                            refine j_goto (tgt := 14) d_Mo_isFine_10 (by decide) ?_
                            refine j_zret rfl (by decide) d_Mo_isFine_14 ?_
                            show J E 2 m_Mo_job 114 [some (.ref a0), some (.int p1), some (.int p2), some (.int p3), some (.int p4), some (.int p5), some (.int p6), some (.int ((1 : Int32))), some (.int ((1 : Int32)))] [.int ((1 : Int32))] (sI G 640 a0 ((0 : Int32))) Post
                            refine j_if_eq (tgt := 159) d_Mo_job_114 (by decide) (fun c => absurd c (by decide)) (fun _ => ?_)
                            refine j_aload_n d_Mo_job_117 rfl ?_
                            refine j_iload_n d_Mo_job_118 rfl ?_
                            refine j_putI (f := 641) fw_Mo_9 rfl rfl t24 d_Mo_job_119 ?_
                            refine j_aload_n d_Mo_job_122 rfl ?_
                            refine j_iload_n d_Mo_job_123 rfl ?_
                            refine j_putI (f := 642) fw_Mo_13 rfl rfl t24 d_Mo_job_124 ?_
                            refine j_aload_n d_Mo_job_127 rfl ?_
                            refine j_iload_n d_Mo_job_128 rfl ?_
                            refine j_iconst (v := 1) d_Mo_job_129 (by decide) ?_
                            obtain ⟨Ha, Hb⟩ := H
                            refine j_icmp_ne (tgt := 137) d_Mo_job_130 (by decide) (fun c31 => ?_) (fun c32 => ?_)
                            · have H := Ha c31
                              refine j_iload_n d_Mo_job_137 rfl ?_
                              refine j_putI (f := 643) fw_Mo_16 rfl rfl t24 d_Mo_job_138 ?_
                              refine j_aload_n d_Mo_job_141 rfl ?_
                              refine j_iload d_Mo_job_142 rfl ?_
                              refine j_putI (f := 644) fw_Mo_153 rfl rfl t24 d_Mo_job_144 ?_
                              refine j_aload_n d_Mo_job_147 rfl ?_
                              refine j_iload d_Mo_job_148 rfl ?_
                              refine j_putI (f := 645) fw_Mo_19 rfl rfl t24 d_Mo_job_150 ?_
                              refine j_aload_n d_Mo_job_153 rfl ?_
                              refine j_iload d_Mo_job_154 rfl ?_
                              obtain ⟨z25, H⟩ := H
                              refine j_putZ (f := 646) fw_Mo_22 rfl rfl t24 z25 d_Mo_job_156 ?_
                              show J E 2 m_Mo_job 159 [some (.ref a0), some (.int p1), some (.int p2), some (.int p3), some (.int p4), some (.int p5), some (.int p6), some (.int ((1 : Int32))), some (.int ((1 : Int32)))] [] (sI (sI (sI (sI (sI (sI (sI G 640 a0 ((0 : Int32))) 641 a0 p1) 642 a0 p2) 643 a0 p2) 644 a0 p4) 645 a0 p5) 646 a0 p6) Post
                              generalize e27 : sI (sI (sI (sI (sI (sI (sI G 640 a0 ((0 : Int32))) 641 a0 p1) 642 a0 p2) 643 a0 p2) 644 a0 p4) 645 a0 p5) 646 a0 p6 = G26
                              have e27 := e27.symm
                              have H := H G26 e27
                              exact j_vret rfl d_Mo_job_159 H
                            · have H := Hb c32
                              refine j_iload_n d_Mo_job_133 rfl ?_
                              refine j_goto (tgt := 138) d_Mo_job_134 (by decide) ?_
                              refine j_putI (f := 643) fw_Mo_16 rfl rfl t24 d_Mo_job_138 ?_
                              refine j_aload_n d_Mo_job_141 rfl ?_
                              refine j_iload d_Mo_job_142 rfl ?_
                              refine j_putI (f := 644) fw_Mo_153 rfl rfl t24 d_Mo_job_144 ?_
                              refine j_aload_n d_Mo_job_147 rfl ?_
                              refine j_iload d_Mo_job_148 rfl ?_
                              refine j_putI (f := 645) fw_Mo_19 rfl rfl t24 d_Mo_job_150 ?_
                              refine j_aload_n d_Mo_job_153 rfl ?_
                              refine j_iload d_Mo_job_154 rfl ?_
                              obtain ⟨z28, H⟩ := H
                              refine j_putZ (f := 646) fw_Mo_22 rfl rfl t24 z28 d_Mo_job_156 ?_
                              show J E 2 m_Mo_job 159 [some (.ref a0), some (.int p1), some (.int p2), some (.int p3), some (.int p4), some (.int p5), some (.int p6), some (.int ((1 : Int32))), some (.int ((1 : Int32)))] [] (sI (sI (sI (sI (sI (sI (sI G 640 a0 ((0 : Int32))) 641 a0 p1) 642 a0 p2) 643 a0 p3) 644 a0 p4) 645 a0 p5) 646 a0 p6) Post
                              generalize e30 : sI (sI (sI (sI (sI (sI (sI G 640 a0 ((0 : Int32))) 641 a0 p1) 642 a0 p2) 643 a0 p3) 644 a0 p4) 645 a0 p5) 646 a0 p6 = G29
                              have e30 := e30.symm
                              have H := H G29 e30
                              exact j_vret rfl d_Mo_job_159 H
                          · have H := Hb c34
                            refine j_iconst (v := 2) d_Mo_job_106 (by decide) ?_
                            refine j_goto (tgt := 111) d_Mo_job_107 (by decide) ?_
                            refine j_callV (d' := 1) (ci := 10) (As := [.int ((2 : Int32))]) (rest := []) (b := a0) cv_Mo_149 me_Mo_isFine rfl (by decide) rfl rfl t24 rfl rfl (Nat.le_of_ble_eq_true rfl) d_Mo_job_111 (by decide) rfl (j_enter (L := [some (.ref a0), some (.int ((2 : Int32)))]) me_Mo_isFine (cat_c rfl (cat_c rfl cat_n)) (Nat.le_of_ble_eq_true rfl) rfl ?_)
                            refine j_aload_n d_Mo_isFine_0 rfl ?_
                            refine j_iload_n d_Mo_isFine_1 rfl ?_
                            refine j_putI (f := 640) fw_Mo_139 rfl rfl t24 d_Mo_isFine_2 ?_
                            refine j_iload_n d_Mo_isFine_5 rfl ?_
                            refine j_if_ne (tgt := 13) d_Mo_isFine_6 (by decide) (fun _ => ?_) (fun c => absurd c (by decide))
                            refine j_iconst (v := 0) d_Mo_isFine_13 (by decide) ?_
                            refine j_zret rfl (by decide) d_Mo_isFine_14 ?_
                            show J E 2 m_Mo_job 114 [some (.ref a0), some (.int p1), some (.int p2), some (.int p3), some (.int p4), some (.int p5), some (.int p6), some (.int ((1 : Int32))), some (.int ((1 : Int32)))] [.int ((0 : Int32))] (sI G 640 a0 ((2 : Int32))) Post
                            refine j_if_eq (tgt := 159) d_Mo_job_114 (by decide) (fun _ => ?_) (fun c => absurd c (by decide))
                            exact j_vret rfl d_Mo_job_159 H
theorem wp_Mo_slack_0 {E : EV} {G : GH} {Post : Res → GH → Prop} (a0 : Nat) (p1 : Int32) (p2 : Int32) (H : (p1 < (0 : Int32) → gT G a0 = 11 ∧ Post (.inl (some (.int ((0 : Int32))))) (sI G 640 a0 ((1 : Int32)))) ∧ (¬ p1 < (0 : Int32) → ((2 : Int32) < p1 → gT G a0 = 11 ∧ Post (.inl (some (.int ((0 : Int32))))) (sI G 640 a0 ((1 : Int32)))) ∧ (¬ (2 : Int32) < p1 → (p2 < (0 : Int32) → gT G a0 = 11 ∧ Post (.inl (some (.int ((0 : Int32))))) (sI G 640 a0 ((2 : Int32)))) ∧ (¬ p2 < (0 : Int32) → ((200 : Int32) < p2 → gT G a0 = 11 ∧ Post (.inl (some (.int ((0 : Int32))))) (sI G 640 a0 ((2 : Int32)))) ∧ (¬ (200 : Int32) < p2 → gT G a0 = 11 ∧ ((gI G 648 a0) = 0 → ∃ b6, gR G 655 a0 = some b6 ∧ (gT G b6 = 20 ∨ gT G b6 = 25) ∧ ∃ n10, IX p1 n10 (gN G b6) ∧ gT G b6 = 20 ∧ Post (.inl (some (.int ((gA (sI G 640 a0 ((0 : Int32))) b6 n10))))) (sA (sI G 640 a0 ((0 : Int32))) b6 n10 p2)) ∧ (¬ (gI G 648 a0) = 0 → Post (.inl (some (.int ((0 : Int32))))) (sI G 640 a0 ((3 : Int32))))))))) : J E 3 m_Mo_slack 0 [some (.ref a0), some (.int p1), some (.int p2), none] [] G Post := by
  refine j_aload_n d_Mo_slack_0 rfl ?_
  refine j_iload_n d_Mo_slack_1 rfl ?_
  refine j_callS (d' := 2) (As := [.int p1]) (rest := [.ref a0]) cs_Mo_156 me_Mo_isSource rfl (by decide) rfl rfl (Nat.le_of_ble_eq_true rfl) d_Mo_slack_2 (by decide) rfl (j_enter (L := [some (.int p1)]) me_Mo_isSource (cat_c rfl cat_n) (Nat.le_of_ble_eq_true rfl) rfl ?_)
  refine j_iload_n d_Mo_isSource_0 rfl ?_
  refine j_iconst (v := 0) d_Mo_isSource_1 (by decide) ?_
  refine j_iconst (v := 2) d_Mo_isSource_2 (by decide) ?_
  refine j_callS (d' := 1) (As := [.int p1, .int ((0 : Int32)), .int ((2 : Int32))]) (rest := []) cs_Mo_142 me_Mo_isIn rfl (by decide) rfl rfl (Nat.le_of_ble_eq_true rfl) d_Mo_isSource_3 (by decide) rfl (j_enter (L := [some (.int p1), some (.int ((0 : Int32))), some (.int ((2 : Int32)))]) me_Mo_isIn (cat_c rfl (cat_c rfl (cat_c rfl cat_n))) (Nat.le_of_ble_eq_true rfl) rfl ?_)
  refine j_iload_n d_Mo_isIn_0 rfl ?_
  refine j_iload_n d_Mo_isIn_1 rfl ?_
  obtain ⟨Ha, Hb⟩ := H
  refine j_icmp_lt (tgt := 14) d_Mo_isIn_2 (by decide) (fun c20 => ?_) (fun c21 => ?_)
  · have H := Ha c20
    refine j_iconst (v := 0) d_Mo_isIn_14 (by decide) ?_
    refine j_zret rfl (by decide) d_Mo_isIn_15 ?_
    show J E 2 m_Mo_isSource 6 [some (.int p1)] [.int ((0 : Int32))] G (aft E 3 m_Mo_slack 2 [some (.ref a0), some (.int p1), some (.int p2), none] [.ref a0] Post)
    refine j_zret rfl (by decide) d_Mo_isSource_6 ?_
    show J E 3 m_Mo_slack 5 [some (.ref a0), some (.int p1), some (.int p2), none] [.int ((0 : Int32)), .ref a0] G Post
    refine j_if_ne (tgt := 12) d_Mo_slack_5 (by decide) (fun c => absurd c (by decide)) (fun _ => ?_)
    refine j_iconst (v := 1) d_Mo_slack_8 (by decide) ?_
    refine j_goto (tgt := 39) d_Mo_slack_9 (by decide) ?_
    obtain ⟨t1, H⟩ := H
    refine j_callV (d' := 1) (ci := 10) (As := [.int ((1 : Int32))]) (rest := []) (b := a0) cv_Mo_149 me_Mo_isFine rfl (by decide) rfl rfl t1 rfl rfl (Nat.le_of_ble_eq_true rfl) d_Mo_slack_39 (by decide) rfl (j_enter (L := [some (.ref a0), some (.int ((1 : Int32)))]) me_Mo_isFine (cat_c rfl (cat_c rfl cat_n)) (Nat.le_of_ble_eq_true rfl) rfl ?_)
    refine j_aload_n d_Mo_isFine_0 rfl ?_
    refine j_iload_n d_Mo_isFine_1 rfl ?_
    refine j_putI (f := 640) fw_Mo_139 rfl rfl t1 d_Mo_isFine_2 ?_
    refine j_iload_n d_Mo_isFine_5 rfl ?_
    refine j_if_ne (tgt := 13) d_Mo_isFine_6 (by decide) (fun _ => ?_) (fun c => absurd c (by decide))
    refine j_iconst (v := 0) d_Mo_isFine_13 (by decide) ?_
    refine j_zret rfl (by decide) d_Mo_isFine_14 ?_
    show J E 3 m_Mo_slack 42 [some (.ref a0), some (.int p1), some (.int p2), none] [.int ((0 : Int32))] (sI G 640 a0 ((1 : Int32))) Post
    refine j_if_ne (tgt := 47) d_Mo_slack_42 (by decide) (fun c => absurd c (by decide)) (fun _ => ?_)
    refine j_iconst (v := 0) d_Mo_slack_45 (by decide) ?_
    exact j_iret rfl d_Mo_slack_46 H
  · have H := Hb c21
    refine j_iload_n d_Mo_isIn_5 rfl ?_
    refine j_iload_n d_Mo_isIn_6 rfl ?_
    obtain ⟨Ha, Hb⟩ := H
    refine j_icmp_gt (tgt := 14) d_Mo_isIn_7 (by decide) (fun c18 => ?_) (fun c19 => ?_)
    · have H := Ha c18
      refine j_iconst (v := 0) d_Mo_isIn_14 (by decide) ?_
      refine j_zret rfl (by decide) d_Mo_isIn_15 ?_
      show J E 2 m_Mo_isSource 6 [some (.int p1)] [.int ((0 : Int32))] G (aft E 3 m_Mo_slack 2 [some (.ref a0), some (.int p1), some (.int p2), none] [.ref a0] Post)
      refine j_zret rfl (by decide) d_Mo_isSource_6 ?_
      show J E 3 m_Mo_slack 5 [some (.ref a0), some (.int p1), some (.int p2), none] [.int ((0 : Int32)), .ref a0] G Post
      refine j_if_ne (tgt := 12) d_Mo_slack_5 (by decide) (fun c => absurd c (by decide)) (fun _ => ?_)
      refine j_iconst (v := 1) d_Mo_slack_8 (by decide) ?_
      refine j_goto (tgt := 39) d_Mo_slack_9 (by decide) ?_
      obtain ⟨t2, H⟩ := H
      refine j_callV (d' := 1) (ci := 10) (As := [.int ((1 : Int32))]) (rest := []) (b := a0) cv_Mo_149 me_Mo_isFine rfl (by decide) rfl rfl t2 rfl rfl (Nat.le_of_ble_eq_true rfl) d_Mo_slack_39 (by decide) rfl (j_enter (L := [some (.ref a0), some (.int ((1 : Int32)))]) me_Mo_isFine (cat_c rfl (cat_c rfl cat_n)) (Nat.le_of_ble_eq_true rfl) rfl ?_)
      refine j_aload_n d_Mo_isFine_0 rfl ?_
      refine j_iload_n d_Mo_isFine_1 rfl ?_
      refine j_putI (f := 640) fw_Mo_139 rfl rfl t2 d_Mo_isFine_2 ?_
      refine j_iload_n d_Mo_isFine_5 rfl ?_
      refine j_if_ne (tgt := 13) d_Mo_isFine_6 (by decide) (fun _ => ?_) (fun c => absurd c (by decide))
      refine j_iconst (v := 0) d_Mo_isFine_13 (by decide) ?_
      refine j_zret rfl (by decide) d_Mo_isFine_14 ?_
      show J E 3 m_Mo_slack 42 [some (.ref a0), some (.int p1), some (.int p2), none] [.int ((0 : Int32))] (sI G 640 a0 ((1 : Int32))) Post
      refine j_if_ne (tgt := 47) d_Mo_slack_42 (by decide) (fun c => absurd c (by decide)) (fun _ => ?_)
      refine j_iconst (v := 0) d_Mo_slack_45 (by decide) ?_
      exact j_iret rfl d_Mo_slack_46 H
    · have H := Hb c19
      refine j_iconst (v := 1) d_Mo_isIn_10 (by decide) ?_
      refine j_goto (tgt := 15) d_Mo_isIn_11 (by decide) ?_
      refine j_zret rfl (by decide) d_Mo_isIn_15 ?_
      show J E 2 m_Mo_isSource 6 [some (.int p1)] [.int ((1 : Int32))] G (aft E 3 m_Mo_slack 2 [some (.ref a0), some (.int p1), some (.int p2), none] [.ref a0] Post)
      refine j_zret rfl (by decide) d_Mo_isSource_6 ?_
      show J E 3 m_Mo_slack 5 [some (.ref a0), some (.int p1), some (.int p2), none] [.int ((1 : Int32)), .ref a0] G Post
      refine j_if_ne (tgt := 12) d_Mo_slack_5 (by decide) (fun _ => ?_) (fun c => absurd c (by decide))
      refine j_iload_n d_Mo_slack_12 rfl ?_
      refine j_iconst (v := 0) d_Mo_slack_13 (by decide) ?_
      refine j_sipush (v := 200) d_Mo_slack_14 (by decide) ?_
      refine j_callS (d' := 1) (As := [.int p2, .int ((0 : Int32)), .int ((200 : Int32))]) (rest := [.ref a0]) cs_Mo_142 me_Mo_isIn rfl (by decide) rfl rfl (Nat.le_of_ble_eq_true rfl) d_Mo_slack_17 (by decide) rfl (j_enter (L := [some (.int p2), some (.int ((0 : Int32))), some (.int ((200 : Int32)))]) me_Mo_isIn (cat_c rfl (cat_c rfl (cat_c rfl cat_n))) (Nat.le_of_ble_eq_true rfl) rfl ?_)
      refine j_iload_n d_Mo_isIn_0 rfl ?_
      refine j_iload_n d_Mo_isIn_1 rfl ?_
      obtain ⟨Ha, Hb⟩ := H
      refine j_icmp_lt (tgt := 14) d_Mo_isIn_2 (by decide) (fun c16 => ?_) (fun c17 => ?_)
      · have H := Ha c16
        refine j_iconst (v := 0) d_Mo_isIn_14 (by decide) ?_
        refine j_zret rfl (by decide) d_Mo_isIn_15 ?_
        show J E 3 m_Mo_slack 20 [some (.ref a0), some (.int p1), some (.int p2), none] [.int ((0 : Int32)), .ref a0] G Post
        refine j_if_ne (tgt := 27) d_Mo_slack_20 (by decide) (fun c => absurd c (by decide)) (fun _ => ?_)
        refine j_iconst (v := 2) d_Mo_slack_23 (by decide) ?_
        refine j_goto (tgt := 39) d_Mo_slack_24 (by decide) ?_
        obtain ⟨t3, H⟩ := H
        refine j_callV (d' := 1) (ci := 10) (As := [.int ((2 : Int32))]) (rest := []) (b := a0) cv_Mo_149 me_Mo_isFine rfl (by decide) rfl rfl t3 rfl rfl (Nat.le_of_ble_eq_true rfl) d_Mo_slack_39 (by decide) rfl (j_enter (L := [some (.ref a0), some (.int ((2 : Int32)))]) me_Mo_isFine (cat_c rfl (cat_c rfl cat_n)) (Nat.le_of_ble_eq_true rfl) rfl ?_)
        refine j_aload_n d_Mo_isFine_0 rfl ?_
        refine j_iload_n d_Mo_isFine_1 rfl ?_
        refine j_putI (f := 640) fw_Mo_139 rfl rfl t3 d_Mo_isFine_2 ?_
        refine j_iload_n d_Mo_isFine_5 rfl ?_
        refine j_if_ne (tgt := 13) d_Mo_isFine_6 (by decide) (fun _ => ?_) (fun c => absurd c (by decide))
        refine j_iconst (v := 0) d_Mo_isFine_13 (by decide) ?_
        refine j_zret rfl (by decide) d_Mo_isFine_14 ?_
        show J E 3 m_Mo_slack 42 [some (.ref a0), some (.int p1), some (.int p2), none] [.int ((0 : Int32))] (sI G 640 a0 ((2 : Int32))) Post
        refine j_if_ne (tgt := 47) d_Mo_slack_42 (by decide) (fun c => absurd c (by decide)) (fun _ => ?_)
        refine j_iconst (v := 0) d_Mo_slack_45 (by decide) ?_
        exact j_iret rfl d_Mo_slack_46 H
      · have H := Hb c17
        refine j_iload_n d_Mo_isIn_5 rfl ?_
        refine j_iload_n d_Mo_isIn_6 rfl ?_
        obtain ⟨Ha, Hb⟩ := H
        refine j_icmp_gt (tgt := 14) d_Mo_isIn_7 (by decide) (fun c14 => ?_) (fun c15 => ?_)
        · have H := Ha c14
          refine j_iconst (v := 0) d_Mo_isIn_14 (by decide) ?_
          refine j_zret rfl (by decide) d_Mo_isIn_15 ?_
          show J E 3 m_Mo_slack 20 [some (.ref a0), some (.int p1), some (.int p2), none] [.int ((0 : Int32)), .ref a0] G Post
          refine j_if_ne (tgt := 27) d_Mo_slack_20 (by decide) (fun c => absurd c (by decide)) (fun _ => ?_)
          refine j_iconst (v := 2) d_Mo_slack_23 (by decide) ?_
          refine j_goto (tgt := 39) d_Mo_slack_24 (by decide) ?_
          obtain ⟨t4, H⟩ := H
          refine j_callV (d' := 1) (ci := 10) (As := [.int ((2 : Int32))]) (rest := []) (b := a0) cv_Mo_149 me_Mo_isFine rfl (by decide) rfl rfl t4 rfl rfl (Nat.le_of_ble_eq_true rfl) d_Mo_slack_39 (by decide) rfl (j_enter (L := [some (.ref a0), some (.int ((2 : Int32)))]) me_Mo_isFine (cat_c rfl (cat_c rfl cat_n)) (Nat.le_of_ble_eq_true rfl) rfl ?_)
          refine j_aload_n d_Mo_isFine_0 rfl ?_
          refine j_iload_n d_Mo_isFine_1 rfl ?_
          refine j_putI (f := 640) fw_Mo_139 rfl rfl t4 d_Mo_isFine_2 ?_
          refine j_iload_n d_Mo_isFine_5 rfl ?_
          refine j_if_ne (tgt := 13) d_Mo_isFine_6 (by decide) (fun _ => ?_) (fun c => absurd c (by decide))
          refine j_iconst (v := 0) d_Mo_isFine_13 (by decide) ?_
          refine j_zret rfl (by decide) d_Mo_isFine_14 ?_
          show J E 3 m_Mo_slack 42 [some (.ref a0), some (.int p1), some (.int p2), none] [.int ((0 : Int32))] (sI G 640 a0 ((2 : Int32))) Post
          refine j_if_ne (tgt := 47) d_Mo_slack_42 (by decide) (fun c => absurd c (by decide)) (fun _ => ?_)
          refine j_iconst (v := 0) d_Mo_slack_45 (by decide) ?_
          exact j_iret rfl d_Mo_slack_46 H
        · have H := Hb c15
          refine j_iconst (v := 1) d_Mo_isIn_10 (by decide) ?_
          refine j_goto (tgt := 15) d_Mo_isIn_11 (by decide) ?_
          refine j_zret rfl (by decide) d_Mo_isIn_15 ?_
          show J E 3 m_Mo_slack 20 [some (.ref a0), some (.int p1), some (.int p2), none] [.int ((1 : Int32)), .ref a0] G Post
          refine j_if_ne (tgt := 27) d_Mo_slack_20 (by decide) (fun _ => ?_) (fun c => absurd c (by decide))
          refine j_aload_n d_Mo_slack_27 rfl ?_
          obtain ⟨t5, H⟩ := H
          refine j_getI (f := 648) fe_Mo_146 rfl rfl t5 d_Mo_slack_28 ?_
          obtain ⟨Ha, Hb⟩ := H
          refine j_if_eq (tgt := 38) d_Mo_slack_31 (by decide) (fun c12 => ?_) (fun c13 => ?_)
          · have H := Ha c12
            refine j_iconst (v := 0) d_Mo_slack_38 (by decide) ?_
            refine j_callV (d' := 1) (ci := 10) (As := [.int ((0 : Int32))]) (rest := []) (b := a0) cv_Mo_149 me_Mo_isFine rfl (by decide) rfl rfl t5 rfl rfl (Nat.le_of_ble_eq_true rfl) d_Mo_slack_39 (by decide) rfl (j_enter (L := [some (.ref a0), some (.int ((0 : Int32)))]) me_Mo_isFine (cat_c rfl (cat_c rfl cat_n)) (Nat.le_of_ble_eq_true rfl) rfl ?_)
            refine j_aload_n d_Mo_isFine_0 rfl ?_
            refine j_iload_n d_Mo_isFine_1 rfl ?_
            refine j_putI (f := 640) fw_Mo_139 rfl rfl t5 d_Mo_isFine_2 ?_
            refine j_iload_n d_Mo_isFine_5 rfl ?_
            refine j_if_ne (tgt := 13) d_Mo_isFine_6 (by decide) (fun c => absurd c (by decide)) (fun _ => ?_)
            refine j_iconst (v := 1) d_Mo_isFine_9 (by decide) ?_
            refine j_goto (tgt := 14) d_Mo_isFine_10 (by decide) ?_
            refine j_zret rfl (by decide) d_Mo_isFine_14 ?_
            show J E 3 m_Mo_slack 42 [some (.ref a0), some (.int p1), some (.int p2), none] [.int ((1 : Int32))] (sI G 640 a0 ((0 : Int32))) Post
            refine j_if_ne (tgt := 47) d_Mo_slack_42 (by decide) (fun _ => ?_) (fun c => absurd c (by decide))
            refine j_aload_n d_Mo_slack_47 rfl ?_
            obtain ⟨b6, e7, H⟩ := H
            refine j_getR (f := 655) (b := b6) fe_Mo_48 rfl rfl t5 e7 d_Mo_slack_48 ?_
            refine j_iload_n d_Mo_slack_51 rfl ?_
            obtain ⟨t8, H⟩ := H
            obtain ⟨n10, x9, H⟩ := H
            refine j_iald (n := n10) t8 x9 d_Mo_slack_52 ?_
            refine j_istore_n (L' := [some (.ref a0), some (.int p1), some (.int p2), some (.int ((gA (sI G 640 a0 ((0 : Int32))) b6 n10)))]) d_Mo_slack_53 (by decide) rfl ?_
            refine j_aload_n d_Mo_slack_54 rfl ?_
            refine j_getR (f := 655) (b := b6) fe_Mo_48 rfl rfl t5 e7 d_Mo_slack_55 ?_
            refine j_iload_n d_Mo_slack_58 rfl ?_
            refine j_iload_n d_Mo_slack_59 rfl ?_
            obtain ⟨t11, H⟩ := H
            refine j_iast (n := n10) t11 x9 d_Mo_slack_60 ?_
            refine j_iload_n d_Mo_slack_61 rfl ?_
            exact j_iret rfl d_Mo_slack_62 H
          · have H := Hb c13
            refine j_iconst (v := 3) d_Mo_slack_34 (by decide) ?_
            refine j_goto (tgt := 39) d_Mo_slack_35 (by decide) ?_
            refine j_callV (d' := 1) (ci := 10) (As := [.int ((3 : Int32))]) (rest := []) (b := a0) cv_Mo_149 me_Mo_isFine rfl (by decide) rfl rfl t5 rfl rfl (Nat.le_of_ble_eq_true rfl) d_Mo_slack_39 (by decide) rfl (j_enter (L := [some (.ref a0), some (.int ((3 : Int32)))]) me_Mo_isFine (cat_c rfl (cat_c rfl cat_n)) (Nat.le_of_ble_eq_true rfl) rfl ?_)
            refine j_aload_n d_Mo_isFine_0 rfl ?_
            refine j_iload_n d_Mo_isFine_1 rfl ?_
            refine j_putI (f := 640) fw_Mo_139 rfl rfl t5 d_Mo_isFine_2 ?_
            refine j_iload_n d_Mo_isFine_5 rfl ?_
            refine j_if_ne (tgt := 13) d_Mo_isFine_6 (by decide) (fun _ => ?_) (fun c => absurd c (by decide))
            refine j_iconst (v := 0) d_Mo_isFine_13 (by decide) ?_
            refine j_zret rfl (by decide) d_Mo_isFine_14 ?_
            show J E 3 m_Mo_slack 42 [some (.ref a0), some (.int p1), some (.int p2), none] [.int ((0 : Int32))] (sI G 640 a0 ((3 : Int32))) Post
            refine j_if_ne (tgt := 47) d_Mo_slack_42 (by decide) (fun c => absurd c (by decide)) (fun _ => ?_)
            refine j_iconst (v := 0) d_Mo_slack_45 (by decide) ?_
            exact j_iret rfl d_Mo_slack_46 H
theorem wp_Mo_append_0 {E : EV} {G : GH} {Post : Res → GH → Prop} (a0 : Nat) (p1 : Int32) (p2 : Int32) (p3 : Int32) (p4 : Int32) (H : (p1 < (0 : Int32) → (p2 < (0 : Int32) → gT G a0 = 11 ∧ Post (.inl (some (.int ((0 : Int32))))) (sI G 640 a0 ((1 : Int32)))) ∧ (¬ p2 < (0 : Int32) → ((999 : Int32) < p2 → gT G a0 = 11 ∧ Post (.inl (some (.int ((0 : Int32))))) (sI G 640 a0 ((1 : Int32)))) ∧ (¬ (999 : Int32) < p2 → (p3 < (0 : Int32) → gT G a0 = 11 ∧ Post (.inl (some (.int ((0 : Int32))))) (sI G 640 a0 ((1 : Int32)))) ∧ (¬ p3 < (0 : Int32) → ((5 : Int32) < p3 → gT G a0 = 11 ∧ Post (.inl (some (.int ((0 : Int32))))) (sI G 640 a0 ((1 : Int32)))) ∧ (¬ (5 : Int32) < p3 → (p4 < (-1000 : Int32) → gT G a0 = 11 ∧ Post (.inl (some (.int ((0 : Int32))))) (sI G 640 a0 ((1 : Int32)))) ∧ (¬ p4 < (-1000 : Int32) → ((1000 : Int32) < p4 → gT G a0 = 11 ∧ Post (.inl (some (.int ((0 : Int32))))) (sI G 640 a0 ((1 : Int32)))) ∧ (¬ (1000 : Int32) < p4 → gT G a0 = 11 ∧ Post (.inl (some (.int ((0 : Int32))))) (sI G 640 a0 ((1 : Int32)))))))))) ∧ (¬ p1 < (0 : Int32) → ((2 : Int32) < p1 → (p2 < (0 : Int32) → gT G a0 = 11 ∧ Post (.inl (some (.int ((0 : Int32))))) (sI G 640 a0 ((1 : Int32)))) ∧ (¬ p2 < (0 : Int32) → ((999 : Int32) < p2 → gT G a0 = 11 ∧ Post (.inl (some (.int ((0 : Int32))))) (sI G 640 a0 ((1 : Int32)))) ∧ (¬ (999 : Int32) < p2 → (p3 < (0 : Int32) → gT G a0 = 11 ∧ Post (.inl (some (.int ((0 : Int32))))) (sI G 640 a0 ((1 : Int32)))) ∧ (¬ p3 < (0 : Int32) → ((5 : Int32) < p3 → gT G a0 = 11 ∧ Post (.inl (some (.int ((0 : Int32))))) (sI G 640 a0 ((1 : Int32)))) ∧ (¬ (5 : Int32) < p3 → (p4 < (-1000 : Int32) → gT G a0 = 11 ∧ Post (.inl (some (.int ((0 : Int32))))) (sI G 640 a0 ((1 : Int32)))) ∧ (¬ p4 < (-1000 : Int32) → ((1000 : Int32) < p4 → gT G a0 = 11 ∧ Post (.inl (some (.int ((0 : Int32))))) (sI G 640 a0 ((1 : Int32)))) ∧ (¬ (1000 : Int32) < p4 → gT G a0 = 11 ∧ Post (.inl (some (.int ((0 : Int32))))) (sI G 640 a0 ((1 : Int32)))))))))) ∧ (¬ (2 : Int32) < p1 → (p2 < (0 : Int32) → gT G a0 = 11 ∧ Post (.inl (some (.int ((0 : Int32))))) (sI G 640 a0 ((2 : Int32)))) ∧ (¬ p2 < (0 : Int32) → ((999 : Int32) < p2 → gT G a0 = 11 ∧ Post (.inl (some (.int ((0 : Int32))))) (sI G 640 a0 ((2 : Int32)))) ∧ (¬ (999 : Int32) < p2 → (p3 < (0 : Int32) → gT G a0 = 11 ∧ Post (.inl (some (.int ((0 : Int32))))) (sI G 640 a0 ((2 : Int32)))) ∧ (¬ p3 < (0 : Int32) → ((5 : Int32) < p3 → gT G a0 = 11 ∧ Post (.inl (some (.int ((0 : Int32))))) (sI G 640 a0 ((2 : Int32)))) ∧ (¬ (5 : Int32) < p3 → (p4 < (-1000 : Int32) → gT G a0 = 11 ∧ Post (.inl (some (.int ((0 : Int32))))) (sI G 640 a0 ((2 : Int32)))) ∧ (¬ p4 < (-1000 : Int32) → ((1000 : Int32) < p4 → gT G a0 = 11 ∧ Post (.inl (some (.int ((0 : Int32))))) (sI G 640 a0 ((2 : Int32)))) ∧ (¬ (1000 : Int32) < p4 → gT G a0 = 11 ∧ ∃ b46, gR G 652 a0 = some b46 ∧ (gT G b46 = 20 ∨ gT G b46 = 25) ∧ ∃ n50, IX p1 n50 (gN G b46) ∧ (¬ (gA G b46 n50) = (40 : Int32) → ∃ b51, gR G 649 a0 = some b51 ∧ gT G b51 = 20 ∧ ∃ n55, IX ((((40 : Int32) * p1) + (gA (sI G 640 a0 ((0 : Int32))) b46 n50))) n55 (gN G b51) ∧ ∃ b56, gR G 650 a0 = some b56 ∧ gT G b56 = 20 ∧ ∃ n60, IX ((((40 : Int32) * p1) + (gA (sI G 640 a0 ((0 : Int32))) b46 n50))) n60 (gN G b56) ∧ ∃ b61, gR G 651 a0 = some b61 ∧ gT G b61 = 20 ∧ ∃ n65, IX ((((40 : Int32) * p1) + (gA (sI G 640 a0 ((0 : Int32))) b46 n50))) n65 (gN G b61) ∧ gT G b46 = 20 ∧ ∀ G67, G67 = sA (sA (sA (sA (sI G 640 a0 ((0 : Int32))) b51 n55 p2) b56 n60 p3) b61 n65 p4) b46 n50 (((gA (sA (sA (sA (sI G 640 a0 ((0 : Int32))) b51 n55 p2) b56 n60 p3) b61 n65 p4) b46 n50) + (1 : Int32))) → Post (.inl (some (.int (((gA G67 b46 n50) - (1 : Int32)))))) G67) ∧ ((gA G b46 n50) = (40 : Int32) → Post (.inl (some (.int ((0 : Int32))))) (sI G 640 a0 ((3 : Int32))))))))))))) : J E 3 m_Mo_append 0 [some (.ref a0), some (.int p1), some (.int p2), some (.int p3), some (.int p4), none, none, none] [] G Post := by
  refine j_iload_n d_Mo_append_0 rfl ?_
  refine j_callS (d' := 2) (As := [.int p1]) (rest := []) cs_Mo_156 me_Mo_isSource rfl (by decide) rfl rfl (Nat.le_of_ble_eq_true rfl) d_Mo_append_1 (by decide) rfl (j_enter (L := [some (.int p1)]) me_Mo_isSource (cat_c rfl cat_n) (Nat.le_of_ble_eq_true rfl) rfl ?_)
  refine j_iload_n d_Mo_isSource_0 rfl ?_
  refine j_iconst (v := 0) d_Mo_isSource_1 (by decide) ?_
  refine j_iconst (v := 2) d_Mo_isSource_2 (by decide) ?_
  refine j_callS (d' := 1) (As := [.int p1, .int ((0 : Int32)), .int ((2 : Int32))]) (rest := []) cs_Mo_142 me_Mo_isIn rfl (by decide) rfl rfl (Nat.le_of_ble_eq_true rfl) d_Mo_isSource_3 (by decide) rfl (j_enter (L := [some (.int p1), some (.int ((0 : Int32))), some (.int ((2 : Int32)))]) me_Mo_isIn (cat_c rfl (cat_c rfl (cat_c rfl cat_n))) (Nat.le_of_ble_eq_true rfl) rfl ?_)
  refine j_iload_n d_Mo_isIn_0 rfl ?_
  refine j_iload_n d_Mo_isIn_1 rfl ?_
  obtain ⟨Ha, Hb⟩ := H
  refine j_icmp_lt (tgt := 14) d_Mo_isIn_2 (by decide) (fun c85 => ?_) (fun c86 => ?_)
  · have H := Ha c85
    refine j_iconst (v := 0) d_Mo_isIn_14 (by decide) ?_
    refine j_zret rfl (by decide) d_Mo_isIn_15 ?_
    show J E 2 m_Mo_isSource 6 [some (.int p1)] [.int ((0 : Int32))] G (aft E 3 m_Mo_append 1 [some (.ref a0), some (.int p1), some (.int p2), some (.int p3), some (.int p4), none, none, none] [] Post)
    refine j_zret rfl (by decide) d_Mo_isSource_6 ?_
    show J E 3 m_Mo_append 4 [some (.ref a0), some (.int p1), some (.int p2), some (.int p3), some (.int p4), none, none, none] [.int ((0 : Int32))] G Post
    refine j_istore (L' := [some (.ref a0), some (.int p1), some (.int p2), some (.int p3), some (.int p4), some (.int ((0 : Int32))), none, none]) d_Mo_append_4 (by decide) rfl ?_
    refine j_iload_n d_Mo_append_6 rfl ?_
    refine j_iconst (v := 0) d_Mo_append_7 (by decide) ?_
    refine j_sipush (v := 999) d_Mo_append_8 (by decide) ?_
    refine j_callS (d' := 1) (As := [.int p2, .int ((0 : Int32)), .int ((999 : Int32))]) (rest := []) cs_Mo_142 me_Mo_isIn rfl (by decide) rfl rfl (Nat.le_of_ble_eq_true rfl) d_Mo_append_11 (by decide) rfl (j_enter (L := [some (.int p2), some (.int ((0 : Int32))), some (.int ((999 : Int32)))]) me_Mo_isIn (cat_c rfl (cat_c rfl (cat_c rfl cat_n))) (Nat.le_of_ble_eq_true rfl) rfl ?_)
    refine j_iload_n d_Mo_isIn_0 rfl ?_
    refine j_iload_n d_Mo_isIn_1 rfl ?_
    obtain ⟨Ha, Hb⟩ := H
    refine j_icmp_lt (tgt := 14) d_Mo_isIn_2 (by decide) (fun c18 => ?_) (fun c19 => ?_)
    · have H := Ha c18
      refine j_iconst (v := 0) d_Mo_isIn_14 (by decide) ?_
      refine j_zret rfl (by decide) d_Mo_isIn_15 ?_
      show J E 3 m_Mo_append 14 [some (.ref a0), some (.int p1), some (.int p2), some (.int p3), some (.int p4), some (.int ((0 : Int32))), none, none] [.int ((0 : Int32))] G Post
      refine j_if_eq (tgt := 42) d_Mo_append_14 (by decide) (fun _ => ?_) (fun c => absurd c (by decide))
      refine j_iconst (v := 0) d_Mo_append_42 (by decide) ?_
      refine j_istore (L' := [some (.ref a0), some (.int p1), some (.int p2), some (.int p3), some (.int p4), some (.int ((0 : Int32))), some (.int ((0 : Int32))), none]) d_Mo_append_43 (by decide) rfl ?_
      refine j_aload_n d_Mo_append_45 rfl ?_
      refine j_iload d_Mo_append_46 rfl ?_
      refine j_if_ne (tgt := 55) d_Mo_append_48 (by decide) (fun c => absurd c (by decide)) (fun _ => ?_)
      refine j_iconst (v := 1) d_Mo_append_51 (by decide) ?_
      refine j_goto (tgt := 80) d_Mo_append_52 (by decide) ?_
      obtain ⟨t1, H⟩ := H
      refine j_callV (d' := 1) (ci := 10) (As := [.int ((1 : Int32))]) (rest := []) (b := a0) cv_Mo_149 me_Mo_isFine rfl (by decide) rfl rfl t1 rfl rfl (Nat.le_of_ble_eq_true rfl) d_Mo_append_80 (by decide) rfl (j_enter (L := [some (.ref a0), some (.int ((1 : Int32)))]) me_Mo_isFine (cat_c rfl (cat_c rfl cat_n)) (Nat.le_of_ble_eq_true rfl) rfl ?_)
      refine j_aload_n d_Mo_isFine_0 rfl ?_
      refine j_iload_n d_Mo_isFine_1 rfl ?_
      refine j_putI (f := 640) fw_Mo_139 rfl rfl t1 d_Mo_isFine_2 ?_
      refine j_iload_n d_Mo_isFine_5 rfl ?_
      refine j_if_ne (tgt := 13) d_Mo_isFine_6 (by decide) (fun _ => ?_) (fun c => absurd c (by decide))
      refine j_iconst (v := 0) d_Mo_isFine_13 (by decide) ?_
      refine j_zret rfl (by decide) d_Mo_isFine_14 ?_
      show J E 3 m_Mo_append 83 [some (.ref a0), some (.int p1), some (.int p2), some (.int p3), some (.int p4), some (.int ((0 : Int32))), some (.int ((0 : Int32))), none] [.int ((0 : Int32))] (sI G 640 a0 ((1 : Int32))) Post
      refine j_if_ne (tgt := 88) d_Mo_append_83 (by decide) (fun c => absurd c (by decide)) (fun _ => ?_)
      refine j_iconst (v := 0) d_Mo_append_86 (by decide) ?_
      exact j_iret rfl d_Mo_append_87 H
    · have H := Hb c19
      refine j_iload_n d_Mo_isIn_5 rfl ?_
      refine j_iload_n d_Mo_isIn_6 rfl ?_
      obtain ⟨Ha, Hb⟩ := H
      refine j_icmp_gt (tgt := 14) d_Mo_isIn_7 (by decide) (fun c16 => ?_) (fun c17 => ?_)
      · have H := Ha c16
        refine j_iconst (v := 0) d_Mo_isIn_14 (by decide) ?_
        refine j_zret rfl (by decide) d_Mo_isIn_15 ?_
        show J E 3 m_Mo_append 14 [some (.ref a0), some (.int p1), some (.int p2), some (.int p3), some (.int p4), some (.int ((0 : Int32))), none, none] [.int ((0 : Int32))] G Post
        refine j_if_eq (tgt := 42) d_Mo_append_14 (by decide) (fun _ => ?_) (fun c => absurd c (by decide))
        refine j_iconst (v := 0) d_Mo_append_42 (by decide) ?_
        refine j_istore (L' := [some (.ref a0), some (.int p1), some (.int p2), some (.int p3), some (.int p4), some (.int ((0 : Int32))), some (.int ((0 : Int32))), none]) d_Mo_append_43 (by decide) rfl ?_
        refine j_aload_n d_Mo_append_45 rfl ?_
        refine j_iload d_Mo_append_46 rfl ?_
        refine j_if_ne (tgt := 55) d_Mo_append_48 (by decide) (fun c => absurd c (by decide)) (fun _ => ?_)
        refine j_iconst (v := 1) d_Mo_append_51 (by decide) ?_
        refine j_goto (tgt := 80) d_Mo_append_52 (by decide) ?_
        obtain ⟨t2, H⟩ := H
        refine j_callV (d' := 1) (ci := 10) (As := [.int ((1 : Int32))]) (rest := []) (b := a0) cv_Mo_149 me_Mo_isFine rfl (by decide) rfl rfl t2 rfl rfl (Nat.le_of_ble_eq_true rfl) d_Mo_append_80 (by decide) rfl (j_enter (L := [some (.ref a0), some (.int ((1 : Int32)))]) me_Mo_isFine (cat_c rfl (cat_c rfl cat_n)) (Nat.le_of_ble_eq_true rfl) rfl ?_)
        refine j_aload_n d_Mo_isFine_0 rfl ?_
        refine j_iload_n d_Mo_isFine_1 rfl ?_
        refine j_putI (f := 640) fw_Mo_139 rfl rfl t2 d_Mo_isFine_2 ?_
        refine j_iload_n d_Mo_isFine_5 rfl ?_
        refine j_if_ne (tgt := 13) d_Mo_isFine_6 (by decide) (fun _ => ?_) (fun c => absurd c (by decide))
        refine j_iconst (v := 0) d_Mo_isFine_13 (by decide) ?_
        refine j_zret rfl (by decide) d_Mo_isFine_14 ?_
        show J E 3 m_Mo_append 83 [some (.ref a0), some (.int p1), some (.int p2), some (.int p3), some (.int p4), some (.int ((0 : Int32))), some (.int ((0 : Int32))), none] [.int ((0 : Int32))] (sI G 640 a0 ((1 : Int32))) Post
        refine j_if_ne (tgt := 88) d_Mo_append_83 (by decide) (fun c => absurd c (by decide)) (fun _ => ?_)
        refine j_iconst (v := 0) d_Mo_append_86 (by decide) ?_
        exact j_iret rfl d_Mo_append_87 H
      · have H := Hb c17
        refine j_iconst (v := 1) d_Mo_isIn_10 (by decide) ?_
        refine j_goto (tgt := 15) d_Mo_isIn_11 (by decide) ?_
        refine j_zret rfl (by decide) d_Mo_isIn_15 ?_
        show J E 3 m_Mo_append 14 [some (.ref a0), some (.int p1), some (.int p2), some (.int p3), some (.int p4), some (.int ((0 : Int32))), none, none] [.int ((1 : Int32))] G Post
        refine j_if_eq (tgt := 42) d_Mo_append_14 (by decide) (fun c => absurd c (by decide)) (fun _ => ?_)
        refine j_iload_n d_Mo_append_17 rfl ?_
        refine j_callS (d' := 2) (As := [.int p3]) (rest := []) cs_Mo_159 me_Mo_isKey rfl (by decide) rfl rfl (Nat.le_of_ble_eq_true rfl) d_Mo_append_18 (by decide) rfl (j_enter (L := [some (.int p3)]) me_Mo_isKey (cat_c rfl cat_n) (Nat.le_of_ble_eq_true rfl) rfl ?_)
        refine j_iload_n d_Mo_isKey_0 rfl ?_
        refine j_iconst (v := 0) d_Mo_isKey_1 (by decide) ?_
        refine j_iconst (v := 5) d_Mo_isKey_2 (by decide) ?_
        refine j_callS (d' := 1) (As := [.int p3, .int ((0 : Int32)), .int ((5 : Int32))]) (rest := []) cs_Mo_142 me_Mo_isIn rfl (by decide) rfl rfl (Nat.le_of_ble_eq_true rfl) d_Mo_isKey_3 (by decide) rfl (j_enter (L := [some (.int p3), some (.int ((0 : Int32))), some (.int ((5 : Int32)))]) me_Mo_isIn (cat_c rfl (cat_c rfl (cat_c rfl cat_n))) (Nat.le_of_ble_eq_true rfl) rfl ?_)
        refine j_iload_n d_Mo_isIn_0 rfl ?_
        refine j_iload_n d_Mo_isIn_1 rfl ?_
        obtain ⟨Ha, Hb⟩ := H
        refine j_icmp_lt (tgt := 14) d_Mo_isIn_2 (by decide) (fun c14 => ?_) (fun c15 => ?_)
        · have H := Ha c14
          refine j_iconst (v := 0) d_Mo_isIn_14 (by decide) ?_
          refine j_zret rfl (by decide) d_Mo_isIn_15 ?_
          show J E 2 m_Mo_isKey 6 [some (.int p3)] [.int ((0 : Int32))] G (aft E 3 m_Mo_append 18 [some (.ref a0), some (.int p1), some (.int p2), some (.int p3), some (.int p4), some (.int ((0 : Int32))), none, none] [] Post)
          refine j_zret rfl (by decide) d_Mo_isKey_6 ?_
          show J E 3 m_Mo_append 21 [some (.ref a0), some (.int p1), some (.int p2), some (.int p3), some (.int p4), some (.int ((0 : Int32))), none, none] [.int ((0 : Int32))] G Post
          refine j_if_eq (tgt := 42) d_Mo_append_21 (by decide) (fun _ => ?_) (fun c => absurd c (by decide))
          refine j_iconst (v := 0) d_Mo_append_42 (by decide) ?_
          refine j_istore (L' := [some (.ref a0), some (.int p1), some (.int p2), some (.int p3), some (.int p4), some (.int ((0 : Int32))), some (.int ((0 : Int32))), none]) d_Mo_append_43 (by decide) rfl ?_
          refine j_aload_n d_Mo_append_45 rfl ?_
          refine j_iload d_Mo_append_46 rfl ?_
          refine j_if_ne (tgt := 55) d_Mo_append_48 (by decide) (fun c => absurd c (by decide)) (fun _ => ?_)
          refine j_iconst (v := 1) d_Mo_append_51 (by decide) ?_
          refine j_goto (tgt := 80) d_Mo_append_52 (by decide) ?_
          obtain ⟨t3, H⟩ := H
          refine j_callV (d' := 1) (ci := 10) (As := [.int ((1 : Int32))]) (rest := []) (b := a0) cv_Mo_149 me_Mo_isFine rfl (by decide) rfl rfl t3 rfl rfl (Nat.le_of_ble_eq_true rfl) d_Mo_append_80 (by decide) rfl (j_enter (L := [some (.ref a0), some (.int ((1 : Int32)))]) me_Mo_isFine (cat_c rfl (cat_c rfl cat_n)) (Nat.le_of_ble_eq_true rfl) rfl ?_)
          refine j_aload_n d_Mo_isFine_0 rfl ?_
          refine j_iload_n d_Mo_isFine_1 rfl ?_
          refine j_putI (f := 640) fw_Mo_139 rfl rfl t3 d_Mo_isFine_2 ?_
          refine j_iload_n d_Mo_isFine_5 rfl ?_
          refine j_if_ne (tgt := 13) d_Mo_isFine_6 (by decide) (fun _ => ?_) (fun c => absurd c (by decide))
          refine j_iconst (v := 0) d_Mo_isFine_13 (by decide) ?_
          refine j_zret rfl (by decide) d_Mo_isFine_14 ?_
          show J E 3 m_Mo_append 83 [some (.ref a0), some (.int p1), some (.int p2), some (.int p3), some (.int p4), some (.int ((0 : Int32))), some (.int ((0 : Int32))), none] [.int ((0 : Int32))] (sI G 640 a0 ((1 : Int32))) Post
          refine j_if_ne (tgt := 88) d_Mo_append_83 (by decide) (fun c => absurd c (by decide)) (fun _ => ?_)
          refine j_iconst (v := 0) d_Mo_append_86 (by decide) ?_
          exact j_iret rfl d_Mo_append_87 H
        · have H := Hb c15
          refine j_iload_n d_Mo_isIn_5 rfl ?_
          refine j_iload_n d_Mo_isIn_6 rfl ?_
          obtain ⟨Ha, Hb⟩ := H
          refine j_icmp_gt (tgt := 14) d_Mo_isIn_7 (by decide) (fun c12 => ?_) (fun c13 => ?_)
          · have H := Ha c12
            refine j_iconst (v := 0) d_Mo_isIn_14 (by decide) ?_
            refine j_zret rfl (by decide) d_Mo_isIn_15 ?_
            show J E 2 m_Mo_isKey 6 [some (.int p3)] [.int ((0 : Int32))] G (aft E 3 m_Mo_append 18 [some (.ref a0), some (.int p1), some (.int p2), some (.int p3), some (.int p4), some (.int ((0 : Int32))), none, none] [] Post)
            refine j_zret rfl (by decide) d_Mo_isKey_6 ?_
            show J E 3 m_Mo_append 21 [some (.ref a0), some (.int p1), some (.int p2), some (.int p3), some (.int p4), some (.int ((0 : Int32))), none, none] [.int ((0 : Int32))] G Post
            refine j_if_eq (tgt := 42) d_Mo_append_21 (by decide) (fun _ => ?_) (fun c => absurd c (by decide))
            refine j_iconst (v := 0) d_Mo_append_42 (by decide) ?_
            refine j_istore (L' := [some (.ref a0), some (.int p1), some (.int p2), some (.int p3), some (.int p4), some (.int ((0 : Int32))), some (.int ((0 : Int32))), none]) d_Mo_append_43 (by decide) rfl ?_
            refine j_aload_n d_Mo_append_45 rfl ?_
            refine j_iload d_Mo_append_46 rfl ?_
            refine j_if_ne (tgt := 55) d_Mo_append_48 (by decide) (fun c => absurd c (by decide)) (fun _ => ?_)
            refine j_iconst (v := 1) d_Mo_append_51 (by decide) ?_
            refine j_goto (tgt := 80) d_Mo_append_52 (by decide) ?_
            obtain ⟨t4, H⟩ := H
            refine j_callV (d' := 1) (ci := 10) (As := [.int ((1 : Int32))]) (rest := []) (b := a0) cv_Mo_149 me_Mo_isFine rfl (by decide) rfl rfl t4 rfl rfl (Nat.le_of_ble_eq_true rfl) d_Mo_append_80 (by decide) rfl (j_enter (L := [some (.ref a0), some (.int ((1 : Int32)))]) me_Mo_isFine (cat_c rfl (cat_c rfl cat_n)) (Nat.le_of_ble_eq_true rfl) rfl ?_)
            refine j_aload_n d_Mo_isFine_0 rfl ?_
            refine j_iload_n d_Mo_isFine_1 rfl ?_
            refine j_putI (f := 640) fw_Mo_139 rfl rfl t4 d_Mo_isFine_2 ?_
            refine j_iload_n d_Mo_isFine_5 rfl ?_
            refine j_if_ne (tgt := 13) d_Mo_isFine_6 (by decide) (fun _ => ?_) (fun c => absurd c (by decide))
            refine j_iconst (v := 0) d_Mo_isFine_13 (by decide) ?_
            refine j_zret rfl (by decide) d_Mo_isFine_14 ?_
            show J E 3 m_Mo_append 83 [some (.ref a0), some (.int p1), some (.int p2), some (.int p3), some (.int p4), some (.int ((0 : Int32))), some (.int ((0 : Int32))), none] [.int ((0 : Int32))] (sI G 640 a0 ((1 : Int32))) Post
            refine j_if_ne (tgt := 88) d_Mo_append_83 (by decide) (fun c => absurd c (by decide)) (fun _ => ?_)
            refine j_iconst (v := 0) d_Mo_append_86 (by decide) ?_
            exact j_iret rfl d_Mo_append_87 H
          · have H := Hb c13
            refine j_iconst (v := 1) d_Mo_isIn_10 (by decide) ?_
            refine j_goto (tgt := 15) d_Mo_isIn_11 (by decide) ?_
            refine j_zret rfl (by decide) d_Mo_isIn_15 ?_
            show J E 2 m_Mo_isKey 6 [some (.int p3)] [.int ((1 : Int32))] G (aft E 3 m_Mo_append 18 [some (.ref a0), some (.int p1), some (.int p2), some (.int p3), some (.int p4), some (.int ((0 : Int32))), none, none] [] Post)
            refine j_zret rfl (by decide) d_Mo_isKey_6 ?_
            show J E 3 m_Mo_append 21 [some (.ref a0), some (.int p1), some (.int p2), some (.int p3), some (.int p4), some (.int ((0 : Int32))), none, none] [.int ((1 : Int32))] G Post
            refine j_if_eq (tgt := 42) d_Mo_append_21 (by decide) (fun c => absurd c (by decide)) (fun _ => ?_)
            refine j_iload d_Mo_append_24 rfl ?_
            refine j_sipush (v := -1000) d_Mo_append_26 (by decide) ?_
            refine j_sipush (v := 1000) d_Mo_append_29 (by decide) ?_
            refine j_callS (d' := 1) (As := [.int p4, .int ((-1000 : Int32)), .int ((1000 : Int32))]) (rest := []) cs_Mo_142 me_Mo_isIn rfl (by decide) rfl rfl (Nat.le_of_ble_eq_true rfl) d_Mo_append_32 (by decide) rfl (j_enter (L := [some (.int p4), some (.int ((-1000 : Int32))), some (.int ((1000 : Int32)))]) me_Mo_isIn (cat_c rfl (cat_c rfl (cat_c rfl cat_n))) (Nat.le_of_ble_eq_true rfl) rfl ?_)
            refine j_iload_n d_Mo_isIn_0 rfl ?_
            refine j_iload_n d_Mo_isIn_1 rfl ?_
            obtain ⟨Ha, Hb⟩ := H
            refine j_icmp_lt (tgt := 14) d_Mo_isIn_2 (by decide) (fun c10 => ?_) (fun c11 => ?_)
            · have H := Ha c10
              refine j_iconst (v := 0) d_Mo_isIn_14 (by decide) ?_
              refine j_zret rfl (by decide) d_Mo_isIn_15 ?_
              show J E 3 m_Mo_append 35 [some (.ref a0), some (.int p1), some (.int p2), some (.int p3), some (.int p4), some (.int ((0 : Int32))), none, none] [.int ((0 : Int32))] G Post
              refine j_if_eq (tgt := 42) d_Mo_append_35 (by decide) (fun _ => ?_) (fun c => absurd c (by decide))
              refine j_iconst (v := 0) d_Mo_append_42 (by decide) ?_
              refine j_istore (L' := [some (.ref a0), some (.int p1), some (.int p2), some (.int p3), some (.int p4), some (.int ((0 : Int32))), some (.int ((0 : Int32))), none]) d_Mo_append_43 (by decide) rfl ?_
              refine j_aload_n d_Mo_append_45 rfl ?_
              refine j_iload d_Mo_append_46 rfl ?_
              refine j_if_ne (tgt := 55) d_Mo_append_48 (by decide) (fun c => absurd c (by decide)) (fun _ => ?_)
              refine j_iconst (v := 1) d_Mo_append_51 (by decide) ?_
              refine j_goto (tgt := 80) d_Mo_append_52 (by decide) ?_
              obtain ⟨t5, H⟩ := H
              refine j_callV (d' := 1) (ci := 10) (As := [.int ((1 : Int32))]) (rest := []) (b := a0) cv_Mo_149 me_Mo_isFine rfl (by decide) rfl rfl t5 rfl rfl (Nat.le_of_ble_eq_true rfl) d_Mo_append_80 (by decide) rfl (j_enter (L := [some (.ref a0), some (.int ((1 : Int32)))]) me_Mo_isFine (cat_c rfl (cat_c rfl cat_n)) (Nat.le_of_ble_eq_true rfl) rfl ?_)
              refine j_aload_n d_Mo_isFine_0 rfl ?_
              refine j_iload_n d_Mo_isFine_1 rfl ?_
              refine j_putI (f := 640) fw_Mo_139 rfl rfl t5 d_Mo_isFine_2 ?_
              refine j_iload_n d_Mo_isFine_5 rfl ?_
              refine j_if_ne (tgt := 13) d_Mo_isFine_6 (by decide) (fun _ => ?_) (fun c => absurd c (by decide))
              refine j_iconst (v := 0) d_Mo_isFine_13 (by decide) ?_
              refine j_zret rfl (by decide) d_Mo_isFine_14 ?_
              show J E 3 m_Mo_append 83 [some (.ref a0), some (.int p1), some (.int p2), some (.int p3), some (.int p4), some (.int ((0 : Int32))), some (.int ((0 : Int32))), none] [.int ((0 : Int32))] (sI G 640 a0 ((1 : Int32))) Post
              refine j_if_ne (tgt := 88) d_Mo_append_83 (by decide) (fun c => absurd c (by decide)) (fun _ => ?_)
              refine j_iconst (v := 0) d_Mo_append_86 (by decide) ?_
              exact j_iret rfl d_Mo_append_87 H
            · have H := Hb c11
              refine j_iload_n d_Mo_isIn_5 rfl ?_
              refine j_iload_n d_Mo_isIn_6 rfl ?_
              obtain ⟨Ha, Hb⟩ := H
              refine j_icmp_gt (tgt := 14) d_Mo_isIn_7 (by decide) (fun c8 => ?_) (fun c9 => ?_)
              · have H := Ha c8
                refine j_iconst (v := 0) d_Mo_isIn_14 (by decide) ?_
                refine j_zret rfl (by decide) d_Mo_isIn_15 ?_
                show J E 3 m_Mo_append 35 [some (.ref a0), some (.int p1), some (.int p2), some (.int p3), some (.int p4), some (.int ((0 : Int32))), none, none] [.int ((0 : Int32))] G Post
                refine j_if_eq (tgt := 42) d_Mo_append_35 (by decide) (fun _ => ?_) (fun c => absurd c (by decide))
                refine j_iconst (v := 0) d_Mo_append_42 (by decide) ?_
                refine j_istore (L' := [some (.ref a0), some (.int p1), some (.int p2), some (.int p3), some (.int p4), some (.int ((0 : Int32))), some (.int ((0 : Int32))), none]) d_Mo_append_43 (by decide) rfl ?_
                refine j_aload_n d_Mo_append_45 rfl ?_
                refine j_iload d_Mo_append_46 rfl ?_
                refine j_if_ne (tgt := 55) d_Mo_append_48 (by decide) (fun c => absurd c (by decide)) (fun _ => ?_)
                refine j_iconst (v := 1) d_Mo_append_51 (by decide) ?_
                refine j_goto (tgt := 80) d_Mo_append_52 (by decide) ?_
                obtain ⟨t6, H⟩ := H
                refine j_callV (d' := 1) (ci := 10) (As := [.int ((1 : Int32))]) (rest := []) (b := a0) cv_Mo_149 me_Mo_isFine rfl (by decide) rfl rfl t6 rfl rfl (Nat.le_of_ble_eq_true rfl) d_Mo_append_80 (by decide) rfl (j_enter (L := [some (.ref a0), some (.int ((1 : Int32)))]) me_Mo_isFine (cat_c rfl (cat_c rfl cat_n)) (Nat.le_of_ble_eq_true rfl) rfl ?_)
                refine j_aload_n d_Mo_isFine_0 rfl ?_
                refine j_iload_n d_Mo_isFine_1 rfl ?_
                refine j_putI (f := 640) fw_Mo_139 rfl rfl t6 d_Mo_isFine_2 ?_
                refine j_iload_n d_Mo_isFine_5 rfl ?_
                refine j_if_ne (tgt := 13) d_Mo_isFine_6 (by decide) (fun _ => ?_) (fun c => absurd c (by decide))
                refine j_iconst (v := 0) d_Mo_isFine_13 (by decide) ?_
                refine j_zret rfl (by decide) d_Mo_isFine_14 ?_
                show J E 3 m_Mo_append 83 [some (.ref a0), some (.int p1), some (.int p2), some (.int p3), some (.int p4), some (.int ((0 : Int32))), some (.int ((0 : Int32))), none] [.int ((0 : Int32))] (sI G 640 a0 ((1 : Int32))) Post
                refine j_if_ne (tgt := 88) d_Mo_append_83 (by decide) (fun c => absurd c (by decide)) (fun _ => ?_)
                refine j_iconst (v := 0) d_Mo_append_86 (by decide) ?_
                exact j_iret rfl d_Mo_append_87 H
              · have H := Hb c9
                refine j_iconst (v := 1) d_Mo_isIn_10 (by decide) ?_
                refine j_goto (tgt := 15) d_Mo_isIn_11 (by decide) ?_
                refine j_zret rfl (by decide) d_Mo_isIn_15 ?_
                show J E 3 m_Mo_append 35 [some (.ref a0), some (.int p1), some (.int p2), some (.int p3), some (.int p4), some (.int ((0 : Int32))), none, none] [.int ((1 : Int32))] G Post
                refine j_if_eq (tgt := 42) d_Mo_append_35 (by decide) (fun c => absurd c (by decide)) (fun _ => ?_)
                refine j_iconst (v := 1) d_Mo_append_38 (by decide) ?_
                refine j_goto (tgt := 43) d_Mo_append_39 (by decide) ?_
                refine j_istore (L' := [some (.ref a0), some (.int p1), some (.int p2), some (.int p3), some (.int p4), some (.int ((0 : Int32))), some (.int ((1 : Int32))), none]) d_Mo_append_43 (by decide) rfl ?_
                refine j_aload_n d_Mo_append_45 rfl ?_
                refine j_iload d_Mo_append_46 rfl ?_
                refine j_if_ne (tgt := 55) d_Mo_append_48 (by decide) (fun c => absurd c (by decide)) (fun _ => ?_)
                refine j_iconst (v := 1) d_Mo_append_51 (by decide) ?_
                refine j_goto (tgt := 80) d_Mo_append_52 (by decide) ?_
                obtain ⟨t7, H⟩ := H
                refine j_callV (d' := 1) (ci := 10) (As := [.int ((1 : Int32))]) (rest := []) (b := a0) cv_Mo_149 me_Mo_isFine rfl (by decide) rfl rfl t7 rfl rfl (Nat.le_of_ble_eq_true rfl) d_Mo_append_80 (by decide) rfl (j_enter (L := [some (.ref a0), some (.int ((1 : Int32)))]) me_Mo_isFine (cat_c rfl (cat_c rfl cat_n)) (Nat.le_of_ble_eq_true rfl) rfl ?_)
                refine j_aload_n d_Mo_isFine_0 rfl ?_
                refine j_iload_n d_Mo_isFine_1 rfl ?_
                refine j_putI (f := 640) fw_Mo_139 rfl rfl t7 d_Mo_isFine_2 ?_
                refine j_iload_n d_Mo_isFine_5 rfl ?_
                refine j_if_ne (tgt := 13) d_Mo_isFine_6 (by decide) (fun _ => ?_) (fun c => absurd c (by decide))
                refine j_iconst (v := 0) d_Mo_isFine_13 (by decide) ?_
                refine j_zret rfl (by decide) d_Mo_isFine_14 ?_
                show J E 3 m_Mo_append 83 [some (.ref a0), some (.int p1), some (.int p2), some (.int p3), some (.int p4), some (.int ((0 : Int32))), some (.int ((1 : Int32))), none] [.int ((0 : Int32))] (sI G 640 a0 ((1 : Int32))) Post
                refine j_if_ne (tgt := 88) d_Mo_append_83 (by decide) (fun c => absurd c (by decide)) (fun _ => ?_)
                refine j_iconst (v := 0) d_Mo_append_86 (by decide) ?_
                exact j_iret rfl d_Mo_append_87 H
  · have H := Hb c86
    refine j_iload_n d_Mo_isIn_5 rfl ?_
    refine j_iload_n d_Mo_isIn_6 rfl ?_
    obtain ⟨Ha, Hb⟩ := H
    refine j_icmp_gt (tgt := 14) d_Mo_isIn_7 (by decide) (fun c83 => ?_) (fun c84 => ?_)
    · have H := Ha c83
      refine j_iconst (v := 0) d_Mo_isIn_14 (by decide) ?_
      refine j_zret rfl (by decide) d_Mo_isIn_15 ?_
      show J E 2 m_Mo_isSource 6 [some (.int p1)] [.int ((0 : Int32))] G (aft E 3 m_Mo_append 1 [some (.ref a0), some (.int p1), some (.int p2), some (.int p3), some (.int p4), none, none, none] [] Post)
      refine j_zret rfl (by decide) d_Mo_isSource_6 ?_
      show J E 3 m_Mo_append 4 [some (.ref a0), some (.int p1), some (.int p2), some (.int p3), some (.int p4), none, none, none] [.int ((0 : Int32))] G Post
      refine j_istore (L' := [some (.ref a0), some (.int p1), some (.int p2), some (.int p3), some (.int p4), some (.int ((0 : Int32))), none, none]) d_Mo_append_4 (by decide) rfl ?_
      refine j_iload_n d_Mo_append_6 rfl ?_
      refine j_iconst (v := 0) d_Mo_append_7 (by decide) ?_
      refine j_sipush (v := 999) d_Mo_append_8 (by decide) ?_
      refine j_callS (d' := 1) (As := [.int p2, .int ((0 : Int32)), .int ((999 : Int32))]) (rest := []) cs_Mo_142 me_Mo_isIn rfl (by decide) rfl rfl (Nat.le_of_ble_eq_true rfl) d_Mo_append_11 (by decide) rfl (j_enter (L := [some (.int p2), some (.int ((0 : Int32))), some (.int ((999 : Int32)))]) me_Mo_isIn (cat_c rfl (cat_c rfl (cat_c rfl cat_n))) (Nat.le_of_ble_eq_true rfl) rfl ?_)
      refine j_iload_n d_Mo_isIn_0 rfl ?_
      refine j_iload_n d_Mo_isIn_1 rfl ?_
      obtain ⟨Ha, Hb⟩ := H
      refine j_icmp_lt (tgt := 14) d_Mo_isIn_2 (by decide) (fun c37 => ?_) (fun c38 => ?_)
      · have H := Ha c37
        refine j_iconst (v := 0) d_Mo_isIn_14 (by decide) ?_
        refine j_zret rfl (by decide) d_Mo_isIn_15 ?_
        show J E 3 m_Mo_append 14 [some (.ref a0), some (.int p1), some (.int p2), some (.int p3), some (.int p4), some (.int ((0 : Int32))), none, none] [.int ((0 : Int32))] G Post
        refine j_if_eq (tgt := 42) d_Mo_append_14 (by decide) (fun _ => ?_) (fun c => absurd c (by decide))
        refine j_iconst (v := 0) d_Mo_append_42 (by decide) ?_
        refine j_istore (L' := [some (.ref a0), some (.int p1), some (.int p2), some (.int p3), some (.int p4), some (.int ((0 : Int32))), some (.int ((0 : Int32))), none]) d_Mo_append_43 (by decide) rfl ?_
        refine j_aload_n d_Mo_append_45 rfl ?_
        refine j_iload d_Mo_append_46 rfl ?_
        refine j_if_ne (tgt := 55) d_Mo_append_48 (by decide) (fun c => absurd c (by decide)) (fun _ => ?_)
        refine j_iconst (v := 1) d_Mo_append_51 (by decide) ?_
        refine j_goto (tgt := 80) d_Mo_append_52 (by decide) ?_
        obtain ⟨t20, H⟩ := H
        refine j_callV (d' := 1) (ci := 10) (As := [.int ((1 : Int32))]) (rest := []) (b := a0) cv_Mo_149 me_Mo_isFine rfl (by decide) rfl rfl t20 rfl rfl (Nat.le_of_ble_eq_true rfl) d_Mo_append_80 (by decide) rfl (j_enter (L := [some (.ref a0), some (.int ((1 : Int32)))]) me_Mo_isFine (cat_c rfl (cat_c rfl cat_n)) (Nat.le_of_ble_eq_true rfl) rfl ?_)
        refine j_aload_n d_Mo_isFine_0 rfl ?_
        refine j_iload_n d_Mo_isFine_1 rfl ?_
        refine j_putI (f := 640) fw_Mo_139 rfl rfl t20 d_Mo_isFine_2 ?_
        refine j_iload_n d_Mo_isFine_5 rfl ?_
        refine j_if_ne (tgt := 13) d_Mo_isFine_6 (by decide) (fun _ => ?_) (fun c => absurd c (by decide))
        refine j_iconst (v := 0) d_Mo_isFine_13 (by decide) ?_
        refine j_zret rfl (by decide) d_Mo_isFine_14 ?_
        show J E 3 m_Mo_append 83 [some (.ref a0), some (.int p1), some (.int p2), some (.int p3), some (.int p4), some (.int ((0 : Int32))), some (.int ((0 : Int32))), none] [.int ((0 : Int32))] (sI G 640 a0 ((1 : Int32))) Post
        refine j_if_ne (tgt := 88) d_Mo_append_83 (by decide) (fun c => absurd c (by decide)) (fun _ => ?_)
        refine j_iconst (v := 0) d_Mo_append_86 (by decide) ?_
        exact j_iret rfl d_Mo_append_87 H
      · have H := Hb c38
        refine j_iload_n d_Mo_isIn_5 rfl ?_
        refine j_iload_n d_Mo_isIn_6 rfl ?_
        obtain ⟨Ha, Hb⟩ := H
        refine j_icmp_gt (tgt := 14) d_Mo_isIn_7 (by decide) (fun c35 => ?_) (fun c36 => ?_)
        · have H := Ha c35
          refine j_iconst (v := 0) d_Mo_isIn_14 (by decide) ?_
          refine j_zret rfl (by decide) d_Mo_isIn_15 ?_
          show J E 3 m_Mo_append 14 [some (.ref a0), some (.int p1), some (.int p2), some (.int p3), some (.int p4), some (.int ((0 : Int32))), none, none] [.int ((0 : Int32))] G Post
          refine j_if_eq (tgt := 42) d_Mo_append_14 (by decide) (fun _ => ?_) (fun c => absurd c (by decide))
          refine j_iconst (v := 0) d_Mo_append_42 (by decide) ?_
          refine j_istore (L' := [some (.ref a0), some (.int p1), some (.int p2), some (.int p3), some (.int p4), some (.int ((0 : Int32))), some (.int ((0 : Int32))), none]) d_Mo_append_43 (by decide) rfl ?_
          refine j_aload_n d_Mo_append_45 rfl ?_
          refine j_iload d_Mo_append_46 rfl ?_
          refine j_if_ne (tgt := 55) d_Mo_append_48 (by decide) (fun c => absurd c (by decide)) (fun _ => ?_)
          refine j_iconst (v := 1) d_Mo_append_51 (by decide) ?_
          refine j_goto (tgt := 80) d_Mo_append_52 (by decide) ?_
          obtain ⟨t21, H⟩ := H
          refine j_callV (d' := 1) (ci := 10) (As := [.int ((1 : Int32))]) (rest := []) (b := a0) cv_Mo_149 me_Mo_isFine rfl (by decide) rfl rfl t21 rfl rfl (Nat.le_of_ble_eq_true rfl) d_Mo_append_80 (by decide) rfl (j_enter (L := [some (.ref a0), some (.int ((1 : Int32)))]) me_Mo_isFine (cat_c rfl (cat_c rfl cat_n)) (Nat.le_of_ble_eq_true rfl) rfl ?_)
          refine j_aload_n d_Mo_isFine_0 rfl ?_
          refine j_iload_n d_Mo_isFine_1 rfl ?_
          refine j_putI (f := 640) fw_Mo_139 rfl rfl t21 d_Mo_isFine_2 ?_
          refine j_iload_n d_Mo_isFine_5 rfl ?_
          refine j_if_ne (tgt := 13) d_Mo_isFine_6 (by decide) (fun _ => ?_) (fun c => absurd c (by decide))
          refine j_iconst (v := 0) d_Mo_isFine_13 (by decide) ?_
          refine j_zret rfl (by decide) d_Mo_isFine_14 ?_
          show J E 3 m_Mo_append 83 [some (.ref a0), some (.int p1), some (.int p2), some (.int p3), some (.int p4), some (.int ((0 : Int32))), some (.int ((0 : Int32))), none] [.int ((0 : Int32))] (sI G 640 a0 ((1 : Int32))) Post
          refine j_if_ne (tgt := 88) d_Mo_append_83 (by decide) (fun c => absurd c (by decide)) (fun _ => ?_)
          refine j_iconst (v := 0) d_Mo_append_86 (by decide) ?_
          exact j_iret rfl d_Mo_append_87 H
        · have H := Hb c36
          refine j_iconst (v := 1) d_Mo_isIn_10 (by decide) ?_
          refine j_goto (tgt := 15) d_Mo_isIn_11 (by decide) ?_
          refine j_zret rfl (by decide) d_Mo_isIn_15 ?_
          show J E 3 m_Mo_append 14 [some (.ref a0), some (.int p1), some (.int p2), some (.int p3), some (.int p4), some (.int ((0 : Int32))), none, none] [.int ((1 : Int32))] G Post
          refine j_if_eq (tgt := 42) d_Mo_append_14 (by decide) (fun c => absurd c (by decide)) (fun _ => ?_)
          refine j_iload_n d_Mo_append_17 rfl ?_
          refine j_callS (d' := 2) (As := [.int p3]) (rest := []) cs_Mo_159 me_Mo_isKey rfl (by decide) rfl rfl (Nat.le_of_ble_eq_true rfl) d_Mo_append_18 (by decide) rfl (j_enter (L := [some (.int p3)]) me_Mo_isKey (cat_c rfl cat_n) (Nat.le_of_ble_eq_true rfl) rfl ?_)
          refine j_iload_n d_Mo_isKey_0 rfl ?_
          refine j_iconst (v := 0) d_Mo_isKey_1 (by decide) ?_
          refine j_iconst (v := 5) d_Mo_isKey_2 (by decide) ?_
          refine j_callS (d' := 1) (As := [.int p3, .int ((0 : Int32)), .int ((5 : Int32))]) (rest := []) cs_Mo_142 me_Mo_isIn rfl (by decide) rfl rfl (Nat.le_of_ble_eq_true rfl) d_Mo_isKey_3 (by decide) rfl (j_enter (L := [some (.int p3), some (.int ((0 : Int32))), some (.int ((5 : Int32)))]) me_Mo_isIn (cat_c rfl (cat_c rfl (cat_c rfl cat_n))) (Nat.le_of_ble_eq_true rfl) rfl ?_)
          refine j_iload_n d_Mo_isIn_0 rfl ?_
          refine j_iload_n d_Mo_isIn_1 rfl ?_
          obtain ⟨Ha, Hb⟩ := H
          refine j_icmp_lt (tgt := 14) d_Mo_isIn_2 (by decide) (fun c33 => ?_) (fun c34 => ?_)
          · have H := Ha c33
            refine j_iconst (v := 0) d_Mo_isIn_14 (by decide) ?_
            refine j_zret rfl (by decide) d_Mo_isIn_15 ?_
            show J E 2 m_Mo_isKey 6 [some (.int p3)] [.int ((0 : Int32))] G (aft E 3 m_Mo_append 18 [some (.ref a0), some (.int p1), some (.int p2), some (.int p3), some (.int p4), some (.int ((0 : Int32))), none, none] [] Post)
            refine j_zret rfl (by decide) d_Mo_isKey_6 ?_
            show J E 3 m_Mo_append 21 [some (.ref a0), some (.int p1), some (.int p2), some (.int p3), some (.int p4), some (.int ((0 : Int32))), none, none] [.int ((0 : Int32))] G Post
            refine j_if_eq (tgt := 42) d_Mo_append_21 (by decide) (fun _ => ?_) (fun c => absurd c (by decide))
            refine j_iconst (v := 0) d_Mo_append_42 (by decide) ?_
            refine j_istore (L' := [some (.ref a0), some (.int p1), some (.int p2), some (.int p3), some (.int p4), some (.int ((0 : Int32))), some (.int ((0 : Int32))), none]) d_Mo_append_43 (by decide) rfl ?_
            refine j_aload_n d_Mo_append_45 rfl ?_
            refine j_iload d_Mo_append_46 rfl ?_
            refine j_if_ne (tgt := 55) d_Mo_append_48 (by decide) (fun c => absurd c (by decide)) (fun _ => ?_)
            refine j_iconst (v := 1) d_Mo_append_51 (by decide) ?_
            refine j_goto (tgt := 80) d_Mo_append_52 (by decide) ?_
            obtain ⟨t22, H⟩ := H
            refine j_callV (d' := 1) (ci := 10) (As := [.int ((1 : Int32))]) (rest := []) (b := a0) cv_Mo_149 me_Mo_isFine rfl (by decide) rfl rfl t22 rfl rfl (Nat.le_of_ble_eq_true rfl) d_Mo_append_80 (by decide) rfl (j_enter (L := [some (.ref a0), some (.int ((1 : Int32)))]) me_Mo_isFine (cat_c rfl (cat_c rfl cat_n)) (Nat.le_of_ble_eq_true rfl) rfl ?_)
            refine j_aload_n d_Mo_isFine_0 rfl ?_
            refine j_iload_n d_Mo_isFine_1 rfl ?_
            refine j_putI (f := 640) fw_Mo_139 rfl rfl t22 d_Mo_isFine_2 ?_
            refine j_iload_n d_Mo_isFine_5 rfl ?_
            refine j_if_ne (tgt := 13) d_Mo_isFine_6 (by decide) (fun _ => ?_) (fun c => absurd c (by decide))
            refine j_iconst (v := 0) d_Mo_isFine_13 (by decide) ?_
            refine j_zret rfl (by decide) d_Mo_isFine_14 ?_
            show J E 3 m_Mo_append 83 [some (.ref a0), some (.int p1), some (.int p2), some (.int p3), some (.int p4), some (.int ((0 : Int32))), some (.int ((0 : Int32))), none] [.int ((0 : Int32))] (sI G 640 a0 ((1 : Int32))) Post
            refine j_if_ne (tgt := 88) d_Mo_append_83 (by decide) (fun c => absurd c (by decide)) (fun _ => ?_)
            refine j_iconst (v := 0) d_Mo_append_86 (by decide) ?_
            exact j_iret rfl d_Mo_append_87 H
          · have H := Hb c34
            refine j_iload_n d_Mo_isIn_5 rfl ?_
            refine j_iload_n d_Mo_isIn_6 rfl ?_
            obtain ⟨Ha, Hb⟩ := H
            refine j_icmp_gt (tgt := 14) d_Mo_isIn_7 (by decide) (fun c31 => ?_) (fun c32 => ?_)
            · have H := Ha c31
              refine j_iconst (v := 0) d_Mo_isIn_14 (by decide) ?_
              refine j_zret rfl (by decide) d_Mo_isIn_15 ?_
              show J E 2 m_Mo_isKey 6 [some (.int p3)] [.int ((0 : Int32))] G (aft E 3 m_Mo_append 18 [some (.ref a0), some (.int p1), some (.int p2), some (.int p3), some (.int p4), some (.int ((0 : Int32))), none, none] [] Post)
              refine j_zret rfl (by decide) d_Mo_isKey_6 ?_
              show J E 3 m_Mo_append 21 [some (.ref a0), some (.int p1), some (.int p2), some (.int p3), some (.int p4), some (.int ((0 : Int32))), none, none] [.int ((0 : Int32))] G Post
              refine j_if_eq (tgt := 42) d_Mo_append_21 (by decide) (fun _ => ?_) (fun c => absurd c (by decide))
              refine j_iconst (v := 0) d_Mo_append_42 (by decide) ?_
              refine j_istore (L' := [some (.ref a0), some (.int p1), some (.int p2), some (.int p3), some (.int p4), some (.int ((0 : Int32))), some (.int ((0 : Int32))), none]) d_Mo_append_43 (by decide) rfl ?_
              refine j_aload_n d_Mo_append_45 rfl ?_
              refine j_iload d_Mo_append_46 rfl ?_
              refine j_if_ne (tgt := 55) d_Mo_append_48 (by decide) (fun c => absurd c (by decide)) (fun _ => ?_)
              refine j_iconst (v := 1) d_Mo_append_51 (by decide) ?_
              refine j_goto (tgt := 80) d_Mo_append_52 (by decide) ?_
              obtain ⟨t23, H⟩ := H
              refine j_callV (d' := 1) (ci := 10) (As := [.int ((1 : Int32))]) (rest := []) (b := a0) cv_Mo_149 me_Mo_isFine rfl (by decide) rfl rfl t23 rfl rfl (Nat.le_of_ble_eq_true rfl) d_Mo_append_80 (by decide) rfl (j_enter (L := [some (.ref a0), some (.int ((1 : Int32)))]) me_Mo_isFine (cat_c rfl (cat_c rfl cat_n)) (Nat.le_of_ble_eq_true rfl) rfl ?_)
              refine j_aload_n d_Mo_isFine_0 rfl ?_
              refine j_iload_n d_Mo_isFine_1 rfl ?_
              refine j_putI (f := 640) fw_Mo_139 rfl rfl t23 d_Mo_isFine_2 ?_
              refine j_iload_n d_Mo_isFine_5 rfl ?_
              refine j_if_ne (tgt := 13) d_Mo_isFine_6 (by decide) (fun _ => ?_) (fun c => absurd c (by decide))
              refine j_iconst (v := 0) d_Mo_isFine_13 (by decide) ?_
              refine j_zret rfl (by decide) d_Mo_isFine_14 ?_
              show J E 3 m_Mo_append 83 [some (.ref a0), some (.int p1), some (.int p2), some (.int p3), some (.int p4), some (.int ((0 : Int32))), some (.int ((0 : Int32))), none] [.int ((0 : Int32))] (sI G 640 a0 ((1 : Int32))) Post
              refine j_if_ne (tgt := 88) d_Mo_append_83 (by decide) (fun c => absurd c (by decide)) (fun _ => ?_)
              refine j_iconst (v := 0) d_Mo_append_86 (by decide) ?_
              exact j_iret rfl d_Mo_append_87 H
            · have H := Hb c32
              refine j_iconst (v := 1) d_Mo_isIn_10 (by decide) ?_
              refine j_goto (tgt := 15) d_Mo_isIn_11 (by decide) ?_
              refine j_zret rfl (by decide) d_Mo_isIn_15 ?_
              show J E 2 m_Mo_isKey 6 [some (.int p3)] [.int ((1 : Int32))] G (aft E 3 m_Mo_append 18 [some (.ref a0), some (.int p1), some (.int p2), some (.int p3), some (.int p4), some (.int ((0 : Int32))), none, none] [] Post)
              refine j_zret rfl (by decide) d_Mo_isKey_6 ?_
              show J E 3 m_Mo_append 21 [some (.ref a0), some (.int p1), some (.int p2), some (.int p3), some (.int p4), some (.int ((0 : Int32))), none, none] [.int ((1 : Int32))] G Post
              refine j_if_eq (tgt := 42) d_Mo_append_21 (by decide) (fun c => absurd c (by decide)) (fun _ => ?_)
              refine j_iload d_Mo_append_24 rfl ?_
              refine j_sipush (v := -1000) d_Mo_append_26 (by decide) ?_
              refine j_sipush (v := 1000) d_Mo_append_29 (by decide) ?_
              refine j_callS (d' := 1) (As := [.int p4, .int ((-1000 : Int32)), .int ((1000 : Int32))]) (rest := []) cs_Mo_142 me_Mo_isIn rfl (by decide) rfl rfl (Nat.le_of_ble_eq_true rfl) d_Mo_append_32 (by decide) rfl (j_enter (L := [some (.int p4), some (.int ((-1000 : Int32))), some (.int ((1000 : Int32)))]) me_Mo_isIn (cat_c rfl (cat_c rfl (cat_c rfl cat_n))) (Nat.le_of_ble_eq_true rfl) rfl ?_)
              refine j_iload_n d_Mo_isIn_0 rfl ?_
              refine j_iload_n d_Mo_isIn_1 rfl ?_
              obtain ⟨Ha, Hb⟩ := H
              refine j_icmp_lt (tgt := 14) d_Mo_isIn_2 (by decide) (fun c29 => ?_) (fun c30 => ?_)
              · have H := Ha c29
                refine j_iconst (v := 0) d_Mo_isIn_14 (by decide) ?_
                refine j_zret rfl (by decide) d_Mo_isIn_15 ?_
                show J E 3 m_Mo_append 35 [some (.ref a0), some (.int p1), some (.int p2), some (.int p3), some (.int p4), some (.int ((0 : Int32))), none, none] [.int ((0 : Int32))] G Post
                refine j_if_eq (tgt := 42) d_Mo_append_35 (by decide) (fun _ => ?_) (fun c => absurd c (by decide))
                refine j_iconst (v := 0) d_Mo_append_42 (by decide) ?_
                refine j_istore (L' := [some (.ref a0), some (.int p1), some (.int p2), some (.int p3), some (.int p4), some (.int ((0 : Int32))), some (.int ((0 : Int32))), none]) d_Mo_append_43 (by decide) rfl ?_
                refine j_aload_n d_Mo_append_45 rfl ?_
                refine j_iload d_Mo_append_46 rfl ?_
                refine j_if_ne (tgt := 55) d_Mo_append_48 (by decide) (fun c => absurd c (by decide)) (fun _ => ?_)
                refine j_iconst (v := 1) d_Mo_append_51 (by decide) ?_
                refine j_goto (tgt := 80) d_Mo_append_52 (by decide) ?_
                obtain ⟨t24, H⟩ := H
                refine j_callV (d' := 1) (ci := 10) (As := [.int ((1 : Int32))]) (rest := []) (b := a0) cv_Mo_149 me_Mo_isFine rfl (by decide) rfl rfl t24 rfl rfl (Nat.le_of_ble_eq_true rfl) d_Mo_append_80 (by decide) rfl (j_enter (L := [some (.ref a0), some (.int ((1 : Int32)))]) me_Mo_isFine (cat_c rfl (cat_c rfl cat_n)) (Nat.le_of_ble_eq_true rfl) rfl ?_)
                refine j_aload_n d_Mo_isFine_0 rfl ?_
                refine j_iload_n d_Mo_isFine_1 rfl ?_
                refine j_putI (f := 640) fw_Mo_139 rfl rfl t24 d_Mo_isFine_2 ?_
                refine j_iload_n d_Mo_isFine_5 rfl ?_
                refine j_if_ne (tgt := 13) d_Mo_isFine_6 (by decide) (fun _ => ?_) (fun c => absurd c (by decide))
                refine j_iconst (v := 0) d_Mo_isFine_13 (by decide) ?_
                refine j_zret rfl (by decide) d_Mo_isFine_14 ?_
                show J E 3 m_Mo_append 83 [some (.ref a0), some (.int p1), some (.int p2), some (.int p3), some (.int p4), some (.int ((0 : Int32))), some (.int ((0 : Int32))), none] [.int ((0 : Int32))] (sI G 640 a0 ((1 : Int32))) Post
                refine j_if_ne (tgt := 88) d_Mo_append_83 (by decide) (fun c => absurd c (by decide)) (fun _ => ?_)
                refine j_iconst (v := 0) d_Mo_append_86 (by decide) ?_
                exact j_iret rfl d_Mo_append_87 H
              · have H := Hb c30
                refine j_iload_n d_Mo_isIn_5 rfl ?_
                refine j_iload_n d_Mo_isIn_6 rfl ?_
                obtain ⟨Ha, Hb⟩ := H
                refine j_icmp_gt (tgt := 14) d_Mo_isIn_7 (by decide) (fun c27 => ?_) (fun c28 => ?_)
                · have H := Ha c27
                  refine j_iconst (v := 0) d_Mo_isIn_14 (by decide) ?_
                  refine j_zret rfl (by decide) d_Mo_isIn_15 ?_
                  show J E 3 m_Mo_append 35 [some (.ref a0), some (.int p1), some (.int p2), some (.int p3), some (.int p4), some (.int ((0 : Int32))), none, none] [.int ((0 : Int32))] G Post
                  refine j_if_eq (tgt := 42) d_Mo_append_35 (by decide) (fun _ => ?_) (fun c => absurd c (by decide))
                  refine j_iconst (v := 0) d_Mo_append_42 (by decide) ?_
                  refine j_istore (L' := [some (.ref a0), some (.int p1), some (.int p2), some (.int p3), some (.int p4), some (.int ((0 : Int32))), some (.int ((0 : Int32))), none]) d_Mo_append_43 (by decide) rfl ?_
                  refine j_aload_n d_Mo_append_45 rfl ?_
                  refine j_iload d_Mo_append_46 rfl ?_
                  refine j_if_ne (tgt := 55) d_Mo_append_48 (by decide) (fun c => absurd c (by decide)) (fun _ => ?_)
                  refine j_iconst (v := 1) d_Mo_append_51 (by decide) ?_
                  refine j_goto (tgt := 80) d_Mo_append_52 (by decide) ?_
                  obtain ⟨t25, H⟩ := H
                  refine j_callV (d' := 1) (ci := 10) (As := [.int ((1 : Int32))]) (rest := []) (b := a0) cv_Mo_149 me_Mo_isFine rfl (by decide) rfl rfl t25 rfl rfl (Nat.le_of_ble_eq_true rfl) d_Mo_append_80 (by decide) rfl (j_enter (L := [some (.ref a0), some (.int ((1 : Int32)))]) me_Mo_isFine (cat_c rfl (cat_c rfl cat_n)) (Nat.le_of_ble_eq_true rfl) rfl ?_)
                  refine j_aload_n d_Mo_isFine_0 rfl ?_
                  refine j_iload_n d_Mo_isFine_1 rfl ?_
                  refine j_putI (f := 640) fw_Mo_139 rfl rfl t25 d_Mo_isFine_2 ?_
                  refine j_iload_n d_Mo_isFine_5 rfl ?_
                  refine j_if_ne (tgt := 13) d_Mo_isFine_6 (by decide) (fun _ => ?_) (fun c => absurd c (by decide))
                  refine j_iconst (v := 0) d_Mo_isFine_13 (by decide) ?_
                  refine j_zret rfl (by decide) d_Mo_isFine_14 ?_
                  show J E 3 m_Mo_append 83 [some (.ref a0), some (.int p1), some (.int p2), some (.int p3), some (.int p4), some (.int ((0 : Int32))), some (.int ((0 : Int32))), none] [.int ((0 : Int32))] (sI G 640 a0 ((1 : Int32))) Post
                  refine j_if_ne (tgt := 88) d_Mo_append_83 (by decide) (fun c => absurd c (by decide)) (fun _ => ?_)
                  refine j_iconst (v := 0) d_Mo_append_86 (by decide) ?_
                  exact j_iret rfl d_Mo_append_87 H
                · have H := Hb c28
                  refine j_iconst (v := 1) d_Mo_isIn_10 (by decide) ?_
                  refine j_goto (tgt := 15) d_Mo_isIn_11 (by decide) ?_
                  refine j_zret rfl (by decide) d_Mo_isIn_15 ?_
                  show J E 3 m_Mo_append 35 [some (.ref a0), some (.int p1), some (.int p2), some (.int p3), some (.int p4), some (.int ((0 : Int32))), none, none] [.int ((1 : Int32))] G Post
                  refine j_if_eq (tgt := 42) d_Mo_append_35 (by decide) (fun c => absurd c (by decide)) (fun _ => ?_)
                  refine j_iconst (v := 1) d_Mo_append_38 (by decide) ?_
                  refine j_goto (tgt := 43) d_Mo_append_39 (by decide) ?_
                  refine j_istore (L' := [some (.ref a0), some (.int p1), some (.int p2), some (.int p3), some (.int p4), some (.int ((0 : Int32))), some (.int ((1 : Int32))), none]) d_Mo_append_43 (by decide) rfl ?_
                  refine j_aload_n d_Mo_append_45 rfl ?_
                  refine j_iload d_Mo_append_46 rfl ?_
                  refine j_if_ne (tgt := 55) d_Mo_append_48 (by decide) (fun c => absurd c (by decide)) (fun _ => ?_)
                  refine j_iconst (v := 1) d_Mo_append_51 (by decide) ?_
                  refine j_goto (tgt := 80) d_Mo_append_52 (by decide) ?_
                  obtain ⟨t26, H⟩ := H
                  refine j_callV (d' := 1) (ci := 10) (As := [.int ((1 : Int32))]) (rest := []) (b := a0) cv_Mo_149 me_Mo_isFine rfl (by decide) rfl rfl t26 rfl rfl (Nat.le_of_ble_eq_true rfl) d_Mo_append_80 (by decide) rfl (j_enter (L := [some (.ref a0), some (.int ((1 : Int32)))]) me_Mo_isFine (cat_c rfl (cat_c rfl cat_n)) (Nat.le_of_ble_eq_true rfl) rfl ?_)
                  refine j_aload_n d_Mo_isFine_0 rfl ?_
                  refine j_iload_n d_Mo_isFine_1 rfl ?_
                  refine j_putI (f := 640) fw_Mo_139 rfl rfl t26 d_Mo_isFine_2 ?_
                  refine j_iload_n d_Mo_isFine_5 rfl ?_
                  refine j_if_ne (tgt := 13) d_Mo_isFine_6 (by decide) (fun _ => ?_) (fun c => absurd c (by decide))
                  refine j_iconst (v := 0) d_Mo_isFine_13 (by decide) ?_
                  refine j_zret rfl (by decide) d_Mo_isFine_14 ?_
                  show J E 3 m_Mo_append 83 [some (.ref a0), some (.int p1), some (.int p2), some (.int p3), some (.int p4), some (.int ((0 : Int32))), some (.int ((1 : Int32))), none] [.int ((0 : Int32))] (sI G 640 a0 ((1 : Int32))) Post
                  refine j_if_ne (tgt := 88) d_Mo_append_83 (by decide) (fun c => absurd c (by decide)) (fun _ => ?_)
                  refine j_iconst (v := 0) d_Mo_append_86 (by decide) ?_
                  exact j_iret rfl d_Mo_append_87 H
    · have H := Hb c84
      refine j_iconst (v := 1) d_Mo_isIn_10 (by decide) ?_
      refine j_goto (tgt := 15) d_Mo_isIn_11 (by decide) ?_
      refine j_zret rfl (by decide) d_Mo_isIn_15 ?_
      show J E 2 m_Mo_isSource 6 [some (.int p1)] [.int ((1 : Int32))] G (aft E 3 m_Mo_append 1 [some (.ref a0), some (.int p1), some (.int p2), some (.int p3), some (.int p4), none, none, none] [] Post)
      refine j_zret rfl (by decide) d_Mo_isSource_6 ?_
      show J E 3 m_Mo_append 4 [some (.ref a0), some (.int p1), some (.int p2), some (.int p3), some (.int p4), none, none, none] [.int ((1 : Int32))] G Post
      refine j_istore (L' := [some (.ref a0), some (.int p1), some (.int p2), some (.int p3), some (.int p4), some (.int ((1 : Int32))), none, none]) d_Mo_append_4 (by decide) rfl ?_
      refine j_iload_n d_Mo_append_6 rfl ?_
      refine j_iconst (v := 0) d_Mo_append_7 (by decide) ?_
      refine j_sipush (v := 999) d_Mo_append_8 (by decide) ?_
      refine j_callS (d' := 1) (As := [.int p2, .int ((0 : Int32)), .int ((999 : Int32))]) (rest := []) cs_Mo_142 me_Mo_isIn rfl (by decide) rfl rfl (Nat.le_of_ble_eq_true rfl) d_Mo_append_11 (by decide) rfl (j_enter (L := [some (.int p2), some (.int ((0 : Int32))), some (.int ((999 : Int32)))]) me_Mo_isIn (cat_c rfl (cat_c rfl (cat_c rfl cat_n))) (Nat.le_of_ble_eq_true rfl) rfl ?_)
      refine j_iload_n d_Mo_isIn_0 rfl ?_
      refine j_iload_n d_Mo_isIn_1 rfl ?_
      obtain ⟨Ha, Hb⟩ := H
      refine j_icmp_lt (tgt := 14) d_Mo_isIn_2 (by decide) (fun c81 => ?_) (fun c82 => ?_)
      · have H := Ha c81
        refine j_iconst (v := 0) d_Mo_isIn_14 (by decide) ?_
        refine j_zret rfl (by decide) d_Mo_isIn_15 ?_
        show J E 3 m_Mo_append 14 [some (.ref a0), some (.int p1), some (.int p2), some (.int p3), some (.int p4), some (.int ((1 : Int32))), none, none] [.int ((0 : Int32))] G Post
        refine j_if_eq (tgt := 42) d_Mo_append_14 (by decide) (fun _ => ?_) (fun c => absurd c (by decide))
        refine j_iconst (v := 0) d_Mo_append_42 (by decide) ?_
        refine j_istore (L' := [some (.ref a0), some (.int p1), some (.int p2), some (.int p3), some (.int p4), some (.int ((1 : Int32))), some (.int ((0 : Int32))), none]) d_Mo_append_43 (by decide) rfl ?_
        refine j_aload_n d_Mo_append_45 rfl ?_
        refine j_iload d_Mo_append_46 rfl ?_
        refine j_if_ne (tgt := 55) d_Mo_append_48 (by decide) (fun _ => ?_) (fun c => absurd c (by decide))
        refine j_iload d_Mo_append_55 rfl ?_
        refine j_if_ne (tgt := 64) d_Mo_append_57 (by decide) (fun c => absurd c (by decide)) (fun _ => ?_)
        refine j_iconst (v := 2) d_Mo_append_60 (by decide) ?_
        refine j_goto (tgt := 80) d_Mo_append_61 (by decide) ?_
        obtain ⟨t39, H⟩ := H
        refine j_callV (d' := 1) (ci := 10) (As := [.int ((2 : Int32))]) (rest := []) (b := a0) cv_Mo_149 me_Mo_isFine rfl (by decide) rfl rfl t39 rfl rfl (Nat.le_of_ble_eq_true rfl) d_Mo_append_80 (by decide) rfl (j_enter (L := [some (.ref a0), some (.int ((2 : Int32)))]) me_Mo_isFine (cat_c rfl (cat_c rfl cat_n)) (Nat.le_of_ble_eq_true rfl) rfl ?_)
        refine j_aload_n d_Mo_isFine_0 rfl ?_
        refine j_iload_n d_Mo_isFine_1 rfl ?_
        refine j_putI (f := 640) fw_Mo_139 rfl rfl t39 d_Mo_isFine_2 ?_
        refine j_iload_n d_Mo_isFine_5 rfl ?_
        refine j_if_ne (tgt := 13) d_Mo_isFine_6 (by decide) (fun _ => ?_) (fun c => absurd c (by decide))
        refine j_iconst (v := 0) d_Mo_isFine_13 (by decide) ?_
        refine j_zret rfl (by decide) d_Mo_isFine_14 ?_
        show J E 3 m_Mo_append 83 [some (.ref a0), some (.int p1), some (.int p2), some (.int p3), some (.int p4), some (.int ((1 : Int32))), some (.int ((0 : Int32))), none] [.int ((0 : Int32))] (sI G 640 a0 ((2 : Int32))) Post
        refine j_if_ne (tgt := 88) d_Mo_append_83 (by decide) (fun c => absurd c (by decide)) (fun _ => ?_)
        refine j_iconst (v := 0) d_Mo_append_86 (by decide) ?_
        exact j_iret rfl d_Mo_append_87 H
      · have H := Hb c82
        refine j_iload_n d_Mo_isIn_5 rfl ?_
        refine j_iload_n d_Mo_isIn_6 rfl ?_
        obtain ⟨Ha, Hb⟩ := H
        refine j_icmp_gt (tgt := 14) d_Mo_isIn_7 (by decide) (fun c79 => ?_) (fun c80 => ?_)
        · have H := Ha c79
          refine j_iconst (v := 0) d_Mo_isIn_14 (by decide) ?_
          refine j_zret rfl (by decide) d_Mo_isIn_15 ?_
          show J E 3 m_Mo_append 14 [some (.ref a0), some (.int p1), some (.int p2), some (.int p3), some (.int p4), some (.int ((1 : Int32))), none, none] [.int ((0 : Int32))] G Post
          refine j_if_eq (tgt := 42) d_Mo_append_14 (by decide) (fun _ => ?_) (fun c => absurd c (by decide))
          refine j_iconst (v := 0) d_Mo_append_42 (by decide) ?_
          refine j_istore (L' := [some (.ref a0), some (.int p1), some (.int p2), some (.int p3), some (.int p4), some (.int ((1 : Int32))), some (.int ((0 : Int32))), none]) d_Mo_append_43 (by decide) rfl ?_
          refine j_aload_n d_Mo_append_45 rfl ?_
          refine j_iload d_Mo_append_46 rfl ?_
          refine j_if_ne (tgt := 55) d_Mo_append_48 (by decide) (fun _ => ?_) (fun c => absurd c (by decide))
          refine j_iload d_Mo_append_55 rfl ?_
          refine j_if_ne (tgt := 64) d_Mo_append_57 (by decide) (fun c => absurd c (by decide)) (fun _ => ?_)
          refine j_iconst (v := 2) d_Mo_append_60 (by decide) ?_
          refine j_goto (tgt := 80) d_Mo_append_61 (by decide) ?_
          obtain ⟨t40, H⟩ := H
          refine j_callV (d' := 1) (ci := 10) (As := [.int ((2 : Int32))]) (rest := []) (b := a0) cv_Mo_149 me_Mo_isFine rfl (by decide) rfl rfl t40 rfl rfl (Nat.le_of_ble_eq_true rfl) d_Mo_append_80 (by decide) rfl (j_enter (L := [some (.ref a0), some (.int ((2 : Int32)))]) me_Mo_isFine (cat_c rfl (cat_c rfl cat_n)) (Nat.le_of_ble_eq_true rfl) rfl ?_)
          refine j_aload_n d_Mo_isFine_0 rfl ?_
          refine j_iload_n d_Mo_isFine_1 rfl ?_
          refine j_putI (f := 640) fw_Mo_139 rfl rfl t40 d_Mo_isFine_2 ?_
          refine j_iload_n d_Mo_isFine_5 rfl ?_
          refine j_if_ne (tgt := 13) d_Mo_isFine_6 (by decide) (fun _ => ?_) (fun c => absurd c (by decide))
          refine j_iconst (v := 0) d_Mo_isFine_13 (by decide) ?_
          refine j_zret rfl (by decide) d_Mo_isFine_14 ?_
          show J E 3 m_Mo_append 83 [some (.ref a0), some (.int p1), some (.int p2), some (.int p3), some (.int p4), some (.int ((1 : Int32))), some (.int ((0 : Int32))), none] [.int ((0 : Int32))] (sI G 640 a0 ((2 : Int32))) Post
          refine j_if_ne (tgt := 88) d_Mo_append_83 (by decide) (fun c => absurd c (by decide)) (fun _ => ?_)
          refine j_iconst (v := 0) d_Mo_append_86 (by decide) ?_
          exact j_iret rfl d_Mo_append_87 H
        · have H := Hb c80
          refine j_iconst (v := 1) d_Mo_isIn_10 (by decide) ?_
          refine j_goto (tgt := 15) d_Mo_isIn_11 (by decide) ?_
          refine j_zret rfl (by decide) d_Mo_isIn_15 ?_
          show J E 3 m_Mo_append 14 [some (.ref a0), some (.int p1), some (.int p2), some (.int p3), some (.int p4), some (.int ((1 : Int32))), none, none] [.int ((1 : Int32))] G Post
          refine j_if_eq (tgt := 42) d_Mo_append_14 (by decide) (fun c => absurd c (by decide)) (fun _ => ?_)
          refine j_iload_n d_Mo_append_17 rfl ?_
          refine j_callS (d' := 2) (As := [.int p3]) (rest := []) cs_Mo_159 me_Mo_isKey rfl (by decide) rfl rfl (Nat.le_of_ble_eq_true rfl) d_Mo_append_18 (by decide) rfl (j_enter (L := [some (.int p3)]) me_Mo_isKey (cat_c rfl cat_n) (Nat.le_of_ble_eq_true rfl) rfl ?_)
          refine j_iload_n d_Mo_isKey_0 rfl ?_
          refine j_iconst (v := 0) d_Mo_isKey_1 (by decide) ?_
          refine j_iconst (v := 5) d_Mo_isKey_2 (by decide) ?_
          refine j_callS (d' := 1) (As := [.int p3, .int ((0 : Int32)), .int ((5 : Int32))]) (rest := []) cs_Mo_142 me_Mo_isIn rfl (by decide) rfl rfl (Nat.le_of_ble_eq_true rfl) d_Mo_isKey_3 (by decide) rfl (j_enter (L := [some (.int p3), some (.int ((0 : Int32))), some (.int ((5 : Int32)))]) me_Mo_isIn (cat_c rfl (cat_c rfl (cat_c rfl cat_n))) (Nat.le_of_ble_eq_true rfl) rfl ?_)
          refine j_iload_n d_Mo_isIn_0 rfl ?_
          refine j_iload_n d_Mo_isIn_1 rfl ?_
          obtain ⟨Ha, Hb⟩ := H
          refine j_icmp_lt (tgt := 14) d_Mo_isIn_2 (by decide) (fun c77 => ?_) (fun c78 => ?_)
          · have H := Ha c77
            refine j_iconst (v := 0) d_Mo_isIn_14 (by decide) ?_
            refine j_zret rfl (by decide) d_Mo_isIn_15 ?_
            show J E 2 m_Mo_isKey 6 [some (.int p3)] [.int ((0 : Int32))] G (aft E 3 m_Mo_append 18 [some (.ref a0), some (.int p1), some (.int p2), some (.int p3), some (.int p4), some (.int ((1 : Int32))), none, none] [] Post)
            refine j_zret rfl (by decide) d_Mo_isKey_6 ?_
            show J E 3 m_Mo_append 21 [some (.ref a0), some (.int p1), some (.int p2), some (.int p3), some (.int p4), some (.int ((1 : Int32))), none, none] [.int ((0 : Int32))] G Post
            refine j_if_eq (tgt := 42) d_Mo_append_21 (by decide) (fun _ => ?_) (fun c => absurd c (by decide))
            refine j_iconst (v := 0) d_Mo_append_42 (by decide) ?_
            refine j_istore (L' := [some (.ref a0), some (.int p1), some (.int p2), some (.int p3), some (.int p4), some (.int ((1 : Int32))), some (.int ((0 : Int32))), none]) d_Mo_append_43 (by decide) rfl ?_
            refine j_aload_n d_Mo_append_45 rfl ?_
            refine j_iload d_Mo_append_46 rfl ?_
            refine j_if_ne (tgt := 55) d_Mo_append_48 (by decide) (fun _ => ?_) (fun c => absurd c (by decide))
            refine j_iload d_Mo_append_55 rfl ?_
            refine j_if_ne (tgt := 64) d_Mo_append_57 (by decide) (fun c => absurd c (by decide)) (fun _ => ?_)
            refine j_iconst (v := 2) d_Mo_append_60 (by decide) ?_
            refine j_goto (tgt := 80) d_Mo_append_61 (by decide) ?_
            obtain ⟨t41, H⟩ := H
            refine j_callV (d' := 1) (ci := 10) (As := [.int ((2 : Int32))]) (rest := []) (b := a0) cv_Mo_149 me_Mo_isFine rfl (by decide) rfl rfl t41 rfl rfl (Nat.le_of_ble_eq_true rfl) d_Mo_append_80 (by decide) rfl (j_enter (L := [some (.ref a0), some (.int ((2 : Int32)))]) me_Mo_isFine (cat_c rfl (cat_c rfl cat_n)) (Nat.le_of_ble_eq_true rfl) rfl ?_)
            refine j_aload_n d_Mo_isFine_0 rfl ?_
            refine j_iload_n d_Mo_isFine_1 rfl ?_
            refine j_putI (f := 640) fw_Mo_139 rfl rfl t41 d_Mo_isFine_2 ?_
            refine j_iload_n d_Mo_isFine_5 rfl ?_
            refine j_if_ne (tgt := 13) d_Mo_isFine_6 (by decide) (fun _ => ?_) (fun c => absurd c (by decide))
            refine j_iconst (v := 0) d_Mo_isFine_13 (by decide) ?_
            refine j_zret rfl (by decide) d_Mo_isFine_14 ?_
            show J E 3 m_Mo_append 83 [some (.ref a0), some (.int p1), some (.int p2), some (.int p3), some (.int p4), some (.int ((1 : Int32))), some (.int ((0 : Int32))), none] [.int ((0 : Int32))] (sI G 640 a0 ((2 : Int32))) Post
            refine j_if_ne (tgt := 88) d_Mo_append_83 (by decide) (fun c => absurd c (by decide)) (fun _ => ?_)
            refine j_iconst (v := 0) d_Mo_append_86 (by decide) ?_
            exact j_iret rfl d_Mo_append_87 H
          · have H := Hb c78
            refine j_iload_n d_Mo_isIn_5 rfl ?_
            refine j_iload_n d_Mo_isIn_6 rfl ?_
            obtain ⟨Ha, Hb⟩ := H
            refine j_icmp_gt (tgt := 14) d_Mo_isIn_7 (by decide) (fun c75 => ?_) (fun c76 => ?_)
            · have H := Ha c75
              refine j_iconst (v := 0) d_Mo_isIn_14 (by decide) ?_
              refine j_zret rfl (by decide) d_Mo_isIn_15 ?_
              show J E 2 m_Mo_isKey 6 [some (.int p3)] [.int ((0 : Int32))] G (aft E 3 m_Mo_append 18 [some (.ref a0), some (.int p1), some (.int p2), some (.int p3), some (.int p4), some (.int ((1 : Int32))), none, none] [] Post)
              refine j_zret rfl (by decide) d_Mo_isKey_6 ?_
              show J E 3 m_Mo_append 21 [some (.ref a0), some (.int p1), some (.int p2), some (.int p3), some (.int p4), some (.int ((1 : Int32))), none, none] [.int ((0 : Int32))] G Post
              refine j_if_eq (tgt := 42) d_Mo_append_21 (by decide) (fun _ => ?_) (fun c => absurd c (by decide))
              refine j_iconst (v := 0) d_Mo_append_42 (by decide) ?_
              refine j_istore (L' := [some (.ref a0), some (.int p1), some (.int p2), some (.int p3), some (.int p4), some (.int ((1 : Int32))), some (.int ((0 : Int32))), none]) d_Mo_append_43 (by decide) rfl ?_
              refine j_aload_n d_Mo_append_45 rfl ?_
              refine j_iload d_Mo_append_46 rfl ?_
              refine j_if_ne (tgt := 55) d_Mo_append_48 (by decide) (fun _ => ?_) (fun c => absurd c (by decide))
              refine j_iload d_Mo_append_55 rfl ?_
              refine j_if_ne (tgt := 64) d_Mo_append_57 (by decide) (fun c => absurd c (by decide)) (fun _ => ?_)
              refine j_iconst (v := 2) d_Mo_append_60 (by decide) ?_
              refine j_goto (tgt := 80) d_Mo_append_61 (by decide) ?_
              obtain ⟨t42, H⟩ := H
              refine j_callV (d' := 1) (ci := 10) (As := [.int ((2 : Int32))]) (rest := []) (b := a0) cv_Mo_149 me_Mo_isFine rfl (by decide) rfl rfl t42 rfl rfl (Nat.le_of_ble_eq_true rfl) d_Mo_append_80 (by decide) rfl (j_enter (L := [some (.ref a0), some (.int ((2 : Int32)))]) me_Mo_isFine (cat_c rfl (cat_c rfl cat_n)) (Nat.le_of_ble_eq_true rfl) rfl ?_)
              refine j_aload_n d_Mo_isFine_0 rfl ?_
              refine j_iload_n d_Mo_isFine_1 rfl ?_
              refine j_putI (f := 640) fw_Mo_139 rfl rfl t42 d_Mo_isFine_2 ?_
              refine j_iload_n d_Mo_isFine_5 rfl ?_
              refine j_if_ne (tgt := 13) d_Mo_isFine_6 (by decide) (fun _ => ?_) (fun c => absurd c (by decide))
              refine j_iconst (v := 0) d_Mo_isFine_13 (by decide) ?_
              refine j_zret rfl (by decide) d_Mo_isFine_14 ?_
              show J E 3 m_Mo_append 83 [some (.ref a0), some (.int p1), some (.int p2), some (.int p3), some (.int p4), some (.int ((1 : Int32))), some (.int ((0 : Int32))), none] [.int ((0 : Int32))] (sI G 640 a0 ((2 : Int32))) Post
              refine j_if_ne (tgt := 88) d_Mo_append_83 (by decide) (fun c => absurd c (by decide)) (fun _ => ?_)
              refine j_iconst (v := 0) d_Mo_append_86 (by decide) ?_
              exact j_iret rfl d_Mo_append_87 H
            · have H := Hb c76
              refine j_iconst (v := 1) d_Mo_isIn_10 (by decide) ?_
              refine j_goto (tgt := 15) d_Mo_isIn_11 (by decide) ?_
              refine j_zret rfl (by decide) d_Mo_isIn_15 ?_
              show J E 2 m_Mo_isKey 6 [some (.int p3)] [.int ((1 : Int32))] G (aft E 3 m_Mo_append 18 [some (.ref a0), some (.int p1), some (.int p2), some (.int p3), some (.int p4), some (.int ((1 : Int32))), none, none] [] Post)
              refine j_zret rfl (by decide) d_Mo_isKey_6 ?_
              show J E 3 m_Mo_append 21 [some (.ref a0), some (.int p1), some (.int p2), some (.int p3), some (.int p4), some (.int ((1 : Int32))), none, none] [.int ((1 : Int32))] G Post
              refine j_if_eq (tgt := 42) d_Mo_append_21 (by decide) (fun c => absurd c (by decide)) (fun _ => ?_)
              refine j_iload d_Mo_append_24 rfl ?_
              refine j_sipush (v := -1000) d_Mo_append_26 (by decide) ?_
              refine j_sipush (v := 1000) d_Mo_append_29 (by decide) ?_
              refine j_callS (d' := 1) (As := [.int p4, .int ((-1000 : Int32)), .int ((1000 : Int32))]) (rest := []) cs_Mo_142 me_Mo_isIn rfl (by decide) rfl rfl (Nat.le_of_ble_eq_true rfl) d_Mo_append_32 (by decide) rfl (j_enter (L := [some (.int p4), some (.int ((-1000 : Int32))), some (.int ((1000 : Int32)))]) me_Mo_isIn (cat_c rfl (cat_c rfl (cat_c rfl cat_n))) (Nat.le_of_ble_eq_true rfl) rfl ?_)
              refine j_iload_n d_Mo_isIn_0 rfl ?_
              refine j_iload_n d_Mo_isIn_1 rfl ?_
              obtain ⟨Ha, Hb⟩ := H
              refine j_icmp_lt (tgt := 14) d_Mo_isIn_2 (by decide) (fun c73 => ?_) (fun c74 => ?_)
              · have H := Ha c73
                refine j_iconst (v := 0) d_Mo_isIn_14 (by decide) ?_
                refine j_zret rfl (by decide) d_Mo_isIn_15 ?_
                show J E 3 m_Mo_append 35 [some (.ref a0), some (.int p1), some (.int p2), some (.int p3), some (.int p4), some (.int ((1 : Int32))), none, none] [.int ((0 : Int32))] G Post
                refine j_if_eq (tgt := 42) d_Mo_append_35 (by decide) (fun _ => ?_) (fun c => absurd c (by decide))
                refine j_iconst (v := 0) d_Mo_append_42 (by decide) ?_
                refine j_istore (L' := [some (.ref a0), some (.int p1), some (.int p2), some (.int p3), some (.int p4), some (.int ((1 : Int32))), some (.int ((0 : Int32))), none]) d_Mo_append_43 (by decide) rfl ?_
                refine j_aload_n d_Mo_append_45 rfl ?_
                refine j_iload d_Mo_append_46 rfl ?_
                refine j_if_ne (tgt := 55) d_Mo_append_48 (by decide) (fun _ => ?_) (fun c => absurd c (by decide))
                refine j_iload d_Mo_append_55 rfl ?_
                refine j_if_ne (tgt := 64) d_Mo_append_57 (by decide) (fun c => absurd c (by decide)) (fun _ => ?_)
                refine j_iconst (v := 2) d_Mo_append_60 (by decide) ?_
                refine j_goto (tgt := 80) d_Mo_append_61 (by decide) ?_
                obtain ⟨t43, H⟩ := H
                refine j_callV (d' := 1) (ci := 10) (As := [.int ((2 : Int32))]) (rest := []) (b := a0) cv_Mo_149 me_Mo_isFine rfl (by decide) rfl rfl t43 rfl rfl (Nat.le_of_ble_eq_true rfl) d_Mo_append_80 (by decide) rfl (j_enter (L := [some (.ref a0), some (.int ((2 : Int32)))]) me_Mo_isFine (cat_c rfl (cat_c rfl cat_n)) (Nat.le_of_ble_eq_true rfl) rfl ?_)
                refine j_aload_n d_Mo_isFine_0 rfl ?_
                refine j_iload_n d_Mo_isFine_1 rfl ?_
                refine j_putI (f := 640) fw_Mo_139 rfl rfl t43 d_Mo_isFine_2 ?_
                refine j_iload_n d_Mo_isFine_5 rfl ?_
                refine j_if_ne (tgt := 13) d_Mo_isFine_6 (by decide) (fun _ => ?_) (fun c => absurd c (by decide))
                refine j_iconst (v := 0) d_Mo_isFine_13 (by decide) ?_
                refine j_zret rfl (by decide) d_Mo_isFine_14 ?_
                show J E 3 m_Mo_append 83 [some (.ref a0), some (.int p1), some (.int p2), some (.int p3), some (.int p4), some (.int ((1 : Int32))), some (.int ((0 : Int32))), none] [.int ((0 : Int32))] (sI G 640 a0 ((2 : Int32))) Post
                refine j_if_ne (tgt := 88) d_Mo_append_83 (by decide) (fun c => absurd c (by decide)) (fun _ => ?_)
                refine j_iconst (v := 0) d_Mo_append_86 (by decide) ?_
                exact j_iret rfl d_Mo_append_87 H
              · have H := Hb c74
                refine j_iload_n d_Mo_isIn_5 rfl ?_
                refine j_iload_n d_Mo_isIn_6 rfl ?_
                obtain ⟨Ha, Hb⟩ := H
                refine j_icmp_gt (tgt := 14) d_Mo_isIn_7 (by decide) (fun c71 => ?_) (fun c72 => ?_)
                · have H := Ha c71
                  refine j_iconst (v := 0) d_Mo_isIn_14 (by decide) ?_
                  refine j_zret rfl (by decide) d_Mo_isIn_15 ?_
                  show J E 3 m_Mo_append 35 [some (.ref a0), some (.int p1), some (.int p2), some (.int p3), some (.int p4), some (.int ((1 : Int32))), none, none] [.int ((0 : Int32))] G Post
                  refine j_if_eq (tgt := 42) d_Mo_append_35 (by decide) (fun _ => ?_) (fun c => absurd c (by decide))
                  refine j_iconst (v := 0) d_Mo_append_42 (by decide) ?_
                  refine j_istore (L' := [some (.ref a0), some (.int p1), some (.int p2), some (.int p3), some (.int p4), some (.int ((1 : Int32))), some (.int ((0 : Int32))), none]) d_Mo_append_43 (by decide) rfl ?_
                  refine j_aload_n d_Mo_append_45 rfl ?_
                  refine j_iload d_Mo_append_46 rfl ?_
                  refine j_if_ne (tgt := 55) d_Mo_append_48 (by decide) (fun _ => ?_) (fun c => absurd c (by decide))
                  refine j_iload d_Mo_append_55 rfl ?_
                  refine j_if_ne (tgt := 64) d_Mo_append_57 (by decide) (fun c => absurd c (by decide)) (fun _ => ?_)
                  refine j_iconst (v := 2) d_Mo_append_60 (by decide) ?_
                  refine j_goto (tgt := 80) d_Mo_append_61 (by decide) ?_
                  obtain ⟨t44, H⟩ := H
                  refine j_callV (d' := 1) (ci := 10) (As := [.int ((2 : Int32))]) (rest := []) (b := a0) cv_Mo_149 me_Mo_isFine rfl (by decide) rfl rfl t44 rfl rfl (Nat.le_of_ble_eq_true rfl) d_Mo_append_80 (by decide) rfl (j_enter (L := [some (.ref a0), some (.int ((2 : Int32)))]) me_Mo_isFine (cat_c rfl (cat_c rfl cat_n)) (Nat.le_of_ble_eq_true rfl) rfl ?_)
                  refine j_aload_n d_Mo_isFine_0 rfl ?_
                  refine j_iload_n d_Mo_isFine_1 rfl ?_
                  refine j_putI (f := 640) fw_Mo_139 rfl rfl t44 d_Mo_isFine_2 ?_
                  refine j_iload_n d_Mo_isFine_5 rfl ?_
                  refine j_if_ne (tgt := 13) d_Mo_isFine_6 (by decide) (fun _ => ?_) (fun c => absurd c (by decide))
                  refine j_iconst (v := 0) d_Mo_isFine_13 (by decide) ?_
                  refine j_zret rfl (by decide) d_Mo_isFine_14 ?_
                  show J E 3 m_Mo_append 83 [some (.ref a0), some (.int p1), some (.int p2), some (.int p3), some (.int p4), some (.int ((1 : Int32))), some (.int ((0 : Int32))), none] [.int ((0 : Int32))] (sI G 640 a0 ((2 : Int32))) Post
                  refine j_if_ne (tgt := 88) d_Mo_append_83 (by decide) (fun c => absurd c (by decide)) (fun _ => ?_)
                  refine j_iconst (v := 0) d_Mo_append_86 (by decide) ?_
                  exact j_iret rfl d_Mo_append_87 H
                · have H := Hb c72
                  refine j_iconst (v := 1) d_Mo_isIn_10 (by decide) ?_
                  refine j_goto (tgt := 15) d_Mo_isIn_11 (by decide) ?_
                  refine j_zret rfl (by decide) d_Mo_isIn_15 ?_
                  show J E 3 m_Mo_append 35 [some (.ref a0), some (.int p1), some (.int p2), some (.int p3), some (.int p4), some (.int ((1 : Int32))), none, none] [.int ((1 : Int32))] G Post
                  refine j_if_eq (tgt := 42) d_Mo_append_35 (by decide) (fun c => absurd c (by decide)) (fun _ => ?_)
                  refine j_iconst (v := 1) d_Mo_append_38 (by decide) ?_
                  refine j_goto (tgt := 43) d_Mo_append_39 (by decide) ?_
                  refine j_istore (L' := [some (.ref a0), some (.int p1), some (.int p2), some (.int p3), some (.int p4), some (.int ((1 : Int32))), some (.int ((1 : Int32))), none]) d_Mo_append_43 (by decide) rfl ?_
                  refine j_aload_n d_Mo_append_45 rfl ?_
                  refine j_iload d_Mo_append_46 rfl ?_
                  refine j_if_ne (tgt := 55) d_Mo_append_48 (by decide) (fun _ => ?_) (fun c => absurd c (by decide))
                  refine j_iload d_Mo_append_55 rfl ?_
                  refine j_if_ne (tgt := 64) d_Mo_append_57 (by decide) (fun _ => ?_) (fun c => absurd c (by decide))
                  refine j_aload_n d_Mo_append_64 rfl ?_
                  obtain ⟨t45, H⟩ := H
                  obtain ⟨b46, e47, H⟩ := H
                  refine j_getR (f := 652) (b := b46) fe_Mo_39 rfl rfl t45 e47 d_Mo_append_65 ?_
                  refine j_iload_n d_Mo_append_68 rfl ?_
                  obtain ⟨t48, H⟩ := H
                  obtain ⟨n50, x49, H⟩ := H
                  refine j_iald (n := n50) t48 x49 d_Mo_append_69 ?_
                  refine j_bipush (v := 40) d_Mo_append_70 (by decide) ?_
                  obtain ⟨Ha, Hb⟩ := H
                  refine j_icmp_ne (tgt := 79) d_Mo_append_72 (by decide) (fun c69 => ?_) (fun c70 => ?_)
                  · have H := Ha c69
                    refine j_iconst (v := 0) d_Mo_append_79 (by decide) ?_
                    refine j_callV (d' := 1) (ci := 10) (As := [.int ((0 : Int32))]) (rest := []) (b := a0) cv_Mo_149 me_Mo_isFine rfl (by decide) rfl rfl t45 rfl rfl (Nat.le_of_ble_eq_true rfl) d_Mo_append_80 (by decide) rfl (j_enter (L := [some (.ref a0), some (.int ((0 : Int32)))]) me_Mo_isFine (cat_c rfl (cat_c rfl cat_n)) (Nat.le_of_ble_eq_true rfl) rfl ?_)
                    refine j_aload_n d_Mo_isFine_0 rfl ?_
                    refine j_iload_n d_Mo_isFine_1 rfl ?_
                    refine j_putI (f := 640) fw_Mo_139 rfl rfl t45 d_Mo_isFine_2 ?_
                    refine j_iload_n d_Mo_isFine_5 rfl ?_
                    refine j_if_ne (tgt := 13) d_Mo_isFine_6 (by decide) (fun c => absurd c (by decide)) (fun _ => ?_)
                    refine j_iconst (v := 1) d_Mo_isFine_9 (by decide) ?_
                    refine j_goto (tgt := 14) d_Mo_isFine_10 (by decide) ?_
                    refine j_zret rfl (by decide) d_Mo_isFine_14 ?_
                    show J E 3 m_Mo_append 83 [some (.ref a0), some (.int p1), some (.int p2), some (.int p3), some (.int p4), some (.int ((1 : Int32))), some (.int ((1 : Int32))), none] [.int ((1 : Int32))] (sI G 640 a0 ((0 : Int32))) Post
                    refine j_if_ne (tgt := 88) d_Mo_append_83 (by decide) (fun _ => ?_) (fun c => absurd c (by decide))
                    refine j_bipush (v := 40) d_Mo_append_88 (by decide) ?_
                    refine j_iload_n d_Mo_append_90 rfl ?_
                    refine j_imul d_Mo_append_91 ?_
                    refine j_aload_n d_Mo_append_92 rfl ?_
                    refine j_getR (f := 652) (b := b46) fe_Mo_39 rfl rfl t45 e47 d_Mo_append_93 ?_
                    refine j_iload_n d_Mo_append_96 rfl ?_
                    refine j_iald (n := n50) t48 x49 d_Mo_append_97 ?_
                    refine j_iadd d_Mo_append_98 ?_
                    refine j_istore (L' := [some (.ref a0), some (.int p1), some (.int p2), some (.int p3), some (.int p4), some (.int ((1 : Int32))), some (.int ((1 : Int32))), some (.int ((((40 : Int32) * p1) + (gA (sI G 640 a0 ((0 : Int32))) b46 n50))))]) d_Mo_append_99 (by decide) rfl ?_
                    refine j_aload_n d_Mo_append_101 rfl ?_
                    obtain ⟨b51, e52, H⟩ := H
                    refine j_getR (f := 649) (b := b51) fe_Mo_29 rfl rfl t45 e52 d_Mo_append_102 ?_
                    refine j_iload d_Mo_append_105 rfl ?_
                    refine j_iload_n d_Mo_append_107 rfl ?_
                    obtain ⟨t53, H⟩ := H
                    obtain ⟨n55, x54, H⟩ := H
                    refine j_iast (n := n55) t53 x54 d_Mo_append_108 ?_
                    refine j_aload_n d_Mo_append_109 rfl ?_
                    obtain ⟨b56, e57, H⟩ := H
                    refine j_getR (f := 650) (b := b56) fe_Mo_33 rfl rfl t45 e57 d_Mo_append_110 ?_
                    refine j_iload d_Mo_append_113 rfl ?_
                    refine j_iload_n d_Mo_append_115 rfl ?_
                    obtain ⟨t58, H⟩ := H
                    obtain ⟨n60, x59, H⟩ := H
                    refine j_iast (n := n60) t58 x59 d_Mo_append_116 ?_
                    refine j_aload_n d_Mo_append_117 rfl ?_
                    obtain ⟨b61, e62, H⟩ := H
                    refine j_getR (f := 651) (b := b61) fe_Mo_36 rfl rfl t45 e62 d_Mo_append_118 ?_
                    refine j_iload d_Mo_append_121 rfl ?_
                    refine j_iload d_Mo_append_123 rfl ?_
                    obtain ⟨t63, H⟩ := H
                    obtain ⟨n65, x64, H⟩ := H
                    refine j_iast (n := n65) t63 x64 d_Mo_append_125 ?_
                    refine j_aload_n d_Mo_append_126 rfl ?_
                    refine j_getR (f := 652) (b := b46) fe_Mo_39 rfl rfl t45 e47 d_Mo_append_127 ?_
                    refine j_iload_n d_Mo_append_130 rfl ?_
                    refine j_dup2 d_Mo_append_131 rfl rfl ?_
                    refine j_iald (n := n50) t48 x49 d_Mo_append_132 ?_
                    refine j_iconst (v := 1) d_Mo_append_133 (by decide) ?_
                    refine j_iadd d_Mo_append_134 ?_
                    obtain ⟨t66, H⟩ := H
                    refine j_iast (n := n50) t66 x49 d_Mo_append_135 ?_
                    show J E 3 m_Mo_append 136 [some (.ref a0), some (.int p1), some (.int p2), some (.int p3), some (.int p4), some (.int ((1 : Int32))), some (.int ((1 : Int32))), some (.int ((((40 : Int32) * p1) + (gA (sI G 640 a0 ((0 : Int32))) b46 n50))))] [] (sA (sA (sA (sA (sI G 640 a0 ((0 : Int32))) b51 n55 p2) b56 n60 p3) b61 n65 p4) b46 n50 (((gA (sA (sA (sA (sI G 640 a0 ((0 : Int32))) b51 n55 p2) b56 n60 p3) b61 n65 p4) b46 n50) + (1 : Int32)))) Post
                    generalize e68 : sA (sA (sA (sA (sI G 640 a0 ((0 : Int32))) b51 n55 p2) b56 n60 p3) b61 n65 p4) b46 n50 (((gA (sA (sA (sA (sI G 640 a0 ((0 : Int32))) b51 n55 p2) b56 n60 p3) b61 n65 p4) b46 n50) + (1 : Int32))) = G67
                    have e68 := e68.symm
                    have H := H G67 e68
                    refine j_aload_n d_Mo_append_136 rfl ?_
                    refine j_getR (f := 652) (b := b46) fe_Mo_39 rfl rfl (by rw [e68]; exact t45) (by rw [e68]; exact e47) d_Mo_append_137 ?_
                    refine j_iload_n d_Mo_append_140 rfl ?_
                    refine j_iald (n := n50) (by rw [e68]; exact (Or.inl t66)) (IX_n (by first | (rw [e68]; done) | (rw [e68]; rfl)) x49) d_Mo_append_141 ?_
                    refine j_iconst (v := 1) d_Mo_append_142 (by decide) ?_
                    refine j_isub d_Mo_append_143 ?_
                    exact j_iret rfl d_Mo_append_144 H
                  · have H := Hb c70
                    refine j_iconst (v := 3) d_Mo_append_75 (by decide) ?_
                    refine j_goto (tgt := 80) d_Mo_append_76 (by decide) ?_
                    refine j_callV (d' := 1) (ci := 10) (As := [.int ((3 : Int32))]) (rest := []) (b := a0) cv_Mo_149 me_Mo_isFine rfl (by decide) rfl rfl t45 rfl rfl (Nat.le_of_ble_eq_true rfl) d_Mo_append_80 (by decide) rfl (j_enter (L := [some (.ref a0), some (.int ((3 : Int32)))]) me_Mo_isFine (cat_c rfl (cat_c rfl cat_n)) (Nat.le_of_ble_eq_true rfl) rfl ?_)
                    refine j_aload_n d_Mo_isFine_0 rfl ?_
                    refine j_iload_n d_Mo_isFine_1 rfl ?_
                    refine j_putI (f := 640) fw_Mo_139 rfl rfl t45 d_Mo_isFine_2 ?_
                    refine j_iload_n d_Mo_isFine_5 rfl ?_
                    refine j_if_ne (tgt := 13) d_Mo_isFine_6 (by decide) (fun _ => ?_) (fun c => absurd c (by decide))
                    refine j_iconst (v := 0) d_Mo_isFine_13 (by decide) ?_
                    refine j_zret rfl (by decide) d_Mo_isFine_14 ?_
                    show J E 3 m_Mo_append 83 [some (.ref a0), some (.int p1), some (.int p2), some (.int p3), some (.int p4), some (.int ((1 : Int32))), some (.int ((1 : Int32))), none] [.int ((0 : Int32))] (sI G 640 a0 ((3 : Int32))) Post
                    refine j_if_ne (tgt := 88) d_Mo_append_83 (by decide) (fun c => absurd c (by decide)) (fun _ => ?_)
                    refine j_iconst (v := 0) d_Mo_append_86 (by decide) ?_
                    exact j_iret rfl d_Mo_append_87 H
theorem wp_Mo_read_0 {E : EV} {G : GH} {Post : Res → GH → Prop} (a0 : Nat) (p1 : Int32) (H : (p1 < (0 : Int32) → gT G a0 = 11 ∧ Post (.inl (some (.int ((0 : Int32))))) (sI G 640 a0 ((1 : Int32)))) ∧ (¬ p1 < (0 : Int32) → ((2 : Int32) < p1 → gT G a0 = 11 ∧ Post (.inl (some (.int ((0 : Int32))))) (sI G 640 a0 ((1 : Int32)))) ∧ (¬ (2 : Int32) < p1 → gT G a0 = 11 ∧ ∃ b4, gR G 653 a0 = some b4 ∧ (gT G b4 = 20 ∨ gT G b4 = 25) ∧ ∃ n8, IX p1 n8 (gN G b4) ∧ ∃ b9, gR G 652 a0 = some b9 ∧ (gT G b9 = 20 ∨ gT G b9 = 25) ∧ ∃ n13, IX p1 n13 (gN G b9) ∧ ((gA G b4 n8) = (gA G b9 n13) → Post (.inl (some (.int ((0 : Int32))))) (sI G 640 a0 ((2 : Int32)))) ∧ (¬ (gA G b4 n8) = (gA G b9 n13) → ∃ b14, gR G 654 a0 = some b14 ∧ (gT G b14 = 20 ∨ gT G b14 = 25) ∧ ∃ n18, IX p1 n18 (gN G b14) ∧ (¬ ((gA G b4 n8) - (gA G b14 n18)) = (4 : Int32) → gT G b4 = 20 ∧ ∀ G20, G20 = sA (sI (sI G 640 a0 ((0 : Int32))) 648 a0 ((1 : Int32))) b4 n8 (((gA (sI (sI G 640 a0 ((0 : Int32))) 648 a0 ((1 : Int32))) b4 n8) + (1 : Int32))) → Post (.inl (some (.int (((gA G20 b4 n8) - (gA G20 b14 n18)))))) G20) ∧ (((gA G b4 n8) - (gA G b14 n18)) = (4 : Int32) → Post (.inl (some (.int ((0 : Int32))))) (sI G 640 a0 ((2 : Int32)))))))) : J E 3 m_Mo_read 0 [some (.ref a0), some (.int p1), none] [] G Post := by
  refine j_iload_n d_Mo_read_0 rfl ?_
  refine j_callS (d' := 2) (As := [.int p1]) (rest := []) cs_Mo_156 me_Mo_isSource rfl (by decide) rfl rfl (Nat.le_of_ble_eq_true rfl) d_Mo_read_1 (by decide) rfl (j_enter (L := [some (.int p1)]) me_Mo_isSource (cat_c rfl cat_n) (Nat.le_of_ble_eq_true rfl) rfl ?_)
  refine j_iload_n d_Mo_isSource_0 rfl ?_
  refine j_iconst (v := 0) d_Mo_isSource_1 (by decide) ?_
  refine j_iconst (v := 2) d_Mo_isSource_2 (by decide) ?_
  refine j_callS (d' := 1) (As := [.int p1, .int ((0 : Int32)), .int ((2 : Int32))]) (rest := []) cs_Mo_142 me_Mo_isIn rfl (by decide) rfl rfl (Nat.le_of_ble_eq_true rfl) d_Mo_isSource_3 (by decide) rfl (j_enter (L := [some (.int p1), some (.int ((0 : Int32))), some (.int ((2 : Int32)))]) me_Mo_isIn (cat_c rfl (cat_c rfl (cat_c rfl cat_n))) (Nat.le_of_ble_eq_true rfl) rfl ?_)
  refine j_iload_n d_Mo_isIn_0 rfl ?_
  refine j_iload_n d_Mo_isIn_1 rfl ?_
  obtain ⟨Ha, Hb⟩ := H
  refine j_icmp_lt (tgt := 14) d_Mo_isIn_2 (by decide) (fun c28 => ?_) (fun c29 => ?_)
  · have H := Ha c28
    refine j_iconst (v := 0) d_Mo_isIn_14 (by decide) ?_
    refine j_zret rfl (by decide) d_Mo_isIn_15 ?_
    show J E 2 m_Mo_isSource 6 [some (.int p1)] [.int ((0 : Int32))] G (aft E 3 m_Mo_read 1 [some (.ref a0), some (.int p1), none] [] Post)
    refine j_zret rfl (by decide) d_Mo_isSource_6 ?_
    show J E 3 m_Mo_read 4 [some (.ref a0), some (.int p1), none] [.int ((0 : Int32))] G Post
    refine j_istore_n (L' := [some (.ref a0), some (.int p1), some (.int ((0 : Int32)))]) d_Mo_read_4 (by decide) rfl ?_
    refine j_aload_n d_Mo_read_5 rfl ?_
    refine j_iload_n d_Mo_read_6 rfl ?_
    refine j_if_ne (tgt := 14) d_Mo_read_7 (by decide) (fun c => absurd c (by decide)) (fun _ => ?_)
    refine j_iconst (v := 1) d_Mo_read_10 (by decide) ?_
    refine j_goto (tgt := 51) d_Mo_read_11 (by decide) ?_
    obtain ⟨t1, H⟩ := H
    refine j_callV (d' := 1) (ci := 10) (As := [.int ((1 : Int32))]) (rest := []) (b := a0) cv_Mo_149 me_Mo_isFine rfl (by decide) rfl rfl t1 rfl rfl (Nat.le_of_ble_eq_true rfl) d_Mo_read_51 (by decide) rfl (j_enter (L := [some (.ref a0), some (.int ((1 : Int32)))]) me_Mo_isFine (cat_c rfl (cat_c rfl cat_n)) (Nat.le_of_ble_eq_true rfl) rfl ?_)
    refine j_aload_n d_Mo_isFine_0 rfl ?_
    refine j_iload_n d_Mo_isFine_1 rfl ?_
    refine j_putI (f := 640) fw_Mo_139 rfl rfl t1 d_Mo_isFine_2 ?_
    refine j_iload_n d_Mo_isFine_5 rfl ?_
    refine j_if_ne (tgt := 13) d_Mo_isFine_6 (by decide) (fun _ => ?_) (fun c => absurd c (by decide))
    refine j_iconst (v := 0) d_Mo_isFine_13 (by decide) ?_
    refine j_zret rfl (by decide) d_Mo_isFine_14 ?_
    show J E 3 m_Mo_read 54 [some (.ref a0), some (.int p1), some (.int ((0 : Int32)))] [.int ((0 : Int32))] (sI G 640 a0 ((1 : Int32))) Post
    refine j_if_ne (tgt := 59) d_Mo_read_54 (by decide) (fun c => absurd c (by decide)) (fun _ => ?_)
    refine j_iconst (v := 0) d_Mo_read_57 (by decide) ?_
    exact j_iret rfl d_Mo_read_58 H
  · have H := Hb c29
    refine j_iload_n d_Mo_isIn_5 rfl ?_
    refine j_iload_n d_Mo_isIn_6 rfl ?_
    obtain ⟨Ha, Hb⟩ := H
    refine j_icmp_gt (tgt := 14) d_Mo_isIn_7 (by decide) (fun c26 => ?_) (fun c27 => ?_)
    · have H := Ha c26
      refine j_iconst (v := 0) d_Mo_isIn_14 (by decide) ?_
      refine j_zret rfl (by decide) d_Mo_isIn_15 ?_
      show J E 2 m_Mo_isSource 6 [some (.int p1)] [.int ((0 : Int32))] G (aft E 3 m_Mo_read 1 [some (.ref a0), some (.int p1), none] [] Post)
      refine j_zret rfl (by decide) d_Mo_isSource_6 ?_
      show J E 3 m_Mo_read 4 [some (.ref a0), some (.int p1), none] [.int ((0 : Int32))] G Post
      refine j_istore_n (L' := [some (.ref a0), some (.int p1), some (.int ((0 : Int32)))]) d_Mo_read_4 (by decide) rfl ?_
      refine j_aload_n d_Mo_read_5 rfl ?_
      refine j_iload_n d_Mo_read_6 rfl ?_
      refine j_if_ne (tgt := 14) d_Mo_read_7 (by decide) (fun c => absurd c (by decide)) (fun _ => ?_)
      refine j_iconst (v := 1) d_Mo_read_10 (by decide) ?_
      refine j_goto (tgt := 51) d_Mo_read_11 (by decide) ?_
      obtain ⟨t2, H⟩ := H
      refine j_callV (d' := 1) (ci := 10) (As := [.int ((1 : Int32))]) (rest := []) (b := a0) cv_Mo_149 me_Mo_isFine rfl (by decide) rfl rfl t2 rfl rfl (Nat.le_of_ble_eq_true rfl) d_Mo_read_51 (by decide) rfl (j_enter (L := [some (.ref a0), some (.int ((1 : Int32)))]) me_Mo_isFine (cat_c rfl (cat_c rfl cat_n)) (Nat.le_of_ble_eq_true rfl) rfl ?_)
      refine j_aload_n d_Mo_isFine_0 rfl ?_
      refine j_iload_n d_Mo_isFine_1 rfl ?_
      refine j_putI (f := 640) fw_Mo_139 rfl rfl t2 d_Mo_isFine_2 ?_
      refine j_iload_n d_Mo_isFine_5 rfl ?_
      refine j_if_ne (tgt := 13) d_Mo_isFine_6 (by decide) (fun _ => ?_) (fun c => absurd c (by decide))
      refine j_iconst (v := 0) d_Mo_isFine_13 (by decide) ?_
      refine j_zret rfl (by decide) d_Mo_isFine_14 ?_
      show J E 3 m_Mo_read 54 [some (.ref a0), some (.int p1), some (.int ((0 : Int32)))] [.int ((0 : Int32))] (sI G 640 a0 ((1 : Int32))) Post
      refine j_if_ne (tgt := 59) d_Mo_read_54 (by decide) (fun c => absurd c (by decide)) (fun _ => ?_)
      refine j_iconst (v := 0) d_Mo_read_57 (by decide) ?_
      exact j_iret rfl d_Mo_read_58 H
    · have H := Hb c27
      refine j_iconst (v := 1) d_Mo_isIn_10 (by decide) ?_
      refine j_goto (tgt := 15) d_Mo_isIn_11 (by decide) ?_
      refine j_zret rfl (by decide) d_Mo_isIn_15 ?_
      show J E 2 m_Mo_isSource 6 [some (.int p1)] [.int ((1 : Int32))] G (aft E 3 m_Mo_read 1 [some (.ref a0), some (.int p1), none] [] Post)
      refine j_zret rfl (by decide) d_Mo_isSource_6 ?_
      show J E 3 m_Mo_read 4 [some (.ref a0), some (.int p1), none] [.int ((1 : Int32))] G Post
      refine j_istore_n (L' := [some (.ref a0), some (.int p1), some (.int ((1 : Int32)))]) d_Mo_read_4 (by decide) rfl ?_
      refine j_aload_n d_Mo_read_5 rfl ?_
      refine j_iload_n d_Mo_read_6 rfl ?_
      refine j_if_ne (tgt := 14) d_Mo_read_7 (by decide) (fun _ => ?_) (fun c => absurd c (by decide))
      refine j_aload_n d_Mo_read_14 rfl ?_
      obtain ⟨t3, H⟩ := H
      obtain ⟨b4, e5, H⟩ := H
      refine j_getR (f := 653) (b := b4) fe_Mo_42 rfl rfl t3 e5 d_Mo_read_15 ?_
      refine j_iload_n d_Mo_read_18 rfl ?_
      obtain ⟨t6, H⟩ := H
      obtain ⟨n8, x7, H⟩ := H
      refine j_iald (n := n8) t6 x7 d_Mo_read_19 ?_
      refine j_aload_n d_Mo_read_20 rfl ?_
      obtain ⟨b9, e10, H⟩ := H
      refine j_getR (f := 652) (b := b9) fe_Mo_39 rfl rfl t3 e10 d_Mo_read_21 ?_
      refine j_iload_n d_Mo_read_24 rfl ?_
      obtain ⟨t11, H⟩ := H
      obtain ⟨n13, x12, H⟩ := H
      refine j_iald (n := n13) t11 x12 d_Mo_read_25 ?_
      obtain ⟨Ha, Hb⟩ := H
      refine j_icmp_eq (tgt := 46) d_Mo_read_26 (by decide) (fun c24 => ?_) (fun c25 => ?_)
      · have H := Ha c24
        refine j_iconst (v := 2) d_Mo_read_46 (by decide) ?_
        refine j_goto (tgt := 51) d_Mo_read_47 (by decide) ?_
        refine j_callV (d' := 1) (ci := 10) (As := [.int ((2 : Int32))]) (rest := []) (b := a0) cv_Mo_149 me_Mo_isFine rfl (by decide) rfl rfl t3 rfl rfl (Nat.le_of_ble_eq_true rfl) d_Mo_read_51 (by decide) rfl (j_enter (L := [some (.ref a0), some (.int ((2 : Int32)))]) me_Mo_isFine (cat_c rfl (cat_c rfl cat_n)) (Nat.le_of_ble_eq_true rfl) rfl ?_)
        refine j_aload_n d_Mo_isFine_0 rfl ?_
        refine j_iload_n d_Mo_isFine_1 rfl ?_
        refine j_putI (f := 640) fw_Mo_139 rfl rfl t3 d_Mo_isFine_2 ?_
        refine j_iload_n d_Mo_isFine_5 rfl ?_
        refine j_if_ne (tgt := 13) d_Mo_isFine_6 (by decide) (fun _ => ?_) (fun c => absurd c (by decide))
        refine j_iconst (v := 0) d_Mo_isFine_13 (by decide) ?_
        refine j_zret rfl (by decide) d_Mo_isFine_14 ?_
        show J E 3 m_Mo_read 54 [some (.ref a0), some (.int p1), some (.int ((1 : Int32)))] [.int ((0 : Int32))] (sI G 640 a0 ((2 : Int32))) Post
        refine j_if_ne (tgt := 59) d_Mo_read_54 (by decide) (fun c => absurd c (by decide)) (fun _ => ?_)
        refine j_iconst (v := 0) d_Mo_read_57 (by decide) ?_
        exact j_iret rfl d_Mo_read_58 H
      · have H := Hb c25
        refine j_aload_n d_Mo_read_29 rfl ?_
        refine j_getR (f := 653) (b := b4) fe_Mo_42 rfl rfl t3 e5 d_Mo_read_30 ?_
        refine j_iload_n d_Mo_read_33 rfl ?_
        refine j_iald (n := n8) t6 x7 d_Mo_read_34 ?_
        refine j_aload_n d_Mo_read_35 rfl ?_
        obtain ⟨b14, e15, H⟩ := H
        refine j_getR (f := 654) (b := b14) fe_Mo_45 rfl rfl t3 e15 d_Mo_read_36 ?_
        refine j_iload_n d_Mo_read_39 rfl ?_
        obtain ⟨t16, H⟩ := H
        obtain ⟨n18, x17, H⟩ := H
        refine j_iald (n := n18) t16 x17 d_Mo_read_40 ?_
        refine j_isub d_Mo_read_41 ?_
        refine j_iconst (v := 4) d_Mo_read_42 (by decide) ?_
        obtain ⟨Ha, Hb⟩ := H
        refine j_icmp_ne (tgt := 50) d_Mo_read_43 (by decide) (fun c22 => ?_) (fun c23 => ?_)
        · have H := Ha c22
          refine j_iconst (v := 0) d_Mo_read_50 (by decide) ?_
          refine j_callV (d' := 1) (ci := 10) (As := [.int ((0 : Int32))]) (rest := []) (b := a0) cv_Mo_149 me_Mo_isFine rfl (by decide) rfl rfl t3 rfl rfl (Nat.le_of_ble_eq_true rfl) d_Mo_read_51 (by decide) rfl (j_enter (L := [some (.ref a0), some (.int ((0 : Int32)))]) me_Mo_isFine (cat_c rfl (cat_c rfl cat_n)) (Nat.le_of_ble_eq_true rfl) rfl ?_)
          refine j_aload_n d_Mo_isFine_0 rfl ?_
          refine j_iload_n d_Mo_isFine_1 rfl ?_
          refine j_putI (f := 640) fw_Mo_139 rfl rfl t3 d_Mo_isFine_2 ?_
          refine j_iload_n d_Mo_isFine_5 rfl ?_
          refine j_if_ne (tgt := 13) d_Mo_isFine_6 (by decide) (fun c => absurd c (by decide)) (fun _ => ?_)
          refine j_iconst (v := 1) d_Mo_isFine_9 (by decide) ?_
          refine j_goto (tgt := 14) d_Mo_isFine_10 (by decide) ?_
          refine j_zret rfl (by decide) d_Mo_isFine_14 ?_
          show J E 3 m_Mo_read 54 [some (.ref a0), some (.int p1), some (.int ((1 : Int32)))] [.int ((1 : Int32))] (sI G 640 a0 ((0 : Int32))) Post
          refine j_if_ne (tgt := 59) d_Mo_read_54 (by decide) (fun _ => ?_) (fun c => absurd c (by decide))
          refine j_aload_n d_Mo_read_59 rfl ?_
          refine j_iconst (v := 1) d_Mo_read_60 (by decide) ?_
          refine j_putZ (f := 648) fw_Mo_146 rfl rfl t3 (by decide) d_Mo_read_61 ?_
          refine j_aload_n d_Mo_read_64 rfl ?_
          refine j_getR (f := 653) (b := b4) fe_Mo_42 rfl rfl t3 e5 d_Mo_read_65 ?_
          refine j_iload_n d_Mo_read_68 rfl ?_
          refine j_dup2 d_Mo_read_69 rfl rfl ?_
          refine j_iald (n := n8) t6 x7 d_Mo_read_70 ?_
          refine j_iconst (v := 1) d_Mo_read_71 (by decide) ?_
          refine j_iadd d_Mo_read_72 ?_
          obtain ⟨t19, H⟩ := H
          refine j_iast (n := n8) t19 x7 d_Mo_read_73 ?_
          show J E 3 m_Mo_read 74 [some (.ref a0), some (.int p1), some (.int ((1 : Int32)))] [] (sA (sI (sI G 640 a0 ((0 : Int32))) 648 a0 ((1 : Int32))) b4 n8 (((gA (sI (sI G 640 a0 ((0 : Int32))) 648 a0 ((1 : Int32))) b4 n8) + (1 : Int32)))) Post
          generalize e21 : sA (sI (sI G 640 a0 ((0 : Int32))) 648 a0 ((1 : Int32))) b4 n8 (((gA (sI (sI G 640 a0 ((0 : Int32))) 648 a0 ((1 : Int32))) b4 n8) + (1 : Int32))) = G20
          have e21 := e21.symm
          have H := H G20 e21
          refine j_aload_n d_Mo_read_74 rfl ?_
          refine j_getR (f := 653) (b := b4) fe_Mo_42 rfl rfl (by rw [e21]; exact t3) (by rw [e21]; exact e5) d_Mo_read_75 ?_
          refine j_iload_n d_Mo_read_78 rfl ?_
          refine j_iald (n := n8) (by rw [e21]; exact (Or.inl t19)) (IX_n (by first | (rw [e21]; done) | (rw [e21]; rfl)) x7) d_Mo_read_79 ?_
          refine j_aload_n d_Mo_read_80 rfl ?_
          refine j_getR (f := 654) (b := b14) fe_Mo_45 rfl rfl (by rw [e21]; exact t3) (by rw [e21]; exact e15) d_Mo_read_81 ?_
          refine j_iload_n d_Mo_read_84 rfl ?_
          refine j_iald (n := n18) (by rw [e21]; exact t16) (IX_n (by first | (rw [e21]; done) | (rw [e21]; rfl)) x17) d_Mo_read_85 ?_
          refine j_isub d_Mo_read_86 ?_
          exact j_iret rfl d_Mo_read_87 H
        · have H := Hb c23
          refine j_iconst (v := 2) d_Mo_read_46 (by decide) ?_
          refine j_goto (tgt := 51) d_Mo_read_47 (by decide) ?_
          refine j_callV (d' := 1) (ci := 10) (As := [.int ((2 : Int32))]) (rest := []) (b := a0) cv_Mo_149 me_Mo_isFine rfl (by decide) rfl rfl t3 rfl rfl (Nat.le_of_ble_eq_true rfl) d_Mo_read_51 (by decide) rfl (j_enter (L := [some (.ref a0), some (.int ((2 : Int32)))]) me_Mo_isFine (cat_c rfl (cat_c rfl cat_n)) (Nat.le_of_ble_eq_true rfl) rfl ?_)
          refine j_aload_n d_Mo_isFine_0 rfl ?_
          refine j_iload_n d_Mo_isFine_1 rfl ?_
          refine j_putI (f := 640) fw_Mo_139 rfl rfl t3 d_Mo_isFine_2 ?_
          refine j_iload_n d_Mo_isFine_5 rfl ?_
          refine j_if_ne (tgt := 13) d_Mo_isFine_6 (by decide) (fun _ => ?_) (fun c => absurd c (by decide))
          refine j_iconst (v := 0) d_Mo_isFine_13 (by decide) ?_
          refine j_zret rfl (by decide) d_Mo_isFine_14 ?_
          show J E 3 m_Mo_read 54 [some (.ref a0), some (.int p1), some (.int ((1 : Int32)))] [.int ((0 : Int32))] (sI G 640 a0 ((2 : Int32))) Post
          refine j_if_ne (tgt := 59) d_Mo_read_54 (by decide) (fun c => absurd c (by decide)) (fun _ => ?_)
          refine j_iconst (v := 0) d_Mo_read_57 (by decide) ?_
          exact j_iret rfl d_Mo_read_58 H
theorem wp_Mo_idle_0 {E : EV} {G : GH} {Post : Res → GH → Prop} (a0 : Nat) (p1 : Int32) (p2 : Int32) (H : (p1 < (0 : Int32) → gT G a0 = 11 ∧ Post (.inl (some (.int ((0 : Int32))))) (sI G 640 a0 ((1 : Int32)))) ∧ (¬ p1 < (0 : Int32) → ((2 : Int32) < p1 → gT G a0 = 11 ∧ Post (.inl (some (.int ((0 : Int32))))) (sI G 640 a0 ((1 : Int32)))) ∧ (¬ (2 : Int32) < p1 → gT G a0 = 11 ∧ ∃ b4, gR G 656 a0 = some b4 ∧ gT G b4 = 21 ∧ ∃ n8, IX p1 n8 (gN G b4) ∧ (p2 = 0 ∨ p2 = 1) ∧ Cl E 3 m_Mo_grows [.ref a0] (sA (sI G 640 a0 ((0 : Int32))) b4 n8 p2) (aft E 4 m_Mo_idle 36 [none, none, none, some (.int ((gA (sI G 640 a0 ((0 : Int32))) b4 n8)))] [] Post)))) : J E 4 m_Mo_idle 0 [some (.ref a0), some (.int p1), some (.int p2), none] [] G Post := by
  refine j_aload_n d_Mo_idle_0 rfl ?_
  refine j_iload_n d_Mo_idle_1 rfl ?_
  refine j_callS (d' := 2) (As := [.int p1]) (rest := [.ref a0]) cs_Mo_156 me_Mo_isSource rfl (by decide) rfl rfl (Nat.le_of_ble_eq_true rfl) d_Mo_idle_2 (by decide) rfl (j_enter (L := [some (.int p1)]) me_Mo_isSource (cat_c rfl cat_n) (Nat.le_of_ble_eq_true rfl) rfl ?_)
  refine j_iload_n d_Mo_isSource_0 rfl ?_
  refine j_iconst (v := 0) d_Mo_isSource_1 (by decide) ?_
  refine j_iconst (v := 2) d_Mo_isSource_2 (by decide) ?_
  refine j_callS (d' := 1) (As := [.int p1, .int ((0 : Int32)), .int ((2 : Int32))]) (rest := []) cs_Mo_142 me_Mo_isIn rfl (by decide) rfl rfl (Nat.le_of_ble_eq_true rfl) d_Mo_isSource_3 (by decide) rfl (j_enter (L := [some (.int p1), some (.int ((0 : Int32))), some (.int ((2 : Int32)))]) me_Mo_isIn (cat_c rfl (cat_c rfl (cat_c rfl cat_n))) (Nat.le_of_ble_eq_true rfl) rfl ?_)
  refine j_iload_n d_Mo_isIn_0 rfl ?_
  refine j_iload_n d_Mo_isIn_1 rfl ?_
  obtain ⟨Ha, Hb⟩ := H
  refine j_icmp_lt (tgt := 14) d_Mo_isIn_2 (by decide) (fun c12 => ?_) (fun c13 => ?_)
  · have H := Ha c12
    refine j_iconst (v := 0) d_Mo_isIn_14 (by decide) ?_
    refine j_zret rfl (by decide) d_Mo_isIn_15 ?_
    show J E 2 m_Mo_isSource 6 [some (.int p1)] [.int ((0 : Int32))] G (aft E 4 m_Mo_idle 2 [some (.ref a0), some (.int p1), some (.int p2), none] [.ref a0] Post)
    refine j_zret rfl (by decide) d_Mo_isSource_6 ?_
    show J E 4 m_Mo_idle 5 [some (.ref a0), some (.int p1), some (.int p2), none] [.int ((0 : Int32)), .ref a0] G Post
    refine j_if_eq (tgt := 12) d_Mo_idle_5 (by decide) (fun _ => ?_) (fun c => absurd c (by decide))
    refine j_iconst (v := 1) d_Mo_idle_12 (by decide) ?_
    obtain ⟨t1, H⟩ := H
    refine j_callV (d' := 1) (ci := 10) (As := [.int ((1 : Int32))]) (rest := []) (b := a0) cv_Mo_149 me_Mo_isFine rfl (by decide) rfl rfl t1 rfl rfl (Nat.le_of_ble_eq_true rfl) d_Mo_idle_13 (by decide) rfl (j_enter (L := [some (.ref a0), some (.int ((1 : Int32)))]) me_Mo_isFine (cat_c rfl (cat_c rfl cat_n)) (Nat.le_of_ble_eq_true rfl) rfl ?_)
    refine j_aload_n d_Mo_isFine_0 rfl ?_
    refine j_iload_n d_Mo_isFine_1 rfl ?_
    refine j_putI (f := 640) fw_Mo_139 rfl rfl t1 d_Mo_isFine_2 ?_
    refine j_iload_n d_Mo_isFine_5 rfl ?_
    refine j_if_ne (tgt := 13) d_Mo_isFine_6 (by decide) (fun _ => ?_) (fun c => absurd c (by decide))
    refine j_iconst (v := 0) d_Mo_isFine_13 (by decide) ?_
    refine j_zret rfl (by decide) d_Mo_isFine_14 ?_
    show J E 4 m_Mo_idle 16 [some (.ref a0), some (.int p1), some (.int p2), none] [.int ((0 : Int32))] (sI G 640 a0 ((1 : Int32))) Post
    refine j_if_ne (tgt := 21) d_Mo_idle_16 (by decide) (fun c => absurd c (by decide)) (fun _ => ?_)
    refine j_iconst (v := 0) d_Mo_idle_19 (by decide) ?_
    exact j_zret rfl (by decide) d_Mo_idle_20 H
  · have H := Hb c13
    refine j_iload_n d_Mo_isIn_5 rfl ?_
    refine j_iload_n d_Mo_isIn_6 rfl ?_
    obtain ⟨Ha, Hb⟩ := H
    refine j_icmp_gt (tgt := 14) d_Mo_isIn_7 (by decide) (fun c10 => ?_) (fun c11 => ?_)
    · have H := Ha c10
      refine j_iconst (v := 0) d_Mo_isIn_14 (by decide) ?_
      refine j_zret rfl (by decide) d_Mo_isIn_15 ?_
      show J E 2 m_Mo_isSource 6 [some (.int p1)] [.int ((0 : Int32))] G (aft E 4 m_Mo_idle 2 [some (.ref a0), some (.int p1), some (.int p2), none] [.ref a0] Post)
      refine j_zret rfl (by decide) d_Mo_isSource_6 ?_
      show J E 4 m_Mo_idle 5 [some (.ref a0), some (.int p1), some (.int p2), none] [.int ((0 : Int32)), .ref a0] G Post
      refine j_if_eq (tgt := 12) d_Mo_idle_5 (by decide) (fun _ => ?_) (fun c => absurd c (by decide))
      refine j_iconst (v := 1) d_Mo_idle_12 (by decide) ?_
      obtain ⟨t2, H⟩ := H
      refine j_callV (d' := 1) (ci := 10) (As := [.int ((1 : Int32))]) (rest := []) (b := a0) cv_Mo_149 me_Mo_isFine rfl (by decide) rfl rfl t2 rfl rfl (Nat.le_of_ble_eq_true rfl) d_Mo_idle_13 (by decide) rfl (j_enter (L := [some (.ref a0), some (.int ((1 : Int32)))]) me_Mo_isFine (cat_c rfl (cat_c rfl cat_n)) (Nat.le_of_ble_eq_true rfl) rfl ?_)
      refine j_aload_n d_Mo_isFine_0 rfl ?_
      refine j_iload_n d_Mo_isFine_1 rfl ?_
      refine j_putI (f := 640) fw_Mo_139 rfl rfl t2 d_Mo_isFine_2 ?_
      refine j_iload_n d_Mo_isFine_5 rfl ?_
      refine j_if_ne (tgt := 13) d_Mo_isFine_6 (by decide) (fun _ => ?_) (fun c => absurd c (by decide))
      refine j_iconst (v := 0) d_Mo_isFine_13 (by decide) ?_
      refine j_zret rfl (by decide) d_Mo_isFine_14 ?_
      show J E 4 m_Mo_idle 16 [some (.ref a0), some (.int p1), some (.int p2), none] [.int ((0 : Int32))] (sI G 640 a0 ((1 : Int32))) Post
      refine j_if_ne (tgt := 21) d_Mo_idle_16 (by decide) (fun c => absurd c (by decide)) (fun _ => ?_)
      refine j_iconst (v := 0) d_Mo_idle_19 (by decide) ?_
      exact j_zret rfl (by decide) d_Mo_idle_20 H
    · have H := Hb c11
      refine j_iconst (v := 1) d_Mo_isIn_10 (by decide) ?_
      refine j_goto (tgt := 15) d_Mo_isIn_11 (by decide) ?_
      refine j_zret rfl (by decide) d_Mo_isIn_15 ?_
      show J E 2 m_Mo_isSource 6 [some (.int p1)] [.int ((1 : Int32))] G (aft E 4 m_Mo_idle 2 [some (.ref a0), some (.int p1), some (.int p2), none] [.ref a0] Post)
      refine j_zret rfl (by decide) d_Mo_isSource_6 ?_
      show J E 4 m_Mo_idle 5 [some (.ref a0), some (.int p1), some (.int p2), none] [.int ((1 : Int32)), .ref a0] G Post
      refine j_if_eq (tgt := 12) d_Mo_idle_5 (by decide) (fun c => absurd c (by decide)) (fun _ => ?_)
      refine j_iconst (v := 0) d_Mo_idle_8 (by decide) ?_
      refine j_goto (tgt := 13) d_Mo_idle_9 (by decide) ?_
      obtain ⟨t3, H⟩ := H
      refine j_callV (d' := 1) (ci := 10) (As := [.int ((0 : Int32))]) (rest := []) (b := a0) cv_Mo_149 me_Mo_isFine rfl (by decide) rfl rfl t3 rfl rfl (Nat.le_of_ble_eq_true rfl) d_Mo_idle_13 (by decide) rfl (j_enter (L := [some (.ref a0), some (.int ((0 : Int32)))]) me_Mo_isFine (cat_c rfl (cat_c rfl cat_n)) (Nat.le_of_ble_eq_true rfl) rfl ?_)
      refine j_aload_n d_Mo_isFine_0 rfl ?_
      refine j_iload_n d_Mo_isFine_1 rfl ?_
      refine j_putI (f := 640) fw_Mo_139 rfl rfl t3 d_Mo_isFine_2 ?_
      refine j_iload_n d_Mo_isFine_5 rfl ?_
      refine j_if_ne (tgt := 13) d_Mo_isFine_6 (by decide) (fun c => absurd c (by decide)) (fun _ => ?_)
      refine j_iconst (v := 1) d_Mo_isFine_9 (by decide) ?_
      refine j_goto (tgt := 14) d_Mo_isFine_10 (by decide) ?_
      refine j_zret rfl (by decide) d_Mo_isFine_14 ?_
      show J E 4 m_Mo_idle 16 [some (.ref a0), some (.int p1), some (.int p2), none] [.int ((1 : Int32))] (sI G 640 a0 ((0 : Int32))) Post
      refine j_if_ne (tgt := 21) d_Mo_idle_16 (by decide) (fun _ => ?_) (fun c => absurd c (by decide))
      refine j_aload_n d_Mo_idle_21 rfl ?_
      obtain ⟨b4, e5, H⟩ := H
      refine j_getR (f := 656) (b := b4) fe_Mo_51 rfl rfl t3 e5 d_Mo_idle_22 ?_
      refine j_iload_n d_Mo_idle_25 rfl ?_
      obtain ⟨t6, H⟩ := H
      obtain ⟨n8, x7, H⟩ := H
      refine j_zald (n := n8) t6 x7 d_Mo_idle_26 ?_
      refine j_istore_n (L' := [some (.ref a0), some (.int p1), some (.int p2), some (.int ((gA (sI G 640 a0 ((0 : Int32))) b4 n8)))]) d_Mo_idle_27 (by decide) rfl ?_
      refine j_aload_n d_Mo_idle_28 rfl ?_
      refine j_getR (f := 656) (b := b4) fe_Mo_51 rfl rfl t3 e5 d_Mo_idle_29 ?_
      refine j_iload_n d_Mo_idle_32 rfl ?_
      refine j_iload_n d_Mo_idle_33 rfl ?_
      obtain ⟨z9, H⟩ := H
      refine j_zast (n := n8) t6 x7 z9 d_Mo_idle_34 ?_
      refine j_aload_n d_Mo_idle_35 rfl ?_
      refine j_forget (L' := [none, none, none, some (.int ((gA (sI G 640 a0 ((0 : Int32))) b4 n8)))]) ⟨Or.inl rfl, Or.inl rfl, Or.inl rfl, Or.inr rfl, trivial⟩ ?_
      exact j_callV (d' := 3) (ci := 10) (As := []) (rest := []) (b := a0) cv_Mo_162 me_Mo_grows rfl (by decide) rfl rfl t3 rfl rfl (Nat.le_of_ble_eq_true rfl) d_Mo_idle_36 (by decide) rfl H
theorem wp_Mo_idle_39 {E : EV} {G : GH} {Post : Res → GH → Prop} (p3 : Int32) (H : (p3 = 0 ∨ p3 = 1) ∧ Post (.inl (some (.int p3))) G) : J E 4 m_Mo_idle 39 [none, none, none, some (.int p3)] [] G Post := by
  refine j_iload_n d_Mo_idle_39 rfl ?_
  obtain ⟨z1, H⟩ := H
  exact j_zret rfl z1 d_Mo_idle_40 H
theorem wp_Mo_sends_0 {E : EV} {G : GH} {Post : Res → GH → Prop} (a0 : Nat) (p1 : Int32) (p2 : Int32) (H : gT G a0 = 11 ∧ ∃ b2, gR G 674 a0 = some b2 ∧ ∃ b4, gR G 663 a0 = some b4 ∧ (gT G b4 = 20 ∨ gT G b4 = 25) ∧ ∃ n8, IX p1 n8 (gN G b4) ∧ gT G b2 = 20 ∧ ∃ n11, IX ((gI G 680 a0)) n11 (gN G b2) ∧ ∃ b12, gR G 675 a0 = some b12 ∧ ∃ b14, gR G 664 a0 = some b14 ∧ (gT G b14 = 20 ∨ gT G b14 = 25) ∧ ∃ n18, IX p1 n18 (gN G b14) ∧ gT G b12 = 20 ∧ ∃ n21, IX ((gI G 680 a0)) n21 (gN G b12) ∧ ∃ b22, gR G 676 a0 = some b22 ∧ ∃ b24, gR G 665 a0 = some b24 ∧ (gT G b24 = 20 ∨ gT G b24 = 25) ∧ ∃ n28, IX p1 n28 (gN G b24) ∧ gT G b22 = 20 ∧ ∃ n31, IX ((gI G 680 a0)) n31 (gN G b22) ∧ ∀ G32, G32 = sA (sA (sA G b2 n11 ((gA G b4 n8))) b12 n21 ((gA (sA G b2 n11 ((gA G b4 n8))) b14 n18))) b22 n31 ((gA (sA (sA G b2 n11 ((gA G b4 n8))) b12 n21 ((gA (sA G b2 n11 ((gA G b4 n8))) b14 n18))) b24 n28)) → ∃ b34, gR G 677 a0 = some b34 ∧ ∃ b36, gR G 666 a0 = some b36 ∧ (gT G b36 = 20 ∨ gT G b36 = 25) ∧ ∃ n40, IX p1 n40 (gN G b36) ∧ gT G b34 = 20 ∧ ∃ n43, IX ((gI G 680 a0)) n43 (gN G b34) ∧ ∃ b44, gR G 678 a0 = some b44 ∧ ∃ b46, gR G 667 a0 = some b46 ∧ (gT G b46 = 20 ∨ gT G b46 = 25) ∧ ∃ n50, IX p1 n50 (gN G b46) ∧ gT G b44 = 20 ∧ ∃ n53, IX ((gI G 680 a0)) n53 (gN G b44) ∧ ∃ b54, gR G 679 a0 = some b54 ∧ gT G b54 = 21 ∧ ∃ n58, IX ((gI G 680 a0)) n58 (gN G b54) ∧ (p2 = 0 ∨ p2 = 1) ∧ ∀ G60, G60 = sA (sA (sA G32 b34 n43 ((gA G32 b36 n40))) b44 n53 ((gA (sA G32 b34 n43 ((gA G32 b36 n40))) b46 n50))) b54 n58 p2 → Post (.inl none) (sI G60 680 a0 (((gI G 680 a0) + (1 : Int32))))) : J E 1 m_Mo_sends 0 [some (.ref a0), some (.int p1), some (.int p2)] [] G Post := by
  refine j_aload_n d_Mo_sends_0 rfl ?_
  obtain ⟨t1, H⟩ := H
  obtain ⟨b2, e3, H⟩ := H
  refine j_getR (f := 674) (b := b2) fe_Mo_91 rfl rfl t1 e3 d_Mo_sends_1 ?_
  refine j_aload_n d_Mo_sends_4 rfl ?_
  refine j_getI (f := 680) fe_Mo_169 rfl rfl t1 d_Mo_sends_5 ?_
  refine j_aload_n d_Mo_sends_8 rfl ?_
  obtain ⟨b4, e5, H⟩ := H
  refine j_getR (f := 663) (b := b4) fe_Mo_67 rfl rfl t1 e5 d_Mo_sends_9 ?_
  refine j_iload_n d_Mo_sends_12 rfl ?_
  obtain ⟨t6, H⟩ := H
  obtain ⟨n8, x7, H⟩ := H
  refine j_iald (n := n8) t6 x7 d_Mo_sends_13 ?_
  obtain ⟨t9, H⟩ := H
  obtain ⟨n11, x10, H⟩ := H
  refine j_iast (n := n11) t9 x10 d_Mo_sends_14 ?_
  refine j_aload_n d_Mo_sends_15 rfl ?_
  obtain ⟨b12, e13, H⟩ := H
  refine j_getR (f := 675) (b := b12) fe_Mo_94 rfl rfl t1 e13 d_Mo_sends_16 ?_
  refine j_aload_n d_Mo_sends_19 rfl ?_
  refine j_getI (f := 680) fe_Mo_169 rfl rfl t1 d_Mo_sends_20 ?_
  refine j_aload_n d_Mo_sends_23 rfl ?_
  obtain ⟨b14, e15, H⟩ := H
  refine j_getR (f := 664) (b := b14) fe_Mo_70 rfl rfl t1 e15 d_Mo_sends_24 ?_
  refine j_iload_n d_Mo_sends_27 rfl ?_
  obtain ⟨t16, H⟩ := H
  obtain ⟨n18, x17, H⟩ := H
  refine j_iald (n := n18) t16 x17 d_Mo_sends_28 ?_
  obtain ⟨t19, H⟩ := H
  obtain ⟨n21, x20, H⟩ := H
  refine j_iast (n := n21) t19 x20 d_Mo_sends_29 ?_
  refine j_aload_n d_Mo_sends_30 rfl ?_
  obtain ⟨b22, e23, H⟩ := H
  refine j_getR (f := 676) (b := b22) fe_Mo_97 rfl rfl t1 e23 d_Mo_sends_31 ?_
  refine j_aload_n d_Mo_sends_34 rfl ?_
  refine j_getI (f := 680) fe_Mo_169 rfl rfl t1 d_Mo_sends_35 ?_
  refine j_aload_n d_Mo_sends_38 rfl ?_
  obtain ⟨b24, e25, H⟩ := H
  refine j_getR (f := 665) (b := b24) fe_Mo_73 rfl rfl t1 e25 d_Mo_sends_39 ?_
  refine j_iload_n d_Mo_sends_42 rfl ?_
  obtain ⟨t26, H⟩ := H
  obtain ⟨n28, x27, H⟩ := H
  refine j_iald (n := n28) t26 x27 d_Mo_sends_43 ?_
  obtain ⟨t29, H⟩ := H
  obtain ⟨n31, x30, H⟩ := H
  refine j_iast (n := n31) t29 x30 d_Mo_sends_44 ?_
  show J E 1 m_Mo_sends 45 [some (.ref a0), some (.int p1), some (.int p2)] [] (sA (sA (sA G b2 n11 ((gA G b4 n8))) b12 n21 ((gA (sA G b2 n11 ((gA G b4 n8))) b14 n18))) b22 n31 ((gA (sA (sA G b2 n11 ((gA G b4 n8))) b12 n21 ((gA (sA G b2 n11 ((gA G b4 n8))) b14 n18))) b24 n28))) Post
  generalize e33 : sA (sA (sA G b2 n11 ((gA G b4 n8))) b12 n21 ((gA (sA G b2 n11 ((gA G b4 n8))) b14 n18))) b22 n31 ((gA (sA (sA G b2 n11 ((gA G b4 n8))) b12 n21 ((gA (sA G b2 n11 ((gA G b4 n8))) b14 n18))) b24 n28)) = G32
  have e33 := e33.symm
  have H := H G32 e33
  refine j_aload_n d_Mo_sends_45 rfl ?_
  obtain ⟨b34, e35, H⟩ := H
  refine j_getR (f := 677) (b := b34) fe_Mo_100 rfl rfl (by rw [e33]; exact t1) (by rw [e33]; exact e35) d_Mo_sends_46 ?_
  refine j_aload_n d_Mo_sends_49 rfl ?_
  refine j_getIv (f := 680) (v := (gI G 680 a0)) fe_Mo_169 rfl rfl (by rw [e33]; exact t1) (by rw [e33]; rfl) d_Mo_sends_50 ?_
  refine j_aload_n d_Mo_sends_53 rfl ?_
  obtain ⟨b36, e37, H⟩ := H
  refine j_getR (f := 666) (b := b36) fe_Mo_76 rfl rfl (by rw [e33]; exact t1) (by rw [e33]; exact e37) d_Mo_sends_54 ?_
  refine j_iload_n d_Mo_sends_57 rfl ?_
  obtain ⟨t38, H⟩ := H
  obtain ⟨n40, x39, H⟩ := H
  refine j_iald (n := n40) (by rw [e33]; exact t38) (IX_n (by first | (rw [e33]; done) | (rw [e33]; rfl)) x39) d_Mo_sends_58 ?_
  obtain ⟨t41, H⟩ := H
  obtain ⟨n43, x42, H⟩ := H
  refine j_iast (n := n43) (by rw [e33]; exact t41) (IX_n (by first | (rw [e33]; done) | (rw [e33]; rfl)) x42) d_Mo_sends_59 ?_
  refine j_aload_n d_Mo_sends_60 rfl ?_
  obtain ⟨b44, e45, H⟩ := H
  refine j_getR (f := 678) (b := b44) fe_Mo_103 rfl rfl (by rw [e33]; exact t1) (by rw [e33]; exact e45) d_Mo_sends_61 ?_
  refine j_aload_n d_Mo_sends_64 rfl ?_
  refine j_getIv (f := 680) (v := (gI G 680 a0)) fe_Mo_169 rfl rfl (by rw [e33]; exact t1) (by rw [e33]; rfl) d_Mo_sends_65 ?_
  refine j_aload_n d_Mo_sends_68 rfl ?_
  obtain ⟨b46, e47, H⟩ := H
  refine j_getR (f := 667) (b := b46) fe_Mo_79 rfl rfl (by rw [e33]; exact t1) (by rw [e33]; exact e47) d_Mo_sends_69 ?_
  refine j_iload_n d_Mo_sends_72 rfl ?_
  obtain ⟨t48, H⟩ := H
  obtain ⟨n50, x49, H⟩ := H
  refine j_iald (n := n50) (by rw [e33]; exact t48) (IX_n (by first | (rw [e33]; done) | (rw [e33]; rfl)) x49) d_Mo_sends_73 ?_
  obtain ⟨t51, H⟩ := H
  obtain ⟨n53, x52, H⟩ := H
  refine j_iast (n := n53) (by rw [e33]; exact t51) (IX_n (by first | (rw [e33]; done) | (rw [e33]; rfl)) x52) d_Mo_sends_74 ?_
  refine j_aload_n d_Mo_sends_75 rfl ?_
  obtain ⟨b54, e55, H⟩ := H
  refine j_getR (f := 679) (b := b54) fe_Mo_106 rfl rfl (by rw [e33]; exact t1) (by rw [e33]; exact e55) d_Mo_sends_76 ?_
  refine j_aload_n d_Mo_sends_79 rfl ?_
  refine j_getIv (f := 680) (v := (gI G 680 a0)) fe_Mo_169 rfl rfl (by rw [e33]; exact t1) (by rw [e33]; rfl) d_Mo_sends_80 ?_
  refine j_iload_n d_Mo_sends_83 rfl ?_
  obtain ⟨t56, H⟩ := H
  obtain ⟨n58, x57, H⟩ := H
  obtain ⟨z59, H⟩ := H
  refine j_zast (n := n58) (by rw [e33]; exact t56) (IX_n (by first | (rw [e33]; done) | (rw [e33]; rfl)) x57) z59 d_Mo_sends_84 ?_
  show J E 1 m_Mo_sends 85 [some (.ref a0), some (.int p1), some (.int p2)] [] (sA (sA (sA G32 b34 n43 ((gA G32 b36 n40))) b44 n53 ((gA (sA G32 b34 n43 ((gA G32 b36 n40))) b46 n50))) b54 n58 p2) Post
  generalize e61 : sA (sA (sA G32 b34 n43 ((gA G32 b36 n40))) b44 n53 ((gA (sA G32 b34 n43 ((gA G32 b36 n40))) b46 n50))) b54 n58 p2 = G60
  have e61 := e61.symm
  have H := H G60 e61
  refine j_aload_n d_Mo_sends_85 rfl ?_
  refine j_dup d_Mo_sends_86 rfl ?_
  refine j_getIv (f := 680) (v := (gI G 680 a0)) fe_Mo_169 rfl rfl (by rw [e61, e33]; exact t1) (by rw [e61, e33]; rfl) d_Mo_sends_87 ?_
  refine j_iconst (v := 1) d_Mo_sends_90 (by decide) ?_
  refine j_iadd d_Mo_sends_91 ?_
  refine j_putI (f := 680) fw_Mo_169 rfl rfl (by rw [e61, e33]; exact t1) d_Mo_sends_92 ?_
  exact j_vret rfl d_Mo_sends_95 H
theorem wp_Mo_grows_0 {E : EV} {G : GH} {Post : Res → GH → Prop} (a0 : Nat) (H : J E 3 m_Mo_grows 4 [some (.ref a0), some (.int ((-1 : Int32))), some (.int ((0 : Int32)))] [] G Post) : J E 3 m_Mo_grows 0 [some (.ref a0), none, none] [] G Post := by
  refine j_iconst (v := -1) d_Mo_grows_0 (by decide) ?_
  refine j_istore_n (L' := [some (.ref a0), some (.int ((-1 : Int32))), none]) d_Mo_grows_1 (by decide) rfl ?_
  refine j_iconst (v := 0) d_Mo_grows_2 (by decide) ?_
  refine j_istore_n (L' := [some (.ref a0), some (.int ((-1 : Int32))), some (.int ((0 : Int32)))]) d_Mo_grows_3 (by decide) rfl ?_
  exact H
theorem wp_Mo_grows_4 {E : EV} {G : GH} {Post : Res → GH → Prop} (a0 : Nat) (p1 : Int32) (p2 : Int32) (H : ((3 : Int32) ≤ p2 → (¬ p1 = (-1 : Int32) → gT G a0 = 11 ∧ ∃ b2, gR G 657 a0 = some b2 ∧ (gT G b2 = 20 ∨ gT G b2 = 25) ∧ ∃ n6, IX p1 n6 (gN G b2) ∧ (¬ (gA G b2 n6) = (-1 : Int32) → ∃ b7, gR G 655 a0 = some b7 ∧ (gT G b7 = 20 ∨ gT G b7 = 25) ∧ ∃ n11, IX p1 n11 (gN G b7) ∧ ((-1 : Int32) ≤ ((gA G b2 n6) - (gA G b7 n11)) → ((gI G 658 a0) ≤ ((gA G b2 n6) - (gA G b7 n11)) → Cl E 2 m_Mo_first [.ref a0] (sI G 658 a0 (((gA G b2 n6) - (gA G b7 n11)))) (aft E 3 m_Mo_grows 85 [some (.ref a0), none, none] [] Post)) ∧ (¬ (gI G 658 a0) ≤ ((gA G b2 n6) - (gA G b7 n11)) → Cl E 2 m_Mo_first [.ref a0] (sI G 658 a0 ((gI G 658 a0))) (aft E 3 m_Mo_grows 85 [some (.ref a0), none, none] [] Post))) ∧ (¬ (-1 : Int32) ≤ ((gA G b2 n6) - (gA G b7 n11)) → ((gI G 658 a0) ≤ (-1 : Int32) → Cl E 2 m_Mo_first [.ref a0] (sI G 658 a0 ((-1 : Int32))) (aft E 3 m_Mo_grows 85 [some (.ref a0), none, none] [] Post)) ∧ (¬ (gI G 658 a0) ≤ (-1 : Int32) → Cl E 2 m_Mo_first [.ref a0] (sI G 658 a0 ((gI G 658 a0))) (aft E 3 m_Mo_grows 85 [some (.ref a0), none, none] [] Post)))) ∧ ((gA G b2 n6) = (-1 : Int32) → ((gI G 658 a0) ≤ (-1 : Int32) → Cl E 2 m_Mo_first [.ref a0] (sI G 658 a0 ((-1 : Int32))) (aft E 3 m_Mo_grows 85 [some (.ref a0), none, none] [] Post)) ∧ (¬ (gI G 658 a0) ≤ (-1 : Int32) → Cl E 2 m_Mo_first [.ref a0] (sI G 658 a0 ((gI G 658 a0))) (aft E 3 m_Mo_grows 85 [some (.ref a0), none, none] [] Post)))) ∧ (p1 = (-1 : Int32) → gT G a0 = 11 ∧ Cl E 2 m_Mo_first [.ref a0] (sI G 658 a0 ((gI G 658 a0))) (aft E 3 m_Mo_grows 85 [some (.ref a0), none, none] [] Post))) ∧ (¬ (3 : Int32) ≤ p2 → gT G a0 = 11 ∧ ∃ b26, gR G 656 a0 = some b26 ∧ gT G b26 = 21 ∧ ∃ n30, IX p2 n30 (gN G b26) ∧ ((gA G b26 n30) = 0 → (¬ p1 = (-1 : Int32) → ∃ b31, gR G 657 a0 = some b31 ∧ (gT G b31 = 20 ∨ gT G b31 = 25) ∧ ∃ n35, IX p2 n35 (gN G b31) ∧ (¬ (gA G b31 n35) = (-1 : Int32) → ∃ b36, gR G 655 a0 = some b36 ∧ (gT G b36 = 20 ∨ gT G b36 = 25) ∧ ∃ n40, IX p2 n40 (gN G b36) ∧ ((-1 : Int32) ≤ ((gA G b31 n35) - (gA G b36 n40)) → ∃ n42, IX p1 n42 (gN G b31) ∧ (¬ (gA G b31 n42) = (-1 : Int32) → ∃ n44, IX p1 n44 (gN G b36) ∧ ((-1 : Int32) ≤ ((gA G b31 n42) - (gA G b36 n44)) → (((gA G b31 n42) - (gA G b36 n44)) ≤ ((gA G b31 n35) - (gA G b36 n40)) → J E 3 m_Mo_grows 4 [some (.ref a0), some (.int p1), some (.int ((p2 + (1 : Int32))))] [] G Post) ∧ (¬ ((gA G b31 n42) - (gA G b36 n44)) ≤ ((gA G b31 n35) - (gA G b36 n40)) → J E 3 m_Mo_grows 4 [some (.ref a0), some (.int p2), some (.int ((p2 + (1 : Int32))))] [] G Post)) ∧ (¬ (-1 : Int32) ≤ ((gA G b31 n42) - (gA G b36 n44)) → ((-1 : Int32) ≤ ((gA G b31 n35) - (gA G b36 n40)) → J E 3 m_Mo_grows 4 [some (.ref a0), some (.int p1), some (.int ((p2 + (1 : Int32))))] [] G Post) ∧ (¬ (-1 : Int32) ≤ ((gA G b31 n35) - (gA G b36 n40)) → J E 3 m_Mo_grows 4 [some (.ref a0), some (.int p2), some (.int ((p2 + (1 : Int32))))] [] G Post))) ∧ ((gA G b31 n42) = (-1 : Int32) → ((-1 : Int32) ≤ ((gA G b31 n35) - (gA G b36 n40)) → J E 3 m_Mo_grows 4 [some (.ref a0), some (.int p1), some (.int ((p2 + (1 : Int32))))] [] G Post) ∧ (¬ (-1 : Int32) ≤ ((gA G b31 n35) - (gA G b36 n40)) → J E 3 m_Mo_grows 4 [some (.ref a0), some (.int p2), some (.int ((p2 + (1 : Int32))))] [] G Post))) ∧ (¬ (-1 : Int32) ≤ ((gA G b31 n35) - (gA G b36 n40)) → ∃ n56, IX p1 n56 (gN G b31) ∧ (¬ (gA G b31 n56) = (-1 : Int32) → ∃ n58, IX p1 n58 (gN G b36) ∧ ((-1 : Int32) ≤ ((gA G b31 n56) - (gA G b36 n58)) → (((gA G b31 n56) - (gA G b36 n58)) ≤ (-1 : Int32) → J E 3 m_Mo_grows 4 [some (.ref a0), some (.int p1), some (.int ((p2 + (1 : Int32))))] [] G Post) ∧ (¬ ((gA G b31 n56) - (gA G b36 n58)) ≤ (-1 : Int32) → J E 3 m_Mo_grows 4 [some (.ref a0), some (.int p2), some (.int ((p2 + (1 : Int32))))] [] G Post)) ∧ (¬ (-1 : Int32) ≤ ((gA G b31 n56) - (gA G b36 n58)) → J E 3 m_Mo_grows 4 [some (.ref a0), some (.int p1), some (.int ((p2 + (1 : Int32))))] [] G Post)) ∧ ((gA G b31 n56) = (-1 : Int32) → J E 3 m_Mo_grows 4 [some (.ref a0), some (.int p1), some (.int ((p2 + (1 : Int32))))] [] G Post))) ∧ ((gA G b31 n35) = (-1 : Int32) → ∃ n68, IX p1 n68 (gN G b31) ∧ (¬ (gA G b31 n68) = (-1 : Int32) → ∃ b69, gR G 655 a0 = some b69 ∧ (gT G b69 = 20 ∨ gT G b69 = 25) ∧ ∃ n73, IX p1 n73 (gN G b69) ∧ ((-1 : Int32) ≤ ((gA G b31 n68) - (gA G b69 n73)) → (((gA G b31 n68) - (gA G b69 n73)) ≤ (-1 : Int32) → J E 3 m_Mo_grows 4 [some (.ref a0), some (.int p1), some (.int ((p2 + (1 : Int32))))] [] G Post) ∧ (¬ ((gA G b31 n68) - (gA G b69 n73)) ≤ (-1 : Int32) → J E 3 m_Mo_grows 4 [some (.ref a0), some (.int p2), some (.int ((p2 + (1 : Int32))))] [] G Post)) ∧ (¬ (-1 : Int32) ≤ ((gA G b31 n68) - (gA G b69 n73)) → J E 3 m_Mo_grows 4 [some (.ref a0), some (.int p1), some (.int ((p2 + (1 : Int32))))] [] G Post)) ∧ ((gA G b31 n68) = (-1 : Int32) → J E 3 m_Mo_grows 4 [some (.ref a0), some (.int p1), some (.int ((p2 + (1 : Int32))))] [] G Post))) ∧ (p1 = (-1 : Int32) → J E 3 m_Mo_grows 4 [some (.ref a0), some (.int p2), some (.int ((p2 + (1 : Int32))))] [] G Post)) ∧ (¬ (gA G b26 n30) = 0 → J E 3 m_Mo_grows 4 [some (.ref a0), some (.int p1), some (.int ((p2 + (1 : Int32))))] [] G Post))) : J E 3 m_Mo_grows 4 [some (.ref a0), some (.int p1), some (.int p2)] [] G Post := by
  refine j_iload_n d_Mo_grows_4 rfl ?_
  refine j_iconst (v := 3) d_Mo_grows_5 (by decide) ?_
  obtain ⟨Ha, Hb⟩ := H
  refine j_icmp_ge (tgt := 56) d_Mo_grows_6 (by decide) (fun c86 => ?_) (fun c87 => ?_)
  · have H := Ha c86
    refine j_aload_n d_Mo_grows_56 rfl ?_
    refine j_iload_n d_Mo_grows_57 rfl ?_
    refine j_iconst (v := -1) d_Mo_grows_58 (by decide) ?_
    obtain ⟨Ha, Hb⟩ := H
    refine j_icmp_ne (tgt := 69) d_Mo_grows_59 (by decide) (fun c23 => ?_) (fun c24 => ?_)
    · have H := Ha c23
      refine j_aload_n d_Mo_grows_69 rfl ?_
      obtain ⟨t1, H⟩ := H
      refine j_getI (f := 658) fe_Mo_58 rfl rfl t1 d_Mo_grows_70 ?_
      refine j_aload_n d_Mo_grows_73 rfl ?_
      refine j_iload_n d_Mo_grows_74 rfl ?_
      refine j_callV (d' := 2) (ci := 10) (As := [.int p1]) (rest := [.int ((gI G 658 a0)), .ref a0]) (b := a0) cv_Mo_172 me_Mo_markOf rfl (by decide) rfl rfl t1 rfl rfl (Nat.le_of_ble_eq_true rfl) d_Mo_grows_75 (by decide) rfl (j_enter (L := [some (.ref a0), some (.int p1)]) me_Mo_markOf (cat_c rfl (cat_c rfl cat_n)) (Nat.le_of_ble_eq_true rfl) rfl ?_)
      refine j_aload_n d_Mo_markOf_0 rfl ?_
      obtain ⟨b2, e3, H⟩ := H
      refine j_getR (f := 657) (b := b2) fe_Mo_55 rfl rfl t1 e3 d_Mo_markOf_1 ?_
      refine j_iload_n d_Mo_markOf_4 rfl ?_
      obtain ⟨t4, H⟩ := H
      obtain ⟨n6, x5, H⟩ := H
      refine j_iald (n := n6) t4 x5 d_Mo_markOf_5 ?_
      refine j_iconst (v := -1) d_Mo_markOf_6 (by decide) ?_
      obtain ⟨Ha, Hb⟩ := H
      refine j_icmp_ne (tgt := 14) d_Mo_markOf_7 (by decide) (fun c20 => ?_) (fun c21 => ?_)
      · have H := Ha c20
        refine j_iconst (v := -1) d_Mo_markOf_14 (by decide) ?_
        refine j_aload_n d_Mo_markOf_15 rfl ?_
        refine j_getR (f := 657) (b := b2) fe_Mo_55 rfl rfl t1 e3 d_Mo_markOf_16 ?_
        refine j_iload_n d_Mo_markOf_19 rfl ?_
        refine j_iald (n := n6) t4 x5 d_Mo_markOf_20 ?_
        refine j_aload_n d_Mo_markOf_21 rfl ?_
        obtain ⟨b7, e8, H⟩ := H
        refine j_getR (f := 655) (b := b7) fe_Mo_48 rfl rfl t1 e8 d_Mo_markOf_22 ?_
        refine j_iload_n d_Mo_markOf_25 rfl ?_
        obtain ⟨t9, H⟩ := H
        obtain ⟨n11, x10, H⟩ := H
        refine j_iald (n := n11) t9 x10 d_Mo_markOf_26 ?_
        refine j_isub d_Mo_markOf_27 ?_
        refine j_callS (d' := 1) (As := [.int ((-1 : Int32)), .int (((gA G b2 n6) - (gA G b7 n11)))]) (rest := []) cs_Mo_165 me_Mo_greater rfl (by decide) rfl rfl (Nat.le_of_ble_eq_true rfl) d_Mo_markOf_28 (by decide) rfl (j_enter (L := [some (.int ((-1 : Int32))), some (.int (((gA G b2 n6) - (gA G b7 n11))))]) me_Mo_greater (cat_c rfl (cat_c rfl cat_n)) (Nat.le_of_ble_eq_true rfl) rfl ?_)
        refine j_iload_n d_Mo_greater_0 rfl ?_
        refine j_iload_n d_Mo_greater_1 rfl ?_
        obtain ⟨Ha, Hb⟩ := H
        refine j_icmp_le (tgt := 9) d_Mo_greater_2 (by decide) (fun c16 => ?_) (fun c17 => ?_)
        · have H := Ha c16
          refine j_iload_n d_Mo_greater_9 rfl ?_
          refine j_iret rfl d_Mo_greater_10 ?_
          show J E 2 m_Mo_markOf 31 [some (.ref a0), some (.int p1)] [.int (((gA G b2 n6) - (gA G b7 n11)))] G (aft E 3 m_Mo_grows 75 [some (.ref a0), some (.int p1), some (.int p2)] [.int ((gI G 658 a0)), .ref a0] Post)
          refine j_iret rfl d_Mo_markOf_31 ?_
          show J E 3 m_Mo_grows 78 [some (.ref a0), some (.int p1), some (.int p2)] [.int (((gA G b2 n6) - (gA G b7 n11))), .int ((gI G 658 a0)), .ref a0] G Post
          refine j_callS (d' := 1) (As := [.int ((gI G 658 a0)), .int (((gA G b2 n6) - (gA G b7 n11)))]) (rest := [.ref a0]) cs_Mo_165 me_Mo_greater rfl (by decide) rfl rfl (Nat.le_of_ble_eq_true rfl) d_Mo_grows_78 (by decide) rfl (j_enter (L := [some (.int ((gI G 658 a0))), some (.int (((gA G b2 n6) - (gA G b7 n11))))]) me_Mo_greater (cat_c rfl (cat_c rfl cat_n)) (Nat.le_of_ble_eq_true rfl) rfl ?_)
          refine j_iload_n d_Mo_greater_0 rfl ?_
          refine j_iload_n d_Mo_greater_1 rfl ?_
          obtain ⟨Ha, Hb⟩ := H
          refine j_icmp_le (tgt := 9) d_Mo_greater_2 (by decide) (fun c12 => ?_) (fun c13 => ?_)
          · have H := Ha c12
            refine j_iload_n d_Mo_greater_9 rfl ?_
            refine j_iret rfl d_Mo_greater_10 ?_
            show J E 3 m_Mo_grows 81 [some (.ref a0), some (.int p1), some (.int p2)] [.int (((gA G b2 n6) - (gA G b7 n11))), .ref a0] G Post
            refine j_putI (f := 658) fw_Mo_58 rfl rfl t1 d_Mo_grows_81 ?_
            refine j_aload_n d_Mo_grows_84 rfl ?_
            refine j_forget (L' := [some (.ref a0), none, none]) ⟨Or.inr rfl, Or.inl rfl, Or.inl rfl, trivial⟩ ?_
            exact j_callV (d' := 2) (ci := 10) (As := []) (rest := []) (b := a0) cv_Mo_176 me_Mo_first rfl (by decide) rfl rfl t1 rfl rfl (Nat.le_of_ble_eq_true rfl) d_Mo_grows_85 (by decide) rfl H
          · have H := Hb c13
            refine j_iload_n d_Mo_greater_5 rfl ?_
            refine j_goto (tgt := 10) d_Mo_greater_6 (by decide) ?_
            refine j_iret rfl d_Mo_greater_10 ?_
            show J E 3 m_Mo_grows 81 [some (.ref a0), some (.int p1), some (.int p2)] [.int ((gI G 658 a0)), .ref a0] G Post
            refine j_putI (f := 658) fw_Mo_58 rfl rfl t1 d_Mo_grows_81 ?_
            refine j_aload_n d_Mo_grows_84 rfl ?_
            refine j_forget (L' := [some (.ref a0), none, none]) ⟨Or.inr rfl, Or.inl rfl, Or.inl rfl, trivial⟩ ?_
            exact j_callV (d' := 2) (ci := 10) (As := []) (rest := []) (b := a0) cv_Mo_176 me_Mo_first rfl (by decide) rfl rfl t1 rfl rfl (Nat.le_of_ble_eq_true rfl) d_Mo_grows_85 (by decide) rfl H
        · have H := Hb c17
          refine j_iload_n d_Mo_greater_5 rfl ?_
          refine j_goto (tgt := 10) d_Mo_greater_6 (by decide) ?_
          refine j_iret rfl d_Mo_greater_10 ?_
          show J E 2 m_Mo_markOf 31 [some (.ref a0), some (.int p1)] [.int ((-1 : Int32))] G (aft E 3 m_Mo_grows 75 [some (.ref a0), some (.int p1), some (.int p2)] [.int ((gI G 658 a0)), .ref a0] Post)
          refine j_iret rfl d_Mo_markOf_31 ?_
          show J E 3 m_Mo_grows 78 [some (.ref a0), some (.int p1), some (.int p2)] [.int ((-1 : Int32)), .int ((gI G 658 a0)), .ref a0] G Post
          refine j_callS (d' := 1) (As := [.int ((gI G 658 a0)), .int ((-1 : Int32))]) (rest := [.ref a0]) cs_Mo_165 me_Mo_greater rfl (by decide) rfl rfl (Nat.le_of_ble_eq_true rfl) d_Mo_grows_78 (by decide) rfl (j_enter (L := [some (.int ((gI G 658 a0))), some (.int ((-1 : Int32)))]) me_Mo_greater (cat_c rfl (cat_c rfl cat_n)) (Nat.le_of_ble_eq_true rfl) rfl ?_)
          refine j_iload_n d_Mo_greater_0 rfl ?_
          refine j_iload_n d_Mo_greater_1 rfl ?_
          obtain ⟨Ha, Hb⟩ := H
          refine j_icmp_le (tgt := 9) d_Mo_greater_2 (by decide) (fun c14 => ?_) (fun c15 => ?_)
          · have H := Ha c14
            refine j_iload_n d_Mo_greater_9 rfl ?_
            refine j_iret rfl d_Mo_greater_10 ?_
            show J E 3 m_Mo_grows 81 [some (.ref a0), some (.int p1), some (.int p2)] [.int ((-1 : Int32)), .ref a0] G Post
            refine j_putI (f := 658) fw_Mo_58 rfl rfl t1 d_Mo_grows_81 ?_
            refine j_aload_n d_Mo_grows_84 rfl ?_
            refine j_forget (L' := [some (.ref a0), none, none]) ⟨Or.inr rfl, Or.inl rfl, Or.inl rfl, trivial⟩ ?_
            exact j_callV (d' := 2) (ci := 10) (As := []) (rest := []) (b := a0) cv_Mo_176 me_Mo_first rfl (by decide) rfl rfl t1 rfl rfl (Nat.le_of_ble_eq_true rfl) d_Mo_grows_85 (by decide) rfl H
          · have H := Hb c15
            refine j_iload_n d_Mo_greater_5 rfl ?_
            refine j_goto (tgt := 10) d_Mo_greater_6 (by decide) ?_
            refine j_iret rfl d_Mo_greater_10 ?_
            show J E 3 m_Mo_grows 81 [some (.ref a0), some (.int p1), some (.int p2)] [.int ((gI G 658 a0)), .ref a0] G Post
            refine j_putI (f := 658) fw_Mo_58 rfl rfl t1 d_Mo_grows_81 ?_
            refine j_aload_n d_Mo_grows_84 rfl ?_
            refine j_forget (L' := [some (.ref a0), none, none]) ⟨Or.inr rfl, Or.inl rfl, Or.inl rfl, trivial⟩ ?_
            exact j_callV (d' := 2) (ci := 10) (As := []) (rest := []) (b := a0) cv_Mo_176 me_Mo_first rfl (by decide) rfl rfl t1 rfl rfl (Nat.le_of_ble_eq_true rfl) d_Mo_grows_85 (by decide) rfl H
      · have H := Hb c21
        refine j_iconst (v := -1) d_Mo_markOf_10 (by decide) ?_
        refine j_goto (tgt := 31) d_Mo_markOf_11 (by decide) ?_
        refine j_iret rfl d_Mo_markOf_31 ?_
        show J E 3 m_Mo_grows 78 [some (.ref a0), some (.int p1), some (.int p2)] [.int ((-1 : Int32)), .int ((gI G 658 a0)), .ref a0] G Post
        refine j_callS (d' := 1) (As := [.int ((gI G 658 a0)), .int ((-1 : Int32))]) (rest := [.ref a0]) cs_Mo_165 me_Mo_greater rfl (by decide) rfl rfl (Nat.le_of_ble_eq_true rfl) d_Mo_grows_78 (by decide) rfl (j_enter (L := [some (.int ((gI G 658 a0))), some (.int ((-1 : Int32)))]) me_Mo_greater (cat_c rfl (cat_c rfl cat_n)) (Nat.le_of_ble_eq_true rfl) rfl ?_)
        refine j_iload_n d_Mo_greater_0 rfl ?_
        refine j_iload_n d_Mo_greater_1 rfl ?_
        obtain ⟨Ha, Hb⟩ := H
        refine j_icmp_le (tgt := 9) d_Mo_greater_2 (by decide) (fun c18 => ?_) (fun c19 => ?_)
        · have H := Ha c18
          refine j_iload_n d_Mo_greater_9 rfl ?_
          refine j_iret rfl d_Mo_greater_10 ?_
          show J E 3 m_Mo_grows 81 [some (.ref a0), some (.int p1), some (.int p2)] [.int ((-1 : Int32)), .ref a0] G Post
          refine j_putI (f := 658) fw_Mo_58 rfl rfl t1 d_Mo_grows_81 ?_
          refine j_aload_n d_Mo_grows_84 rfl ?_
          refine j_forget (L' := [some (.ref a0), none, none]) ⟨Or.inr rfl, Or.inl rfl, Or.inl rfl, trivial⟩ ?_
          exact j_callV (d' := 2) (ci := 10) (As := []) (rest := []) (b := a0) cv_Mo_176 me_Mo_first rfl (by decide) rfl rfl t1 rfl rfl (Nat.le_of_ble_eq_true rfl) d_Mo_grows_85 (by decide) rfl H
        · have H := Hb c19
          refine j_iload_n d_Mo_greater_5 rfl ?_
          refine j_goto (tgt := 10) d_Mo_greater_6 (by decide) ?_
          refine j_iret rfl d_Mo_greater_10 ?_
          show J E 3 m_Mo_grows 81 [some (.ref a0), some (.int p1), some (.int p2)] [.int ((gI G 658 a0)), .ref a0] G Post
          refine j_putI (f := 658) fw_Mo_58 rfl rfl t1 d_Mo_grows_81 ?_
          refine j_aload_n d_Mo_grows_84 rfl ?_
          refine j_forget (L' := [some (.ref a0), none, none]) ⟨Or.inr rfl, Or.inl rfl, Or.inl rfl, trivial⟩ ?_
          exact j_callV (d' := 2) (ci := 10) (As := []) (rest := []) (b := a0) cv_Mo_176 me_Mo_first rfl (by decide) rfl rfl t1 rfl rfl (Nat.le_of_ble_eq_true rfl) d_Mo_grows_85 (by decide) rfl H
    · have H := Hb c24
      refine j_aload_n d_Mo_grows_62 rfl ?_
      obtain ⟨t22, H⟩ := H
      refine j_getI (f := 658) fe_Mo_58 rfl rfl t22 d_Mo_grows_63 ?_
      refine j_goto (tgt := 81) d_Mo_grows_66 (by decide) ?_
      refine j_putI (f := 658) fw_Mo_58 rfl rfl t22 d_Mo_grows_81 ?_
      refine j_aload_n d_Mo_grows_84 rfl ?_
      refine j_forget (L' := [some (.ref a0), none, none]) ⟨Or.inr rfl, Or.inl rfl, Or.inl rfl, trivial⟩ ?_
      exact j_callV (d' := 2) (ci := 10) (As := []) (rest := []) (b := a0) cv_Mo_176 me_Mo_first rfl (by decide) rfl rfl t22 rfl rfl (Nat.le_of_ble_eq_true rfl) d_Mo_grows_85 (by decide) rfl H
  · have H := Hb c87
    refine j_aload_n d_Mo_grows_9 rfl ?_
    obtain ⟨t25, H⟩ := H
    obtain ⟨b26, e27, H⟩ := H
    refine j_getR (f := 656) (b := b26) fe_Mo_51 rfl rfl t25 e27 d_Mo_grows_10 ?_
    refine j_iload_n d_Mo_grows_13 rfl ?_
    obtain ⟨t28, H⟩ := H
    obtain ⟨n30, x29, H⟩ := H
    refine j_zald (n := n30) t28 x29 d_Mo_grows_14 ?_
    obtain ⟨Ha, Hb⟩ := H
    refine j_if_eq (tgt := 22) d_Mo_grows_15 (by decide) (fun c84 => ?_) (fun c85 => ?_)
    · have H := Ha c84
      refine j_iload_n d_Mo_grows_22 rfl ?_
      refine j_iconst (v := -1) d_Mo_grows_23 (by decide) ?_
      obtain ⟨Ha, Hb⟩ := H
      refine j_icmp_ne (tgt := 31) d_Mo_grows_24 (by decide) (fun c82 => ?_) (fun c83 => ?_)
      · have H := Ha c82
        refine j_aload_n d_Mo_grows_31 rfl ?_
        refine j_iload_n d_Mo_grows_32 rfl ?_
        refine j_callV (d' := 2) (ci := 10) (As := [.int p2]) (rest := []) (b := a0) cv_Mo_172 me_Mo_markOf rfl (by decide) rfl rfl t25 rfl rfl (Nat.le_of_ble_eq_true rfl) d_Mo_grows_33 (by decide) rfl (j_enter (L := [some (.ref a0), some (.int p2)]) me_Mo_markOf (cat_c rfl (cat_c rfl cat_n)) (Nat.le_of_ble_eq_true rfl) rfl ?_)
        refine j_aload_n d_Mo_markOf_0 rfl ?_
        obtain ⟨b31, e32, H⟩ := H
        refine j_getR (f := 657) (b := b31) fe_Mo_55 rfl rfl t25 e32 d_Mo_markOf_1 ?_
        refine j_iload_n d_Mo_markOf_4 rfl ?_
        obtain ⟨t33, H⟩ := H
        obtain ⟨n35, x34, H⟩ := H
        refine j_iald (n := n35) t33 x34 d_Mo_markOf_5 ?_
        refine j_iconst (v := -1) d_Mo_markOf_6 (by decide) ?_
        obtain ⟨Ha, Hb⟩ := H
        refine j_icmp_ne (tgt := 14) d_Mo_markOf_7 (by decide) (fun c80 => ?_) (fun c81 => ?_)
        · have H := Ha c80
          refine j_iconst (v := -1) d_Mo_markOf_14 (by decide) ?_
          refine j_aload_n d_Mo_markOf_15 rfl ?_
          refine j_getR (f := 657) (b := b31) fe_Mo_55 rfl rfl t25 e32 d_Mo_markOf_16 ?_
          refine j_iload_n d_Mo_markOf_19 rfl ?_
          refine j_iald (n := n35) t33 x34 d_Mo_markOf_20 ?_
          refine j_aload_n d_Mo_markOf_21 rfl ?_
          obtain ⟨b36, e37, H⟩ := H
          refine j_getR (f := 655) (b := b36) fe_Mo_48 rfl rfl t25 e37 d_Mo_markOf_22 ?_
          refine j_iload_n d_Mo_markOf_25 rfl ?_
          obtain ⟨t38, H⟩ := H
          obtain ⟨n40, x39, H⟩ := H
          refine j_iald (n := n40) t38 x39 d_Mo_markOf_26 ?_
          refine j_isub d_Mo_markOf_27 ?_
          refine j_callS (d' := 1) (As := [.int ((-1 : Int32)), .int (((gA G b31 n35) - (gA G b36 n40)))]) (rest := []) cs_Mo_165 me_Mo_greater rfl (by decide) rfl rfl (Nat.le_of_ble_eq_true rfl) d_Mo_markOf_28 (by decide) rfl (j_enter (L := [some (.int ((-1 : Int32))), some (.int (((gA G b31 n35) - (gA G b36 n40))))]) me_Mo_greater (cat_c rfl (cat_c rfl cat_n)) (Nat.le_of_ble_eq_true rfl) rfl ?_)
          refine j_iload_n d_Mo_greater_0 rfl ?_
          refine j_iload_n d_Mo_greater_1 rfl ?_
          obtain ⟨Ha, Hb⟩ := H
          refine j_icmp_le (tgt := 9) d_Mo_greater_2 (by decide) (fun c65 => ?_) (fun c66 => ?_)
          · have H := Ha c65
            refine j_iload_n d_Mo_greater_9 rfl ?_
            refine j_iret rfl d_Mo_greater_10 ?_
            show J E 2 m_Mo_markOf 31 [some (.ref a0), some (.int p2)] [.int (((gA G b31 n35) - (gA G b36 n40)))] G (aft E 3 m_Mo_grows 33 [some (.ref a0), some (.int p1), some (.int p2)] [] Post)
            refine j_iret rfl d_Mo_markOf_31 ?_
            show J E 3 m_Mo_grows 36 [some (.ref a0), some (.int p1), some (.int p2)] [.int (((gA G b31 n35) - (gA G b36 n40)))] G Post
            refine j_aload_n d_Mo_grows_36 rfl ?_
            refine j_iload_n d_Mo_grows_37 rfl ?_
            refine j_callV (d' := 2) (ci := 10) (As := [.int p1]) (rest := [.int (((gA G b31 n35) - (gA G b36 n40)))]) (b := a0) cv_Mo_172 me_Mo_markOf rfl (by decide) rfl rfl t25 rfl rfl (Nat.le_of_ble_eq_true rfl) d_Mo_grows_38 (by decide) rfl (j_enter (L := [some (.ref a0), some (.int p1)]) me_Mo_markOf (cat_c rfl (cat_c rfl cat_n)) (Nat.le_of_ble_eq_true rfl) rfl ?_)
            refine j_aload_n d_Mo_markOf_0 rfl ?_
            refine j_getR (f := 657) (b := b31) fe_Mo_55 rfl rfl t25 e32 d_Mo_markOf_1 ?_
            refine j_iload_n d_Mo_markOf_4 rfl ?_
            obtain ⟨n42, x41, H⟩ := H
            refine j_iald (n := n42) t33 x41 d_Mo_markOf_5 ?_
            refine j_iconst (v := -1) d_Mo_markOf_6 (by decide) ?_
            obtain ⟨Ha, Hb⟩ := H
            refine j_icmp_ne (tgt := 14) d_Mo_markOf_7 (by decide) (fun c53 => ?_) (fun c54 => ?_)
            · have H := Ha c53
              refine j_iconst (v := -1) d_Mo_markOf_14 (by decide) ?_
              refine j_aload_n d_Mo_markOf_15 rfl ?_
              refine j_getR (f := 657) (b := b31) fe_Mo_55 rfl rfl t25 e32 d_Mo_markOf_16 ?_
              refine j_iload_n d_Mo_markOf_19 rfl ?_
              refine j_iald (n := n42) t33 x41 d_Mo_markOf_20 ?_
              refine j_aload_n d_Mo_markOf_21 rfl ?_
              refine j_getR (f := 655) (b := b36) fe_Mo_48 rfl rfl t25 e37 d_Mo_markOf_22 ?_
              refine j_iload_n d_Mo_markOf_25 rfl ?_
              obtain ⟨n44, x43, H⟩ := H
              refine j_iald (n := n44) t38 x43 d_Mo_markOf_26 ?_
              refine j_isub d_Mo_markOf_27 ?_
              refine j_callS (d' := 1) (As := [.int ((-1 : Int32)), .int (((gA G b31 n42) - (gA G b36 n44)))]) (rest := []) cs_Mo_165 me_Mo_greater rfl (by decide) rfl rfl (Nat.le_of_ble_eq_true rfl) d_Mo_markOf_28 (by decide) rfl (j_enter (L := [some (.int ((-1 : Int32))), some (.int (((gA G b31 n42) - (gA G b36 n44))))]) me_Mo_greater (cat_c rfl (cat_c rfl cat_n)) (Nat.le_of_ble_eq_true rfl) rfl ?_)
              refine j_iload_n d_Mo_greater_0 rfl ?_
              refine j_iload_n d_Mo_greater_1 rfl ?_
              obtain ⟨Ha, Hb⟩ := H
              refine j_icmp_le (tgt := 9) d_Mo_greater_2 (by decide) (fun c49 => ?_) (fun c50 => ?_)
              · have H := Ha c49
                refine j_iload_n d_Mo_greater_9 rfl ?_
                refine j_iret rfl d_Mo_greater_10 ?_
                show J E 2 m_Mo_markOf 31 [some (.ref a0), some (.int p1)] [.int (((gA G b31 n42) - (gA G b36 n44)))] G (aft E 3 m_Mo_grows 38 [some (.ref a0), some (.int p1), some (.int p2)] [.int (((gA G b31 n35) - (gA G b36 n40)))] Post)
                refine j_iret rfl d_Mo_markOf_31 ?_
                show J E 3 m_Mo_grows 41 [some (.ref a0), some (.int p1), some (.int p2)] [.int (((gA G b31 n42) - (gA G b36 n44))), .int (((gA G b31 n35) - (gA G b36 n40)))] G Post
                obtain ⟨Ha, Hb⟩ := H
                refine j_icmp_ge (tgt := 48) d_Mo_grows_41 (by decide) (fun c45 => ?_) (fun c46 => ?_)
                · have H := Ha c45
                  refine j_iload_n d_Mo_grows_48 rfl ?_
                  refine j_istore_n (L' := [some (.ref a0), some (.int p1), some (.int p2)]) d_Mo_grows_49 (by decide) rfl ?_
                  refine j_iinc (v := (p2 + (1 : Int32))) (L' := [some (.ref a0), some (.int p1), some (.int ((p2 + (1 : Int32))))]) d_Mo_grows_50 rfl (by rw [show Int32.ofInt (1) = (1 : Int32) by decide]) (by decide) rfl ?_
                  refine j_goto (tgt := 4) d_Mo_grows_53 (by decide) ?_
                  exact H
                · have H := Hb c46
                  refine j_iload_n d_Mo_grows_44 rfl ?_
                  refine j_goto (tgt := 49) d_Mo_grows_45 (by decide) ?_
                  refine j_istore_n (L' := [some (.ref a0), some (.int p2), some (.int p2)]) d_Mo_grows_49 (by decide) rfl ?_
                  refine j_iinc (v := (p2 + (1 : Int32))) (L' := [some (.ref a0), some (.int p2), some (.int ((p2 + (1 : Int32))))]) d_Mo_grows_50 rfl (by rw [show Int32.ofInt (1) = (1 : Int32) by decide]) (by decide) rfl ?_
                  refine j_goto (tgt := 4) d_Mo_grows_53 (by decide) ?_
                  exact H
              · have H := Hb c50
                refine j_iload_n d_Mo_greater_5 rfl ?_
                refine j_goto (tgt := 10) d_Mo_greater_6 (by decide) ?_
                refine j_iret rfl d_Mo_greater_10 ?_
                show J E 2 m_Mo_markOf 31 [some (.ref a0), some (.int p1)] [.int ((-1 : Int32))] G (aft E 3 m_Mo_grows 38 [some (.ref a0), some (.int p1), some (.int p2)] [.int (((gA G b31 n35) - (gA G b36 n40)))] Post)
                refine j_iret rfl d_Mo_markOf_31 ?_
                show J E 3 m_Mo_grows 41 [some (.ref a0), some (.int p1), some (.int p2)] [.int ((-1 : Int32)), .int (((gA G b31 n35) - (gA G b36 n40)))] G Post
                obtain ⟨Ha, Hb⟩ := H
                refine j_icmp_ge (tgt := 48) d_Mo_grows_41 (by decide) (fun c47 => ?_) (fun c48 => ?_)
                · have H := Ha c47
                  refine j_iload_n d_Mo_grows_48 rfl ?_
                  refine j_istore_n (L' := [some (.ref a0), some (.int p1), some (.int p2)]) d_Mo_grows_49 (by decide) rfl ?_
                  refine j_iinc (v := (p2 + (1 : Int32))) (L' := [some (.ref a0), some (.int p1), some (.int ((p2 + (1 : Int32))))]) d_Mo_grows_50 rfl (by rw [show Int32.ofInt (1) = (1 : Int32) by decide]) (by decide) rfl ?_
                  refine j_goto (tgt := 4) d_Mo_grows_53 (by decide) ?_
                  exact H
                · have H := Hb c48
                  refine j_iload_n d_Mo_grows_44 rfl ?_
                  refine j_goto (tgt := 49) d_Mo_grows_45 (by decide) ?_
                  refine j_istore_n (L' := [some (.ref a0), some (.int p2), some (.int p2)]) d_Mo_grows_49 (by decide) rfl ?_
                  refine j_iinc (v := (p2 + (1 : Int32))) (L' := [some (.ref a0), some (.int p2), some (.int ((p2 + (1 : Int32))))]) d_Mo_grows_50 rfl (by rw [show Int32.ofInt (1) = (1 : Int32) by decide]) (by decide) rfl ?_
                  refine j_goto (tgt := 4) d_Mo_grows_53 (by decide) ?_
                  exact H
            · have H := Hb c54
              refine j_iconst (v := -1) d_Mo_markOf_10 (by decide) ?_
              refine j_goto (tgt := 31) d_Mo_markOf_11 (by decide) ?_
              refine j_iret rfl d_Mo_markOf_31 ?_
              show J E 3 m_Mo_grows 41 [some (.ref a0), some (.int p1), some (.int p2)] [.int ((-1 : Int32)), .int (((gA G b31 n35) - (gA G b36 n40)))] G Post
              obtain ⟨Ha, Hb⟩ := H
              refine j_icmp_ge (tgt := 48) d_Mo_grows_41 (by decide) (fun c51 => ?_) (fun c52 => ?_)
              · have H := Ha c51
                refine j_iload_n d_Mo_grows_48 rfl ?_
                refine j_istore_n (L' := [some (.ref a0), some (.int p1), some (.int p2)]) d_Mo_grows_49 (by decide) rfl ?_
                refine j_iinc (v := (p2 + (1 : Int32))) (L' := [some (.ref a0), some (.int p1), some (.int ((p2 + (1 : Int32))))]) d_Mo_grows_50 rfl (by rw [show Int32.ofInt (1) = (1 : Int32) by decide]) (by decide) rfl ?_
                refine j_goto (tgt := 4) d_Mo_grows_53 (by decide) ?_
                exact H
              · have H := Hb c52
                refine j_iload_n d_Mo_grows_44 rfl ?_
                refine j_goto (tgt := 49) d_Mo_grows_45 (by decide) ?_
                refine j_istore_n (L' := [some (.ref a0), some (.int p2), some (.int p2)]) d_Mo_grows_49 (by decide) rfl ?_
                refine j_iinc (v := (p2 + (1 : Int32))) (L' := [some (.ref a0), some (.int p2), some (.int ((p2 + (1 : Int32))))]) d_Mo_grows_50 rfl (by rw [show Int32.ofInt (1) = (1 : Int32) by decide]) (by decide) rfl ?_
                refine j_goto (tgt := 4) d_Mo_grows_53 (by decide) ?_
                exact H
          · have H := Hb c66
            refine j_iload_n d_Mo_greater_5 rfl ?_
            refine j_goto (tgt := 10) d_Mo_greater_6 (by decide) ?_
            refine j_iret rfl d_Mo_greater_10 ?_
            show J E 2 m_Mo_markOf 31 [some (.ref a0), some (.int p2)] [.int ((-1 : Int32))] G (aft E 3 m_Mo_grows 33 [some (.ref a0), some (.int p1), some (.int p2)] [] Post)
            refine j_iret rfl d_Mo_markOf_31 ?_
            show J E 3 m_Mo_grows 36 [some (.ref a0), some (.int p1), some (.int p2)] [.int ((-1 : Int32))] G Post
            refine j_aload_n d_Mo_grows_36 rfl ?_
            refine j_iload_n d_Mo_grows_37 rfl ?_
            refine j_callV (d' := 2) (ci := 10) (As := [.int p1]) (rest := [.int ((-1 : Int32))]) (b := a0) cv_Mo_172 me_Mo_markOf rfl (by decide) rfl rfl t25 rfl rfl (Nat.le_of_ble_eq_true rfl) d_Mo_grows_38 (by decide) rfl (j_enter (L := [some (.ref a0), some (.int p1)]) me_Mo_markOf (cat_c rfl (cat_c rfl cat_n)) (Nat.le_of_ble_eq_true rfl) rfl ?_)
            refine j_aload_n d_Mo_markOf_0 rfl ?_
            refine j_getR (f := 657) (b := b31) fe_Mo_55 rfl rfl t25 e32 d_Mo_markOf_1 ?_
            refine j_iload_n d_Mo_markOf_4 rfl ?_
            obtain ⟨n56, x55, H⟩ := H
            refine j_iald (n := n56) t33 x55 d_Mo_markOf_5 ?_
            refine j_iconst (v := -1) d_Mo_markOf_6 (by decide) ?_
            obtain ⟨Ha, Hb⟩ := H
            refine j_icmp_ne (tgt := 14) d_Mo_markOf_7 (by decide) (fun c63 => ?_) (fun c64 => ?_)
            · have H := Ha c63
              refine j_iconst (v := -1) d_Mo_markOf_14 (by decide) ?_
              refine j_aload_n d_Mo_markOf_15 rfl ?_
              refine j_getR (f := 657) (b := b31) fe_Mo_55 rfl rfl t25 e32 d_Mo_markOf_16 ?_
              refine j_iload_n d_Mo_markOf_19 rfl ?_
              refine j_iald (n := n56) t33 x55 d_Mo_markOf_20 ?_
              refine j_aload_n d_Mo_markOf_21 rfl ?_
              refine j_getR (f := 655) (b := b36) fe_Mo_48 rfl rfl t25 e37 d_Mo_markOf_22 ?_
              refine j_iload_n d_Mo_markOf_25 rfl ?_
              obtain ⟨n58, x57, H⟩ := H
              refine j_iald (n := n58) t38 x57 d_Mo_markOf_26 ?_
              refine j_isub d_Mo_markOf_27 ?_
              refine j_callS (d' := 1) (As := [.int ((-1 : Int32)), .int (((gA G b31 n56) - (gA G b36 n58)))]) (rest := []) cs_Mo_165 me_Mo_greater rfl (by decide) rfl rfl (Nat.le_of_ble_eq_true rfl) d_Mo_markOf_28 (by decide) rfl (j_enter (L := [some (.int ((-1 : Int32))), some (.int (((gA G b31 n56) - (gA G b36 n58))))]) me_Mo_greater (cat_c rfl (cat_c rfl cat_n)) (Nat.le_of_ble_eq_true rfl) rfl ?_)
              refine j_iload_n d_Mo_greater_0 rfl ?_
              refine j_iload_n d_Mo_greater_1 rfl ?_
              obtain ⟨Ha, Hb⟩ := H
              refine j_icmp_le (tgt := 9) d_Mo_greater_2 (by decide) (fun c61 => ?_) (fun c62 => ?_)
              · have H := Ha c61
                refine j_iload_n d_Mo_greater_9 rfl ?_
                refine j_iret rfl d_Mo_greater_10 ?_
                show J E 2 m_Mo_markOf 31 [some (.ref a0), some (.int p1)] [.int (((gA G b31 n56) - (gA G b36 n58)))] G (aft E 3 m_Mo_grows 38 [some (.ref a0), some (.int p1), some (.int p2)] [.int ((-1 : Int32))] Post)
                refine j_iret rfl d_Mo_markOf_31 ?_
                show J E 3 m_Mo_grows 41 [some (.ref a0), some (.int p1), some (.int p2)] [.int (((gA G b31 n56) - (gA G b36 n58))), .int ((-1 : Int32))] G Post
                obtain ⟨Ha, Hb⟩ := H
                refine j_icmp_ge (tgt := 48) d_Mo_grows_41 (by decide) (fun c59 => ?_) (fun c60 => ?_)
                · have H := Ha c59
                  refine j_iload_n d_Mo_grows_48 rfl ?_
                  refine j_istore_n (L' := [some (.ref a0), some (.int p1), some (.int p2)]) d_Mo_grows_49 (by decide) rfl ?_
                  refine j_iinc (v := (p2 + (1 : Int32))) (L' := [some (.ref a0), some (.int p1), some (.int ((p2 + (1 : Int32))))]) d_Mo_grows_50 rfl (by rw [show Int32.ofInt (1) = (1 : Int32) by decide]) (by decide) rfl ?_
                  refine j_goto (tgt := 4) d_Mo_grows_53 (by decide) ?_
                  exact H
                · have H := Hb c60
                  refine j_iload_n d_Mo_grows_44 rfl ?_
                  refine j_goto (tgt := 49) d_Mo_grows_45 (by decide) ?_
                  refine j_istore_n (L' := [some (.ref a0), some (.int p2), some (.int p2)]) d_Mo_grows_49 (by decide) rfl ?_
                  refine j_iinc (v := (p2 + (1 : Int32))) (L' := [some (.ref a0), some (.int p2), some (.int ((p2 + (1 : Int32))))]) d_Mo_grows_50 rfl (by rw [show Int32.ofInt (1) = (1 : Int32) by decide]) (by decide) rfl ?_
                  refine j_goto (tgt := 4) d_Mo_grows_53 (by decide) ?_
                  exact H
              · have H := Hb c62
                refine j_iload_n d_Mo_greater_5 rfl ?_
                refine j_goto (tgt := 10) d_Mo_greater_6 (by decide) ?_
                refine j_iret rfl d_Mo_greater_10 ?_
                show J E 2 m_Mo_markOf 31 [some (.ref a0), some (.int p1)] [.int ((-1 : Int32))] G (aft E 3 m_Mo_grows 38 [some (.ref a0), some (.int p1), some (.int p2)] [.int ((-1 : Int32))] Post)
                refine j_iret rfl d_Mo_markOf_31 ?_
                show J E 3 m_Mo_grows 41 [some (.ref a0), some (.int p1), some (.int p2)] [.int ((-1 : Int32)), .int ((-1 : Int32))] G Post
                refine j_icmp_ge (tgt := 48) d_Mo_grows_41 (by decide) (fun _ => ?_) (fun c => absurd c (by decide))
                refine j_iload_n d_Mo_grows_48 rfl ?_
                refine j_istore_n (L' := [some (.ref a0), some (.int p1), some (.int p2)]) d_Mo_grows_49 (by decide) rfl ?_
                refine j_iinc (v := (p2 + (1 : Int32))) (L' := [some (.ref a0), some (.int p1), some (.int ((p2 + (1 : Int32))))]) d_Mo_grows_50 rfl (by rw [show Int32.ofInt (1) = (1 : Int32) by decide]) (by decide) rfl ?_
                refine j_goto (tgt := 4) d_Mo_grows_53 (by decide) ?_
                exact H
            · have H := Hb c64
              refine j_iconst (v := -1) d_Mo_markOf_10 (by decide) ?_
              refine j_goto (tgt := 31) d_Mo_markOf_11 (by decide) ?_
              refine j_iret rfl d_Mo_markOf_31 ?_
              show J E 3 m_Mo_grows 41 [some (.ref a0), some (.int p1), some (.int p2)] [.int ((-1 : Int32)), .int ((-1 : Int32))] G Post
              refine j_icmp_ge (tgt := 48) d_Mo_grows_41 (by decide) (fun _ => ?_) (fun c => absurd c (by decide))
              refine j_iload_n d_Mo_grows_48 rfl ?_
              refine j_istore_n (L' := [some (.ref a0), some (.int p1), some (.int p2)]) d_Mo_grows_49 (by decide) rfl ?_
              refine j_iinc (v := (p2 + (1 : Int32))) (L' := [some (.ref a0), some (.int p1), some (.int ((p2 + (1 : Int32))))]) d_Mo_grows_50 rfl (by rw [show Int32.ofInt (1) = (1 : Int32) by decide]) (by decide) rfl ?_
              refine j_goto (tgt := 4) d_Mo_grows_53 (by decide) ?_
              exact H
        · have H := Hb c81
          refine j_iconst (v := -1) d_Mo_markOf_10 (by decide) ?_
          refine j_goto (tgt := 31) d_Mo_markOf_11 (by decide) ?_
          refine j_iret rfl d_Mo_markOf_31 ?_
          show J E 3 m_Mo_grows 36 [some (.ref a0), some (.int p1), some (.int p2)] [.int ((-1 : Int32))] G Post
          refine j_aload_n d_Mo_grows_36 rfl ?_
          refine j_iload_n d_Mo_grows_37 rfl ?_
          refine j_callV (d' := 2) (ci := 10) (As := [.int p1]) (rest := [.int ((-1 : Int32))]) (b := a0) cv_Mo_172 me_Mo_markOf rfl (by decide) rfl rfl t25 rfl rfl (Nat.le_of_ble_eq_true rfl) d_Mo_grows_38 (by decide) rfl (j_enter (L := [some (.ref a0), some (.int p1)]) me_Mo_markOf (cat_c rfl (cat_c rfl cat_n)) (Nat.le_of_ble_eq_true rfl) rfl ?_)
          refine j_aload_n d_Mo_markOf_0 rfl ?_
          refine j_getR (f := 657) (b := b31) fe_Mo_55 rfl rfl t25 e32 d_Mo_markOf_1 ?_
          refine j_iload_n d_Mo_markOf_4 rfl ?_
          obtain ⟨n68, x67, H⟩ := H
          refine j_iald (n := n68) t33 x67 d_Mo_markOf_5 ?_
          refine j_iconst (v := -1) d_Mo_markOf_6 (by decide) ?_
          obtain ⟨Ha, Hb⟩ := H
          refine j_icmp_ne (tgt := 14) d_Mo_markOf_7 (by decide) (fun c78 => ?_) (fun c79 => ?_)
          · have H := Ha c78
            refine j_iconst (v := -1) d_Mo_markOf_14 (by decide) ?_
            refine j_aload_n d_Mo_markOf_15 rfl ?_
            refine j_getR (f := 657) (b := b31) fe_Mo_55 rfl rfl t25 e32 d_Mo_markOf_16 ?_
            refine j_iload_n d_Mo_markOf_19 rfl ?_
            refine j_iald (n := n68) t33 x67 d_Mo_markOf_20 ?_
            refine j_aload_n d_Mo_markOf_21 rfl ?_
            obtain ⟨b69, e70, H⟩ := H
            refine j_getR (f := 655) (b := b69) fe_Mo_48 rfl rfl t25 e70 d_Mo_markOf_22 ?_
            refine j_iload_n d_Mo_markOf_25 rfl ?_
            obtain ⟨t71, H⟩ := H
            obtain ⟨n73, x72, H⟩ := H
            refine j_iald (n := n73) t71 x72 d_Mo_markOf_26 ?_
            refine j_isub d_Mo_markOf_27 ?_
            refine j_callS (d' := 1) (As := [.int ((-1 : Int32)), .int (((gA G b31 n68) - (gA G b69 n73)))]) (rest := []) cs_Mo_165 me_Mo_greater rfl (by decide) rfl rfl (Nat.le_of_ble_eq_true rfl) d_Mo_markOf_28 (by decide) rfl (j_enter (L := [some (.int ((-1 : Int32))), some (.int (((gA G b31 n68) - (gA G b69 n73))))]) me_Mo_greater (cat_c rfl (cat_c rfl cat_n)) (Nat.le_of_ble_eq_true rfl) rfl ?_)
            refine j_iload_n d_Mo_greater_0 rfl ?_
            refine j_iload_n d_Mo_greater_1 rfl ?_
            obtain ⟨Ha, Hb⟩ := H
            refine j_icmp_le (tgt := 9) d_Mo_greater_2 (by decide) (fun c76 => ?_) (fun c77 => ?_)
            · have H := Ha c76
              refine j_iload_n d_Mo_greater_9 rfl ?_
              refine j_iret rfl d_Mo_greater_10 ?_
              show J E 2 m_Mo_markOf 31 [some (.ref a0), some (.int p1)] [.int (((gA G b31 n68) - (gA G b69 n73)))] G (aft E 3 m_Mo_grows 38 [some (.ref a0), some (.int p1), some (.int p2)] [.int ((-1 : Int32))] Post)
              refine j_iret rfl d_Mo_markOf_31 ?_
              show J E 3 m_Mo_grows 41 [some (.ref a0), some (.int p1), some (.int p2)] [.int (((gA G b31 n68) - (gA G b69 n73))), .int ((-1 : Int32))] G Post
              obtain ⟨Ha, Hb⟩ := H
              refine j_icmp_ge (tgt := 48) d_Mo_grows_41 (by decide) (fun c74 => ?_) (fun c75 => ?_)
              · have H := Ha c74
                refine j_iload_n d_Mo_grows_48 rfl ?_
                refine j_istore_n (L' := [some (.ref a0), some (.int p1), some (.int p2)]) d_Mo_grows_49 (by decide) rfl ?_
                refine j_iinc (v := (p2 + (1 : Int32))) (L' := [some (.ref a0), some (.int p1), some (.int ((p2 + (1 : Int32))))]) d_Mo_grows_50 rfl (by rw [show Int32.ofInt (1) = (1 : Int32) by decide]) (by decide) rfl ?_
                refine j_goto (tgt := 4) d_Mo_grows_53 (by decide) ?_
                exact H
              · have H := Hb c75
                refine j_iload_n d_Mo_grows_44 rfl ?_
                refine j_goto (tgt := 49) d_Mo_grows_45 (by decide) ?_
                refine j_istore_n (L' := [some (.ref a0), some (.int p2), some (.int p2)]) d_Mo_grows_49 (by decide) rfl ?_
                refine j_iinc (v := (p2 + (1 : Int32))) (L' := [some (.ref a0), some (.int p2), some (.int ((p2 + (1 : Int32))))]) d_Mo_grows_50 rfl (by rw [show Int32.ofInt (1) = (1 : Int32) by decide]) (by decide) rfl ?_
                refine j_goto (tgt := 4) d_Mo_grows_53 (by decide) ?_
                exact H
            · have H := Hb c77
              refine j_iload_n d_Mo_greater_5 rfl ?_
              refine j_goto (tgt := 10) d_Mo_greater_6 (by decide) ?_
              refine j_iret rfl d_Mo_greater_10 ?_
              show J E 2 m_Mo_markOf 31 [some (.ref a0), some (.int p1)] [.int ((-1 : Int32))] G (aft E 3 m_Mo_grows 38 [some (.ref a0), some (.int p1), some (.int p2)] [.int ((-1 : Int32))] Post)
              refine j_iret rfl d_Mo_markOf_31 ?_
              show J E 3 m_Mo_grows 41 [some (.ref a0), some (.int p1), some (.int p2)] [.int ((-1 : Int32)), .int ((-1 : Int32))] G Post
              refine j_icmp_ge (tgt := 48) d_Mo_grows_41 (by decide) (fun _ => ?_) (fun c => absurd c (by decide))
              refine j_iload_n d_Mo_grows_48 rfl ?_
              refine j_istore_n (L' := [some (.ref a0), some (.int p1), some (.int p2)]) d_Mo_grows_49 (by decide) rfl ?_
              refine j_iinc (v := (p2 + (1 : Int32))) (L' := [some (.ref a0), some (.int p1), some (.int ((p2 + (1 : Int32))))]) d_Mo_grows_50 rfl (by rw [show Int32.ofInt (1) = (1 : Int32) by decide]) (by decide) rfl ?_
              refine j_goto (tgt := 4) d_Mo_grows_53 (by decide) ?_
              exact H
          · have H := Hb c79
            refine j_iconst (v := -1) d_Mo_markOf_10 (by decide) ?_
            refine j_goto (tgt := 31) d_Mo_markOf_11 (by decide) ?_
            refine j_iret rfl d_Mo_markOf_31 ?_
            show J E 3 m_Mo_grows 41 [some (.ref a0), some (.int p1), some (.int p2)] [.int ((-1 : Int32)), .int ((-1 : Int32))] G Post
            refine j_icmp_ge (tgt := 48) d_Mo_grows_41 (by decide) (fun _ => ?_) (fun c => absurd c (by decide))
            refine j_iload_n d_Mo_grows_48 rfl ?_
            refine j_istore_n (L' := [some (.ref a0), some (.int p1), some (.int p2)]) d_Mo_grows_49 (by decide) rfl ?_
            refine j_iinc (v := (p2 + (1 : Int32))) (L' := [some (.ref a0), some (.int p1), some (.int ((p2 + (1 : Int32))))]) d_Mo_grows_50 rfl (by rw [show Int32.ofInt (1) = (1 : Int32) by decide]) (by decide) rfl ?_
            refine j_goto (tgt := 4) d_Mo_grows_53 (by decide) ?_
            exact H
      · have H := Hb c83
        refine j_iload_n d_Mo_grows_27 rfl ?_
        refine j_goto (tgt := 49) d_Mo_grows_28 (by decide) ?_
        refine j_istore_n (L' := [some (.ref a0), some (.int p2), some (.int p2)]) d_Mo_grows_49 (by decide) rfl ?_
        refine j_iinc (v := (p2 + (1 : Int32))) (L' := [some (.ref a0), some (.int p2), some (.int ((p2 + (1 : Int32))))]) d_Mo_grows_50 rfl (by rw [show Int32.ofInt (1) = (1 : Int32) by decide]) (by decide) rfl ?_
        refine j_goto (tgt := 4) d_Mo_grows_53 (by decide) ?_
        exact H
    · have H := Hb c85
      refine j_iload_n d_Mo_grows_18 rfl ?_
      refine j_goto (tgt := 49) d_Mo_grows_19 (by decide) ?_
      refine j_istore_n (L' := [some (.ref a0), some (.int p1), some (.int p2)]) d_Mo_grows_49 (by decide) rfl ?_
      refine j_iinc (v := (p2 + (1 : Int32))) (L' := [some (.ref a0), some (.int p1), some (.int ((p2 + (1 : Int32))))]) d_Mo_grows_50 rfl (by rw [show Int32.ofInt (1) = (1 : Int32) by decide]) (by decide) rfl ?_
      refine j_goto (tgt := 4) d_Mo_grows_53 (by decide) ?_
      exact H
theorem wp_Mo_grows_88 {E : EV} {G : GH} {Post : Res → GH → Prop} (a0 : Nat) (s0 : Int32) (H : J E 3 m_Mo_grows 89 [some (.ref a0), none, some (.int s0)] [] G Post) : J E 3 m_Mo_grows 88 [some (.ref a0), none, none] [.int s0] G Post := by
  refine j_istore_n (L' := [some (.ref a0), none, some (.int s0)]) d_Mo_grows_88 (by decide) rfl ?_
  exact H
theorem wp_Mo_grows_89 {E : EV} {G : GH} {Post : Res → GH → Prop} (a0 : Nat) (p2 : Int32) (H : (p2 = (-1 : Int32) → Post (.inl none) G) ∧ (¬ p2 = (-1 : Int32) → gT G a0 = 11 ∧ Cl E 1 m_Mo_sends [.ref a0, .int p2, .int ((0 : Int32))] G (aft E 3 m_Mo_grows 97 [some (.ref a0), none, some (.int p2)] [] Post))) : J E 3 m_Mo_grows 89 [some (.ref a0), none, some (.int p2)] [] G Post := by
  refine j_iload_n d_Mo_grows_89 rfl ?_
  refine j_iconst (v := -1) d_Mo_grows_90 (by decide) ?_
  obtain ⟨Ha, Hb⟩ := H
  refine j_icmp_eq (tgt := 115) d_Mo_grows_91 (by decide) (fun c2 => ?_) (fun c3 => ?_)
  · have H := Ha c2
    exact j_vret rfl d_Mo_grows_115 H
  · have H := Hb c3
    refine j_aload_n d_Mo_grows_94 rfl ?_
    refine j_iload_n d_Mo_grows_95 rfl ?_
    refine j_iconst (v := 0) d_Mo_grows_96 (by decide) ?_
    obtain ⟨t1, H⟩ := H
    exact j_callV (d' := 1) (ci := 10) (As := [.int p2, .int ((0 : Int32))]) (rest := []) (b := a0) cv_Mo_180 me_Mo_sends rfl (by decide) rfl rfl t1 rfl rfl (Nat.le_of_ble_eq_true rfl) d_Mo_grows_97 (by decide) rfl H
theorem wp_Mo_grows_100 {E : EV} {G : GH} {Post : Res → GH → Prop} (a0 : Nat) (p2 : Int32) (H : gT G a0 = 11 ∧ ∃ b2, gR G 668 a0 = some b2 ∧ gT G b2 = 21 ∧ ∃ n6, IX p2 n6 (gN G b2) ∧ Cl E 2 m_Mo_first [.ref a0] (sA G b2 n6 ((1 : Int32))) (aft E 3 m_Mo_grows 108 [some (.ref a0), none, none] [] Post)) : J E 3 m_Mo_grows 100 [some (.ref a0), none, some (.int p2)] [] G Post := by
  refine j_aload_n d_Mo_grows_100 rfl ?_
  obtain ⟨t1, H⟩ := H
  obtain ⟨b2, e3, H⟩ := H
  refine j_getR (f := 668) (b := b2) fe_Mo_82 rfl rfl t1 e3 d_Mo_grows_101 ?_
  refine j_iload_n d_Mo_grows_104 rfl ?_
  refine j_iconst (v := 1) d_Mo_grows_105 (by decide) ?_
  obtain ⟨t4, H⟩ := H
  obtain ⟨n6, x5, H⟩ := H
  refine j_zast (n := n6) t4 x5 (by decide) d_Mo_grows_106 ?_
  refine j_aload_n d_Mo_grows_107 rfl ?_
  refine j_forget (L' := [some (.ref a0), none, none]) ⟨Or.inr rfl, Or.inl rfl, Or.inl rfl, trivial⟩ ?_
  exact j_callV (d' := 2) (ci := 10) (As := []) (rest := []) (b := a0) cv_Mo_176 me_Mo_first rfl (by decide) rfl rfl t1 rfl rfl (Nat.le_of_ble_eq_true rfl) d_Mo_grows_108 (by decide) rfl H
theorem wp_Mo_grows_111 {E : EV} {G : GH} {Post : Res → GH → Prop} (a0 : Nat) (s0 : Int32) (H : J E 3 m_Mo_grows 89 [some (.ref a0), none, some (.int s0)] [] G Post) : J E 3 m_Mo_grows 111 [some (.ref a0), none, none] [.int s0] G Post := by
  refine j_istore_n (L' := [some (.ref a0), none, some (.int s0)]) d_Mo_grows_111 (by decide) rfl ?_
  refine j_goto (tgt := 89) d_Mo_grows_112 (by decide) ?_
  exact H
theorem wp_Mo_first_0 {E : EV} {G : GH} {Post : Res → GH → Prop} (a0 : Nat) (H : J E 2 m_Mo_first 4 [some (.ref a0), some (.int ((-1 : Int32))), some (.int ((0 : Int32))), none] [] G Post) : J E 2 m_Mo_first 0 [some (.ref a0), none, none, none] [] G Post := by
  refine j_iconst (v := -1) d_Mo_first_0 (by decide) ?_
  refine j_istore_n (L' := [some (.ref a0), some (.int ((-1 : Int32))), none, none]) d_Mo_first_1 (by decide) rfl ?_
  refine j_iconst (v := 0) d_Mo_first_2 (by decide) ?_
  refine j_istore_n (L' := [some (.ref a0), some (.int ((-1 : Int32))), some (.int ((0 : Int32))), none]) d_Mo_first_3 (by decide) rfl ?_
  exact H
theorem wp_Mo_first_4 {E : EV} {G : GH} {Post : Res → GH → Prop} (a0 : Nat) (p1 : Int32) (p2 : Int32) (H : gT G a0 = 11 ∧ ((gI G 669 a0) ≤ p2 → Post (.inl (some (.int p1))) G) ∧ (¬ (gI G 669 a0) ≤ p2 → ∃ b2, gR G 668 a0 = some b2 ∧ gT G b2 = 21 ∧ ∃ n6, IX p2 n6 (gN G b2) ∧ (¬ (gA G b2 n6) = 0 → J E 2 m_Mo_first 4 [some (.ref a0), some (.int p1), some (.int ((p2 + (1 : Int32)))), none] [] G Post) ∧ ((gA G b2 n6) = 0 → ∃ b7, gR G 665 a0 = some b7 ∧ (gT G b7 = 20 ∨ gT G b7 = 25) ∧ ∃ n11, IX p2 n11 (gN G b7) ∧ ((gI G 658 a0) < (gA G b7 n11) → J E 2 m_Mo_first 4 [some (.ref a0), some (.int p1), some (.int ((p2 + (1 : Int32)))), none] [] G Post) ∧ (¬ (gI G 658 a0) < (gA G b7 n11) → (p1 = (-1 : Int32) → J E 2 m_Mo_first 4 [some (.ref a0), some (.int p2), some (.int ((p2 + (1 : Int32)))), none] [] G Post) ∧ (¬ p1 = (-1 : Int32) → ∃ n13, IX p1 n13 (gN G b7) ∧ ((gA G b7 n11) = (gA G b7 n13) → ∃ b14, gR G 663 a0 = some b14 ∧ (gT G b14 = 20 ∨ gT G b14 = 25) ∧ ∃ n18, IX p2 n18 (gN G b14) ∧ ∃ n20, IX p1 n20 (gN G b14) ∧ ((gA G b14 n18) = (gA G b14 n20) → ∃ b21, gR G 664 a0 = some b21 ∧ (gT G b21 = 20 ∨ gT G b21 = 25) ∧ ∃ n25, IX p2 n25 (gN G b21) ∧ ∃ n27, IX p1 n27 (gN G b21) ∧ ((gA G b21 n27) ≤ (gA G b21 n25) → J E 2 m_Mo_first 4 [some (.ref a0), some (.int p1), some (.int ((p2 + (1 : Int32)))), none] [] G Post) ∧ (¬ (gA G b21 n27) ≤ (gA G b21 n25) → J E 2 m_Mo_first 4 [some (.ref a0), some (.int p2), some (.int ((p2 + (1 : Int32)))), none] [] G Post)) ∧ (¬ (gA G b14 n18) = (gA G b14 n20) → ((gA G b14 n20) ≤ (gA G b14 n18) → J E 2 m_Mo_first 4 [some (.ref a0), some (.int p1), some (.int ((p2 + (1 : Int32)))), none] [] G Post) ∧ (¬ (gA G b14 n20) ≤ (gA G b14 n18) → J E 2 m_Mo_first 4 [some (.ref a0), some (.int p2), some (.int ((p2 + (1 : Int32)))), none] [] G Post))) ∧ (¬ (gA G b7 n11) = (gA G b7 n13) → ((gA G b7 n13) ≤ (gA G b7 n11) → J E 2 m_Mo_first 4 [some (.ref a0), some (.int p1), some (.int ((p2 + (1 : Int32)))), none] [] G Post) ∧ (¬ (gA G b7 n13) ≤ (gA G b7 n11) → J E 2 m_Mo_first 4 [some (.ref a0), some (.int p2), some (.int ((p2 + (1 : Int32)))), none] [] G Post))))))) : J E 2 m_Mo_first 4 [some (.ref a0), some (.int p1), some (.int p2), none] [] G Post := by
  refine j_iload_n d_Mo_first_4 rfl ?_
  refine j_aload_n d_Mo_first_5 rfl ?_
  obtain ⟨t1, H⟩ := H
  refine j_getI (f := 669) fe_Mo_184 rfl rfl t1 d_Mo_first_6 ?_
  obtain ⟨Ha, Hb⟩ := H
  refine j_icmp_ge (tgt := 70) d_Mo_first_9 (by decide) (fun c44 => ?_) (fun c45 => ?_)
  · have H := Ha c44
    refine j_iload_n d_Mo_first_70 rfl ?_
    exact j_iret rfl d_Mo_first_71 H
  · have H := Hb c45
    refine j_aload_n d_Mo_first_12 rfl ?_
    obtain ⟨b2, e3, H⟩ := H
    refine j_getR (f := 668) (b := b2) fe_Mo_82 rfl rfl t1 e3 d_Mo_first_13 ?_
    refine j_iload_n d_Mo_first_16 rfl ?_
    obtain ⟨t4, H⟩ := H
    obtain ⟨n6, x5, H⟩ := H
    refine j_zald (n := n6) t4 x5 d_Mo_first_17 ?_
    obtain ⟨Ha, Hb⟩ := H
    refine j_if_ne (tgt := 38) d_Mo_first_18 (by decide) (fun c42 => ?_) (fun c43 => ?_)
    · have H := Ha c42
      refine j_iconst (v := 0) d_Mo_first_38 (by decide) ?_
      refine j_istore_n (L' := [some (.ref a0), some (.int p1), some (.int p2), some (.int ((0 : Int32)))]) d_Mo_first_39 (by decide) rfl ?_
      refine j_iload_n d_Mo_first_40 rfl ?_
      refine j_if_eq (tgt := 62) d_Mo_first_41 (by decide) (fun _ => ?_) (fun c => absurd c (by decide))
      refine j_iload_n d_Mo_first_62 rfl ?_
      refine j_istore_n (L' := [some (.ref a0), some (.int p1), some (.int p2), some (.int ((0 : Int32)))]) d_Mo_first_63 (by decide) rfl ?_
      refine j_iinc (v := (p2 + (1 : Int32))) (L' := [some (.ref a0), some (.int p1), some (.int ((p2 + (1 : Int32)))), some (.int ((0 : Int32)))]) d_Mo_first_64 rfl (by rw [show Int32.ofInt (1) = (1 : Int32) by decide]) (by decide) rfl ?_
      refine j_goto (tgt := 4) d_Mo_first_67 (by decide) ?_
      refine j_forget (L' := [some (.ref a0), some (.int p1), some (.int ((p2 + (1 : Int32)))), none]) ⟨Or.inr rfl, Or.inr rfl, Or.inr rfl, Or.inl rfl, trivial⟩ ?_
      exact H
    · have H := Hb c43
      refine j_aload_n d_Mo_first_21 rfl ?_
      obtain ⟨b7, e8, H⟩ := H
      refine j_getR (f := 665) (b := b7) fe_Mo_73 rfl rfl t1 e8 d_Mo_first_22 ?_
      refine j_iload_n d_Mo_first_25 rfl ?_
      obtain ⟨t9, H⟩ := H
      obtain ⟨n11, x10, H⟩ := H
      refine j_iald (n := n11) t9 x10 d_Mo_first_26 ?_
      refine j_aload_n d_Mo_first_27 rfl ?_
      refine j_getI (f := 658) fe_Mo_58 rfl rfl t1 d_Mo_first_28 ?_
      obtain ⟨Ha, Hb⟩ := H
      refine j_icmp_gt (tgt := 38) d_Mo_first_31 (by decide) (fun c40 => ?_) (fun c41 => ?_)
      · have H := Ha c40
        refine j_iconst (v := 0) d_Mo_first_38 (by decide) ?_
        refine j_istore_n (L' := [some (.ref a0), some (.int p1), some (.int p2), some (.int ((0 : Int32)))]) d_Mo_first_39 (by decide) rfl ?_
        refine j_iload_n d_Mo_first_40 rfl ?_
        refine j_if_eq (tgt := 62) d_Mo_first_41 (by decide) (fun _ => ?_) (fun c => absurd c (by decide))
        refine j_iload_n d_Mo_first_62 rfl ?_
        refine j_istore_n (L' := [some (.ref a0), some (.int p1), some (.int p2), some (.int ((0 : Int32)))]) d_Mo_first_63 (by decide) rfl ?_
        refine j_iinc (v := (p2 + (1 : Int32))) (L' := [some (.ref a0), some (.int p1), some (.int ((p2 + (1 : Int32)))), some (.int ((0 : Int32)))]) d_Mo_first_64 rfl (by rw [show Int32.ofInt (1) = (1 : Int32) by decide]) (by decide) rfl ?_
        refine j_goto (tgt := 4) d_Mo_first_67 (by decide) ?_
        refine j_forget (L' := [some (.ref a0), some (.int p1), some (.int ((p2 + (1 : Int32)))), none]) ⟨Or.inr rfl, Or.inr rfl, Or.inr rfl, Or.inl rfl, trivial⟩ ?_
        exact H
      · have H := Hb c41
        refine j_iconst (v := 1) d_Mo_first_34 (by decide) ?_
        refine j_goto (tgt := 39) d_Mo_first_35 (by decide) ?_
        refine j_istore_n (L' := [some (.ref a0), some (.int p1), some (.int p2), some (.int ((1 : Int32)))]) d_Mo_first_39 (by decide) rfl ?_
        refine j_iload_n d_Mo_first_40 rfl ?_
        refine j_if_eq (tgt := 62) d_Mo_first_41 (by decide) (fun c => absurd c (by decide)) (fun _ => ?_)
        refine j_iload_n d_Mo_first_44 rfl ?_
        refine j_iconst (v := -1) d_Mo_first_45 (by decide) ?_
        obtain ⟨Ha, Hb⟩ := H
        refine j_icmp_eq (tgt := 58) d_Mo_first_46 (by decide) (fun c38 => ?_) (fun c39 => ?_)
        · have H := Ha c38
          refine j_iload_n d_Mo_first_58 rfl ?_
          refine j_goto (tgt := 63) d_Mo_first_59 (by decide) ?_
          refine j_istore_n (L' := [some (.ref a0), some (.int p2), some (.int p2), some (.int ((1 : Int32)))]) d_Mo_first_63 (by decide) rfl ?_
          refine j_iinc (v := (p2 + (1 : Int32))) (L' := [some (.ref a0), some (.int p2), some (.int ((p2 + (1 : Int32)))), some (.int ((1 : Int32)))]) d_Mo_first_64 rfl (by rw [show Int32.ofInt (1) = (1 : Int32) by decide]) (by decide) rfl ?_
          refine j_goto (tgt := 4) d_Mo_first_67 (by decide) ?_
          refine j_forget (L' := [some (.ref a0), some (.int p2), some (.int ((p2 + (1 : Int32)))), none]) ⟨Or.inr rfl, Or.inr rfl, Or.inr rfl, Or.inl rfl, trivial⟩ ?_
          exact H
        · have H := Hb c39
          refine j_aload_n d_Mo_first_49 rfl ?_
          refine j_iload_n d_Mo_first_50 rfl ?_
          refine j_iload_n d_Mo_first_51 rfl ?_
          refine j_callV (d' := 1) (ci := 10) (As := [.int p2, .int p1]) (rest := []) (b := a0) cv_Mo_187 me_Mo_isAhead rfl (by decide) rfl rfl t1 rfl rfl (Nat.le_of_ble_eq_true rfl) d_Mo_first_52 (by decide) rfl (j_enter (L := [some (.ref a0), some (.int p2), some (.int p1)]) me_Mo_isAhead (cat_c rfl (cat_c rfl (cat_c rfl cat_n))) (Nat.le_of_ble_eq_true rfl) rfl ?_)
          refine j_aload_n d_Mo_isAhead_0 rfl ?_
          refine j_getR (f := 665) (b := b7) fe_Mo_73 rfl rfl t1 e8 d_Mo_isAhead_1 ?_
          refine j_iload_n d_Mo_isAhead_4 rfl ?_
          refine j_iald (n := n11) t9 x10 d_Mo_isAhead_5 ?_
          refine j_aload_n d_Mo_isAhead_6 rfl ?_
          refine j_getR (f := 665) (b := b7) fe_Mo_73 rfl rfl t1 e8 d_Mo_isAhead_7 ?_
          refine j_iload_n d_Mo_isAhead_10 rfl ?_
          obtain ⟨n13, x12, H⟩ := H
          refine j_iald (n := n13) t9 x12 d_Mo_isAhead_11 ?_
          obtain ⟨Ha, Hb⟩ := H
          refine j_icmp_eq (tgt := 38) d_Mo_isAhead_12 (by decide) (fun c36 => ?_) (fun c37 => ?_)
          · have H := Ha c36
            refine j_aload_n d_Mo_isAhead_38 rfl ?_
            obtain ⟨b14, e15, H⟩ := H
            refine j_getR (f := 663) (b := b14) fe_Mo_67 rfl rfl t1 e15 d_Mo_isAhead_39 ?_
            refine j_iload_n d_Mo_isAhead_42 rfl ?_
            obtain ⟨t16, H⟩ := H
            obtain ⟨n18, x17, H⟩ := H
            refine j_iald (n := n18) t16 x17 d_Mo_isAhead_43 ?_
            refine j_aload_n d_Mo_isAhead_44 rfl ?_
            refine j_getR (f := 663) (b := b14) fe_Mo_67 rfl rfl t1 e15 d_Mo_isAhead_45 ?_
            refine j_iload_n d_Mo_isAhead_48 rfl ?_
            obtain ⟨n20, x19, H⟩ := H
            refine j_iald (n := n20) t16 x19 d_Mo_isAhead_49 ?_
            obtain ⟨Ha, Hb⟩ := H
            refine j_icmp_eq (tgt := 76) d_Mo_isAhead_50 (by decide) (fun c32 => ?_) (fun c33 => ?_)
            · have H := Ha c32
              refine j_aload_n d_Mo_isAhead_76 rfl ?_
              obtain ⟨b21, e22, H⟩ := H
              refine j_getR (f := 664) (b := b21) fe_Mo_70 rfl rfl t1 e22 d_Mo_isAhead_77 ?_
              refine j_iload_n d_Mo_isAhead_80 rfl ?_
              obtain ⟨t23, H⟩ := H
              obtain ⟨n25, x24, H⟩ := H
              refine j_iald (n := n25) t23 x24 d_Mo_isAhead_81 ?_
              refine j_aload_n d_Mo_isAhead_82 rfl ?_
              refine j_getR (f := 664) (b := b21) fe_Mo_70 rfl rfl t1 e22 d_Mo_isAhead_83 ?_
              refine j_iload_n d_Mo_isAhead_86 rfl ?_
              obtain ⟨n27, x26, H⟩ := H
              refine j_iald (n := n27) t23 x26 d_Mo_isAhead_87 ?_
              obtain ⟨Ha, Hb⟩ := H
              refine j_icmp_ge (tgt := 95) d_Mo_isAhead_88 (by decide) (fun c28 => ?_) (fun c29 => ?_)
              · have H := Ha c28
                refine j_iconst (v := 0) d_Mo_isAhead_95 (by decide) ?_
                refine j_zret rfl (by decide) d_Mo_isAhead_96 ?_
                show J E 2 m_Mo_first 55 [some (.ref a0), some (.int p1), some (.int p2), some (.int ((1 : Int32)))] [.int ((0 : Int32))] G Post
                refine j_if_eq (tgt := 62) d_Mo_first_55 (by decide) (fun _ => ?_) (fun c => absurd c (by decide))
                refine j_iload_n d_Mo_first_62 rfl ?_
                refine j_istore_n (L' := [some (.ref a0), some (.int p1), some (.int p2), some (.int ((1 : Int32)))]) d_Mo_first_63 (by decide) rfl ?_
                refine j_iinc (v := (p2 + (1 : Int32))) (L' := [some (.ref a0), some (.int p1), some (.int ((p2 + (1 : Int32)))), some (.int ((1 : Int32)))]) d_Mo_first_64 rfl (by rw [show Int32.ofInt (1) = (1 : Int32) by decide]) (by decide) rfl ?_
                refine j_goto (tgt := 4) d_Mo_first_67 (by decide) ?_
                refine j_forget (L' := [some (.ref a0), some (.int p1), some (.int ((p2 + (1 : Int32)))), none]) ⟨Or.inr rfl, Or.inr rfl, Or.inr rfl, Or.inl rfl, trivial⟩ ?_
                exact H
              · have H := Hb c29
                refine j_iconst (v := 1) d_Mo_isAhead_91 (by decide) ?_
                refine j_goto (tgt := 96) d_Mo_isAhead_92 (by decide) ?_
                refine j_zret rfl (by decide) d_Mo_isAhead_96 ?_
                show J E 2 m_Mo_first 55 [some (.ref a0), some (.int p1), some (.int p2), some (.int ((1 : Int32)))] [.int ((1 : Int32))] G Post
                refine j_if_eq (tgt := 62) d_Mo_first_55 (by decide) (fun c => absurd c (by decide)) (fun _ => ?_)
                refine j_iload_n d_Mo_first_58 rfl ?_
                refine j_goto (tgt := 63) d_Mo_first_59 (by decide) ?_
                refine j_istore_n (L' := [some (.ref a0), some (.int p2), some (.int p2), some (.int ((1 : Int32)))]) d_Mo_first_63 (by decide) rfl ?_
                refine j_iinc (v := (p2 + (1 : Int32))) (L' := [some (.ref a0), some (.int p2), some (.int ((p2 + (1 : Int32)))), some (.int ((1 : Int32)))]) d_Mo_first_64 rfl (by rw [show Int32.ofInt (1) = (1 : Int32) by decide]) (by decide) rfl ?_
                refine j_goto (tgt := 4) d_Mo_first_67 (by decide) ?_
                refine j_forget (L' := [some (.ref a0), some (.int p2), some (.int ((p2 + (1 : Int32)))), none]) ⟨Or.inr rfl, Or.inr rfl, Or.inr rfl, Or.inl rfl, trivial⟩ ?_
                exact H
            · have H := Hb c33
              refine j_aload_n d_Mo_isAhead_53 rfl ?_
              refine j_getR (f := 663) (b := b14) fe_Mo_67 rfl rfl t1 e15 d_Mo_isAhead_54 ?_
              refine j_iload_n d_Mo_isAhead_57 rfl ?_
              refine j_iald (n := n18) t16 x17 d_Mo_isAhead_58 ?_
              refine j_aload_n d_Mo_isAhead_59 rfl ?_
              refine j_getR (f := 663) (b := b14) fe_Mo_67 rfl rfl t1 e15 d_Mo_isAhead_60 ?_
              refine j_iload_n d_Mo_isAhead_63 rfl ?_
              refine j_iald (n := n20) t16 x19 d_Mo_isAhead_64 ?_
              obtain ⟨Ha, Hb⟩ := H
              refine j_icmp_ge (tgt := 72) d_Mo_isAhead_65 (by decide) (fun c30 => ?_) (fun c31 => ?_)
              · have H := Ha c30
                refine j_iconst (v := 0) d_Mo_isAhead_72 (by decide) ?_
                refine j_goto (tgt := 96) d_Mo_isAhead_73 (by decide) ?_
                refine j_zret rfl (by decide) d_Mo_isAhead_96 ?_
                show J E 2 m_Mo_first 55 [some (.ref a0), some (.int p1), some (.int p2), some (.int ((1 : Int32)))] [.int ((0 : Int32))] G Post
                refine j_if_eq (tgt := 62) d_Mo_first_55 (by decide) (fun _ => ?_) (fun c => absurd c (by decide))
                refine j_iload_n d_Mo_first_62 rfl ?_
                refine j_istore_n (L' := [some (.ref a0), some (.int p1), some (.int p2), some (.int ((1 : Int32)))]) d_Mo_first_63 (by decide) rfl ?_
                refine j_iinc (v := (p2 + (1 : Int32))) (L' := [some (.ref a0), some (.int p1), some (.int ((p2 + (1 : Int32)))), some (.int ((1 : Int32)))]) d_Mo_first_64 rfl (by rw [show Int32.ofInt (1) = (1 : Int32) by decide]) (by decide) rfl ?_
                refine j_goto (tgt := 4) d_Mo_first_67 (by decide) ?_
                refine j_forget (L' := [some (.ref a0), some (.int p1), some (.int ((p2 + (1 : Int32)))), none]) ⟨Or.inr rfl, Or.inr rfl, Or.inr rfl, Or.inl rfl, trivial⟩ ?_
                exact H
              · have H := Hb c31
                refine j_iconst (v := 1) d_Mo_isAhead_68 (by decide) ?_
                refine j_goto (tgt := 96) d_Mo_isAhead_69 (by decide) ?_
                refine j_zret rfl (by decide) d_Mo_isAhead_96 ?_
                show J E 2 m_Mo_first 55 [some (.ref a0), some (.int p1), some (.int p2), some (.int ((1 : Int32)))] [.int ((1 : Int32))] G Post
                refine j_if_eq (tgt := 62) d_Mo_first_55 (by decide) (fun c => absurd c (by decide)) (fun _ => ?_)
                refine j_iload_n d_Mo_first_58 rfl ?_
                refine j_goto (tgt := 63) d_Mo_first_59 (by decide) ?_
                refine j_istore_n (L' := [some (.ref a0), some (.int p2), some (.int p2), some (.int ((1 : Int32)))]) d_Mo_first_63 (by decide) rfl ?_
                refine j_iinc (v := (p2 + (1 : Int32))) (L' := [some (.ref a0), some (.int p2), some (.int ((p2 + (1 : Int32)))), some (.int ((1 : Int32)))]) d_Mo_first_64 rfl (by rw [show Int32.ofInt (1) = (1 : Int32) by decide]) (by decide) rfl ?_
                refine j_goto (tgt := 4) d_Mo_first_67 (by decide) ?_
                refine j_forget (L' := [some (.ref a0), some (.int p2), some (.int ((p2 + (1 : Int32)))), none]) ⟨Or.inr rfl, Or.inr rfl, Or.inr rfl, Or.inl rfl, trivial⟩ ?_
                exact H
          · have H := Hb c37
            refine j_aload_n d_Mo_isAhead_15 rfl ?_
            refine j_getR (f := 665) (b := b7) fe_Mo_73 rfl rfl t1 e8 d_Mo_isAhead_16 ?_
            refine j_iload_n d_Mo_isAhead_19 rfl ?_
            refine j_iald (n := n11) t9 x10 d_Mo_isAhead_20 ?_
            refine j_aload_n d_Mo_isAhead_21 rfl ?_
            refine j_getR (f := 665) (b := b7) fe_Mo_73 rfl rfl t1 e8 d_Mo_isAhead_22 ?_
            refine j_iload_n d_Mo_isAhead_25 rfl ?_
            refine j_iald (n := n13) t9 x12 d_Mo_isAhead_26 ?_
            obtain ⟨Ha, Hb⟩ := H
            refine j_icmp_ge (tgt := 34) d_Mo_isAhead_27 (by decide) (fun c34 => ?_) (fun c35 => ?_)
            · have H := Ha c34
              refine j_iconst (v := 0) d_Mo_isAhead_34 (by decide) ?_
              refine j_goto (tgt := 96) d_Mo_isAhead_35 (by decide) ?_
              refine j_zret rfl (by decide) d_Mo_isAhead_96 ?_
              show J E 2 m_Mo_first 55 [some (.ref a0), some (.int p1), some (.int p2), some (.int ((1 : Int32)))] [.int ((0 : Int32))] G Post
              refine j_if_eq (tgt := 62) d_Mo_first_55 (by decide) (fun _ => ?_) (fun c => absurd c (by decide))
              refine j_iload_n d_Mo_first_62 rfl ?_
              refine j_istore_n (L' := [some (.ref a0), some (.int p1), some (.int p2), some (.int ((1 : Int32)))]) d_Mo_first_63 (by decide) rfl ?_
              refine j_iinc (v := (p2 + (1 : Int32))) (L' := [some (.ref a0), some (.int p1), some (.int ((p2 + (1 : Int32)))), some (.int ((1 : Int32)))]) d_Mo_first_64 rfl (by rw [show Int32.ofInt (1) = (1 : Int32) by decide]) (by decide) rfl ?_
              refine j_goto (tgt := 4) d_Mo_first_67 (by decide) ?_
              refine j_forget (L' := [some (.ref a0), some (.int p1), some (.int ((p2 + (1 : Int32)))), none]) ⟨Or.inr rfl, Or.inr rfl, Or.inr rfl, Or.inl rfl, trivial⟩ ?_
              exact H
            · have H := Hb c35
              refine j_iconst (v := 1) d_Mo_isAhead_30 (by decide) ?_
              refine j_goto (tgt := 96) d_Mo_isAhead_31 (by decide) ?_
              refine j_zret rfl (by decide) d_Mo_isAhead_96 ?_
              show J E 2 m_Mo_first 55 [some (.ref a0), some (.int p1), some (.int p2), some (.int ((1 : Int32)))] [.int ((1 : Int32))] G Post
              refine j_if_eq (tgt := 62) d_Mo_first_55 (by decide) (fun c => absurd c (by decide)) (fun _ => ?_)
              refine j_iload_n d_Mo_first_58 rfl ?_
              refine j_goto (tgt := 63) d_Mo_first_59 (by decide) ?_
              refine j_istore_n (L' := [some (.ref a0), some (.int p2), some (.int p2), some (.int ((1 : Int32)))]) d_Mo_first_63 (by decide) rfl ?_
              refine j_iinc (v := (p2 + (1 : Int32))) (L' := [some (.ref a0), some (.int p2), some (.int ((p2 + (1 : Int32)))), some (.int ((1 : Int32)))]) d_Mo_first_64 rfl (by rw [show Int32.ofInt (1) = (1 : Int32) by decide]) (by decide) rfl ?_
              refine j_goto (tgt := 4) d_Mo_first_67 (by decide) ?_
              refine j_forget (L' := [some (.ref a0), some (.int p2), some (.int ((p2 + (1 : Int32)))), none]) ⟨Or.inr rfl, Or.inr rfl, Or.inr rfl, Or.inl rfl, trivial⟩ ?_
              exact H
theorem wp_Mo_window_0 {E : EV} {G : GH} {Post : Res → GH → Prop} (a0 : Nat) (p1 : Int32) (p2 : Int32) (H : J E 1 m_Mo_window 2 [some (.ref a0), some (.int p1), some (.int p2), some (.int ((0 : Int32)))] [] G Post) : J E 1 m_Mo_window 0 [some (.ref a0), some (.int p1), some (.int p2), none] [] G Post := by
  refine j_iconst (v := 0) d_Mo_window_0 (by decide) ?_
  refine j_istore_n (L' := [some (.ref a0), some (.int p1), some (.int p2), some (.int ((0 : Int32)))]) d_Mo_window_1 (by decide) rfl ?_
  exact H
theorem wp_Mo_window_2 {E : EV} {G : GH} {Post : Res → GH → Prop} (a0 : Nat) (p1 : Int32) (p2 : Int32) (p3 : Int32) (H : gT G a0 = 11 ∧ ((gI G 669 a0) ≤ p3 → ∃ b2, gR G 663 a0 = some b2 ∧ gT G b2 = 20 ∧ ∃ n6, IX ((gI G 669 a0)) n6 (gN G b2) ∧ ∃ b7, gR G 664 a0 = some b7 ∧ gT G b7 = 20 ∧ ∃ n11, IX ((gI G 669 a0)) n11 (gN G b7) ∧ ∃ b12, gR G 665 a0 = some b12 ∧ gT G b12 = 20 ∧ ∃ n16, IX ((gI G 669 a0)) n16 (gN G b12) ∧ ∃ b17, gR G 666 a0 = some b17 ∧ gT G b17 = 20 ∧ ∃ n21, IX ((gI G 669 a0)) n21 (gN G b17) ∧ ∃ b22, gR G 667 a0 = some b22 ∧ gT G b22 = 20 ∧ ∃ n26, IX ((gI G 669 a0)) n26 (gN G b22) ∧ ∀ G27, G27 = sA (sA (sA (sA (sA G b2 n6 p1) b7 n11 p2) b12 n16 ((p2 + (gI G 642 a0)))) b17 n21 ((0 : Int32))) b22 n26 ((0 : Int32)) → ∃ b29, gR G 668 a0 = some b29 ∧ gT G b29 = 21 ∧ ∃ n33, IX ((gI G 669 a0)) n33 (gN G b29) ∧ Post (.inl (some (.int (((((gI G 669 a0) + (1 : Int32))) - (1 : Int32)))))) (sI (sA G27 b29 n33 ((0 : Int32))) 669 a0 (((gI G 669 a0) + (1 : Int32))))) ∧ (¬ (gI G 669 a0) ≤ p3 → ∃ b34, gR G 663 a0 = some b34 ∧ (gT G b34 = 20 ∨ gT G b34 = 25) ∧ ∃ n38, IX p3 n38 (gN G b34) ∧ (¬ (gA G b34 n38) = p1 → J E 1 m_Mo_window 2 [some (.ref a0), some (.int p1), some (.int p2), some (.int ((p3 + (1 : Int32))))] [] G Post) ∧ ((gA G b34 n38) = p1 → ∃ b39, gR G 664 a0 = some b39 ∧ (gT G b39 = 20 ∨ gT G b39 = 25) ∧ ∃ n43, IX p3 n43 (gN G b39) ∧ (¬ (gA G b39 n43) = p2 → J E 1 m_Mo_window 2 [some (.ref a0), some (.int p1), some (.int p2), some (.int ((p3 + (1 : Int32))))] [] G Post) ∧ ((gA G b39 n43) = p2 → Post (.inl (some (.int p3))) G)))) : J E 1 m_Mo_window 2 [some (.ref a0), some (.int p1), some (.int p2), some (.int p3)] [] G Post := by
  refine j_iload_n d_Mo_window_2 rfl ?_
  refine j_aload_n d_Mo_window_3 rfl ?_
  obtain ⟨t1, H⟩ := H
  refine j_getI (f := 669) fe_Mo_184 rfl rfl t1 d_Mo_window_4 ?_
  obtain ⟨Ha, Hb⟩ := H
  refine j_icmp_ge (tgt := 38) d_Mo_window_7 (by decide) (fun c48 => ?_) (fun c49 => ?_)
  · have H := Ha c48
    refine j_aload_n d_Mo_window_38 rfl ?_
    obtain ⟨b2, e3, H⟩ := H
    refine j_getR (f := 663) (b := b2) fe_Mo_67 rfl rfl t1 e3 d_Mo_window_39 ?_
    refine j_aload_n d_Mo_window_42 rfl ?_
    refine j_getI (f := 669) fe_Mo_184 rfl rfl t1 d_Mo_window_43 ?_
    refine j_iload_n d_Mo_window_46 rfl ?_
    obtain ⟨t4, H⟩ := H
    obtain ⟨n6, x5, H⟩ := H
    refine j_iast (n := n6) t4 x5 d_Mo_window_47 ?_
    refine j_aload_n d_Mo_window_48 rfl ?_
    obtain ⟨b7, e8, H⟩ := H
    refine j_getR (f := 664) (b := b7) fe_Mo_70 rfl rfl t1 e8 d_Mo_window_49 ?_
    refine j_aload_n d_Mo_window_52 rfl ?_
    refine j_getI (f := 669) fe_Mo_184 rfl rfl t1 d_Mo_window_53 ?_
    refine j_iload_n d_Mo_window_56 rfl ?_
    obtain ⟨t9, H⟩ := H
    obtain ⟨n11, x10, H⟩ := H
    refine j_iast (n := n11) t9 x10 d_Mo_window_57 ?_
    refine j_aload_n d_Mo_window_58 rfl ?_
    obtain ⟨b12, e13, H⟩ := H
    refine j_getR (f := 665) (b := b12) fe_Mo_73 rfl rfl t1 e13 d_Mo_window_59 ?_
    refine j_aload_n d_Mo_window_62 rfl ?_
    refine j_getI (f := 669) fe_Mo_184 rfl rfl t1 d_Mo_window_63 ?_
    refine j_iload_n d_Mo_window_66 rfl ?_
    refine j_aload_n d_Mo_window_67 rfl ?_
    refine j_getI (f := 642) fe_Mo_13 rfl rfl t1 d_Mo_window_68 ?_
    refine j_iadd d_Mo_window_71 ?_
    obtain ⟨t14, H⟩ := H
    obtain ⟨n16, x15, H⟩ := H
    refine j_iast (n := n16) t14 x15 d_Mo_window_72 ?_
    refine j_aload_n d_Mo_window_73 rfl ?_
    obtain ⟨b17, e18, H⟩ := H
    refine j_getR (f := 666) (b := b17) fe_Mo_76 rfl rfl t1 e18 d_Mo_window_74 ?_
    refine j_aload_n d_Mo_window_77 rfl ?_
    refine j_getI (f := 669) fe_Mo_184 rfl rfl t1 d_Mo_window_78 ?_
    refine j_iconst (v := 0) d_Mo_window_81 (by decide) ?_
    obtain ⟨t19, H⟩ := H
    obtain ⟨n21, x20, H⟩ := H
    refine j_iast (n := n21) t19 x20 d_Mo_window_82 ?_
    refine j_aload_n d_Mo_window_83 rfl ?_
    obtain ⟨b22, e23, H⟩ := H
    refine j_getR (f := 667) (b := b22) fe_Mo_79 rfl rfl t1 e23 d_Mo_window_84 ?_
    refine j_aload_n d_Mo_window_87 rfl ?_
    refine j_getI (f := 669) fe_Mo_184 rfl rfl t1 d_Mo_window_88 ?_
    refine j_iconst (v := 0) d_Mo_window_91 (by decide) ?_
    obtain ⟨t24, H⟩ := H
    obtain ⟨n26, x25, H⟩ := H
    refine j_iast (n := n26) t24 x25 d_Mo_window_92 ?_
    show J E 1 m_Mo_window 93 [some (.ref a0), some (.int p1), some (.int p2), some (.int p3)] [] (sA (sA (sA (sA (sA G b2 n6 p1) b7 n11 p2) b12 n16 ((p2 + (gI G 642 a0)))) b17 n21 ((0 : Int32))) b22 n26 ((0 : Int32))) Post
    generalize e28 : sA (sA (sA (sA (sA G b2 n6 p1) b7 n11 p2) b12 n16 ((p2 + (gI G 642 a0)))) b17 n21 ((0 : Int32))) b22 n26 ((0 : Int32)) = G27
    have e28 := e28.symm
    have H := H G27 e28
    refine j_aload_n d_Mo_window_93 rfl ?_
    obtain ⟨b29, e30, H⟩ := H
    refine j_getR (f := 668) (b := b29) fe_Mo_82 rfl rfl (by rw [e28]; exact t1) (by rw [e28]; exact e30) d_Mo_window_94 ?_
    refine j_aload_n d_Mo_window_97 rfl ?_
    refine j_getIv (f := 669) (v := (gI G 669 a0)) fe_Mo_184 rfl rfl (by rw [e28]; exact t1) (by rw [e28]; rfl) d_Mo_window_98 ?_
    refine j_iconst (v := 0) d_Mo_window_101 (by decide) ?_
    obtain ⟨t31, H⟩ := H
    obtain ⟨n33, x32, H⟩ := H
    refine j_zast (n := n33) (by rw [e28]; exact t31) (IX_n (by first | (rw [e28]; done) | (rw [e28]; rfl)) x32) (by decide) d_Mo_window_102 ?_
    refine j_aload_n d_Mo_window_103 rfl ?_
    refine j_dup d_Mo_window_104 rfl ?_
    refine j_getIv (f := 669) (v := (gI G 669 a0)) fe_Mo_184 rfl rfl (by rw [e28]; exact t1) (by rw [e28]; rfl) d_Mo_window_105 ?_
    refine j_iconst (v := 1) d_Mo_window_108 (by decide) ?_
    refine j_iadd d_Mo_window_109 ?_
    refine j_putI (f := 669) fw_Mo_184 rfl rfl (by rw [e28]; exact t1) d_Mo_window_110 ?_
    refine j_aload_n d_Mo_window_113 rfl ?_
    refine j_getIv (f := 669) (v := (((gI G 669 a0) + (1 : Int32)))) fe_Mo_184 rfl rfl (by rw [e28]; exact t1) (show gI (sI (sA G27 b29 n33 ((0 : Int32))) 669 a0 (((gI G 669 a0) + (1 : Int32)))) 669 a0 = _ from gI_sI_eq) d_Mo_window_114 ?_
    refine j_iconst (v := 1) d_Mo_window_117 (by decide) ?_
    refine j_isub d_Mo_window_118 ?_
    exact j_iret rfl d_Mo_window_119 H
  · have H := Hb c49
    refine j_aload_n d_Mo_window_10 rfl ?_
    obtain ⟨b34, e35, H⟩ := H
    refine j_getR (f := 663) (b := b34) fe_Mo_67 rfl rfl t1 e35 d_Mo_window_11 ?_
    refine j_iload_n d_Mo_window_14 rfl ?_
    obtain ⟨t36, H⟩ := H
    obtain ⟨n38, x37, H⟩ := H
    refine j_iald (n := n38) t36 x37 d_Mo_window_15 ?_
    refine j_iload_n d_Mo_window_16 rfl ?_
    obtain ⟨Ha, Hb⟩ := H
    refine j_icmp_ne (tgt := 32) d_Mo_window_17 (by decide) (fun c46 => ?_) (fun c47 => ?_)
    · have H := Ha c46
      refine j_iinc (v := (p3 + (1 : Int32))) (L' := [some (.ref a0), some (.int p1), some (.int p2), some (.int ((p3 + (1 : Int32))))]) d_Mo_window_32 rfl (by rw [show Int32.ofInt (1) = (1 : Int32) by decide]) (by decide) rfl ?_
      refine j_goto (tgt := 2) d_Mo_window_35 (by decide) ?_
      exact H
    · have H := Hb c47
      refine j_aload_n d_Mo_window_20 rfl ?_
      obtain ⟨b39, e40, H⟩ := H
      refine j_getR (f := 664) (b := b39) fe_Mo_70 rfl rfl t1 e40 d_Mo_window_21 ?_
      refine j_iload_n d_Mo_window_24 rfl ?_
      obtain ⟨t41, H⟩ := H
      obtain ⟨n43, x42, H⟩ := H
      refine j_iald (n := n43) t41 x42 d_Mo_window_25 ?_
      refine j_iload_n d_Mo_window_26 rfl ?_
      obtain ⟨Ha, Hb⟩ := H
      refine j_icmp_ne (tgt := 32) d_Mo_window_27 (by decide) (fun c44 => ?_) (fun c45 => ?_)
      · have H := Ha c44
        refine j_iinc (v := (p3 + (1 : Int32))) (L' := [some (.ref a0), some (.int p1), some (.int p2), some (.int ((p3 + (1 : Int32))))]) d_Mo_window_32 rfl (by rw [show Int32.ofInt (1) = (1 : Int32) by decide]) (by decide) rfl ?_
        refine j_goto (tgt := 2) d_Mo_window_35 (by decide) ?_
        exact H
      · have H := Hb c45
        refine j_iload_n d_Mo_window_30 rfl ?_
        exact j_iret rfl d_Mo_window_31 H
theorem wp_Mo_comes_0 {E : EV} {G : GH} {Post : Res → GH → Prop} (a0 : Nat) (p1 : Int32) (H : gT G a0 = 11 ∧ ∃ b2, gR G 649 a0 = some b2 ∧ (gT G b2 = 20 ∨ gT G b2 = 25) ∧ ∃ n6, IX p1 n6 (gN G b2) ∧ ¬ (gI G 643 a0) = 0 ∧ J E 2 m_Mo_comes 24 [some (.ref a0), some (.int p1), some (.int ((((gA (sI G 671 a0 ((0 : Int32))) b2 n6) / (gI G 643 a0)) * (gI G 643 a0)))), some (.int ((((gA (sI G 671 a0 ((0 : Int32))) b2 n6) / (gI G 643 a0)) * (gI G 643 a0)))), none] [] (sI G 671 a0 ((0 : Int32))) Post) : J E 2 m_Mo_comes 0 [some (.ref a0), some (.int p1), none, none, none] [] G Post := by
  refine j_aload_n d_Mo_comes_0 rfl ?_
  refine j_iconst (v := 0) d_Mo_comes_1 (by decide) ?_
  obtain ⟨t1, H⟩ := H
  refine j_putI (f := 671) fw_Mo_191 rfl rfl t1 d_Mo_comes_2 ?_
  refine j_aload_n d_Mo_comes_5 rfl ?_
  obtain ⟨b2, e3, H⟩ := H
  refine j_getR (f := 649) (b := b2) fe_Mo_29 rfl rfl t1 e3 d_Mo_comes_6 ?_
  refine j_iload_n d_Mo_comes_9 rfl ?_
  obtain ⟨t4, H⟩ := H
  obtain ⟨n6, x5, H⟩ := H
  refine j_iald (n := n6) t4 x5 d_Mo_comes_10 ?_
  refine j_aload_n d_Mo_comes_11 rfl ?_
  refine j_getI (f := 643) fe_Mo_16 rfl rfl t1 d_Mo_comes_12 ?_
  obtain ⟨z7, H⟩ := H
  refine j_idiv d_Mo_comes_15 z7 ?_
  refine j_aload_n d_Mo_comes_16 rfl ?_
  refine j_getI (f := 643) fe_Mo_16 rfl rfl t1 d_Mo_comes_17 ?_
  refine j_imul d_Mo_comes_20 ?_
  refine j_istore_n (L' := [some (.ref a0), some (.int p1), some (.int ((((gA (sI G 671 a0 ((0 : Int32))) b2 n6) / (gI G 643 a0)) * (gI G 643 a0)))), none, none]) d_Mo_comes_21 (by decide) rfl ?_
  refine j_iload_n d_Mo_comes_22 rfl ?_
  refine j_istore_n (L' := [some (.ref a0), some (.int p1), some (.int ((((gA (sI G 671 a0 ((0 : Int32))) b2 n6) / (gI G 643 a0)) * (gI G 643 a0)))), some (.int ((((gA (sI G 671 a0 ((0 : Int32))) b2 n6) / (gI G 643 a0)) * (gI G 643 a0)))), none]) d_Mo_comes_23 (by decide) rfl ?_
  exact H
theorem wp_Mo_comes_24 {E : EV} {G : GH} {Post : Res → GH → Prop} (a0 : Nat) (p1 : Int32) (p2 : Int32) (p3 : Int32) (H : gT G a0 = 11 ∧ ((p3 - (gI G 643 a0)) < 0 → J E 2 m_Mo_comes 66 [some (.ref a0), some (.int p1), some (.int p2), none, some (.int p3)] [] G Post) ∧ (¬ (p3 - (gI G 643 a0)) < 0 → ∃ b2, gR G 649 a0 = some b2 ∧ (gT G b2 = 20 ∨ gT G b2 = 25) ∧ ∃ n6, IX p1 n6 (gN G b2) ∧ (((p3 - (gI G 643 a0)) + (gI G 642 a0)) ≤ (gA G b2 n6) → J E 2 m_Mo_comes 66 [some (.ref a0), some (.int p1), some (.int p2), none, some (.int p3)] [] G Post) ∧ (¬ ((p3 - (gI G 643 a0)) + (gI G 642 a0)) ≤ (gA G b2 n6) → J E 2 m_Mo_comes 24 [some (.ref a0), some (.int p1), some (.int p2), some (.int ((p3 - (gI G 643 a0)))), none] [] G Post))) : J E 2 m_Mo_comes 24 [some (.ref a0), some (.int p1), some (.int p2), some (.int p3), none] [] G Post := by
  refine j_iload_n d_Mo_comes_24 rfl ?_
  refine j_aload_n d_Mo_comes_25 rfl ?_
  obtain ⟨t1, H⟩ := H
  refine j_getI (f := 643) fe_Mo_16 rfl rfl t1 d_Mo_comes_26 ?_
  refine j_isub d_Mo_comes_29 ?_
  obtain ⟨Ha, Hb⟩ := H
  refine j_if_lt (tgt := 63) d_Mo_comes_30 (by decide) (fun c9 => ?_) (fun c10 => ?_)
  · have H := Ha c9
    refine j_iload_n d_Mo_comes_63 rfl ?_
    refine j_istore (L' := [some (.ref a0), some (.int p1), some (.int p2), some (.int p3), some (.int p3)]) d_Mo_comes_64 (by decide) rfl ?_
    refine j_forget (L' := [some (.ref a0), some (.int p1), some (.int p2), none, some (.int p3)]) ⟨Or.inr rfl, Or.inr rfl, Or.inr rfl, Or.inl rfl, Or.inr rfl, trivial⟩ ?_
    exact H
  · have H := Hb c10
    refine j_iload_n d_Mo_comes_33 rfl ?_
    refine j_aload_n d_Mo_comes_34 rfl ?_
    refine j_getI (f := 643) fe_Mo_16 rfl rfl t1 d_Mo_comes_35 ?_
    refine j_isub d_Mo_comes_38 ?_
    refine j_aload_n d_Mo_comes_39 rfl ?_
    refine j_getI (f := 642) fe_Mo_13 rfl rfl t1 d_Mo_comes_40 ?_
    refine j_iadd d_Mo_comes_43 ?_
    refine j_aload_n d_Mo_comes_44 rfl ?_
    obtain ⟨b2, e3, H⟩ := H
    refine j_getR (f := 649) (b := b2) fe_Mo_29 rfl rfl t1 e3 d_Mo_comes_45 ?_
    refine j_iload_n d_Mo_comes_48 rfl ?_
    obtain ⟨t4, H⟩ := H
    obtain ⟨n6, x5, H⟩ := H
    refine j_iald (n := n6) t4 x5 d_Mo_comes_49 ?_
    obtain ⟨Ha, Hb⟩ := H
    refine j_icmp_le (tgt := 63) d_Mo_comes_50 (by decide) (fun c7 => ?_) (fun c8 => ?_)
    · have H := Ha c7
      refine j_iload_n d_Mo_comes_63 rfl ?_
      refine j_istore (L' := [some (.ref a0), some (.int p1), some (.int p2), some (.int p3), some (.int p3)]) d_Mo_comes_64 (by decide) rfl ?_
      refine j_forget (L' := [some (.ref a0), some (.int p1), some (.int p2), none, some (.int p3)]) ⟨Or.inr rfl, Or.inr rfl, Or.inr rfl, Or.inl rfl, Or.inr rfl, trivial⟩ ?_
      exact H
    · have H := Hb c8
      refine j_iload_n d_Mo_comes_53 rfl ?_
      refine j_aload_n d_Mo_comes_54 rfl ?_
      refine j_getI (f := 643) fe_Mo_16 rfl rfl t1 d_Mo_comes_55 ?_
      refine j_isub d_Mo_comes_58 ?_
      refine j_istore_n (L' := [some (.ref a0), some (.int p1), some (.int p2), some (.int ((p3 - (gI G 643 a0)))), none]) d_Mo_comes_59 (by decide) rfl ?_
      refine j_goto (tgt := 24) d_Mo_comes_60 (by decide) ?_
      exact H
theorem wp_Mo_comes_66 {E : EV} {G : GH} {Post : Res → GH → Prop} (a0 : Nat) (p1 : Int32) (p2 : Int32) (p4 : Int32) (H : (p2 < p4 → J E 2 m_Mo_comes 137 [some (.ref a0), some (.int p1), none, none, some (.int ((0 : Int32)))] [] G Post) ∧ (¬ p2 < p4 → gT G a0 = 11 ∧ (((p4 + (gI G 642 a0)) + (gI G 644 a0)) ≤ (gI G 658 a0) → J E 2 m_Mo_comes 66 [some (.ref a0), some (.int p1), some (.int p2), none, some (.int ((p4 + (gI G 643 a0))))] [] G Post) ∧ (¬ ((p4 + (gI G 642 a0)) + (gI G 644 a0)) ≤ (gI G 658 a0) → ∃ b2, gR G 670 a0 = some b2 ∧ ∃ b4, gR G 650 a0 = some b4 ∧ (gT G b4 = 20 ∨ gT G b4 = 25) ∧ ∃ n8, IX p1 n8 (gN G b4) ∧ Cl E 1 m_Mo_window [.ref a0, .int ((gA G b4 n8)), .int p4] G (aft E 2 m_Mo_comes 108 [some (.ref a0), some (.int p1), some (.int p2), none, some (.int p4)] [.int ((gI G 671 a0)), .ref b2] Post)))) : J E 2 m_Mo_comes 66 [some (.ref a0), some (.int p1), some (.int p2), none, some (.int p4)] [] G Post := by
  refine j_iload d_Mo_comes_66 rfl ?_
  refine j_iload_n d_Mo_comes_68 rfl ?_
  obtain ⟨Ha, Hb⟩ := H
  refine j_icmp_gt (tgt := 134) d_Mo_comes_69 (by decide) (fun c11 => ?_) (fun c12 => ?_)
  · have H := Ha c11
    refine j_iconst (v := 0) d_Mo_comes_134 (by decide) ?_
    refine j_istore (L' := [some (.ref a0), some (.int p1), some (.int p2), none, some (.int ((0 : Int32)))]) d_Mo_comes_135 (by decide) rfl ?_
    refine j_forget (L' := [some (.ref a0), some (.int p1), none, none, some (.int ((0 : Int32)))]) ⟨Or.inr rfl, Or.inr rfl, Or.inl rfl, Or.inl rfl, Or.inr rfl, trivial⟩ ?_
    exact H
  · have H := Hb c12
    refine j_iload d_Mo_comes_72 rfl ?_
    refine j_aload_n d_Mo_comes_74 rfl ?_
    obtain ⟨t1, H⟩ := H
    refine j_getI (f := 642) fe_Mo_13 rfl rfl t1 d_Mo_comes_75 ?_
    refine j_iadd d_Mo_comes_78 ?_
    refine j_aload_n d_Mo_comes_79 rfl ?_
    refine j_getI (f := 644) fe_Mo_153 rfl rfl t1 d_Mo_comes_80 ?_
    refine j_iadd d_Mo_comes_83 ?_
    refine j_aload_n d_Mo_comes_84 rfl ?_
    refine j_getI (f := 658) fe_Mo_58 rfl rfl t1 d_Mo_comes_85 ?_
    obtain ⟨Ha, Hb⟩ := H
    refine j_icmp_le (tgt := 122) d_Mo_comes_88 (by decide) (fun c9 => ?_) (fun c10 => ?_)
    · have H := Ha c9
      refine j_iload d_Mo_comes_122 rfl ?_
      refine j_aload_n d_Mo_comes_124 rfl ?_
      refine j_getI (f := 643) fe_Mo_16 rfl rfl t1 d_Mo_comes_125 ?_
      refine j_iadd d_Mo_comes_128 ?_
      refine j_istore (L' := [some (.ref a0), some (.int p1), some (.int p2), none, some (.int ((p4 + (gI G 643 a0))))]) d_Mo_comes_129 (by decide) rfl ?_
      refine j_goto (tgt := 66) d_Mo_comes_131 (by decide) ?_
      exact H
    · have H := Hb c10
      refine j_aload_n d_Mo_comes_91 rfl ?_
      obtain ⟨b2, e3, H⟩ := H
      refine j_getR (f := 670) (b := b2) fe_Mo_85 rfl rfl t1 e3 d_Mo_comes_92 ?_
      refine j_aload_n d_Mo_comes_95 rfl ?_
      refine j_getI (f := 671) fe_Mo_191 rfl rfl t1 d_Mo_comes_96 ?_
      refine j_aload_n d_Mo_comes_99 rfl ?_
      refine j_aload_n d_Mo_comes_100 rfl ?_
      obtain ⟨b4, e5, H⟩ := H
      refine j_getR (f := 650) (b := b4) fe_Mo_33 rfl rfl t1 e5 d_Mo_comes_101 ?_
      refine j_iload_n d_Mo_comes_104 rfl ?_
      obtain ⟨t6, H⟩ := H
      obtain ⟨n8, x7, H⟩ := H
      refine j_iald (n := n8) t6 x7 d_Mo_comes_105 ?_
      refine j_iload d_Mo_comes_106 rfl ?_
      exact j_callV (d' := 1) (ci := 10) (As := [.int ((gA G b4 n8)), .int p4]) (rest := [.int ((gI G 671 a0)), .ref b2]) (b := a0) cv_Mo_194 me_Mo_window rfl (by decide) rfl rfl t1 rfl rfl (Nat.le_of_ble_eq_true rfl) d_Mo_comes_108 (by decide) rfl H
theorem wp_Mo_comes_137 {E : EV} {G : GH} {Post : Res → GH → Prop} (a0 : Nat) (p1 : Int32) (p4 : Int32) (H : gT G a0 = 11 ∧ ((gI G 671 a0) ≤ p4 → J E 2 m_Mo_comes 182 [some (.ref a0), some (.int p1), none, none, some (.int ((0 : Int32)))] [] G Post) ∧ (¬ (gI G 671 a0) ≤ p4 → ∃ b2, gR G 668 a0 = some b2 ∧ ∃ b4, gR G 670 a0 = some b4 ∧ (gT G b4 = 20 ∨ gT G b4 = 25) ∧ ∃ n8, IX p4 n8 (gN G b4) ∧ gT G b2 = 21 ∧ ∃ n11, IX ((gA G b4 n8)) n11 (gN G b2) ∧ ((gA G b2 n11) = 0 → J E 2 m_Mo_comes 137 [some (.ref a0), some (.int p1), none, none, some (.int ((p4 + (1 : Int32))))] [] G Post) ∧ (¬ (gA G b2 n11) = 0 → Cl E 1 m_Mo_sends [.ref a0, .int ((gA G b4 n8)), .int ((1 : Int32))] G (aft E 2 m_Mo_comes 170 [some (.ref a0), some (.int p1), none, none, some (.int p4)] [] Post)))) : J E 2 m_Mo_comes 137 [some (.ref a0), some (.int p1), none, none, some (.int p4)] [] G Post := by
  refine j_iload d_Mo_comes_137 rfl ?_
  refine j_aload_n d_Mo_comes_139 rfl ?_
  obtain ⟨t1, H⟩ := H
  refine j_getI (f := 671) fe_Mo_191 rfl rfl t1 d_Mo_comes_140 ?_
  obtain ⟨Ha, Hb⟩ := H
  refine j_icmp_ge (tgt := 179) d_Mo_comes_143 (by decide) (fun c14 => ?_) (fun c15 => ?_)
  · have H := Ha c14
    refine j_iconst (v := 0) d_Mo_comes_179 (by decide) ?_
    refine j_istore (L' := [some (.ref a0), some (.int p1), none, none, some (.int ((0 : Int32)))]) d_Mo_comes_180 (by decide) rfl ?_
    exact H
  · have H := Hb c15
    refine j_aload_n d_Mo_comes_146 rfl ?_
    obtain ⟨b2, e3, H⟩ := H
    refine j_getR (f := 668) (b := b2) fe_Mo_82 rfl rfl t1 e3 d_Mo_comes_147 ?_
    refine j_aload_n d_Mo_comes_150 rfl ?_
    obtain ⟨b4, e5, H⟩ := H
    refine j_getR (f := 670) (b := b4) fe_Mo_85 rfl rfl t1 e5 d_Mo_comes_151 ?_
    refine j_iload d_Mo_comes_154 rfl ?_
    obtain ⟨t6, H⟩ := H
    obtain ⟨n8, x7, H⟩ := H
    refine j_iald (n := n8) t6 x7 d_Mo_comes_156 ?_
    obtain ⟨t9, H⟩ := H
    obtain ⟨n11, x10, H⟩ := H
    refine j_zald (n := n11) t9 x10 d_Mo_comes_157 ?_
    obtain ⟨Ha, Hb⟩ := H
    refine j_if_eq (tgt := 173) d_Mo_comes_158 (by decide) (fun c12 => ?_) (fun c13 => ?_)
    · have H := Ha c12
      refine j_iinc (v := (p4 + (1 : Int32))) (L' := [some (.ref a0), some (.int p1), none, none, some (.int ((p4 + (1 : Int32))))]) d_Mo_comes_173 rfl (by rw [show Int32.ofInt (1) = (1 : Int32) by decide]) (by decide) rfl ?_
      refine j_goto (tgt := 137) d_Mo_comes_176 (by decide) ?_
      exact H
    · have H := Hb c13
      refine j_aload_n d_Mo_comes_161 rfl ?_
      refine j_aload_n d_Mo_comes_162 rfl ?_
      refine j_getR (f := 670) (b := b4) fe_Mo_85 rfl rfl t1 e5 d_Mo_comes_163 ?_
      refine j_iload d_Mo_comes_166 rfl ?_
      refine j_iald (n := n8) t6 x7 d_Mo_comes_168 ?_
      refine j_iconst (v := 1) d_Mo_comes_169 (by decide) ?_
      exact j_callV (d' := 1) (ci := 10) (As := [.int ((gA G b4 n8)), .int ((1 : Int32))]) (rest := []) (b := a0) cv_Mo_180 me_Mo_sends rfl (by decide) rfl rfl t1 rfl rfl (Nat.le_of_ble_eq_true rfl) d_Mo_comes_170 (by decide) rfl H
theorem wp_Mo_comes_111 {E : EV} {G : GH} {Post : Res → GH → Prop} (a0 : Nat) (p1 : Int32) (p2 : Int32) (p4 : Int32) (u0 : Nat) (s1 : Int32) (s2 : Int32) (H : gT G u0 = 20 ∧ ∃ n3, IX s1 n3 (gN G u0) ∧ gT G a0 = 11 ∧ J E 2 m_Mo_comes 66 [some (.ref a0), some (.int p1), some (.int p2), none, some (.int ((p4 + (gI G 643 a0))))] [] (sI (sA G u0 n3 s2) 671 a0 (((gI G 671 a0) + (1 : Int32)))) Post) : J E 2 m_Mo_comes 111 [some (.ref a0), some (.int p1), some (.int p2), none, some (.int p4)] [.int s2, .int s1, .ref u0] G Post := by
  obtain ⟨t1, H⟩ := H
  obtain ⟨n3, x2, H⟩ := H
  refine j_iast (n := n3) t1 x2 d_Mo_comes_111 ?_
  refine j_aload_n d_Mo_comes_112 rfl ?_
  refine j_dup d_Mo_comes_113 rfl ?_
  obtain ⟨t4, H⟩ := H
  refine j_getI (f := 671) fe_Mo_191 rfl rfl t4 d_Mo_comes_114 ?_
  refine j_iconst (v := 1) d_Mo_comes_117 (by decide) ?_
  refine j_iadd d_Mo_comes_118 ?_
  refine j_putI (f := 671) fw_Mo_191 rfl rfl t4 d_Mo_comes_119 ?_
  refine j_iload d_Mo_comes_122 rfl ?_
  refine j_aload_n d_Mo_comes_124 rfl ?_
  refine j_getI (f := 643) fe_Mo_16 rfl rfl t4 d_Mo_comes_125 ?_
  refine j_iadd d_Mo_comes_128 ?_
  refine j_istore (L' := [some (.ref a0), some (.int p1), some (.int p2), none, some (.int ((p4 + (gI G 643 a0))))]) d_Mo_comes_129 (by decide) rfl ?_
  refine j_goto (tgt := 66) d_Mo_comes_131 (by decide) ?_
  exact H
theorem wp_Mo_comes_182 {E : EV} {G : GH} {Post : Res → GH → Prop} (a0 : Nat) (p1 : Int32) (p4 : Int32) (H : gT G a0 = 11 ∧ ((gI G 671 a0) ≤ p4 → Post (.inl (some (.int ((gI G 671 a0))))) G) ∧ (¬ (gI G 671 a0) ≤ p4 → ∃ b2, gR G 666 a0 = some b2 ∧ ∃ b4, gR G 670 a0 = some b4 ∧ (gT G b4 = 20 ∨ gT G b4 = 25) ∧ ∃ n8, IX p4 n8 (gN G b4) ∧ (gT G b2 = 20 ∨ gT G b2 = 25) ∧ ∃ n11, IX ((gA G b4 n8)) n11 (gN G b2) ∧ gT G b2 = 20 ∧ ∃ b13, gR G 667 a0 = some b13 ∧ (gT G b13 = 20 ∨ gT G b13 = 25) ∧ ∃ n17, IX ((gA (sA G b2 n11 (((gA G b2 n11) + (1 : Int32)))) b4 n8)) n17 (gN G b13) ∧ ∃ b18, gR G 651 a0 = some b18 ∧ (gT G b18 = 20 ∨ gT G b18 = 25) ∧ ∃ n22, IX p1 n22 (gN G b18) ∧ gT G b13 = 20 ∧ ∀ G24, G24 = sA (sA G b2 n11 (((gA G b2 n11) + (1 : Int32)))) b13 n17 (((gA (sA G b2 n11 (((gA G b2 n11) + (1 : Int32)))) b13 n17) + (gA (sA G b2 n11 (((gA G b2 n11) + (1 : Int32)))) b18 n22))) → ∃ b26, gR G 668 a0 = some b26 ∧ gT G b26 = 21 ∧ ∃ n30, IX ((gA G24 b4 n8)) n30 (gN G b26) ∧ ((gA G24 b26 n30) = 0 → J E 2 m_Mo_comes 182 [some (.ref a0), some (.int p1), none, none, some (.int ((p4 + (1 : Int32))))] [] G24 Post) ∧ (¬ (gA G24 b26 n30) = 0 → Cl E 1 m_Mo_sends [.ref a0, .int ((gA G24 b4 n8)), .int ((0 : Int32))] G24 (aft E 2 m_Mo_comes 252 [some (.ref a0), some (.int p1), none, none, some (.int p4)] [] Post)))) : J E 2 m_Mo_comes 182 [some (.ref a0), some (.int p1), none, none, some (.int p4)] [] G Post := by
  refine j_iload d_Mo_comes_182 rfl ?_
  refine j_aload_n d_Mo_comes_184 rfl ?_
  obtain ⟨t1, H⟩ := H
  refine j_getI (f := 671) fe_Mo_191 rfl rfl t1 d_Mo_comes_185 ?_
  obtain ⟨Ha, Hb⟩ := H
  refine j_icmp_ge (tgt := 261) d_Mo_comes_188 (by decide) (fun c33 => ?_) (fun c34 => ?_)
  · have H := Ha c33
    refine j_aload_n d_Mo_comes_261 rfl ?_
    refine j_getI (f := 671) fe_Mo_191 rfl rfl t1 d_Mo_comes_262 ?_
    exact j_iret rfl d_Mo_comes_265 H
  · have H := Hb c34
    refine j_aload_n d_Mo_comes_191 rfl ?_
    obtain ⟨b2, e3, H⟩ := H
    refine j_getR (f := 666) (b := b2) fe_Mo_76 rfl rfl t1 e3 d_Mo_comes_192 ?_
    refine j_aload_n d_Mo_comes_195 rfl ?_
    obtain ⟨b4, e5, H⟩ := H
    refine j_getR (f := 670) (b := b4) fe_Mo_85 rfl rfl t1 e5 d_Mo_comes_196 ?_
    refine j_iload d_Mo_comes_199 rfl ?_
    obtain ⟨t6, H⟩ := H
    obtain ⟨n8, x7, H⟩ := H
    refine j_iald (n := n8) t6 x7 d_Mo_comes_201 ?_
    refine j_dup2 d_Mo_comes_202 rfl rfl ?_
    obtain ⟨t9, H⟩ := H
    obtain ⟨n11, x10, H⟩ := H
    refine j_iald (n := n11) t9 x10 d_Mo_comes_203 ?_
    refine j_iconst (v := 1) d_Mo_comes_204 (by decide) ?_
    refine j_iadd d_Mo_comes_205 ?_
    obtain ⟨t12, H⟩ := H
    refine j_iast (n := n11) t12 x10 d_Mo_comes_206 ?_
    refine j_aload_n d_Mo_comes_207 rfl ?_
    obtain ⟨b13, e14, H⟩ := H
    refine j_getR (f := 667) (b := b13) fe_Mo_79 rfl rfl t1 e14 d_Mo_comes_208 ?_
    refine j_aload_n d_Mo_comes_211 rfl ?_
    refine j_getR (f := 670) (b := b4) fe_Mo_85 rfl rfl t1 e5 d_Mo_comes_212 ?_
    refine j_iload d_Mo_comes_215 rfl ?_
    refine j_iald (n := n8) t6 x7 d_Mo_comes_217 ?_
    refine j_dup2 d_Mo_comes_218 rfl rfl ?_
    obtain ⟨t15, H⟩ := H
    obtain ⟨n17, x16, H⟩ := H
    refine j_iald (n := n17) t15 x16 d_Mo_comes_219 ?_
    refine j_aload_n d_Mo_comes_220 rfl ?_
    obtain ⟨b18, e19, H⟩ := H
    refine j_getR (f := 651) (b := b18) fe_Mo_36 rfl rfl t1 e19 d_Mo_comes_221 ?_
    refine j_iload_n d_Mo_comes_224 rfl ?_
    obtain ⟨t20, H⟩ := H
    obtain ⟨n22, x21, H⟩ := H
    refine j_iald (n := n22) t20 x21 d_Mo_comes_225 ?_
    refine j_iadd d_Mo_comes_226 ?_
    obtain ⟨t23, H⟩ := H
    refine j_iast (n := n17) t23 x16 d_Mo_comes_227 ?_
    show J E 2 m_Mo_comes 228 [some (.ref a0), some (.int p1), none, none, some (.int p4)] [] (sA (sA G b2 n11 (((gA G b2 n11) + (1 : Int32)))) b13 n17 (((gA (sA G b2 n11 (((gA G b2 n11) + (1 : Int32)))) b13 n17) + (gA (sA G b2 n11 (((gA G b2 n11) + (1 : Int32)))) b18 n22)))) Post
    generalize e25 : sA (sA G b2 n11 (((gA G b2 n11) + (1 : Int32)))) b13 n17 (((gA (sA G b2 n11 (((gA G b2 n11) + (1 : Int32)))) b13 n17) + (gA (sA G b2 n11 (((gA G b2 n11) + (1 : Int32)))) b18 n22))) = G24
    have e25 := e25.symm
    have H := H G24 e25
    refine j_aload_n d_Mo_comes_228 rfl ?_
    obtain ⟨b26, e27, H⟩ := H
    refine j_getR (f := 668) (b := b26) fe_Mo_82 rfl rfl (by rw [e25]; exact t1) (by rw [e25]; exact e27) d_Mo_comes_229 ?_
    refine j_aload_n d_Mo_comes_232 rfl ?_
    refine j_getR (f := 670) (b := b4) fe_Mo_85 rfl rfl (by rw [e25]; exact t1) (by rw [e25]; exact e5) d_Mo_comes_233 ?_
    refine j_iload d_Mo_comes_236 rfl ?_
    refine j_iald (n := n8) (by rw [e25]; exact t6) (IX_n (by first | (rw [e25]; done) | (rw [e25]; rfl)) x7) d_Mo_comes_238 ?_
    obtain ⟨t28, H⟩ := H
    obtain ⟨n30, x29, H⟩ := H
    refine j_zald (n := n30) (by rw [e25]; exact t28) (IX_n (by first | (rw [e25]; done) | (rw [e25]; rfl)) x29) d_Mo_comes_239 ?_
    obtain ⟨Ha, Hb⟩ := H
    refine j_if_eq (tgt := 255) d_Mo_comes_240 (by decide) (fun c31 => ?_) (fun c32 => ?_)
    · have H := Ha c31
      refine j_iinc (v := (p4 + (1 : Int32))) (L' := [some (.ref a0), some (.int p1), none, none, some (.int ((p4 + (1 : Int32))))]) d_Mo_comes_255 rfl (by rw [show Int32.ofInt (1) = (1 : Int32) by decide]) (by decide) rfl ?_
      refine j_goto (tgt := 182) d_Mo_comes_258 (by decide) ?_
      exact H
    · have H := Hb c32
      refine j_aload_n d_Mo_comes_243 rfl ?_
      refine j_aload_n d_Mo_comes_244 rfl ?_
      refine j_getR (f := 670) (b := b4) fe_Mo_85 rfl rfl (by rw [e25]; exact t1) (by rw [e25]; exact e5) d_Mo_comes_245 ?_
      refine j_iload d_Mo_comes_248 rfl ?_
      refine j_iald (n := n8) (by rw [e25]; exact t6) (IX_n (by first | (rw [e25]; done) | (rw [e25]; rfl)) x7) d_Mo_comes_250 ?_
      refine j_iconst (v := 0) d_Mo_comes_251 (by decide) ?_
      exact j_callV (d' := 1) (ci := 10) (As := [.int ((gA G24 b4 n8)), .int ((0 : Int32))]) (rest := []) (b := a0) cv_Mo_180 me_Mo_sends rfl (by decide) rfl rfl (by rw [e25]; exact t1) rfl rfl (Nat.le_of_ble_eq_true rfl) d_Mo_comes_252 (by decide) rfl H
theorem wp_Mo_comes_173 {E : EV} {G : GH} {Post : Res → GH → Prop} (a0 : Nat) (p1 : Int32) (p4 : Int32) (H : J E 2 m_Mo_comes 137 [some (.ref a0), some (.int p1), none, none, some (.int ((p4 + (1 : Int32))))] [] G Post) : J E 2 m_Mo_comes 173 [some (.ref a0), some (.int p1), none, none, some (.int p4)] [] G Post := by
  refine j_iinc (v := (p4 + (1 : Int32))) (L' := [some (.ref a0), some (.int p1), none, none, some (.int ((p4 + (1 : Int32))))]) d_Mo_comes_173 rfl (by rw [show Int32.ofInt (1) = (1 : Int32) by decide]) (by decide) rfl ?_
  refine j_goto (tgt := 137) d_Mo_comes_176 (by decide) ?_
  exact H
theorem wp_Mo_comes_255 {E : EV} {G : GH} {Post : Res → GH → Prop} (a0 : Nat) (p1 : Int32) (p4 : Int32) (H : J E 2 m_Mo_comes 182 [some (.ref a0), some (.int p1), none, none, some (.int ((p4 + (1 : Int32))))] [] G Post) : J E 2 m_Mo_comes 255 [some (.ref a0), some (.int p1), none, none, some (.int p4)] [] G Post := by
  refine j_iinc (v := (p4 + (1 : Int32))) (L' := [some (.ref a0), some (.int p1), none, none, some (.int ((p4 + (1 : Int32))))]) d_Mo_comes_255 rfl (by rw [show Int32.ofInt (1) = (1 : Int32) by decide]) (by decide) rfl ?_
  refine j_goto (tgt := 182) d_Mo_comes_258 (by decide) ?_
  exact H
theorem wp_Mo_drops_0 {E : EV} {G : GH} {Post : Res → GH → Prop} (a0 : Nat) (p1 : Int32) (H : gT G a0 = 11 ∧ J E 1 m_Mo_drops 12 [some (.ref a0), none, some (.int p1)] [] (sI G 669 a0 (((gI G 669 a0) - (1 : Int32)))) Post) : J E 1 m_Mo_drops 0 [some (.ref a0), some (.int p1), none] [] G Post := by
  refine j_aload_n d_Mo_drops_0 rfl ?_
  refine j_dup d_Mo_drops_1 rfl ?_
  obtain ⟨t1, H⟩ := H
  refine j_getI (f := 669) fe_Mo_184 rfl rfl t1 d_Mo_drops_2 ?_
  refine j_iconst (v := 1) d_Mo_drops_5 (by decide) ?_
  refine j_isub d_Mo_drops_6 ?_
  refine j_putI (f := 669) fw_Mo_184 rfl rfl t1 d_Mo_drops_7 ?_
  refine j_iload_n d_Mo_drops_10 rfl ?_
  refine j_istore_n (L' := [some (.ref a0), some (.int p1), some (.int p1)]) d_Mo_drops_11 (by decide) rfl ?_
  refine j_forget (L' := [some (.ref a0), none, some (.int p1)]) ⟨Or.inr rfl, Or.inl rfl, Or.inr rfl, trivial⟩ ?_
  exact H
theorem wp_Mo_drops_12 {E : EV} {G : GH} {Post : Res → GH → Prop} (a0 : Nat) (p2 : Int32) (H : gT G a0 = 11 ∧ ((gI G 669 a0) ≤ p2 → Post (.inl none) G) ∧ (¬ (gI G 669 a0) ≤ p2 → ∃ b2, gR G 663 a0 = some b2 ∧ (gT G b2 = 20 ∨ gT G b2 = 25) ∧ ∃ n6, IX ((p2 + (1 : Int32))) n6 (gN G b2) ∧ gT G b2 = 20 ∧ ∃ n9, IX p2 n9 (gN G b2) ∧ ∃ b10, gR G 664 a0 = some b10 ∧ (gT G b10 = 20 ∨ gT G b10 = 25) ∧ ∃ n14, IX ((p2 + (1 : Int32))) n14 (gN G b10) ∧ gT G b10 = 20 ∧ ∃ n17, IX p2 n17 (gN G b10) ∧ ∃ b18, gR G 665 a0 = some b18 ∧ (gT G b18 = 20 ∨ gT G b18 = 25) ∧ ∃ n22, IX ((p2 + (1 : Int32))) n22 (gN G b18) ∧ gT G b18 = 20 ∧ ∃ n25, IX p2 n25 (gN G b18) ∧ ∀ G26, G26 = sA (sA (sA G b2 n9 ((gA G b2 n6))) b10 n17 ((gA (sA G b2 n9 ((gA G b2 n6))) b10 n14))) b18 n25 ((gA (sA (sA G b2 n9 ((gA G b2 n6))) b10 n17 ((gA (sA G b2 n9 ((gA G b2 n6))) b10 n14))) b18 n22)) → ∃ b28, gR G 666 a0 = some b28 ∧ (gT G b28 = 20 ∨ gT G b28 = 25) ∧ ∃ n32, IX ((p2 + (1 : Int32))) n32 (gN G b28) ∧ gT G b28 = 20 ∧ ∃ n35, IX p2 n35 (gN G b28) ∧ ∃ b36, gR G 667 a0 = some b36 ∧ (gT G b36 = 20 ∨ gT G b36 = 25) ∧ ∃ n40, IX ((p2 + (1 : Int32))) n40 (gN G b36) ∧ gT G b36 = 20 ∧ ∃ n43, IX p2 n43 (gN G b36) ∧ ∃ b44, gR G 668 a0 = some b44 ∧ gT G b44 = 21 ∧ ∃ n48, IX ((p2 + (1 : Int32))) n48 (gN G b44) ∧ ∃ n50, IX p2 n50 (gN G b44) ∧ ((gA (sA (sA G26 b28 n35 ((gA G26 b28 n32))) b36 n43 ((gA (sA G26 b28 n35 ((gA G26 b28 n32))) b36 n40))) b44 n48) = 0 ∨ (gA (sA (sA G26 b28 n35 ((gA G26 b28 n32))) b36 n43 ((gA (sA G26 b28 n35 ((gA G26 b28 n32))) b36 n40))) b44 n48) = 1) ∧ ∀ G52, G52 = sA (sA (sA G26 b28 n35 ((gA G26 b28 n32))) b36 n43 ((gA (sA G26 b28 n35 ((gA G26 b28 n32))) b36 n40))) b44 n50 ((gA (sA (sA G26 b28 n35 ((gA G26 b28 n32))) b36 n43 ((gA (sA G26 b28 n35 ((gA G26 b28 n32))) b36 n40))) b44 n48)) → J E 1 m_Mo_drops 12 [some (.ref a0), none, some (.int ((p2 + (1 : Int32))))] [] G52 Post)) : J E 1 m_Mo_drops 12 [some (.ref a0), none, some (.int p2)] [] G Post := by
  refine j_iload_n d_Mo_drops_12 rfl ?_
  refine j_aload_n d_Mo_drops_13 rfl ?_
  obtain ⟨t1, H⟩ := H
  refine j_getI (f := 669) fe_Mo_184 rfl rfl t1 d_Mo_drops_14 ?_
  obtain ⟨Ha, Hb⟩ := H
  refine j_icmp_ge (tgt := 110) d_Mo_drops_17 (by decide) (fun c54 => ?_) (fun c55 => ?_)
  · have H := Ha c54
    exact j_vret rfl d_Mo_drops_110 H
  · have H := Hb c55
    refine j_aload_n d_Mo_drops_20 rfl ?_
    obtain ⟨b2, e3, H⟩ := H
    refine j_getR (f := 663) (b := b2) fe_Mo_67 rfl rfl t1 e3 d_Mo_drops_21 ?_
    refine j_iload_n d_Mo_drops_24 rfl ?_
    refine j_aload_n d_Mo_drops_25 rfl ?_
    refine j_getR (f := 663) (b := b2) fe_Mo_67 rfl rfl t1 e3 d_Mo_drops_26 ?_
    refine j_iload_n d_Mo_drops_29 rfl ?_
    refine j_iconst (v := 1) d_Mo_drops_30 (by decide) ?_
    refine j_iadd d_Mo_drops_31 ?_
    obtain ⟨t4, H⟩ := H
    obtain ⟨n6, x5, H⟩ := H
    refine j_iald (n := n6) t4 x5 d_Mo_drops_32 ?_
    obtain ⟨t7, H⟩ := H
    obtain ⟨n9, x8, H⟩ := H
    refine j_iast (n := n9) t7 x8 d_Mo_drops_33 ?_
    refine j_aload_n d_Mo_drops_34 rfl ?_
    obtain ⟨b10, e11, H⟩ := H
    refine j_getR (f := 664) (b := b10) fe_Mo_70 rfl rfl t1 e11 d_Mo_drops_35 ?_
    refine j_iload_n d_Mo_drops_38 rfl ?_
    refine j_aload_n d_Mo_drops_39 rfl ?_
    refine j_getR (f := 664) (b := b10) fe_Mo_70 rfl rfl t1 e11 d_Mo_drops_40 ?_
    refine j_iload_n d_Mo_drops_43 rfl ?_
    refine j_iconst (v := 1) d_Mo_drops_44 (by decide) ?_
    refine j_iadd d_Mo_drops_45 ?_
    obtain ⟨t12, H⟩ := H
    obtain ⟨n14, x13, H⟩ := H
    refine j_iald (n := n14) t12 x13 d_Mo_drops_46 ?_
    obtain ⟨t15, H⟩ := H
    obtain ⟨n17, x16, H⟩ := H
    refine j_iast (n := n17) t15 x16 d_Mo_drops_47 ?_
    refine j_aload_n d_Mo_drops_48 rfl ?_
    obtain ⟨b18, e19, H⟩ := H
    refine j_getR (f := 665) (b := b18) fe_Mo_73 rfl rfl t1 e19 d_Mo_drops_49 ?_
    refine j_iload_n d_Mo_drops_52 rfl ?_
    refine j_aload_n d_Mo_drops_53 rfl ?_
    refine j_getR (f := 665) (b := b18) fe_Mo_73 rfl rfl t1 e19 d_Mo_drops_54 ?_
    refine j_iload_n d_Mo_drops_57 rfl ?_
    refine j_iconst (v := 1) d_Mo_drops_58 (by decide) ?_
    refine j_iadd d_Mo_drops_59 ?_
    obtain ⟨t20, H⟩ := H
    obtain ⟨n22, x21, H⟩ := H
    refine j_iald (n := n22) t20 x21 d_Mo_drops_60 ?_
    obtain ⟨t23, H⟩ := H
    obtain ⟨n25, x24, H⟩ := H
    refine j_iast (n := n25) t23 x24 d_Mo_drops_61 ?_
    show J E 1 m_Mo_drops 62 [some (.ref a0), none, some (.int p2)] [] (sA (sA (sA G b2 n9 ((gA G b2 n6))) b10 n17 ((gA (sA G b2 n9 ((gA G b2 n6))) b10 n14))) b18 n25 ((gA (sA (sA G b2 n9 ((gA G b2 n6))) b10 n17 ((gA (sA G b2 n9 ((gA G b2 n6))) b10 n14))) b18 n22))) Post
    generalize e27 : sA (sA (sA G b2 n9 ((gA G b2 n6))) b10 n17 ((gA (sA G b2 n9 ((gA G b2 n6))) b10 n14))) b18 n25 ((gA (sA (sA G b2 n9 ((gA G b2 n6))) b10 n17 ((gA (sA G b2 n9 ((gA G b2 n6))) b10 n14))) b18 n22)) = G26
    have e27 := e27.symm
    have H := H G26 e27
    refine j_aload_n d_Mo_drops_62 rfl ?_
    obtain ⟨b28, e29, H⟩ := H
    refine j_getR (f := 666) (b := b28) fe_Mo_76 rfl rfl (by rw [e27]; exact t1) (by rw [e27]; exact e29) d_Mo_drops_63 ?_
    refine j_iload_n d_Mo_drops_66 rfl ?_
    refine j_aload_n d_Mo_drops_67 rfl ?_
    refine j_getR (f := 666) (b := b28) fe_Mo_76 rfl rfl (by rw [e27]; exact t1) (by rw [e27]; exact e29) d_Mo_drops_68 ?_
    refine j_iload_n d_Mo_drops_71 rfl ?_
    refine j_iconst (v := 1) d_Mo_drops_72 (by decide) ?_
    refine j_iadd d_Mo_drops_73 ?_
    obtain ⟨t30, H⟩ := H
    obtain ⟨n32, x31, H⟩ := H
    refine j_iald (n := n32) (by rw [e27]; exact t30) (IX_n (by first | (rw [e27]; done) | (rw [e27]; rfl)) x31) d_Mo_drops_74 ?_
    obtain ⟨t33, H⟩ := H
    obtain ⟨n35, x34, H⟩ := H
    refine j_iast (n := n35) (by rw [e27]; exact t33) (IX_n (by first | (rw [e27]; done) | (rw [e27]; rfl)) x34) d_Mo_drops_75 ?_
    refine j_aload_n d_Mo_drops_76 rfl ?_
    obtain ⟨b36, e37, H⟩ := H
    refine j_getR (f := 667) (b := b36) fe_Mo_79 rfl rfl (by rw [e27]; exact t1) (by rw [e27]; exact e37) d_Mo_drops_77 ?_
    refine j_iload_n d_Mo_drops_80 rfl ?_
    refine j_aload_n d_Mo_drops_81 rfl ?_
    refine j_getR (f := 667) (b := b36) fe_Mo_79 rfl rfl (by rw [e27]; exact t1) (by rw [e27]; exact e37) d_Mo_drops_82 ?_
    refine j_iload_n d_Mo_drops_85 rfl ?_
    refine j_iconst (v := 1) d_Mo_drops_86 (by decide) ?_
    refine j_iadd d_Mo_drops_87 ?_
    obtain ⟨t38, H⟩ := H
    obtain ⟨n40, x39, H⟩ := H
    refine j_iald (n := n40) (by rw [e27]; exact t38) (IX_n (by first | (rw [e27]; done) | (rw [e27]; rfl)) x39) d_Mo_drops_88 ?_
    obtain ⟨t41, H⟩ := H
    obtain ⟨n43, x42, H⟩ := H
    refine j_iast (n := n43) (by rw [e27]; exact t41) (IX_n (by first | (rw [e27]; done) | (rw [e27]; rfl)) x42) d_Mo_drops_89 ?_
    refine j_aload_n d_Mo_drops_90 rfl ?_
    obtain ⟨b44, e45, H⟩ := H
    refine j_getR (f := 668) (b := b44) fe_Mo_82 rfl rfl (by rw [e27]; exact t1) (by rw [e27]; exact e45) d_Mo_drops_91 ?_
    refine j_iload_n d_Mo_drops_94 rfl ?_
    refine j_aload_n d_Mo_drops_95 rfl ?_
    refine j_getR (f := 668) (b := b44) fe_Mo_82 rfl rfl (by rw [e27]; exact t1) (by rw [e27]; exact e45) d_Mo_drops_96 ?_
    refine j_iload_n d_Mo_drops_99 rfl ?_
    refine j_iconst (v := 1) d_Mo_drops_100 (by decide) ?_
    refine j_iadd d_Mo_drops_101 ?_
    obtain ⟨t46, H⟩ := H
    obtain ⟨n48, x47, H⟩ := H
    refine j_zald (n := n48) (by rw [e27]; exact t46) (IX_n (by first | (rw [e27]; done) | (rw [e27]; rfl)) x47) d_Mo_drops_102 ?_
    obtain ⟨n50, x49, H⟩ := H
    obtain ⟨z51, H⟩ := H
    refine j_zast (n := n50) (by rw [e27]; exact t46) (IX_n (by first | (rw [e27]; done) | (rw [e27]; rfl)) x49) z51 d_Mo_drops_103 ?_
    show J E 1 m_Mo_drops 104 [some (.ref a0), none, some (.int p2)] [] (sA (sA (sA G26 b28 n35 ((gA G26 b28 n32))) b36 n43 ((gA (sA G26 b28 n35 ((gA G26 b28 n32))) b36 n40))) b44 n50 ((gA (sA (sA G26 b28 n35 ((gA G26 b28 n32))) b36 n43 ((gA (sA G26 b28 n35 ((gA G26 b28 n32))) b36 n40))) b44 n48))) Post
    generalize e53 : sA (sA (sA G26 b28 n35 ((gA G26 b28 n32))) b36 n43 ((gA (sA G26 b28 n35 ((gA G26 b28 n32))) b36 n40))) b44 n50 ((gA (sA (sA G26 b28 n35 ((gA G26 b28 n32))) b36 n43 ((gA (sA G26 b28 n35 ((gA G26 b28 n32))) b36 n40))) b44 n48)) = G52
    have e53 := e53.symm
    have H := H G52 e53
    refine j_iinc (v := (p2 + (1 : Int32))) (L' := [some (.ref a0), none, some (.int ((p2 + (1 : Int32))))]) d_Mo_drops_104 rfl (by rw [show Int32.ofInt (1) = (1 : Int32) by decide]) (by decide) rfl ?_
    refine j_goto (tgt := 12) d_Mo_drops_107 (by decide) ?_
    exact H
theorem wp_Mo_touching_0 {E : EV} {G : GH} {Post : Res → GH → Prop} (a0 : Nat) (p1 : Int32) (p2 : Int32) (p3 : Int32) (H : J E 1 m_Mo_touching 6 [some (.ref a0), some (.int p1), some (.int p2), some (.int p3), some (.int ((-1 : Int32))), some (.int ((0 : Int32))), none] [] G Post) : J E 1 m_Mo_touching 0 [some (.ref a0), some (.int p1), some (.int p2), some (.int p3), none, none, none] [] G Post := by
  refine j_iconst (v := -1) d_Mo_touching_0 (by decide) ?_
  refine j_istore (L' := [some (.ref a0), some (.int p1), some (.int p2), some (.int p3), some (.int ((-1 : Int32))), none, none]) d_Mo_touching_1 (by decide) rfl ?_
  refine j_iconst (v := 0) d_Mo_touching_3 (by decide) ?_
  refine j_istore (L' := [some (.ref a0), some (.int p1), some (.int p2), some (.int p3), some (.int ((-1 : Int32))), some (.int ((0 : Int32))), none]) d_Mo_touching_4 (by decide) rfl ?_
  exact H
theorem wp_Mo_touching_6 {E : EV} {G : GH} {Post : Res → GH → Prop} (a0 : Nat) (p1 : Int32) (p2 : Int32) (p3 : Int32) (p4 : Int32) (p5 : Int32) (H : gT G a0 = 11 ∧ ((gI G 669 a0) ≤ p5 → Post (.inl (some (.int p4))) G) ∧ (¬ (gI G 669 a0) ≤ p5 → ∃ b2, gR G 663 a0 = some b2 ∧ (gT G b2 = 20 ∨ gT G b2 = 25) ∧ ∃ n6, IX p5 n6 (gN G b2) ∧ (¬ (gA G b2 n6) = p1 → J E 1 m_Mo_touching 6 [some (.ref a0), some (.int p1), some (.int p2), some (.int p3), some (.int p4), some (.int ((p5 + (1 : Int32)))), none] [] G Post) ∧ ((gA G b2 n6) = p1 → ∃ b7, gR G 664 a0 = some b7 ∧ (gT G b7 = 20 ∨ gT G b7 = 25) ∧ ∃ n11, IX p5 n11 (gN G b7) ∧ (p3 ≤ (gA G b7 n11) → J E 1 m_Mo_touching 6 [some (.ref a0), some (.int p1), some (.int p2), some (.int p3), some (.int p4), some (.int ((p5 + (1 : Int32)))), none] [] G Post) ∧ (¬ p3 ≤ (gA G b7 n11) → ∃ b12, gR G 665 a0 = some b12 ∧ (gT G b12 = 20 ∨ gT G b12 = 25) ∧ ∃ n16, IX p5 n16 (gN G b12) ∧ ((gA G b12 n16) ≤ p2 → J E 1 m_Mo_touching 6 [some (.ref a0), some (.int p1), some (.int p2), some (.int p3), some (.int p4), some (.int ((p5 + (1 : Int32)))), none] [] G Post) ∧ (¬ (gA G b12 n16) ≤ p2 → (p4 = (-1 : Int32) → J E 1 m_Mo_touching 6 [some (.ref a0), some (.int p1), some (.int p2), some (.int p3), some (.int p5), some (.int ((p5 + (1 : Int32)))), none] [] G Post) ∧ (¬ p4 = (-1 : Int32) → ∃ n18, IX p4 n18 (gN G b7) ∧ ((gA G b7 n18) ≤ (gA G b7 n11) → J E 1 m_Mo_touching 6 [some (.ref a0), some (.int p1), some (.int p2), some (.int p3), some (.int p4), some (.int ((p5 + (1 : Int32)))), none] [] G Post) ∧ (¬ (gA G b7 n18) ≤ (gA G b7 n11) → J E 1 m_Mo_touching 6 [some (.ref a0), some (.int p1), some (.int p2), some (.int p3), some (.int p5), some (.int ((p5 + (1 : Int32)))), none] [] G Post))))))) : J E 1 m_Mo_touching 6 [some (.ref a0), some (.int p1), some (.int p2), some (.int p3), some (.int p4), some (.int p5), none] [] G Post := by
  refine j_iload d_Mo_touching_6 rfl ?_
  refine j_aload_n d_Mo_touching_8 rfl ?_
  obtain ⟨t1, H⟩ := H
  refine j_getI (f := 669) fe_Mo_184 rfl rfl t1 d_Mo_touching_9 ?_
  obtain ⟨Ha, Hb⟩ := H
  refine j_icmp_ge (tgt := 98) d_Mo_touching_12 (by decide) (fun c29 => ?_) (fun c30 => ?_)
  · have H := Ha c29
    refine j_iload d_Mo_touching_98 rfl ?_
    exact j_iret rfl d_Mo_touching_100 H
  · have H := Hb c30
    refine j_aload_n d_Mo_touching_15 rfl ?_
    obtain ⟨b2, e3, H⟩ := H
    refine j_getR (f := 663) (b := b2) fe_Mo_67 rfl rfl t1 e3 d_Mo_touching_16 ?_
    refine j_iload d_Mo_touching_19 rfl ?_
    obtain ⟨t4, H⟩ := H
    obtain ⟨n6, x5, H⟩ := H
    refine j_iald (n := n6) t4 x5 d_Mo_touching_21 ?_
    refine j_iload_n d_Mo_touching_22 rfl ?_
    obtain ⟨Ha, Hb⟩ := H
    refine j_icmp_ne (tgt := 52) d_Mo_touching_23 (by decide) (fun c27 => ?_) (fun c28 => ?_)
    · have H := Ha c27
      refine j_iconst (v := 0) d_Mo_touching_52 (by decide) ?_
      refine j_istore (L' := [some (.ref a0), some (.int p1), some (.int p2), some (.int p3), some (.int p4), some (.int p5), some (.int ((0 : Int32)))]) d_Mo_touching_53 (by decide) rfl ?_
      refine j_iload d_Mo_touching_55 rfl ?_
      refine j_if_eq (tgt := 88) d_Mo_touching_57 (by decide) (fun _ => ?_) (fun c => absurd c (by decide))
      refine j_iload d_Mo_touching_88 rfl ?_
      refine j_istore (L' := [some (.ref a0), some (.int p1), some (.int p2), some (.int p3), some (.int p4), some (.int p5), some (.int ((0 : Int32)))]) d_Mo_touching_90 (by decide) rfl ?_
      refine j_iinc (v := (p5 + (1 : Int32))) (L' := [some (.ref a0), some (.int p1), some (.int p2), some (.int p3), some (.int p4), some (.int ((p5 + (1 : Int32)))), some (.int ((0 : Int32)))]) d_Mo_touching_92 rfl (by rw [show Int32.ofInt (1) = (1 : Int32) by decide]) (by decide) rfl ?_
      refine j_goto (tgt := 6) d_Mo_touching_95 (by decide) ?_
      refine j_forget (L' := [some (.ref a0), some (.int p1), some (.int p2), some (.int p3), some (.int p4), some (.int ((p5 + (1 : Int32)))), none]) ⟨Or.inr rfl, Or.inr rfl, Or.inr rfl, Or.inr rfl, Or.inr rfl, Or.inr rfl, Or.inl rfl, trivial⟩ ?_
      exact H
    · have H := Hb c28
      refine j_aload_n d_Mo_touching_26 rfl ?_
      obtain ⟨b7, e8, H⟩ := H
      refine j_getR (f := 664) (b := b7) fe_Mo_70 rfl rfl t1 e8 d_Mo_touching_27 ?_
      refine j_iload d_Mo_touching_30 rfl ?_
      obtain ⟨t9, H⟩ := H
      obtain ⟨n11, x10, H⟩ := H
      refine j_iald (n := n11) t9 x10 d_Mo_touching_32 ?_
      refine j_iload_n d_Mo_touching_33 rfl ?_
      obtain ⟨Ha, Hb⟩ := H
      refine j_icmp_ge (tgt := 52) d_Mo_touching_34 (by decide) (fun c25 => ?_) (fun c26 => ?_)
      · have H := Ha c25
        refine j_iconst (v := 0) d_Mo_touching_52 (by decide) ?_
        refine j_istore (L' := [some (.ref a0), some (.int p1), some (.int p2), some (.int p3), some (.int p4), some (.int p5), some (.int ((0 : Int32)))]) d_Mo_touching_53 (by decide) rfl ?_
        refine j_iload d_Mo_touching_55 rfl ?_
        refine j_if_eq (tgt := 88) d_Mo_touching_57 (by decide) (fun _ => ?_) (fun c => absurd c (by decide))
        refine j_iload d_Mo_touching_88 rfl ?_
        refine j_istore (L' := [some (.ref a0), some (.int p1), some (.int p2), some (.int p3), some (.int p4), some (.int p5), some (.int ((0 : Int32)))]) d_Mo_touching_90 (by decide) rfl ?_
        refine j_iinc (v := (p5 + (1 : Int32))) (L' := [some (.ref a0), some (.int p1), some (.int p2), some (.int p3), some (.int p4), some (.int ((p5 + (1 : Int32)))), some (.int ((0 : Int32)))]) d_Mo_touching_92 rfl (by rw [show Int32.ofInt (1) = (1 : Int32) by decide]) (by decide) rfl ?_
        refine j_goto (tgt := 6) d_Mo_touching_95 (by decide) ?_
        refine j_forget (L' := [some (.ref a0), some (.int p1), some (.int p2), some (.int p3), some (.int p4), some (.int ((p5 + (1 : Int32)))), none]) ⟨Or.inr rfl, Or.inr rfl, Or.inr rfl, Or.inr rfl, Or.inr rfl, Or.inr rfl, Or.inl rfl, trivial⟩ ?_
        exact H
      · have H := Hb c26
        refine j_iload_n d_Mo_touching_37 rfl ?_
        refine j_aload_n d_Mo_touching_38 rfl ?_
        obtain ⟨b12, e13, H⟩ := H
        refine j_getR (f := 665) (b := b12) fe_Mo_73 rfl rfl t1 e13 d_Mo_touching_39 ?_
        refine j_iload d_Mo_touching_42 rfl ?_
        obtain ⟨t14, H⟩ := H
        obtain ⟨n16, x15, H⟩ := H
        refine j_iald (n := n16) t14 x15 d_Mo_touching_44 ?_
        obtain ⟨Ha, Hb⟩ := H
        refine j_icmp_ge (tgt := 52) d_Mo_touching_45 (by decide) (fun c23 => ?_) (fun c24 => ?_)
        · have H := Ha c23
          refine j_iconst (v := 0) d_Mo_touching_52 (by decide) ?_
          refine j_istore (L' := [some (.ref a0), some (.int p1), some (.int p2), some (.int p3), some (.int p4), some (.int p5), some (.int ((0 : Int32)))]) d_Mo_touching_53 (by decide) rfl ?_
          refine j_iload d_Mo_touching_55 rfl ?_
          refine j_if_eq (tgt := 88) d_Mo_touching_57 (by decide) (fun _ => ?_) (fun c => absurd c (by decide))
          refine j_iload d_Mo_touching_88 rfl ?_
          refine j_istore (L' := [some (.ref a0), some (.int p1), some (.int p2), some (.int p3), some (.int p4), some (.int p5), some (.int ((0 : Int32)))]) d_Mo_touching_90 (by decide) rfl ?_
          refine j_iinc (v := (p5 + (1 : Int32))) (L' := [some (.ref a0), some (.int p1), some (.int p2), some (.int p3), some (.int p4), some (.int ((p5 + (1 : Int32)))), some (.int ((0 : Int32)))]) d_Mo_touching_92 rfl (by rw [show Int32.ofInt (1) = (1 : Int32) by decide]) (by decide) rfl ?_
          refine j_goto (tgt := 6) d_Mo_touching_95 (by decide) ?_
          refine j_forget (L' := [some (.ref a0), some (.int p1), some (.int p2), some (.int p3), some (.int p4), some (.int ((p5 + (1 : Int32)))), none]) ⟨Or.inr rfl, Or.inr rfl, Or.inr rfl, Or.inr rfl, Or.inr rfl, Or.inr rfl, Or.inl rfl, trivial⟩ ?_
          exact H
        · have H := Hb c24
          refine j_iconst (v := 1) d_Mo_touching_48 (by decide) ?_
          refine j_goto (tgt := 53) d_Mo_touching_49 (by decide) ?_
          refine j_istore (L' := [some (.ref a0), some (.int p1), some (.int p2), some (.int p3), some (.int p4), some (.int p5), some (.int ((1 : Int32)))]) d_Mo_touching_53 (by decide) rfl ?_
          refine j_iload d_Mo_touching_55 rfl ?_
          refine j_if_eq (tgt := 88) d_Mo_touching_57 (by decide) (fun c => absurd c (by decide)) (fun _ => ?_)
          refine j_iload d_Mo_touching_60 rfl ?_
          refine j_iconst (v := -1) d_Mo_touching_62 (by decide) ?_
          obtain ⟨Ha, Hb⟩ := H
          refine j_icmp_eq (tgt := 83) d_Mo_touching_63 (by decide) (fun c21 => ?_) (fun c22 => ?_)
          · have H := Ha c21
            refine j_iload d_Mo_touching_83 rfl ?_
            refine j_goto (tgt := 90) d_Mo_touching_85 (by decide) ?_
            refine j_istore (L' := [some (.ref a0), some (.int p1), some (.int p2), some (.int p3), some (.int p5), some (.int p5), some (.int ((1 : Int32)))]) d_Mo_touching_90 (by decide) rfl ?_
            refine j_iinc (v := (p5 + (1 : Int32))) (L' := [some (.ref a0), some (.int p1), some (.int p2), some (.int p3), some (.int p5), some (.int ((p5 + (1 : Int32)))), some (.int ((1 : Int32)))]) d_Mo_touching_92 rfl (by rw [show Int32.ofInt (1) = (1 : Int32) by decide]) (by decide) rfl ?_
            refine j_goto (tgt := 6) d_Mo_touching_95 (by decide) ?_
            refine j_forget (L' := [some (.ref a0), some (.int p1), some (.int p2), some (.int p3), some (.int p5), some (.int ((p5 + (1 : Int32)))), none]) ⟨Or.inr rfl, Or.inr rfl, Or.inr rfl, Or.inr rfl, Or.inr rfl, Or.inr rfl, Or.inl rfl, trivial⟩ ?_
            exact H
          · have H := Hb c22
            refine j_aload_n d_Mo_touching_66 rfl ?_
            refine j_getR (f := 664) (b := b7) fe_Mo_70 rfl rfl t1 e8 d_Mo_touching_67 ?_
            refine j_iload d_Mo_touching_70 rfl ?_
            refine j_iald (n := n11) t9 x10 d_Mo_touching_72 ?_
            refine j_aload_n d_Mo_touching_73 rfl ?_
            refine j_getR (f := 664) (b := b7) fe_Mo_70 rfl rfl t1 e8 d_Mo_touching_74 ?_
            refine j_iload d_Mo_touching_77 rfl ?_
            obtain ⟨n18, x17, H⟩ := H
            refine j_iald (n := n18) t9 x17 d_Mo_touching_79 ?_
            obtain ⟨Ha, Hb⟩ := H
            refine j_icmp_ge (tgt := 88) d_Mo_touching_80 (by decide) (fun c19 => ?_) (fun c20 => ?_)
            · have H := Ha c19
              refine j_iload d_Mo_touching_88 rfl ?_
              refine j_istore (L' := [some (.ref a0), some (.int p1), some (.int p2), some (.int p3), some (.int p4), some (.int p5), some (.int ((1 : Int32)))]) d_Mo_touching_90 (by decide) rfl ?_
              refine j_iinc (v := (p5 + (1 : Int32))) (L' := [some (.ref a0), some (.int p1), some (.int p2), some (.int p3), some (.int p4), some (.int ((p5 + (1 : Int32)))), some (.int ((1 : Int32)))]) d_Mo_touching_92 rfl (by rw [show Int32.ofInt (1) = (1 : Int32) by decide]) (by decide) rfl ?_
              refine j_goto (tgt := 6) d_Mo_touching_95 (by decide) ?_
              refine j_forget (L' := [some (.ref a0), some (.int p1), some (.int p2), some (.int p3), some (.int p4), some (.int ((p5 + (1 : Int32)))), none]) ⟨Or.inr rfl, Or.inr rfl, Or.inr rfl, Or.inr rfl, Or.inr rfl, Or.inr rfl, Or.inl rfl, trivial⟩ ?_
              exact H
            · have H := Hb c20
              refine j_iload d_Mo_touching_83 rfl ?_
              refine j_goto (tgt := 90) d_Mo_touching_85 (by decide) ?_
              refine j_istore (L' := [some (.ref a0), some (.int p1), some (.int p2), some (.int p3), some (.int p5), some (.int p5), some (.int ((1 : Int32)))]) d_Mo_touching_90 (by decide) rfl ?_
              refine j_iinc (v := (p5 + (1 : Int32))) (L' := [some (.ref a0), some (.int p1), some (.int p2), some (.int p3), some (.int p5), some (.int ((p5 + (1 : Int32)))), some (.int ((1 : Int32)))]) d_Mo_touching_92 rfl (by rw [show Int32.ofInt (1) = (1 : Int32) by decide]) (by decide) rfl ?_
              refine j_goto (tgt := 6) d_Mo_touching_95 (by decide) ?_
              refine j_forget (L' := [some (.ref a0), some (.int p1), some (.int p2), some (.int p3), some (.int p5), some (.int ((p5 + (1 : Int32)))), none]) ⟨Or.inr rfl, Or.inr rfl, Or.inr rfl, Or.inr rfl, Or.inr rfl, Or.inr rfl, Or.inl rfl, trivial⟩ ?_
              exact H
theorem wp_Mo_makes_0 {E : EV} {G : GH} {Post : Res → GH → Prop} (a0 : Nat) (p1 : Int32) (H : gT G a0 = 11 ∧ ∃ b2, gR G 649 a0 = some b2 ∧ (gT G b2 = 20 ∨ gT G b2 = 25) ∧ ∃ n6, IX p1 n6 (gN G b2) ∧ ((gI G 658 a0) < (((gA G b2 n6) + (gI G 642 a0)) + (gI G 644 a0)) → ∃ b7, gR G 651 a0 = some b7 ∧ (gT G b7 = 20 ∨ gT G b7 = 25) ∧ ∃ n11, IX p1 n11 (gN G b7) ∧ ∃ b12, gR G 650 a0 = some b12 ∧ (gT G b12 = 20 ∨ gT G b12 = 25) ∧ ∃ n16, IX p1 n16 (gN G b12) ∧ Cl E 1 m_Mo_touching [.ref a0, .int ((gA G b12 n16)), .int ((gA G b2 n6)), .int (((gA G b2 n6) + (gI G 642 a0)))] G (aft E 2 m_Mo_makes 63 [some (.ref a0), some (.int p1), some (.int ((gA G b2 n6))), some (.int (((gA G b2 n6) + (gI G 642 a0)))), some (.int ((gA G b2 n6))), some (.int (((gA G b2 n6) + (gI G 642 a0)))), some (.int ((1 : Int32))), some (.int ((gA G b7 n11))), some (.int ((0 : Int32))), none, none] [] Post)) ∧ (¬ (gI G 658 a0) < (((gA G b2 n6) + (gI G 642 a0)) + (gI G 644 a0)) → Post (.inl (some (.int ((0 : Int32))))) G)) : J E 2 m_Mo_makes 0 [some (.ref a0), some (.int p1), none, none, none, none, none, none, none, none, none] [] G Post := by
  refine j_aload_n d_Mo_makes_0 rfl ?_
  obtain ⟨t1, H⟩ := H
  obtain ⟨b2, e3, H⟩ := H
  refine j_getR (f := 649) (b := b2) fe_Mo_29 rfl rfl t1 e3 d_Mo_makes_1 ?_
  refine j_iload_n d_Mo_makes_4 rfl ?_
  obtain ⟨t4, H⟩ := H
  obtain ⟨n6, x5, H⟩ := H
  refine j_iald (n := n6) t4 x5 d_Mo_makes_5 ?_
  refine j_istore_n (L' := [some (.ref a0), some (.int p1), some (.int ((gA G b2 n6))), none, none, none, none, none, none, none, none]) d_Mo_makes_6 (by decide) rfl ?_
  refine j_aload_n d_Mo_makes_7 rfl ?_
  refine j_getR (f := 649) (b := b2) fe_Mo_29 rfl rfl t1 e3 d_Mo_makes_8 ?_
  refine j_iload_n d_Mo_makes_11 rfl ?_
  refine j_iald (n := n6) t4 x5 d_Mo_makes_12 ?_
  refine j_aload_n d_Mo_makes_13 rfl ?_
  refine j_getI (f := 642) fe_Mo_13 rfl rfl t1 d_Mo_makes_14 ?_
  refine j_iadd d_Mo_makes_17 ?_
  refine j_istore_n (L' := [some (.ref a0), some (.int p1), some (.int ((gA G b2 n6))), some (.int (((gA G b2 n6) + (gI G 642 a0)))), none, none, none, none, none, none, none]) d_Mo_makes_18 (by decide) rfl ?_
  refine j_iload_n d_Mo_makes_19 rfl ?_
  refine j_aload_n d_Mo_makes_20 rfl ?_
  refine j_getI (f := 644) fe_Mo_153 rfl rfl t1 d_Mo_makes_21 ?_
  refine j_iadd d_Mo_makes_24 ?_
  refine j_aload_n d_Mo_makes_25 rfl ?_
  refine j_getI (f := 658) fe_Mo_58 rfl rfl t1 d_Mo_makes_26 ?_
  obtain ⟨Ha, Hb⟩ := H
  refine j_icmp_gt (tgt := 34) d_Mo_makes_29 (by decide) (fun c17 => ?_) (fun c18 => ?_)
  · have H := Ha c17
    refine j_iload_n d_Mo_makes_34 rfl ?_
    refine j_istore (L' := [some (.ref a0), some (.int p1), some (.int ((gA G b2 n6))), some (.int (((gA G b2 n6) + (gI G 642 a0)))), some (.int ((gA G b2 n6))), none, none, none, none, none, none]) d_Mo_makes_35 (by decide) rfl ?_
    refine j_iload_n d_Mo_makes_37 rfl ?_
    refine j_istore (L' := [some (.ref a0), some (.int p1), some (.int ((gA G b2 n6))), some (.int (((gA G b2 n6) + (gI G 642 a0)))), some (.int ((gA G b2 n6))), some (.int (((gA G b2 n6) + (gI G 642 a0)))), none, none, none, none, none]) d_Mo_makes_38 (by decide) rfl ?_
    refine j_iconst (v := 1) d_Mo_makes_40 (by decide) ?_
    refine j_istore (L' := [some (.ref a0), some (.int p1), some (.int ((gA G b2 n6))), some (.int (((gA G b2 n6) + (gI G 642 a0)))), some (.int ((gA G b2 n6))), some (.int (((gA G b2 n6) + (gI G 642 a0)))), some (.int ((1 : Int32))), none, none, none, none]) d_Mo_makes_41 (by decide) rfl ?_
    refine j_aload_n d_Mo_makes_43 rfl ?_
    obtain ⟨b7, e8, H⟩ := H
    refine j_getR (f := 651) (b := b7) fe_Mo_36 rfl rfl t1 e8 d_Mo_makes_44 ?_
    refine j_iload_n d_Mo_makes_47 rfl ?_
    obtain ⟨t9, H⟩ := H
    obtain ⟨n11, x10, H⟩ := H
    refine j_iald (n := n11) t9 x10 d_Mo_makes_48 ?_
    refine j_istore (L' := [some (.ref a0), some (.int p1), some (.int ((gA G b2 n6))), some (.int (((gA G b2 n6) + (gI G 642 a0)))), some (.int ((gA G b2 n6))), some (.int (((gA G b2 n6) + (gI G 642 a0)))), some (.int ((1 : Int32))), some (.int ((gA G b7 n11))), none, none, none]) d_Mo_makes_49 (by decide) rfl ?_
    refine j_iconst (v := 0) d_Mo_makes_51 (by decide) ?_
    refine j_istore (L' := [some (.ref a0), some (.int p1), some (.int ((gA G b2 n6))), some (.int (((gA G b2 n6) + (gI G 642 a0)))), some (.int ((gA G b2 n6))), some (.int (((gA G b2 n6) + (gI G 642 a0)))), some (.int ((1 : Int32))), some (.int ((gA G b7 n11))), some (.int ((0 : Int32))), none, none]) d_Mo_makes_52 (by decide) rfl ?_
    refine j_aload_n d_Mo_makes_54 rfl ?_
    refine j_aload_n d_Mo_makes_55 rfl ?_
    obtain ⟨b12, e13, H⟩ := H
    refine j_getR (f := 650) (b := b12) fe_Mo_33 rfl rfl t1 e13 d_Mo_makes_56 ?_
    refine j_iload_n d_Mo_makes_59 rfl ?_
    obtain ⟨t14, H⟩ := H
    obtain ⟨n16, x15, H⟩ := H
    refine j_iald (n := n16) t14 x15 d_Mo_makes_60 ?_
    refine j_iload_n d_Mo_makes_61 rfl ?_
    refine j_iload_n d_Mo_makes_62 rfl ?_
    exact j_callV (d' := 1) (ci := 10) (As := [.int ((gA G b12 n16)), .int ((gA G b2 n6)), .int (((gA G b2 n6) + (gI G 642 a0)))]) (rest := []) (b := a0) cv_Mo_197 me_Mo_touching rfl (by decide) rfl rfl t1 rfl rfl (Nat.le_of_ble_eq_true rfl) d_Mo_makes_63 (by decide) rfl H
  · have H := Hb c18
    refine j_iconst (v := 0) d_Mo_makes_32 (by decide) ?_
    exact j_iret rfl d_Mo_makes_33 H
theorem wp_Mo_makes_66 {E : EV} {G : GH} {Post : Res → GH → Prop} (a0 : Nat) (p1 : Int32) (p2 : Int32) (p3 : Int32) (p4 : Int32) (p5 : Int32) (p6 : Int32) (p7 : Int32) (p8 : Int32) (s0 : Int32) (H : J E 2 m_Mo_makes 68 [some (.ref a0), some (.int p1), some (.int p2), some (.int p3), some (.int p4), some (.int p5), some (.int p6), some (.int p7), some (.int p8), some (.int s0), none] [] G Post) : J E 2 m_Mo_makes 66 [some (.ref a0), some (.int p1), some (.int p2), some (.int p3), some (.int p4), some (.int p5), some (.int p6), some (.int p7), some (.int p8), none, none] [.int s0] G Post := by
  refine j_istore (L' := [some (.ref a0), some (.int p1), some (.int p2), some (.int p3), some (.int p4), some (.int p5), some (.int p6), some (.int p7), some (.int p8), some (.int s0), none]) d_Mo_makes_66 (by decide) rfl ?_
  exact H
theorem wp_Mo_makes_68 {E : EV} {G : GH} {Post : Res → GH → Prop} (a0 : Nat) (p1 : Int32) (p2 : Int32) (p3 : Int32) (p4 : Int32) (p5 : Int32) (p6 : Int32) (p7 : Int32) (p8 : Int32) (p9 : Int32) (H : (p9 = (-1 : Int32) → gT G a0 = 11 ∧ ∃ b2, gR G 650 a0 = some b2 ∧ (gT G b2 = 20 ∨ gT G b2 = 25) ∧ ∃ n6, IX p1 n6 (gN G b2) ∧ Cl E 1 m_Mo_window [.ref a0, .int ((gA G b2 n6)), .int p4] G (aft E 2 m_Mo_makes 178 [some (.ref a0), none, none, none, none, some (.int p5), some (.int p6), some (.int p7), some (.int p8), none, none] [] Post)) ∧ (¬ p9 = (-1 : Int32) → gT G a0 = 11 ∧ ∃ b8, gR G 668 a0 = some b8 ∧ gT G b8 = 21 ∧ ∃ n12, IX p9 n12 (gN G b8) ∧ ((gA G b8 n12) = 0 → ∃ b13, gR G 664 a0 = some b13 ∧ (gT G b13 = 20 ∨ gT G b13 = 25) ∧ ∃ n17, IX p9 n17 (gN G b13) ∧ ((gA G b13 n17) ≤ p4 → ∃ b18, gR G 665 a0 = some b18 ∧ (gT G b18 = 20 ∨ gT G b18 = 25) ∧ ∃ n22, IX p9 n22 (gN G b18) ∧ (p5 ≤ (gA G b18 n22) → ∃ b23, gR G 666 a0 = some b23 ∧ (gT G b23 = 20 ∨ gT G b23 = 25) ∧ ∃ n27, IX p9 n27 (gN G b23) ∧ ∃ b28, gR G 667 a0 = some b28 ∧ (gT G b28 = 20 ∨ gT G b28 = 25) ∧ ∃ n32, IX p9 n32 (gN G b28) ∧ Cl E 1 m_Mo_drops [.ref a0, .int p9] G (aft E 2 m_Mo_makes 149 [some (.ref a0), some (.int p1), some (.int p2), some (.int p3), some (.int ((gA G b13 n17))), some (.int ((gA G b18 n22))), some (.int ((p6 + (gA G b23 n27)))), some (.int ((p7 + (gA G b28 n32)))), some (.int p8), none, none] [] Post)) ∧ (¬ p5 ≤ (gA G b18 n22) → ∃ b33, gR G 666 a0 = some b33 ∧ (gT G b33 = 20 ∨ gT G b33 = 25) ∧ ∃ n37, IX p9 n37 (gN G b33) ∧ ∃ b38, gR G 667 a0 = some b38 ∧ (gT G b38 = 20 ∨ gT G b38 = 25) ∧ ∃ n42, IX p9 n42 (gN G b38) ∧ Cl E 1 m_Mo_drops [.ref a0, .int p9] G (aft E 2 m_Mo_makes 149 [some (.ref a0), some (.int p1), some (.int p2), some (.int p3), some (.int ((gA G b13 n17))), some (.int p5), some (.int ((p6 + (gA G b33 n37)))), some (.int ((p7 + (gA G b38 n42)))), some (.int p8), none, none] [] Post))) ∧ (¬ (gA G b13 n17) ≤ p4 → ∃ b45, gR G 665 a0 = some b45 ∧ (gT G b45 = 20 ∨ gT G b45 = 25) ∧ ∃ n49, IX p9 n49 (gN G b45) ∧ (p5 ≤ (gA G b45 n49) → ∃ b50, gR G 666 a0 = some b50 ∧ (gT G b50 = 20 ∨ gT G b50 = 25) ∧ ∃ n54, IX p9 n54 (gN G b50) ∧ ∃ b55, gR G 667 a0 = some b55 ∧ (gT G b55 = 20 ∨ gT G b55 = 25) ∧ ∃ n59, IX p9 n59 (gN G b55) ∧ Cl E 1 m_Mo_drops [.ref a0, .int p9] G (aft E 2 m_Mo_makes 149 [some (.ref a0), some (.int p1), some (.int p2), some (.int p3), some (.int p4), some (.int ((gA G b45 n49))), some (.int ((p6 + (gA G b50 n54)))), some (.int ((p7 + (gA G b55 n59)))), some (.int p8), none, none] [] Post)) ∧ (¬ p5 ≤ (gA G b45 n49) → ∃ b60, gR G 666 a0 = some b60 ∧ (gT G b60 = 20 ∨ gT G b60 = 25) ∧ ∃ n64, IX p9 n64 (gN G b60) ∧ ∃ b65, gR G 667 a0 = some b65 ∧ (gT G b65 = 20 ∨ gT G b65 = 25) ∧ ∃ n69, IX p9 n69 (gN G b65) ∧ Cl E 1 m_Mo_drops [.ref a0, .int p9] G (aft E 2 m_Mo_makes 149 [some (.ref a0), some (.int p1), some (.int p2), some (.int p3), some (.int p4), some (.int p5), some (.int ((p6 + (gA G b60 n64)))), some (.int ((p7 + (gA G b65 n69)))), some (.int p8), none, none] [] Post)))) ∧ (¬ (gA G b8 n12) = 0 → Cl E 1 m_Mo_sends [.ref a0, .int p9, .int ((1 : Int32))] G (aft E 2 m_Mo_makes 88 [some (.ref a0), some (.int p1), some (.int p2), some (.int p3), some (.int p4), some (.int p5), some (.int p6), some (.int p7), none, some (.int p9), none] [] Post)))) : J E 2 m_Mo_makes 68 [some (.ref a0), some (.int p1), some (.int p2), some (.int p3), some (.int p4), some (.int p5), some (.int p6), some (.int p7), some (.int p8), some (.int p9), none] [] G Post := by
  refine j_iload d_Mo_makes_68 rfl ?_
  refine j_iconst (v := -1) d_Mo_makes_70 (by decide) ?_
  obtain ⟨Ha, Hb⟩ := H
  refine j_icmp_eq (tgt := 169) d_Mo_makes_71 (by decide) (fun c76 => ?_) (fun c77 => ?_)
  · have H := Ha c76
    refine j_aload_n d_Mo_makes_169 rfl ?_
    refine j_aload_n d_Mo_makes_170 rfl ?_
    obtain ⟨t1, H⟩ := H
    obtain ⟨b2, e3, H⟩ := H
    refine j_getR (f := 650) (b := b2) fe_Mo_33 rfl rfl t1 e3 d_Mo_makes_171 ?_
    refine j_iload_n d_Mo_makes_174 rfl ?_
    obtain ⟨t4, H⟩ := H
    obtain ⟨n6, x5, H⟩ := H
    refine j_iald (n := n6) t4 x5 d_Mo_makes_175 ?_
    refine j_iload d_Mo_makes_176 rfl ?_
    refine j_forget (L' := [some (.ref a0), none, none, none, none, some (.int p5), some (.int p6), some (.int p7), some (.int p8), none, none]) ⟨Or.inr rfl, Or.inl rfl, Or.inl rfl, Or.inl rfl, Or.inl rfl, Or.inr rfl, Or.inr rfl, Or.inr rfl, Or.inr rfl, Or.inl rfl, Or.inl rfl, trivial⟩ ?_
    exact j_callV (d' := 1) (ci := 10) (As := [.int ((gA G b2 n6)), .int p4]) (rest := []) (b := a0) cv_Mo_194 me_Mo_window rfl (by decide) rfl rfl t1 rfl rfl (Nat.le_of_ble_eq_true rfl) d_Mo_makes_178 (by decide) rfl H
  · have H := Hb c77
    refine j_aload_n d_Mo_makes_74 rfl ?_
    obtain ⟨t7, H⟩ := H
    obtain ⟨b8, e9, H⟩ := H
    refine j_getR (f := 668) (b := b8) fe_Mo_82 rfl rfl t7 e9 d_Mo_makes_75 ?_
    refine j_iload d_Mo_makes_78 rfl ?_
    obtain ⟨t10, H⟩ := H
    obtain ⟨n12, x11, H⟩ := H
    refine j_zald (n := n12) t10 x11 d_Mo_makes_80 ?_
    obtain ⟨Ha, Hb⟩ := H
    refine j_if_eq (tgt := 94) d_Mo_makes_81 (by decide) (fun c74 => ?_) (fun c75 => ?_)
    · have H := Ha c74
      refine j_iload d_Mo_makes_94 rfl ?_
      refine j_aload_n d_Mo_makes_96 rfl ?_
      obtain ⟨b13, e14, H⟩ := H
      refine j_getR (f := 664) (b := b13) fe_Mo_70 rfl rfl t7 e14 d_Mo_makes_97 ?_
      refine j_iload d_Mo_makes_100 rfl ?_
      obtain ⟨t15, H⟩ := H
      obtain ⟨n17, x16, H⟩ := H
      refine j_iald (n := n17) t15 x16 d_Mo_makes_102 ?_
      refine j_callS (d' := 1) (As := [.int p4, .int ((gA G b13 n17))]) (rest := []) cs_Mo_201 me_Mo_lesser rfl (by decide) rfl rfl (Nat.le_of_ble_eq_true rfl) d_Mo_makes_103 (by decide) rfl (j_enter (L := [some (.int p4), some (.int ((gA G b13 n17)))]) me_Mo_lesser (cat_c rfl (cat_c rfl cat_n)) (Nat.le_of_ble_eq_true rfl) rfl ?_)
      refine j_iload_n d_Mo_lesser_0 rfl ?_
      refine j_iload_n d_Mo_lesser_1 rfl ?_
      obtain ⟨Ha, Hb⟩ := H
      refine j_icmp_ge (tgt := 9) d_Mo_lesser_2 (by decide) (fun c72 => ?_) (fun c73 => ?_)
      · have H := Ha c72
        refine j_iload_n d_Mo_lesser_9 rfl ?_
        refine j_iret rfl d_Mo_lesser_10 ?_
        show J E 2 m_Mo_makes 106 [some (.ref a0), some (.int p1), some (.int p2), some (.int p3), some (.int p4), some (.int p5), some (.int p6), some (.int p7), some (.int p8), some (.int p9), none] [.int ((gA G b13 n17))] G Post
        refine j_istore (L' := [some (.ref a0), some (.int p1), some (.int p2), some (.int p3), some (.int ((gA G b13 n17))), some (.int p5), some (.int p6), some (.int p7), some (.int p8), some (.int p9), none]) d_Mo_makes_106 (by decide) rfl ?_
        refine j_iload d_Mo_makes_108 rfl ?_
        refine j_aload_n d_Mo_makes_110 rfl ?_
        obtain ⟨b18, e19, H⟩ := H
        refine j_getR (f := 665) (b := b18) fe_Mo_73 rfl rfl t7 e19 d_Mo_makes_111 ?_
        refine j_iload d_Mo_makes_114 rfl ?_
        obtain ⟨t20, H⟩ := H
        obtain ⟨n22, x21, H⟩ := H
        refine j_iald (n := n22) t20 x21 d_Mo_makes_116 ?_
        refine j_callS (d' := 1) (As := [.int p5, .int ((gA G b18 n22))]) (rest := []) cs_Mo_165 me_Mo_greater rfl (by decide) rfl rfl (Nat.le_of_ble_eq_true rfl) d_Mo_makes_117 (by decide) rfl (j_enter (L := [some (.int p5), some (.int ((gA G b18 n22)))]) me_Mo_greater (cat_c rfl (cat_c rfl cat_n)) (Nat.le_of_ble_eq_true rfl) rfl ?_)
        refine j_iload_n d_Mo_greater_0 rfl ?_
        refine j_iload_n d_Mo_greater_1 rfl ?_
        obtain ⟨Ha, Hb⟩ := H
        refine j_icmp_le (tgt := 9) d_Mo_greater_2 (by decide) (fun c43 => ?_) (fun c44 => ?_)
        · have H := Ha c43
          refine j_iload_n d_Mo_greater_9 rfl ?_
          refine j_iret rfl d_Mo_greater_10 ?_
          show J E 2 m_Mo_makes 120 [some (.ref a0), some (.int p1), some (.int p2), some (.int p3), some (.int ((gA G b13 n17))), some (.int p5), some (.int p6), some (.int p7), some (.int p8), some (.int p9), none] [.int ((gA G b18 n22))] G Post
          refine j_istore (L' := [some (.ref a0), some (.int p1), some (.int p2), some (.int p3), some (.int ((gA G b13 n17))), some (.int ((gA G b18 n22))), some (.int p6), some (.int p7), some (.int p8), some (.int p9), none]) d_Mo_makes_120 (by decide) rfl ?_
          refine j_iload d_Mo_makes_122 rfl ?_
          refine j_aload_n d_Mo_makes_124 rfl ?_
          obtain ⟨b23, e24, H⟩ := H
          refine j_getR (f := 666) (b := b23) fe_Mo_76 rfl rfl t7 e24 d_Mo_makes_125 ?_
          refine j_iload d_Mo_makes_128 rfl ?_
          obtain ⟨t25, H⟩ := H
          obtain ⟨n27, x26, H⟩ := H
          refine j_iald (n := n27) t25 x26 d_Mo_makes_130 ?_
          refine j_iadd d_Mo_makes_131 ?_
          refine j_istore (L' := [some (.ref a0), some (.int p1), some (.int p2), some (.int p3), some (.int ((gA G b13 n17))), some (.int ((gA G b18 n22))), some (.int ((p6 + (gA G b23 n27)))), some (.int p7), some (.int p8), some (.int p9), none]) d_Mo_makes_132 (by decide) rfl ?_
          refine j_iload d_Mo_makes_134 rfl ?_
          refine j_aload_n d_Mo_makes_136 rfl ?_
          obtain ⟨b28, e29, H⟩ := H
          refine j_getR (f := 667) (b := b28) fe_Mo_79 rfl rfl t7 e29 d_Mo_makes_137 ?_
          refine j_iload d_Mo_makes_140 rfl ?_
          obtain ⟨t30, H⟩ := H
          obtain ⟨n32, x31, H⟩ := H
          refine j_iald (n := n32) t30 x31 d_Mo_makes_142 ?_
          refine j_iadd d_Mo_makes_143 ?_
          refine j_istore (L' := [some (.ref a0), some (.int p1), some (.int p2), some (.int p3), some (.int ((gA G b13 n17))), some (.int ((gA G b18 n22))), some (.int ((p6 + (gA G b23 n27)))), some (.int ((p7 + (gA G b28 n32)))), some (.int p8), some (.int p9), none]) d_Mo_makes_144 (by decide) rfl ?_
          refine j_aload_n d_Mo_makes_146 rfl ?_
          refine j_iload d_Mo_makes_147 rfl ?_
          refine j_forget (L' := [some (.ref a0), some (.int p1), some (.int p2), some (.int p3), some (.int ((gA G b13 n17))), some (.int ((gA G b18 n22))), some (.int ((p6 + (gA G b23 n27)))), some (.int ((p7 + (gA G b28 n32)))), some (.int p8), none, none]) ⟨Or.inr rfl, Or.inr rfl, Or.inr rfl, Or.inr rfl, Or.inr rfl, Or.inr rfl, Or.inr rfl, Or.inr rfl, Or.inr rfl, Or.inl rfl, Or.inl rfl, trivial⟩ ?_
          exact j_callV (d' := 1) (ci := 10) (As := [.int p9]) (rest := []) (b := a0) cv_Mo_204 me_Mo_drops rfl (by decide) rfl rfl t7 rfl rfl (Nat.le_of_ble_eq_true rfl) d_Mo_makes_149 (by decide) rfl H
        · have H := Hb c44
          refine j_iload_n d_Mo_greater_5 rfl ?_
          refine j_goto (tgt := 10) d_Mo_greater_6 (by decide) ?_
          refine j_iret rfl d_Mo_greater_10 ?_
          show J E 2 m_Mo_makes 120 [some (.ref a0), some (.int p1), some (.int p2), some (.int p3), some (.int ((gA G b13 n17))), some (.int p5), some (.int p6), some (.int p7), some (.int p8), some (.int p9), none] [.int p5] G Post
          refine j_istore (L' := [some (.ref a0), some (.int p1), some (.int p2), some (.int p3), some (.int ((gA G b13 n17))), some (.int p5), some (.int p6), some (.int p7), some (.int p8), some (.int p9), none]) d_Mo_makes_120 (by decide) rfl ?_
          refine j_iload d_Mo_makes_122 rfl ?_
          refine j_aload_n d_Mo_makes_124 rfl ?_
          obtain ⟨b33, e34, H⟩ := H
          refine j_getR (f := 666) (b := b33) fe_Mo_76 rfl rfl t7 e34 d_Mo_makes_125 ?_
          refine j_iload d_Mo_makes_128 rfl ?_
          obtain ⟨t35, H⟩ := H
          obtain ⟨n37, x36, H⟩ := H
          refine j_iald (n := n37) t35 x36 d_Mo_makes_130 ?_
          refine j_iadd d_Mo_makes_131 ?_
          refine j_istore (L' := [some (.ref a0), some (.int p1), some (.int p2), some (.int p3), some (.int ((gA G b13 n17))), some (.int p5), some (.int ((p6 + (gA G b33 n37)))), some (.int p7), some (.int p8), some (.int p9), none]) d_Mo_makes_132 (by decide) rfl ?_
          refine j_iload d_Mo_makes_134 rfl ?_
          refine j_aload_n d_Mo_makes_136 rfl ?_
          obtain ⟨b38, e39, H⟩ := H
          refine j_getR (f := 667) (b := b38) fe_Mo_79 rfl rfl t7 e39 d_Mo_makes_137 ?_
          refine j_iload d_Mo_makes_140 rfl ?_
          obtain ⟨t40, H⟩ := H
          obtain ⟨n42, x41, H⟩ := H
          refine j_iald (n := n42) t40 x41 d_Mo_makes_142 ?_
          refine j_iadd d_Mo_makes_143 ?_
          refine j_istore (L' := [some (.ref a0), some (.int p1), some (.int p2), some (.int p3), some (.int ((gA G b13 n17))), some (.int p5), some (.int ((p6 + (gA G b33 n37)))), some (.int ((p7 + (gA G b38 n42)))), some (.int p8), some (.int p9), none]) d_Mo_makes_144 (by decide) rfl ?_
          refine j_aload_n d_Mo_makes_146 rfl ?_
          refine j_iload d_Mo_makes_147 rfl ?_
          refine j_forget (L' := [some (.ref a0), some (.int p1), some (.int p2), some (.int p3), some (.int ((gA G b13 n17))), some (.int p5), some (.int ((p6 + (gA G b33 n37)))), some (.int ((p7 + (gA G b38 n42)))), some (.int p8), none, none]) ⟨Or.inr rfl, Or.inr rfl, Or.inr rfl, Or.inr rfl, Or.inr rfl, Or.inr rfl, Or.inr rfl, Or.inr rfl, Or.inr rfl, Or.inl rfl, Or.inl rfl, trivial⟩ ?_
          exact j_callV (d' := 1) (ci := 10) (As := [.int p9]) (rest := []) (b := a0) cv_Mo_204 me_Mo_drops rfl (by decide) rfl rfl t7 rfl rfl (Nat.le_of_ble_eq_true rfl) d_Mo_makes_149 (by decide) rfl H
      · have H := Hb c73
        refine j_iload_n d_Mo_lesser_5 rfl ?_
        refine j_goto (tgt := 10) d_Mo_lesser_6 (by decide) ?_
        refine j_iret rfl d_Mo_lesser_10 ?_
        show J E 2 m_Mo_makes 106 [some (.ref a0), some (.int p1), some (.int p2), some (.int p3), some (.int p4), some (.int p5), some (.int p6), some (.int p7), some (.int p8), some (.int p9), none] [.int p4] G Post
        refine j_istore (L' := [some (.ref a0), some (.int p1), some (.int p2), some (.int p3), some (.int p4), some (.int p5), some (.int p6), some (.int p7), some (.int p8), some (.int p9), none]) d_Mo_makes_106 (by decide) rfl ?_
        refine j_iload d_Mo_makes_108 rfl ?_
        refine j_aload_n d_Mo_makes_110 rfl ?_
        obtain ⟨b45, e46, H⟩ := H
        refine j_getR (f := 665) (b := b45) fe_Mo_73 rfl rfl t7 e46 d_Mo_makes_111 ?_
        refine j_iload d_Mo_makes_114 rfl ?_
        obtain ⟨t47, H⟩ := H
        obtain ⟨n49, x48, H⟩ := H
        refine j_iald (n := n49) t47 x48 d_Mo_makes_116 ?_
        refine j_callS (d' := 1) (As := [.int p5, .int ((gA G b45 n49))]) (rest := []) cs_Mo_165 me_Mo_greater rfl (by decide) rfl rfl (Nat.le_of_ble_eq_true rfl) d_Mo_makes_117 (by decide) rfl (j_enter (L := [some (.int p5), some (.int ((gA G b45 n49)))]) me_Mo_greater (cat_c rfl (cat_c rfl cat_n)) (Nat.le_of_ble_eq_true rfl) rfl ?_)
        refine j_iload_n d_Mo_greater_0 rfl ?_
        refine j_iload_n d_Mo_greater_1 rfl ?_
        obtain ⟨Ha, Hb⟩ := H
        refine j_icmp_le (tgt := 9) d_Mo_greater_2 (by decide) (fun c70 => ?_) (fun c71 => ?_)
        · have H := Ha c70
          refine j_iload_n d_Mo_greater_9 rfl ?_
          refine j_iret rfl d_Mo_greater_10 ?_
          show J E 2 m_Mo_makes 120 [some (.ref a0), some (.int p1), some (.int p2), some (.int p3), some (.int p4), some (.int p5), some (.int p6), some (.int p7), some (.int p8), some (.int p9), none] [.int ((gA G b45 n49))] G Post
          refine j_istore (L' := [some (.ref a0), some (.int p1), some (.int p2), some (.int p3), some (.int p4), some (.int ((gA G b45 n49))), some (.int p6), some (.int p7), some (.int p8), some (.int p9), none]) d_Mo_makes_120 (by decide) rfl ?_
          refine j_iload d_Mo_makes_122 rfl ?_
          refine j_aload_n d_Mo_makes_124 rfl ?_
          obtain ⟨b50, e51, H⟩ := H
          refine j_getR (f := 666) (b := b50) fe_Mo_76 rfl rfl t7 e51 d_Mo_makes_125 ?_
          refine j_iload d_Mo_makes_128 rfl ?_
          obtain ⟨t52, H⟩ := H
          obtain ⟨n54, x53, H⟩ := H
          refine j_iald (n := n54) t52 x53 d_Mo_makes_130 ?_
          refine j_iadd d_Mo_makes_131 ?_
          refine j_istore (L' := [some (.ref a0), some (.int p1), some (.int p2), some (.int p3), some (.int p4), some (.int ((gA G b45 n49))), some (.int ((p6 + (gA G b50 n54)))), some (.int p7), some (.int p8), some (.int p9), none]) d_Mo_makes_132 (by decide) rfl ?_
          refine j_iload d_Mo_makes_134 rfl ?_
          refine j_aload_n d_Mo_makes_136 rfl ?_
          obtain ⟨b55, e56, H⟩ := H
          refine j_getR (f := 667) (b := b55) fe_Mo_79 rfl rfl t7 e56 d_Mo_makes_137 ?_
          refine j_iload d_Mo_makes_140 rfl ?_
          obtain ⟨t57, H⟩ := H
          obtain ⟨n59, x58, H⟩ := H
          refine j_iald (n := n59) t57 x58 d_Mo_makes_142 ?_
          refine j_iadd d_Mo_makes_143 ?_
          refine j_istore (L' := [some (.ref a0), some (.int p1), some (.int p2), some (.int p3), some (.int p4), some (.int ((gA G b45 n49))), some (.int ((p6 + (gA G b50 n54)))), some (.int ((p7 + (gA G b55 n59)))), some (.int p8), some (.int p9), none]) d_Mo_makes_144 (by decide) rfl ?_
          refine j_aload_n d_Mo_makes_146 rfl ?_
          refine j_iload d_Mo_makes_147 rfl ?_
          refine j_forget (L' := [some (.ref a0), some (.int p1), some (.int p2), some (.int p3), some (.int p4), some (.int ((gA G b45 n49))), some (.int ((p6 + (gA G b50 n54)))), some (.int ((p7 + (gA G b55 n59)))), some (.int p8), none, none]) ⟨Or.inr rfl, Or.inr rfl, Or.inr rfl, Or.inr rfl, Or.inr rfl, Or.inr rfl, Or.inr rfl, Or.inr rfl, Or.inr rfl, Or.inl rfl, Or.inl rfl, trivial⟩ ?_
          exact j_callV (d' := 1) (ci := 10) (As := [.int p9]) (rest := []) (b := a0) cv_Mo_204 me_Mo_drops rfl (by decide) rfl rfl t7 rfl rfl (Nat.le_of_ble_eq_true rfl) d_Mo_makes_149 (by decide) rfl H
        · have H := Hb c71
          refine j_iload_n d_Mo_greater_5 rfl ?_
          refine j_goto (tgt := 10) d_Mo_greater_6 (by decide) ?_
          refine j_iret rfl d_Mo_greater_10 ?_
          show J E 2 m_Mo_makes 120 [some (.ref a0), some (.int p1), some (.int p2), some (.int p3), some (.int p4), some (.int p5), some (.int p6), some (.int p7), some (.int p8), some (.int p9), none] [.int p5] G Post
          refine j_istore (L' := [some (.ref a0), some (.int p1), some (.int p2), some (.int p3), some (.int p4), some (.int p5), some (.int p6), some (.int p7), some (.int p8), some (.int p9), none]) d_Mo_makes_120 (by decide) rfl ?_
          refine j_iload d_Mo_makes_122 rfl ?_
          refine j_aload_n d_Mo_makes_124 rfl ?_
          obtain ⟨b60, e61, H⟩ := H
          refine j_getR (f := 666) (b := b60) fe_Mo_76 rfl rfl t7 e61 d_Mo_makes_125 ?_
          refine j_iload d_Mo_makes_128 rfl ?_
          obtain ⟨t62, H⟩ := H
          obtain ⟨n64, x63, H⟩ := H
          refine j_iald (n := n64) t62 x63 d_Mo_makes_130 ?_
          refine j_iadd d_Mo_makes_131 ?_
          refine j_istore (L' := [some (.ref a0), some (.int p1), some (.int p2), some (.int p3), some (.int p4), some (.int p5), some (.int ((p6 + (gA G b60 n64)))), some (.int p7), some (.int p8), some (.int p9), none]) d_Mo_makes_132 (by decide) rfl ?_
          refine j_iload d_Mo_makes_134 rfl ?_
          refine j_aload_n d_Mo_makes_136 rfl ?_
          obtain ⟨b65, e66, H⟩ := H
          refine j_getR (f := 667) (b := b65) fe_Mo_79 rfl rfl t7 e66 d_Mo_makes_137 ?_
          refine j_iload d_Mo_makes_140 rfl ?_
          obtain ⟨t67, H⟩ := H
          obtain ⟨n69, x68, H⟩ := H
          refine j_iald (n := n69) t67 x68 d_Mo_makes_142 ?_
          refine j_iadd d_Mo_makes_143 ?_
          refine j_istore (L' := [some (.ref a0), some (.int p1), some (.int p2), some (.int p3), some (.int p4), some (.int p5), some (.int ((p6 + (gA G b60 n64)))), some (.int ((p7 + (gA G b65 n69)))), some (.int p8), some (.int p9), none]) d_Mo_makes_144 (by decide) rfl ?_
          refine j_aload_n d_Mo_makes_146 rfl ?_
          refine j_iload d_Mo_makes_147 rfl ?_
          refine j_forget (L' := [some (.ref a0), some (.int p1), some (.int p2), some (.int p3), some (.int p4), some (.int p5), some (.int ((p6 + (gA G b60 n64)))), some (.int ((p7 + (gA G b65 n69)))), some (.int p8), none, none]) ⟨Or.inr rfl, Or.inr rfl, Or.inr rfl, Or.inr rfl, Or.inr rfl, Or.inr rfl, Or.inr rfl, Or.inr rfl, Or.inr rfl, Or.inl rfl, Or.inl rfl, trivial⟩ ?_
          exact j_callV (d' := 1) (ci := 10) (As := [.int p9]) (rest := []) (b := a0) cv_Mo_204 me_Mo_drops rfl (by decide) rfl rfl t7 rfl rfl (Nat.le_of_ble_eq_true rfl) d_Mo_makes_149 (by decide) rfl H
    · have H := Hb c75
      refine j_aload_n d_Mo_makes_84 rfl ?_
      refine j_iload d_Mo_makes_85 rfl ?_
      refine j_iconst (v := 1) d_Mo_makes_87 (by decide) ?_
      refine j_forget (L' := [some (.ref a0), some (.int p1), some (.int p2), some (.int p3), some (.int p4), some (.int p5), some (.int p6), some (.int p7), none, some (.int p9), none]) ⟨Or.inr rfl, Or.inr rfl, Or.inr rfl, Or.inr rfl, Or.inr rfl, Or.inr rfl, Or.inr rfl, Or.inr rfl, Or.inl rfl, Or.inr rfl, Or.inl rfl, trivial⟩ ?_
      exact j_callV (d' := 1) (ci := 10) (As := [.int p9, .int ((1 : Int32))]) (rest := []) (b := a0) cv_Mo_180 me_Mo_sends rfl (by decide) rfl rfl t7 rfl rfl (Nat.le_of_ble_eq_true rfl) d_Mo_makes_88 (by decide) rfl H
theorem wp_Mo_makes_181 {E : EV} {G : GH} {Post : Res → GH → Prop} (a0 : Nat) (p5 : Int32) (p6 : Int32) (p7 : Int32) (p8 : Int32) (s0 : Int32) (H : gT G a0 = 11 ∧ ∃ b2, gR G 665 a0 = some b2 ∧ gT G b2 = 20 ∧ ∃ n6, IX s0 n6 (gN G b2) ∧ ∃ b7, gR G 666 a0 = some b7 ∧ gT G b7 = 20 ∧ ∃ n11, IX s0 n11 (gN G b7) ∧ ∃ b12, gR G 667 a0 = some b12 ∧ gT G b12 = 20 ∧ ∃ n16, IX s0 n16 (gN G b12) ∧ (p8 = 0 → Post (.inl (some (.int ((1 : Int32))))) (sA (sA (sA G b2 n6 p5) b7 n11 p6) b12 n16 p7)) ∧ (¬ p8 = 0 → ((gI G 658 a0) < p5 → Post (.inl (some (.int ((1 : Int32))))) (sA (sA (sA G b2 n6 p5) b7 n11 p6) b12 n16 p7)) ∧ (¬ (gI G 658 a0) < p5 → Cl E 1 m_Mo_sends [.ref a0, .int s0, .int ((0 : Int32))] (sA (sA (sA G b2 n6 p5) b7 n11 p6) b12 n16 p7) (aft E 2 m_Mo_makes 228 [some (.ref a0), none, none, none, none, none, none, none, none, none, some (.int s0)] [] Post)))) : J E 2 m_Mo_makes 181 [some (.ref a0), none, none, none, none, some (.int p5), some (.int p6), some (.int p7), some (.int p8), none, none] [.int s0] G Post := by
  refine j_istore (L' := [some (.ref a0), none, none, none, none, some (.int p5), some (.int p6), some (.int p7), some (.int p8), none, some (.int s0)]) d_Mo_makes_181 (by decide) rfl ?_
  refine j_aload_n d_Mo_makes_183 rfl ?_
  obtain ⟨t1, H⟩ := H
  obtain ⟨b2, e3, H⟩ := H
  refine j_getR (f := 665) (b := b2) fe_Mo_73 rfl rfl t1 e3 d_Mo_makes_184 ?_
  refine j_iload d_Mo_makes_187 rfl ?_
  refine j_iload d_Mo_makes_189 rfl ?_
  obtain ⟨t4, H⟩ := H
  obtain ⟨n6, x5, H⟩ := H
  refine j_iast (n := n6) t4 x5 d_Mo_makes_191 ?_
  refine j_aload_n d_Mo_makes_192 rfl ?_
  obtain ⟨b7, e8, H⟩ := H
  refine j_getR (f := 666) (b := b7) fe_Mo_76 rfl rfl t1 e8 d_Mo_makes_193 ?_
  refine j_iload d_Mo_makes_196 rfl ?_
  refine j_iload d_Mo_makes_198 rfl ?_
  obtain ⟨t9, H⟩ := H
  obtain ⟨n11, x10, H⟩ := H
  refine j_iast (n := n11) t9 x10 d_Mo_makes_200 ?_
  refine j_aload_n d_Mo_makes_201 rfl ?_
  obtain ⟨b12, e13, H⟩ := H
  refine j_getR (f := 667) (b := b12) fe_Mo_79 rfl rfl t1 e13 d_Mo_makes_202 ?_
  refine j_iload d_Mo_makes_205 rfl ?_
  refine j_iload d_Mo_makes_207 rfl ?_
  obtain ⟨t14, H⟩ := H
  obtain ⟨n16, x15, H⟩ := H
  refine j_iast (n := n16) t14 x15 d_Mo_makes_209 ?_
  refine j_iload d_Mo_makes_210 rfl ?_
  obtain ⟨Ha, Hb⟩ := H
  refine j_if_eq (tgt := 239) d_Mo_makes_212 (by decide) (fun c19 => ?_) (fun c20 => ?_)
  · have H := Ha c19
    refine j_iconst (v := 1) d_Mo_makes_239 (by decide) ?_
    exact j_iret rfl d_Mo_makes_240 H
  · have H := Hb c20
    refine j_iload d_Mo_makes_215 rfl ?_
    refine j_aload_n d_Mo_makes_217 rfl ?_
    refine j_getI (f := 658) fe_Mo_58 rfl rfl t1 d_Mo_makes_218 ?_
    obtain ⟨Ha, Hb⟩ := H
    refine j_icmp_gt (tgt := 239) d_Mo_makes_221 (by decide) (fun c17 => ?_) (fun c18 => ?_)
    · have H := Ha c17
      refine j_iconst (v := 1) d_Mo_makes_239 (by decide) ?_
      exact j_iret rfl d_Mo_makes_240 H
    · have H := Hb c18
      refine j_aload_n d_Mo_makes_224 rfl ?_
      refine j_iload d_Mo_makes_225 rfl ?_
      refine j_iconst (v := 0) d_Mo_makes_227 (by decide) ?_
      refine j_forget (L' := [some (.ref a0), none, none, none, none, none, none, none, none, none, some (.int s0)]) ⟨Or.inr rfl, Or.inl rfl, Or.inl rfl, Or.inl rfl, Or.inl rfl, Or.inl rfl, Or.inl rfl, Or.inl rfl, Or.inl rfl, Or.inl rfl, Or.inr rfl, trivial⟩ ?_
      exact j_callV (d' := 1) (ci := 10) (As := [.int s0, .int ((0 : Int32))]) (rest := []) (b := a0) cv_Mo_180 me_Mo_sends rfl (by decide) rfl rfl t1 rfl rfl (Nat.le_of_ble_eq_true rfl) d_Mo_makes_228 (by decide) rfl H
theorem wp_Mo_makes_152 {E : EV} {G : GH} {Post : Res → GH → Prop} (a0 : Nat) (p1 : Int32) (p2 : Int32) (p3 : Int32) (p4 : Int32) (p5 : Int32) (p6 : Int32) (p7 : Int32) (p8 : Int32) (H : gT G a0 = 11 ∧ ∃ b2, gR G 650 a0 = some b2 ∧ (gT G b2 = 20 ∨ gT G b2 = 25) ∧ ∃ n6, IX p1 n6 (gN G b2) ∧ Cl E 1 m_Mo_touching [.ref a0, .int ((gA G b2 n6)), .int p2, .int p3] G (aft E 2 m_Mo_makes 161 [some (.ref a0), some (.int p1), some (.int p2), some (.int p3), some (.int p4), some (.int p5), some (.int p6), some (.int p7), some (.int p8), none, none] [] Post)) : J E 2 m_Mo_makes 152 [some (.ref a0), some (.int p1), some (.int p2), some (.int p3), some (.int p4), some (.int p5), some (.int p6), some (.int p7), some (.int p8), none, none] [] G Post := by
  refine j_aload_n d_Mo_makes_152 rfl ?_
  refine j_aload_n d_Mo_makes_153 rfl ?_
  obtain ⟨t1, H⟩ := H
  obtain ⟨b2, e3, H⟩ := H
  refine j_getR (f := 650) (b := b2) fe_Mo_33 rfl rfl t1 e3 d_Mo_makes_154 ?_
  refine j_iload_n d_Mo_makes_157 rfl ?_
  obtain ⟨t4, H⟩ := H
  obtain ⟨n6, x5, H⟩ := H
  refine j_iald (n := n6) t4 x5 d_Mo_makes_158 ?_
  refine j_iload_n d_Mo_makes_159 rfl ?_
  refine j_iload_n d_Mo_makes_160 rfl ?_
  exact j_callV (d' := 1) (ci := 10) (As := [.int ((gA G b2 n6)), .int p2, .int p3]) (rest := []) (b := a0) cv_Mo_197 me_Mo_touching rfl (by decide) rfl rfl t1 rfl rfl (Nat.le_of_ble_eq_true rfl) d_Mo_makes_161 (by decide) rfl H
theorem wp_Mo_makes_91 {E : EV} {G : GH} {Post : Res → GH → Prop} (a0 : Nat) (p1 : Int32) (p2 : Int32) (p3 : Int32) (p4 : Int32) (p5 : Int32) (p6 : Int32) (p7 : Int32) (p9 : Int32) (H : gT G a0 = 11 ∧ ∃ b2, gR G 664 a0 = some b2 ∧ (gT G b2 = 20 ∨ gT G b2 = 25) ∧ ∃ n6, IX p9 n6 (gN G b2) ∧ ((gA G b2 n6) ≤ p4 → ∃ b7, gR G 665 a0 = some b7 ∧ (gT G b7 = 20 ∨ gT G b7 = 25) ∧ ∃ n11, IX p9 n11 (gN G b7) ∧ (p5 ≤ (gA G b7 n11) → ∃ b12, gR G 666 a0 = some b12 ∧ (gT G b12 = 20 ∨ gT G b12 = 25) ∧ ∃ n16, IX p9 n16 (gN G b12) ∧ ∃ b17, gR G 667 a0 = some b17 ∧ (gT G b17 = 20 ∨ gT G b17 = 25) ∧ ∃ n21, IX p9 n21 (gN G b17) ∧ Cl E 1 m_Mo_drops [.ref a0, .int p9] G (aft E 2 m_Mo_makes 149 [some (.ref a0), some (.int p1), some (.int p2), some (.int p3), some (.int ((gA G b2 n6))), some (.int ((gA G b7 n11))), some (.int ((p6 + (gA G b12 n16)))), some (.int ((p7 + (gA G b17 n21)))), some (.int ((1 : Int32))), none, none] [] Post)) ∧ (¬ p5 ≤ (gA G b7 n11) → ∃ b22, gR G 666 a0 = some b22 ∧ (gT G b22 = 20 ∨ gT G b22 = 25) ∧ ∃ n26, IX p9 n26 (gN G b22) ∧ ∃ b27, gR G 667 a0 = some b27 ∧ (gT G b27 = 20 ∨ gT G b27 = 25) ∧ ∃ n31, IX p9 n31 (gN G b27) ∧ Cl E 1 m_Mo_drops [.ref a0, .int p9] G (aft E 2 m_Mo_makes 149 [some (.ref a0), some (.int p1), some (.int p2), some (.int p3), some (.int ((gA G b2 n6))), some (.int p5), some (.int ((p6 + (gA G b22 n26)))), some (.int ((p7 + (gA G b27 n31)))), some (.int ((1 : Int32))), none, none] [] Post))) ∧ (¬ (gA G b2 n6) ≤ p4 → ∃ b34, gR G 665 a0 = some b34 ∧ (gT G b34 = 20 ∨ gT G b34 = 25) ∧ ∃ n38, IX p9 n38 (gN G b34) ∧ (p5 ≤ (gA G b34 n38) → ∃ b39, gR G 666 a0 = some b39 ∧ (gT G b39 = 20 ∨ gT G b39 = 25) ∧ ∃ n43, IX p9 n43 (gN G b39) ∧ ∃ b44, gR G 667 a0 = some b44 ∧ (gT G b44 = 20 ∨ gT G b44 = 25) ∧ ∃ n48, IX p9 n48 (gN G b44) ∧ Cl E 1 m_Mo_drops [.ref a0, .int p9] G (aft E 2 m_Mo_makes 149 [some (.ref a0), some (.int p1), some (.int p2), some (.int p3), some (.int p4), some (.int ((gA G b34 n38))), some (.int ((p6 + (gA G b39 n43)))), some (.int ((p7 + (gA G b44 n48)))), some (.int ((1 : Int32))), none, none] [] Post)) ∧ (¬ p5 ≤ (gA G b34 n38) → ∃ b49, gR G 666 a0 = some b49 ∧ (gT G b49 = 20 ∨ gT G b49 = 25) ∧ ∃ n53, IX p9 n53 (gN G b49) ∧ ∃ b54, gR G 667 a0 = some b54 ∧ (gT G b54 = 20 ∨ gT G b54 = 25) ∧ ∃ n58, IX p9 n58 (gN G b54) ∧ Cl E 1 m_Mo_drops [.ref a0, .int p9] G (aft E 2 m_Mo_makes 149 [some (.ref a0), some (.int p1), some (.int p2), some (.int p3), some (.int p4), some (.int p5), some (.int ((p6 + (gA G b49 n53)))), some (.int ((p7 + (gA G b54 n58)))), some (.int ((1 : Int32))), none, none] [] Post)))) : J E 2 m_Mo_makes 91 [some (.ref a0), some (.int p1), some (.int p2), some (.int p3), some (.int p4), some (.int p5), some (.int p6), some (.int p7), none, some (.int p9), none] [] G Post := by
  refine j_iconst (v := 1) d_Mo_makes_91 (by decide) ?_
  refine j_istore (L' := [some (.ref a0), some (.int p1), some (.int p2), some (.int p3), some (.int p4), some (.int p5), some (.int p6), some (.int p7), some (.int ((1 : Int32))), some (.int p9), none]) d_Mo_makes_92 (by decide) rfl ?_
  refine j_iload d_Mo_makes_94 rfl ?_
  refine j_aload_n d_Mo_makes_96 rfl ?_
  obtain ⟨t1, H⟩ := H
  obtain ⟨b2, e3, H⟩ := H
  refine j_getR (f := 664) (b := b2) fe_Mo_70 rfl rfl t1 e3 d_Mo_makes_97 ?_
  refine j_iload d_Mo_makes_100 rfl ?_
  obtain ⟨t4, H⟩ := H
  obtain ⟨n6, x5, H⟩ := H
  refine j_iald (n := n6) t4 x5 d_Mo_makes_102 ?_
  refine j_callS (d' := 1) (As := [.int p4, .int ((gA G b2 n6))]) (rest := []) cs_Mo_201 me_Mo_lesser rfl (by decide) rfl rfl (Nat.le_of_ble_eq_true rfl) d_Mo_makes_103 (by decide) rfl (j_enter (L := [some (.int p4), some (.int ((gA G b2 n6)))]) me_Mo_lesser (cat_c rfl (cat_c rfl cat_n)) (Nat.le_of_ble_eq_true rfl) rfl ?_)
  refine j_iload_n d_Mo_lesser_0 rfl ?_
  refine j_iload_n d_Mo_lesser_1 rfl ?_
  obtain ⟨Ha, Hb⟩ := H
  refine j_icmp_ge (tgt := 9) d_Mo_lesser_2 (by decide) (fun c61 => ?_) (fun c62 => ?_)
  · have H := Ha c61
    refine j_iload_n d_Mo_lesser_9 rfl ?_
    refine j_iret rfl d_Mo_lesser_10 ?_
    show J E 2 m_Mo_makes 106 [some (.ref a0), some (.int p1), some (.int p2), some (.int p3), some (.int p4), some (.int p5), some (.int p6), some (.int p7), some (.int ((1 : Int32))), some (.int p9), none] [.int ((gA G b2 n6))] G Post
    refine j_istore (L' := [some (.ref a0), some (.int p1), some (.int p2), some (.int p3), some (.int ((gA G b2 n6))), some (.int p5), some (.int p6), some (.int p7), some (.int ((1 : Int32))), some (.int p9), none]) d_Mo_makes_106 (by decide) rfl ?_
    refine j_iload d_Mo_makes_108 rfl ?_
    refine j_aload_n d_Mo_makes_110 rfl ?_
    obtain ⟨b7, e8, H⟩ := H
    refine j_getR (f := 665) (b := b7) fe_Mo_73 rfl rfl t1 e8 d_Mo_makes_111 ?_
    refine j_iload d_Mo_makes_114 rfl ?_
    obtain ⟨t9, H⟩ := H
    obtain ⟨n11, x10, H⟩ := H
    refine j_iald (n := n11) t9 x10 d_Mo_makes_116 ?_
    refine j_callS (d' := 1) (As := [.int p5, .int ((gA G b7 n11))]) (rest := []) cs_Mo_165 me_Mo_greater rfl (by decide) rfl rfl (Nat.le_of_ble_eq_true rfl) d_Mo_makes_117 (by decide) rfl (j_enter (L := [some (.int p5), some (.int ((gA G b7 n11)))]) me_Mo_greater (cat_c rfl (cat_c rfl cat_n)) (Nat.le_of_ble_eq_true rfl) rfl ?_)
    refine j_iload_n d_Mo_greater_0 rfl ?_
    refine j_iload_n d_Mo_greater_1 rfl ?_
    obtain ⟨Ha, Hb⟩ := H
    refine j_icmp_le (tgt := 9) d_Mo_greater_2 (by decide) (fun c32 => ?_) (fun c33 => ?_)
    · have H := Ha c32
      refine j_iload_n d_Mo_greater_9 rfl ?_
      refine j_iret rfl d_Mo_greater_10 ?_
      show J E 2 m_Mo_makes 120 [some (.ref a0), some (.int p1), some (.int p2), some (.int p3), some (.int ((gA G b2 n6))), some (.int p5), some (.int p6), some (.int p7), some (.int ((1 : Int32))), some (.int p9), none] [.int ((gA G b7 n11))] G Post
      refine j_istore (L' := [some (.ref a0), some (.int p1), some (.int p2), some (.int p3), some (.int ((gA G b2 n6))), some (.int ((gA G b7 n11))), some (.int p6), some (.int p7), some (.int ((1 : Int32))), some (.int p9), none]) d_Mo_makes_120 (by decide) rfl ?_
      refine j_iload d_Mo_makes_122 rfl ?_
      refine j_aload_n d_Mo_makes_124 rfl ?_
      obtain ⟨b12, e13, H⟩ := H
      refine j_getR (f := 666) (b := b12) fe_Mo_76 rfl rfl t1 e13 d_Mo_makes_125 ?_
      refine j_iload d_Mo_makes_128 rfl ?_
      obtain ⟨t14, H⟩ := H
      obtain ⟨n16, x15, H⟩ := H
      refine j_iald (n := n16) t14 x15 d_Mo_makes_130 ?_
      refine j_iadd d_Mo_makes_131 ?_
      refine j_istore (L' := [some (.ref a0), some (.int p1), some (.int p2), some (.int p3), some (.int ((gA G b2 n6))), some (.int ((gA G b7 n11))), some (.int ((p6 + (gA G b12 n16)))), some (.int p7), some (.int ((1 : Int32))), some (.int p9), none]) d_Mo_makes_132 (by decide) rfl ?_
      refine j_iload d_Mo_makes_134 rfl ?_
      refine j_aload_n d_Mo_makes_136 rfl ?_
      obtain ⟨b17, e18, H⟩ := H
      refine j_getR (f := 667) (b := b17) fe_Mo_79 rfl rfl t1 e18 d_Mo_makes_137 ?_
      refine j_iload d_Mo_makes_140 rfl ?_
      obtain ⟨t19, H⟩ := H
      obtain ⟨n21, x20, H⟩ := H
      refine j_iald (n := n21) t19 x20 d_Mo_makes_142 ?_
      refine j_iadd d_Mo_makes_143 ?_
      refine j_istore (L' := [some (.ref a0), some (.int p1), some (.int p2), some (.int p3), some (.int ((gA G b2 n6))), some (.int ((gA G b7 n11))), some (.int ((p6 + (gA G b12 n16)))), some (.int ((p7 + (gA G b17 n21)))), some (.int ((1 : Int32))), some (.int p9), none]) d_Mo_makes_144 (by decide) rfl ?_
      refine j_aload_n d_Mo_makes_146 rfl ?_
      refine j_iload d_Mo_makes_147 rfl ?_
      refine j_forget (L' := [some (.ref a0), some (.int p1), some (.int p2), some (.int p3), some (.int ((gA G b2 n6))), some (.int ((gA G b7 n11))), some (.int ((p6 + (gA G b12 n16)))), some (.int ((p7 + (gA G b17 n21)))), some (.int ((1 : Int32))), none, none]) ⟨Or.inr rfl, Or.inr rfl, Or.inr rfl, Or.inr rfl, Or.inr rfl, Or.inr rfl, Or.inr rfl, Or.inr rfl, Or.inr rfl, Or.inl rfl, Or.inl rfl, trivial⟩ ?_
      exact j_callV (d' := 1) (ci := 10) (As := [.int p9]) (rest := []) (b := a0) cv_Mo_204 me_Mo_drops rfl (by decide) rfl rfl t1 rfl rfl (Nat.le_of_ble_eq_true rfl) d_Mo_makes_149 (by decide) rfl H
    · have H := Hb c33
      refine j_iload_n d_Mo_greater_5 rfl ?_
      refine j_goto (tgt := 10) d_Mo_greater_6 (by decide) ?_
      refine j_iret rfl d_Mo_greater_10 ?_
      show J E 2 m_Mo_makes 120 [some (.ref a0), some (.int p1), some (.int p2), some (.int p3), some (.int ((gA G b2 n6))), some (.int p5), some (.int p6), some (.int p7), some (.int ((1 : Int32))), some (.int p9), none] [.int p5] G Post
      refine j_istore (L' := [some (.ref a0), some (.int p1), some (.int p2), some (.int p3), some (.int ((gA G b2 n6))), some (.int p5), some (.int p6), some (.int p7), some (.int ((1 : Int32))), some (.int p9), none]) d_Mo_makes_120 (by decide) rfl ?_
      refine j_iload d_Mo_makes_122 rfl ?_
      refine j_aload_n d_Mo_makes_124 rfl ?_
      obtain ⟨b22, e23, H⟩ := H
      refine j_getR (f := 666) (b := b22) fe_Mo_76 rfl rfl t1 e23 d_Mo_makes_125 ?_
      refine j_iload d_Mo_makes_128 rfl ?_
      obtain ⟨t24, H⟩ := H
      obtain ⟨n26, x25, H⟩ := H
      refine j_iald (n := n26) t24 x25 d_Mo_makes_130 ?_
      refine j_iadd d_Mo_makes_131 ?_
      refine j_istore (L' := [some (.ref a0), some (.int p1), some (.int p2), some (.int p3), some (.int ((gA G b2 n6))), some (.int p5), some (.int ((p6 + (gA G b22 n26)))), some (.int p7), some (.int ((1 : Int32))), some (.int p9), none]) d_Mo_makes_132 (by decide) rfl ?_
      refine j_iload d_Mo_makes_134 rfl ?_
      refine j_aload_n d_Mo_makes_136 rfl ?_
      obtain ⟨b27, e28, H⟩ := H
      refine j_getR (f := 667) (b := b27) fe_Mo_79 rfl rfl t1 e28 d_Mo_makes_137 ?_
      refine j_iload d_Mo_makes_140 rfl ?_
      obtain ⟨t29, H⟩ := H
      obtain ⟨n31, x30, H⟩ := H
      refine j_iald (n := n31) t29 x30 d_Mo_makes_142 ?_
      refine j_iadd d_Mo_makes_143 ?_
      refine j_istore (L' := [some (.ref a0), some (.int p1), some (.int p2), some (.int p3), some (.int ((gA G b2 n6))), some (.int p5), some (.int ((p6 + (gA G b22 n26)))), some (.int ((p7 + (gA G b27 n31)))), some (.int ((1 : Int32))), some (.int p9), none]) d_Mo_makes_144 (by decide) rfl ?_
      refine j_aload_n d_Mo_makes_146 rfl ?_
      refine j_iload d_Mo_makes_147 rfl ?_
      refine j_forget (L' := [some (.ref a0), some (.int p1), some (.int p2), some (.int p3), some (.int ((gA G b2 n6))), some (.int p5), some (.int ((p6 + (gA G b22 n26)))), some (.int ((p7 + (gA G b27 n31)))), some (.int ((1 : Int32))), none, none]) ⟨Or.inr rfl, Or.inr rfl, Or.inr rfl, Or.inr rfl, Or.inr rfl, Or.inr rfl, Or.inr rfl, Or.inr rfl, Or.inr rfl, Or.inl rfl, Or.inl rfl, trivial⟩ ?_
      exact j_callV (d' := 1) (ci := 10) (As := [.int p9]) (rest := []) (b := a0) cv_Mo_204 me_Mo_drops rfl (by decide) rfl rfl t1 rfl rfl (Nat.le_of_ble_eq_true rfl) d_Mo_makes_149 (by decide) rfl H
  · have H := Hb c62
    refine j_iload_n d_Mo_lesser_5 rfl ?_
    refine j_goto (tgt := 10) d_Mo_lesser_6 (by decide) ?_
    refine j_iret rfl d_Mo_lesser_10 ?_
    show J E 2 m_Mo_makes 106 [some (.ref a0), some (.int p1), some (.int p2), some (.int p3), some (.int p4), some (.int p5), some (.int p6), some (.int p7), some (.int ((1 : Int32))), some (.int p9), none] [.int p4] G Post
    refine j_istore (L' := [some (.ref a0), some (.int p1), some (.int p2), some (.int p3), some (.int p4), some (.int p5), some (.int p6), some (.int p7), some (.int ((1 : Int32))), some (.int p9), none]) d_Mo_makes_106 (by decide) rfl ?_
    refine j_iload d_Mo_makes_108 rfl ?_
    refine j_aload_n d_Mo_makes_110 rfl ?_
    obtain ⟨b34, e35, H⟩ := H
    refine j_getR (f := 665) (b := b34) fe_Mo_73 rfl rfl t1 e35 d_Mo_makes_111 ?_
    refine j_iload d_Mo_makes_114 rfl ?_
    obtain ⟨t36, H⟩ := H
    obtain ⟨n38, x37, H⟩ := H
    refine j_iald (n := n38) t36 x37 d_Mo_makes_116 ?_
    refine j_callS (d' := 1) (As := [.int p5, .int ((gA G b34 n38))]) (rest := []) cs_Mo_165 me_Mo_greater rfl (by decide) rfl rfl (Nat.le_of_ble_eq_true rfl) d_Mo_makes_117 (by decide) rfl (j_enter (L := [some (.int p5), some (.int ((gA G b34 n38)))]) me_Mo_greater (cat_c rfl (cat_c rfl cat_n)) (Nat.le_of_ble_eq_true rfl) rfl ?_)
    refine j_iload_n d_Mo_greater_0 rfl ?_
    refine j_iload_n d_Mo_greater_1 rfl ?_
    obtain ⟨Ha, Hb⟩ := H
    refine j_icmp_le (tgt := 9) d_Mo_greater_2 (by decide) (fun c59 => ?_) (fun c60 => ?_)
    · have H := Ha c59
      refine j_iload_n d_Mo_greater_9 rfl ?_
      refine j_iret rfl d_Mo_greater_10 ?_
      show J E 2 m_Mo_makes 120 [some (.ref a0), some (.int p1), some (.int p2), some (.int p3), some (.int p4), some (.int p5), some (.int p6), some (.int p7), some (.int ((1 : Int32))), some (.int p9), none] [.int ((gA G b34 n38))] G Post
      refine j_istore (L' := [some (.ref a0), some (.int p1), some (.int p2), some (.int p3), some (.int p4), some (.int ((gA G b34 n38))), some (.int p6), some (.int p7), some (.int ((1 : Int32))), some (.int p9), none]) d_Mo_makes_120 (by decide) rfl ?_
      refine j_iload d_Mo_makes_122 rfl ?_
      refine j_aload_n d_Mo_makes_124 rfl ?_
      obtain ⟨b39, e40, H⟩ := H
      refine j_getR (f := 666) (b := b39) fe_Mo_76 rfl rfl t1 e40 d_Mo_makes_125 ?_
      refine j_iload d_Mo_makes_128 rfl ?_
      obtain ⟨t41, H⟩ := H
      obtain ⟨n43, x42, H⟩ := H
      refine j_iald (n := n43) t41 x42 d_Mo_makes_130 ?_
      refine j_iadd d_Mo_makes_131 ?_
      refine j_istore (L' := [some (.ref a0), some (.int p1), some (.int p2), some (.int p3), some (.int p4), some (.int ((gA G b34 n38))), some (.int ((p6 + (gA G b39 n43)))), some (.int p7), some (.int ((1 : Int32))), some (.int p9), none]) d_Mo_makes_132 (by decide) rfl ?_
      refine j_iload d_Mo_makes_134 rfl ?_
      refine j_aload_n d_Mo_makes_136 rfl ?_
      obtain ⟨b44, e45, H⟩ := H
      refine j_getR (f := 667) (b := b44) fe_Mo_79 rfl rfl t1 e45 d_Mo_makes_137 ?_
      refine j_iload d_Mo_makes_140 rfl ?_
      obtain ⟨t46, H⟩ := H
      obtain ⟨n48, x47, H⟩ := H
      refine j_iald (n := n48) t46 x47 d_Mo_makes_142 ?_
      refine j_iadd d_Mo_makes_143 ?_
      refine j_istore (L' := [some (.ref a0), some (.int p1), some (.int p2), some (.int p3), some (.int p4), some (.int ((gA G b34 n38))), some (.int ((p6 + (gA G b39 n43)))), some (.int ((p7 + (gA G b44 n48)))), some (.int ((1 : Int32))), some (.int p9), none]) d_Mo_makes_144 (by decide) rfl ?_
      refine j_aload_n d_Mo_makes_146 rfl ?_
      refine j_iload d_Mo_makes_147 rfl ?_
      refine j_forget (L' := [some (.ref a0), some (.int p1), some (.int p2), some (.int p3), some (.int p4), some (.int ((gA G b34 n38))), some (.int ((p6 + (gA G b39 n43)))), some (.int ((p7 + (gA G b44 n48)))), some (.int ((1 : Int32))), none, none]) ⟨Or.inr rfl, Or.inr rfl, Or.inr rfl, Or.inr rfl, Or.inr rfl, Or.inr rfl, Or.inr rfl, Or.inr rfl, Or.inr rfl, Or.inl rfl, Or.inl rfl, trivial⟩ ?_
      exact j_callV (d' := 1) (ci := 10) (As := [.int p9]) (rest := []) (b := a0) cv_Mo_204 me_Mo_drops rfl (by decide) rfl rfl t1 rfl rfl (Nat.le_of_ble_eq_true rfl) d_Mo_makes_149 (by decide) rfl H
    · have H := Hb c60
      refine j_iload_n d_Mo_greater_5 rfl ?_
      refine j_goto (tgt := 10) d_Mo_greater_6 (by decide) ?_
      refine j_iret rfl d_Mo_greater_10 ?_
      show J E 2 m_Mo_makes 120 [some (.ref a0), some (.int p1), some (.int p2), some (.int p3), some (.int p4), some (.int p5), some (.int p6), some (.int p7), some (.int ((1 : Int32))), some (.int p9), none] [.int p5] G Post
      refine j_istore (L' := [some (.ref a0), some (.int p1), some (.int p2), some (.int p3), some (.int p4), some (.int p5), some (.int p6), some (.int p7), some (.int ((1 : Int32))), some (.int p9), none]) d_Mo_makes_120 (by decide) rfl ?_
      refine j_iload d_Mo_makes_122 rfl ?_
      refine j_aload_n d_Mo_makes_124 rfl ?_
      obtain ⟨b49, e50, H⟩ := H
      refine j_getR (f := 666) (b := b49) fe_Mo_76 rfl rfl t1 e50 d_Mo_makes_125 ?_
      refine j_iload d_Mo_makes_128 rfl ?_
      obtain ⟨t51, H⟩ := H
      obtain ⟨n53, x52, H⟩ := H
      refine j_iald (n := n53) t51 x52 d_Mo_makes_130 ?_
      refine j_iadd d_Mo_makes_131 ?_
      refine j_istore (L' := [some (.ref a0), some (.int p1), some (.int p2), some (.int p3), some (.int p4), some (.int p5), some (.int ((p6 + (gA G b49 n53)))), some (.int p7), some (.int ((1 : Int32))), some (.int p9), none]) d_Mo_makes_132 (by decide) rfl ?_
      refine j_iload d_Mo_makes_134 rfl ?_
      refine j_aload_n d_Mo_makes_136 rfl ?_
      obtain ⟨b54, e55, H⟩ := H
      refine j_getR (f := 667) (b := b54) fe_Mo_79 rfl rfl t1 e55 d_Mo_makes_137 ?_
      refine j_iload d_Mo_makes_140 rfl ?_
      obtain ⟨t56, H⟩ := H
      obtain ⟨n58, x57, H⟩ := H
      refine j_iald (n := n58) t56 x57 d_Mo_makes_142 ?_
      refine j_iadd d_Mo_makes_143 ?_
      refine j_istore (L' := [some (.ref a0), some (.int p1), some (.int p2), some (.int p3), some (.int p4), some (.int p5), some (.int ((p6 + (gA G b49 n53)))), some (.int ((p7 + (gA G b54 n58)))), some (.int ((1 : Int32))), some (.int p9), none]) d_Mo_makes_144 (by decide) rfl ?_
      refine j_aload_n d_Mo_makes_146 rfl ?_
      refine j_iload d_Mo_makes_147 rfl ?_
      refine j_forget (L' := [some (.ref a0), some (.int p1), some (.int p2), some (.int p3), some (.int p4), some (.int p5), some (.int ((p6 + (gA G b49 n53)))), some (.int ((p7 + (gA G b54 n58)))), some (.int ((1 : Int32))), none, none]) ⟨Or.inr rfl, Or.inr rfl, Or.inr rfl, Or.inr rfl, Or.inr rfl, Or.inr rfl, Or.inr rfl, Or.inr rfl, Or.inr rfl, Or.inl rfl, Or.inl rfl, trivial⟩ ?_
      exact j_callV (d' := 1) (ci := 10) (As := [.int p9]) (rest := []) (b := a0) cv_Mo_204 me_Mo_drops rfl (by decide) rfl rfl t1 rfl rfl (Nat.le_of_ble_eq_true rfl) d_Mo_makes_149 (by decide) rfl H
theorem wp_Mo_makes_231 {E : EV} {G : GH} {Post : Res → GH → Prop} (a0 : Nat) (p10 : Int32) (H : gT G a0 = 11 ∧ ∃ b2, gR G 668 a0 = some b2 ∧ gT G b2 = 21 ∧ ∃ n6, IX p10 n6 (gN G b2) ∧ Post (.inl (some (.int ((1 : Int32))))) (sA G b2 n6 ((1 : Int32)))) : J E 2 m_Mo_makes 231 [some (.ref a0), none, none, none, none, none, none, none, none, none, some (.int p10)] [] G Post := by
  refine j_aload_n d_Mo_makes_231 rfl ?_
  obtain ⟨t1, H⟩ := H
  obtain ⟨b2, e3, H⟩ := H
  refine j_getR (f := 668) (b := b2) fe_Mo_82 rfl rfl t1 e3 d_Mo_makes_232 ?_
  refine j_iload d_Mo_makes_235 rfl ?_
  refine j_iconst (v := 1) d_Mo_makes_237 (by decide) ?_
  obtain ⟨t4, H⟩ := H
  obtain ⟨n6, x5, H⟩ := H
  refine j_zast (n := n6) t4 x5 (by decide) d_Mo_makes_238 ?_
  refine j_iconst (v := 1) d_Mo_makes_239 (by decide) ?_
  exact j_iret rfl d_Mo_makes_240 H
theorem wp_Mo_makes_164 {E : EV} {G : GH} {Post : Res → GH → Prop} (a0 : Nat) (p1 : Int32) (p2 : Int32) (p3 : Int32) (p4 : Int32) (p5 : Int32) (p6 : Int32) (p7 : Int32) (p8 : Int32) (s0 : Int32) (H : J E 2 m_Mo_makes 68 [some (.ref a0), some (.int p1), some (.int p2), some (.int p3), some (.int p4), some (.int p5), some (.int p6), some (.int p7), some (.int p8), some (.int s0), none] [] G Post) : J E 2 m_Mo_makes 164 [some (.ref a0), some (.int p1), some (.int p2), some (.int p3), some (.int p4), some (.int p5), some (.int p6), some (.int p7), some (.int p8), none, none] [.int s0] G Post := by
  refine j_istore (L' := [some (.ref a0), some (.int p1), some (.int p2), some (.int p3), some (.int p4), some (.int p5), some (.int p6), some (.int p7), some (.int p8), some (.int s0), none]) d_Mo_makes_164 (by decide) rfl ?_
  refine j_goto (tgt := 68) d_Mo_makes_166 (by decide) ?_
  exact H
theorem wp_Mo_takes_0 {E : EV} {G : GH} {Post : Res → GH → Prop} (a0 : Nat) (p1 : Int32) (H : gT G a0 = 11 ∧ ∃ b2, gR G 654 a0 = some b2 ∧ (gT G b2 = 20 ∨ gT G b2 = 25) ∧ ∃ n6, IX p1 n6 (gN G b2) ∧ ∃ b7, gR G 649 a0 = some b7 ∧ (gT G b7 = 20 ∨ gT G b7 = 25) ∧ ∃ n11, IX ((((40 : Int32) * p1) + (gA G b2 n6))) n11 (gN G b7) ∧ ((gI G 658 a0) ≤ (gA G b7 n11) → gT G b2 = 20 ∧ (¬ (gI G 641 a0) = (2 : Int32) → Cl E 2 m_Mo_comes [.ref a0, .int ((((40 : Int32) * p1) + (gA G b2 n6)))] (sA G b2 n6 (((gA G b2 n6) + (1 : Int32)))) (aft E 4 m_Mo_takes 59 [some (.ref a0), some (.int p1), some (.int ((((40 : Int32) * p1) + (gA G b2 n6)))), some (.int ((0 : Int32))), none] [] Post)) ∧ ((gI G 641 a0) = (2 : Int32) → Cl E 2 m_Mo_makes [.ref a0, .int ((((40 : Int32) * p1) + (gA G b2 n6)))] (sA G b2 n6 (((gA G b2 n6) + (1 : Int32)))) (aft E 4 m_Mo_takes 51 [some (.ref a0), some (.int p1), some (.int ((((40 : Int32) * p1) + (gA G b2 n6)))), some (.int ((0 : Int32))), none] [] Post))) ∧ (¬ (gI G 658 a0) ≤ (gA G b7 n11) → gT G b2 = 20 ∧ (¬ (gI G 641 a0) = (2 : Int32) → Cl E 2 m_Mo_comes [.ref a0, .int ((((40 : Int32) * p1) + (gA G b2 n6)))] (sA G b2 n6 (((gA G b2 n6) + (1 : Int32)))) (aft E 4 m_Mo_takes 59 [some (.ref a0), some (.int p1), some (.int ((((40 : Int32) * p1) + (gA G b2 n6)))), some (.int ((1 : Int32))), none] [] Post)) ∧ ((gI G 641 a0) = (2 : Int32) → Cl E 2 m_Mo_makes [.ref a0, .int ((((40 : Int32) * p1) + (gA G b2 n6)))] (sA G b2 n6 (((gA G b2 n6) + (1 : Int32)))) (aft E 4 m_Mo_takes 51 [some (.ref a0), some (.int p1), some (.int ((((40 : Int32) * p1) + (gA G b2 n6)))), some (.int ((1 : Int32))), none] [] Post)))) : J E 4 m_Mo_takes 0 [some (.ref a0), some (.int p1), none, none, none] [] G Post := by
  refine j_bipush (v := 40) d_Mo_takes_0 (by decide) ?_
  refine j_iload_n d_Mo_takes_2 rfl ?_
  refine j_imul d_Mo_takes_3 ?_
  refine j_aload_n d_Mo_takes_4 rfl ?_
  obtain ⟨t1, H⟩ := H
  obtain ⟨b2, e3, H⟩ := H
  refine j_getR (f := 654) (b := b2) fe_Mo_45 rfl rfl t1 e3 d_Mo_takes_5 ?_
  refine j_iload_n d_Mo_takes_8 rfl ?_
  obtain ⟨t4, H⟩ := H
  obtain ⟨n6, x5, H⟩ := H
  refine j_iald (n := n6) t4 x5 d_Mo_takes_9 ?_
  refine j_iadd d_Mo_takes_10 ?_
  refine j_istore_n (L' := [some (.ref a0), some (.int p1), some (.int ((((40 : Int32) * p1) + (gA G b2 n6)))), none, none]) d_Mo_takes_11 (by decide) rfl ?_
  refine j_aload_n d_Mo_takes_12 rfl ?_
  obtain ⟨b7, e8, H⟩ := H
  refine j_getR (f := 649) (b := b7) fe_Mo_29 rfl rfl t1 e8 d_Mo_takes_13 ?_
  refine j_iload_n d_Mo_takes_16 rfl ?_
  obtain ⟨t9, H⟩ := H
  obtain ⟨n11, x10, H⟩ := H
  refine j_iald (n := n11) t9 x10 d_Mo_takes_17 ?_
  refine j_aload_n d_Mo_takes_18 rfl ?_
  refine j_getI (f := 658) fe_Mo_58 rfl rfl t1 d_Mo_takes_19 ?_
  obtain ⟨Ha, Hb⟩ := H
  refine j_icmp_ge (tgt := 29) d_Mo_takes_22 (by decide) (fun c18 => ?_) (fun c19 => ?_)
  · have H := Ha c18
    refine j_iconst (v := 0) d_Mo_takes_29 (by decide) ?_
    refine j_istore_n (L' := [some (.ref a0), some (.int p1), some (.int ((((40 : Int32) * p1) + (gA G b2 n6)))), some (.int ((0 : Int32))), none]) d_Mo_takes_30 (by decide) rfl ?_
    refine j_aload_n d_Mo_takes_31 rfl ?_
    refine j_getR (f := 654) (b := b2) fe_Mo_45 rfl rfl t1 e3 d_Mo_takes_32 ?_
    refine j_iload_n d_Mo_takes_35 rfl ?_
    refine j_dup2 d_Mo_takes_36 rfl rfl ?_
    refine j_iald (n := n6) t4 x5 d_Mo_takes_37 ?_
    refine j_iconst (v := 1) d_Mo_takes_38 (by decide) ?_
    refine j_iadd d_Mo_takes_39 ?_
    obtain ⟨t12, H⟩ := H
    refine j_iast (n := n6) t12 x5 d_Mo_takes_40 ?_
    refine j_aload_n d_Mo_takes_41 rfl ?_
    refine j_getI (f := 641) fe_Mo_9 rfl rfl t1 d_Mo_takes_42 ?_
    refine j_iconst (v := 2) d_Mo_takes_45 (by decide) ?_
    obtain ⟨Ha, Hb⟩ := H
    refine j_icmp_ne (tgt := 57) d_Mo_takes_46 (by decide) (fun c13 => ?_) (fun c14 => ?_)
    · have H := Ha c13
      refine j_aload_n d_Mo_takes_57 rfl ?_
      refine j_iload_n d_Mo_takes_58 rfl ?_
      exact j_callV (d' := 2) (ci := 10) (As := [.int ((((40 : Int32) * p1) + (gA G b2 n6)))]) (rest := []) (b := a0) cv_Mo_211 me_Mo_comes rfl (by decide) rfl rfl t1 rfl rfl (Nat.le_of_ble_eq_true rfl) d_Mo_takes_59 (by decide) rfl H
    · have H := Hb c14
      refine j_aload_n d_Mo_takes_49 rfl ?_
      refine j_iload_n d_Mo_takes_50 rfl ?_
      exact j_callV (d' := 2) (ci := 10) (As := [.int ((((40 : Int32) * p1) + (gA G b2 n6)))]) (rest := []) (b := a0) cv_Mo_208 me_Mo_makes rfl (by decide) rfl rfl t1 rfl rfl (Nat.le_of_ble_eq_true rfl) d_Mo_takes_51 (by decide) rfl H
  · have H := Hb c19
    refine j_iconst (v := 1) d_Mo_takes_25 (by decide) ?_
    refine j_goto (tgt := 30) d_Mo_takes_26 (by decide) ?_
    refine j_istore_n (L' := [some (.ref a0), some (.int p1), some (.int ((((40 : Int32) * p1) + (gA G b2 n6)))), some (.int ((1 : Int32))), none]) d_Mo_takes_30 (by decide) rfl ?_
    refine j_aload_n d_Mo_takes_31 rfl ?_
    refine j_getR (f := 654) (b := b2) fe_Mo_45 rfl rfl t1 e3 d_Mo_takes_32 ?_
    refine j_iload_n d_Mo_takes_35 rfl ?_
    refine j_dup2 d_Mo_takes_36 rfl rfl ?_
    refine j_iald (n := n6) t4 x5 d_Mo_takes_37 ?_
    refine j_iconst (v := 1) d_Mo_takes_38 (by decide) ?_
    refine j_iadd d_Mo_takes_39 ?_
    obtain ⟨t15, H⟩ := H
    refine j_iast (n := n6) t15 x5 d_Mo_takes_40 ?_
    refine j_aload_n d_Mo_takes_41 rfl ?_
    refine j_getI (f := 641) fe_Mo_9 rfl rfl t1 d_Mo_takes_42 ?_
    refine j_iconst (v := 2) d_Mo_takes_45 (by decide) ?_
    obtain ⟨Ha, Hb⟩ := H
    refine j_icmp_ne (tgt := 57) d_Mo_takes_46 (by decide) (fun c16 => ?_) (fun c17 => ?_)
    · have H := Ha c16
      refine j_aload_n d_Mo_takes_57 rfl ?_
      refine j_iload_n d_Mo_takes_58 rfl ?_
      exact j_callV (d' := 2) (ci := 10) (As := [.int ((((40 : Int32) * p1) + (gA G b2 n6)))]) (rest := []) (b := a0) cv_Mo_211 me_Mo_comes rfl (by decide) rfl rfl t1 rfl rfl (Nat.le_of_ble_eq_true rfl) d_Mo_takes_59 (by decide) rfl H
    · have H := Hb c17
      refine j_aload_n d_Mo_takes_49 rfl ?_
      refine j_iload_n d_Mo_takes_50 rfl ?_
      exact j_callV (d' := 2) (ci := 10) (As := [.int ((((40 : Int32) * p1) + (gA G b2 n6)))]) (rest := []) (b := a0) cv_Mo_208 me_Mo_makes rfl (by decide) rfl rfl t1 rfl rfl (Nat.le_of_ble_eq_true rfl) d_Mo_takes_51 (by decide) rfl H
theorem wp_Mo_takes_62 {E : EV} {G : GH} {Post : Res → GH → Prop} (a0 : Nat) (p1 : Int32) (p2 : Int32) (p3 : Int32) (s0 : Int32) (H : gT G a0 = 11 ∧ (¬ s0 = 0 → (¬ p3 = 0 → ∃ b2, gR G 657 a0 = some b2 ∧ (gT G b2 = 20 ∨ gT G b2 = 25) ∧ ∃ n6, IX p1 n6 (gN G b2) ∧ ∃ b7, gR G 649 a0 = some b7 ∧ (gT G b7 = 20 ∨ gT G b7 = 25) ∧ ∃ n11, IX p2 n11 (gN G b7) ∧ ((gA (sI G 659 a0 (((gI G 659 a0) + (0 : Int32)))) b2 n6) ≤ (gA (sI G 659 a0 (((gI G 659 a0) + (0 : Int32)))) b7 n11) → gT G b2 = 20 ∧ ∀ G13, G13 = sA (sI G 659 a0 (((gI G 659 a0) + (0 : Int32)))) b2 n6 ((gA (sI G 659 a0 (((gI G 659 a0) + (0 : Int32)))) b7 n11)) → Cl E 3 m_Mo_grows [.ref a0] G13 (aft E 4 m_Mo_takes 134 [none, none, none, some (.int p3), some (.int s0)] [] Post)) ∧ (¬ (gA (sI G 659 a0 (((gI G 659 a0) + (0 : Int32)))) b2 n6) ≤ (gA (sI G 659 a0 (((gI G 659 a0) + (0 : Int32)))) b7 n11) → gT G b2 = 20 ∧ ∀ G16, G16 = sA (sI G 659 a0 (((gI G 659 a0) + (0 : Int32)))) b2 n6 ((gA (sI G 659 a0 (((gI G 659 a0) + (0 : Int32)))) b2 n6)) → Cl E 3 m_Mo_grows [.ref a0] G16 (aft E 4 m_Mo_takes 134 [none, none, none, some (.int p3), some (.int s0)] [] Post))) ∧ (p3 = 0 → ((2 : Int32) ≤ p1 → ∃ b20, gR G 657 a0 = some b20 ∧ (gT G b20 = 20 ∨ gT G b20 = 25) ∧ ∃ n24, IX p1 n24 (gN G b20) ∧ ∃ b25, gR G 649 a0 = some b25 ∧ (gT G b25 = 20 ∨ gT G b25 = 25) ∧ ∃ n29, IX p2 n29 (gN G b25) ∧ ((gA (sI G 659 a0 (((gI G 659 a0) + (0 : Int32)))) b20 n24) ≤ (gA (sI G 659 a0 (((gI G 659 a0) + (0 : Int32)))) b25 n29) → gT G b20 = 20 ∧ ∀ G31, G31 = sA (sI G 659 a0 (((gI G 659 a0) + (0 : Int32)))) b20 n24 ((gA (sI G 659 a0 (((gI G 659 a0) + (0 : Int32)))) b25 n29)) → Cl E 3 m_Mo_grows [.ref a0] G31 (aft E 4 m_Mo_takes 134 [none, none, none, some (.int p3), some (.int s0)] [] Post)) ∧ (¬ (gA (sI G 659 a0 (((gI G 659 a0) + (0 : Int32)))) b20 n24) ≤ (gA (sI G 659 a0 (((gI G 659 a0) + (0 : Int32)))) b25 n29) → gT G b20 = 20 ∧ ∀ G34, G34 = sA (sI G 659 a0 (((gI G 659 a0) + (0 : Int32)))) b20 n24 ((gA (sI G 659 a0 (((gI G 659 a0) + (0 : Int32)))) b20 n24)) → Cl E 3 m_Mo_grows [.ref a0] G34 (aft E 4 m_Mo_takes 134 [none, none, none, some (.int p3), some (.int s0)] [] Post))) ∧ (¬ (2 : Int32) ≤ p1 → ∃ b38, gR G 672 a0 = some b38 ∧ gT G b38 = 20 ∧ ∃ n42, IX ((gI G 673 a0)) n42 (gN G b38) ∧ ∃ b43, gR G 657 a0 = some b43 ∧ (gT G b43 = 20 ∨ gT G b43 = 25) ∧ ∃ n47, IX p1 n47 (gN G b43) ∧ ∃ b48, gR G 649 a0 = some b48 ∧ (gT G b48 = 20 ∨ gT G b48 = 25) ∧ ∃ n52, IX p2 n52 (gN G b48) ∧ ((gA (sI (sA (sI G 659 a0 (((gI G 659 a0) + (0 : Int32)))) b38 n42 p2) 673 a0 (((gI G 673 a0) + (1 : Int32)))) b43 n47) ≤ (gA (sI (sA (sI G 659 a0 (((gI G 659 a0) + (0 : Int32)))) b38 n42 p2) 673 a0 (((gI G 673 a0) + (1 : Int32)))) b48 n52) → gT G b43 = 20 ∧ ∀ G54, G54 = sA (sI (sA (sI G 659 a0 (((gI G 659 a0) + (0 : Int32)))) b38 n42 p2) 673 a0 (((gI G 673 a0) + (1 : Int32)))) b43 n47 ((gA (sI (sA (sI G 659 a0 (((gI G 659 a0) + (0 : Int32)))) b38 n42 p2) 673 a0 (((gI G 673 a0) + (1 : Int32)))) b48 n52)) → Cl E 3 m_Mo_grows [.ref a0] G54 (aft E 4 m_Mo_takes 134 [none, none, none, some (.int p3), some (.int s0)] [] Post)) ∧ (¬ (gA (sI (sA (sI G 659 a0 (((gI G 659 a0) + (0 : Int32)))) b38 n42 p2) 673 a0 (((gI G 673 a0) + (1 : Int32)))) b43 n47) ≤ (gA (sI (sA (sI G 659 a0 (((gI G 659 a0) + (0 : Int32)))) b38 n42 p2) 673 a0 (((gI G 673 a0) + (1 : Int32)))) b48 n52) → gT G b43 = 20 ∧ ∀ G57, G57 = sA (sI (sA (sI G 659 a0 (((gI G 659 a0) + (0 : Int32)))) b38 n42 p2) 673 a0 (((gI G 673 a0) + (1 : Int32)))) b43 n47 ((gA (sI (sA (sI G 659 a0 (((gI G 659 a0) + (0 : Int32)))) b38 n42 p2) 673 a0 (((gI G 673 a0) + (1 : Int32)))) b43 n47)) → Cl E 3 m_Mo_grows [.ref a0] G57 (aft E 4 m_Mo_takes 134 [none, none, none, some (.int p3), some (.int s0)] [] Post))))) ∧ (s0 = 0 → (¬ p3 = 0 → ∃ b65, gR G 657 a0 = some b65 ∧ (gT G b65 = 20 ∨ gT G b65 = 25) ∧ ∃ n69, IX p1 n69 (gN G b65) ∧ ∃ b70, gR G 649 a0 = some b70 ∧ (gT G b70 = 20 ∨ gT G b70 = 25) ∧ ∃ n74, IX p2 n74 (gN G b70) ∧ ((gA (sI G 659 a0 (((gI G 659 a0) + (1 : Int32)))) b65 n69) ≤ (gA (sI G 659 a0 (((gI G 659 a0) + (1 : Int32)))) b70 n74) → gT G b65 = 20 ∧ ∀ G76, G76 = sA (sI G 659 a0 (((gI G 659 a0) + (1 : Int32)))) b65 n69 ((gA (sI G 659 a0 (((gI G 659 a0) + (1 : Int32)))) b70 n74)) → Cl E 3 m_Mo_grows [.ref a0] G76 (aft E 4 m_Mo_takes 134 [none, none, none, some (.int p3), some (.int s0)] [] Post)) ∧ (¬ (gA (sI G 659 a0 (((gI G 659 a0) + (1 : Int32)))) b65 n69) ≤ (gA (sI G 659 a0 (((gI G 659 a0) + (1 : Int32)))) b70 n74) → gT G b65 = 20 ∧ ∀ G79, G79 = sA (sI G 659 a0 (((gI G 659 a0) + (1 : Int32)))) b65 n69 ((gA (sI G 659 a0 (((gI G 659 a0) + (1 : Int32)))) b65 n69)) → Cl E 3 m_Mo_grows [.ref a0] G79 (aft E 4 m_Mo_takes 134 [none, none, none, some (.int p3), some (.int s0)] [] Post))) ∧ (p3 = 0 → ((2 : Int32) ≤ p1 → ∃ b83, gR G 657 a0 = some b83 ∧ (gT G b83 = 20 ∨ gT G b83 = 25) ∧ ∃ n87, IX p1 n87 (gN G b83) ∧ ∃ b88, gR G 649 a0 = some b88 ∧ (gT G b88 = 20 ∨ gT G b88 = 25) ∧ ∃ n92, IX p2 n92 (gN G b88) ∧ ((gA (sI G 659 a0 (((gI G 659 a0) + (1 : Int32)))) b83 n87) ≤ (gA (sI G 659 a0 (((gI G 659 a0) + (1 : Int32)))) b88 n92) → gT G b83 = 20 ∧ ∀ G94, G94 = sA (sI G 659 a0 (((gI G 659 a0) + (1 : Int32)))) b83 n87 ((gA (sI G 659 a0 (((gI G 659 a0) + (1 : Int32)))) b88 n92)) → Cl E 3 m_Mo_grows [.ref a0] G94 (aft E 4 m_Mo_takes 134 [none, none, none, some (.int p3), some (.int s0)] [] Post)) ∧ (¬ (gA (sI G 659 a0 (((gI G 659 a0) + (1 : Int32)))) b83 n87) ≤ (gA (sI G 659 a0 (((gI G 659 a0) + (1 : Int32)))) b88 n92) → gT G b83 = 20 ∧ ∀ G97, G97 = sA (sI G 659 a0 (((gI G 659 a0) + (1 : Int32)))) b83 n87 ((gA (sI G 659 a0 (((gI G 659 a0) + (1 : Int32)))) b83 n87)) → Cl E 3 m_Mo_grows [.ref a0] G97 (aft E 4 m_Mo_takes 134 [none, none, none, some (.int p3), some (.int s0)] [] Post))) ∧ (¬ (2 : Int32) ≤ p1 → ∃ b101, gR G 672 a0 = some b101 ∧ gT G b101 = 20 ∧ ∃ n105, IX ((gI G 673 a0)) n105 (gN G b101) ∧ ∃ b106, gR G 657 a0 = some b106 ∧ (gT G b106 = 20 ∨ gT G b106 = 25) ∧ ∃ n110, IX p1 n110 (gN G b106) ∧ ∃ b111, gR G 649 a0 = some b111 ∧ (gT G b111 = 20 ∨ gT G b111 = 25) ∧ ∃ n115, IX p2 n115 (gN G b111) ∧ ((gA (sI (sA (sI G 659 a0 (((gI G 659 a0) + (1 : Int32)))) b101 n105 p2) 673 a0 (((gI G 673 a0) + (1 : Int32)))) b106 n110) ≤ (gA (sI (sA (sI G 659 a0 (((gI G 659 a0) + (1 : Int32)))) b101 n105 p2) 673 a0 (((gI G 673 a0) + (1 : Int32)))) b111 n115) → gT G b106 = 20 ∧ ∀ G117, G117 = sA (sI (sA (sI G 659 a0 (((gI G 659 a0) + (1 : Int32)))) b101 n105 p2) 673 a0 (((gI G 673 a0) + (1 : Int32)))) b106 n110 ((gA (sI (sA (sI G 659 a0 (((gI G 659 a0) + (1 : Int32)))) b101 n105 p2) 673 a0 (((gI G 673 a0) + (1 : Int32)))) b111 n115)) → Cl E 3 m_Mo_grows [.ref a0] G117 (aft E 4 m_Mo_takes 134 [none, none, none, some (.int p3), some (.int s0)] [] Post)) ∧ (¬ (gA (sI (sA (sI G 659 a0 (((gI G 659 a0) + (1 : Int32)))) b101 n105 p2) 673 a0 (((gI G 673 a0) + (1 : Int32)))) b106 n110) ≤ (gA (sI (sA (sI G 659 a0 (((gI G 659 a0) + (1 : Int32)))) b101 n105 p2) 673 a0 (((gI G 673 a0) + (1 : Int32)))) b111 n115) → gT G b106 = 20 ∧ ∀ G120, G120 = sA (sI (sA (sI G 659 a0 (((gI G 659 a0) + (1 : Int32)))) b101 n105 p2) 673 a0 (((gI G 673 a0) + (1 : Int32)))) b106 n110 ((gA (sI (sA (sI G 659 a0 (((gI G 659 a0) + (1 : Int32)))) b101 n105 p2) 673 a0 (((gI G 673 a0) + (1 : Int32)))) b106 n110)) → Cl E 3 m_Mo_grows [.ref a0] G120 (aft E 4 m_Mo_takes 134 [none, none, none, some (.int p3), some (.int s0)] [] Post)))))) : J E 4 m_Mo_takes 62 [some (.ref a0), some (.int p1), some (.int p2), some (.int p3), none] [.int s0] G Post := by
  refine j_istore (L' := [some (.ref a0), some (.int p1), some (.int p2), some (.int p3), some (.int s0)]) d_Mo_takes_62 (by decide) rfl ?_
  refine j_aload_n d_Mo_takes_64 rfl ?_
  refine j_dup d_Mo_takes_65 rfl ?_
  obtain ⟨t1, H⟩ := H
  refine j_getI (f := 659) fe_Mo_214 rfl rfl t1 d_Mo_takes_66 ?_
  refine j_iload d_Mo_takes_69 rfl ?_
  obtain ⟨Ha, Hb⟩ := H
  refine j_if_ne (tgt := 78) d_Mo_takes_71 (by decide) (fun c128 => ?_) (fun c129 => ?_)
  · have H := Ha c128
    refine j_iconst (v := 0) d_Mo_takes_78 (by decide) ?_
    refine j_iadd d_Mo_takes_79 ?_
    refine j_putI (f := 659) fw_Mo_214 rfl rfl t1 d_Mo_takes_80 ?_
    refine j_iload_n d_Mo_takes_83 rfl ?_
    obtain ⟨Ha, Hb⟩ := H
    refine j_if_ne (tgt := 112) d_Mo_takes_84 (by decide) (fun c63 => ?_) (fun c64 => ?_)
    · have H := Ha c63
      refine j_aload_n d_Mo_takes_112 rfl ?_
      obtain ⟨b2, e3, H⟩ := H
      refine j_getR (f := 657) (b := b2) fe_Mo_55 rfl rfl t1 e3 d_Mo_takes_113 ?_
      refine j_iload_n d_Mo_takes_116 rfl ?_
      refine j_aload_n d_Mo_takes_117 rfl ?_
      refine j_getR (f := 657) (b := b2) fe_Mo_55 rfl rfl t1 e3 d_Mo_takes_118 ?_
      refine j_iload_n d_Mo_takes_121 rfl ?_
      obtain ⟨t4, H⟩ := H
      obtain ⟨n6, x5, H⟩ := H
      refine j_iald (n := n6) t4 x5 d_Mo_takes_122 ?_
      refine j_aload_n d_Mo_takes_123 rfl ?_
      obtain ⟨b7, e8, H⟩ := H
      refine j_getR (f := 649) (b := b7) fe_Mo_29 rfl rfl t1 e8 d_Mo_takes_124 ?_
      refine j_iload_n d_Mo_takes_127 rfl ?_
      obtain ⟨t9, H⟩ := H
      obtain ⟨n11, x10, H⟩ := H
      refine j_iald (n := n11) t9 x10 d_Mo_takes_128 ?_
      refine j_callS (d' := 1) (As := [.int ((gA (sI G 659 a0 (((gI G 659 a0) + (0 : Int32)))) b2 n6)), .int ((gA (sI G 659 a0 (((gI G 659 a0) + (0 : Int32)))) b7 n11))]) (rest := [.int p1, .ref b2]) cs_Mo_165 me_Mo_greater rfl (by decide) rfl rfl (Nat.le_of_ble_eq_true rfl) d_Mo_takes_129 (by decide) rfl (j_enter (L := [some (.int ((gA (sI G 659 a0 (((gI G 659 a0) + (0 : Int32)))) b2 n6))), some (.int ((gA (sI G 659 a0 (((gI G 659 a0) + (0 : Int32)))) b7 n11)))]) me_Mo_greater (cat_c rfl (cat_c rfl cat_n)) (Nat.le_of_ble_eq_true rfl) rfl ?_)
      refine j_iload_n d_Mo_greater_0 rfl ?_
      refine j_iload_n d_Mo_greater_1 rfl ?_
      obtain ⟨Ha, Hb⟩ := H
      refine j_icmp_le (tgt := 9) d_Mo_greater_2 (by decide) (fun c18 => ?_) (fun c19 => ?_)
      · have H := Ha c18
        refine j_iload_n d_Mo_greater_9 rfl ?_
        refine j_iret rfl d_Mo_greater_10 ?_
        show J E 4 m_Mo_takes 132 [some (.ref a0), some (.int p1), some (.int p2), some (.int p3), some (.int s0)] [.int ((gA (sI G 659 a0 (((gI G 659 a0) + (0 : Int32)))) b7 n11)), .int p1, .ref b2] (sI G 659 a0 (((gI G 659 a0) + (0 : Int32)))) Post
        obtain ⟨t12, H⟩ := H
        refine j_iast (n := n6) t12 x5 d_Mo_takes_132 ?_
        show J E 4 m_Mo_takes 133 [some (.ref a0), some (.int p1), some (.int p2), some (.int p3), some (.int s0)] [] (sA (sI G 659 a0 (((gI G 659 a0) + (0 : Int32)))) b2 n6 ((gA (sI G 659 a0 (((gI G 659 a0) + (0 : Int32)))) b7 n11))) Post
        generalize e14 : sA (sI G 659 a0 (((gI G 659 a0) + (0 : Int32)))) b2 n6 ((gA (sI G 659 a0 (((gI G 659 a0) + (0 : Int32)))) b7 n11)) = G13
        have e14 := e14.symm
        have H := H G13 e14
        refine j_aload_n d_Mo_takes_133 rfl ?_
        refine j_forget (L' := [none, none, none, some (.int p3), some (.int s0)]) ⟨Or.inl rfl, Or.inl rfl, Or.inl rfl, Or.inr rfl, Or.inr rfl, trivial⟩ ?_
        exact j_callV (d' := 3) (ci := 10) (As := []) (rest := []) (b := a0) cv_Mo_162 me_Mo_grows rfl (by decide) rfl rfl (by rw [e14]; exact t1) rfl rfl (Nat.le_of_ble_eq_true rfl) d_Mo_takes_134 (by decide) rfl H
      · have H := Hb c19
        refine j_iload_n d_Mo_greater_5 rfl ?_
        refine j_goto (tgt := 10) d_Mo_greater_6 (by decide) ?_
        refine j_iret rfl d_Mo_greater_10 ?_
        show J E 4 m_Mo_takes 132 [some (.ref a0), some (.int p1), some (.int p2), some (.int p3), some (.int s0)] [.int ((gA (sI G 659 a0 (((gI G 659 a0) + (0 : Int32)))) b2 n6)), .int p1, .ref b2] (sI G 659 a0 (((gI G 659 a0) + (0 : Int32)))) Post
        obtain ⟨t15, H⟩ := H
        refine j_iast (n := n6) t15 x5 d_Mo_takes_132 ?_
        show J E 4 m_Mo_takes 133 [some (.ref a0), some (.int p1), some (.int p2), some (.int p3), some (.int s0)] [] (sA (sI G 659 a0 (((gI G 659 a0) + (0 : Int32)))) b2 n6 ((gA (sI G 659 a0 (((gI G 659 a0) + (0 : Int32)))) b2 n6))) Post
        generalize e17 : sA (sI G 659 a0 (((gI G 659 a0) + (0 : Int32)))) b2 n6 ((gA (sI G 659 a0 (((gI G 659 a0) + (0 : Int32)))) b2 n6)) = G16
        have e17 := e17.symm
        have H := H G16 e17
        refine j_aload_n d_Mo_takes_133 rfl ?_
        refine j_forget (L' := [none, none, none, some (.int p3), some (.int s0)]) ⟨Or.inl rfl, Or.inl rfl, Or.inl rfl, Or.inr rfl, Or.inr rfl, trivial⟩ ?_
        exact j_callV (d' := 3) (ci := 10) (As := []) (rest := []) (b := a0) cv_Mo_162 me_Mo_grows rfl (by decide) rfl rfl (by rw [e17]; exact t1) rfl rfl (Nat.le_of_ble_eq_true rfl) d_Mo_takes_134 (by decide) rfl H
    · have H := Hb c64
      refine j_iload_n d_Mo_takes_87 rfl ?_
      refine j_iconst (v := 2) d_Mo_takes_88 (by decide) ?_
      obtain ⟨Ha, Hb⟩ := H
      refine j_icmp_ge (tgt := 112) d_Mo_takes_89 (by decide) (fun c61 => ?_) (fun c62 => ?_)
      · have H := Ha c61
        refine j_aload_n d_Mo_takes_112 rfl ?_
        obtain ⟨b20, e21, H⟩ := H
        refine j_getR (f := 657) (b := b20) fe_Mo_55 rfl rfl t1 e21 d_Mo_takes_113 ?_
        refine j_iload_n d_Mo_takes_116 rfl ?_
        refine j_aload_n d_Mo_takes_117 rfl ?_
        refine j_getR (f := 657) (b := b20) fe_Mo_55 rfl rfl t1 e21 d_Mo_takes_118 ?_
        refine j_iload_n d_Mo_takes_121 rfl ?_
        obtain ⟨t22, H⟩ := H
        obtain ⟨n24, x23, H⟩ := H
        refine j_iald (n := n24) t22 x23 d_Mo_takes_122 ?_
        refine j_aload_n d_Mo_takes_123 rfl ?_
        obtain ⟨b25, e26, H⟩ := H
        refine j_getR (f := 649) (b := b25) fe_Mo_29 rfl rfl t1 e26 d_Mo_takes_124 ?_
        refine j_iload_n d_Mo_takes_127 rfl ?_
        obtain ⟨t27, H⟩ := H
        obtain ⟨n29, x28, H⟩ := H
        refine j_iald (n := n29) t27 x28 d_Mo_takes_128 ?_
        refine j_callS (d' := 1) (As := [.int ((gA (sI G 659 a0 (((gI G 659 a0) + (0 : Int32)))) b20 n24)), .int ((gA (sI G 659 a0 (((gI G 659 a0) + (0 : Int32)))) b25 n29))]) (rest := [.int p1, .ref b20]) cs_Mo_165 me_Mo_greater rfl (by decide) rfl rfl (Nat.le_of_ble_eq_true rfl) d_Mo_takes_129 (by decide) rfl (j_enter (L := [some (.int ((gA (sI G 659 a0 (((gI G 659 a0) + (0 : Int32)))) b20 n24))), some (.int ((gA (sI G 659 a0 (((gI G 659 a0) + (0 : Int32)))) b25 n29)))]) me_Mo_greater (cat_c rfl (cat_c rfl cat_n)) (Nat.le_of_ble_eq_true rfl) rfl ?_)
        refine j_iload_n d_Mo_greater_0 rfl ?_
        refine j_iload_n d_Mo_greater_1 rfl ?_
        obtain ⟨Ha, Hb⟩ := H
        refine j_icmp_le (tgt := 9) d_Mo_greater_2 (by decide) (fun c36 => ?_) (fun c37 => ?_)
        · have H := Ha c36
          refine j_iload_n d_Mo_greater_9 rfl ?_
          refine j_iret rfl d_Mo_greater_10 ?_
          show J E 4 m_Mo_takes 132 [some (.ref a0), some (.int p1), some (.int p2), some (.int p3), some (.int s0)] [.int ((gA (sI G 659 a0 (((gI G 659 a0) + (0 : Int32)))) b25 n29)), .int p1, .ref b20] (sI G 659 a0 (((gI G 659 a0) + (0 : Int32)))) Post
          obtain ⟨t30, H⟩ := H
          refine j_iast (n := n24) t30 x23 d_Mo_takes_132 ?_
          show J E 4 m_Mo_takes 133 [some (.ref a0), some (.int p1), some (.int p2), some (.int p3), some (.int s0)] [] (sA (sI G 659 a0 (((gI G 659 a0) + (0 : Int32)))) b20 n24 ((gA (sI G 659 a0 (((gI G 659 a0) + (0 : Int32)))) b25 n29))) Post
          generalize e32 : sA (sI G 659 a0 (((gI G 659 a0) + (0 : Int32)))) b20 n24 ((gA (sI G 659 a0 (((gI G 659 a0) + (0 : Int32)))) b25 n29)) = G31
          have e32 := e32.symm
          have H := H G31 e32
          refine j_aload_n d_Mo_takes_133 rfl ?_
          refine j_forget (L' := [none, none, none, some (.int p3), some (.int s0)]) ⟨Or.inl rfl, Or.inl rfl, Or.inl rfl, Or.inr rfl, Or.inr rfl, trivial⟩ ?_
          exact j_callV (d' := 3) (ci := 10) (As := []) (rest := []) (b := a0) cv_Mo_162 me_Mo_grows rfl (by decide) rfl rfl (by rw [e32]; exact t1) rfl rfl (Nat.le_of_ble_eq_true rfl) d_Mo_takes_134 (by decide) rfl H
        · have H := Hb c37
          refine j_iload_n d_Mo_greater_5 rfl ?_
          refine j_goto (tgt := 10) d_Mo_greater_6 (by decide) ?_
          refine j_iret rfl d_Mo_greater_10 ?_
          show J E 4 m_Mo_takes 132 [some (.ref a0), some (.int p1), some (.int p2), some (.int p3), some (.int s0)] [.int ((gA (sI G 659 a0 (((gI G 659 a0) + (0 : Int32)))) b20 n24)), .int p1, .ref b20] (sI G 659 a0 (((gI G 659 a0) + (0 : Int32)))) Post
          obtain ⟨t33, H⟩ := H
          refine j_iast (n := n24) t33 x23 d_Mo_takes_132 ?_
          show J E 4 m_Mo_takes 133 [some (.ref a0), some (.int p1), some (.int p2), some (.int p3), some (.int s0)] [] (sA (sI G 659 a0 (((gI G 659 a0) + (0 : Int32)))) b20 n24 ((gA (sI G 659 a0 (((gI G 659 a0) + (0 : Int32)))) b20 n24))) Post
          generalize e35 : sA (sI G 659 a0 (((gI G 659 a0) + (0 : Int32)))) b20 n24 ((gA (sI G 659 a0 (((gI G 659 a0) + (0 : Int32)))) b20 n24)) = G34
          have e35 := e35.symm
          have H := H G34 e35
          refine j_aload_n d_Mo_takes_133 rfl ?_
          refine j_forget (L' := [none, none, none, some (.int p3), some (.int s0)]) ⟨Or.inl rfl, Or.inl rfl, Or.inl rfl, Or.inr rfl, Or.inr rfl, trivial⟩ ?_
          exact j_callV (d' := 3) (ci := 10) (As := []) (rest := []) (b := a0) cv_Mo_162 me_Mo_grows rfl (by decide) rfl rfl (by rw [e35]; exact t1) rfl rfl (Nat.le_of_ble_eq_true rfl) d_Mo_takes_134 (by decide) rfl H
      · have H := Hb c62
        refine j_aload_n d_Mo_takes_92 rfl ?_
        obtain ⟨b38, e39, H⟩ := H
        refine j_getR (f := 672) (b := b38) fe_Mo_88 rfl rfl t1 e39 d_Mo_takes_93 ?_
        refine j_aload_n d_Mo_takes_96 rfl ?_
        refine j_getI (f := 673) fe_Mo_217 rfl rfl t1 d_Mo_takes_97 ?_
        refine j_iload_n d_Mo_takes_100 rfl ?_
        obtain ⟨t40, H⟩ := H
        obtain ⟨n42, x41, H⟩ := H
        refine j_iast (n := n42) t40 x41 d_Mo_takes_101 ?_
        refine j_aload_n d_Mo_takes_102 rfl ?_
        refine j_dup d_Mo_takes_103 rfl ?_
        refine j_getI (f := 673) fe_Mo_217 rfl rfl t1 d_Mo_takes_104 ?_
        refine j_iconst (v := 1) d_Mo_takes_107 (by decide) ?_
        refine j_iadd d_Mo_takes_108 ?_
        refine j_putI (f := 673) fw_Mo_217 rfl rfl t1 d_Mo_takes_109 ?_
        refine j_aload_n d_Mo_takes_112 rfl ?_
        obtain ⟨b43, e44, H⟩ := H
        refine j_getR (f := 657) (b := b43) fe_Mo_55 rfl rfl t1 e44 d_Mo_takes_113 ?_
        refine j_iload_n d_Mo_takes_116 rfl ?_
        refine j_aload_n d_Mo_takes_117 rfl ?_
        refine j_getR (f := 657) (b := b43) fe_Mo_55 rfl rfl t1 e44 d_Mo_takes_118 ?_
        refine j_iload_n d_Mo_takes_121 rfl ?_
        obtain ⟨t45, H⟩ := H
        obtain ⟨n47, x46, H⟩ := H
        refine j_iald (n := n47) t45 x46 d_Mo_takes_122 ?_
        refine j_aload_n d_Mo_takes_123 rfl ?_
        obtain ⟨b48, e49, H⟩ := H
        refine j_getR (f := 649) (b := b48) fe_Mo_29 rfl rfl t1 e49 d_Mo_takes_124 ?_
        refine j_iload_n d_Mo_takes_127 rfl ?_
        obtain ⟨t50, H⟩ := H
        obtain ⟨n52, x51, H⟩ := H
        refine j_iald (n := n52) t50 x51 d_Mo_takes_128 ?_
        refine j_callS (d' := 1) (As := [.int ((gA (sI (sA (sI G 659 a0 (((gI G 659 a0) + (0 : Int32)))) b38 n42 p2) 673 a0 (((gI G 673 a0) + (1 : Int32)))) b43 n47)), .int ((gA (sI (sA (sI G 659 a0 (((gI G 659 a0) + (0 : Int32)))) b38 n42 p2) 673 a0 (((gI G 673 a0) + (1 : Int32)))) b48 n52))]) (rest := [.int p1, .ref b43]) cs_Mo_165 me_Mo_greater rfl (by decide) rfl rfl (Nat.le_of_ble_eq_true rfl) d_Mo_takes_129 (by decide) rfl (j_enter (L := [some (.int ((gA (sI (sA (sI G 659 a0 (((gI G 659 a0) + (0 : Int32)))) b38 n42 p2) 673 a0 (((gI G 673 a0) + (1 : Int32)))) b43 n47))), some (.int ((gA (sI (sA (sI G 659 a0 (((gI G 659 a0) + (0 : Int32)))) b38 n42 p2) 673 a0 (((gI G 673 a0) + (1 : Int32)))) b48 n52)))]) me_Mo_greater (cat_c rfl (cat_c rfl cat_n)) (Nat.le_of_ble_eq_true rfl) rfl ?_)
        refine j_iload_n d_Mo_greater_0 rfl ?_
        refine j_iload_n d_Mo_greater_1 rfl ?_
        obtain ⟨Ha, Hb⟩ := H
        refine j_icmp_le (tgt := 9) d_Mo_greater_2 (by decide) (fun c59 => ?_) (fun c60 => ?_)
        · have H := Ha c59
          refine j_iload_n d_Mo_greater_9 rfl ?_
          refine j_iret rfl d_Mo_greater_10 ?_
          show J E 4 m_Mo_takes 132 [some (.ref a0), some (.int p1), some (.int p2), some (.int p3), some (.int s0)] [.int ((gA (sI (sA (sI G 659 a0 (((gI G 659 a0) + (0 : Int32)))) b38 n42 p2) 673 a0 (((gI G 673 a0) + (1 : Int32)))) b48 n52)), .int p1, .ref b43] (sI (sA (sI G 659 a0 (((gI G 659 a0) + (0 : Int32)))) b38 n42 p2) 673 a0 (((gI G 673 a0) + (1 : Int32)))) Post
          obtain ⟨t53, H⟩ := H
          refine j_iast (n := n47) t53 x46 d_Mo_takes_132 ?_
          show J E 4 m_Mo_takes 133 [some (.ref a0), some (.int p1), some (.int p2), some (.int p3), some (.int s0)] [] (sA (sI (sA (sI G 659 a0 (((gI G 659 a0) + (0 : Int32)))) b38 n42 p2) 673 a0 (((gI G 673 a0) + (1 : Int32)))) b43 n47 ((gA (sI (sA (sI G 659 a0 (((gI G 659 a0) + (0 : Int32)))) b38 n42 p2) 673 a0 (((gI G 673 a0) + (1 : Int32)))) b48 n52))) Post
          generalize e55 : sA (sI (sA (sI G 659 a0 (((gI G 659 a0) + (0 : Int32)))) b38 n42 p2) 673 a0 (((gI G 673 a0) + (1 : Int32)))) b43 n47 ((gA (sI (sA (sI G 659 a0 (((gI G 659 a0) + (0 : Int32)))) b38 n42 p2) 673 a0 (((gI G 673 a0) + (1 : Int32)))) b48 n52)) = G54
          have e55 := e55.symm
          have H := H G54 e55
          refine j_aload_n d_Mo_takes_133 rfl ?_
          refine j_forget (L' := [none, none, none, some (.int p3), some (.int s0)]) ⟨Or.inl rfl, Or.inl rfl, Or.inl rfl, Or.inr rfl, Or.inr rfl, trivial⟩ ?_
          exact j_callV (d' := 3) (ci := 10) (As := []) (rest := []) (b := a0) cv_Mo_162 me_Mo_grows rfl (by decide) rfl rfl (by rw [e55]; exact t1) rfl rfl (Nat.le_of_ble_eq_true rfl) d_Mo_takes_134 (by decide) rfl H
        · have H := Hb c60
          refine j_iload_n d_Mo_greater_5 rfl ?_
          refine j_goto (tgt := 10) d_Mo_greater_6 (by decide) ?_
          refine j_iret rfl d_Mo_greater_10 ?_
          show J E 4 m_Mo_takes 132 [some (.ref a0), some (.int p1), some (.int p2), some (.int p3), some (.int s0)] [.int ((gA (sI (sA (sI G 659 a0 (((gI G 659 a0) + (0 : Int32)))) b38 n42 p2) 673 a0 (((gI G 673 a0) + (1 : Int32)))) b43 n47)), .int p1, .ref b43] (sI (sA (sI G 659 a0 (((gI G 659 a0) + (0 : Int32)))) b38 n42 p2) 673 a0 (((gI G 673 a0) + (1 : Int32)))) Post
          obtain ⟨t56, H⟩ := H
          refine j_iast (n := n47) t56 x46 d_Mo_takes_132 ?_
          show J E 4 m_Mo_takes 133 [some (.ref a0), some (.int p1), some (.int p2), some (.int p3), some (.int s0)] [] (sA (sI (sA (sI G 659 a0 (((gI G 659 a0) + (0 : Int32)))) b38 n42 p2) 673 a0 (((gI G 673 a0) + (1 : Int32)))) b43 n47 ((gA (sI (sA (sI G 659 a0 (((gI G 659 a0) + (0 : Int32)))) b38 n42 p2) 673 a0 (((gI G 673 a0) + (1 : Int32)))) b43 n47))) Post
          generalize e58 : sA (sI (sA (sI G 659 a0 (((gI G 659 a0) + (0 : Int32)))) b38 n42 p2) 673 a0 (((gI G 673 a0) + (1 : Int32)))) b43 n47 ((gA (sI (sA (sI G 659 a0 (((gI G 659 a0) + (0 : Int32)))) b38 n42 p2) 673 a0 (((gI G 673 a0) + (1 : Int32)))) b43 n47)) = G57
          have e58 := e58.symm
          have H := H G57 e58
          refine j_aload_n d_Mo_takes_133 rfl ?_
          refine j_forget (L' := [none, none, none, some (.int p3), some (.int s0)]) ⟨Or.inl rfl, Or.inl rfl, Or.inl rfl, Or.inr rfl, Or.inr rfl, trivial⟩ ?_
          exact j_callV (d' := 3) (ci := 10) (As := []) (rest := []) (b := a0) cv_Mo_162 me_Mo_grows rfl (by decide) rfl rfl (by rw [e58]; exact t1) rfl rfl (Nat.le_of_ble_eq_true rfl) d_Mo_takes_134 (by decide) rfl H
  · have H := Hb c129
    refine j_iconst (v := 1) d_Mo_takes_74 (by decide) ?_
    refine j_goto (tgt := 79) d_Mo_takes_75 (by decide) ?_
    refine j_iadd d_Mo_takes_79 ?_
    refine j_putI (f := 659) fw_Mo_214 rfl rfl t1 d_Mo_takes_80 ?_
    refine j_iload_n d_Mo_takes_83 rfl ?_
    obtain ⟨Ha, Hb⟩ := H
    refine j_if_ne (tgt := 112) d_Mo_takes_84 (by decide) (fun c126 => ?_) (fun c127 => ?_)
    · have H := Ha c126
      refine j_aload_n d_Mo_takes_112 rfl ?_
      obtain ⟨b65, e66, H⟩ := H
      refine j_getR (f := 657) (b := b65) fe_Mo_55 rfl rfl t1 e66 d_Mo_takes_113 ?_
      refine j_iload_n d_Mo_takes_116 rfl ?_
      refine j_aload_n d_Mo_takes_117 rfl ?_
      refine j_getR (f := 657) (b := b65) fe_Mo_55 rfl rfl t1 e66 d_Mo_takes_118 ?_
      refine j_iload_n d_Mo_takes_121 rfl ?_
      obtain ⟨t67, H⟩ := H
      obtain ⟨n69, x68, H⟩ := H
      refine j_iald (n := n69) t67 x68 d_Mo_takes_122 ?_
      refine j_aload_n d_Mo_takes_123 rfl ?_
      obtain ⟨b70, e71, H⟩ := H
      refine j_getR (f := 649) (b := b70) fe_Mo_29 rfl rfl t1 e71 d_Mo_takes_124 ?_
      refine j_iload_n d_Mo_takes_127 rfl ?_
      obtain ⟨t72, H⟩ := H
      obtain ⟨n74, x73, H⟩ := H
      refine j_iald (n := n74) t72 x73 d_Mo_takes_128 ?_
      refine j_callS (d' := 1) (As := [.int ((gA (sI G 659 a0 (((gI G 659 a0) + (1 : Int32)))) b65 n69)), .int ((gA (sI G 659 a0 (((gI G 659 a0) + (1 : Int32)))) b70 n74))]) (rest := [.int p1, .ref b65]) cs_Mo_165 me_Mo_greater rfl (by decide) rfl rfl (Nat.le_of_ble_eq_true rfl) d_Mo_takes_129 (by decide) rfl (j_enter (L := [some (.int ((gA (sI G 659 a0 (((gI G 659 a0) + (1 : Int32)))) b65 n69))), some (.int ((gA (sI G 659 a0 (((gI G 659 a0) + (1 : Int32)))) b70 n74)))]) me_Mo_greater (cat_c rfl (cat_c rfl cat_n)) (Nat.le_of_ble_eq_true rfl) rfl ?_)
      refine j_iload_n d_Mo_greater_0 rfl ?_
      refine j_iload_n d_Mo_greater_1 rfl ?_
      obtain ⟨Ha, Hb⟩ := H
      refine j_icmp_le (tgt := 9) d_Mo_greater_2 (by decide) (fun c81 => ?_) (fun c82 => ?_)
      · have H := Ha c81
        refine j_iload_n d_Mo_greater_9 rfl ?_
        refine j_iret rfl d_Mo_greater_10 ?_
        show J E 4 m_Mo_takes 132 [some (.ref a0), some (.int p1), some (.int p2), some (.int p3), some (.int s0)] [.int ((gA (sI G 659 a0 (((gI G 659 a0) + (1 : Int32)))) b70 n74)), .int p1, .ref b65] (sI G 659 a0 (((gI G 659 a0) + (1 : Int32)))) Post
        obtain ⟨t75, H⟩ := H
        refine j_iast (n := n69) t75 x68 d_Mo_takes_132 ?_
        show J E 4 m_Mo_takes 133 [some (.ref a0), some (.int p1), some (.int p2), some (.int p3), some (.int s0)] [] (sA (sI G 659 a0 (((gI G 659 a0) + (1 : Int32)))) b65 n69 ((gA (sI G 659 a0 (((gI G 659 a0) + (1 : Int32)))) b70 n74))) Post
        generalize e77 : sA (sI G 659 a0 (((gI G 659 a0) + (1 : Int32)))) b65 n69 ((gA (sI G 659 a0 (((gI G 659 a0) + (1 : Int32)))) b70 n74)) = G76
        have e77 := e77.symm
        have H := H G76 e77
        refine j_aload_n d_Mo_takes_133 rfl ?_
        refine j_forget (L' := [none, none, none, some (.int p3), some (.int s0)]) ⟨Or.inl rfl, Or.inl rfl, Or.inl rfl, Or.inr rfl, Or.inr rfl, trivial⟩ ?_
        exact j_callV (d' := 3) (ci := 10) (As := []) (rest := []) (b := a0) cv_Mo_162 me_Mo_grows rfl (by decide) rfl rfl (by rw [e77]; exact t1) rfl rfl (Nat.le_of_ble_eq_true rfl) d_Mo_takes_134 (by decide) rfl H
      · have H := Hb c82
        refine j_iload_n d_Mo_greater_5 rfl ?_
        refine j_goto (tgt := 10) d_Mo_greater_6 (by decide) ?_
        refine j_iret rfl d_Mo_greater_10 ?_
        show J E 4 m_Mo_takes 132 [some (.ref a0), some (.int p1), some (.int p2), some (.int p3), some (.int s0)] [.int ((gA (sI G 659 a0 (((gI G 659 a0) + (1 : Int32)))) b65 n69)), .int p1, .ref b65] (sI G 659 a0 (((gI G 659 a0) + (1 : Int32)))) Post
        obtain ⟨t78, H⟩ := H
        refine j_iast (n := n69) t78 x68 d_Mo_takes_132 ?_
        show J E 4 m_Mo_takes 133 [some (.ref a0), some (.int p1), some (.int p2), some (.int p3), some (.int s0)] [] (sA (sI G 659 a0 (((gI G 659 a0) + (1 : Int32)))) b65 n69 ((gA (sI G 659 a0 (((gI G 659 a0) + (1 : Int32)))) b65 n69))) Post
        generalize e80 : sA (sI G 659 a0 (((gI G 659 a0) + (1 : Int32)))) b65 n69 ((gA (sI G 659 a0 (((gI G 659 a0) + (1 : Int32)))) b65 n69)) = G79
        have e80 := e80.symm
        have H := H G79 e80
        refine j_aload_n d_Mo_takes_133 rfl ?_
        refine j_forget (L' := [none, none, none, some (.int p3), some (.int s0)]) ⟨Or.inl rfl, Or.inl rfl, Or.inl rfl, Or.inr rfl, Or.inr rfl, trivial⟩ ?_
        exact j_callV (d' := 3) (ci := 10) (As := []) (rest := []) (b := a0) cv_Mo_162 me_Mo_grows rfl (by decide) rfl rfl (by rw [e80]; exact t1) rfl rfl (Nat.le_of_ble_eq_true rfl) d_Mo_takes_134 (by decide) rfl H
    · have H := Hb c127
      refine j_iload_n d_Mo_takes_87 rfl ?_
      refine j_iconst (v := 2) d_Mo_takes_88 (by decide) ?_
      obtain ⟨Ha, Hb⟩ := H
      refine j_icmp_ge (tgt := 112) d_Mo_takes_89 (by decide) (fun c124 => ?_) (fun c125 => ?_)
      · have H := Ha c124
        refine j_aload_n d_Mo_takes_112 rfl ?_
        obtain ⟨b83, e84, H⟩ := H
        refine j_getR (f := 657) (b := b83) fe_Mo_55 rfl rfl t1 e84 d_Mo_takes_113 ?_
        refine j_iload_n d_Mo_takes_116 rfl ?_
        refine j_aload_n d_Mo_takes_117 rfl ?_
        refine j_getR (f := 657) (b := b83) fe_Mo_55 rfl rfl t1 e84 d_Mo_takes_118 ?_
        refine j_iload_n d_Mo_takes_121 rfl ?_
        obtain ⟨t85, H⟩ := H
        obtain ⟨n87, x86, H⟩ := H
        refine j_iald (n := n87) t85 x86 d_Mo_takes_122 ?_
        refine j_aload_n d_Mo_takes_123 rfl ?_
        obtain ⟨b88, e89, H⟩ := H
        refine j_getR (f := 649) (b := b88) fe_Mo_29 rfl rfl t1 e89 d_Mo_takes_124 ?_
        refine j_iload_n d_Mo_takes_127 rfl ?_
        obtain ⟨t90, H⟩ := H
        obtain ⟨n92, x91, H⟩ := H
        refine j_iald (n := n92) t90 x91 d_Mo_takes_128 ?_
        refine j_callS (d' := 1) (As := [.int ((gA (sI G 659 a0 (((gI G 659 a0) + (1 : Int32)))) b83 n87)), .int ((gA (sI G 659 a0 (((gI G 659 a0) + (1 : Int32)))) b88 n92))]) (rest := [.int p1, .ref b83]) cs_Mo_165 me_Mo_greater rfl (by decide) rfl rfl (Nat.le_of_ble_eq_true rfl) d_Mo_takes_129 (by decide) rfl (j_enter (L := [some (.int ((gA (sI G 659 a0 (((gI G 659 a0) + (1 : Int32)))) b83 n87))), some (.int ((gA (sI G 659 a0 (((gI G 659 a0) + (1 : Int32)))) b88 n92)))]) me_Mo_greater (cat_c rfl (cat_c rfl cat_n)) (Nat.le_of_ble_eq_true rfl) rfl ?_)
        refine j_iload_n d_Mo_greater_0 rfl ?_
        refine j_iload_n d_Mo_greater_1 rfl ?_
        obtain ⟨Ha, Hb⟩ := H
        refine j_icmp_le (tgt := 9) d_Mo_greater_2 (by decide) (fun c99 => ?_) (fun c100 => ?_)
        · have H := Ha c99
          refine j_iload_n d_Mo_greater_9 rfl ?_
          refine j_iret rfl d_Mo_greater_10 ?_
          show J E 4 m_Mo_takes 132 [some (.ref a0), some (.int p1), some (.int p2), some (.int p3), some (.int s0)] [.int ((gA (sI G 659 a0 (((gI G 659 a0) + (1 : Int32)))) b88 n92)), .int p1, .ref b83] (sI G 659 a0 (((gI G 659 a0) + (1 : Int32)))) Post
          obtain ⟨t93, H⟩ := H
          refine j_iast (n := n87) t93 x86 d_Mo_takes_132 ?_
          show J E 4 m_Mo_takes 133 [some (.ref a0), some (.int p1), some (.int p2), some (.int p3), some (.int s0)] [] (sA (sI G 659 a0 (((gI G 659 a0) + (1 : Int32)))) b83 n87 ((gA (sI G 659 a0 (((gI G 659 a0) + (1 : Int32)))) b88 n92))) Post
          generalize e95 : sA (sI G 659 a0 (((gI G 659 a0) + (1 : Int32)))) b83 n87 ((gA (sI G 659 a0 (((gI G 659 a0) + (1 : Int32)))) b88 n92)) = G94
          have e95 := e95.symm
          have H := H G94 e95
          refine j_aload_n d_Mo_takes_133 rfl ?_
          refine j_forget (L' := [none, none, none, some (.int p3), some (.int s0)]) ⟨Or.inl rfl, Or.inl rfl, Or.inl rfl, Or.inr rfl, Or.inr rfl, trivial⟩ ?_
          exact j_callV (d' := 3) (ci := 10) (As := []) (rest := []) (b := a0) cv_Mo_162 me_Mo_grows rfl (by decide) rfl rfl (by rw [e95]; exact t1) rfl rfl (Nat.le_of_ble_eq_true rfl) d_Mo_takes_134 (by decide) rfl H
        · have H := Hb c100
          refine j_iload_n d_Mo_greater_5 rfl ?_
          refine j_goto (tgt := 10) d_Mo_greater_6 (by decide) ?_
          refine j_iret rfl d_Mo_greater_10 ?_
          show J E 4 m_Mo_takes 132 [some (.ref a0), some (.int p1), some (.int p2), some (.int p3), some (.int s0)] [.int ((gA (sI G 659 a0 (((gI G 659 a0) + (1 : Int32)))) b83 n87)), .int p1, .ref b83] (sI G 659 a0 (((gI G 659 a0) + (1 : Int32)))) Post
          obtain ⟨t96, H⟩ := H
          refine j_iast (n := n87) t96 x86 d_Mo_takes_132 ?_
          show J E 4 m_Mo_takes 133 [some (.ref a0), some (.int p1), some (.int p2), some (.int p3), some (.int s0)] [] (sA (sI G 659 a0 (((gI G 659 a0) + (1 : Int32)))) b83 n87 ((gA (sI G 659 a0 (((gI G 659 a0) + (1 : Int32)))) b83 n87))) Post
          generalize e98 : sA (sI G 659 a0 (((gI G 659 a0) + (1 : Int32)))) b83 n87 ((gA (sI G 659 a0 (((gI G 659 a0) + (1 : Int32)))) b83 n87)) = G97
          have e98 := e98.symm
          have H := H G97 e98
          refine j_aload_n d_Mo_takes_133 rfl ?_
          refine j_forget (L' := [none, none, none, some (.int p3), some (.int s0)]) ⟨Or.inl rfl, Or.inl rfl, Or.inl rfl, Or.inr rfl, Or.inr rfl, trivial⟩ ?_
          exact j_callV (d' := 3) (ci := 10) (As := []) (rest := []) (b := a0) cv_Mo_162 me_Mo_grows rfl (by decide) rfl rfl (by rw [e98]; exact t1) rfl rfl (Nat.le_of_ble_eq_true rfl) d_Mo_takes_134 (by decide) rfl H
      · have H := Hb c125
        refine j_aload_n d_Mo_takes_92 rfl ?_
        obtain ⟨b101, e102, H⟩ := H
        refine j_getR (f := 672) (b := b101) fe_Mo_88 rfl rfl t1 e102 d_Mo_takes_93 ?_
        refine j_aload_n d_Mo_takes_96 rfl ?_
        refine j_getI (f := 673) fe_Mo_217 rfl rfl t1 d_Mo_takes_97 ?_
        refine j_iload_n d_Mo_takes_100 rfl ?_
        obtain ⟨t103, H⟩ := H
        obtain ⟨n105, x104, H⟩ := H
        refine j_iast (n := n105) t103 x104 d_Mo_takes_101 ?_
        refine j_aload_n d_Mo_takes_102 rfl ?_
        refine j_dup d_Mo_takes_103 rfl ?_
        refine j_getI (f := 673) fe_Mo_217 rfl rfl t1 d_Mo_takes_104 ?_
        refine j_iconst (v := 1) d_Mo_takes_107 (by decide) ?_
        refine j_iadd d_Mo_takes_108 ?_
        refine j_putI (f := 673) fw_Mo_217 rfl rfl t1 d_Mo_takes_109 ?_
        refine j_aload_n d_Mo_takes_112 rfl ?_
        obtain ⟨b106, e107, H⟩ := H
        refine j_getR (f := 657) (b := b106) fe_Mo_55 rfl rfl t1 e107 d_Mo_takes_113 ?_
        refine j_iload_n d_Mo_takes_116 rfl ?_
        refine j_aload_n d_Mo_takes_117 rfl ?_
        refine j_getR (f := 657) (b := b106) fe_Mo_55 rfl rfl t1 e107 d_Mo_takes_118 ?_
        refine j_iload_n d_Mo_takes_121 rfl ?_
        obtain ⟨t108, H⟩ := H
        obtain ⟨n110, x109, H⟩ := H
        refine j_iald (n := n110) t108 x109 d_Mo_takes_122 ?_
        refine j_aload_n d_Mo_takes_123 rfl ?_
        obtain ⟨b111, e112, H⟩ := H
        refine j_getR (f := 649) (b := b111) fe_Mo_29 rfl rfl t1 e112 d_Mo_takes_124 ?_
        refine j_iload_n d_Mo_takes_127 rfl ?_
        obtain ⟨t113, H⟩ := H
        obtain ⟨n115, x114, H⟩ := H
        refine j_iald (n := n115) t113 x114 d_Mo_takes_128 ?_
        refine j_callS (d' := 1) (As := [.int ((gA (sI (sA (sI G 659 a0 (((gI G 659 a0) + (1 : Int32)))) b101 n105 p2) 673 a0 (((gI G 673 a0) + (1 : Int32)))) b106 n110)), .int ((gA (sI (sA (sI G 659 a0 (((gI G 659 a0) + (1 : Int32)))) b101 n105 p2) 673 a0 (((gI G 673 a0) + (1 : Int32)))) b111 n115))]) (rest := [.int p1, .ref b106]) cs_Mo_165 me_Mo_greater rfl (by decide) rfl rfl (Nat.le_of_ble_eq_true rfl) d_Mo_takes_129 (by decide) rfl (j_enter (L := [some (.int ((gA (sI (sA (sI G 659 a0 (((gI G 659 a0) + (1 : Int32)))) b101 n105 p2) 673 a0 (((gI G 673 a0) + (1 : Int32)))) b106 n110))), some (.int ((gA (sI (sA (sI G 659 a0 (((gI G 659 a0) + (1 : Int32)))) b101 n105 p2) 673 a0 (((gI G 673 a0) + (1 : Int32)))) b111 n115)))]) me_Mo_greater (cat_c rfl (cat_c rfl cat_n)) (Nat.le_of_ble_eq_true rfl) rfl ?_)
        refine j_iload_n d_Mo_greater_0 rfl ?_
        refine j_iload_n d_Mo_greater_1 rfl ?_
        obtain ⟨Ha, Hb⟩ := H
        refine j_icmp_le (tgt := 9) d_Mo_greater_2 (by decide) (fun c122 => ?_) (fun c123 => ?_)
        · have H := Ha c122
          refine j_iload_n d_Mo_greater_9 rfl ?_
          refine j_iret rfl d_Mo_greater_10 ?_
          show J E 4 m_Mo_takes 132 [some (.ref a0), some (.int p1), some (.int p2), some (.int p3), some (.int s0)] [.int ((gA (sI (sA (sI G 659 a0 (((gI G 659 a0) + (1 : Int32)))) b101 n105 p2) 673 a0 (((gI G 673 a0) + (1 : Int32)))) b111 n115)), .int p1, .ref b106] (sI (sA (sI G 659 a0 (((gI G 659 a0) + (1 : Int32)))) b101 n105 p2) 673 a0 (((gI G 673 a0) + (1 : Int32)))) Post
          obtain ⟨t116, H⟩ := H
          refine j_iast (n := n110) t116 x109 d_Mo_takes_132 ?_
          show J E 4 m_Mo_takes 133 [some (.ref a0), some (.int p1), some (.int p2), some (.int p3), some (.int s0)] [] (sA (sI (sA (sI G 659 a0 (((gI G 659 a0) + (1 : Int32)))) b101 n105 p2) 673 a0 (((gI G 673 a0) + (1 : Int32)))) b106 n110 ((gA (sI (sA (sI G 659 a0 (((gI G 659 a0) + (1 : Int32)))) b101 n105 p2) 673 a0 (((gI G 673 a0) + (1 : Int32)))) b111 n115))) Post
          generalize e118 : sA (sI (sA (sI G 659 a0 (((gI G 659 a0) + (1 : Int32)))) b101 n105 p2) 673 a0 (((gI G 673 a0) + (1 : Int32)))) b106 n110 ((gA (sI (sA (sI G 659 a0 (((gI G 659 a0) + (1 : Int32)))) b101 n105 p2) 673 a0 (((gI G 673 a0) + (1 : Int32)))) b111 n115)) = G117
          have e118 := e118.symm
          have H := H G117 e118
          refine j_aload_n d_Mo_takes_133 rfl ?_
          refine j_forget (L' := [none, none, none, some (.int p3), some (.int s0)]) ⟨Or.inl rfl, Or.inl rfl, Or.inl rfl, Or.inr rfl, Or.inr rfl, trivial⟩ ?_
          exact j_callV (d' := 3) (ci := 10) (As := []) (rest := []) (b := a0) cv_Mo_162 me_Mo_grows rfl (by decide) rfl rfl (by rw [e118]; exact t1) rfl rfl (Nat.le_of_ble_eq_true rfl) d_Mo_takes_134 (by decide) rfl H
        · have H := Hb c123
          refine j_iload_n d_Mo_greater_5 rfl ?_
          refine j_goto (tgt := 10) d_Mo_greater_6 (by decide) ?_
          refine j_iret rfl d_Mo_greater_10 ?_
          show J E 4 m_Mo_takes 132 [some (.ref a0), some (.int p1), some (.int p2), some (.int p3), some (.int s0)] [.int ((gA (sI (sA (sI G 659 a0 (((gI G 659 a0) + (1 : Int32)))) b101 n105 p2) 673 a0 (((gI G 673 a0) + (1 : Int32)))) b106 n110)), .int p1, .ref b106] (sI (sA (sI G 659 a0 (((gI G 659 a0) + (1 : Int32)))) b101 n105 p2) 673 a0 (((gI G 673 a0) + (1 : Int32)))) Post
          obtain ⟨t119, H⟩ := H
          refine j_iast (n := n110) t119 x109 d_Mo_takes_132 ?_
          show J E 4 m_Mo_takes 133 [some (.ref a0), some (.int p1), some (.int p2), some (.int p3), some (.int s0)] [] (sA (sI (sA (sI G 659 a0 (((gI G 659 a0) + (1 : Int32)))) b101 n105 p2) 673 a0 (((gI G 673 a0) + (1 : Int32)))) b106 n110 ((gA (sI (sA (sI G 659 a0 (((gI G 659 a0) + (1 : Int32)))) b101 n105 p2) 673 a0 (((gI G 673 a0) + (1 : Int32)))) b106 n110))) Post
          generalize e121 : sA (sI (sA (sI G 659 a0 (((gI G 659 a0) + (1 : Int32)))) b101 n105 p2) 673 a0 (((gI G 673 a0) + (1 : Int32)))) b106 n110 ((gA (sI (sA (sI G 659 a0 (((gI G 659 a0) + (1 : Int32)))) b101 n105 p2) 673 a0 (((gI G 673 a0) + (1 : Int32)))) b106 n110)) = G120
          have e121 := e121.symm
          have H := H G120 e121
          refine j_aload_n d_Mo_takes_133 rfl ?_
          refine j_forget (L' := [none, none, none, some (.int p3), some (.int s0)]) ⟨Or.inl rfl, Or.inl rfl, Or.inl rfl, Or.inr rfl, Or.inr rfl, trivial⟩ ?_
          exact j_callV (d' := 3) (ci := 10) (As := []) (rest := []) (b := a0) cv_Mo_162 me_Mo_grows rfl (by decide) rfl rfl (by rw [e121]; exact t1) rfl rfl (Nat.le_of_ble_eq_true rfl) d_Mo_takes_134 (by decide) rfl H
theorem wp_Mo_takes_54 {E : EV} {G : GH} {Post : Res → GH → Prop} (a0 : Nat) (p1 : Int32) (p2 : Int32) (p3 : Int32) (s0 : Int32) (H : gT G a0 = 11 ∧ (¬ s0 = 0 → (¬ p3 = 0 → ∃ b2, gR G 657 a0 = some b2 ∧ (gT G b2 = 20 ∨ gT G b2 = 25) ∧ ∃ n6, IX p1 n6 (gN G b2) ∧ ∃ b7, gR G 649 a0 = some b7 ∧ (gT G b7 = 20 ∨ gT G b7 = 25) ∧ ∃ n11, IX p2 n11 (gN G b7) ∧ ((gA (sI G 659 a0 (((gI G 659 a0) + (0 : Int32)))) b2 n6) ≤ (gA (sI G 659 a0 (((gI G 659 a0) + (0 : Int32)))) b7 n11) → gT G b2 = 20 ∧ ∀ G13, G13 = sA (sI G 659 a0 (((gI G 659 a0) + (0 : Int32)))) b2 n6 ((gA (sI G 659 a0 (((gI G 659 a0) + (0 : Int32)))) b7 n11)) → Cl E 3 m_Mo_grows [.ref a0] G13 (aft E 4 m_Mo_takes 134 [none, none, none, some (.int p3), some (.int s0)] [] Post)) ∧ (¬ (gA (sI G 659 a0 (((gI G 659 a0) + (0 : Int32)))) b2 n6) ≤ (gA (sI G 659 a0 (((gI G 659 a0) + (0 : Int32)))) b7 n11) → gT G b2 = 20 ∧ ∀ G16, G16 = sA (sI G 659 a0 (((gI G 659 a0) + (0 : Int32)))) b2 n6 ((gA (sI G 659 a0 (((gI G 659 a0) + (0 : Int32)))) b2 n6)) → Cl E 3 m_Mo_grows [.ref a0] G16 (aft E 4 m_Mo_takes 134 [none, none, none, some (.int p3), some (.int s0)] [] Post))) ∧ (p3 = 0 → ((2 : Int32) ≤ p1 → ∃ b20, gR G 657 a0 = some b20 ∧ (gT G b20 = 20 ∨ gT G b20 = 25) ∧ ∃ n24, IX p1 n24 (gN G b20) ∧ ∃ b25, gR G 649 a0 = some b25 ∧ (gT G b25 = 20 ∨ gT G b25 = 25) ∧ ∃ n29, IX p2 n29 (gN G b25) ∧ ((gA (sI G 659 a0 (((gI G 659 a0) + (0 : Int32)))) b20 n24) ≤ (gA (sI G 659 a0 (((gI G 659 a0) + (0 : Int32)))) b25 n29) → gT G b20 = 20 ∧ ∀ G31, G31 = sA (sI G 659 a0 (((gI G 659 a0) + (0 : Int32)))) b20 n24 ((gA (sI G 659 a0 (((gI G 659 a0) + (0 : Int32)))) b25 n29)) → Cl E 3 m_Mo_grows [.ref a0] G31 (aft E 4 m_Mo_takes 134 [none, none, none, some (.int p3), some (.int s0)] [] Post)) ∧ (¬ (gA (sI G 659 a0 (((gI G 659 a0) + (0 : Int32)))) b20 n24) ≤ (gA (sI G 659 a0 (((gI G 659 a0) + (0 : Int32)))) b25 n29) → gT G b20 = 20 ∧ ∀ G34, G34 = sA (sI G 659 a0 (((gI G 659 a0) + (0 : Int32)))) b20 n24 ((gA (sI G 659 a0 (((gI G 659 a0) + (0 : Int32)))) b20 n24)) → Cl E 3 m_Mo_grows [.ref a0] G34 (aft E 4 m_Mo_takes 134 [none, none, none, some (.int p3), some (.int s0)] [] Post))) ∧ (¬ (2 : Int32) ≤ p1 → ∃ b38, gR G 672 a0 = some b38 ∧ gT G b38 = 20 ∧ ∃ n42, IX ((gI G 673 a0)) n42 (gN G b38) ∧ ∃ b43, gR G 657 a0 = some b43 ∧ (gT G b43 = 20 ∨ gT G b43 = 25) ∧ ∃ n47, IX p1 n47 (gN G b43) ∧ ∃ b48, gR G 649 a0 = some b48 ∧ (gT G b48 = 20 ∨ gT G b48 = 25) ∧ ∃ n52, IX p2 n52 (gN G b48) ∧ ((gA (sI (sA (sI G 659 a0 (((gI G 659 a0) + (0 : Int32)))) b38 n42 p2) 673 a0 (((gI G 673 a0) + (1 : Int32)))) b43 n47) ≤ (gA (sI (sA (sI G 659 a0 (((gI G 659 a0) + (0 : Int32)))) b38 n42 p2) 673 a0 (((gI G 673 a0) + (1 : Int32)))) b48 n52) → gT G b43 = 20 ∧ ∀ G54, G54 = sA (sI (sA (sI G 659 a0 (((gI G 659 a0) + (0 : Int32)))) b38 n42 p2) 673 a0 (((gI G 673 a0) + (1 : Int32)))) b43 n47 ((gA (sI (sA (sI G 659 a0 (((gI G 659 a0) + (0 : Int32)))) b38 n42 p2) 673 a0 (((gI G 673 a0) + (1 : Int32)))) b48 n52)) → Cl E 3 m_Mo_grows [.ref a0] G54 (aft E 4 m_Mo_takes 134 [none, none, none, some (.int p3), some (.int s0)] [] Post)) ∧ (¬ (gA (sI (sA (sI G 659 a0 (((gI G 659 a0) + (0 : Int32)))) b38 n42 p2) 673 a0 (((gI G 673 a0) + (1 : Int32)))) b43 n47) ≤ (gA (sI (sA (sI G 659 a0 (((gI G 659 a0) + (0 : Int32)))) b38 n42 p2) 673 a0 (((gI G 673 a0) + (1 : Int32)))) b48 n52) → gT G b43 = 20 ∧ ∀ G57, G57 = sA (sI (sA (sI G 659 a0 (((gI G 659 a0) + (0 : Int32)))) b38 n42 p2) 673 a0 (((gI G 673 a0) + (1 : Int32)))) b43 n47 ((gA (sI (sA (sI G 659 a0 (((gI G 659 a0) + (0 : Int32)))) b38 n42 p2) 673 a0 (((gI G 673 a0) + (1 : Int32)))) b43 n47)) → Cl E 3 m_Mo_grows [.ref a0] G57 (aft E 4 m_Mo_takes 134 [none, none, none, some (.int p3), some (.int s0)] [] Post))))) ∧ (s0 = 0 → (¬ p3 = 0 → ∃ b65, gR G 657 a0 = some b65 ∧ (gT G b65 = 20 ∨ gT G b65 = 25) ∧ ∃ n69, IX p1 n69 (gN G b65) ∧ ∃ b70, gR G 649 a0 = some b70 ∧ (gT G b70 = 20 ∨ gT G b70 = 25) ∧ ∃ n74, IX p2 n74 (gN G b70) ∧ ((gA (sI G 659 a0 (((gI G 659 a0) + (1 : Int32)))) b65 n69) ≤ (gA (sI G 659 a0 (((gI G 659 a0) + (1 : Int32)))) b70 n74) → gT G b65 = 20 ∧ ∀ G76, G76 = sA (sI G 659 a0 (((gI G 659 a0) + (1 : Int32)))) b65 n69 ((gA (sI G 659 a0 (((gI G 659 a0) + (1 : Int32)))) b70 n74)) → Cl E 3 m_Mo_grows [.ref a0] G76 (aft E 4 m_Mo_takes 134 [none, none, none, some (.int p3), some (.int s0)] [] Post)) ∧ (¬ (gA (sI G 659 a0 (((gI G 659 a0) + (1 : Int32)))) b65 n69) ≤ (gA (sI G 659 a0 (((gI G 659 a0) + (1 : Int32)))) b70 n74) → gT G b65 = 20 ∧ ∀ G79, G79 = sA (sI G 659 a0 (((gI G 659 a0) + (1 : Int32)))) b65 n69 ((gA (sI G 659 a0 (((gI G 659 a0) + (1 : Int32)))) b65 n69)) → Cl E 3 m_Mo_grows [.ref a0] G79 (aft E 4 m_Mo_takes 134 [none, none, none, some (.int p3), some (.int s0)] [] Post))) ∧ (p3 = 0 → ((2 : Int32) ≤ p1 → ∃ b83, gR G 657 a0 = some b83 ∧ (gT G b83 = 20 ∨ gT G b83 = 25) ∧ ∃ n87, IX p1 n87 (gN G b83) ∧ ∃ b88, gR G 649 a0 = some b88 ∧ (gT G b88 = 20 ∨ gT G b88 = 25) ∧ ∃ n92, IX p2 n92 (gN G b88) ∧ ((gA (sI G 659 a0 (((gI G 659 a0) + (1 : Int32)))) b83 n87) ≤ (gA (sI G 659 a0 (((gI G 659 a0) + (1 : Int32)))) b88 n92) → gT G b83 = 20 ∧ ∀ G94, G94 = sA (sI G 659 a0 (((gI G 659 a0) + (1 : Int32)))) b83 n87 ((gA (sI G 659 a0 (((gI G 659 a0) + (1 : Int32)))) b88 n92)) → Cl E 3 m_Mo_grows [.ref a0] G94 (aft E 4 m_Mo_takes 134 [none, none, none, some (.int p3), some (.int s0)] [] Post)) ∧ (¬ (gA (sI G 659 a0 (((gI G 659 a0) + (1 : Int32)))) b83 n87) ≤ (gA (sI G 659 a0 (((gI G 659 a0) + (1 : Int32)))) b88 n92) → gT G b83 = 20 ∧ ∀ G97, G97 = sA (sI G 659 a0 (((gI G 659 a0) + (1 : Int32)))) b83 n87 ((gA (sI G 659 a0 (((gI G 659 a0) + (1 : Int32)))) b83 n87)) → Cl E 3 m_Mo_grows [.ref a0] G97 (aft E 4 m_Mo_takes 134 [none, none, none, some (.int p3), some (.int s0)] [] Post))) ∧ (¬ (2 : Int32) ≤ p1 → ∃ b101, gR G 672 a0 = some b101 ∧ gT G b101 = 20 ∧ ∃ n105, IX ((gI G 673 a0)) n105 (gN G b101) ∧ ∃ b106, gR G 657 a0 = some b106 ∧ (gT G b106 = 20 ∨ gT G b106 = 25) ∧ ∃ n110, IX p1 n110 (gN G b106) ∧ ∃ b111, gR G 649 a0 = some b111 ∧ (gT G b111 = 20 ∨ gT G b111 = 25) ∧ ∃ n115, IX p2 n115 (gN G b111) ∧ ((gA (sI (sA (sI G 659 a0 (((gI G 659 a0) + (1 : Int32)))) b101 n105 p2) 673 a0 (((gI G 673 a0) + (1 : Int32)))) b106 n110) ≤ (gA (sI (sA (sI G 659 a0 (((gI G 659 a0) + (1 : Int32)))) b101 n105 p2) 673 a0 (((gI G 673 a0) + (1 : Int32)))) b111 n115) → gT G b106 = 20 ∧ ∀ G117, G117 = sA (sI (sA (sI G 659 a0 (((gI G 659 a0) + (1 : Int32)))) b101 n105 p2) 673 a0 (((gI G 673 a0) + (1 : Int32)))) b106 n110 ((gA (sI (sA (sI G 659 a0 (((gI G 659 a0) + (1 : Int32)))) b101 n105 p2) 673 a0 (((gI G 673 a0) + (1 : Int32)))) b111 n115)) → Cl E 3 m_Mo_grows [.ref a0] G117 (aft E 4 m_Mo_takes 134 [none, none, none, some (.int p3), some (.int s0)] [] Post)) ∧ (¬ (gA (sI (sA (sI G 659 a0 (((gI G 659 a0) + (1 : Int32)))) b101 n105 p2) 673 a0 (((gI G 673 a0) + (1 : Int32)))) b106 n110) ≤ (gA (sI (sA (sI G 659 a0 (((gI G 659 a0) + (1 : Int32)))) b101 n105 p2) 673 a0 (((gI G 673 a0) + (1 : Int32)))) b111 n115) → gT G b106 = 20 ∧ ∀ G120, G120 = sA (sI (sA (sI G 659 a0 (((gI G 659 a0) + (1 : Int32)))) b101 n105 p2) 673 a0 (((gI G 673 a0) + (1 : Int32)))) b106 n110 ((gA (sI (sA (sI G 659 a0 (((gI G 659 a0) + (1 : Int32)))) b101 n105 p2) 673 a0 (((gI G 673 a0) + (1 : Int32)))) b106 n110)) → Cl E 3 m_Mo_grows [.ref a0] G120 (aft E 4 m_Mo_takes 134 [none, none, none, some (.int p3), some (.int s0)] [] Post)))))) : J E 4 m_Mo_takes 54 [some (.ref a0), some (.int p1), some (.int p2), some (.int p3), none] [.int s0] G Post := by
  refine j_goto (tgt := 62) d_Mo_takes_54 (by decide) ?_
  refine j_istore (L' := [some (.ref a0), some (.int p1), some (.int p2), some (.int p3), some (.int s0)]) d_Mo_takes_62 (by decide) rfl ?_
  refine j_aload_n d_Mo_takes_64 rfl ?_
  refine j_dup d_Mo_takes_65 rfl ?_
  obtain ⟨t1, H⟩ := H
  refine j_getI (f := 659) fe_Mo_214 rfl rfl t1 d_Mo_takes_66 ?_
  refine j_iload d_Mo_takes_69 rfl ?_
  obtain ⟨Ha, Hb⟩ := H
  refine j_if_ne (tgt := 78) d_Mo_takes_71 (by decide) (fun c128 => ?_) (fun c129 => ?_)
  · have H := Ha c128
    refine j_iconst (v := 0) d_Mo_takes_78 (by decide) ?_
    refine j_iadd d_Mo_takes_79 ?_
    refine j_putI (f := 659) fw_Mo_214 rfl rfl t1 d_Mo_takes_80 ?_
    refine j_iload_n d_Mo_takes_83 rfl ?_
    obtain ⟨Ha, Hb⟩ := H
    refine j_if_ne (tgt := 112) d_Mo_takes_84 (by decide) (fun c63 => ?_) (fun c64 => ?_)
    · have H := Ha c63
      refine j_aload_n d_Mo_takes_112 rfl ?_
      obtain ⟨b2, e3, H⟩ := H
      refine j_getR (f := 657) (b := b2) fe_Mo_55 rfl rfl t1 e3 d_Mo_takes_113 ?_
      refine j_iload_n d_Mo_takes_116 rfl ?_
      refine j_aload_n d_Mo_takes_117 rfl ?_
      refine j_getR (f := 657) (b := b2) fe_Mo_55 rfl rfl t1 e3 d_Mo_takes_118 ?_
      refine j_iload_n d_Mo_takes_121 rfl ?_
      obtain ⟨t4, H⟩ := H
      obtain ⟨n6, x5, H⟩ := H
      refine j_iald (n := n6) t4 x5 d_Mo_takes_122 ?_
      refine j_aload_n d_Mo_takes_123 rfl ?_
      obtain ⟨b7, e8, H⟩ := H
      refine j_getR (f := 649) (b := b7) fe_Mo_29 rfl rfl t1 e8 d_Mo_takes_124 ?_
      refine j_iload_n d_Mo_takes_127 rfl ?_
      obtain ⟨t9, H⟩ := H
      obtain ⟨n11, x10, H⟩ := H
      refine j_iald (n := n11) t9 x10 d_Mo_takes_128 ?_
      refine j_callS (d' := 1) (As := [.int ((gA (sI G 659 a0 (((gI G 659 a0) + (0 : Int32)))) b2 n6)), .int ((gA (sI G 659 a0 (((gI G 659 a0) + (0 : Int32)))) b7 n11))]) (rest := [.int p1, .ref b2]) cs_Mo_165 me_Mo_greater rfl (by decide) rfl rfl (Nat.le_of_ble_eq_true rfl) d_Mo_takes_129 (by decide) rfl (j_enter (L := [some (.int ((gA (sI G 659 a0 (((gI G 659 a0) + (0 : Int32)))) b2 n6))), some (.int ((gA (sI G 659 a0 (((gI G 659 a0) + (0 : Int32)))) b7 n11)))]) me_Mo_greater (cat_c rfl (cat_c rfl cat_n)) (Nat.le_of_ble_eq_true rfl) rfl ?_)
      refine j_iload_n d_Mo_greater_0 rfl ?_
      refine j_iload_n d_Mo_greater_1 rfl ?_
      obtain ⟨Ha, Hb⟩ := H
      refine j_icmp_le (tgt := 9) d_Mo_greater_2 (by decide) (fun c18 => ?_) (fun c19 => ?_)
      · have H := Ha c18
        refine j_iload_n d_Mo_greater_9 rfl ?_
        refine j_iret rfl d_Mo_greater_10 ?_
        show J E 4 m_Mo_takes 132 [some (.ref a0), some (.int p1), some (.int p2), some (.int p3), some (.int s0)] [.int ((gA (sI G 659 a0 (((gI G 659 a0) + (0 : Int32)))) b7 n11)), .int p1, .ref b2] (sI G 659 a0 (((gI G 659 a0) + (0 : Int32)))) Post
        obtain ⟨t12, H⟩ := H
        refine j_iast (n := n6) t12 x5 d_Mo_takes_132 ?_
        show J E 4 m_Mo_takes 133 [some (.ref a0), some (.int p1), some (.int p2), some (.int p3), some (.int s0)] [] (sA (sI G 659 a0 (((gI G 659 a0) + (0 : Int32)))) b2 n6 ((gA (sI G 659 a0 (((gI G 659 a0) + (0 : Int32)))) b7 n11))) Post
        generalize e14 : sA (sI G 659 a0 (((gI G 659 a0) + (0 : Int32)))) b2 n6 ((gA (sI G 659 a0 (((gI G 659 a0) + (0 : Int32)))) b7 n11)) = G13
        have e14 := e14.symm
        have H := H G13 e14
        refine j_aload_n d_Mo_takes_133 rfl ?_
        refine j_forget (L' := [none, none, none, some (.int p3), some (.int s0)]) ⟨Or.inl rfl, Or.inl rfl, Or.inl rfl, Or.inr rfl, Or.inr rfl, trivial⟩ ?_
        exact j_callV (d' := 3) (ci := 10) (As := []) (rest := []) (b := a0) cv_Mo_162 me_Mo_grows rfl (by decide) rfl rfl (by rw [e14]; exact t1) rfl rfl (Nat.le_of_ble_eq_true rfl) d_Mo_takes_134 (by decide) rfl H
      · have H := Hb c19
        refine j_iload_n d_Mo_greater_5 rfl ?_
        refine j_goto (tgt := 10) d_Mo_greater_6 (by decide) ?_
        refine j_iret rfl d_Mo_greater_10 ?_
        show J E 4 m_Mo_takes 132 [some (.ref a0), some (.int p1), some (.int p2), some (.int p3), some (.int s0)] [.int ((gA (sI G 659 a0 (((gI G 659 a0) + (0 : Int32)))) b2 n6)), .int p1, .ref b2] (sI G 659 a0 (((gI G 659 a0) + (0 : Int32)))) Post
        obtain ⟨t15, H⟩ := H
        refine j_iast (n := n6) t15 x5 d_Mo_takes_132 ?_
        show J E 4 m_Mo_takes 133 [some (.ref a0), some (.int p1), some (.int p2), some (.int p3), some (.int s0)] [] (sA (sI G 659 a0 (((gI G 659 a0) + (0 : Int32)))) b2 n6 ((gA (sI G 659 a0 (((gI G 659 a0) + (0 : Int32)))) b2 n6))) Post
        generalize e17 : sA (sI G 659 a0 (((gI G 659 a0) + (0 : Int32)))) b2 n6 ((gA (sI G 659 a0 (((gI G 659 a0) + (0 : Int32)))) b2 n6)) = G16
        have e17 := e17.symm
        have H := H G16 e17
        refine j_aload_n d_Mo_takes_133 rfl ?_
        refine j_forget (L' := [none, none, none, some (.int p3), some (.int s0)]) ⟨Or.inl rfl, Or.inl rfl, Or.inl rfl, Or.inr rfl, Or.inr rfl, trivial⟩ ?_
        exact j_callV (d' := 3) (ci := 10) (As := []) (rest := []) (b := a0) cv_Mo_162 me_Mo_grows rfl (by decide) rfl rfl (by rw [e17]; exact t1) rfl rfl (Nat.le_of_ble_eq_true rfl) d_Mo_takes_134 (by decide) rfl H
    · have H := Hb c64
      refine j_iload_n d_Mo_takes_87 rfl ?_
      refine j_iconst (v := 2) d_Mo_takes_88 (by decide) ?_
      obtain ⟨Ha, Hb⟩ := H
      refine j_icmp_ge (tgt := 112) d_Mo_takes_89 (by decide) (fun c61 => ?_) (fun c62 => ?_)
      · have H := Ha c61
        refine j_aload_n d_Mo_takes_112 rfl ?_
        obtain ⟨b20, e21, H⟩ := H
        refine j_getR (f := 657) (b := b20) fe_Mo_55 rfl rfl t1 e21 d_Mo_takes_113 ?_
        refine j_iload_n d_Mo_takes_116 rfl ?_
        refine j_aload_n d_Mo_takes_117 rfl ?_
        refine j_getR (f := 657) (b := b20) fe_Mo_55 rfl rfl t1 e21 d_Mo_takes_118 ?_
        refine j_iload_n d_Mo_takes_121 rfl ?_
        obtain ⟨t22, H⟩ := H
        obtain ⟨n24, x23, H⟩ := H
        refine j_iald (n := n24) t22 x23 d_Mo_takes_122 ?_
        refine j_aload_n d_Mo_takes_123 rfl ?_
        obtain ⟨b25, e26, H⟩ := H
        refine j_getR (f := 649) (b := b25) fe_Mo_29 rfl rfl t1 e26 d_Mo_takes_124 ?_
        refine j_iload_n d_Mo_takes_127 rfl ?_
        obtain ⟨t27, H⟩ := H
        obtain ⟨n29, x28, H⟩ := H
        refine j_iald (n := n29) t27 x28 d_Mo_takes_128 ?_
        refine j_callS (d' := 1) (As := [.int ((gA (sI G 659 a0 (((gI G 659 a0) + (0 : Int32)))) b20 n24)), .int ((gA (sI G 659 a0 (((gI G 659 a0) + (0 : Int32)))) b25 n29))]) (rest := [.int p1, .ref b20]) cs_Mo_165 me_Mo_greater rfl (by decide) rfl rfl (Nat.le_of_ble_eq_true rfl) d_Mo_takes_129 (by decide) rfl (j_enter (L := [some (.int ((gA (sI G 659 a0 (((gI G 659 a0) + (0 : Int32)))) b20 n24))), some (.int ((gA (sI G 659 a0 (((gI G 659 a0) + (0 : Int32)))) b25 n29)))]) me_Mo_greater (cat_c rfl (cat_c rfl cat_n)) (Nat.le_of_ble_eq_true rfl) rfl ?_)
        refine j_iload_n d_Mo_greater_0 rfl ?_
        refine j_iload_n d_Mo_greater_1 rfl ?_
        obtain ⟨Ha, Hb⟩ := H
        refine j_icmp_le (tgt := 9) d_Mo_greater_2 (by decide) (fun c36 => ?_) (fun c37 => ?_)
        · have H := Ha c36
          refine j_iload_n d_Mo_greater_9 rfl ?_
          refine j_iret rfl d_Mo_greater_10 ?_
          show J E 4 m_Mo_takes 132 [some (.ref a0), some (.int p1), some (.int p2), some (.int p3), some (.int s0)] [.int ((gA (sI G 659 a0 (((gI G 659 a0) + (0 : Int32)))) b25 n29)), .int p1, .ref b20] (sI G 659 a0 (((gI G 659 a0) + (0 : Int32)))) Post
          obtain ⟨t30, H⟩ := H
          refine j_iast (n := n24) t30 x23 d_Mo_takes_132 ?_
          show J E 4 m_Mo_takes 133 [some (.ref a0), some (.int p1), some (.int p2), some (.int p3), some (.int s0)] [] (sA (sI G 659 a0 (((gI G 659 a0) + (0 : Int32)))) b20 n24 ((gA (sI G 659 a0 (((gI G 659 a0) + (0 : Int32)))) b25 n29))) Post
          generalize e32 : sA (sI G 659 a0 (((gI G 659 a0) + (0 : Int32)))) b20 n24 ((gA (sI G 659 a0 (((gI G 659 a0) + (0 : Int32)))) b25 n29)) = G31
          have e32 := e32.symm
          have H := H G31 e32
          refine j_aload_n d_Mo_takes_133 rfl ?_
          refine j_forget (L' := [none, none, none, some (.int p3), some (.int s0)]) ⟨Or.inl rfl, Or.inl rfl, Or.inl rfl, Or.inr rfl, Or.inr rfl, trivial⟩ ?_
          exact j_callV (d' := 3) (ci := 10) (As := []) (rest := []) (b := a0) cv_Mo_162 me_Mo_grows rfl (by decide) rfl rfl (by rw [e32]; exact t1) rfl rfl (Nat.le_of_ble_eq_true rfl) d_Mo_takes_134 (by decide) rfl H
        · have H := Hb c37
          refine j_iload_n d_Mo_greater_5 rfl ?_
          refine j_goto (tgt := 10) d_Mo_greater_6 (by decide) ?_
          refine j_iret rfl d_Mo_greater_10 ?_
          show J E 4 m_Mo_takes 132 [some (.ref a0), some (.int p1), some (.int p2), some (.int p3), some (.int s0)] [.int ((gA (sI G 659 a0 (((gI G 659 a0) + (0 : Int32)))) b20 n24)), .int p1, .ref b20] (sI G 659 a0 (((gI G 659 a0) + (0 : Int32)))) Post
          obtain ⟨t33, H⟩ := H
          refine j_iast (n := n24) t33 x23 d_Mo_takes_132 ?_
          show J E 4 m_Mo_takes 133 [some (.ref a0), some (.int p1), some (.int p2), some (.int p3), some (.int s0)] [] (sA (sI G 659 a0 (((gI G 659 a0) + (0 : Int32)))) b20 n24 ((gA (sI G 659 a0 (((gI G 659 a0) + (0 : Int32)))) b20 n24))) Post
          generalize e35 : sA (sI G 659 a0 (((gI G 659 a0) + (0 : Int32)))) b20 n24 ((gA (sI G 659 a0 (((gI G 659 a0) + (0 : Int32)))) b20 n24)) = G34
          have e35 := e35.symm
          have H := H G34 e35
          refine j_aload_n d_Mo_takes_133 rfl ?_
          refine j_forget (L' := [none, none, none, some (.int p3), some (.int s0)]) ⟨Or.inl rfl, Or.inl rfl, Or.inl rfl, Or.inr rfl, Or.inr rfl, trivial⟩ ?_
          exact j_callV (d' := 3) (ci := 10) (As := []) (rest := []) (b := a0) cv_Mo_162 me_Mo_grows rfl (by decide) rfl rfl (by rw [e35]; exact t1) rfl rfl (Nat.le_of_ble_eq_true rfl) d_Mo_takes_134 (by decide) rfl H
      · have H := Hb c62
        refine j_aload_n d_Mo_takes_92 rfl ?_
        obtain ⟨b38, e39, H⟩ := H
        refine j_getR (f := 672) (b := b38) fe_Mo_88 rfl rfl t1 e39 d_Mo_takes_93 ?_
        refine j_aload_n d_Mo_takes_96 rfl ?_
        refine j_getI (f := 673) fe_Mo_217 rfl rfl t1 d_Mo_takes_97 ?_
        refine j_iload_n d_Mo_takes_100 rfl ?_
        obtain ⟨t40, H⟩ := H
        obtain ⟨n42, x41, H⟩ := H
        refine j_iast (n := n42) t40 x41 d_Mo_takes_101 ?_
        refine j_aload_n d_Mo_takes_102 rfl ?_
        refine j_dup d_Mo_takes_103 rfl ?_
        refine j_getI (f := 673) fe_Mo_217 rfl rfl t1 d_Mo_takes_104 ?_
        refine j_iconst (v := 1) d_Mo_takes_107 (by decide) ?_
        refine j_iadd d_Mo_takes_108 ?_
        refine j_putI (f := 673) fw_Mo_217 rfl rfl t1 d_Mo_takes_109 ?_
        refine j_aload_n d_Mo_takes_112 rfl ?_
        obtain ⟨b43, e44, H⟩ := H
        refine j_getR (f := 657) (b := b43) fe_Mo_55 rfl rfl t1 e44 d_Mo_takes_113 ?_
        refine j_iload_n d_Mo_takes_116 rfl ?_
        refine j_aload_n d_Mo_takes_117 rfl ?_
        refine j_getR (f := 657) (b := b43) fe_Mo_55 rfl rfl t1 e44 d_Mo_takes_118 ?_
        refine j_iload_n d_Mo_takes_121 rfl ?_
        obtain ⟨t45, H⟩ := H
        obtain ⟨n47, x46, H⟩ := H
        refine j_iald (n := n47) t45 x46 d_Mo_takes_122 ?_
        refine j_aload_n d_Mo_takes_123 rfl ?_
        obtain ⟨b48, e49, H⟩ := H
        refine j_getR (f := 649) (b := b48) fe_Mo_29 rfl rfl t1 e49 d_Mo_takes_124 ?_
        refine j_iload_n d_Mo_takes_127 rfl ?_
        obtain ⟨t50, H⟩ := H
        obtain ⟨n52, x51, H⟩ := H
        refine j_iald (n := n52) t50 x51 d_Mo_takes_128 ?_
        refine j_callS (d' := 1) (As := [.int ((gA (sI (sA (sI G 659 a0 (((gI G 659 a0) + (0 : Int32)))) b38 n42 p2) 673 a0 (((gI G 673 a0) + (1 : Int32)))) b43 n47)), .int ((gA (sI (sA (sI G 659 a0 (((gI G 659 a0) + (0 : Int32)))) b38 n42 p2) 673 a0 (((gI G 673 a0) + (1 : Int32)))) b48 n52))]) (rest := [.int p1, .ref b43]) cs_Mo_165 me_Mo_greater rfl (by decide) rfl rfl (Nat.le_of_ble_eq_true rfl) d_Mo_takes_129 (by decide) rfl (j_enter (L := [some (.int ((gA (sI (sA (sI G 659 a0 (((gI G 659 a0) + (0 : Int32)))) b38 n42 p2) 673 a0 (((gI G 673 a0) + (1 : Int32)))) b43 n47))), some (.int ((gA (sI (sA (sI G 659 a0 (((gI G 659 a0) + (0 : Int32)))) b38 n42 p2) 673 a0 (((gI G 673 a0) + (1 : Int32)))) b48 n52)))]) me_Mo_greater (cat_c rfl (cat_c rfl cat_n)) (Nat.le_of_ble_eq_true rfl) rfl ?_)
        refine j_iload_n d_Mo_greater_0 rfl ?_
        refine j_iload_n d_Mo_greater_1 rfl ?_
        obtain ⟨Ha, Hb⟩ := H
        refine j_icmp_le (tgt := 9) d_Mo_greater_2 (by decide) (fun c59 => ?_) (fun c60 => ?_)
        · have H := Ha c59
          refine j_iload_n d_Mo_greater_9 rfl ?_
          refine j_iret rfl d_Mo_greater_10 ?_
          show J E 4 m_Mo_takes 132 [some (.ref a0), some (.int p1), some (.int p2), some (.int p3), some (.int s0)] [.int ((gA (sI (sA (sI G 659 a0 (((gI G 659 a0) + (0 : Int32)))) b38 n42 p2) 673 a0 (((gI G 673 a0) + (1 : Int32)))) b48 n52)), .int p1, .ref b43] (sI (sA (sI G 659 a0 (((gI G 659 a0) + (0 : Int32)))) b38 n42 p2) 673 a0 (((gI G 673 a0) + (1 : Int32)))) Post
          obtain ⟨t53, H⟩ := H
          refine j_iast (n := n47) t53 x46 d_Mo_takes_132 ?_
          show J E 4 m_Mo_takes 133 [some (.ref a0), some (.int p1), some (.int p2), some (.int p3), some (.int s0)] [] (sA (sI (sA (sI G 659 a0 (((gI G 659 a0) + (0 : Int32)))) b38 n42 p2) 673 a0 (((gI G 673 a0) + (1 : Int32)))) b43 n47 ((gA (sI (sA (sI G 659 a0 (((gI G 659 a0) + (0 : Int32)))) b38 n42 p2) 673 a0 (((gI G 673 a0) + (1 : Int32)))) b48 n52))) Post
          generalize e55 : sA (sI (sA (sI G 659 a0 (((gI G 659 a0) + (0 : Int32)))) b38 n42 p2) 673 a0 (((gI G 673 a0) + (1 : Int32)))) b43 n47 ((gA (sI (sA (sI G 659 a0 (((gI G 659 a0) + (0 : Int32)))) b38 n42 p2) 673 a0 (((gI G 673 a0) + (1 : Int32)))) b48 n52)) = G54
          have e55 := e55.symm
          have H := H G54 e55
          refine j_aload_n d_Mo_takes_133 rfl ?_
          refine j_forget (L' := [none, none, none, some (.int p3), some (.int s0)]) ⟨Or.inl rfl, Or.inl rfl, Or.inl rfl, Or.inr rfl, Or.inr rfl, trivial⟩ ?_
          exact j_callV (d' := 3) (ci := 10) (As := []) (rest := []) (b := a0) cv_Mo_162 me_Mo_grows rfl (by decide) rfl rfl (by rw [e55]; exact t1) rfl rfl (Nat.le_of_ble_eq_true rfl) d_Mo_takes_134 (by decide) rfl H
        · have H := Hb c60
          refine j_iload_n d_Mo_greater_5 rfl ?_
          refine j_goto (tgt := 10) d_Mo_greater_6 (by decide) ?_
          refine j_iret rfl d_Mo_greater_10 ?_
          show J E 4 m_Mo_takes 132 [some (.ref a0), some (.int p1), some (.int p2), some (.int p3), some (.int s0)] [.int ((gA (sI (sA (sI G 659 a0 (((gI G 659 a0) + (0 : Int32)))) b38 n42 p2) 673 a0 (((gI G 673 a0) + (1 : Int32)))) b43 n47)), .int p1, .ref b43] (sI (sA (sI G 659 a0 (((gI G 659 a0) + (0 : Int32)))) b38 n42 p2) 673 a0 (((gI G 673 a0) + (1 : Int32)))) Post
          obtain ⟨t56, H⟩ := H
          refine j_iast (n := n47) t56 x46 d_Mo_takes_132 ?_
          show J E 4 m_Mo_takes 133 [some (.ref a0), some (.int p1), some (.int p2), some (.int p3), some (.int s0)] [] (sA (sI (sA (sI G 659 a0 (((gI G 659 a0) + (0 : Int32)))) b38 n42 p2) 673 a0 (((gI G 673 a0) + (1 : Int32)))) b43 n47 ((gA (sI (sA (sI G 659 a0 (((gI G 659 a0) + (0 : Int32)))) b38 n42 p2) 673 a0 (((gI G 673 a0) + (1 : Int32)))) b43 n47))) Post
          generalize e58 : sA (sI (sA (sI G 659 a0 (((gI G 659 a0) + (0 : Int32)))) b38 n42 p2) 673 a0 (((gI G 673 a0) + (1 : Int32)))) b43 n47 ((gA (sI (sA (sI G 659 a0 (((gI G 659 a0) + (0 : Int32)))) b38 n42 p2) 673 a0 (((gI G 673 a0) + (1 : Int32)))) b43 n47)) = G57
          have e58 := e58.symm
          have H := H G57 e58
          refine j_aload_n d_Mo_takes_133 rfl ?_
          refine j_forget (L' := [none, none, none, some (.int p3), some (.int s0)]) ⟨Or.inl rfl, Or.inl rfl, Or.inl rfl, Or.inr rfl, Or.inr rfl, trivial⟩ ?_
          exact j_callV (d' := 3) (ci := 10) (As := []) (rest := []) (b := a0) cv_Mo_162 me_Mo_grows rfl (by decide) rfl rfl (by rw [e58]; exact t1) rfl rfl (Nat.le_of_ble_eq_true rfl) d_Mo_takes_134 (by decide) rfl H
  · have H := Hb c129
    refine j_iconst (v := 1) d_Mo_takes_74 (by decide) ?_
    refine j_goto (tgt := 79) d_Mo_takes_75 (by decide) ?_
    refine j_iadd d_Mo_takes_79 ?_
    refine j_putI (f := 659) fw_Mo_214 rfl rfl t1 d_Mo_takes_80 ?_
    refine j_iload_n d_Mo_takes_83 rfl ?_
    obtain ⟨Ha, Hb⟩ := H
    refine j_if_ne (tgt := 112) d_Mo_takes_84 (by decide) (fun c126 => ?_) (fun c127 => ?_)
    · have H := Ha c126
      refine j_aload_n d_Mo_takes_112 rfl ?_
      obtain ⟨b65, e66, H⟩ := H
      refine j_getR (f := 657) (b := b65) fe_Mo_55 rfl rfl t1 e66 d_Mo_takes_113 ?_
      refine j_iload_n d_Mo_takes_116 rfl ?_
      refine j_aload_n d_Mo_takes_117 rfl ?_
      refine j_getR (f := 657) (b := b65) fe_Mo_55 rfl rfl t1 e66 d_Mo_takes_118 ?_
      refine j_iload_n d_Mo_takes_121 rfl ?_
      obtain ⟨t67, H⟩ := H
      obtain ⟨n69, x68, H⟩ := H
      refine j_iald (n := n69) t67 x68 d_Mo_takes_122 ?_
      refine j_aload_n d_Mo_takes_123 rfl ?_
      obtain ⟨b70, e71, H⟩ := H
      refine j_getR (f := 649) (b := b70) fe_Mo_29 rfl rfl t1 e71 d_Mo_takes_124 ?_
      refine j_iload_n d_Mo_takes_127 rfl ?_
      obtain ⟨t72, H⟩ := H
      obtain ⟨n74, x73, H⟩ := H
      refine j_iald (n := n74) t72 x73 d_Mo_takes_128 ?_
      refine j_callS (d' := 1) (As := [.int ((gA (sI G 659 a0 (((gI G 659 a0) + (1 : Int32)))) b65 n69)), .int ((gA (sI G 659 a0 (((gI G 659 a0) + (1 : Int32)))) b70 n74))]) (rest := [.int p1, .ref b65]) cs_Mo_165 me_Mo_greater rfl (by decide) rfl rfl (Nat.le_of_ble_eq_true rfl) d_Mo_takes_129 (by decide) rfl (j_enter (L := [some (.int ((gA (sI G 659 a0 (((gI G 659 a0) + (1 : Int32)))) b65 n69))), some (.int ((gA (sI G 659 a0 (((gI G 659 a0) + (1 : Int32)))) b70 n74)))]) me_Mo_greater (cat_c rfl (cat_c rfl cat_n)) (Nat.le_of_ble_eq_true rfl) rfl ?_)
      refine j_iload_n d_Mo_greater_0 rfl ?_
      refine j_iload_n d_Mo_greater_1 rfl ?_
      obtain ⟨Ha, Hb⟩ := H
      refine j_icmp_le (tgt := 9) d_Mo_greater_2 (by decide) (fun c81 => ?_) (fun c82 => ?_)
      · have H := Ha c81
        refine j_iload_n d_Mo_greater_9 rfl ?_
        refine j_iret rfl d_Mo_greater_10 ?_
        show J E 4 m_Mo_takes 132 [some (.ref a0), some (.int p1), some (.int p2), some (.int p3), some (.int s0)] [.int ((gA (sI G 659 a0 (((gI G 659 a0) + (1 : Int32)))) b70 n74)), .int p1, .ref b65] (sI G 659 a0 (((gI G 659 a0) + (1 : Int32)))) Post
        obtain ⟨t75, H⟩ := H
        refine j_iast (n := n69) t75 x68 d_Mo_takes_132 ?_
        show J E 4 m_Mo_takes 133 [some (.ref a0), some (.int p1), some (.int p2), some (.int p3), some (.int s0)] [] (sA (sI G 659 a0 (((gI G 659 a0) + (1 : Int32)))) b65 n69 ((gA (sI G 659 a0 (((gI G 659 a0) + (1 : Int32)))) b70 n74))) Post
        generalize e77 : sA (sI G 659 a0 (((gI G 659 a0) + (1 : Int32)))) b65 n69 ((gA (sI G 659 a0 (((gI G 659 a0) + (1 : Int32)))) b70 n74)) = G76
        have e77 := e77.symm
        have H := H G76 e77
        refine j_aload_n d_Mo_takes_133 rfl ?_
        refine j_forget (L' := [none, none, none, some (.int p3), some (.int s0)]) ⟨Or.inl rfl, Or.inl rfl, Or.inl rfl, Or.inr rfl, Or.inr rfl, trivial⟩ ?_
        exact j_callV (d' := 3) (ci := 10) (As := []) (rest := []) (b := a0) cv_Mo_162 me_Mo_grows rfl (by decide) rfl rfl (by rw [e77]; exact t1) rfl rfl (Nat.le_of_ble_eq_true rfl) d_Mo_takes_134 (by decide) rfl H
      · have H := Hb c82
        refine j_iload_n d_Mo_greater_5 rfl ?_
        refine j_goto (tgt := 10) d_Mo_greater_6 (by decide) ?_
        refine j_iret rfl d_Mo_greater_10 ?_
        show J E 4 m_Mo_takes 132 [some (.ref a0), some (.int p1), some (.int p2), some (.int p3), some (.int s0)] [.int ((gA (sI G 659 a0 (((gI G 659 a0) + (1 : Int32)))) b65 n69)), .int p1, .ref b65] (sI G 659 a0 (((gI G 659 a0) + (1 : Int32)))) Post
        obtain ⟨t78, H⟩ := H
        refine j_iast (n := n69) t78 x68 d_Mo_takes_132 ?_
        show J E 4 m_Mo_takes 133 [some (.ref a0), some (.int p1), some (.int p2), some (.int p3), some (.int s0)] [] (sA (sI G 659 a0 (((gI G 659 a0) + (1 : Int32)))) b65 n69 ((gA (sI G 659 a0 (((gI G 659 a0) + (1 : Int32)))) b65 n69))) Post
        generalize e80 : sA (sI G 659 a0 (((gI G 659 a0) + (1 : Int32)))) b65 n69 ((gA (sI G 659 a0 (((gI G 659 a0) + (1 : Int32)))) b65 n69)) = G79
        have e80 := e80.symm
        have H := H G79 e80
        refine j_aload_n d_Mo_takes_133 rfl ?_
        refine j_forget (L' := [none, none, none, some (.int p3), some (.int s0)]) ⟨Or.inl rfl, Or.inl rfl, Or.inl rfl, Or.inr rfl, Or.inr rfl, trivial⟩ ?_
        exact j_callV (d' := 3) (ci := 10) (As := []) (rest := []) (b := a0) cv_Mo_162 me_Mo_grows rfl (by decide) rfl rfl (by rw [e80]; exact t1) rfl rfl (Nat.le_of_ble_eq_true rfl) d_Mo_takes_134 (by decide) rfl H
    · have H := Hb c127
      refine j_iload_n d_Mo_takes_87 rfl ?_
      refine j_iconst (v := 2) d_Mo_takes_88 (by decide) ?_
      obtain ⟨Ha, Hb⟩ := H
      refine j_icmp_ge (tgt := 112) d_Mo_takes_89 (by decide) (fun c124 => ?_) (fun c125 => ?_)
      · have H := Ha c124
        refine j_aload_n d_Mo_takes_112 rfl ?_
        obtain ⟨b83, e84, H⟩ := H
        refine j_getR (f := 657) (b := b83) fe_Mo_55 rfl rfl t1 e84 d_Mo_takes_113 ?_
        refine j_iload_n d_Mo_takes_116 rfl ?_
        refine j_aload_n d_Mo_takes_117 rfl ?_
        refine j_getR (f := 657) (b := b83) fe_Mo_55 rfl rfl t1 e84 d_Mo_takes_118 ?_
        refine j_iload_n d_Mo_takes_121 rfl ?_
        obtain ⟨t85, H⟩ := H
        obtain ⟨n87, x86, H⟩ := H
        refine j_iald (n := n87) t85 x86 d_Mo_takes_122 ?_
        refine j_aload_n d_Mo_takes_123 rfl ?_
        obtain ⟨b88, e89, H⟩ := H
        refine j_getR (f := 649) (b := b88) fe_Mo_29 rfl rfl t1 e89 d_Mo_takes_124 ?_
        refine j_iload_n d_Mo_takes_127 rfl ?_
        obtain ⟨t90, H⟩ := H
        obtain ⟨n92, x91, H⟩ := H
        refine j_iald (n := n92) t90 x91 d_Mo_takes_128 ?_
        refine j_callS (d' := 1) (As := [.int ((gA (sI G 659 a0 (((gI G 659 a0) + (1 : Int32)))) b83 n87)), .int ((gA (sI G 659 a0 (((gI G 659 a0) + (1 : Int32)))) b88 n92))]) (rest := [.int p1, .ref b83]) cs_Mo_165 me_Mo_greater rfl (by decide) rfl rfl (Nat.le_of_ble_eq_true rfl) d_Mo_takes_129 (by decide) rfl (j_enter (L := [some (.int ((gA (sI G 659 a0 (((gI G 659 a0) + (1 : Int32)))) b83 n87))), some (.int ((gA (sI G 659 a0 (((gI G 659 a0) + (1 : Int32)))) b88 n92)))]) me_Mo_greater (cat_c rfl (cat_c rfl cat_n)) (Nat.le_of_ble_eq_true rfl) rfl ?_)
        refine j_iload_n d_Mo_greater_0 rfl ?_
        refine j_iload_n d_Mo_greater_1 rfl ?_
        obtain ⟨Ha, Hb⟩ := H
        refine j_icmp_le (tgt := 9) d_Mo_greater_2 (by decide) (fun c99 => ?_) (fun c100 => ?_)
        · have H := Ha c99
          refine j_iload_n d_Mo_greater_9 rfl ?_
          refine j_iret rfl d_Mo_greater_10 ?_
          show J E 4 m_Mo_takes 132 [some (.ref a0), some (.int p1), some (.int p2), some (.int p3), some (.int s0)] [.int ((gA (sI G 659 a0 (((gI G 659 a0) + (1 : Int32)))) b88 n92)), .int p1, .ref b83] (sI G 659 a0 (((gI G 659 a0) + (1 : Int32)))) Post
          obtain ⟨t93, H⟩ := H
          refine j_iast (n := n87) t93 x86 d_Mo_takes_132 ?_
          show J E 4 m_Mo_takes 133 [some (.ref a0), some (.int p1), some (.int p2), some (.int p3), some (.int s0)] [] (sA (sI G 659 a0 (((gI G 659 a0) + (1 : Int32)))) b83 n87 ((gA (sI G 659 a0 (((gI G 659 a0) + (1 : Int32)))) b88 n92))) Post
          generalize e95 : sA (sI G 659 a0 (((gI G 659 a0) + (1 : Int32)))) b83 n87 ((gA (sI G 659 a0 (((gI G 659 a0) + (1 : Int32)))) b88 n92)) = G94
          have e95 := e95.symm
          have H := H G94 e95
          refine j_aload_n d_Mo_takes_133 rfl ?_
          refine j_forget (L' := [none, none, none, some (.int p3), some (.int s0)]) ⟨Or.inl rfl, Or.inl rfl, Or.inl rfl, Or.inr rfl, Or.inr rfl, trivial⟩ ?_
          exact j_callV (d' := 3) (ci := 10) (As := []) (rest := []) (b := a0) cv_Mo_162 me_Mo_grows rfl (by decide) rfl rfl (by rw [e95]; exact t1) rfl rfl (Nat.le_of_ble_eq_true rfl) d_Mo_takes_134 (by decide) rfl H
        · have H := Hb c100
          refine j_iload_n d_Mo_greater_5 rfl ?_
          refine j_goto (tgt := 10) d_Mo_greater_6 (by decide) ?_
          refine j_iret rfl d_Mo_greater_10 ?_
          show J E 4 m_Mo_takes 132 [some (.ref a0), some (.int p1), some (.int p2), some (.int p3), some (.int s0)] [.int ((gA (sI G 659 a0 (((gI G 659 a0) + (1 : Int32)))) b83 n87)), .int p1, .ref b83] (sI G 659 a0 (((gI G 659 a0) + (1 : Int32)))) Post
          obtain ⟨t96, H⟩ := H
          refine j_iast (n := n87) t96 x86 d_Mo_takes_132 ?_
          show J E 4 m_Mo_takes 133 [some (.ref a0), some (.int p1), some (.int p2), some (.int p3), some (.int s0)] [] (sA (sI G 659 a0 (((gI G 659 a0) + (1 : Int32)))) b83 n87 ((gA (sI G 659 a0 (((gI G 659 a0) + (1 : Int32)))) b83 n87))) Post
          generalize e98 : sA (sI G 659 a0 (((gI G 659 a0) + (1 : Int32)))) b83 n87 ((gA (sI G 659 a0 (((gI G 659 a0) + (1 : Int32)))) b83 n87)) = G97
          have e98 := e98.symm
          have H := H G97 e98
          refine j_aload_n d_Mo_takes_133 rfl ?_
          refine j_forget (L' := [none, none, none, some (.int p3), some (.int s0)]) ⟨Or.inl rfl, Or.inl rfl, Or.inl rfl, Or.inr rfl, Or.inr rfl, trivial⟩ ?_
          exact j_callV (d' := 3) (ci := 10) (As := []) (rest := []) (b := a0) cv_Mo_162 me_Mo_grows rfl (by decide) rfl rfl (by rw [e98]; exact t1) rfl rfl (Nat.le_of_ble_eq_true rfl) d_Mo_takes_134 (by decide) rfl H
      · have H := Hb c125
        refine j_aload_n d_Mo_takes_92 rfl ?_
        obtain ⟨b101, e102, H⟩ := H
        refine j_getR (f := 672) (b := b101) fe_Mo_88 rfl rfl t1 e102 d_Mo_takes_93 ?_
        refine j_aload_n d_Mo_takes_96 rfl ?_
        refine j_getI (f := 673) fe_Mo_217 rfl rfl t1 d_Mo_takes_97 ?_
        refine j_iload_n d_Mo_takes_100 rfl ?_
        obtain ⟨t103, H⟩ := H
        obtain ⟨n105, x104, H⟩ := H
        refine j_iast (n := n105) t103 x104 d_Mo_takes_101 ?_
        refine j_aload_n d_Mo_takes_102 rfl ?_
        refine j_dup d_Mo_takes_103 rfl ?_
        refine j_getI (f := 673) fe_Mo_217 rfl rfl t1 d_Mo_takes_104 ?_
        refine j_iconst (v := 1) d_Mo_takes_107 (by decide) ?_
        refine j_iadd d_Mo_takes_108 ?_
        refine j_putI (f := 673) fw_Mo_217 rfl rfl t1 d_Mo_takes_109 ?_
        refine j_aload_n d_Mo_takes_112 rfl ?_
        obtain ⟨b106, e107, H⟩ := H
        refine j_getR (f := 657) (b := b106) fe_Mo_55 rfl rfl t1 e107 d_Mo_takes_113 ?_
        refine j_iload_n d_Mo_takes_116 rfl ?_
        refine j_aload_n d_Mo_takes_117 rfl ?_
        refine j_getR (f := 657) (b := b106) fe_Mo_55 rfl rfl t1 e107 d_Mo_takes_118 ?_
        refine j_iload_n d_Mo_takes_121 rfl ?_
        obtain ⟨t108, H⟩ := H
        obtain ⟨n110, x109, H⟩ := H
        refine j_iald (n := n110) t108 x109 d_Mo_takes_122 ?_
        refine j_aload_n d_Mo_takes_123 rfl ?_
        obtain ⟨b111, e112, H⟩ := H
        refine j_getR (f := 649) (b := b111) fe_Mo_29 rfl rfl t1 e112 d_Mo_takes_124 ?_
        refine j_iload_n d_Mo_takes_127 rfl ?_
        obtain ⟨t113, H⟩ := H
        obtain ⟨n115, x114, H⟩ := H
        refine j_iald (n := n115) t113 x114 d_Mo_takes_128 ?_
        refine j_callS (d' := 1) (As := [.int ((gA (sI (sA (sI G 659 a0 (((gI G 659 a0) + (1 : Int32)))) b101 n105 p2) 673 a0 (((gI G 673 a0) + (1 : Int32)))) b106 n110)), .int ((gA (sI (sA (sI G 659 a0 (((gI G 659 a0) + (1 : Int32)))) b101 n105 p2) 673 a0 (((gI G 673 a0) + (1 : Int32)))) b111 n115))]) (rest := [.int p1, .ref b106]) cs_Mo_165 me_Mo_greater rfl (by decide) rfl rfl (Nat.le_of_ble_eq_true rfl) d_Mo_takes_129 (by decide) rfl (j_enter (L := [some (.int ((gA (sI (sA (sI G 659 a0 (((gI G 659 a0) + (1 : Int32)))) b101 n105 p2) 673 a0 (((gI G 673 a0) + (1 : Int32)))) b106 n110))), some (.int ((gA (sI (sA (sI G 659 a0 (((gI G 659 a0) + (1 : Int32)))) b101 n105 p2) 673 a0 (((gI G 673 a0) + (1 : Int32)))) b111 n115)))]) me_Mo_greater (cat_c rfl (cat_c rfl cat_n)) (Nat.le_of_ble_eq_true rfl) rfl ?_)
        refine j_iload_n d_Mo_greater_0 rfl ?_
        refine j_iload_n d_Mo_greater_1 rfl ?_
        obtain ⟨Ha, Hb⟩ := H
        refine j_icmp_le (tgt := 9) d_Mo_greater_2 (by decide) (fun c122 => ?_) (fun c123 => ?_)
        · have H := Ha c122
          refine j_iload_n d_Mo_greater_9 rfl ?_
          refine j_iret rfl d_Mo_greater_10 ?_
          show J E 4 m_Mo_takes 132 [some (.ref a0), some (.int p1), some (.int p2), some (.int p3), some (.int s0)] [.int ((gA (sI (sA (sI G 659 a0 (((gI G 659 a0) + (1 : Int32)))) b101 n105 p2) 673 a0 (((gI G 673 a0) + (1 : Int32)))) b111 n115)), .int p1, .ref b106] (sI (sA (sI G 659 a0 (((gI G 659 a0) + (1 : Int32)))) b101 n105 p2) 673 a0 (((gI G 673 a0) + (1 : Int32)))) Post
          obtain ⟨t116, H⟩ := H
          refine j_iast (n := n110) t116 x109 d_Mo_takes_132 ?_
          show J E 4 m_Mo_takes 133 [some (.ref a0), some (.int p1), some (.int p2), some (.int p3), some (.int s0)] [] (sA (sI (sA (sI G 659 a0 (((gI G 659 a0) + (1 : Int32)))) b101 n105 p2) 673 a0 (((gI G 673 a0) + (1 : Int32)))) b106 n110 ((gA (sI (sA (sI G 659 a0 (((gI G 659 a0) + (1 : Int32)))) b101 n105 p2) 673 a0 (((gI G 673 a0) + (1 : Int32)))) b111 n115))) Post
          generalize e118 : sA (sI (sA (sI G 659 a0 (((gI G 659 a0) + (1 : Int32)))) b101 n105 p2) 673 a0 (((gI G 673 a0) + (1 : Int32)))) b106 n110 ((gA (sI (sA (sI G 659 a0 (((gI G 659 a0) + (1 : Int32)))) b101 n105 p2) 673 a0 (((gI G 673 a0) + (1 : Int32)))) b111 n115)) = G117
          have e118 := e118.symm
          have H := H G117 e118
          refine j_aload_n d_Mo_takes_133 rfl ?_
          refine j_forget (L' := [none, none, none, some (.int p3), some (.int s0)]) ⟨Or.inl rfl, Or.inl rfl, Or.inl rfl, Or.inr rfl, Or.inr rfl, trivial⟩ ?_
          exact j_callV (d' := 3) (ci := 10) (As := []) (rest := []) (b := a0) cv_Mo_162 me_Mo_grows rfl (by decide) rfl rfl (by rw [e118]; exact t1) rfl rfl (Nat.le_of_ble_eq_true rfl) d_Mo_takes_134 (by decide) rfl H
        · have H := Hb c123
          refine j_iload_n d_Mo_greater_5 rfl ?_
          refine j_goto (tgt := 10) d_Mo_greater_6 (by decide) ?_
          refine j_iret rfl d_Mo_greater_10 ?_
          show J E 4 m_Mo_takes 132 [some (.ref a0), some (.int p1), some (.int p2), some (.int p3), some (.int s0)] [.int ((gA (sI (sA (sI G 659 a0 (((gI G 659 a0) + (1 : Int32)))) b101 n105 p2) 673 a0 (((gI G 673 a0) + (1 : Int32)))) b106 n110)), .int p1, .ref b106] (sI (sA (sI G 659 a0 (((gI G 659 a0) + (1 : Int32)))) b101 n105 p2) 673 a0 (((gI G 673 a0) + (1 : Int32)))) Post
          obtain ⟨t119, H⟩ := H
          refine j_iast (n := n110) t119 x109 d_Mo_takes_132 ?_
          show J E 4 m_Mo_takes 133 [some (.ref a0), some (.int p1), some (.int p2), some (.int p3), some (.int s0)] [] (sA (sI (sA (sI G 659 a0 (((gI G 659 a0) + (1 : Int32)))) b101 n105 p2) 673 a0 (((gI G 673 a0) + (1 : Int32)))) b106 n110 ((gA (sI (sA (sI G 659 a0 (((gI G 659 a0) + (1 : Int32)))) b101 n105 p2) 673 a0 (((gI G 673 a0) + (1 : Int32)))) b106 n110))) Post
          generalize e121 : sA (sI (sA (sI G 659 a0 (((gI G 659 a0) + (1 : Int32)))) b101 n105 p2) 673 a0 (((gI G 673 a0) + (1 : Int32)))) b106 n110 ((gA (sI (sA (sI G 659 a0 (((gI G 659 a0) + (1 : Int32)))) b101 n105 p2) 673 a0 (((gI G 673 a0) + (1 : Int32)))) b106 n110)) = G120
          have e121 := e121.symm
          have H := H G120 e121
          refine j_aload_n d_Mo_takes_133 rfl ?_
          refine j_forget (L' := [none, none, none, some (.int p3), some (.int s0)]) ⟨Or.inl rfl, Or.inl rfl, Or.inl rfl, Or.inr rfl, Or.inr rfl, trivial⟩ ?_
          exact j_callV (d' := 3) (ci := 10) (As := []) (rest := []) (b := a0) cv_Mo_162 me_Mo_grows rfl (by decide) rfl rfl (by rw [e121]; exact t1) rfl rfl (Nat.le_of_ble_eq_true rfl) d_Mo_takes_134 (by decide) rfl H
theorem wp_Mo_takes_137 {E : EV} {G : GH} {Post : Res → GH → Prop} (p3 : Int32) (p4 : Int32) (H : (¬ p4 = 0 → (p3 = 0 → Post (.inl (some (.int ((0 : Int32))))) G) ∧ (¬ p3 = 0 → Post (.inl (some (.int ((1 : Int32))))) G)) ∧ (p4 = 0 → Post (.inl (some (.int ((2 : Int32))))) G)) : J E 4 m_Mo_takes 137 [none, none, none, some (.int p3), some (.int p4)] [] G Post := by
  refine j_iload d_Mo_takes_137 rfl ?_
  obtain ⟨Ha, Hb⟩ := H
  refine j_if_ne (tgt := 146) d_Mo_takes_139 (by decide) (fun c3 => ?_) (fun c4 => ?_)
  · have H := Ha c3
    refine j_iload_n d_Mo_takes_146 rfl ?_
    obtain ⟨Ha, Hb⟩ := H
    refine j_if_eq (tgt := 154) d_Mo_takes_147 (by decide) (fun c1 => ?_) (fun c2 => ?_)
    · have H := Ha c1
      refine j_iconst (v := 0) d_Mo_takes_154 (by decide) ?_
      exact j_iret rfl d_Mo_takes_155 H
    · have H := Hb c2
      refine j_iconst (v := 1) d_Mo_takes_150 (by decide) ?_
      refine j_goto (tgt := 155) d_Mo_takes_151 (by decide) ?_
      exact j_iret rfl d_Mo_takes_155 H
  · have H := Hb c4
    refine j_iconst (v := 2) d_Mo_takes_142 (by decide) ?_
    refine j_goto (tgt := 155) d_Mo_takes_143 (by decide) ?_
    exact j_iret rfl d_Mo_takes_155 H
theorem wp_Mo_takesBarrier_0 {E : EV} {G : GH} {Post : Res → GH → Prop} (a0 : Nat) (p1 : Int32) (H : gT G a0 = 11 ∧ ∃ b2, gR G 662 a0 = some b2 ∧ gT G b2 = 21 ∧ ∃ n6, IX p1 n6 (gN G b2) ∧ IX (0 : Int32) 0 (gN G b2) ∧ ((gA (sA G b2 n6 ((1 : Int32))) b2 0) = 0 → Post (.inl (some (.int ((3 : Int32))))) (sA G b2 n6 ((1 : Int32)))) ∧ (¬ (gA (sA G b2 n6 ((1 : Int32))) b2 0) = 0 → IX (1 : Int32) 1 (gN G b2) ∧ ((gA (sA G b2 n6 ((1 : Int32))) b2 1) = 0 → Post (.inl (some (.int ((3 : Int32))))) (sA G b2 n6 ((1 : Int32)))) ∧ (¬ (gA (sA G b2 n6 ((1 : Int32))) b2 1) = 0 → IX (2 : Int32) 2 (gN G b2) ∧ (¬ (gA (sA G b2 n6 ((1 : Int32))) b2 2) = 0 → Cl E 2 m_Mo_snapshot [.ref a0, .int ((0 : Int32))] (sI (sA G b2 n6 ((1 : Int32))) 660 a0 ((0 : Int32))) (aft E 3 m_Mo_takesBarrier 43 [none, none] [] Post)) ∧ ((gA (sA G b2 n6 ((1 : Int32))) b2 2) = 0 → Post (.inl (some (.int ((3 : Int32))))) (sA G b2 n6 ((1 : Int32))))))) : J E 3 m_Mo_takesBarrier 0 [some (.ref a0), some (.int p1)] [] G Post := by
  refine j_aload_n d_Mo_takesBarrier_0 rfl ?_
  obtain ⟨t1, H⟩ := H
  obtain ⟨b2, e3, H⟩ := H
  refine j_getR (f := 662) (b := b2) fe_Mo_64 rfl rfl t1 e3 d_Mo_takesBarrier_1 ?_
  refine j_iload_n d_Mo_takesBarrier_4 rfl ?_
  refine j_iconst (v := 1) d_Mo_takesBarrier_5 (by decide) ?_
  obtain ⟨t4, H⟩ := H
  obtain ⟨n6, x5, H⟩ := H
  refine j_zast (n := n6) t4 x5 (by decide) d_Mo_takesBarrier_6 ?_
  refine j_aload_n d_Mo_takesBarrier_7 rfl ?_
  refine j_getR (f := 662) (b := b2) fe_Mo_64 rfl rfl t1 e3 d_Mo_takesBarrier_8 ?_
  refine j_iconst (v := 0) d_Mo_takesBarrier_11 (by decide) ?_
  obtain ⟨x7, H⟩ := H
  refine j_zald (n := 0) t4 x7 d_Mo_takesBarrier_12 ?_
  obtain ⟨Ha, Hb⟩ := H
  refine j_if_eq (tgt := 34) d_Mo_takesBarrier_13 (by decide) (fun c14 => ?_) (fun c15 => ?_)
  · have H := Ha c14
    refine j_iconst (v := 3) d_Mo_takesBarrier_34 (by decide) ?_
    exact j_iret rfl d_Mo_takesBarrier_35 H
  · have H := Hb c15
    refine j_aload_n d_Mo_takesBarrier_16 rfl ?_
    refine j_getR (f := 662) (b := b2) fe_Mo_64 rfl rfl t1 e3 d_Mo_takesBarrier_17 ?_
    refine j_iconst (v := 1) d_Mo_takesBarrier_20 (by decide) ?_
    obtain ⟨x8, H⟩ := H
    refine j_zald (n := 1) t4 x8 d_Mo_takesBarrier_21 ?_
    obtain ⟨Ha, Hb⟩ := H
    refine j_if_eq (tgt := 34) d_Mo_takesBarrier_22 (by decide) (fun c12 => ?_) (fun c13 => ?_)
    · have H := Ha c12
      refine j_iconst (v := 3) d_Mo_takesBarrier_34 (by decide) ?_
      exact j_iret rfl d_Mo_takesBarrier_35 H
    · have H := Hb c13
      refine j_aload_n d_Mo_takesBarrier_25 rfl ?_
      refine j_getR (f := 662) (b := b2) fe_Mo_64 rfl rfl t1 e3 d_Mo_takesBarrier_26 ?_
      refine j_iconst (v := 2) d_Mo_takesBarrier_29 (by decide) ?_
      obtain ⟨x9, H⟩ := H
      refine j_zald (n := 2) t4 x9 d_Mo_takesBarrier_30 ?_
      obtain ⟨Ha, Hb⟩ := H
      refine j_if_ne (tgt := 36) d_Mo_takesBarrier_31 (by decide) (fun c10 => ?_) (fun c11 => ?_)
      · have H := Ha c10
        refine j_aload_n d_Mo_takesBarrier_36 rfl ?_
        refine j_iconst (v := 0) d_Mo_takesBarrier_37 (by decide) ?_
        refine j_putZ (f := 660) fw_Mo_220 rfl rfl t1 (by decide) d_Mo_takesBarrier_38 ?_
        refine j_aload_n d_Mo_takesBarrier_41 rfl ?_
        refine j_iconst (v := 0) d_Mo_takesBarrier_42 (by decide) ?_
        refine j_forget (L' := [none, none]) ⟨Or.inl rfl, Or.inl rfl, trivial⟩ ?_
        exact j_callV (d' := 2) (ci := 10) (As := [.int ((0 : Int32))]) (rest := []) (b := a0) cv_Mo_223 me_Mo_snapshot rfl (by decide) rfl rfl t1 rfl rfl (Nat.le_of_ble_eq_true rfl) d_Mo_takesBarrier_43 (by decide) rfl H
      · have H := Hb c11
        refine j_iconst (v := 3) d_Mo_takesBarrier_34 (by decide) ?_
        exact j_iret rfl d_Mo_takesBarrier_35 H
theorem wp_Mo_takesBarrier_46 {E : EV} {G : GH} {Post : Res → GH → Prop}  (H : Post (.inl (some (.int ((4 : Int32))))) G) : J E 3 m_Mo_takesBarrier 46 [none, none] [] G Post := by
  refine j_iconst (v := 4) d_Mo_takesBarrier_46 (by decide) ?_
  exact j_iret rfl d_Mo_takesBarrier_47 H
theorem wp_Mo_take_0 {E : EV} {G : GH} {Post : Res → GH → Prop} (a0 : Nat) (p1 : Int32) (H : (p1 < (0 : Int32) → gT G a0 = 11 ∧ Post (.inl (some (.int ((0 : Int32))))) (sI G 640 a0 ((1 : Int32)))) ∧ (¬ p1 < (0 : Int32) → ((2 : Int32) < p1 → gT G a0 = 11 ∧ Post (.inl (some (.int ((0 : Int32))))) (sI G 640 a0 ((1 : Int32)))) ∧ (¬ (2 : Int32) < p1 → gT G a0 = 11 ∧ ((gI G 660 a0) = 0 → ∃ b4, gR G 654 a0 = some b4 ∧ (gT G b4 = 20 ∨ gT G b4 = 25) ∧ ∃ n8, IX p1 n8 (gN G b4) ∧ ∃ b9, gR G 653 a0 = some b9 ∧ (gT G b9 = 20 ∨ gT G b9 = 25) ∧ ∃ n13, IX p1 n13 (gN G b9) ∧ ((gA G b9 n13) ≤ (gA G b4 n8) → Post (.inl (some (.int ((0 : Int32))))) (sI G 640 a0 ((2 : Int32)))) ∧ (¬ (gA G b9 n13) ≤ (gA G b4 n8) → ((gI G 660 a0) = 0 → Cl E 4 m_Mo_takes [.ref a0, .int p1] (sI G 640 a0 ((0 : Int32))) (aft E 5 m_Mo_take 94 [none, none, none, none] [] Post)) ∧ (¬ (gI G 660 a0) = 0 → ∃ b14, gR G 661 a0 = some b14 ∧ (gT G b14 = 20 ∨ gT G b14 = 25) ∧ ∃ n18, IX p1 n18 (gN G b14) ∧ (¬ (gA (sI G 640 a0 ((0 : Int32))) b4 n8) = (gA (sI G 640 a0 ((0 : Int32))) b14 n18) → Cl E 4 m_Mo_takes [.ref a0, .int p1] (sI G 640 a0 ((0 : Int32))) (aft E 5 m_Mo_take 94 [none, none, none, none] [] Post)) ∧ ((gA (sI G 640 a0 ((0 : Int32))) b4 n8) = (gA (sI G 640 a0 ((0 : Int32))) b14 n18) → Cl E 3 m_Mo_takesBarrier [.ref a0, .int p1] (sI G 640 a0 ((0 : Int32))) (aft E 5 m_Mo_take 86 [none, none, none, none] [] Post))))) ∧ (¬ (gI G 660 a0) = 0 → ∃ b25, gR G 654 a0 = some b25 ∧ (gT G b25 = 20 ∨ gT G b25 = 25) ∧ ∃ n29, IX p1 n29 (gN G b25) ∧ ∃ b30, gR G 661 a0 = some b30 ∧ (gT G b30 = 20 ∨ gT G b30 = 25) ∧ ∃ n34, IX p1 n34 (gN G b30) ∧ (¬ (gA G b25 n29) = (gA G b30 n34) → ∃ b35, gR G 653 a0 = some b35 ∧ (gT G b35 = 20 ∨ gT G b35 = 25) ∧ ∃ n39, IX p1 n39 (gN G b35) ∧ ((gA G b35 n39) ≤ (gA G b25 n29) → Post (.inl (some (.int ((0 : Int32))))) (sI G 640 a0 ((2 : Int32)))) ∧ (¬ (gA G b35 n39) ≤ (gA G b25 n29) → ((gI G 660 a0) = 0 → Cl E 4 m_Mo_takes [.ref a0, .int p1] (sI G 640 a0 ((0 : Int32))) (aft E 5 m_Mo_take 94 [none, none, none, none] [] Post)) ∧ (¬ (gI G 660 a0) = 0 → (¬ (gA (sI G 640 a0 ((0 : Int32))) b25 n29) = (gA (sI G 640 a0 ((0 : Int32))) b30 n34) → Cl E 4 m_Mo_takes [.ref a0, .int p1] (sI G 640 a0 ((0 : Int32))) (aft E 5 m_Mo_take 94 [none, none, none, none] [] Post)) ∧ ((gA (sI G 640 a0 ((0 : Int32))) b25 n29) = (gA (sI G 640 a0 ((0 : Int32))) b30 n34) → Cl E 3 m_Mo_takesBarrier [.ref a0, .int p1] (sI G 640 a0 ((0 : Int32))) (aft E 5 m_Mo_take 86 [none, none, none, none] [] Post))))) ∧ ((gA G b25 n29) = (gA G b30 n34) → ∃ b46, gR G 662 a0 = some b46 ∧ gT G b46 = 21 ∧ ∃ n50, IX p1 n50 (gN G b46) ∧ (¬ (gA G b46 n50) = 0 → Post (.inl (some (.int ((0 : Int32))))) (sI G 640 a0 ((2 : Int32)))) ∧ ((gA G b46 n50) = 0 → ((gI G 660 a0) = 0 → Cl E 4 m_Mo_takes [.ref a0, .int p1] (sI G 640 a0 ((0 : Int32))) (aft E 5 m_Mo_take 94 [none, none, none, none] [] Post)) ∧ (¬ (gI G 660 a0) = 0 → (¬ (gA (sI G 640 a0 ((0 : Int32))) b25 n29) = (gA (sI G 640 a0 ((0 : Int32))) b30 n34) → Cl E 4 m_Mo_takes [.ref a0, .int p1] (sI G 640 a0 ((0 : Int32))) (aft E 5 m_Mo_take 94 [none, none, none, none] [] Post)) ∧ ((gA (sI G 640 a0 ((0 : Int32))) b25 n29) = (gA (sI G 640 a0 ((0 : Int32))) b30 n34) → Cl E 3 m_Mo_takesBarrier [.ref a0, .int p1] (sI G 640 a0 ((0 : Int32))) (aft E 5 m_Mo_take 86 [none, none, none, none] [] Post))))))))) : J E 5 m_Mo_take 0 [some (.ref a0), some (.int p1), none, none] [] G Post := by
  refine j_iload_n d_Mo_take_0 rfl ?_
  refine j_callS (d' := 2) (As := [.int p1]) (rest := []) cs_Mo_156 me_Mo_isSource rfl (by decide) rfl rfl (Nat.le_of_ble_eq_true rfl) d_Mo_take_1 (by decide) rfl (j_enter (L := [some (.int p1)]) me_Mo_isSource (cat_c rfl cat_n) (Nat.le_of_ble_eq_true rfl) rfl ?_)
  refine j_iload_n d_Mo_isSource_0 rfl ?_
  refine j_iconst (v := 0) d_Mo_isSource_1 (by decide) ?_
  refine j_iconst (v := 2) d_Mo_isSource_2 (by decide) ?_
  refine j_callS (d' := 1) (As := [.int p1, .int ((0 : Int32)), .int ((2 : Int32))]) (rest := []) cs_Mo_142 me_Mo_isIn rfl (by decide) rfl rfl (Nat.le_of_ble_eq_true rfl) d_Mo_isSource_3 (by decide) rfl (j_enter (L := [some (.int p1), some (.int ((0 : Int32))), some (.int ((2 : Int32)))]) me_Mo_isIn (cat_c rfl (cat_c rfl (cat_c rfl cat_n))) (Nat.le_of_ble_eq_true rfl) rfl ?_)
  refine j_iload_n d_Mo_isIn_0 rfl ?_
  refine j_iload_n d_Mo_isIn_1 rfl ?_
  obtain ⟨Ha, Hb⟩ := H
  refine j_icmp_lt (tgt := 14) d_Mo_isIn_2 (by decide) (fun c63 => ?_) (fun c64 => ?_)
  · have H := Ha c63
    refine j_iconst (v := 0) d_Mo_isIn_14 (by decide) ?_
    refine j_zret rfl (by decide) d_Mo_isIn_15 ?_
    show J E 2 m_Mo_isSource 6 [some (.int p1)] [.int ((0 : Int32))] G (aft E 5 m_Mo_take 1 [some (.ref a0), some (.int p1), none, none] [] Post)
    refine j_zret rfl (by decide) d_Mo_isSource_6 ?_
    show J E 5 m_Mo_take 4 [some (.ref a0), some (.int p1), none, none] [.int ((0 : Int32))] G Post
    refine j_istore_n (L' := [some (.ref a0), some (.int p1), some (.int ((0 : Int32))), none]) d_Mo_take_4 (by decide) rfl ?_
    refine j_iload_n d_Mo_take_5 rfl ?_
    refine j_if_eq (tgt := 48) d_Mo_take_6 (by decide) (fun _ => ?_) (fun c => absurd c (by decide))
    refine j_iconst (v := 0) d_Mo_take_48 (by decide) ?_
    refine j_istore_n (L' := [some (.ref a0), some (.int p1), some (.int ((0 : Int32))), some (.int ((0 : Int32)))]) d_Mo_take_49 (by decide) rfl ?_
    refine j_aload_n d_Mo_take_50 rfl ?_
    refine j_iload_n d_Mo_take_51 rfl ?_
    refine j_if_ne (tgt := 59) d_Mo_take_52 (by decide) (fun c => absurd c (by decide)) (fun _ => ?_)
    refine j_iconst (v := 1) d_Mo_take_55 (by decide) ?_
    refine j_goto (tgt := 68) d_Mo_take_56 (by decide) ?_
    obtain ⟨t1, H⟩ := H
    refine j_callV (d' := 1) (ci := 10) (As := [.int ((1 : Int32))]) (rest := []) (b := a0) cv_Mo_149 me_Mo_isFine rfl (by decide) rfl rfl t1 rfl rfl (Nat.le_of_ble_eq_true rfl) d_Mo_take_68 (by decide) rfl (j_enter (L := [some (.ref a0), some (.int ((1 : Int32)))]) me_Mo_isFine (cat_c rfl (cat_c rfl cat_n)) (Nat.le_of_ble_eq_true rfl) rfl ?_)
    refine j_aload_n d_Mo_isFine_0 rfl ?_
    refine j_iload_n d_Mo_isFine_1 rfl ?_
    refine j_putI (f := 640) fw_Mo_139 rfl rfl t1 d_Mo_isFine_2 ?_
    refine j_iload_n d_Mo_isFine_5 rfl ?_
    refine j_if_ne (tgt := 13) d_Mo_isFine_6 (by decide) (fun _ => ?_) (fun c => absurd c (by decide))
    refine j_iconst (v := 0) d_Mo_isFine_13 (by decide) ?_
    refine j_zret rfl (by decide) d_Mo_isFine_14 ?_
    show J E 5 m_Mo_take 71 [some (.ref a0), some (.int p1), some (.int ((0 : Int32))), some (.int ((0 : Int32)))] [.int ((0 : Int32))] (sI G 640 a0 ((1 : Int32))) Post
    refine j_if_ne (tgt := 76) d_Mo_take_71 (by decide) (fun c => absurd c (by decide)) (fun _ => ?_)
    refine j_iconst (v := 0) d_Mo_take_74 (by decide) ?_
    exact j_iret rfl d_Mo_take_75 H
  · have H := Hb c64
    refine j_iload_n d_Mo_isIn_5 rfl ?_
    refine j_iload_n d_Mo_isIn_6 rfl ?_
    obtain ⟨Ha, Hb⟩ := H
    refine j_icmp_gt (tgt := 14) d_Mo_isIn_7 (by decide) (fun c61 => ?_) (fun c62 => ?_)
    · have H := Ha c61
      refine j_iconst (v := 0) d_Mo_isIn_14 (by decide) ?_
      refine j_zret rfl (by decide) d_Mo_isIn_15 ?_
      show J E 2 m_Mo_isSource 6 [some (.int p1)] [.int ((0 : Int32))] G (aft E 5 m_Mo_take 1 [some (.ref a0), some (.int p1), none, none] [] Post)
      refine j_zret rfl (by decide) d_Mo_isSource_6 ?_
      show J E 5 m_Mo_take 4 [some (.ref a0), some (.int p1), none, none] [.int ((0 : Int32))] G Post
      refine j_istore_n (L' := [some (.ref a0), some (.int p1), some (.int ((0 : Int32))), none]) d_Mo_take_4 (by decide) rfl ?_
      refine j_iload_n d_Mo_take_5 rfl ?_
      refine j_if_eq (tgt := 48) d_Mo_take_6 (by decide) (fun _ => ?_) (fun c => absurd c (by decide))
      refine j_iconst (v := 0) d_Mo_take_48 (by decide) ?_
      refine j_istore_n (L' := [some (.ref a0), some (.int p1), some (.int ((0 : Int32))), some (.int ((0 : Int32)))]) d_Mo_take_49 (by decide) rfl ?_
      refine j_aload_n d_Mo_take_50 rfl ?_
      refine j_iload_n d_Mo_take_51 rfl ?_
      refine j_if_ne (tgt := 59) d_Mo_take_52 (by decide) (fun c => absurd c (by decide)) (fun _ => ?_)
      refine j_iconst (v := 1) d_Mo_take_55 (by decide) ?_
      refine j_goto (tgt := 68) d_Mo_take_56 (by decide) ?_
      obtain ⟨t2, H⟩ := H
      refine j_callV (d' := 1) (ci := 10) (As := [.int ((1 : Int32))]) (rest := []) (b := a0) cv_Mo_149 me_Mo_isFine rfl (by decide) rfl rfl t2 rfl rfl (Nat.le_of_ble_eq_true rfl) d_Mo_take_68 (by decide) rfl (j_enter (L := [some (.ref a0), some (.int ((1 : Int32)))]) me_Mo_isFine (cat_c rfl (cat_c rfl cat_n)) (Nat.le_of_ble_eq_true rfl) rfl ?_)
      refine j_aload_n d_Mo_isFine_0 rfl ?_
      refine j_iload_n d_Mo_isFine_1 rfl ?_
      refine j_putI (f := 640) fw_Mo_139 rfl rfl t2 d_Mo_isFine_2 ?_
      refine j_iload_n d_Mo_isFine_5 rfl ?_
      refine j_if_ne (tgt := 13) d_Mo_isFine_6 (by decide) (fun _ => ?_) (fun c => absurd c (by decide))
      refine j_iconst (v := 0) d_Mo_isFine_13 (by decide) ?_
      refine j_zret rfl (by decide) d_Mo_isFine_14 ?_
      show J E 5 m_Mo_take 71 [some (.ref a0), some (.int p1), some (.int ((0 : Int32))), some (.int ((0 : Int32)))] [.int ((0 : Int32))] (sI G 640 a0 ((1 : Int32))) Post
      refine j_if_ne (tgt := 76) d_Mo_take_71 (by decide) (fun c => absurd c (by decide)) (fun _ => ?_)
      refine j_iconst (v := 0) d_Mo_take_74 (by decide) ?_
      exact j_iret rfl d_Mo_take_75 H
    · have H := Hb c62
      refine j_iconst (v := 1) d_Mo_isIn_10 (by decide) ?_
      refine j_goto (tgt := 15) d_Mo_isIn_11 (by decide) ?_
      refine j_zret rfl (by decide) d_Mo_isIn_15 ?_
      show J E 2 m_Mo_isSource 6 [some (.int p1)] [.int ((1 : Int32))] G (aft E 5 m_Mo_take 1 [some (.ref a0), some (.int p1), none, none] [] Post)
      refine j_zret rfl (by decide) d_Mo_isSource_6 ?_
      show J E 5 m_Mo_take 4 [some (.ref a0), some (.int p1), none, none] [.int ((1 : Int32))] G Post
      refine j_istore_n (L' := [some (.ref a0), some (.int p1), some (.int ((1 : Int32))), none]) d_Mo_take_4 (by decide) rfl ?_
      refine j_iload_n d_Mo_take_5 rfl ?_
      refine j_if_eq (tgt := 48) d_Mo_take_6 (by decide) (fun c => absurd c (by decide)) (fun _ => ?_)
      refine j_aload_n d_Mo_take_9 rfl ?_
      refine j_iload_n d_Mo_take_10 rfl ?_
      obtain ⟨t3, H⟩ := H
      refine j_callV (d' := 1) (ci := 10) (As := [.int p1]) (rest := []) (b := a0) cv_Mo_227 me_Mo_isAtBarrier rfl (by decide) rfl rfl t3 rfl rfl (Nat.le_of_ble_eq_true rfl) d_Mo_take_11 (by decide) rfl (j_enter (L := [some (.ref a0), some (.int p1)]) me_Mo_isAtBarrier (cat_c rfl (cat_c rfl cat_n)) (Nat.le_of_ble_eq_true rfl) rfl ?_)
      refine j_aload_n d_Mo_isAtBarrier_0 rfl ?_
      refine j_getI (f := 660) fe_Mo_220 rfl rfl t3 d_Mo_isAtBarrier_1 ?_
      obtain ⟨Ha, Hb⟩ := H
      refine j_if_eq (tgt := 26) d_Mo_isAtBarrier_4 (by decide) (fun c59 => ?_) (fun c60 => ?_)
      · have H := Ha c59
        refine j_iconst (v := 0) d_Mo_isAtBarrier_26 (by decide) ?_
        refine j_zret rfl (by decide) d_Mo_isAtBarrier_27 ?_
        show J E 5 m_Mo_take 14 [some (.ref a0), some (.int p1), some (.int ((1 : Int32))), none] [.int ((0 : Int32))] G Post
        refine j_if_eq (tgt := 29) d_Mo_take_14 (by decide) (fun _ => ?_) (fun c => absurd c (by decide))
        refine j_aload_n d_Mo_take_29 rfl ?_
        obtain ⟨b4, e5, H⟩ := H
        refine j_getR (f := 654) (b := b4) fe_Mo_45 rfl rfl t3 e5 d_Mo_take_30 ?_
        refine j_iload_n d_Mo_take_33 rfl ?_
        obtain ⟨t6, H⟩ := H
        obtain ⟨n8, x7, H⟩ := H
        refine j_iald (n := n8) t6 x7 d_Mo_take_34 ?_
        refine j_aload_n d_Mo_take_35 rfl ?_
        obtain ⟨b9, e10, H⟩ := H
        refine j_getR (f := 653) (b := b9) fe_Mo_42 rfl rfl t3 e10 d_Mo_take_36 ?_
        refine j_iload_n d_Mo_take_39 rfl ?_
        obtain ⟨t11, H⟩ := H
        obtain ⟨n13, x12, H⟩ := H
        refine j_iald (n := n13) t11 x12 d_Mo_take_40 ?_
        obtain ⟨Ha, Hb⟩ := H
        refine j_icmp_ge (tgt := 48) d_Mo_take_41 (by decide) (fun c23 => ?_) (fun c24 => ?_)
        · have H := Ha c23
          refine j_iconst (v := 0) d_Mo_take_48 (by decide) ?_
          refine j_istore_n (L' := [some (.ref a0), some (.int p1), some (.int ((1 : Int32))), some (.int ((0 : Int32)))]) d_Mo_take_49 (by decide) rfl ?_
          refine j_aload_n d_Mo_take_50 rfl ?_
          refine j_iload_n d_Mo_take_51 rfl ?_
          refine j_if_ne (tgt := 59) d_Mo_take_52 (by decide) (fun _ => ?_) (fun c => absurd c (by decide))
          refine j_iload_n d_Mo_take_59 rfl ?_
          refine j_if_ne (tgt := 67) d_Mo_take_60 (by decide) (fun c => absurd c (by decide)) (fun _ => ?_)
          refine j_iconst (v := 2) d_Mo_take_63 (by decide) ?_
          refine j_goto (tgt := 68) d_Mo_take_64 (by decide) ?_
          refine j_callV (d' := 1) (ci := 10) (As := [.int ((2 : Int32))]) (rest := []) (b := a0) cv_Mo_149 me_Mo_isFine rfl (by decide) rfl rfl t3 rfl rfl (Nat.le_of_ble_eq_true rfl) d_Mo_take_68 (by decide) rfl (j_enter (L := [some (.ref a0), some (.int ((2 : Int32)))]) me_Mo_isFine (cat_c rfl (cat_c rfl cat_n)) (Nat.le_of_ble_eq_true rfl) rfl ?_)
          refine j_aload_n d_Mo_isFine_0 rfl ?_
          refine j_iload_n d_Mo_isFine_1 rfl ?_
          refine j_putI (f := 640) fw_Mo_139 rfl rfl t3 d_Mo_isFine_2 ?_
          refine j_iload_n d_Mo_isFine_5 rfl ?_
          refine j_if_ne (tgt := 13) d_Mo_isFine_6 (by decide) (fun _ => ?_) (fun c => absurd c (by decide))
          refine j_iconst (v := 0) d_Mo_isFine_13 (by decide) ?_
          refine j_zret rfl (by decide) d_Mo_isFine_14 ?_
          show J E 5 m_Mo_take 71 [some (.ref a0), some (.int p1), some (.int ((1 : Int32))), some (.int ((0 : Int32)))] [.int ((0 : Int32))] (sI G 640 a0 ((2 : Int32))) Post
          refine j_if_ne (tgt := 76) d_Mo_take_71 (by decide) (fun c => absurd c (by decide)) (fun _ => ?_)
          refine j_iconst (v := 0) d_Mo_take_74 (by decide) ?_
          exact j_iret rfl d_Mo_take_75 H
        · have H := Hb c24
          refine j_iconst (v := 1) d_Mo_take_44 (by decide) ?_
          refine j_goto (tgt := 49) d_Mo_take_45 (by decide) ?_
          refine j_istore_n (L' := [some (.ref a0), some (.int p1), some (.int ((1 : Int32))), some (.int ((1 : Int32)))]) d_Mo_take_49 (by decide) rfl ?_
          refine j_aload_n d_Mo_take_50 rfl ?_
          refine j_iload_n d_Mo_take_51 rfl ?_
          refine j_if_ne (tgt := 59) d_Mo_take_52 (by decide) (fun _ => ?_) (fun c => absurd c (by decide))
          refine j_iload_n d_Mo_take_59 rfl ?_
          refine j_if_ne (tgt := 67) d_Mo_take_60 (by decide) (fun _ => ?_) (fun c => absurd c (by decide))
          refine j_iconst (v := 0) d_Mo_take_67 (by decide) ?_
          refine j_callV (d' := 1) (ci := 10) (As := [.int ((0 : Int32))]) (rest := []) (b := a0) cv_Mo_149 me_Mo_isFine rfl (by decide) rfl rfl t3 rfl rfl (Nat.le_of_ble_eq_true rfl) d_Mo_take_68 (by decide) rfl (j_enter (L := [some (.ref a0), some (.int ((0 : Int32)))]) me_Mo_isFine (cat_c rfl (cat_c rfl cat_n)) (Nat.le_of_ble_eq_true rfl) rfl ?_)
          refine j_aload_n d_Mo_isFine_0 rfl ?_
          refine j_iload_n d_Mo_isFine_1 rfl ?_
          refine j_putI (f := 640) fw_Mo_139 rfl rfl t3 d_Mo_isFine_2 ?_
          refine j_iload_n d_Mo_isFine_5 rfl ?_
          refine j_if_ne (tgt := 13) d_Mo_isFine_6 (by decide) (fun c => absurd c (by decide)) (fun _ => ?_)
          refine j_iconst (v := 1) d_Mo_isFine_9 (by decide) ?_
          refine j_goto (tgt := 14) d_Mo_isFine_10 (by decide) ?_
          refine j_zret rfl (by decide) d_Mo_isFine_14 ?_
          show J E 5 m_Mo_take 71 [some (.ref a0), some (.int p1), some (.int ((1 : Int32))), some (.int ((1 : Int32)))] [.int ((1 : Int32))] (sI G 640 a0 ((0 : Int32))) Post
          refine j_if_ne (tgt := 76) d_Mo_take_71 (by decide) (fun _ => ?_) (fun c => absurd c (by decide))
          refine j_aload_n d_Mo_take_76 rfl ?_
          refine j_iload_n d_Mo_take_77 rfl ?_
          refine j_callV (d' := 1) (ci := 10) (As := [.int p1]) (rest := []) (b := a0) cv_Mo_227 me_Mo_isAtBarrier rfl (by decide) rfl rfl t3 rfl rfl (Nat.le_of_ble_eq_true rfl) d_Mo_take_78 (by decide) rfl (j_enter (L := [some (.ref a0), some (.int p1)]) me_Mo_isAtBarrier (cat_c rfl (cat_c rfl cat_n)) (Nat.le_of_ble_eq_true rfl) rfl ?_)
          refine j_aload_n d_Mo_isAtBarrier_0 rfl ?_
          refine j_getI (f := 660) fe_Mo_220 rfl rfl t3 d_Mo_isAtBarrier_1 ?_
          obtain ⟨Ha, Hb⟩ := H
          refine j_if_eq (tgt := 26) d_Mo_isAtBarrier_4 (by decide) (fun c21 => ?_) (fun c22 => ?_)
          · have H := Ha c21
            refine j_iconst (v := 0) d_Mo_isAtBarrier_26 (by decide) ?_
            refine j_zret rfl (by decide) d_Mo_isAtBarrier_27 ?_
            show J E 5 m_Mo_take 81 [some (.ref a0), some (.int p1), some (.int ((1 : Int32))), some (.int ((1 : Int32)))] [.int ((0 : Int32))] (sI G 640 a0 ((0 : Int32))) Post
            refine j_if_eq (tgt := 92) d_Mo_take_81 (by decide) (fun _ => ?_) (fun c => absurd c (by decide))
            refine j_aload_n d_Mo_take_92 rfl ?_
            refine j_iload_n d_Mo_take_93 rfl ?_
            refine j_forget (L' := [none, none, none, none]) ⟨Or.inl rfl, Or.inl rfl, Or.inl rfl, Or.inl rfl, trivial⟩ ?_
            exact j_callV (d' := 4) (ci := 10) (As := [.int p1]) (rest := []) (b := a0) cv_Mo_233 me_Mo_takes rfl (by decide) rfl rfl t3 rfl rfl (Nat.le_of_ble_eq_true rfl) d_Mo_take_94 (by decide) rfl H
          · have H := Hb c22
            refine j_aload_n d_Mo_isAtBarrier_7 rfl ?_
            refine j_getR (f := 654) (b := b4) fe_Mo_45 rfl rfl t3 e5 d_Mo_isAtBarrier_8 ?_
            refine j_iload_n d_Mo_isAtBarrier_11 rfl ?_
            refine j_iald (n := n8) t6 x7 d_Mo_isAtBarrier_12 ?_
            refine j_aload_n d_Mo_isAtBarrier_13 rfl ?_
            obtain ⟨b14, e15, H⟩ := H
            refine j_getR (f := 661) (b := b14) fe_Mo_61 rfl rfl t3 e15 d_Mo_isAtBarrier_14 ?_
            refine j_iload_n d_Mo_isAtBarrier_17 rfl ?_
            obtain ⟨t16, H⟩ := H
            obtain ⟨n18, x17, H⟩ := H
            refine j_iald (n := n18) t16 x17 d_Mo_isAtBarrier_18 ?_
            obtain ⟨Ha, Hb⟩ := H
            refine j_icmp_ne (tgt := 26) d_Mo_isAtBarrier_19 (by decide) (fun c19 => ?_) (fun c20 => ?_)
            · have H := Ha c19
              refine j_iconst (v := 0) d_Mo_isAtBarrier_26 (by decide) ?_
              refine j_zret rfl (by decide) d_Mo_isAtBarrier_27 ?_
              show J E 5 m_Mo_take 81 [some (.ref a0), some (.int p1), some (.int ((1 : Int32))), some (.int ((1 : Int32)))] [.int ((0 : Int32))] (sI G 640 a0 ((0 : Int32))) Post
              refine j_if_eq (tgt := 92) d_Mo_take_81 (by decide) (fun _ => ?_) (fun c => absurd c (by decide))
              refine j_aload_n d_Mo_take_92 rfl ?_
              refine j_iload_n d_Mo_take_93 rfl ?_
              refine j_forget (L' := [none, none, none, none]) ⟨Or.inl rfl, Or.inl rfl, Or.inl rfl, Or.inl rfl, trivial⟩ ?_
              exact j_callV (d' := 4) (ci := 10) (As := [.int p1]) (rest := []) (b := a0) cv_Mo_233 me_Mo_takes rfl (by decide) rfl rfl t3 rfl rfl (Nat.le_of_ble_eq_true rfl) d_Mo_take_94 (by decide) rfl H
            · have H := Hb c20
              refine j_iconst (v := 1) d_Mo_isAtBarrier_22 (by decide) ?_
              refine j_goto (tgt := 27) d_Mo_isAtBarrier_23 (by decide) ?_
              refine j_zret rfl (by decide) d_Mo_isAtBarrier_27 ?_
              show J E 5 m_Mo_take 81 [some (.ref a0), some (.int p1), some (.int ((1 : Int32))), some (.int ((1 : Int32)))] [.int ((1 : Int32))] (sI G 640 a0 ((0 : Int32))) Post
              refine j_if_eq (tgt := 92) d_Mo_take_81 (by decide) (fun c => absurd c (by decide)) (fun _ => ?_)
              refine j_aload_n d_Mo_take_84 rfl ?_
              refine j_iload_n d_Mo_take_85 rfl ?_
              refine j_forget (L' := [none, none, none, none]) ⟨Or.inl rfl, Or.inl rfl, Or.inl rfl, Or.inl rfl, trivial⟩ ?_
              exact j_callV (d' := 3) (ci := 10) (As := [.int p1]) (rest := []) (b := a0) cv_Mo_230 me_Mo_takesBarrier rfl (by decide) rfl rfl t3 rfl rfl (Nat.le_of_ble_eq_true rfl) d_Mo_take_86 (by decide) rfl H
      · have H := Hb c60
        refine j_aload_n d_Mo_isAtBarrier_7 rfl ?_
        obtain ⟨b25, e26, H⟩ := H
        refine j_getR (f := 654) (b := b25) fe_Mo_45 rfl rfl t3 e26 d_Mo_isAtBarrier_8 ?_
        refine j_iload_n d_Mo_isAtBarrier_11 rfl ?_
        obtain ⟨t27, H⟩ := H
        obtain ⟨n29, x28, H⟩ := H
        refine j_iald (n := n29) t27 x28 d_Mo_isAtBarrier_12 ?_
        refine j_aload_n d_Mo_isAtBarrier_13 rfl ?_
        obtain ⟨b30, e31, H⟩ := H
        refine j_getR (f := 661) (b := b30) fe_Mo_61 rfl rfl t3 e31 d_Mo_isAtBarrier_14 ?_
        refine j_iload_n d_Mo_isAtBarrier_17 rfl ?_
        obtain ⟨t32, H⟩ := H
        obtain ⟨n34, x33, H⟩ := H
        refine j_iald (n := n34) t32 x33 d_Mo_isAtBarrier_18 ?_
        obtain ⟨Ha, Hb⟩ := H
        refine j_icmp_ne (tgt := 26) d_Mo_isAtBarrier_19 (by decide) (fun c57 => ?_) (fun c58 => ?_)
        · have H := Ha c57
          refine j_iconst (v := 0) d_Mo_isAtBarrier_26 (by decide) ?_
          refine j_zret rfl (by decide) d_Mo_isAtBarrier_27 ?_
          show J E 5 m_Mo_take 14 [some (.ref a0), some (.int p1), some (.int ((1 : Int32))), none] [.int ((0 : Int32))] G Post
          refine j_if_eq (tgt := 29) d_Mo_take_14 (by decide) (fun _ => ?_) (fun c => absurd c (by decide))
          refine j_aload_n d_Mo_take_29 rfl ?_
          refine j_getR (f := 654) (b := b25) fe_Mo_45 rfl rfl t3 e26 d_Mo_take_30 ?_
          refine j_iload_n d_Mo_take_33 rfl ?_
          refine j_iald (n := n29) t27 x28 d_Mo_take_34 ?_
          refine j_aload_n d_Mo_take_35 rfl ?_
          obtain ⟨b35, e36, H⟩ := H
          refine j_getR (f := 653) (b := b35) fe_Mo_42 rfl rfl t3 e36 d_Mo_take_36 ?_
          refine j_iload_n d_Mo_take_39 rfl ?_
          obtain ⟨t37, H⟩ := H
          obtain ⟨n39, x38, H⟩ := H
          refine j_iald (n := n39) t37 x38 d_Mo_take_40 ?_
          obtain ⟨Ha, Hb⟩ := H
          refine j_icmp_ge (tgt := 48) d_Mo_take_41 (by decide) (fun c44 => ?_) (fun c45 => ?_)
          · have H := Ha c44
            refine j_iconst (v := 0) d_Mo_take_48 (by decide) ?_
            refine j_istore_n (L' := [some (.ref a0), some (.int p1), some (.int ((1 : Int32))), some (.int ((0 : Int32)))]) d_Mo_take_49 (by decide) rfl ?_
            refine j_aload_n d_Mo_take_50 rfl ?_
            refine j_iload_n d_Mo_take_51 rfl ?_
            refine j_if_ne (tgt := 59) d_Mo_take_52 (by decide) (fun _ => ?_) (fun c => absurd c (by decide))
            refine j_iload_n d_Mo_take_59 rfl ?_
            refine j_if_ne (tgt := 67) d_Mo_take_60 (by decide) (fun c => absurd c (by decide)) (fun _ => ?_)
            refine j_iconst (v := 2) d_Mo_take_63 (by decide) ?_
            refine j_goto (tgt := 68) d_Mo_take_64 (by decide) ?_
            refine j_callV (d' := 1) (ci := 10) (As := [.int ((2 : Int32))]) (rest := []) (b := a0) cv_Mo_149 me_Mo_isFine rfl (by decide) rfl rfl t3 rfl rfl (Nat.le_of_ble_eq_true rfl) d_Mo_take_68 (by decide) rfl (j_enter (L := [some (.ref a0), some (.int ((2 : Int32)))]) me_Mo_isFine (cat_c rfl (cat_c rfl cat_n)) (Nat.le_of_ble_eq_true rfl) rfl ?_)
            refine j_aload_n d_Mo_isFine_0 rfl ?_
            refine j_iload_n d_Mo_isFine_1 rfl ?_
            refine j_putI (f := 640) fw_Mo_139 rfl rfl t3 d_Mo_isFine_2 ?_
            refine j_iload_n d_Mo_isFine_5 rfl ?_
            refine j_if_ne (tgt := 13) d_Mo_isFine_6 (by decide) (fun _ => ?_) (fun c => absurd c (by decide))
            refine j_iconst (v := 0) d_Mo_isFine_13 (by decide) ?_
            refine j_zret rfl (by decide) d_Mo_isFine_14 ?_
            show J E 5 m_Mo_take 71 [some (.ref a0), some (.int p1), some (.int ((1 : Int32))), some (.int ((0 : Int32)))] [.int ((0 : Int32))] (sI G 640 a0 ((2 : Int32))) Post
            refine j_if_ne (tgt := 76) d_Mo_take_71 (by decide) (fun c => absurd c (by decide)) (fun _ => ?_)
            refine j_iconst (v := 0) d_Mo_take_74 (by decide) ?_
            exact j_iret rfl d_Mo_take_75 H
          · have H := Hb c45
            refine j_iconst (v := 1) d_Mo_take_44 (by decide) ?_
            refine j_goto (tgt := 49) d_Mo_take_45 (by decide) ?_
            refine j_istore_n (L' := [some (.ref a0), some (.int p1), some (.int ((1 : Int32))), some (.int ((1 : Int32)))]) d_Mo_take_49 (by decide) rfl ?_
            refine j_aload_n d_Mo_take_50 rfl ?_
            refine j_iload_n d_Mo_take_51 rfl ?_
            refine j_if_ne (tgt := 59) d_Mo_take_52 (by decide) (fun _ => ?_) (fun c => absurd c (by decide))
            refine j_iload_n d_Mo_take_59 rfl ?_
            refine j_if_ne (tgt := 67) d_Mo_take_60 (by decide) (fun _ => ?_) (fun c => absurd c (by decide))
            refine j_iconst (v := 0) d_Mo_take_67 (by decide) ?_
            refine j_callV (d' := 1) (ci := 10) (As := [.int ((0 : Int32))]) (rest := []) (b := a0) cv_Mo_149 me_Mo_isFine rfl (by decide) rfl rfl t3 rfl rfl (Nat.le_of_ble_eq_true rfl) d_Mo_take_68 (by decide) rfl (j_enter (L := [some (.ref a0), some (.int ((0 : Int32)))]) me_Mo_isFine (cat_c rfl (cat_c rfl cat_n)) (Nat.le_of_ble_eq_true rfl) rfl ?_)
            refine j_aload_n d_Mo_isFine_0 rfl ?_
            refine j_iload_n d_Mo_isFine_1 rfl ?_
            refine j_putI (f := 640) fw_Mo_139 rfl rfl t3 d_Mo_isFine_2 ?_
            refine j_iload_n d_Mo_isFine_5 rfl ?_
            refine j_if_ne (tgt := 13) d_Mo_isFine_6 (by decide) (fun c => absurd c (by decide)) (fun _ => ?_)
            refine j_iconst (v := 1) d_Mo_isFine_9 (by decide) ?_
            refine j_goto (tgt := 14) d_Mo_isFine_10 (by decide) ?_
            refine j_zret rfl (by decide) d_Mo_isFine_14 ?_
            show J E 5 m_Mo_take 71 [some (.ref a0), some (.int p1), some (.int ((1 : Int32))), some (.int ((1 : Int32)))] [.int ((1 : Int32))] (sI G 640 a0 ((0 : Int32))) Post
            refine j_if_ne (tgt := 76) d_Mo_take_71 (by decide) (fun _ => ?_) (fun c => absurd c (by decide))
            refine j_aload_n d_Mo_take_76 rfl ?_
            refine j_iload_n d_Mo_take_77 rfl ?_
            refine j_callV (d' := 1) (ci := 10) (As := [.int p1]) (rest := []) (b := a0) cv_Mo_227 me_Mo_isAtBarrier rfl (by decide) rfl rfl t3 rfl rfl (Nat.le_of_ble_eq_true rfl) d_Mo_take_78 (by decide) rfl (j_enter (L := [some (.ref a0), some (.int p1)]) me_Mo_isAtBarrier (cat_c rfl (cat_c rfl cat_n)) (Nat.le_of_ble_eq_true rfl) rfl ?_)
            refine j_aload_n d_Mo_isAtBarrier_0 rfl ?_
            refine j_getI (f := 660) fe_Mo_220 rfl rfl t3 d_Mo_isAtBarrier_1 ?_
            obtain ⟨Ha, Hb⟩ := H
            refine j_if_eq (tgt := 26) d_Mo_isAtBarrier_4 (by decide) (fun c42 => ?_) (fun c43 => ?_)
            · have H := Ha c42
              refine j_iconst (v := 0) d_Mo_isAtBarrier_26 (by decide) ?_
              refine j_zret rfl (by decide) d_Mo_isAtBarrier_27 ?_
              show J E 5 m_Mo_take 81 [some (.ref a0), some (.int p1), some (.int ((1 : Int32))), some (.int ((1 : Int32)))] [.int ((0 : Int32))] (sI G 640 a0 ((0 : Int32))) Post
              refine j_if_eq (tgt := 92) d_Mo_take_81 (by decide) (fun _ => ?_) (fun c => absurd c (by decide))
              refine j_aload_n d_Mo_take_92 rfl ?_
              refine j_iload_n d_Mo_take_93 rfl ?_
              refine j_forget (L' := [none, none, none, none]) ⟨Or.inl rfl, Or.inl rfl, Or.inl rfl, Or.inl rfl, trivial⟩ ?_
              exact j_callV (d' := 4) (ci := 10) (As := [.int p1]) (rest := []) (b := a0) cv_Mo_233 me_Mo_takes rfl (by decide) rfl rfl t3 rfl rfl (Nat.le_of_ble_eq_true rfl) d_Mo_take_94 (by decide) rfl H
            · have H := Hb c43
              refine j_aload_n d_Mo_isAtBarrier_7 rfl ?_
              refine j_getR (f := 654) (b := b25) fe_Mo_45 rfl rfl t3 e26 d_Mo_isAtBarrier_8 ?_
              refine j_iload_n d_Mo_isAtBarrier_11 rfl ?_
              refine j_iald (n := n29) t27 x28 d_Mo_isAtBarrier_12 ?_
              refine j_aload_n d_Mo_isAtBarrier_13 rfl ?_
              refine j_getR (f := 661) (b := b30) fe_Mo_61 rfl rfl t3 e31 d_Mo_isAtBarrier_14 ?_
              refine j_iload_n d_Mo_isAtBarrier_17 rfl ?_
              refine j_iald (n := n34) t32 x33 d_Mo_isAtBarrier_18 ?_
              obtain ⟨Ha, Hb⟩ := H
              refine j_icmp_ne (tgt := 26) d_Mo_isAtBarrier_19 (by decide) (fun c40 => ?_) (fun c41 => ?_)
              · have H := Ha c40
                refine j_iconst (v := 0) d_Mo_isAtBarrier_26 (by decide) ?_
                refine j_zret rfl (by decide) d_Mo_isAtBarrier_27 ?_
                show J E 5 m_Mo_take 81 [some (.ref a0), some (.int p1), some (.int ((1 : Int32))), some (.int ((1 : Int32)))] [.int ((0 : Int32))] (sI G 640 a0 ((0 : Int32))) Post
                refine j_if_eq (tgt := 92) d_Mo_take_81 (by decide) (fun _ => ?_) (fun c => absurd c (by decide))
                refine j_aload_n d_Mo_take_92 rfl ?_
                refine j_iload_n d_Mo_take_93 rfl ?_
                refine j_forget (L' := [none, none, none, none]) ⟨Or.inl rfl, Or.inl rfl, Or.inl rfl, Or.inl rfl, trivial⟩ ?_
                exact j_callV (d' := 4) (ci := 10) (As := [.int p1]) (rest := []) (b := a0) cv_Mo_233 me_Mo_takes rfl (by decide) rfl rfl t3 rfl rfl (Nat.le_of_ble_eq_true rfl) d_Mo_take_94 (by decide) rfl H
              · have H := Hb c41
                refine j_iconst (v := 1) d_Mo_isAtBarrier_22 (by decide) ?_
                refine j_goto (tgt := 27) d_Mo_isAtBarrier_23 (by decide) ?_
                refine j_zret rfl (by decide) d_Mo_isAtBarrier_27 ?_
                show J E 5 m_Mo_take 81 [some (.ref a0), some (.int p1), some (.int ((1 : Int32))), some (.int ((1 : Int32)))] [.int ((1 : Int32))] (sI G 640 a0 ((0 : Int32))) Post
                refine j_if_eq (tgt := 92) d_Mo_take_81 (by decide) (fun c => absurd c (by decide)) (fun _ => ?_)
                refine j_aload_n d_Mo_take_84 rfl ?_
                refine j_iload_n d_Mo_take_85 rfl ?_
                refine j_forget (L' := [none, none, none, none]) ⟨Or.inl rfl, Or.inl rfl, Or.inl rfl, Or.inl rfl, trivial⟩ ?_
                exact j_callV (d' := 3) (ci := 10) (As := [.int p1]) (rest := []) (b := a0) cv_Mo_230 me_Mo_takesBarrier rfl (by decide) rfl rfl t3 rfl rfl (Nat.le_of_ble_eq_true rfl) d_Mo_take_86 (by decide) rfl H
        · have H := Hb c58
          refine j_iconst (v := 1) d_Mo_isAtBarrier_22 (by decide) ?_
          refine j_goto (tgt := 27) d_Mo_isAtBarrier_23 (by decide) ?_
          refine j_zret rfl (by decide) d_Mo_isAtBarrier_27 ?_
          show J E 5 m_Mo_take 14 [some (.ref a0), some (.int p1), some (.int ((1 : Int32))), none] [.int ((1 : Int32))] G Post
          refine j_if_eq (tgt := 29) d_Mo_take_14 (by decide) (fun c => absurd c (by decide)) (fun _ => ?_)
          refine j_aload_n d_Mo_take_17 rfl ?_
          obtain ⟨b46, e47, H⟩ := H
          refine j_getR (f := 662) (b := b46) fe_Mo_64 rfl rfl t3 e47 d_Mo_take_18 ?_
          refine j_iload_n d_Mo_take_21 rfl ?_
          obtain ⟨t48, H⟩ := H
          obtain ⟨n50, x49, H⟩ := H
          refine j_zald (n := n50) t48 x49 d_Mo_take_22 ?_
          obtain ⟨Ha, Hb⟩ := H
          refine j_if_ne (tgt := 48) d_Mo_take_23 (by decide) (fun c55 => ?_) (fun c56 => ?_)
          · have H := Ha c55
            refine j_iconst (v := 0) d_Mo_take_48 (by decide) ?_
            refine j_istore_n (L' := [some (.ref a0), some (.int p1), some (.int ((1 : Int32))), some (.int ((0 : Int32)))]) d_Mo_take_49 (by decide) rfl ?_
            refine j_aload_n d_Mo_take_50 rfl ?_
            refine j_iload_n d_Mo_take_51 rfl ?_
            refine j_if_ne (tgt := 59) d_Mo_take_52 (by decide) (fun _ => ?_) (fun c => absurd c (by decide))
            refine j_iload_n d_Mo_take_59 rfl ?_
            refine j_if_ne (tgt := 67) d_Mo_take_60 (by decide) (fun c => absurd c (by decide)) (fun _ => ?_)
            refine j_iconst (v := 2) d_Mo_take_63 (by decide) ?_
            refine j_goto (tgt := 68) d_Mo_take_64 (by decide) ?_
            refine j_callV (d' := 1) (ci := 10) (As := [.int ((2 : Int32))]) (rest := []) (b := a0) cv_Mo_149 me_Mo_isFine rfl (by decide) rfl rfl t3 rfl rfl (Nat.le_of_ble_eq_true rfl) d_Mo_take_68 (by decide) rfl (j_enter (L := [some (.ref a0), some (.int ((2 : Int32)))]) me_Mo_isFine (cat_c rfl (cat_c rfl cat_n)) (Nat.le_of_ble_eq_true rfl) rfl ?_)
            refine j_aload_n d_Mo_isFine_0 rfl ?_
            refine j_iload_n d_Mo_isFine_1 rfl ?_
            refine j_putI (f := 640) fw_Mo_139 rfl rfl t3 d_Mo_isFine_2 ?_
            refine j_iload_n d_Mo_isFine_5 rfl ?_
            refine j_if_ne (tgt := 13) d_Mo_isFine_6 (by decide) (fun _ => ?_) (fun c => absurd c (by decide))
            refine j_iconst (v := 0) d_Mo_isFine_13 (by decide) ?_
            refine j_zret rfl (by decide) d_Mo_isFine_14 ?_
            show J E 5 m_Mo_take 71 [some (.ref a0), some (.int p1), some (.int ((1 : Int32))), some (.int ((0 : Int32)))] [.int ((0 : Int32))] (sI G 640 a0 ((2 : Int32))) Post
            refine j_if_ne (tgt := 76) d_Mo_take_71 (by decide) (fun c => absurd c (by decide)) (fun _ => ?_)
            refine j_iconst (v := 0) d_Mo_take_74 (by decide) ?_
            exact j_iret rfl d_Mo_take_75 H
          · have H := Hb c56
            refine j_goto (tgt := 44) d_Mo_take_26 (by decide) ?_
            refine j_iconst (v := 1) d_Mo_take_44 (by decide) ?_
            refine j_goto (tgt := 49) d_Mo_take_45 (by decide) ?_
            refine j_istore_n (L' := [some (.ref a0), some (.int p1), some (.int ((1 : Int32))), some (.int ((1 : Int32)))]) d_Mo_take_49 (by decide) rfl ?_
            refine j_aload_n d_Mo_take_50 rfl ?_
            refine j_iload_n d_Mo_take_51 rfl ?_
            refine j_if_ne (tgt := 59) d_Mo_take_52 (by decide) (fun _ => ?_) (fun c => absurd c (by decide))
            refine j_iload_n d_Mo_take_59 rfl ?_
            refine j_if_ne (tgt := 67) d_Mo_take_60 (by decide) (fun _ => ?_) (fun c => absurd c (by decide))
            refine j_iconst (v := 0) d_Mo_take_67 (by decide) ?_
            refine j_callV (d' := 1) (ci := 10) (As := [.int ((0 : Int32))]) (rest := []) (b := a0) cv_Mo_149 me_Mo_isFine rfl (by decide) rfl rfl t3 rfl rfl (Nat.le_of_ble_eq_true rfl) d_Mo_take_68 (by decide) rfl (j_enter (L := [some (.ref a0), some (.int ((0 : Int32)))]) me_Mo_isFine (cat_c rfl (cat_c rfl cat_n)) (Nat.le_of_ble_eq_true rfl) rfl ?_)
            refine j_aload_n d_Mo_isFine_0 rfl ?_
            refine j_iload_n d_Mo_isFine_1 rfl ?_
            refine j_putI (f := 640) fw_Mo_139 rfl rfl t3 d_Mo_isFine_2 ?_
            refine j_iload_n d_Mo_isFine_5 rfl ?_
            refine j_if_ne (tgt := 13) d_Mo_isFine_6 (by decide) (fun c => absurd c (by decide)) (fun _ => ?_)
            refine j_iconst (v := 1) d_Mo_isFine_9 (by decide) ?_
            refine j_goto (tgt := 14) d_Mo_isFine_10 (by decide) ?_
            refine j_zret rfl (by decide) d_Mo_isFine_14 ?_
            show J E 5 m_Mo_take 71 [some (.ref a0), some (.int p1), some (.int ((1 : Int32))), some (.int ((1 : Int32)))] [.int ((1 : Int32))] (sI G 640 a0 ((0 : Int32))) Post
            refine j_if_ne (tgt := 76) d_Mo_take_71 (by decide) (fun _ => ?_) (fun c => absurd c (by decide))
            refine j_aload_n d_Mo_take_76 rfl ?_
            refine j_iload_n d_Mo_take_77 rfl ?_
            refine j_callV (d' := 1) (ci := 10) (As := [.int p1]) (rest := []) (b := a0) cv_Mo_227 me_Mo_isAtBarrier rfl (by decide) rfl rfl t3 rfl rfl (Nat.le_of_ble_eq_true rfl) d_Mo_take_78 (by decide) rfl (j_enter (L := [some (.ref a0), some (.int p1)]) me_Mo_isAtBarrier (cat_c rfl (cat_c rfl cat_n)) (Nat.le_of_ble_eq_true rfl) rfl ?_)
            refine j_aload_n d_Mo_isAtBarrier_0 rfl ?_
            refine j_getI (f := 660) fe_Mo_220 rfl rfl t3 d_Mo_isAtBarrier_1 ?_
            obtain ⟨Ha, Hb⟩ := H
            refine j_if_eq (tgt := 26) d_Mo_isAtBarrier_4 (by decide) (fun c53 => ?_) (fun c54 => ?_)
            · have H := Ha c53
              refine j_iconst (v := 0) d_Mo_isAtBarrier_26 (by decide) ?_
              refine j_zret rfl (by decide) d_Mo_isAtBarrier_27 ?_
              show J E 5 m_Mo_take 81 [some (.ref a0), some (.int p1), some (.int ((1 : Int32))), some (.int ((1 : Int32)))] [.int ((0 : Int32))] (sI G 640 a0 ((0 : Int32))) Post
              refine j_if_eq (tgt := 92) d_Mo_take_81 (by decide) (fun _ => ?_) (fun c => absurd c (by decide))
              refine j_aload_n d_Mo_take_92 rfl ?_
              refine j_iload_n d_Mo_take_93 rfl ?_
              refine j_forget (L' := [none, none, none, none]) ⟨Or.inl rfl, Or.inl rfl, Or.inl rfl, Or.inl rfl, trivial⟩ ?_
              exact j_callV (d' := 4) (ci := 10) (As := [.int p1]) (rest := []) (b := a0) cv_Mo_233 me_Mo_takes rfl (by decide) rfl rfl t3 rfl rfl (Nat.le_of_ble_eq_true rfl) d_Mo_take_94 (by decide) rfl H
            · have H := Hb c54
              refine j_aload_n d_Mo_isAtBarrier_7 rfl ?_
              refine j_getR (f := 654) (b := b25) fe_Mo_45 rfl rfl t3 e26 d_Mo_isAtBarrier_8 ?_
              refine j_iload_n d_Mo_isAtBarrier_11 rfl ?_
              refine j_iald (n := n29) t27 x28 d_Mo_isAtBarrier_12 ?_
              refine j_aload_n d_Mo_isAtBarrier_13 rfl ?_
              refine j_getR (f := 661) (b := b30) fe_Mo_61 rfl rfl t3 e31 d_Mo_isAtBarrier_14 ?_
              refine j_iload_n d_Mo_isAtBarrier_17 rfl ?_
              refine j_iald (n := n34) t32 x33 d_Mo_isAtBarrier_18 ?_
              obtain ⟨Ha, Hb⟩ := H
              refine j_icmp_ne (tgt := 26) d_Mo_isAtBarrier_19 (by decide) (fun c51 => ?_) (fun c52 => ?_)
              · have H := Ha c51
                refine j_iconst (v := 0) d_Mo_isAtBarrier_26 (by decide) ?_
                refine j_zret rfl (by decide) d_Mo_isAtBarrier_27 ?_
                show J E 5 m_Mo_take 81 [some (.ref a0), some (.int p1), some (.int ((1 : Int32))), some (.int ((1 : Int32)))] [.int ((0 : Int32))] (sI G 640 a0 ((0 : Int32))) Post
                refine j_if_eq (tgt := 92) d_Mo_take_81 (by decide) (fun _ => ?_) (fun c => absurd c (by decide))
                refine j_aload_n d_Mo_take_92 rfl ?_
                refine j_iload_n d_Mo_take_93 rfl ?_
                refine j_forget (L' := [none, none, none, none]) ⟨Or.inl rfl, Or.inl rfl, Or.inl rfl, Or.inl rfl, trivial⟩ ?_
                exact j_callV (d' := 4) (ci := 10) (As := [.int p1]) (rest := []) (b := a0) cv_Mo_233 me_Mo_takes rfl (by decide) rfl rfl t3 rfl rfl (Nat.le_of_ble_eq_true rfl) d_Mo_take_94 (by decide) rfl H
              · have H := Hb c52
                refine j_iconst (v := 1) d_Mo_isAtBarrier_22 (by decide) ?_
                refine j_goto (tgt := 27) d_Mo_isAtBarrier_23 (by decide) ?_
                refine j_zret rfl (by decide) d_Mo_isAtBarrier_27 ?_
                show J E 5 m_Mo_take 81 [some (.ref a0), some (.int p1), some (.int ((1 : Int32))), some (.int ((1 : Int32)))] [.int ((1 : Int32))] (sI G 640 a0 ((0 : Int32))) Post
                refine j_if_eq (tgt := 92) d_Mo_take_81 (by decide) (fun c => absurd c (by decide)) (fun _ => ?_)
                refine j_aload_n d_Mo_take_84 rfl ?_
                refine j_iload_n d_Mo_take_85 rfl ?_
                refine j_forget (L' := [none, none, none, none]) ⟨Or.inl rfl, Or.inl rfl, Or.inl rfl, Or.inl rfl, trivial⟩ ?_
                exact j_callV (d' := 3) (ci := 10) (As := [.int p1]) (rest := []) (b := a0) cv_Mo_230 me_Mo_takesBarrier rfl (by decide) rfl rfl t3 rfl rfl (Nat.le_of_ble_eq_true rfl) d_Mo_take_86 (by decide) rfl H
theorem wp_Mo_take_97 {E : EV} {G : GH} {Post : Res → GH → Prop} (s0 : Int32) (H : Post (.inl (some (.int s0))) G) : J E 5 m_Mo_take 97 [none, none, none, none] [.int s0] G Post := by
  exact j_iret rfl d_Mo_take_97 H
theorem wp_Mo_take_89 {E : EV} {G : GH} {Post : Res → GH → Prop} (s0 : Int32) (H : Post (.inl (some (.int s0))) G) : J E 5 m_Mo_take 89 [none, none, none, none] [.int s0] G Post := by
  refine j_goto (tgt := 97) d_Mo_take_89 (by decide) ?_
  exact j_iret rfl d_Mo_take_97 H
theorem wp_Mo_copies_0 {E : EV} {G : GH} {Post : Res → GH → Prop} (a0 : Nat) (H : J E 1 m_Mo_copies 2 [some (.ref a0), some (.int ((0 : Int32)))] [] G Post) : J E 1 m_Mo_copies 0 [some (.ref a0), none] [] G Post := by
  refine j_iconst (v := 0) d_Mo_copies_0 (by decide) ?_
  refine j_istore_n (L' := [some (.ref a0), some (.int ((0 : Int32)))]) d_Mo_copies_1 (by decide) rfl ?_
  exact H
theorem wp_Mo_copies_2 {E : EV} {G : GH} {Post : Res → GH → Prop} (a0 : Nat) (p1 : Int32) (H : gT G a0 = 11 ∧ ((gI G 669 a0) ≤ p1 → Post (.inl none) (sI G 691 a0 ((gI G 669 a0)))) ∧ (¬ (gI G 669 a0) ≤ p1 → ∃ b2, gR G 685 a0 = some b2 ∧ ∃ b4, gR G 663 a0 = some b4 ∧ (gT G b4 = 20 ∨ gT G b4 = 25) ∧ ∃ n8, IX p1 n8 (gN G b4) ∧ gT G b2 = 20 ∧ ∃ n11, IX p1 n11 (gN G b2) ∧ ∃ b12, gR G 686 a0 = some b12 ∧ ∃ b14, gR G 664 a0 = some b14 ∧ (gT G b14 = 20 ∨ gT G b14 = 25) ∧ ∃ n18, IX p1 n18 (gN G b14) ∧ gT G b12 = 20 ∧ ∃ n21, IX p1 n21 (gN G b12) ∧ ∃ b22, gR G 687 a0 = some b22 ∧ ∃ b24, gR G 665 a0 = some b24 ∧ (gT G b24 = 20 ∨ gT G b24 = 25) ∧ ∃ n28, IX p1 n28 (gN G b24) ∧ gT G b22 = 20 ∧ ∃ n31, IX p1 n31 (gN G b22) ∧ ∀ G32, G32 = sA (sA (sA G b2 n11 ((gA G b4 n8))) b12 n21 ((gA (sA G b2 n11 ((gA G b4 n8))) b14 n18))) b22 n31 ((gA (sA (sA G b2 n11 ((gA G b4 n8))) b12 n21 ((gA (sA G b2 n11 ((gA G b4 n8))) b14 n18))) b24 n28)) → ∃ b34, gR G 688 a0 = some b34 ∧ ∃ b36, gR G 666 a0 = some b36 ∧ (gT G b36 = 20 ∨ gT G b36 = 25) ∧ ∃ n40, IX p1 n40 (gN G b36) ∧ gT G b34 = 20 ∧ ∃ n43, IX p1 n43 (gN G b34) ∧ ∃ b44, gR G 689 a0 = some b44 ∧ ∃ b46, gR G 667 a0 = some b46 ∧ (gT G b46 = 20 ∨ gT G b46 = 25) ∧ ∃ n50, IX p1 n50 (gN G b46) ∧ gT G b44 = 20 ∧ ∃ n53, IX p1 n53 (gN G b44) ∧ ∃ b54, gR G 690 a0 = some b54 ∧ ∃ b56, gR G 668 a0 = some b56 ∧ gT G b56 = 21 ∧ ∃ n60, IX p1 n60 (gN G b56) ∧ gT G b54 = 21 ∧ ∃ n63, IX p1 n63 (gN G b54) ∧ ((gA (sA (sA G32 b34 n43 ((gA G32 b36 n40))) b44 n53 ((gA (sA G32 b34 n43 ((gA G32 b36 n40))) b46 n50))) b56 n60) = 0 ∨ (gA (sA (sA G32 b34 n43 ((gA G32 b36 n40))) b44 n53 ((gA (sA G32 b34 n43 ((gA G32 b36 n40))) b46 n50))) b56 n60) = 1) ∧ ∀ G65, G65 = sA (sA (sA G32 b34 n43 ((gA G32 b36 n40))) b44 n53 ((gA (sA G32 b34 n43 ((gA G32 b36 n40))) b46 n50))) b54 n63 ((gA (sA (sA G32 b34 n43 ((gA G32 b36 n40))) b44 n53 ((gA (sA G32 b34 n43 ((gA G32 b36 n40))) b46 n50))) b56 n60)) → J E 1 m_Mo_copies 2 [some (.ref a0), some (.int ((p1 + (1 : Int32))))] [] G65 Post)) : J E 1 m_Mo_copies 2 [some (.ref a0), some (.int p1)] [] G Post := by
  refine j_iload_n d_Mo_copies_2 rfl ?_
  refine j_aload_n d_Mo_copies_3 rfl ?_
  obtain ⟨t1, H⟩ := H
  refine j_getI (f := 669) fe_Mo_184 rfl rfl t1 d_Mo_copies_4 ?_
  obtain ⟨Ha, Hb⟩ := H
  refine j_icmp_ge (tgt := 88) d_Mo_copies_7 (by decide) (fun c67 => ?_) (fun c68 => ?_)
  · have H := Ha c67
    refine j_aload_n d_Mo_copies_88 rfl ?_
    refine j_aload_n d_Mo_copies_89 rfl ?_
    refine j_getI (f := 669) fe_Mo_184 rfl rfl t1 d_Mo_copies_90 ?_
    refine j_putI (f := 691) fw_Mo_236 rfl rfl t1 d_Mo_copies_93 ?_
    exact j_vret rfl d_Mo_copies_96 H
  · have H := Hb c68
    refine j_aload_n d_Mo_copies_10 rfl ?_
    obtain ⟨b2, e3, H⟩ := H
    refine j_getR (f := 685) (b := b2) fe_Mo_109 rfl rfl t1 e3 d_Mo_copies_11 ?_
    refine j_iload_n d_Mo_copies_14 rfl ?_
    refine j_aload_n d_Mo_copies_15 rfl ?_
    obtain ⟨b4, e5, H⟩ := H
    refine j_getR (f := 663) (b := b4) fe_Mo_67 rfl rfl t1 e5 d_Mo_copies_16 ?_
    refine j_iload_n d_Mo_copies_19 rfl ?_
    obtain ⟨t6, H⟩ := H
    obtain ⟨n8, x7, H⟩ := H
    refine j_iald (n := n8) t6 x7 d_Mo_copies_20 ?_
    obtain ⟨t9, H⟩ := H
    obtain ⟨n11, x10, H⟩ := H
    refine j_iast (n := n11) t9 x10 d_Mo_copies_21 ?_
    refine j_aload_n d_Mo_copies_22 rfl ?_
    obtain ⟨b12, e13, H⟩ := H
    refine j_getR (f := 686) (b := b12) fe_Mo_112 rfl rfl t1 e13 d_Mo_copies_23 ?_
    refine j_iload_n d_Mo_copies_26 rfl ?_
    refine j_aload_n d_Mo_copies_27 rfl ?_
    obtain ⟨b14, e15, H⟩ := H
    refine j_getR (f := 664) (b := b14) fe_Mo_70 rfl rfl t1 e15 d_Mo_copies_28 ?_
    refine j_iload_n d_Mo_copies_31 rfl ?_
    obtain ⟨t16, H⟩ := H
    obtain ⟨n18, x17, H⟩ := H
    refine j_iald (n := n18) t16 x17 d_Mo_copies_32 ?_
    obtain ⟨t19, H⟩ := H
    obtain ⟨n21, x20, H⟩ := H
    refine j_iast (n := n21) t19 x20 d_Mo_copies_33 ?_
    refine j_aload_n d_Mo_copies_34 rfl ?_
    obtain ⟨b22, e23, H⟩ := H
    refine j_getR (f := 687) (b := b22) fe_Mo_115 rfl rfl t1 e23 d_Mo_copies_35 ?_
    refine j_iload_n d_Mo_copies_38 rfl ?_
    refine j_aload_n d_Mo_copies_39 rfl ?_
    obtain ⟨b24, e25, H⟩ := H
    refine j_getR (f := 665) (b := b24) fe_Mo_73 rfl rfl t1 e25 d_Mo_copies_40 ?_
    refine j_iload_n d_Mo_copies_43 rfl ?_
    obtain ⟨t26, H⟩ := H
    obtain ⟨n28, x27, H⟩ := H
    refine j_iald (n := n28) t26 x27 d_Mo_copies_44 ?_
    obtain ⟨t29, H⟩ := H
    obtain ⟨n31, x30, H⟩ := H
    refine j_iast (n := n31) t29 x30 d_Mo_copies_45 ?_
    show J E 1 m_Mo_copies 46 [some (.ref a0), some (.int p1)] [] (sA (sA (sA G b2 n11 ((gA G b4 n8))) b12 n21 ((gA (sA G b2 n11 ((gA G b4 n8))) b14 n18))) b22 n31 ((gA (sA (sA G b2 n11 ((gA G b4 n8))) b12 n21 ((gA (sA G b2 n11 ((gA G b4 n8))) b14 n18))) b24 n28))) Post
    generalize e33 : sA (sA (sA G b2 n11 ((gA G b4 n8))) b12 n21 ((gA (sA G b2 n11 ((gA G b4 n8))) b14 n18))) b22 n31 ((gA (sA (sA G b2 n11 ((gA G b4 n8))) b12 n21 ((gA (sA G b2 n11 ((gA G b4 n8))) b14 n18))) b24 n28)) = G32
    have e33 := e33.symm
    have H := H G32 e33
    refine j_aload_n d_Mo_copies_46 rfl ?_
    obtain ⟨b34, e35, H⟩ := H
    refine j_getR (f := 688) (b := b34) fe_Mo_118 rfl rfl (by rw [e33]; exact t1) (by rw [e33]; exact e35) d_Mo_copies_47 ?_
    refine j_iload_n d_Mo_copies_50 rfl ?_
    refine j_aload_n d_Mo_copies_51 rfl ?_
    obtain ⟨b36, e37, H⟩ := H
    refine j_getR (f := 666) (b := b36) fe_Mo_76 rfl rfl (by rw [e33]; exact t1) (by rw [e33]; exact e37) d_Mo_copies_52 ?_
    refine j_iload_n d_Mo_copies_55 rfl ?_
    obtain ⟨t38, H⟩ := H
    obtain ⟨n40, x39, H⟩ := H
    refine j_iald (n := n40) (by rw [e33]; exact t38) (IX_n (by first | (rw [e33]; done) | (rw [e33]; rfl)) x39) d_Mo_copies_56 ?_
    obtain ⟨t41, H⟩ := H
    obtain ⟨n43, x42, H⟩ := H
    refine j_iast (n := n43) (by rw [e33]; exact t41) (IX_n (by first | (rw [e33]; done) | (rw [e33]; rfl)) x42) d_Mo_copies_57 ?_
    refine j_aload_n d_Mo_copies_58 rfl ?_
    obtain ⟨b44, e45, H⟩ := H
    refine j_getR (f := 689) (b := b44) fe_Mo_121 rfl rfl (by rw [e33]; exact t1) (by rw [e33]; exact e45) d_Mo_copies_59 ?_
    refine j_iload_n d_Mo_copies_62 rfl ?_
    refine j_aload_n d_Mo_copies_63 rfl ?_
    obtain ⟨b46, e47, H⟩ := H
    refine j_getR (f := 667) (b := b46) fe_Mo_79 rfl rfl (by rw [e33]; exact t1) (by rw [e33]; exact e47) d_Mo_copies_64 ?_
    refine j_iload_n d_Mo_copies_67 rfl ?_
    obtain ⟨t48, H⟩ := H
    obtain ⟨n50, x49, H⟩ := H
    refine j_iald (n := n50) (by rw [e33]; exact t48) (IX_n (by first | (rw [e33]; done) | (rw [e33]; rfl)) x49) d_Mo_copies_68 ?_
    obtain ⟨t51, H⟩ := H
    obtain ⟨n53, x52, H⟩ := H
    refine j_iast (n := n53) (by rw [e33]; exact t51) (IX_n (by first | (rw [e33]; done) | (rw [e33]; rfl)) x52) d_Mo_copies_69 ?_
    refine j_aload_n d_Mo_copies_70 rfl ?_
    obtain ⟨b54, e55, H⟩ := H
    refine j_getR (f := 690) (b := b54) fe_Mo_124 rfl rfl (by rw [e33]; exact t1) (by rw [e33]; exact e55) d_Mo_copies_71 ?_
    refine j_iload_n d_Mo_copies_74 rfl ?_
    refine j_aload_n d_Mo_copies_75 rfl ?_
    obtain ⟨b56, e57, H⟩ := H
    refine j_getR (f := 668) (b := b56) fe_Mo_82 rfl rfl (by rw [e33]; exact t1) (by rw [e33]; exact e57) d_Mo_copies_76 ?_
    refine j_iload_n d_Mo_copies_79 rfl ?_
    obtain ⟨t58, H⟩ := H
    obtain ⟨n60, x59, H⟩ := H
    refine j_zald (n := n60) (by rw [e33]; exact t58) (IX_n (by first | (rw [e33]; done) | (rw [e33]; rfl)) x59) d_Mo_copies_80 ?_
    obtain ⟨t61, H⟩ := H
    obtain ⟨n63, x62, H⟩ := H
    obtain ⟨z64, H⟩ := H
    refine j_zast (n := n63) (by rw [e33]; exact t61) (IX_n (by first | (rw [e33]; done) | (rw [e33]; rfl)) x62) z64 d_Mo_copies_81 ?_
    show J E 1 m_Mo_copies 82 [some (.ref a0), some (.int p1)] [] (sA (sA (sA G32 b34 n43 ((gA G32 b36 n40))) b44 n53 ((gA (sA G32 b34 n43 ((gA G32 b36 n40))) b46 n50))) b54 n63 ((gA (sA (sA G32 b34 n43 ((gA G32 b36 n40))) b44 n53 ((gA (sA G32 b34 n43 ((gA G32 b36 n40))) b46 n50))) b56 n60))) Post
    generalize e66 : sA (sA (sA G32 b34 n43 ((gA G32 b36 n40))) b44 n53 ((gA (sA G32 b34 n43 ((gA G32 b36 n40))) b46 n50))) b54 n63 ((gA (sA (sA G32 b34 n43 ((gA G32 b36 n40))) b44 n53 ((gA (sA G32 b34 n43 ((gA G32 b36 n40))) b46 n50))) b56 n60)) = G65
    have e66 := e66.symm
    have H := H G65 e66
    refine j_iinc (v := (p1 + (1 : Int32))) (L' := [some (.ref a0), some (.int ((p1 + (1 : Int32))))]) d_Mo_copies_82 rfl (by rw [show Int32.ofInt (1) = (1 : Int32) by decide]) (by decide) rfl ?_
    refine j_goto (tgt := 2) d_Mo_copies_85 (by decide) ?_
    exact H
