/-! walks; printed by wip/gen/wps.py -/
theorem wp_St_init_0 {E : EV} {G : GH} {Post : Res → GH → Prop} (a0 : Nat) (H : ∀ G1, G1 = al G 4 6 → gT G1 ((gz G)) = 4 ∧ ∀ G4, G4 = sI (sI (sI (sI G1 192 ((gz G)) ((0 : Int32))) 193 ((gz G)) ((10 : Int32))) 194 ((gz G)) ((10 : Int32))) 195 ((gz G)) ((0 : Int32)) → gT G1 a0 = 10 ∧ ∀ G7, G7 = al (sR (sI (sI G4 196 ((gz G)) ((5 : Int32))) 197 ((gz G)) ((1 : Int32))) 576 a0 (some ((gz G)))) 24 3 → ∀ G9, G9 = al G7 7 3 → Cl E 4 m_So_init [.ref ((gz G7))] G9 (aft E 6 m_St_init 26 [some (.ref a0)] [.ref ((gz G7)), .int ((0 : Int32)), .ref ((gz G4)), .ref ((gz G4)), .ref a0] Post)) : J E 6 m_St_init 0 [some (.ref a0)] [] G Post := by
  refine j_aload_n d_St_init_0 rfl ?_
  refine j_objInit co_St_1 ob1 ob2 (Nat.le_of_ble_eq_true rfl) d_St_init_1 ?_
  refine j_aload_n d_St_init_4 rfl ?_
  refine j_newT (n := 6) (t := 4) rfl ne_St_7 rfl (by decide) d_St_init_5 ?_
  show J E 6 m_St_init 8 [some (.ref a0)] [.ref ((gz G)), .ref a0] (al G 4 6) Post
  generalize e2 : al G 4 6 = G1
  have e2 := e2.symm
  have H := H G1 e2
  refine j_dup d_St_init_8 rfl ?_
  refine j_callIN (d' := 1) (As := []) (rest := [.ref ((gz G)), .ref a0]) (b := ((gz G))) cn_St_9 me_Jo_init rfl rfl (by decide) rfl rfl (Nat.le_of_ble_eq_true rfl) d_St_init_9 (by decide) rfl (j_enter (L := [some (.ref ((gz G)))]) me_Jo_init (cat_c rfl cat_n) (Nat.le_of_ble_eq_true rfl) rfl ?_)
  refine j_aload_n d_Jo_init_0 rfl ?_
  refine j_objInit co_Jo_3 ob1 ob2 (Nat.le_of_ble_eq_true rfl) d_Jo_init_1 ?_
  refine j_aload_n d_Jo_init_4 rfl ?_
  refine j_iconst (v := 0) d_Jo_init_5 (by decide) ?_
  obtain ⟨t3, H⟩ := H
  refine j_putI (f := 192) fw_Jo_9 rfl rfl t3 d_Jo_init_6 ?_
  refine j_aload_n d_Jo_init_9 rfl ?_
  refine j_bipush (v := 10) d_Jo_init_10 (by decide) ?_
  refine j_putI (f := 193) fw_Jo_15 rfl rfl t3 d_Jo_init_12 ?_
  refine j_aload_n d_Jo_init_15 rfl ?_
  refine j_bipush (v := 10) d_Jo_init_16 (by decide) ?_
  refine j_putI (f := 194) fw_Jo_18 rfl rfl t3 d_Jo_init_18 ?_
  refine j_aload_n d_Jo_init_21 rfl ?_
  refine j_iconst (v := 0) d_Jo_init_22 (by decide) ?_
  refine j_putI (f := 195) fw_Jo_21 rfl rfl t3 d_Jo_init_23 ?_
  show J E 1 m_Jo_init 26 [some (.ref ((gz G)))] [] (sI (sI (sI (sI G1 192 ((gz G)) ((0 : Int32))) 193 ((gz G)) ((10 : Int32))) 194 ((gz G)) ((10 : Int32))) 195 ((gz G)) ((0 : Int32))) (aft E 6 m_St_init 9 [some (.ref a0)] [.ref ((gz G)), .ref a0] Post)
  generalize e5 : sI (sI (sI (sI G1 192 ((gz G)) ((0 : Int32))) 193 ((gz G)) ((10 : Int32))) 194 ((gz G)) ((10 : Int32))) 195 ((gz G)) ((0 : Int32)) = G4
  have e5 := e5.symm
  have H := H G4 e5
  refine j_aload_n d_Jo_init_26 rfl ?_
  refine j_iconst (v := 5) d_Jo_init_27 (by decide) ?_
  refine j_putI (f := 196) fw_Jo_24 rfl rfl (by rw [e5]; exact t3) d_Jo_init_28 ?_
  refine j_aload_n d_Jo_init_31 rfl ?_
  refine j_iconst (v := 1) d_Jo_init_32 (by decide) ?_
  refine j_putZ (f := 197) fw_Jo_27 rfl rfl (by rw [e5]; exact t3) (by decide) d_Jo_init_33 ?_
  refine j_vret rfl d_Jo_init_36 ?_
  show J E 6 m_St_init 12 [some (.ref a0)] [.ref ((gz G)), .ref a0] (sI (sI G4 196 ((gz G)) ((5 : Int32))) 197 ((gz G)) ((1 : Int32))) Post
  obtain ⟨t6, H⟩ := H
  refine j_putFR (r := (some ((gz G)))) (f := 576) rfl ff_St_10 rfl rfl rfl (by rw [e5]; exact t6) d_St_init_12 ?_
  refine j_aload_n d_St_init_15 rfl ?_
  refine j_iconst (v := 3) d_St_init_16 (by decide) ?_
  refine j_newQ (n := 3) (t := 24) (by decide) (by decide) (by decide) (by decide) kl_St_16 d_St_init_17 ?_
  show J E 6 m_St_init 20 [some (.ref a0)] [.ref ((gz G4)), .ref a0] (al (sR (sI (sI G4 196 ((gz G)) ((5 : Int32))) 197 ((gz G)) ((1 : Int32))) 576 a0 (some ((gz G)))) 24 3) Post
  generalize e8 : al (sR (sI (sI G4 196 ((gz G)) ((5 : Int32))) 197 ((gz G)) ((1 : Int32))) 576 a0 (some ((gz G)))) 24 3 = G7
  have e8 := e8.symm
  have H := H G7 e8
  refine j_dup d_St_init_20 rfl ?_
  refine j_iconst (v := 0) d_St_init_21 (by decide) ?_
  refine j_newT (n := 3) (t := 7) rfl ne_St_16 rfl (by decide) d_St_init_22 ?_
  show J E 6 m_St_init 25 [some (.ref a0)] [.ref ((gz G7)), .int ((0 : Int32)), .ref ((gz G4)), .ref ((gz G4)), .ref a0] (al G7 7 3) Post
  generalize e10 : al G7 7 3 = G9
  have e10 := e10.symm
  have H := H G9 e10
  refine j_dup d_St_init_25 rfl ?_
  exact j_callIN (d' := 4) (As := []) (rest := [.ref ((gz G7)), .int ((0 : Int32)), .ref ((gz G4)), .ref ((gz G4)), .ref a0]) (b := ((gz G7))) cn_St_18 me_So_init rfl rfl (by decide) rfl rfl (Nat.le_of_ble_eq_true rfl) d_St_init_26 (by decide) rfl H
theorem wp_St_init_29 {E : EV} {G : GH} {Post : Res → GH → Prop} (a0 : Nat) (u0 : Nat) (u1 : Nat) (u2 : Nat) (s3 : Int32) (u4 : Nat) (H : gT G u2 = 24 ∧ ∃ n3, IX s3 n3 (gN G u2) ∧ gT G u4 = 7 ∧ ∀ G5, G5 = al (sO G u2 n3 (some u4)) 7 3 → Cl E 4 m_So_init [.ref ((gz G))] G5 (aft E 6 m_St_init 36 [some (.ref a0)] [.ref ((gz G)), .int ((1 : Int32)), .ref u1, .ref u1, .ref u0] Post)) : J E 6 m_St_init 29 [some (.ref a0)] [.ref u4, .int s3, .ref u2, .ref u1, .ref u0] G Post := by
  obtain ⟨t1, H⟩ := H
  obtain ⟨n3, x2, H⟩ := H
  obtain ⟨t4, H⟩ := H
  refine j_aastS (n := n3) t1 x2 t4 d_St_init_29 ?_
  refine j_dup d_St_init_30 rfl ?_
  refine j_iconst (v := 1) d_St_init_31 (by decide) ?_
  refine j_newT (n := 3) (t := 7) rfl ne_St_16 rfl (by decide) d_St_init_32 ?_
  show J E 6 m_St_init 35 [some (.ref a0)] [.ref ((gz G)), .int ((1 : Int32)), .ref u1, .ref u1, .ref u0] (al (sO G u2 n3 (some u4)) 7 3) Post
  generalize e6 : al (sO G u2 n3 (some u4)) 7 3 = G5
  have e6 := e6.symm
  have H := H G5 e6
  refine j_dup d_St_init_35 rfl ?_
  exact j_callIN (d' := 4) (As := []) (rest := [.ref ((gz G)), .int ((1 : Int32)), .ref u1, .ref u1, .ref u0]) (b := ((gz G))) cn_St_18 me_So_init rfl rfl (by decide) rfl rfl (Nat.le_of_ble_eq_true rfl) d_St_init_36 (by decide) rfl H
theorem wp_St_init_39 {E : EV} {G : GH} {Post : Res → GH → Prop} (a0 : Nat) (u0 : Nat) (u1 : Nat) (u2 : Nat) (s3 : Int32) (u4 : Nat) (H : gT G u2 = 24 ∧ ∃ n3, IX s3 n3 (gN G u2) ∧ gT G u4 = 7 ∧ ∀ G5, G5 = al (sO G u2 n3 (some u4)) 7 3 → Cl E 4 m_So_init [.ref ((gz G))] G5 (aft E 6 m_St_init 46 [some (.ref a0)] [.ref ((gz G)), .int ((2 : Int32)), .ref u1, .ref u1, .ref u0] Post)) : J E 6 m_St_init 39 [some (.ref a0)] [.ref u4, .int s3, .ref u2, .ref u1, .ref u0] G Post := by
  obtain ⟨t1, H⟩ := H
  obtain ⟨n3, x2, H⟩ := H
  obtain ⟨t4, H⟩ := H
  refine j_aastS (n := n3) t1 x2 t4 d_St_init_39 ?_
  refine j_dup d_St_init_40 rfl ?_
  refine j_iconst (v := 2) d_St_init_41 (by decide) ?_
  refine j_newT (n := 3) (t := 7) rfl ne_St_16 rfl (by decide) d_St_init_42 ?_
  show J E 6 m_St_init 45 [some (.ref a0)] [.ref ((gz G)), .int ((2 : Int32)), .ref u1, .ref u1, .ref u0] (al (sO G u2 n3 (some u4)) 7 3) Post
  generalize e6 : al (sO G u2 n3 (some u4)) 7 3 = G5
  have e6 := e6.symm
  have H := H G5 e6
  refine j_dup d_St_init_45 rfl ?_
  exact j_callIN (d' := 4) (As := []) (rest := [.ref ((gz G)), .int ((2 : Int32)), .ref u1, .ref u1, .ref u0]) (b := ((gz G))) cn_St_18 me_So_init rfl rfl (by decide) rfl rfl (Nat.le_of_ble_eq_true rfl) d_St_init_46 (by decide) rfl H
theorem wp_St_init_49 {E : EV} {G : GH} {Post : Res → GH → Prop} (a0 : Nat) (u0 : Nat) (u1 : Nat) (u2 : Nat) (s3 : Int32) (u4 : Nat) (H : gT G u2 = 24 ∧ ∃ n3, IX s3 n3 (gN G u2) ∧ gT G u4 = 7 ∧ gT G u0 = 10 ∧ ∀ G6, G6 = al (sR (sO G u2 n3 (some u4)) 577 u0 (some u1)) 5 8 → Cl E 5 m_Pr_init [.ref ((gz G))] G6 (aft E 6 m_St_init 58 [some (.ref a0)] [.ref ((gz G)), .ref a0] Post)) : J E 6 m_St_init 49 [some (.ref a0)] [.ref u4, .int s3, .ref u2, .ref u1, .ref u0] G Post := by
  obtain ⟨t1, H⟩ := H
  obtain ⟨n3, x2, H⟩ := H
  obtain ⟨t4, H⟩ := H
  refine j_aastS (n := n3) t1 x2 t4 d_St_init_49 ?_
  obtain ⟨t5, H⟩ := H
  refine j_putFR (r := (some u1)) (f := 577) rfl ff_St_19 rfl rfl rfl t5 d_St_init_50 ?_
  refine j_aload_n d_St_init_53 rfl ?_
  refine j_newT (n := 8) (t := 5) rfl ne_St_23 rfl (by decide) d_St_init_54 ?_
  show J E 6 m_St_init 57 [some (.ref a0)] [.ref ((gz G)), .ref a0] (al (sR (sO G u2 n3 (some u4)) 577 u0 (some u1)) 5 8) Post
  generalize e7 : al (sR (sO G u2 n3 (some u4)) 577 u0 (some u1)) 5 8 = G6
  have e7 := e7.symm
  have H := H G6 e7
  refine j_dup d_St_init_57 rfl ?_
  exact j_callIN (d' := 5) (As := []) (rest := [.ref ((gz G)), .ref a0]) (b := ((gz G))) cn_St_25 me_Pr_init rfl rfl (by decide) rfl rfl (Nat.le_of_ble_eq_true rfl) d_St_init_58 (by decide) rfl H
theorem wp_St_init_61 {E : EV} {G : GH} {Post : Res → GH → Prop} (a0 : Nat) (u0 : Nat) (u1 : Nat) (H : gT G u0 = 10 ∧ ∀ G2, G2 = al (sR G 578 u0 (some u1)) 5 8 → Cl E 5 m_Pr_init [.ref ((gz G))] G2 (aft E 6 m_St_init 69 [some (.ref a0)] [.ref ((gz G)), .ref a0] Post)) : J E 6 m_St_init 61 [some (.ref a0)] [.ref u1, .ref u0] G Post := by
  obtain ⟨t1, H⟩ := H
  refine j_putFR (r := (some u1)) (f := 578) rfl ff_St_26 rfl rfl rfl t1 d_St_init_61 ?_
  refine j_aload_n d_St_init_64 rfl ?_
  refine j_newT (n := 8) (t := 5) rfl ne_St_23 rfl (by decide) d_St_init_65 ?_
  show J E 6 m_St_init 68 [some (.ref a0)] [.ref ((gz G)), .ref a0] (al (sR G 578 u0 (some u1)) 5 8) Post
  generalize e3 : al (sR G 578 u0 (some u1)) 5 8 = G2
  have e3 := e3.symm
  have H := H G2 e3
  refine j_dup d_St_init_68 rfl ?_
  exact j_callIN (d' := 5) (As := []) (rest := [.ref ((gz G)), .ref a0]) (b := ((gz G))) cn_St_25 me_Pr_init rfl rfl (by decide) rfl rfl (Nat.le_of_ble_eq_true rfl) d_St_init_69 (by decide) rfl H
theorem wp_St_init_72 {E : EV} {G : GH} {Post : Res → GH → Prop} (a0 : Nat) (u0 : Nat) (u1 : Nat) (H : gT G u0 = 10 ∧ ∀ G2, G2 = al (sR G 579 u0 (some u1)) 3 4 → Cl E 4 m_Hi_init [.ref ((gz G))] G2 (aft E 6 m_St_init 80 [some (.ref a0)] [.ref ((gz G)), .ref a0] Post)) : J E 6 m_St_init 72 [some (.ref a0)] [.ref u1, .ref u0] G Post := by
  obtain ⟨t1, H⟩ := H
  refine j_putFR (r := (some u1)) (f := 579) rfl ff_St_30 rfl rfl rfl t1 d_St_init_72 ?_
  refine j_aload_n d_St_init_75 rfl ?_
  refine j_newT (n := 4) (t := 3) rfl ne_St_33 rfl (by decide) d_St_init_76 ?_
  show J E 6 m_St_init 79 [some (.ref a0)] [.ref ((gz G)), .ref a0] (al (sR G 579 u0 (some u1)) 3 4) Post
  generalize e3 : al (sR G 579 u0 (some u1)) 3 4 = G2
  have e3 := e3.symm
  have H := H G2 e3
  refine j_dup d_St_init_79 rfl ?_
  exact j_callIN (d' := 4) (As := []) (rest := [.ref ((gz G)), .ref a0]) (b := ((gz G))) cn_St_35 me_Hi_init rfl rfl (by decide) rfl rfl (Nat.le_of_ble_eq_true rfl) d_St_init_80 (by decide) rfl H
theorem wp_St_init_83 {E : EV} {G : GH} {Post : Res → GH → Prop} (a0 : Nat) (u0 : Nat) (u1 : Nat) (H : gT G u0 = 10 ∧ ∀ G2, G2 = al (sR G 580 u0 (some u1)) 6 4 → Cl E 4 m_Si_init [.ref ((gz G))] G2 (aft E 6 m_St_init 91 [some (.ref a0)] [.ref ((gz G)), .ref a0] Post)) : J E 6 m_St_init 83 [some (.ref a0)] [.ref u1, .ref u0] G Post := by
  obtain ⟨t1, H⟩ := H
  refine j_putFR (r := (some u1)) (f := 580) rfl ff_St_36 rfl rfl rfl t1 d_St_init_83 ?_
  refine j_aload_n d_St_init_86 rfl ?_
  refine j_newT (n := 4) (t := 6) rfl ne_St_40 rfl (by decide) d_St_init_87 ?_
  show J E 6 m_St_init 90 [some (.ref a0)] [.ref ((gz G)), .ref a0] (al (sR G 580 u0 (some u1)) 6 4) Post
  generalize e3 : al (sR G 580 u0 (some u1)) 6 4 = G2
  have e3 := e3.symm
  have H := H G2 e3
  refine j_dup d_St_init_90 rfl ?_
  exact j_callIN (d' := 4) (As := []) (rest := [.ref ((gz G)), .ref a0]) (b := ((gz G))) cn_St_42 me_Si_init rfl rfl (by decide) rfl rfl (Nat.le_of_ble_eq_true rfl) d_St_init_91 (by decide) rfl H
theorem wp_St_init_94 {E : EV} {G : GH} {Post : Res → GH → Prop} (a0 : Nat) (u0 : Nat) (u1 : Nat) (H : gT G u0 = 10 ∧ ∀ G2, G2 = al (sR G 581 u0 (some u1)) 1 3 → ∀ G4, G4 = al G2 20 3 → gT G4 ((gz G)) = 1 ∧ ∀ G7, G7 = al (sR G4 0 ((gz G)) (some ((gz G2)))) 21 3 → gT G7 ((gz G)) = 1 ∧ gT G7 a0 = 10 ∧ ∀ G11, G11 = sI (sR (sI (sR G7 1 ((gz G)) (some ((gz G4)))) 2 ((gz G)) ((0 : Int32))) 582 a0 (some ((gz G)))) 583 a0 ((0 : Int32)) → Post (.inl none) (sI (sI (sI G11 584 a0 ((0 : Int32))) 585 a0 ((0 : Int32))) 586 a0 ((1 : Int32)))) : J E 6 m_St_init 94 [some (.ref a0)] [.ref u1, .ref u0] G Post := by
  obtain ⟨t1, H⟩ := H
  refine j_putFR (r := (some u1)) (f := 581) rfl ff_St_43 rfl rfl rfl t1 d_St_init_94 ?_
  refine j_aload_n d_St_init_97 rfl ?_
  refine j_newT (n := 3) (t := 1) rfl ne_St_47 rfl (by decide) d_St_init_98 ?_
  show J E 6 m_St_init 101 [some (.ref a0)] [.ref ((gz G)), .ref a0] (al (sR G 581 u0 (some u1)) 1 3) Post
  generalize e3 : al (sR G 581 u0 (some u1)) 1 3 = G2
  have e3 := e3.symm
  have H := H G2 e3
  refine j_dup d_St_init_101 rfl ?_
  refine j_callIN (d' := 1) (As := []) (rest := [.ref ((gz G)), .ref a0]) (b := ((gz G))) cn_St_49 me_Ba_init rfl rfl (by decide) rfl rfl (Nat.le_of_ble_eq_true rfl) d_St_init_102 (by decide) rfl (j_enter (L := [some (.ref ((gz G)))]) me_Ba_init (cat_c rfl cat_n) (Nat.le_of_ble_eq_true rfl) rfl ?_)
  refine j_aload_n d_Ba_init_0 rfl ?_
  refine j_objInit co_Ba_3 ob1 ob2 (Nat.le_of_ble_eq_true rfl) d_Ba_init_1 ?_
  refine j_aload_n d_Ba_init_4 rfl ?_
  refine j_iconst (v := 3) d_Ba_init_5 (by decide) ?_
  refine j_newI (n := 3) (by decide) (by decide) (by decide) wa_int d_Ba_init_6 ?_
  show J E 1 m_Ba_init 8 [some (.ref ((gz G)))] [.ref ((gz G2)), .ref ((gz G))] (al G2 20 3) (aft E 6 m_St_init 102 [some (.ref a0)] [.ref ((gz G)), .ref a0] Post)
  generalize e5 : al G2 20 3 = G4
  have e5 := e5.symm
  have H := H G4 e5
  obtain ⟨t6, H⟩ := H
  refine j_putFR (r := (some ((gz G2)))) (f := 0) rfl ff_Ba_9 rfl rfl rfl t6 d_Ba_init_8 ?_
  refine j_aload_n d_Ba_init_11 rfl ?_
  refine j_iconst (v := 3) d_Ba_init_12 (by decide) ?_
  refine j_newZ (n := 3) (by decide) (by decide) (by decide) wa_boolean d_Ba_init_13 ?_
  show J E 1 m_Ba_init 15 [some (.ref ((gz G)))] [.ref ((gz G4)), .ref ((gz G))] (al (sR G4 0 ((gz G)) (some ((gz G2)))) 21 3) (aft E 6 m_St_init 102 [some (.ref a0)] [.ref ((gz G)), .ref a0] Post)
  generalize e8 : al (sR G4 0 ((gz G)) (some ((gz G2)))) 21 3 = G7
  have e8 := e8.symm
  have H := H G7 e8
  obtain ⟨t9, H⟩ := H
  refine j_putFR (r := (some ((gz G4)))) (f := 1) rfl ff_Ba_15 rfl rfl rfl t9 d_Ba_init_15 ?_
  refine j_aload_n d_Ba_init_18 rfl ?_
  refine j_iconst (v := 0) d_Ba_init_19 (by decide) ?_
  refine j_putZ (f := 2) fw_Ba_19 rfl rfl t9 (by decide) d_Ba_init_20 ?_
  refine j_vret rfl d_Ba_init_23 ?_
  show J E 6 m_St_init 105 [some (.ref a0)] [.ref ((gz G)), .ref a0] (sI (sR G7 1 ((gz G)) (some ((gz G4)))) 2 ((gz G)) ((0 : Int32))) Post
  obtain ⟨t10, H⟩ := H
  refine j_putFR (r := (some ((gz G)))) (f := 582) rfl ff_St_50 rfl rfl rfl t10 d_St_init_105 ?_
  refine j_aload_n d_St_init_108 rfl ?_
  refine j_iconst (v := 0) d_St_init_109 (by decide) ?_
  refine j_putZ (f := 583) fw_St_54 rfl rfl t10 (by decide) d_St_init_110 ?_
  show J E 6 m_St_init 113 [some (.ref a0)] [] (sI (sR (sI (sR G7 1 ((gz G)) (some ((gz G4)))) 2 ((gz G)) ((0 : Int32))) 582 a0 (some ((gz G)))) 583 a0 ((0 : Int32))) Post
  generalize e12 : sI (sR (sI (sR G7 1 ((gz G)) (some ((gz G4)))) 2 ((gz G)) ((0 : Int32))) 582 a0 (some ((gz G)))) 583 a0 ((0 : Int32)) = G11
  have e12 := e12.symm
  have H := H G11 e12
  refine j_aload_n d_St_init_113 rfl ?_
  refine j_iconst (v := 0) d_St_init_114 (by decide) ?_
  refine j_putI (f := 584) fw_St_58 rfl rfl (by rw [e12]; exact t10) d_St_init_115 ?_
  refine j_aload_n d_St_init_118 rfl ?_
  refine j_iconst (v := 0) d_St_init_119 (by decide) ?_
  refine j_putZ (f := 585) fw_St_62 rfl rfl (by rw [e12]; exact t10) (by decide) d_St_init_120 ?_
  refine j_aload_n d_St_init_123 rfl ?_
  refine j_iconst (v := 1) d_St_init_124 (by decide) ?_
  refine j_putI (f := 586) fw_St_65 rfl rfl (by rw [e12]; exact t10) d_St_init_125 ?_
  exact j_vret rfl d_St_init_128 H
theorem wp_St_job_0 {E : EV} {G : GH} {Post : Res → GH → Prop} (a0 : Nat) (p1 : Int32) (p2 : Int32) (p3 : Int32) (p4 : Int32) (p5 : Int32) (p6 : Int32) (H : (p1 < 0 → Post (.inr "java/lang/IllegalArgumentException") (bump G 1 6)) ∧ (¬ p1 < 0 → ((2 : Int32) < p1 → Post (.inr "java/lang/IllegalArgumentException") (bump G 1 6)) ∧ (¬ (2 : Int32) < p1 → (p2 < (1 : Int32) → Post (.inr "java/lang/IllegalArgumentException") (bump G 1 6)) ∧ (¬ p2 < (1 : Int32) → ((200 : Int32) < p2 → Post (.inr "java/lang/IllegalArgumentException") (bump G 1 6)) ∧ (¬ (200 : Int32) < p2 → (p4 < 0 → Post (.inr "java/lang/IllegalArgumentException") (bump G 1 6)) ∧ (¬ p4 < 0 → ((200 : Int32) < p4 → Post (.inr "java/lang/IllegalArgumentException") (bump G 1 6)) ∧ (¬ (200 : Int32) < p4 → (p5 < 0 → Post (.inr "java/lang/IllegalArgumentException") (bump G 1 6)) ∧ (¬ p5 < 0 → ((200 : Int32) < p5 → Post (.inr "java/lang/IllegalArgumentException") (bump G 1 6)) ∧ (¬ (200 : Int32) < p5 → (¬ p1 = (1 : Int32) → gT G a0 = 10 ∧ ((gI G 583 a0) = 0 → ∃ b2, gR G 576 a0 = some b2 ∧ gT G b2 = 4 ∧ (¬ p1 = (1 : Int32) → (p6 = 0 ∨ p6 = 1) ∧ Post (.inl none) (sI (sI (sI (sI (sI (sI G 192 b2 p1) 193 b2 p2) 194 b2 p2) 195 b2 p4) 196 b2 p5) 197 b2 p6)) ∧ (p1 = (1 : Int32) → (p6 = 0 ∨ p6 = 1) ∧ Post (.inl none) (sI (sI (sI (sI (sI (sI G 192 b2 p1) 193 b2 p2) 194 b2 p3) 195 b2 p4) 196 b2 p5) 197 b2 p6))) ∧ (¬ (gI G 583 a0) = 0 → Post (.inr "java/lang/IllegalStateException") (bump G 1 6))) ∧ (p1 = (1 : Int32) → (p3 < (1 : Int32) → Post (.inr "java/lang/IllegalArgumentException") (bump G 1 6)) ∧ (¬ p3 < (1 : Int32) → (p2 < p3 → Post (.inr "java/lang/IllegalArgumentException") (bump G 1 6)) ∧ (¬ p2 < p3 → (((8 : Int32) * p3) < p2 → Post (.inr "java/lang/IllegalArgumentException") (bump G 1 6)) ∧ (¬ ((8 : Int32) * p3) < p2 → gT G a0 = 10 ∧ ((gI G 583 a0) = 0 → ∃ b12, gR G 576 a0 = some b12 ∧ gT G b12 = 4 ∧ (¬ p1 = (1 : Int32) → (p6 = 0 ∨ p6 = 1) ∧ Post (.inl none) (sI (sI (sI (sI (sI (sI G 192 b12 p1) 193 b12 p2) 194 b12 p2) 195 b12 p4) 196 b12 p5) 197 b12 p6)) ∧ (p1 = (1 : Int32) → (p6 = 0 ∨ p6 = 1) ∧ Post (.inl none) (sI (sI (sI (sI (sI (sI G 192 b12 p1) 193 b12 p2) 194 b12 p3) 195 b12 p4) 196 b12 p5) 197 b12 p6))) ∧ (¬ (gI G 583 a0) = 0 → Post (.inr "java/lang/IllegalStateException") (bump G 1 6))))))))))))))) : J E 2 m_St_job 0 [some (.ref a0), some (.int p1), some (.int p2), some (.int p3), some (.int p4), some (.int p5), some (.int p6)] [] G Post := by
  refine j_iload_n d_St_job_0 rfl ?_
  obtain ⟨Ha, Hb⟩ := H
  refine j_if_lt (tgt := 37) d_St_job_1 (by decide) (fun c43 => ?_) (fun c44 => ?_)
  · have H := Ha c43
    exact j_throw te_72_74_76 rfl d_St_job_37 d_St_job_40 d_St_job_41 d_St_job_43 d_St_job_46 (Nat.le_of_ble_eq_true rfl) H
  · have H := Hb c44
    refine j_iload_n d_St_job_4 rfl ?_
    refine j_iconst (v := 2) d_St_job_5 (by decide) ?_
    obtain ⟨Ha, Hb⟩ := H
    refine j_icmp_gt (tgt := 37) d_St_job_6 (by decide) (fun c41 => ?_) (fun c42 => ?_)
    · have H := Ha c41
      exact j_throw te_72_74_76 rfl d_St_job_37 d_St_job_40 d_St_job_41 d_St_job_43 d_St_job_46 (Nat.le_of_ble_eq_true rfl) H
    · have H := Hb c42
      refine j_iload_n d_St_job_9 rfl ?_
      refine j_iconst (v := 1) d_St_job_10 (by decide) ?_
      obtain ⟨Ha, Hb⟩ := H
      refine j_icmp_lt (tgt := 37) d_St_job_11 (by decide) (fun c39 => ?_) (fun c40 => ?_)
      · have H := Ha c39
        exact j_throw te_72_74_76 rfl d_St_job_37 d_St_job_40 d_St_job_41 d_St_job_43 d_St_job_46 (Nat.le_of_ble_eq_true rfl) H
      · have H := Hb c40
        refine j_iload_n d_St_job_14 rfl ?_
        refine j_sipush (v := 200) d_St_job_15 (by decide) ?_
        obtain ⟨Ha, Hb⟩ := H
        refine j_icmp_gt (tgt := 37) d_St_job_18 (by decide) (fun c37 => ?_) (fun c38 => ?_)
        · have H := Ha c37
          exact j_throw te_72_74_76 rfl d_St_job_37 d_St_job_40 d_St_job_41 d_St_job_43 d_St_job_46 (Nat.le_of_ble_eq_true rfl) H
        · have H := Hb c38
          refine j_iload d_St_job_21 rfl ?_
          refine j_callS (d' := 1) (As := [.int p4]) (rest := []) cs_St_68 me_St_isSpan rfl (by decide) rfl rfl (Nat.le_of_ble_eq_true rfl) d_St_job_23 (by decide) rfl (j_enter (L := [some (.int p4)]) me_St_isSpan (cat_c rfl cat_n) (Nat.le_of_ble_eq_true rfl) rfl ?_)
          refine j_iload_n d_St_isSpan_0 rfl ?_
          obtain ⟨Ha, Hb⟩ := H
          refine j_if_lt (tgt := 15) d_St_isSpan_1 (by decide) (fun c35 => ?_) (fun c36 => ?_)
          · have H := Ha c35
            refine j_iconst (v := 0) d_St_isSpan_15 (by decide) ?_
            refine j_zret rfl (by decide) d_St_isSpan_16 ?_
            show J E 2 m_St_job 26 [some (.ref a0), some (.int p1), some (.int p2), some (.int p3), some (.int p4), some (.int p5), some (.int p6)] [.int ((0 : Int32))] G Post
            refine j_if_eq (tgt := 37) d_St_job_26 (by decide) (fun _ => ?_) (fun c => absurd c (by decide))
            exact j_throw te_72_74_76 rfl d_St_job_37 d_St_job_40 d_St_job_41 d_St_job_43 d_St_job_46 (Nat.le_of_ble_eq_true rfl) H
          · have H := Hb c36
            refine j_iload_n d_St_isSpan_4 rfl ?_
            refine j_sipush (v := 200) d_St_isSpan_5 (by decide) ?_
            obtain ⟨Ha, Hb⟩ := H
            refine j_icmp_gt (tgt := 15) d_St_isSpan_8 (by decide) (fun c33 => ?_) (fun c34 => ?_)
            · have H := Ha c33
              refine j_iconst (v := 0) d_St_isSpan_15 (by decide) ?_
              refine j_zret rfl (by decide) d_St_isSpan_16 ?_
              show J E 2 m_St_job 26 [some (.ref a0), some (.int p1), some (.int p2), some (.int p3), some (.int p4), some (.int p5), some (.int p6)] [.int ((0 : Int32))] G Post
              refine j_if_eq (tgt := 37) d_St_job_26 (by decide) (fun _ => ?_) (fun c => absurd c (by decide))
              exact j_throw te_72_74_76 rfl d_St_job_37 d_St_job_40 d_St_job_41 d_St_job_43 d_St_job_46 (Nat.le_of_ble_eq_true rfl) H
            · have H := Hb c34
              refine j_iconst (v := 1) d_St_isSpan_11 (by decide) ?_
              refine j_goto (tgt := 16) d_St_isSpan_12 (by decide) ?_
              refine j_zret rfl (by decide) d_St_isSpan_16 ?_
              show J E 2 m_St_job 26 [some (.ref a0), some (.int p1), some (.int p2), some (.int p3), some (.int p4), some (.int p5), some (.int p6)] [.int ((1 : Int32))] G Post
              refine j_if_eq (tgt := 37) d_St_job_26 (by decide) (fun c => absurd c (by decide)) (fun _ => ?_)
              refine j_iload d_St_job_29 rfl ?_
              refine j_callS (d' := 1) (As := [.int p5]) (rest := []) cs_St_68 me_St_isSpan rfl (by decide) rfl rfl (Nat.le_of_ble_eq_true rfl) d_St_job_31 (by decide) rfl (j_enter (L := [some (.int p5)]) me_St_isSpan (cat_c rfl cat_n) (Nat.le_of_ble_eq_true rfl) rfl ?_)
              refine j_iload_n d_St_isSpan_0 rfl ?_
              obtain ⟨Ha, Hb⟩ := H
              refine j_if_lt (tgt := 15) d_St_isSpan_1 (by decide) (fun c31 => ?_) (fun c32 => ?_)
              · have H := Ha c31
                refine j_iconst (v := 0) d_St_isSpan_15 (by decide) ?_
                refine j_zret rfl (by decide) d_St_isSpan_16 ?_
                show J E 2 m_St_job 34 [some (.ref a0), some (.int p1), some (.int p2), some (.int p3), some (.int p4), some (.int p5), some (.int p6)] [.int ((0 : Int32))] G Post
                refine j_if_ne (tgt := 47) d_St_job_34 (by decide) (fun c => absurd c (by decide)) (fun _ => ?_)
                exact j_throw te_72_74_76 rfl d_St_job_37 d_St_job_40 d_St_job_41 d_St_job_43 d_St_job_46 (Nat.le_of_ble_eq_true rfl) H
              · have H := Hb c32
                refine j_iload_n d_St_isSpan_4 rfl ?_
                refine j_sipush (v := 200) d_St_isSpan_5 (by decide) ?_
                obtain ⟨Ha, Hb⟩ := H
                refine j_icmp_gt (tgt := 15) d_St_isSpan_8 (by decide) (fun c29 => ?_) (fun c30 => ?_)
                · have H := Ha c29
                  refine j_iconst (v := 0) d_St_isSpan_15 (by decide) ?_
                  refine j_zret rfl (by decide) d_St_isSpan_16 ?_
                  show J E 2 m_St_job 34 [some (.ref a0), some (.int p1), some (.int p2), some (.int p3), some (.int p4), some (.int p5), some (.int p6)] [.int ((0 : Int32))] G Post
                  refine j_if_ne (tgt := 47) d_St_job_34 (by decide) (fun c => absurd c (by decide)) (fun _ => ?_)
                  exact j_throw te_72_74_76 rfl d_St_job_37 d_St_job_40 d_St_job_41 d_St_job_43 d_St_job_46 (Nat.le_of_ble_eq_true rfl) H
                · have H := Hb c30
                  refine j_iconst (v := 1) d_St_isSpan_11 (by decide) ?_
                  refine j_goto (tgt := 16) d_St_isSpan_12 (by decide) ?_
                  refine j_zret rfl (by decide) d_St_isSpan_16 ?_
                  show J E 2 m_St_job 34 [some (.ref a0), some (.int p1), some (.int p2), some (.int p3), some (.int p4), some (.int p5), some (.int p6)] [.int ((1 : Int32))] G Post
                  refine j_if_ne (tgt := 47) d_St_job_34 (by decide) (fun _ => ?_) (fun c => absurd c (by decide))
                  refine j_iload_n d_St_job_47 rfl ?_
                  refine j_iconst (v := 1) d_St_job_48 (by decide) ?_
                  obtain ⟨Ha, Hb⟩ := H
                  refine j_icmp_ne (tgt := 70) d_St_job_49 (by decide) (fun c27 => ?_) (fun c28 => ?_)
                  · have H := Ha c27
                    refine j_aload_n d_St_job_70 rfl ?_
                    obtain ⟨t1, H⟩ := H
                    refine j_callV (d' := 1) (ci := 9) (As := []) (rest := []) (b := a0) cv_St_85 me_St_needNotBegun rfl (by decide) rfl rfl t1 rfl rfl (Nat.le_of_ble_eq_true rfl) d_St_job_71 (by decide) rfl (j_enter (L := [some (.ref a0)]) me_St_needNotBegun (cat_c rfl cat_n) (Nat.le_of_ble_eq_true rfl) rfl ?_)
                    refine j_aload_n d_St_needNotBegun_0 rfl ?_
                    refine j_getI (f := 583) fe_St_54 rfl rfl t1 d_St_needNotBegun_1 ?_
                    obtain ⟨Ha, Hb⟩ := H
                    refine j_if_eq (tgt := 18) d_St_needNotBegun_4 (by decide) (fun c9 => ?_) (fun c10 => ?_)
                    · have H := Ha c9
                      refine j_vret rfl d_St_needNotBegun_18 ?_
                      show J E 2 m_St_job 74 [some (.ref a0), some (.int p1), some (.int p2), some (.int p3), some (.int p4), some (.int p5), some (.int p6)] [] G Post
                      refine j_aload_n d_St_job_74 rfl ?_
                      obtain ⟨b2, e3, H⟩ := H
                      refine j_getR (f := 576) (b := b2) fe_St_10 rfl rfl t1 e3 d_St_job_75 ?_
                      refine j_iload_n d_St_job_78 rfl ?_
                      obtain ⟨t4, H⟩ := H
                      refine j_putI (f := 192) fw_St_88 rfl rfl t4 d_St_job_79 ?_
                      refine j_aload_n d_St_job_82 rfl ?_
                      refine j_getR (f := 576) (b := b2) fe_St_10 rfl rfl t1 e3 d_St_job_83 ?_
                      refine j_iload_n d_St_job_86 rfl ?_
                      refine j_putI (f := 193) fw_St_91 rfl rfl t4 d_St_job_87 ?_
                      refine j_aload_n d_St_job_90 rfl ?_
                      refine j_getR (f := 576) (b := b2) fe_St_10 rfl rfl t1 e3 d_St_job_91 ?_
                      refine j_iload_n d_St_job_94 rfl ?_
                      refine j_iconst (v := 1) d_St_job_95 (by decide) ?_
                      obtain ⟨Ha, Hb⟩ := H
                      refine j_icmp_ne (tgt := 103) d_St_job_96 (by decide) (fun c7 => ?_) (fun c8 => ?_)
                      · have H := Ha c7
                        refine j_iload_n d_St_job_103 rfl ?_
                        refine j_putI (f := 194) fw_St_94 rfl rfl t4 d_St_job_104 ?_
                        refine j_aload_n d_St_job_107 rfl ?_
                        refine j_getR (f := 576) (b := b2) fe_St_10 rfl rfl t1 e3 d_St_job_108 ?_
                        refine j_iload d_St_job_111 rfl ?_
                        refine j_putI (f := 195) fw_St_97 rfl rfl t4 d_St_job_113 ?_
                        refine j_aload_n d_St_job_116 rfl ?_
                        refine j_getR (f := 576) (b := b2) fe_St_10 rfl rfl t1 e3 d_St_job_117 ?_
                        refine j_iload d_St_job_120 rfl ?_
                        refine j_putI (f := 196) fw_St_100 rfl rfl t4 d_St_job_122 ?_
                        refine j_aload_n d_St_job_125 rfl ?_
                        refine j_getR (f := 576) (b := b2) fe_St_10 rfl rfl t1 e3 d_St_job_126 ?_
                        refine j_iload d_St_job_129 rfl ?_
                        obtain ⟨z5, H⟩ := H
                        refine j_putZ (f := 197) fw_St_103 rfl rfl t4 z5 d_St_job_131 ?_
                        exact j_vret rfl d_St_job_134 H
                      · have H := Hb c8
                        refine j_iload_n d_St_job_99 rfl ?_
                        refine j_goto (tgt := 104) d_St_job_100 (by decide) ?_
                        refine j_putI (f := 194) fw_St_94 rfl rfl t4 d_St_job_104 ?_
                        refine j_aload_n d_St_job_107 rfl ?_
                        refine j_getR (f := 576) (b := b2) fe_St_10 rfl rfl t1 e3 d_St_job_108 ?_
                        refine j_iload d_St_job_111 rfl ?_
                        refine j_putI (f := 195) fw_St_97 rfl rfl t4 d_St_job_113 ?_
                        refine j_aload_n d_St_job_116 rfl ?_
                        refine j_getR (f := 576) (b := b2) fe_St_10 rfl rfl t1 e3 d_St_job_117 ?_
                        refine j_iload d_St_job_120 rfl ?_
                        refine j_putI (f := 196) fw_St_100 rfl rfl t4 d_St_job_122 ?_
                        refine j_aload_n d_St_job_125 rfl ?_
                        refine j_getR (f := 576) (b := b2) fe_St_10 rfl rfl t1 e3 d_St_job_126 ?_
                        refine j_iload d_St_job_129 rfl ?_
                        obtain ⟨z6, H⟩ := H
                        refine j_putZ (f := 197) fw_St_103 rfl rfl t4 z6 d_St_job_131 ?_
                        exact j_vret rfl d_St_job_134 H
                    · have H := Hb c10
                      exact j_throwW te_129_315_133 rfl d_St_needNotBegun_7 d_St_needNotBegun_10 d_St_needNotBegun_11 d_St_needNotBegun_14 d_St_needNotBegun_17 (Nat.le_of_ble_eq_true rfl) H
                  · have H := Hb c28
                    refine j_iload_n d_St_job_52 rfl ?_
                    refine j_iload_n d_St_job_53 rfl ?_
                    refine j_callS (d' := 1) (As := [.int p3, .int p2]) (rest := []) cs_St_79 me_St_isSlide rfl (by decide) rfl rfl (Nat.le_of_ble_eq_true rfl) d_St_job_54 (by decide) rfl (j_enter (L := [some (.int p3), some (.int p2)]) me_St_isSlide (cat_c rfl (cat_c rfl cat_n)) (Nat.le_of_ble_eq_true rfl) rfl ?_)
                    refine j_iload_n d_St_isSlide_0 rfl ?_
                    refine j_iconst (v := 1) d_St_isSlide_1 (by decide) ?_
                    obtain ⟨Ha, Hb⟩ := H
                    refine j_icmp_lt (tgt := 22) d_St_isSlide_2 (by decide) (fun c25 => ?_) (fun c26 => ?_)
                    · have H := Ha c25
                      refine j_iconst (v := 0) d_St_isSlide_22 (by decide) ?_
                      refine j_zret rfl (by decide) d_St_isSlide_23 ?_
                      show J E 2 m_St_job 57 [some (.ref a0), some (.int p1), some (.int p2), some (.int p3), some (.int p4), some (.int p5), some (.int p6)] [.int ((0 : Int32))] G Post
                      refine j_if_ne (tgt := 70) d_St_job_57 (by decide) (fun c => absurd c (by decide)) (fun _ => ?_)
                      exact j_throw te_72_83_76 rfl d_St_job_60 d_St_job_63 d_St_job_64 d_St_job_66 d_St_job_69 (Nat.le_of_ble_eq_true rfl) H
                    · have H := Hb c26
                      refine j_iload_n d_St_isSlide_5 rfl ?_
                      refine j_iload_n d_St_isSlide_6 rfl ?_
                      obtain ⟨Ha, Hb⟩ := H
                      refine j_icmp_gt (tgt := 22) d_St_isSlide_7 (by decide) (fun c23 => ?_) (fun c24 => ?_)
                      · have H := Ha c23
                        refine j_iconst (v := 0) d_St_isSlide_22 (by decide) ?_
                        refine j_zret rfl (by decide) d_St_isSlide_23 ?_
                        show J E 2 m_St_job 57 [some (.ref a0), some (.int p1), some (.int p2), some (.int p3), some (.int p4), some (.int p5), some (.int p6)] [.int ((0 : Int32))] G Post
                        refine j_if_ne (tgt := 70) d_St_job_57 (by decide) (fun c => absurd c (by decide)) (fun _ => ?_)
                        exact j_throw te_72_83_76 rfl d_St_job_60 d_St_job_63 d_St_job_64 d_St_job_66 d_St_job_69 (Nat.le_of_ble_eq_true rfl) H
                      · have H := Hb c24
                        refine j_iload_n d_St_isSlide_10 rfl ?_
                        refine j_bipush (v := 8) d_St_isSlide_11 (by decide) ?_
                        refine j_iload_n d_St_isSlide_13 rfl ?_
                        refine j_imul d_St_isSlide_14 ?_
                        obtain ⟨Ha, Hb⟩ := H
                        refine j_icmp_gt (tgt := 22) d_St_isSlide_15 (by decide) (fun c21 => ?_) (fun c22 => ?_)
                        · have H := Ha c21
                          refine j_iconst (v := 0) d_St_isSlide_22 (by decide) ?_
                          refine j_zret rfl (by decide) d_St_isSlide_23 ?_
                          show J E 2 m_St_job 57 [some (.ref a0), some (.int p1), some (.int p2), some (.int p3), some (.int p4), some (.int p5), some (.int p6)] [.int ((0 : Int32))] G Post
                          refine j_if_ne (tgt := 70) d_St_job_57 (by decide) (fun c => absurd c (by decide)) (fun _ => ?_)
                          exact j_throw te_72_83_76 rfl d_St_job_60 d_St_job_63 d_St_job_64 d_St_job_66 d_St_job_69 (Nat.le_of_ble_eq_true rfl) H
                        · have H := Hb c22
                          refine j_iconst (v := 1) d_St_isSlide_18 (by decide) ?_
                          refine j_goto (tgt := 23) d_St_isSlide_19 (by decide) ?_
                          refine j_zret rfl (by decide) d_St_isSlide_23 ?_
                          show J E 2 m_St_job 57 [some (.ref a0), some (.int p1), some (.int p2), some (.int p3), some (.int p4), some (.int p5), some (.int p6)] [.int ((1 : Int32))] G Post
                          refine j_if_ne (tgt := 70) d_St_job_57 (by decide) (fun _ => ?_) (fun c => absurd c (by decide))
                          refine j_aload_n d_St_job_70 rfl ?_
                          obtain ⟨t11, H⟩ := H
                          refine j_callV (d' := 1) (ci := 9) (As := []) (rest := []) (b := a0) cv_St_85 me_St_needNotBegun rfl (by decide) rfl rfl t11 rfl rfl (Nat.le_of_ble_eq_true rfl) d_St_job_71 (by decide) rfl (j_enter (L := [some (.ref a0)]) me_St_needNotBegun (cat_c rfl cat_n) (Nat.le_of_ble_eq_true rfl) rfl ?_)
                          refine j_aload_n d_St_needNotBegun_0 rfl ?_
                          refine j_getI (f := 583) fe_St_54 rfl rfl t11 d_St_needNotBegun_1 ?_
                          obtain ⟨Ha, Hb⟩ := H
                          refine j_if_eq (tgt := 18) d_St_needNotBegun_4 (by decide) (fun c19 => ?_) (fun c20 => ?_)
                          · have H := Ha c19
                            refine j_vret rfl d_St_needNotBegun_18 ?_
                            show J E 2 m_St_job 74 [some (.ref a0), some (.int p1), some (.int p2), some (.int p3), some (.int p4), some (.int p5), some (.int p6)] [] G Post
                            refine j_aload_n d_St_job_74 rfl ?_
                            obtain ⟨b12, e13, H⟩ := H
                            refine j_getR (f := 576) (b := b12) fe_St_10 rfl rfl t11 e13 d_St_job_75 ?_
                            refine j_iload_n d_St_job_78 rfl ?_
                            obtain ⟨t14, H⟩ := H
                            refine j_putI (f := 192) fw_St_88 rfl rfl t14 d_St_job_79 ?_
                            refine j_aload_n d_St_job_82 rfl ?_
                            refine j_getR (f := 576) (b := b12) fe_St_10 rfl rfl t11 e13 d_St_job_83 ?_
                            refine j_iload_n d_St_job_86 rfl ?_
                            refine j_putI (f := 193) fw_St_91 rfl rfl t14 d_St_job_87 ?_
                            refine j_aload_n d_St_job_90 rfl ?_
                            refine j_getR (f := 576) (b := b12) fe_St_10 rfl rfl t11 e13 d_St_job_91 ?_
                            refine j_iload_n d_St_job_94 rfl ?_
                            refine j_iconst (v := 1) d_St_job_95 (by decide) ?_
                            obtain ⟨Ha, Hb⟩ := H
                            refine j_icmp_ne (tgt := 103) d_St_job_96 (by decide) (fun c17 => ?_) (fun c18 => ?_)
                            · have H := Ha c17
                              refine j_iload_n d_St_job_103 rfl ?_
                              refine j_putI (f := 194) fw_St_94 rfl rfl t14 d_St_job_104 ?_
                              refine j_aload_n d_St_job_107 rfl ?_
                              refine j_getR (f := 576) (b := b12) fe_St_10 rfl rfl t11 e13 d_St_job_108 ?_
                              refine j_iload d_St_job_111 rfl ?_
                              refine j_putI (f := 195) fw_St_97 rfl rfl t14 d_St_job_113 ?_
                              refine j_aload_n d_St_job_116 rfl ?_
                              refine j_getR (f := 576) (b := b12) fe_St_10 rfl rfl t11 e13 d_St_job_117 ?_
                              refine j_iload d_St_job_120 rfl ?_
                              refine j_putI (f := 196) fw_St_100 rfl rfl t14 d_St_job_122 ?_
                              refine j_aload_n d_St_job_125 rfl ?_
                              refine j_getR (f := 576) (b := b12) fe_St_10 rfl rfl t11 e13 d_St_job_126 ?_
                              refine j_iload d_St_job_129 rfl ?_
                              obtain ⟨z15, H⟩ := H
                              refine j_putZ (f := 197) fw_St_103 rfl rfl t14 z15 d_St_job_131 ?_
                              exact j_vret rfl d_St_job_134 H
                            · have H := Hb c18
                              refine j_iload_n d_St_job_99 rfl ?_
                              refine j_goto (tgt := 104) d_St_job_100 (by decide) ?_
                              refine j_putI (f := 194) fw_St_94 rfl rfl t14 d_St_job_104 ?_
                              refine j_aload_n d_St_job_107 rfl ?_
                              refine j_getR (f := 576) (b := b12) fe_St_10 rfl rfl t11 e13 d_St_job_108 ?_
                              refine j_iload d_St_job_111 rfl ?_
                              refine j_putI (f := 195) fw_St_97 rfl rfl t14 d_St_job_113 ?_
                              refine j_aload_n d_St_job_116 rfl ?_
                              refine j_getR (f := 576) (b := b12) fe_St_10 rfl rfl t11 e13 d_St_job_117 ?_
                              refine j_iload d_St_job_120 rfl ?_
                              refine j_putI (f := 196) fw_St_100 rfl rfl t14 d_St_job_122 ?_
                              refine j_aload_n d_St_job_125 rfl ?_
                              refine j_getR (f := 576) (b := b12) fe_St_10 rfl rfl t11 e13 d_St_job_126 ?_
                              refine j_iload d_St_job_129 rfl ?_
                              obtain ⟨z16, H⟩ := H
                              refine j_putZ (f := 197) fw_St_103 rfl rfl t14 z16 d_St_job_131 ?_
                              exact j_vret rfl d_St_job_134 H
                          · have H := Hb c20
                            exact j_throwW te_129_315_133 rfl d_St_needNotBegun_7 d_St_needNotBegun_10 d_St_needNotBegun_11 d_St_needNotBegun_14 d_St_needNotBegun_17 (Nat.le_of_ble_eq_true rfl) H
theorem wp_St_append_0 {E : EV} {G : GH} {Post : Res → GH → Prop} (a0 : Nat) (p1 : Int32) (p2 : Int32) (p3 : Int32) (p4 : Int32) (H : (p1 < 0 → Post (.inr "java/lang/IndexOutOfBoundsException") (bump G 1 6)) ∧ (¬ p1 < 0 → (p1 < (3 : Int32) → (p2 < 0 → Post (.inr "java/lang/IllegalArgumentException") (bump G 1 6)) ∧ (¬ p2 < 0 → ((999 : Int32) < p2 → Post (.inr "java/lang/IllegalArgumentException") (bump G 1 6)) ∧ (¬ (999 : Int32) < p2 → (p3 < 0 → Post (.inr "java/lang/IllegalArgumentException") (bump G 1 6)) ∧ (¬ p3 < 0 → ((6 : Int32) ≤ p3 → Post (.inr "java/lang/IllegalArgumentException") (bump G 1 6)) ∧ (¬ (6 : Int32) ≤ p3 → (p4 < (-1000 : Int32) → Post (.inr "java/lang/IllegalArgumentException") (bump G 1 6)) ∧ (¬ p4 < (-1000 : Int32) → (p4 ≤ (1000 : Int32) → gT G a0 = 10 ∧ ∃ b2, gR G 577 a0 = some b2 ∧ (gT G b2 = 23 ∨ gT G b2 = 24) ∧ ∃ n6, IX p1 n6 (gN G b2) ∧ ∃ b7, gO G b2 n6 = some b7 ∧ gT G b7 = 7 ∧ ∃ b10, gR G 384 b7 = some b10 ∧ gT G b10 = 12 ∧ ((gI G 706 b10) < (40 : Int32) → ∀ G13, G13 = al G 2 5 → gT G13 ((gz G)) = 2 ∧ ∀ G16, G16 = sI (sI (sI (sI (sI G13 68 ((gz G)) ((-1 : Int32))) 64 ((gz G)) p1) 65 ((gz G)) p2) 66 ((gz G)) p3) 67 ((gz G)) p4 → gT G13 b10 = 12 ∧ Cl E 6 m_AL_add [.ref b10, .ref ((gz G))] G16 (aft E 7 m_St_append 93 [none, none, none, none, none, some (.ref b10)] [] Post)) ∧ (¬ (gI G 706 b10) < (40 : Int32) → Post (.inr "java/lang/IllegalStateException") (bump G 1 6))) ∧ (¬ p4 ≤ (1000 : Int32) → Post (.inr "java/lang/IllegalArgumentException") (bump G 1 6)))))))) ∧ (¬ p1 < (3 : Int32) → Post (.inr "java/lang/IndexOutOfBoundsException") (bump G 1 6)))) : J E 7 m_St_append 0 [some (.ref a0), some (.int p1), some (.int p2), some (.int p3), some (.int p4), none] [] G Post := by
  refine j_iload_n d_St_append_0 rfl ?_
  refine j_callS (d' := 1) (As := [.int p1]) (rest := []) cs_St_106 me_St_needSource rfl (by decide) rfl rfl (Nat.le_of_ble_eq_true rfl) d_St_append_1 (by decide) rfl (j_enter (L := [some (.int p1)]) me_St_needSource (cat_c rfl cat_n) (Nat.le_of_ble_eq_true rfl) rfl ?_)
  refine j_iload_n d_St_needSource_0 rfl ?_
  obtain ⟨Ha, Hb⟩ := H
  refine j_if_lt (tgt := 9) d_St_needSource_1 (by decide) (fun c35 => ?_) (fun c36 => ?_)
  · have H := Ha c35
    exact j_throwW te_222_309_226 rfl d_St_needSource_9 d_St_needSource_12 d_St_needSource_13 d_St_needSource_16 d_St_needSource_19 (Nat.le_of_ble_eq_true rfl) H
  · have H := Hb c36
    refine j_iload_n d_St_needSource_4 rfl ?_
    refine j_iconst (v := 3) d_St_needSource_5 (by decide) ?_
    obtain ⟨Ha, Hb⟩ := H
    refine j_icmp_lt (tgt := 20) d_St_needSource_6 (by decide) (fun c33 => ?_) (fun c34 => ?_)
    · have H := Ha c33
      refine j_vret rfl d_St_needSource_20 ?_
      show J E 7 m_St_append 4 [some (.ref a0), some (.int p1), some (.int p2), some (.int p3), some (.int p4), none] [] G Post
      refine j_iload_n d_St_append_4 rfl ?_
      obtain ⟨Ha, Hb⟩ := H
      refine j_if_lt (tgt := 38) d_St_append_5 (by decide) (fun c31 => ?_) (fun c32 => ?_)
      · have H := Ha c31
        exact j_throw te_72_118_76 rfl d_St_append_38 d_St_append_41 d_St_append_42 d_St_append_44 d_St_append_47 (Nat.le_of_ble_eq_true rfl) H
      · have H := Hb c32
        refine j_iload_n d_St_append_8 rfl ?_
        refine j_sipush (v := 999) d_St_append_9 (by decide) ?_
        obtain ⟨Ha, Hb⟩ := H
        refine j_icmp_gt (tgt := 38) d_St_append_12 (by decide) (fun c29 => ?_) (fun c30 => ?_)
        · have H := Ha c29
          exact j_throw te_72_118_76 rfl d_St_append_38 d_St_append_41 d_St_append_42 d_St_append_44 d_St_append_47 (Nat.le_of_ble_eq_true rfl) H
        · have H := Hb c30
          refine j_iload_n d_St_append_15 rfl ?_
          refine j_callS (d' := 1) (As := [.int p3]) (rest := []) cs_St_115 me_St_isKey rfl (by decide) rfl rfl (Nat.le_of_ble_eq_true rfl) d_St_append_16 (by decide) rfl (j_enter (L := [some (.int p3)]) me_St_isKey (cat_c rfl cat_n) (Nat.le_of_ble_eq_true rfl) rfl ?_)
          refine j_iload_n d_St_isKey_0 rfl ?_
          obtain ⟨Ha, Hb⟩ := H
          refine j_if_lt (tgt := 14) d_St_isKey_1 (by decide) (fun c27 => ?_) (fun c28 => ?_)
          · have H := Ha c27
            refine j_iconst (v := 0) d_St_isKey_14 (by decide) ?_
            refine j_zret rfl (by decide) d_St_isKey_15 ?_
            show J E 7 m_St_append 19 [some (.ref a0), some (.int p1), some (.int p2), some (.int p3), some (.int p4), none] [.int ((0 : Int32))] G Post
            refine j_if_eq (tgt := 38) d_St_append_19 (by decide) (fun _ => ?_) (fun c => absurd c (by decide))
            exact j_throw te_72_118_76 rfl d_St_append_38 d_St_append_41 d_St_append_42 d_St_append_44 d_St_append_47 (Nat.le_of_ble_eq_true rfl) H
          · have H := Hb c28
            refine j_iload_n d_St_isKey_4 rfl ?_
            refine j_bipush (v := 6) d_St_isKey_5 (by decide) ?_
            obtain ⟨Ha, Hb⟩ := H
            refine j_icmp_ge (tgt := 14) d_St_isKey_7 (by decide) (fun c25 => ?_) (fun c26 => ?_)
            · have H := Ha c25
              refine j_iconst (v := 0) d_St_isKey_14 (by decide) ?_
              refine j_zret rfl (by decide) d_St_isKey_15 ?_
              show J E 7 m_St_append 19 [some (.ref a0), some (.int p1), some (.int p2), some (.int p3), some (.int p4), none] [.int ((0 : Int32))] G Post
              refine j_if_eq (tgt := 38) d_St_append_19 (by decide) (fun _ => ?_) (fun c => absurd c (by decide))
              exact j_throw te_72_118_76 rfl d_St_append_38 d_St_append_41 d_St_append_42 d_St_append_44 d_St_append_47 (Nat.le_of_ble_eq_true rfl) H
            · have H := Hb c26
              refine j_iconst (v := 1) d_St_isKey_10 (by decide) ?_
              refine j_goto (tgt := 15) d_St_isKey_11 (by decide) ?_
              refine j_zret rfl (by decide) d_St_isKey_15 ?_
              show J E 7 m_St_append 19 [some (.ref a0), some (.int p1), some (.int p2), some (.int p3), some (.int p4), none] [.int ((1 : Int32))] G Post
              refine j_if_eq (tgt := 38) d_St_append_19 (by decide) (fun c => absurd c (by decide)) (fun _ => ?_)
              refine j_iload d_St_append_22 rfl ?_
              refine j_sipush (v := -1000) d_St_append_24 (by decide) ?_
              obtain ⟨Ha, Hb⟩ := H
              refine j_icmp_lt (tgt := 38) d_St_append_27 (by decide) (fun c23 => ?_) (fun c24 => ?_)
              · have H := Ha c23
                exact j_throw te_72_118_76 rfl d_St_append_38 d_St_append_41 d_St_append_42 d_St_append_44 d_St_append_47 (Nat.le_of_ble_eq_true rfl) H
              · have H := Hb c24
                refine j_iload d_St_append_30 rfl ?_
                refine j_sipush (v := 1000) d_St_append_32 (by decide) ?_
                obtain ⟨Ha, Hb⟩ := H
                refine j_icmp_le (tgt := 48) d_St_append_35 (by decide) (fun c21 => ?_) (fun c22 => ?_)
                · have H := Ha c21
                  refine j_aload_n d_St_append_48 rfl ?_
                  obtain ⟨t1, H⟩ := H
                  obtain ⟨b2, e3, H⟩ := H
                  refine j_getR (f := 577) (b := b2) fe_St_19 rfl rfl t1 e3 d_St_append_49 ?_
                  refine j_iload_n d_St_append_52 rfl ?_
                  obtain ⟨t4, H⟩ := H
                  obtain ⟨n6, x5, H⟩ := H
                  obtain ⟨b7, e8, H⟩ := H
                  refine j_aaldR (n := n6) (b := b7) t4 x5 e8 d_St_append_53 ?_
                  obtain ⟨t9, H⟩ := H
                  obtain ⟨b10, e11, H⟩ := H
                  refine j_getR (f := 384) (b := b10) fe_St_120 rfl rfl t9 e11 d_St_append_54 ?_
                  refine j_astore (x := (some b10)) (L' := [some (.ref a0), some (.int p1), some (.int p2), some (.int p3), some (.int p4), some (.ref b10)]) rfl d_St_append_57 (by decide) rfl ?_
                  refine j_aload d_St_append_59 rfl ?_
                  obtain ⟨t12, H⟩ := H
                  refine j_callV (d' := 1) (ci := 11) (As := []) (rest := []) (b := b10) cv_St_124 me_AL_size rfl (by decide) rfl rfl t12 rfl rfl (Nat.le_of_ble_eq_true rfl) d_St_append_61 (by decide) rfl (j_enter (L := [some (.ref b10)]) me_AL_size (cat_c rfl cat_n) (Nat.le_of_ble_eq_true rfl) rfl ?_)
                  refine j_aload_n d_AL_size_0 rfl ?_
                  refine j_getI (f := 706) fe_AL_48 rfl rfl t12 d_AL_size_1 ?_
                  refine j_iret rfl d_AL_size_4 ?_
                  show J E 7 m_St_append 64 [some (.ref a0), some (.int p1), some (.int p2), some (.int p3), some (.int p4), some (.ref b10)] [.int ((gI G 706 b10))] G Post
                  refine j_bipush (v := 40) d_St_append_64 (by decide) ?_
                  obtain ⟨Ha, Hb⟩ := H
                  refine j_icmp_lt (tgt := 79) d_St_append_66 (by decide) (fun c19 => ?_) (fun c20 => ?_)
                  · have H := Ha c19
                    refine j_aload d_St_append_79 rfl ?_
                    refine j_newT (n := 5) (t := 2) rfl ne_St_134 rfl (by decide) d_St_append_81 ?_
                    show J E 7 m_St_append 84 [some (.ref a0), some (.int p1), some (.int p2), some (.int p3), some (.int p4), some (.ref b10)] [.ref ((gz G)), .ref b10] (al G 2 5) Post
                    generalize e14 : al G 2 5 = G13
                    have e14 := e14.symm
                    have H := H G13 e14
                    refine j_dup d_St_append_84 rfl ?_
                    refine j_iload_n d_St_append_85 rfl ?_
                    refine j_iload_n d_St_append_86 rfl ?_
                    refine j_iload_n d_St_append_87 rfl ?_
                    refine j_iload d_St_append_88 rfl ?_
                    refine j_callI (d' := 1) (As := [.int p1, .int p2, .int p3, .int p4]) (rest := [.ref ((gz G)), .ref b10]) (b := ((gz G))) ci_St_136 me_Ev_init rfl rfl (by decide) rfl rfl (Nat.le_of_ble_eq_true rfl) d_St_append_90 (by decide) rfl (j_enter (L := [some (.ref ((gz G))), some (.int p1), some (.int p2), some (.int p3), some (.int p4)]) me_Ev_init (cat_c rfl (cat_c rfl (cat_c rfl (cat_c rfl (cat_c rfl cat_n))))) (Nat.le_of_ble_eq_true rfl) rfl ?_)
                    refine j_aload_n d_Ev_init_0 rfl ?_
                    refine j_objInit co_Ev_3 ob1 ob2 (Nat.le_of_ble_eq_true rfl) d_Ev_init_1 ?_
                    refine j_aload_n d_Ev_init_4 rfl ?_
                    refine j_iconst (v := -1) d_Ev_init_5 (by decide) ?_
                    obtain ⟨t15, H⟩ := H
                    refine j_putI (f := 68) fw_Ev_9 rfl rfl t15 d_Ev_init_6 ?_
                    refine j_aload_n d_Ev_init_9 rfl ?_
                    refine j_iload_n d_Ev_init_10 rfl ?_
                    refine j_putFI (f := 64) ff_Ev_15 rfl rfl rfl t15 d_Ev_init_11 ?_
                    refine j_aload_n d_Ev_init_14 rfl ?_
                    refine j_iload_n d_Ev_init_15 rfl ?_
                    refine j_putFI (f := 65) ff_Ev_18 rfl rfl rfl t15 d_Ev_init_16 ?_
                    refine j_aload_n d_Ev_init_19 rfl ?_
                    refine j_iload_n d_Ev_init_20 rfl ?_
                    refine j_putFI (f := 66) ff_Ev_21 rfl rfl rfl t15 d_Ev_init_21 ?_
                    refine j_aload_n d_Ev_init_24 rfl ?_
                    refine j_iload d_Ev_init_25 rfl ?_
                    refine j_putFI (f := 67) ff_Ev_24 rfl rfl rfl t15 d_Ev_init_27 ?_
                    show J E 1 m_Ev_init 30 [some (.ref ((gz G))), some (.int p1), some (.int p2), some (.int p3), some (.int p4)] [] (sI (sI (sI (sI (sI G13 68 ((gz G)) ((-1 : Int32))) 64 ((gz G)) p1) 65 ((gz G)) p2) 66 ((gz G)) p3) 67 ((gz G)) p4) (aft E 7 m_St_append 90 [some (.ref a0), some (.int p1), some (.int p2), some (.int p3), some (.int p4), some (.ref b10)] [.ref ((gz G)), .ref b10] Post)
                    generalize e17 : sI (sI (sI (sI (sI G13 68 ((gz G)) ((-1 : Int32))) 64 ((gz G)) p1) 65 ((gz G)) p2) 66 ((gz G)) p3) 67 ((gz G)) p4 = G16
                    have e17 := e17.symm
                    have H := H G16 e17
                    refine j_vret rfl d_Ev_init_30 ?_
                    show J E 7 m_St_append 93 [some (.ref a0), some (.int p1), some (.int p2), some (.int p3), some (.int p4), some (.ref b10)] [.ref ((gz G)), .ref b10] G16 Post
                    obtain ⟨t18, H⟩ := H
                    refine j_forget (L' := [none, none, none, none, none, some (.ref b10)]) ⟨Or.inl rfl, Or.inl rfl, Or.inl rfl, Or.inl rfl, Or.inl rfl, Or.inr rfl, trivial⟩ ?_
                    exact j_callV (d' := 6) (ci := 11) (As := [.ref ((gz G))]) (rest := []) (b := b10) cv_St_139 me_AL_add rfl (by decide) rfl rfl (by rw [e17]; exact t18) rfl rfl (Nat.le_of_ble_eq_true rfl) d_St_append_93 (by decide) rfl H
                  · have H := Hb c20
                    exact j_throw te_129_131_133 rfl d_St_append_69 d_St_append_72 d_St_append_73 d_St_append_75 d_St_append_78 (Nat.le_of_ble_eq_true rfl) H
                · have H := Hb c22
                  exact j_throw te_72_118_76 rfl d_St_append_38 d_St_append_41 d_St_append_42 d_St_append_44 d_St_append_47 (Nat.le_of_ble_eq_true rfl) H
    · have H := Hb c34
      exact j_throwW te_222_309_226 rfl d_St_needSource_9 d_St_needSource_12 d_St_needSource_13 d_St_needSource_16 d_St_needSource_19 (Nat.le_of_ble_eq_true rfl) H
theorem wp_St_append_96 {E : EV} {G : GH} {Post : Res → GH → Prop} (a5 : Nat) (s0 : Int32) (H : gT G a5 = 12 ∧ Post (.inl (some (.int (((gI G 706 a5) - (1 : Int32)))))) G) : J E 7 m_St_append 96 [none, none, none, none, none, some (.ref a5)] [.int s0] G Post := by
  refine j_pop d_St_append_96 rfl ?_
  refine j_aload d_St_append_97 rfl ?_
  obtain ⟨t1, H⟩ := H
  refine j_callV (d' := 1) (ci := 11) (As := []) (rest := []) (b := a5) cv_St_124 me_AL_size rfl (by decide) rfl rfl t1 rfl rfl (Nat.le_of_ble_eq_true rfl) d_St_append_99 (by decide) rfl (j_enter (L := [some (.ref a5)]) me_AL_size (cat_c rfl cat_n) (Nat.le_of_ble_eq_true rfl) rfl ?_)
  refine j_aload_n d_AL_size_0 rfl ?_
  refine j_getI (f := 706) fe_AL_48 rfl rfl t1 d_AL_size_1 ?_
  refine j_iret rfl d_AL_size_4 ?_
  show J E 7 m_St_append 102 [none, none, none, none, none, some (.ref a5)] [.int ((gI G 706 a5))] G Post
  refine j_iconst (v := 1) d_St_append_102 (by decide) ?_
  refine j_isub d_St_append_103 ?_
  exact j_iret rfl d_St_append_104 H
theorem wp_St_read_0 {E : EV} {G : GH} {Post : Res → GH → Prop} (a0 : Nat) (p1 : Int32) (H : (p1 < 0 → Post (.inr "java/lang/IndexOutOfBoundsException") (bump G 1 6)) ∧ (¬ p1 < 0 → (p1 < (3 : Int32) → gT G a0 = 10 ∧ ∃ b2, gR G 578 a0 = some b2 ∧ gT G b2 = 5 ∧ ∃ b5, gR G 256 b2 = some b5 ∧ (gT G b5 = 20 ∨ gT G b5 = 25) ∧ ∃ n9, IX p1 n9 (gN G b5) ∧ ∃ b10, gR G 577 a0 = some b10 ∧ (gT G b10 = 23 ∨ gT G b10 = 24) ∧ ∃ n14, IX p1 n14 (gN G b10) ∧ ∃ b15, gO G b10 n14 = some b15 ∧ gT G b15 = 7 ∧ ∃ b18, gR G 384 b15 = some b18 ∧ gT G b18 = 12 ∧ ((gA G b5 n9) < (gI G 706 b18) → ∃ b21, gR G 257 b2 = some b21 ∧ (gT G b21 = 20 ∨ gT G b21 = 25) ∧ ∃ n25, IX p1 n25 (gN G b21) ∧ (((gA G b5 n9) - (gA G b21 n25)) < (4 : Int32) → gT G b5 = 20 ∧ Post (.inl (some (.int (((gA (sA (sI G 583 a0 ((1 : Int32))) b5 n9 (((gA (sI G 583 a0 ((1 : Int32))) b5 n9) + (1 : Int32)))) b5 n9) - (gA (sA (sI G 583 a0 ((1 : Int32))) b5 n9 (((gA (sI G 583 a0 ((1 : Int32))) b5 n9) + (1 : Int32)))) b21 n25)))))) (sA (sI G 583 a0 ((1 : Int32))) b5 n9 (((gA (sI G 583 a0 ((1 : Int32))) b5 n9) + (1 : Int32))))) ∧ (¬ ((gA G b5 n9) - (gA G b21 n25)) < (4 : Int32) → Post (.inr "java/lang/IllegalStateException") (bump G 1 6))) ∧ (¬ (gA G b5 n9) < (gI G 706 b18) → Post (.inr "java/lang/IllegalStateException") (bump G 1 6))) ∧ (¬ p1 < (3 : Int32) → Post (.inr "java/lang/IndexOutOfBoundsException") (bump G 1 6)))) : J E 2 m_St_read 0 [some (.ref a0), some (.int p1)] [] G Post := by
  refine j_iload_n d_St_read_0 rfl ?_
  refine j_callS (d' := 1) (As := [.int p1]) (rest := []) cs_St_106 me_St_needSource rfl (by decide) rfl rfl (Nat.le_of_ble_eq_true rfl) d_St_read_1 (by decide) rfl (j_enter (L := [some (.int p1)]) me_St_needSource (cat_c rfl cat_n) (Nat.le_of_ble_eq_true rfl) rfl ?_)
  refine j_iload_n d_St_needSource_0 rfl ?_
  obtain ⟨Ha, Hb⟩ := H
  refine j_if_lt (tgt := 9) d_St_needSource_1 (by decide) (fun c33 => ?_) (fun c34 => ?_)
  · have H := Ha c33
    exact j_throwW te_222_309_226 rfl d_St_needSource_9 d_St_needSource_12 d_St_needSource_13 d_St_needSource_16 d_St_needSource_19 (Nat.le_of_ble_eq_true rfl) H
  · have H := Hb c34
    refine j_iload_n d_St_needSource_4 rfl ?_
    refine j_iconst (v := 3) d_St_needSource_5 (by decide) ?_
    obtain ⟨Ha, Hb⟩ := H
    refine j_icmp_lt (tgt := 20) d_St_needSource_6 (by decide) (fun c31 => ?_) (fun c32 => ?_)
    · have H := Ha c31
      refine j_vret rfl d_St_needSource_20 ?_
      show J E 2 m_St_read 4 [some (.ref a0), some (.int p1)] [] G Post
      refine j_aload_n d_St_read_4 rfl ?_
      obtain ⟨t1, H⟩ := H
      obtain ⟨b2, e3, H⟩ := H
      refine j_getR (f := 578) (b := b2) fe_St_26 rfl rfl t1 e3 d_St_read_5 ?_
      obtain ⟨t4, H⟩ := H
      obtain ⟨b5, e6, H⟩ := H
      refine j_getR (f := 256) (b := b5) fe_St_143 rfl rfl t4 e6 d_St_read_8 ?_
      refine j_iload_n d_St_read_11 rfl ?_
      obtain ⟨t7, H⟩ := H
      obtain ⟨n9, x8, H⟩ := H
      refine j_iald (n := n9) t7 x8 d_St_read_12 ?_
      refine j_aload_n d_St_read_13 rfl ?_
      obtain ⟨b10, e11, H⟩ := H
      refine j_getR (f := 577) (b := b10) fe_St_19 rfl rfl t1 e11 d_St_read_14 ?_
      refine j_iload_n d_St_read_17 rfl ?_
      obtain ⟨t12, H⟩ := H
      obtain ⟨n14, x13, H⟩ := H
      obtain ⟨b15, e16, H⟩ := H
      refine j_aaldR (n := n14) (b := b15) t12 x13 e16 d_St_read_18 ?_
      obtain ⟨t17, H⟩ := H
      obtain ⟨b18, e19, H⟩ := H
      refine j_getR (f := 384) (b := b18) fe_St_120 rfl rfl t17 e19 d_St_read_19 ?_
      obtain ⟨t20, H⟩ := H
      refine j_callV (d' := 1) (ci := 11) (As := []) (rest := [.int ((gA G b5 n9))]) (b := b18) cv_St_124 me_AL_size rfl (by decide) rfl rfl t20 rfl rfl (Nat.le_of_ble_eq_true rfl) d_St_read_22 (by decide) rfl (j_enter (L := [some (.ref b18)]) me_AL_size (cat_c rfl cat_n) (Nat.le_of_ble_eq_true rfl) rfl ?_)
      refine j_aload_n d_AL_size_0 rfl ?_
      refine j_getI (f := 706) fe_AL_48 rfl rfl t20 d_AL_size_1 ?_
      refine j_iret rfl d_AL_size_4 ?_
      show J E 2 m_St_read 25 [some (.ref a0), some (.int p1)] [.int ((gI G 706 b18)), .int ((gA G b5 n9))] G Post
      obtain ⟨Ha, Hb⟩ := H
      refine j_icmp_lt (tgt := 38) d_St_read_25 (by decide) (fun c29 => ?_) (fun c30 => ?_)
      · have H := Ha c29
        refine j_aload_n d_St_read_38 rfl ?_
        refine j_getR (f := 578) (b := b2) fe_St_26 rfl rfl t1 e3 d_St_read_39 ?_
        refine j_iload_n d_St_read_42 rfl ?_
        refine j_callV (d' := 1) (ci := 4) (As := [.int p1]) (rest := []) (b := b2) cv_St_149 me_Pr_inChannelOf rfl (by decide) rfl rfl t4 rfl rfl (Nat.le_of_ble_eq_true rfl) d_St_read_43 (by decide) rfl (j_enter (L := [some (.ref b2), some (.int p1)]) me_Pr_inChannelOf (cat_c rfl (cat_c rfl cat_n)) (Nat.le_of_ble_eq_true rfl) rfl ?_)
        refine j_aload_n d_Pr_inChannelOf_0 rfl ?_
        refine j_getR (f := 256) (b := b5) fe_Pr_9 rfl rfl t4 e6 d_Pr_inChannelOf_1 ?_
        refine j_iload_n d_Pr_inChannelOf_4 rfl ?_
        refine j_iald (n := n9) t7 x8 d_Pr_inChannelOf_5 ?_
        refine j_aload_n d_Pr_inChannelOf_6 rfl ?_
        obtain ⟨b21, e22, H⟩ := H
        refine j_getR (f := 257) (b := b21) fe_Pr_15 rfl rfl t4 e22 d_Pr_inChannelOf_7 ?_
        refine j_iload_n d_Pr_inChannelOf_10 rfl ?_
        obtain ⟨t23, H⟩ := H
        obtain ⟨n25, x24, H⟩ := H
        refine j_iald (n := n25) t23 x24 d_Pr_inChannelOf_11 ?_
        refine j_isub d_Pr_inChannelOf_12 ?_
        refine j_iret rfl d_Pr_inChannelOf_13 ?_
        show J E 2 m_St_read 46 [some (.ref a0), some (.int p1)] [.int (((gA G b5 n9) - (gA G b21 n25)))] G Post
        refine j_iconst (v := 4) d_St_read_46 (by decide) ?_
        obtain ⟨Ha, Hb⟩ := H
        refine j_icmp_lt (tgt := 60) d_St_read_47 (by decide) (fun c27 => ?_) (fun c28 => ?_)
        · have H := Ha c27
          refine j_aload_n d_St_read_60 rfl ?_
          refine j_iconst (v := 1) d_St_read_61 (by decide) ?_
          refine j_putZ (f := 583) fw_St_54 rfl rfl t1 (by decide) d_St_read_62 ?_
          refine j_aload_n d_St_read_65 rfl ?_
          refine j_getR (f := 578) (b := b2) fe_St_26 rfl rfl t1 e3 d_St_read_66 ?_
          refine j_getR (f := 256) (b := b5) fe_St_143 rfl rfl t4 e6 d_St_read_69 ?_
          refine j_iload_n d_St_read_72 rfl ?_
          refine j_dup2 d_St_read_73 rfl rfl ?_
          refine j_iald (n := n9) t7 x8 d_St_read_74 ?_
          refine j_iconst (v := 1) d_St_read_75 (by decide) ?_
          refine j_iadd d_St_read_76 ?_
          obtain ⟨t26, H⟩ := H
          refine j_iast (n := n9) t26 x8 d_St_read_77 ?_
          refine j_aload_n d_St_read_78 rfl ?_
          refine j_getR (f := 578) (b := b2) fe_St_26 rfl rfl t1 e3 d_St_read_79 ?_
          refine j_iload_n d_St_read_82 rfl ?_
          refine j_callV (d' := 1) (ci := 4) (As := [.int p1]) (rest := []) (b := b2) cv_St_149 me_Pr_inChannelOf rfl (by decide) rfl rfl t4 rfl rfl (Nat.le_of_ble_eq_true rfl) d_St_read_83 (by decide) rfl (j_enter (L := [some (.ref b2), some (.int p1)]) me_Pr_inChannelOf (cat_c rfl (cat_c rfl cat_n)) (Nat.le_of_ble_eq_true rfl) rfl ?_)
          refine j_aload_n d_Pr_inChannelOf_0 rfl ?_
          refine j_getR (f := 256) (b := b5) fe_Pr_9 rfl rfl t4 e6 d_Pr_inChannelOf_1 ?_
          refine j_iload_n d_Pr_inChannelOf_4 rfl ?_
          refine j_iald (n := n9) (Or.inl t26) x8 d_Pr_inChannelOf_5 ?_
          refine j_aload_n d_Pr_inChannelOf_6 rfl ?_
          refine j_getR (f := 257) (b := b21) fe_Pr_15 rfl rfl t4 e22 d_Pr_inChannelOf_7 ?_
          refine j_iload_n d_Pr_inChannelOf_10 rfl ?_
          refine j_iald (n := n25) t23 x24 d_Pr_inChannelOf_11 ?_
          refine j_isub d_Pr_inChannelOf_12 ?_
          refine j_iret rfl d_Pr_inChannelOf_13 ?_
          show J E 2 m_St_read 86 [some (.ref a0), some (.int p1)] [.int (((gA (sA (sI G 583 a0 ((1 : Int32))) b5 n9 (((gA (sI G 583 a0 ((1 : Int32))) b5 n9) + (1 : Int32)))) b5 n9) - (gA (sA (sI G 583 a0 ((1 : Int32))) b5 n9 (((gA (sI G 583 a0 ((1 : Int32))) b5 n9) + (1 : Int32)))) b21 n25)))] (sA (sI G 583 a0 ((1 : Int32))) b5 n9 (((gA (sI G 583 a0 ((1 : Int32))) b5 n9) + (1 : Int32)))) Post
          exact j_iret rfl d_St_read_86 H
        · have H := Hb c28
          exact j_throw te_129_153_133 rfl d_St_read_50 d_St_read_53 d_St_read_54 d_St_read_56 d_St_read_59 (Nat.le_of_ble_eq_true rfl) H
      · have H := Hb c30
        exact j_throw te_129_147_133 rfl d_St_read_28 d_St_read_31 d_St_read_32 d_St_read_34 d_St_read_37 (Nat.le_of_ble_eq_true rfl) H
    · have H := Hb c32
      exact j_throwW te_222_309_226 rfl d_St_needSource_9 d_St_needSource_12 d_St_needSource_13 d_St_needSource_16 d_St_needSource_19 (Nat.le_of_ble_eq_true rfl) H
theorem wp_St_idle_0 {E : EV} {G : GH} {Post : Res → GH → Prop} (a0 : Nat) (p1 : Int32) (p2 : Int32) (H : (p1 < 0 → Post (.inr "java/lang/IndexOutOfBoundsException") (bump G 1 6)) ∧ (¬ p1 < 0 → (p1 < (3 : Int32) → gT G a0 = 10 ∧ ∃ b2, gR G 577 a0 = some b2 ∧ (gT G b2 = 23 ∨ gT G b2 = 24) ∧ ∃ n6, IX p1 n6 (gN G b2) ∧ ∃ b7, gO G b2 n6 = some b7 ∧ gT G b7 = 7 ∧ (p2 = 0 ∨ p2 = 1) ∧ Cl E 9 m_St_lookAtWatermark [.ref a0] (sI G 386 b7 p2) (aft E 10 m_St_idle 25 [none, none, none, some (.int ((gI G 386 b7)))] [] Post)) ∧ (¬ p1 < (3 : Int32) → Post (.inr "java/lang/IndexOutOfBoundsException") (bump G 1 6)))) : J E 10 m_St_idle 0 [some (.ref a0), some (.int p1), some (.int p2), none] [] G Post := by
  refine j_iload_n d_St_idle_0 rfl ?_
  refine j_callS (d' := 1) (As := [.int p1]) (rest := []) cs_St_106 me_St_needSource rfl (by decide) rfl rfl (Nat.le_of_ble_eq_true rfl) d_St_idle_1 (by decide) rfl (j_enter (L := [some (.int p1)]) me_St_needSource (cat_c rfl cat_n) (Nat.le_of_ble_eq_true rfl) rfl ?_)
  refine j_iload_n d_St_needSource_0 rfl ?_
  obtain ⟨Ha, Hb⟩ := H
  refine j_if_lt (tgt := 9) d_St_needSource_1 (by decide) (fun c13 => ?_) (fun c14 => ?_)
  · have H := Ha c13
    exact j_throwW te_222_309_226 rfl d_St_needSource_9 d_St_needSource_12 d_St_needSource_13 d_St_needSource_16 d_St_needSource_19 (Nat.le_of_ble_eq_true rfl) H
  · have H := Hb c14
    refine j_iload_n d_St_needSource_4 rfl ?_
    refine j_iconst (v := 3) d_St_needSource_5 (by decide) ?_
    obtain ⟨Ha, Hb⟩ := H
    refine j_icmp_lt (tgt := 20) d_St_needSource_6 (by decide) (fun c11 => ?_) (fun c12 => ?_)
    · have H := Ha c11
      refine j_vret rfl d_St_needSource_20 ?_
      show J E 10 m_St_idle 4 [some (.ref a0), some (.int p1), some (.int p2), none] [] G Post
      refine j_aload_n d_St_idle_4 rfl ?_
      obtain ⟨t1, H⟩ := H
      obtain ⟨b2, e3, H⟩ := H
      refine j_getR (f := 577) (b := b2) fe_St_19 rfl rfl t1 e3 d_St_idle_5 ?_
      refine j_iload_n d_St_idle_8 rfl ?_
      obtain ⟨t4, H⟩ := H
      obtain ⟨n6, x5, H⟩ := H
      obtain ⟨b7, e8, H⟩ := H
      refine j_aaldR (n := n6) (b := b7) t4 x5 e8 d_St_idle_9 ?_
      obtain ⟨t9, H⟩ := H
      refine j_getI (f := 386) fe_St_155 rfl rfl t9 d_St_idle_10 ?_
      refine j_istore_n (L' := [some (.ref a0), some (.int p1), some (.int p2), some (.int ((gI G 386 b7)))]) d_St_idle_13 (by decide) rfl ?_
      refine j_aload_n d_St_idle_14 rfl ?_
      refine j_getR (f := 577) (b := b2) fe_St_19 rfl rfl t1 e3 d_St_idle_15 ?_
      refine j_iload_n d_St_idle_18 rfl ?_
      refine j_aaldR (n := n6) (b := b7) t4 x5 e8 d_St_idle_19 ?_
      refine j_iload_n d_St_idle_20 rfl ?_
      obtain ⟨z10, H⟩ := H
      refine j_putZ (f := 386) fw_St_155 rfl rfl t9 z10 d_St_idle_21 ?_
      refine j_aload_n d_St_idle_24 rfl ?_
      refine j_forget (L' := [none, none, none, some (.int ((gI G 386 b7)))]) ⟨Or.inl rfl, Or.inl rfl, Or.inl rfl, Or.inr rfl, trivial⟩ ?_
      exact j_callV (d' := 9) (ci := 9) (As := []) (rest := []) (b := a0) cv_St_158 me_St_lookAtWatermark rfl (by decide) rfl rfl t1 rfl rfl (Nat.le_of_ble_eq_true rfl) d_St_idle_25 (by decide) rfl H
    · have H := Hb c12
      exact j_throwW te_222_309_226 rfl d_St_needSource_9 d_St_needSource_12 d_St_needSource_13 d_St_needSource_16 d_St_needSource_19 (Nat.le_of_ble_eq_true rfl) H
theorem wp_St_idle_28 {E : EV} {G : GH} {Post : Res → GH → Prop} (p3 : Int32) (H : (p3 = 0 ∨ p3 = 1) ∧ Post (.inl (some (.int p3))) G) : J E 10 m_St_idle 28 [none, none, none, some (.int p3)] [] G Post := by
  refine j_iload_n d_St_idle_28 rfl ?_
  obtain ⟨z1, H⟩ := H
  exact j_zret rfl z1 d_St_idle_29 H
theorem wp_St_take_0 {E : EV} {G : GH} {Post : Res → GH → Prop} (a0 : Nat) (p1 : Int32) (H : (p1 < 0 → Post (.inr "java/lang/IndexOutOfBoundsException") (bump G 1 6)) ∧ (¬ p1 < 0 → (p1 < (3 : Int32) → gT G a0 = 10 ∧ ∃ b2, gR G 582 a0 = some b2 ∧ gT G b2 = 1 ∧ ((gI G 2 b2) = 0 → ∃ b5, gR G 578 a0 = some b5 ∧ gT G b5 = 5 ∧ ∃ b8, gR G 257 b5 = some b8 ∧ (gT G b8 = 20 ∨ gT G b8 = 25) ∧ ∃ n12, IX p1 n12 (gN G b8) ∧ ((gI G 2 b2) = 0 → Cl E 4 m_St_frontOf [.ref a0, .int p1] G (aft E 12 m_St_take 53 [some (.ref a0), some (.int p1), none] [] Post)) ∧ (¬ (gI G 2 b2) = 0 → ∃ b13, gR G 1 b2 = some b13 ∧ gT G b13 = 21 ∧ ∃ n17, IX p1 n17 (gN G b13) ∧ (¬ (gA G b13 n17) = 0 → Cl E 4 m_St_frontOf [.ref a0, .int p1] G (aft E 12 m_St_take 53 [some (.ref a0), some (.int p1), none] [] Post)) ∧ ((gA G b13 n17) = 0 → ∃ b18, gR G 0 b2 = some b18 ∧ (gT G b18 = 20 ∨ gT G b18 = 25) ∧ ∃ n22, IX p1 n22 (gN G b18) ∧ (¬ (gA G b18 n22) = (gA G b8 n12) → Cl E 4 m_St_frontOf [.ref a0, .int p1] G (aft E 12 m_St_take 53 [some (.ref a0), some (.int p1), none] [] Post)) ∧ ((gA G b18 n22) = (gA G b8 n12) → Cl E 10 m_St_takeBarrier [.ref a0, .int p1] G (aft E 12 m_St_take 47 [none, none, none] [] Post))))) ∧ (¬ (gI G 2 b2) = 0 → ∃ b29, gR G 1 b2 = some b29 ∧ gT G b29 = 21 ∧ ∃ n33, IX p1 n33 (gN G b29) ∧ ((gA G b29 n33) = 0 → ∃ b34, gR G 578 a0 = some b34 ∧ gT G b34 = 5 ∧ ∃ b37, gR G 257 b34 = some b37 ∧ (gT G b37 = 20 ∨ gT G b37 = 25) ∧ ∃ n41, IX p1 n41 (gN G b37) ∧ ((gI G 2 b2) = 0 → Cl E 4 m_St_frontOf [.ref a0, .int p1] G (aft E 12 m_St_take 53 [some (.ref a0), some (.int p1), none] [] Post)) ∧ (¬ (gI G 2 b2) = 0 → (¬ (gA G b29 n33) = 0 → Cl E 4 m_St_frontOf [.ref a0, .int p1] G (aft E 12 m_St_take 53 [some (.ref a0), some (.int p1), none] [] Post)) ∧ ((gA G b29 n33) = 0 → ∃ b42, gR G 0 b2 = some b42 ∧ (gT G b42 = 20 ∨ gT G b42 = 25) ∧ ∃ n46, IX p1 n46 (gN G b42) ∧ (¬ (gA G b42 n46) = (gA G b37 n41) → Cl E 4 m_St_frontOf [.ref a0, .int p1] G (aft E 12 m_St_take 53 [some (.ref a0), some (.int p1), none] [] Post)) ∧ ((gA G b42 n46) = (gA G b37 n41) → Cl E 10 m_St_takeBarrier [.ref a0, .int p1] G (aft E 12 m_St_take 47 [none, none, none] [] Post))))) ∧ (¬ (gA G b29 n33) = 0 → Post (.inr "java/lang/IllegalStateException") (bump G 1 6)))) ∧ (¬ p1 < (3 : Int32) → Post (.inr "java/lang/IndexOutOfBoundsException") (bump G 1 6)))) : J E 12 m_St_take 0 [some (.ref a0), some (.int p1), none] [] G Post := by
  refine j_iload_n d_St_take_0 rfl ?_
  refine j_callS (d' := 1) (As := [.int p1]) (rest := []) cs_St_106 me_St_needSource rfl (by decide) rfl rfl (Nat.le_of_ble_eq_true rfl) d_St_take_1 (by decide) rfl (j_enter (L := [some (.int p1)]) me_St_needSource (cat_c rfl cat_n) (Nat.le_of_ble_eq_true rfl) rfl ?_)
  refine j_iload_n d_St_needSource_0 rfl ?_
  obtain ⟨Ha, Hb⟩ := H
  refine j_if_lt (tgt := 9) d_St_needSource_1 (by decide) (fun c59 => ?_) (fun c60 => ?_)
  · have H := Ha c59
    exact j_throwW te_222_309_226 rfl d_St_needSource_9 d_St_needSource_12 d_St_needSource_13 d_St_needSource_16 d_St_needSource_19 (Nat.le_of_ble_eq_true rfl) H
  · have H := Hb c60
    refine j_iload_n d_St_needSource_4 rfl ?_
    refine j_iconst (v := 3) d_St_needSource_5 (by decide) ?_
    obtain ⟨Ha, Hb⟩ := H
    refine j_icmp_lt (tgt := 20) d_St_needSource_6 (by decide) (fun c57 => ?_) (fun c58 => ?_)
    · have H := Ha c57
      refine j_vret rfl d_St_needSource_20 ?_
      show J E 12 m_St_take 4 [some (.ref a0), some (.int p1), none] [] G Post
      refine j_aload_n d_St_take_4 rfl ?_
      obtain ⟨t1, H⟩ := H
      obtain ⟨b2, e3, H⟩ := H
      refine j_getR (f := 582) (b := b2) fe_St_50 rfl rfl t1 e3 d_St_take_5 ?_
      refine j_iload_n d_St_take_8 rfl ?_
      obtain ⟨t4, H⟩ := H
      refine j_callV (d' := 1) (ci := 0) (As := [.int p1]) (rest := []) (b := b2) cv_St_161 me_Ba_holds rfl (by decide) rfl rfl t4 rfl rfl (Nat.le_of_ble_eq_true rfl) d_St_take_9 (by decide) rfl (j_enter (L := [some (.ref b2), some (.int p1)]) me_Ba_holds (cat_c rfl (cat_c rfl cat_n)) (Nat.le_of_ble_eq_true rfl) rfl ?_)
      refine j_aload_n d_Ba_holds_0 rfl ?_
      refine j_getI (f := 2) fe_Ba_19 rfl rfl t4 d_Ba_holds_1 ?_
      obtain ⟨Ha, Hb⟩ := H
      refine j_if_eq (tgt := 20) d_Ba_holds_4 (by decide) (fun c55 => ?_) (fun c56 => ?_)
      · have H := Ha c55
        refine j_iconst (v := 0) d_Ba_holds_20 (by decide) ?_
        refine j_zret rfl (by decide) d_Ba_holds_21 ?_
        show J E 12 m_St_take 12 [some (.ref a0), some (.int p1), none] [.int ((0 : Int32))] G Post
        refine j_if_eq (tgt := 25) d_St_take_12 (by decide) (fun _ => ?_) (fun c => absurd c (by decide))
        refine j_aload_n d_St_take_25 rfl ?_
        refine j_getR (f := 582) (b := b2) fe_St_50 rfl rfl t1 e3 d_St_take_26 ?_
        refine j_iload_n d_St_take_29 rfl ?_
        refine j_aload_n d_St_take_30 rfl ?_
        obtain ⟨b5, e6, H⟩ := H
        refine j_getR (f := 578) (b := b5) fe_St_26 rfl rfl t1 e6 d_St_take_31 ?_
        obtain ⟨t7, H⟩ := H
        obtain ⟨b8, e9, H⟩ := H
        refine j_getR (f := 257) (b := b8) fe_St_166 rfl rfl t7 e9 d_St_take_34 ?_
        refine j_iload_n d_St_take_37 rfl ?_
        obtain ⟨t10, H⟩ := H
        obtain ⟨n12, x11, H⟩ := H
        refine j_iald (n := n12) t10 x11 d_St_take_38 ?_
        refine j_callV (d' := 1) (ci := 0) (As := [.int p1, .int ((gA G b8 n12))]) (rest := []) (b := b2) cv_St_169 me_Ba_isAtFront rfl (by decide) rfl rfl t4 rfl rfl (Nat.le_of_ble_eq_true rfl) d_St_take_39 (by decide) rfl (j_enter (L := [some (.ref b2), some (.int p1), some (.int ((gA G b8 n12)))]) me_Ba_isAtFront (cat_c rfl (cat_c rfl (cat_c rfl cat_n))) (Nat.le_of_ble_eq_true rfl) rfl ?_)
        refine j_aload_n d_Ba_isAtFront_0 rfl ?_
        refine j_getI (f := 2) fe_Ba_19 rfl rfl t4 d_Ba_isAtFront_1 ?_
        obtain ⟨Ha, Hb⟩ := H
        refine j_if_eq (tgt := 30) d_Ba_isAtFront_4 (by decide) (fun c27 => ?_) (fun c28 => ?_)
        · have H := Ha c27
          refine j_iconst (v := 0) d_Ba_isAtFront_30 (by decide) ?_
          refine j_zret rfl (by decide) d_Ba_isAtFront_31 ?_
          show J E 12 m_St_take 42 [some (.ref a0), some (.int p1), none] [.int ((0 : Int32))] G Post
          refine j_if_eq (tgt := 51) d_St_take_42 (by decide) (fun _ => ?_) (fun c => absurd c (by decide))
          refine j_aload_n d_St_take_51 rfl ?_
          refine j_iload_n d_St_take_52 rfl ?_
          exact j_callV (d' := 4) (ci := 9) (As := [.int p1]) (rest := []) (b := a0) cv_St_175 me_St_frontOf rfl (by decide) rfl rfl t1 rfl rfl (Nat.le_of_ble_eq_true rfl) d_St_take_53 (by decide) rfl H
        · have H := Hb c28
          refine j_aload_n d_Ba_isAtFront_7 rfl ?_
          obtain ⟨b13, e14, H⟩ := H
          refine j_getR (f := 1) (b := b13) fe_Ba_15 rfl rfl t4 e14 d_Ba_isAtFront_8 ?_
          refine j_iload_n d_Ba_isAtFront_11 rfl ?_
          obtain ⟨t15, H⟩ := H
          obtain ⟨n17, x16, H⟩ := H
          refine j_zald (n := n17) t15 x16 d_Ba_isAtFront_12 ?_
          obtain ⟨Ha, Hb⟩ := H
          refine j_if_ne (tgt := 30) d_Ba_isAtFront_13 (by decide) (fun c25 => ?_) (fun c26 => ?_)
          · have H := Ha c25
            refine j_iconst (v := 0) d_Ba_isAtFront_30 (by decide) ?_
            refine j_zret rfl (by decide) d_Ba_isAtFront_31 ?_
            show J E 12 m_St_take 42 [some (.ref a0), some (.int p1), none] [.int ((0 : Int32))] G Post
            refine j_if_eq (tgt := 51) d_St_take_42 (by decide) (fun _ => ?_) (fun c => absurd c (by decide))
            refine j_aload_n d_St_take_51 rfl ?_
            refine j_iload_n d_St_take_52 rfl ?_
            exact j_callV (d' := 4) (ci := 9) (As := [.int p1]) (rest := []) (b := a0) cv_St_175 me_St_frontOf rfl (by decide) rfl rfl t1 rfl rfl (Nat.le_of_ble_eq_true rfl) d_St_take_53 (by decide) rfl H
          · have H := Hb c26
            refine j_aload_n d_Ba_isAtFront_16 rfl ?_
            obtain ⟨b18, e19, H⟩ := H
            refine j_getR (f := 0) (b := b18) fe_Ba_9 rfl rfl t4 e19 d_Ba_isAtFront_17 ?_
            refine j_iload_n d_Ba_isAtFront_20 rfl ?_
            obtain ⟨t20, H⟩ := H
            obtain ⟨n22, x21, H⟩ := H
            refine j_iald (n := n22) t20 x21 d_Ba_isAtFront_21 ?_
            refine j_iload_n d_Ba_isAtFront_22 rfl ?_
            obtain ⟨Ha, Hb⟩ := H
            refine j_icmp_ne (tgt := 30) d_Ba_isAtFront_23 (by decide) (fun c23 => ?_) (fun c24 => ?_)
            · have H := Ha c23
              refine j_iconst (v := 0) d_Ba_isAtFront_30 (by decide) ?_
              refine j_zret rfl (by decide) d_Ba_isAtFront_31 ?_
              show J E 12 m_St_take 42 [some (.ref a0), some (.int p1), none] [.int ((0 : Int32))] G Post
              refine j_if_eq (tgt := 51) d_St_take_42 (by decide) (fun _ => ?_) (fun c => absurd c (by decide))
              refine j_aload_n d_St_take_51 rfl ?_
              refine j_iload_n d_St_take_52 rfl ?_
              exact j_callV (d' := 4) (ci := 9) (As := [.int p1]) (rest := []) (b := a0) cv_St_175 me_St_frontOf rfl (by decide) rfl rfl t1 rfl rfl (Nat.le_of_ble_eq_true rfl) d_St_take_53 (by decide) rfl H
            · have H := Hb c24
              refine j_iconst (v := 1) d_Ba_isAtFront_26 (by decide) ?_
              refine j_goto (tgt := 31) d_Ba_isAtFront_27 (by decide) ?_
              refine j_zret rfl (by decide) d_Ba_isAtFront_31 ?_
              show J E 12 m_St_take 42 [some (.ref a0), some (.int p1), none] [.int ((1 : Int32))] G Post
              refine j_if_eq (tgt := 51) d_St_take_42 (by decide) (fun c => absurd c (by decide)) (fun _ => ?_)
              refine j_aload_n d_St_take_45 rfl ?_
              refine j_iload_n d_St_take_46 rfl ?_
              refine j_forget (L' := [none, none, none]) ⟨Or.inl rfl, Or.inl rfl, Or.inl rfl, trivial⟩ ?_
              exact j_callV (d' := 10) (ci := 9) (As := [.int p1]) (rest := []) (b := a0) cv_St_172 me_St_takeBarrier rfl (by decide) rfl rfl t1 rfl rfl (Nat.le_of_ble_eq_true rfl) d_St_take_47 (by decide) rfl H
      · have H := Hb c56
        refine j_aload_n d_Ba_holds_7 rfl ?_
        obtain ⟨b29, e30, H⟩ := H
        refine j_getR (f := 1) (b := b29) fe_Ba_15 rfl rfl t4 e30 d_Ba_holds_8 ?_
        refine j_iload_n d_Ba_holds_11 rfl ?_
        obtain ⟨t31, H⟩ := H
        obtain ⟨n33, x32, H⟩ := H
        refine j_zald (n := n33) t31 x32 d_Ba_holds_12 ?_
        obtain ⟨Ha, Hb⟩ := H
        refine j_if_eq (tgt := 20) d_Ba_holds_13 (by decide) (fun c53 => ?_) (fun c54 => ?_)
        · have H := Ha c53
          refine j_iconst (v := 0) d_Ba_holds_20 (by decide) ?_
          refine j_zret rfl (by decide) d_Ba_holds_21 ?_
          show J E 12 m_St_take 12 [some (.ref a0), some (.int p1), none] [.int ((0 : Int32))] G Post
          refine j_if_eq (tgt := 25) d_St_take_12 (by decide) (fun _ => ?_) (fun c => absurd c (by decide))
          refine j_aload_n d_St_take_25 rfl ?_
          refine j_getR (f := 582) (b := b2) fe_St_50 rfl rfl t1 e3 d_St_take_26 ?_
          refine j_iload_n d_St_take_29 rfl ?_
          refine j_aload_n d_St_take_30 rfl ?_
          obtain ⟨b34, e35, H⟩ := H
          refine j_getR (f := 578) (b := b34) fe_St_26 rfl rfl t1 e35 d_St_take_31 ?_
          obtain ⟨t36, H⟩ := H
          obtain ⟨b37, e38, H⟩ := H
          refine j_getR (f := 257) (b := b37) fe_St_166 rfl rfl t36 e38 d_St_take_34 ?_
          refine j_iload_n d_St_take_37 rfl ?_
          obtain ⟨t39, H⟩ := H
          obtain ⟨n41, x40, H⟩ := H
          refine j_iald (n := n41) t39 x40 d_St_take_38 ?_
          refine j_callV (d' := 1) (ci := 0) (As := [.int p1, .int ((gA G b37 n41))]) (rest := []) (b := b2) cv_St_169 me_Ba_isAtFront rfl (by decide) rfl rfl t4 rfl rfl (Nat.le_of_ble_eq_true rfl) d_St_take_39 (by decide) rfl (j_enter (L := [some (.ref b2), some (.int p1), some (.int ((gA G b37 n41)))]) me_Ba_isAtFront (cat_c rfl (cat_c rfl (cat_c rfl cat_n))) (Nat.le_of_ble_eq_true rfl) rfl ?_)
          refine j_aload_n d_Ba_isAtFront_0 rfl ?_
          refine j_getI (f := 2) fe_Ba_19 rfl rfl t4 d_Ba_isAtFront_1 ?_
          obtain ⟨Ha, Hb⟩ := H
          refine j_if_eq (tgt := 30) d_Ba_isAtFront_4 (by decide) (fun c51 => ?_) (fun c52 => ?_)
          · have H := Ha c51
            refine j_iconst (v := 0) d_Ba_isAtFront_30 (by decide) ?_
            refine j_zret rfl (by decide) d_Ba_isAtFront_31 ?_
            show J E 12 m_St_take 42 [some (.ref a0), some (.int p1), none] [.int ((0 : Int32))] G Post
            refine j_if_eq (tgt := 51) d_St_take_42 (by decide) (fun _ => ?_) (fun c => absurd c (by decide))
            refine j_aload_n d_St_take_51 rfl ?_
            refine j_iload_n d_St_take_52 rfl ?_
            exact j_callV (d' := 4) (ci := 9) (As := [.int p1]) (rest := []) (b := a0) cv_St_175 me_St_frontOf rfl (by decide) rfl rfl t1 rfl rfl (Nat.le_of_ble_eq_true rfl) d_St_take_53 (by decide) rfl H
          · have H := Hb c52
            refine j_aload_n d_Ba_isAtFront_7 rfl ?_
            refine j_getR (f := 1) (b := b29) fe_Ba_15 rfl rfl t4 e30 d_Ba_isAtFront_8 ?_
            refine j_iload_n d_Ba_isAtFront_11 rfl ?_
            refine j_zald (n := n33) t31 x32 d_Ba_isAtFront_12 ?_
            obtain ⟨Ha, Hb⟩ := H
            refine j_if_ne (tgt := 30) d_Ba_isAtFront_13 (by decide) (fun c49 => ?_) (fun c50 => ?_)
            · have H := Ha c49
              refine j_iconst (v := 0) d_Ba_isAtFront_30 (by decide) ?_
              refine j_zret rfl (by decide) d_Ba_isAtFront_31 ?_
              show J E 12 m_St_take 42 [some (.ref a0), some (.int p1), none] [.int ((0 : Int32))] G Post
              refine j_if_eq (tgt := 51) d_St_take_42 (by decide) (fun _ => ?_) (fun c => absurd c (by decide))
              refine j_aload_n d_St_take_51 rfl ?_
              refine j_iload_n d_St_take_52 rfl ?_
              exact j_callV (d' := 4) (ci := 9) (As := [.int p1]) (rest := []) (b := a0) cv_St_175 me_St_frontOf rfl (by decide) rfl rfl t1 rfl rfl (Nat.le_of_ble_eq_true rfl) d_St_take_53 (by decide) rfl H
            · have H := Hb c50
              refine j_aload_n d_Ba_isAtFront_16 rfl ?_
              obtain ⟨b42, e43, H⟩ := H
              refine j_getR (f := 0) (b := b42) fe_Ba_9 rfl rfl t4 e43 d_Ba_isAtFront_17 ?_
              refine j_iload_n d_Ba_isAtFront_20 rfl ?_
              obtain ⟨t44, H⟩ := H
              obtain ⟨n46, x45, H⟩ := H
              refine j_iald (n := n46) t44 x45 d_Ba_isAtFront_21 ?_
              refine j_iload_n d_Ba_isAtFront_22 rfl ?_
              obtain ⟨Ha, Hb⟩ := H
              refine j_icmp_ne (tgt := 30) d_Ba_isAtFront_23 (by decide) (fun c47 => ?_) (fun c48 => ?_)
              · have H := Ha c47
                refine j_iconst (v := 0) d_Ba_isAtFront_30 (by decide) ?_
                refine j_zret rfl (by decide) d_Ba_isAtFront_31 ?_
                show J E 12 m_St_take 42 [some (.ref a0), some (.int p1), none] [.int ((0 : Int32))] G Post
                refine j_if_eq (tgt := 51) d_St_take_42 (by decide) (fun _ => ?_) (fun c => absurd c (by decide))
                refine j_aload_n d_St_take_51 rfl ?_
                refine j_iload_n d_St_take_52 rfl ?_
                exact j_callV (d' := 4) (ci := 9) (As := [.int p1]) (rest := []) (b := a0) cv_St_175 me_St_frontOf rfl (by decide) rfl rfl t1 rfl rfl (Nat.le_of_ble_eq_true rfl) d_St_take_53 (by decide) rfl H
              · have H := Hb c48
                refine j_iconst (v := 1) d_Ba_isAtFront_26 (by decide) ?_
                refine j_goto (tgt := 31) d_Ba_isAtFront_27 (by decide) ?_
                refine j_zret rfl (by decide) d_Ba_isAtFront_31 ?_
                show J E 12 m_St_take 42 [some (.ref a0), some (.int p1), none] [.int ((1 : Int32))] G Post
                refine j_if_eq (tgt := 51) d_St_take_42 (by decide) (fun c => absurd c (by decide)) (fun _ => ?_)
                refine j_aload_n d_St_take_45 rfl ?_
                refine j_iload_n d_St_take_46 rfl ?_
                refine j_forget (L' := [none, none, none]) ⟨Or.inl rfl, Or.inl rfl, Or.inl rfl, trivial⟩ ?_
                exact j_callV (d' := 10) (ci := 9) (As := [.int p1]) (rest := []) (b := a0) cv_St_172 me_St_takeBarrier rfl (by decide) rfl rfl t1 rfl rfl (Nat.le_of_ble_eq_true rfl) d_St_take_47 (by decide) rfl H
        · have H := Hb c54
          refine j_iconst (v := 1) d_Ba_holds_16 (by decide) ?_
          refine j_goto (tgt := 21) d_Ba_holds_17 (by decide) ?_
          refine j_zret rfl (by decide) d_Ba_holds_21 ?_
          show J E 12 m_St_take 12 [some (.ref a0), some (.int p1), none] [.int ((1 : Int32))] G Post
          refine j_if_eq (tgt := 25) d_St_take_12 (by decide) (fun c => absurd c (by decide)) (fun _ => ?_)
          exact j_throw te_129_164_133 rfl d_St_take_15 d_St_take_18 d_St_take_19 d_St_take_21 d_St_take_24 (Nat.le_of_ble_eq_true rfl) H
    · have H := Hb c58
      exact j_throwW te_222_309_226 rfl d_St_needSource_9 d_St_needSource_12 d_St_needSource_13 d_St_needSource_16 d_St_needSource_19 (Nat.le_of_ble_eq_true rfl) H
theorem wp_St_take_56 {E : EV} {G : GH} {Post : Res → GH → Prop} (a0 : Nat) (p1 : Int32) (w0 : Option Nat) (H : (∀ r1, w0 = some r1 → gT G a0 = 10 ∧ Cl E 11 m_St_takeEvent [.ref a0, .int p1, .ref r1] G (aft E 12 m_St_take 74 [none, none, none] [] Post)) ∧ (w0 = none → Post (.inr "java/lang/IllegalStateException") (bump G 1 6))) : J E 12 m_St_take 56 [some (.ref a0), some (.int p1), none] [va_rf w0] G Post := by
  refine j_astore_n (x := w0) (L' := [some (.ref a0), some (.int p1), some (va_rf w0)]) rfl d_St_take_56 (by decide) rfl ?_
  refine j_aload_nq (x := w0) d_St_take_57 rfl ?_
  obtain ⟨Ha, Hb⟩ := H
  refine j_ifnonnull (x := w0) (tgt := 71) rfl d_St_take_58 (by decide) (fun r1 c3 => ?_) (fun c3 => ?_)
  · have H := Ha r1 c3
    subst c3
    refine j_aload_n d_St_take_71 rfl ?_
    refine j_iload_n d_St_take_72 rfl ?_
    refine j_aload_n d_St_take_73 rfl ?_
    obtain ⟨t2, H⟩ := H
    refine j_forget (L' := [none, none, none]) ⟨Or.inl rfl, Or.inl rfl, Or.inl rfl, trivial⟩ ?_
    exact j_callV (d' := 11) (ci := 9) (As := [.int p1, .ref r1]) (rest := []) (b := a0) cv_St_181 me_St_takeEvent rfl (by decide) rfl rfl t2 rfl rfl (Nat.le_of_ble_eq_true rfl) d_St_take_74 (by decide) rfl H
  · have H := Hb c3
    subst c3
    exact j_throw te_129_179_133 rfl d_St_take_61 d_St_take_64 d_St_take_65 d_St_take_67 d_St_take_70 (Nat.le_of_ble_eq_true rfl) H
theorem wp_St_take_50 {E : EV} {G : GH} {Post : Res → GH → Prop} (s0 : Int32) (H : Post (.inl (some (.int s0))) G) : J E 12 m_St_take 50 [none, none, none] [.int s0] G Post := by
  exact j_iret rfl d_St_take_50 H
theorem wp_St_take_77 {E : EV} {G : GH} {Post : Res → GH → Prop} (s0 : Int32) (H : Post (.inl (some (.int s0))) G) : J E 12 m_St_take 77 [none, none, none] [.int s0] G Post := by
  exact j_iret rfl d_St_take_77 H
theorem wp_St_barrier_0 {E : EV} {G : GH} {Post : Res → GH → Prop} (a0 : Nat) (H : gT G a0 = 10 ∧ ∃ b2, gR G 582 a0 = some b2 ∧ gT G b2 = 1 ∧ ((gI G 2 b2) = 0 → ∃ b5, gR G 578 a0 = some b5 ∧ gT G b5 = 5 ∧ ∃ b8, gR G 256 b5 = some b8 ∧ ∃ b10, gR G 576 a0 = some b10 ∧ gT G b10 = 4 ∧ Cl E 1 m_Ba_put [.ref b2, .ref b8, .int ((gI G 197 b10))] (sI G 583 a0 ((1 : Int32))) (aft E 10 m_St_barrier 43 [some (.ref a0)] [] Post)) ∧ (¬ (gI G 2 b2) = 0 → Post (.inr "java/lang/IllegalStateException") (bump G 1 6))) : J E 10 m_St_barrier 0 [some (.ref a0)] [] G Post := by
  refine j_aload_n d_St_barrier_0 rfl ?_
  obtain ⟨t1, H⟩ := H
  obtain ⟨b2, e3, H⟩ := H
  refine j_getR (f := 582) (b := b2) fe_St_50 rfl rfl t1 e3 d_St_barrier_1 ?_
  obtain ⟨t4, H⟩ := H
  refine j_getI (f := 2) fe_St_185 rfl rfl t4 d_St_barrier_4 ?_
  obtain ⟨Ha, Hb⟩ := H
  refine j_if_eq (tgt := 20) d_St_barrier_7 (by decide) (fun c13 => ?_) (fun c14 => ?_)
  · have H := Ha c13
    refine j_aload_n d_St_barrier_20 rfl ?_
    refine j_iconst (v := 1) d_St_barrier_21 (by decide) ?_
    refine j_putZ (f := 583) fw_St_54 rfl rfl t1 (by decide) d_St_barrier_22 ?_
    refine j_aload_n d_St_barrier_25 rfl ?_
    refine j_getR (f := 582) (b := b2) fe_St_50 rfl rfl t1 e3 d_St_barrier_26 ?_
    refine j_aload_n d_St_barrier_29 rfl ?_
    obtain ⟨b5, e6, H⟩ := H
    refine j_getR (f := 578) (b := b5) fe_St_26 rfl rfl t1 e6 d_St_barrier_30 ?_
    obtain ⟨t7, H⟩ := H
    obtain ⟨b8, e9, H⟩ := H
    refine j_getR (f := 256) (b := b8) fe_St_143 rfl rfl t7 e9 d_St_barrier_33 ?_
    refine j_aload_n d_St_barrier_36 rfl ?_
    obtain ⟨b10, e11, H⟩ := H
    refine j_getR (f := 576) (b := b10) fe_St_10 rfl rfl t1 e11 d_St_barrier_37 ?_
    obtain ⟨t12, H⟩ := H
    refine j_getI (f := 197) fe_St_103 rfl rfl t12 d_St_barrier_40 ?_
    exact j_callV (d' := 1) (ci := 0) (As := [.ref b8, .int ((gI G 197 b10))]) (rest := []) (b := b2) cv_St_190 me_Ba_put rfl (by decide) rfl rfl t4 rfl rfl (Nat.le_of_ble_eq_true rfl) d_St_barrier_43 (by decide) rfl H
  · have H := Hb c14
    exact j_throw te_129_188_133 rfl d_St_barrier_10 d_St_barrier_13 d_St_barrier_14 d_St_barrier_16 d_St_barrier_19 (Nat.le_of_ble_eq_true rfl) H
theorem wp_St_barrier_46 {E : EV} {G : GH} {Post : Res → GH → Prop} (a0 : Nat) (H : gT G a0 = 10 ∧ ∃ b2, gR G 576 a0 = some b2 ∧ gT G b2 = 4 ∧ (¬ (gI G 197 b2) = 0 → Post (.inl (some (.int ((gI G 584 a0))))) G) ∧ ((gI G 197 b2) = 0 → Cl E 9 m_St_takeSnapshot [.ref a0] G (aft E 10 m_St_barrier 57 [some (.ref a0)] [] Post))) : J E 10 m_St_barrier 46 [some (.ref a0)] [] G Post := by
  refine j_aload_n d_St_barrier_46 rfl ?_
  obtain ⟨t1, H⟩ := H
  obtain ⟨b2, e3, H⟩ := H
  refine j_getR (f := 576) (b := b2) fe_St_10 rfl rfl t1 e3 d_St_barrier_47 ?_
  obtain ⟨t4, H⟩ := H
  refine j_getI (f := 197) fe_St_103 rfl rfl t4 d_St_barrier_50 ?_
  obtain ⟨Ha, Hb⟩ := H
  refine j_if_ne (tgt := 60) d_St_barrier_53 (by decide) (fun c5 => ?_) (fun c6 => ?_)
  · have H := Ha c5
    refine j_aload_n d_St_barrier_60 rfl ?_
    refine j_getI (f := 584) fe_St_58 rfl rfl t1 d_St_barrier_61 ?_
    exact j_iret rfl d_St_barrier_64 H
  · have H := Hb c6
    refine j_aload_n d_St_barrier_56 rfl ?_
    exact j_callV (d' := 9) (ci := 9) (As := []) (rest := []) (b := a0) cv_St_194 me_St_takeSnapshot rfl (by decide) rfl rfl t1 rfl rfl (Nat.le_of_ble_eq_true rfl) d_St_barrier_57 (by decide) rfl H
theorem wp_St_barrier_60 {E : EV} {G : GH} {Post : Res → GH → Prop} (a0 : Nat) (H : gT G a0 = 10 ∧ Post (.inl (some (.int ((gI G 584 a0))))) G) : J E 10 m_St_barrier 60 [some (.ref a0)] [] G Post := by
  refine j_aload_n d_St_barrier_60 rfl ?_
  obtain ⟨t1, H⟩ := H
  refine j_getI (f := 584) fe_St_58 rfl rfl t1 d_St_barrier_61 ?_
  exact j_iret rfl d_St_barrier_64 H
theorem wp_St_confirm_0 {E : EV} {G : GH} {Post : Res → GH → Prop} (a0 : Nat) (H : gT G a0 = 10 ∧ (¬ (gI G 585 a0) = 0 → ∃ b2, gR G 581 a0 = some b2 ∧ gT G b2 = 6 ∧ ∃ b5, gR G 580 a0 = some b5 ∧ ∃ b7, gR G 579 a0 = some b7 ∧ gT G b7 = 5 ∧ gT G b5 = 3 ∧ ∀ G11, G11 = sI (sI (sI (sI G 321 b2 ((gI G 322 b2))) 129 b5 ((gI G 260 b7))) 130 b5 ((gI G 259 b7))) 585 a0 ((0 : Int32)) → Post (.inl (some (.int (((gI G 322 b2)))))) G11) ∧ ((gI G 585 a0) = 0 → Post (.inr "java/lang/IllegalStateException") (bump G 1 6))) : J E 2 m_St_confirm 0 [some (.ref a0)] [] G Post := by
  refine j_aload_n d_St_confirm_0 rfl ?_
  obtain ⟨t1, H⟩ := H
  refine j_getI (f := 585) fe_St_62 rfl rfl t1 d_St_confirm_1 ?_
  obtain ⟨Ha, Hb⟩ := H
  refine j_if_ne (tgt := 17) d_St_confirm_4 (by decide) (fun c13 => ?_) (fun c14 => ?_)
  · have H := Ha c13
    refine j_aload_n d_St_confirm_17 rfl ?_
    refine j_callV (d' := 1) (ci := 9) (As := []) (rest := []) (b := a0) cv_St_199 me_St_commitSnapshot rfl (by decide) rfl rfl t1 rfl rfl (Nat.le_of_ble_eq_true rfl) d_St_confirm_18 (by decide) rfl (j_enter (L := [some (.ref a0)]) me_St_commitSnapshot (cat_c rfl cat_n) (Nat.le_of_ble_eq_true rfl) rfl ?_)
    refine j_aload_n d_St_commitSnapshot_0 rfl ?_
    obtain ⟨b2, e3, H⟩ := H
    refine j_getR (f := 581) (b := b2) fe_St_43 rfl rfl t1 e3 d_St_commitSnapshot_1 ?_
    refine j_aload_n d_St_commitSnapshot_4 rfl ?_
    refine j_getR (f := 581) (b := b2) fe_St_43 rfl rfl t1 e3 d_St_commitSnapshot_5 ?_
    obtain ⟨t4, H⟩ := H
    refine j_getI (f := 322) fe_St_368 rfl rfl t4 d_St_commitSnapshot_8 ?_
    refine j_putI (f := 321) fw_St_202 rfl rfl t4 d_St_commitSnapshot_11 ?_
    refine j_aload_n d_St_commitSnapshot_14 rfl ?_
    obtain ⟨b5, e6, H⟩ := H
    refine j_getR (f := 580) (b := b5) fe_St_36 rfl rfl t1 e6 d_St_commitSnapshot_15 ?_
    refine j_aload_n d_St_commitSnapshot_18 rfl ?_
    obtain ⟨b7, e8, H⟩ := H
    refine j_getR (f := 579) (b := b7) fe_St_30 rfl rfl t1 e8 d_St_commitSnapshot_19 ?_
    obtain ⟨t9, H⟩ := H
    refine j_getI (f := 260) fe_St_338 rfl rfl t9 d_St_commitSnapshot_22 ?_
    obtain ⟨t10, H⟩ := H
    refine j_putI (f := 129) fw_St_371 rfl rfl t10 d_St_commitSnapshot_25 ?_
    refine j_aload_n d_St_commitSnapshot_28 rfl ?_
    refine j_getR (f := 580) (b := b5) fe_St_36 rfl rfl t1 e6 d_St_commitSnapshot_29 ?_
    refine j_aload_n d_St_commitSnapshot_32 rfl ?_
    refine j_getR (f := 579) (b := b7) fe_St_30 rfl rfl t1 e8 d_St_commitSnapshot_33 ?_
    refine j_getI (f := 259) fe_St_216 rfl rfl t9 d_St_commitSnapshot_36 ?_
    refine j_putI (f := 130) fw_St_299 rfl rfl t10 d_St_commitSnapshot_39 ?_
    refine j_aload_n d_St_commitSnapshot_42 rfl ?_
    refine j_iconst (v := 0) d_St_commitSnapshot_43 (by decide) ?_
    refine j_putZ (f := 585) fw_St_62 rfl rfl t1 (by decide) d_St_commitSnapshot_44 ?_
    show J E 1 m_St_commitSnapshot 47 [some (.ref a0)] [] (sI (sI (sI (sI G 321 b2 ((gI G 322 b2))) 129 b5 ((gI G 260 b7))) 130 b5 ((gI G 259 b7))) 585 a0 ((0 : Int32))) (aft E 2 m_St_confirm 18 [some (.ref a0)] [] Post)
    generalize e12 : sI (sI (sI (sI G 321 b2 ((gI G 322 b2))) 129 b5 ((gI G 260 b7))) 130 b5 ((gI G 259 b7))) 585 a0 ((0 : Int32)) = G11
    have e12 := e12.symm
    have H := H G11 e12
    refine j_vret rfl d_St_commitSnapshot_47 ?_
    show J E 2 m_St_confirm 21 [some (.ref a0)] [] G11 Post
    refine j_aload_n d_St_confirm_21 rfl ?_
    refine j_getR (f := 581) (b := b2) fe_St_43 rfl rfl (by rw [e12]; exact t1) (by rw [e12]; exact e3) d_St_confirm_22 ?_
    refine j_getIv (f := 321) (v := ((gI G 322 b2))) fe_St_202 rfl rfl (by rw [e12]; exact t4) (by rw [e12]; exact (show gI (sI G 321 b2 ((gI G 322 b2))) 321 b2 = _ from gI_sI_eq)) d_St_confirm_25 ?_
    exact j_iret rfl d_St_confirm_28 H
  · have H := Hb c14
    exact j_throw te_129_197_133 rfl d_St_confirm_7 d_St_confirm_10 d_St_confirm_11 d_St_confirm_13 d_St_confirm_16 (Nat.le_of_ble_eq_true rfl) H
theorem wp_St_fail_0 {E : EV} {G : GH} {Post : Res → GH → Prop} (a0 : Nat) (H : gT G a0 = 10 ∧ Cl E 10 m_St_fallBack [.ref a0] G (aft E 11 m_St_fail 1 [some (.ref a0)] [] Post)) : J E 11 m_St_fail 0 [some (.ref a0)] [] G Post := by
  refine j_aload_n d_St_fail_0 rfl ?_
  obtain ⟨t1, H⟩ := H
  exact j_callV (d' := 10) (ci := 9) (As := []) (rest := []) (b := a0) cv_St_205 me_St_fallBack rfl (by decide) rfl rfl t1 rfl rfl (Nat.le_of_ble_eq_true rfl) d_St_fail_1 (by decide) rfl H
theorem wp_St_fail_4 {E : EV} {G : GH} {Post : Res → GH → Prop} (a0 : Nat) (H : gT G a0 = 10 ∧ ∃ b2, gR G 581 a0 = some b2 ∧ gT G b2 = 6 ∧ Post (.inl (some (.int ((gI G 321 b2))))) G) : J E 11 m_St_fail 4 [some (.ref a0)] [] G Post := by
  refine j_aload_n d_St_fail_4 rfl ?_
  obtain ⟨t1, H⟩ := H
  obtain ⟨b2, e3, H⟩ := H
  refine j_getR (f := 581) (b := b2) fe_St_43 rfl rfl t1 e3 d_St_fail_5 ?_
  obtain ⟨t4, H⟩ := H
  refine j_getI (f := 321) fe_St_202 rfl rfl t4 d_St_fail_8 ?_
  exact j_iret rfl d_St_fail_11 H
theorem wp_St_workers_0 {E : EV} {G : GH} {Post : Res → GH → Prop} (a0 : Nat) (p1 : Int32) (H : (p1 < (1 : Int32) → Post (.inr "java/lang/IllegalArgumentException") (bump G 1 6)) ∧ (¬ p1 < (1 : Int32) → (p1 ≤ (3 : Int32) → gT G a0 = 10 ∧ (¬ (gI G 584 a0) = 0 → J E 11 m_St_workers 41 [some (.ref a0), some (.int p1), some (.int ((0 : Int32))), some (.int ((0 : Int32)))] [] G Post) ∧ ((gI G 584 a0) = 0 → Post (.inr "java/lang/IllegalStateException") (bump G 1 6))) ∧ (¬ p1 ≤ (3 : Int32) → Post (.inr "java/lang/IllegalArgumentException") (bump G 1 6)))) : J E 11 m_St_workers 0 [some (.ref a0), some (.int p1), none, none] [] G Post := by
  refine j_iload_n d_St_workers_0 rfl ?_
  refine j_iconst (v := 1) d_St_workers_1 (by decide) ?_
  obtain ⟨Ha, Hb⟩ := H
  refine j_icmp_lt (tgt := 10) d_St_workers_2 (by decide) (fun c6 => ?_) (fun c7 => ?_)
  · have H := Ha c6
    exact j_throw te_72_208_76 rfl d_St_workers_10 d_St_workers_13 d_St_workers_14 d_St_workers_16 d_St_workers_19 (Nat.le_of_ble_eq_true rfl) H
  · have H := Hb c7
    refine j_iload_n d_St_workers_5 rfl ?_
    refine j_iconst (v := 3) d_St_workers_6 (by decide) ?_
    obtain ⟨Ha, Hb⟩ := H
    refine j_icmp_le (tgt := 20) d_St_workers_7 (by decide) (fun c4 => ?_) (fun c5 => ?_)
    · have H := Ha c4
      refine j_aload_n d_St_workers_20 rfl ?_
      obtain ⟨t1, H⟩ := H
      refine j_getI (f := 584) fe_St_58 rfl rfl t1 d_St_workers_21 ?_
      obtain ⟨Ha, Hb⟩ := H
      refine j_if_ne (tgt := 37) d_St_workers_24 (by decide) (fun c2 => ?_) (fun c3 => ?_)
      · have H := Ha c2
        refine j_iconst (v := 0) d_St_workers_37 (by decide) ?_
        refine j_istore_n (L' := [some (.ref a0), some (.int p1), some (.int ((0 : Int32))), none]) d_St_workers_38 (by decide) rfl ?_
        refine j_iconst (v := 0) d_St_workers_39 (by decide) ?_
        refine j_istore_n (L' := [some (.ref a0), some (.int p1), some (.int ((0 : Int32))), some (.int ((0 : Int32)))]) d_St_workers_40 (by decide) rfl ?_
        exact H
      · have H := Hb c3
        exact j_throw te_129_210_133 rfl d_St_workers_27 d_St_workers_30 d_St_workers_31 d_St_workers_33 d_St_workers_36 (Nat.le_of_ble_eq_true rfl) H
    · have H := Hb c5
      exact j_throw te_72_208_76 rfl d_St_workers_10 d_St_workers_13 d_St_workers_14 d_St_workers_16 d_St_workers_19 (Nat.le_of_ble_eq_true rfl) H
theorem wp_St_workers_41 {E : EV} {G : GH} {Post : Res → GH → Prop} (a0 : Nat) (p1 : Int32) (p2 : Int32) (p3 : Int32) (H : ((6 : Int32) ≤ p3 → gT G a0 = 10 ∧ Cl E 10 m_St_fallBack [.ref a0] (sI G 586 a0 p1) (aft E 11 m_St_workers 78 [none, none, some (.int p2), none] [] Post)) ∧ (¬ (6 : Int32) ≤ p3 → gT G a0 = 10 ∧ (((p3 * (gI G 586 a0)) / (6 : Int32)) = ((p3 * p1) / (6 : Int32)) → J E 11 m_St_workers 41 [some (.ref a0), some (.int p1), some (.int p2), some (.int ((p3 + (1 : Int32))))] [] G Post) ∧ (¬ ((p3 * (gI G 586 a0)) / (6 : Int32)) = ((p3 * p1) / (6 : Int32)) → J E 11 m_St_workers 41 [some (.ref a0), some (.int p1), some (.int ((p2 + (1 : Int32)))), some (.int ((p3 + (1 : Int32))))] [] G Post))) : J E 11 m_St_workers 41 [some (.ref a0), some (.int p1), some (.int p2), some (.int p3)] [] G Post := by
  refine j_iload_n d_St_workers_41 rfl ?_
  refine j_bipush (v := 6) d_St_workers_42 (by decide) ?_
  obtain ⟨Ha, Hb⟩ := H
  refine j_icmp_ge (tgt := 72) d_St_workers_44 (by decide) (fun c5 => ?_) (fun c6 => ?_)
  · have H := Ha c5
    refine j_aload_n d_St_workers_72 rfl ?_
    refine j_iload_n d_St_workers_73 rfl ?_
    obtain ⟨t1, H⟩ := H
    refine j_putI (f := 586) fw_St_65 rfl rfl t1 d_St_workers_74 ?_
    refine j_aload_n d_St_workers_77 rfl ?_
    refine j_forget (L' := [none, none, some (.int p2), none]) ⟨Or.inl rfl, Or.inl rfl, Or.inr rfl, Or.inl rfl, trivial⟩ ?_
    exact j_callV (d' := 10) (ci := 9) (As := []) (rest := []) (b := a0) cv_St_205 me_St_fallBack rfl (by decide) rfl rfl t1 rfl rfl (Nat.le_of_ble_eq_true rfl) d_St_workers_78 (by decide) rfl H
  · have H := Hb c6
    refine j_iload_n d_St_workers_47 rfl ?_
    refine j_aload_n d_St_workers_48 rfl ?_
    obtain ⟨t2, H⟩ := H
    refine j_getI (f := 586) fe_St_65 rfl rfl t2 d_St_workers_49 ?_
    refine j_callS (d' := 1) (As := [.int p3, .int ((gI G 586 a0))]) (rest := []) cs_St_212 me_St_workerOf rfl (by decide) rfl rfl (Nat.le_of_ble_eq_true rfl) d_St_workers_52 (by decide) rfl (j_enter (L := [some (.int p3), some (.int ((gI G 586 a0)))]) me_St_workerOf (cat_c rfl (cat_c rfl cat_n)) (Nat.le_of_ble_eq_true rfl) rfl ?_)
    refine j_iload_n d_St_workerOf_0 rfl ?_
    refine j_iload_n d_St_workerOf_1 rfl ?_
    refine j_imul d_St_workerOf_2 ?_
    refine j_bipush (v := 6) d_St_workerOf_3 (by decide) ?_
    refine j_idiv d_St_workerOf_5 (by decide) ?_
    refine j_iret rfl d_St_workerOf_6 ?_
    show J E 11 m_St_workers 55 [some (.ref a0), some (.int p1), some (.int p2), some (.int p3)] [.int (((p3 * (gI G 586 a0)) / (6 : Int32)))] G Post
    refine j_iload_n d_St_workers_55 rfl ?_
    refine j_iload_n d_St_workers_56 rfl ?_
    refine j_callS (d' := 1) (As := [.int p3, .int p1]) (rest := [.int (((p3 * (gI G 586 a0)) / (6 : Int32)))]) cs_St_212 me_St_workerOf rfl (by decide) rfl rfl (Nat.le_of_ble_eq_true rfl) d_St_workers_57 (by decide) rfl (j_enter (L := [some (.int p3), some (.int p1)]) me_St_workerOf (cat_c rfl (cat_c rfl cat_n)) (Nat.le_of_ble_eq_true rfl) rfl ?_)
    refine j_iload_n d_St_workerOf_0 rfl ?_
    refine j_iload_n d_St_workerOf_1 rfl ?_
    refine j_imul d_St_workerOf_2 ?_
    refine j_bipush (v := 6) d_St_workerOf_3 (by decide) ?_
    refine j_idiv d_St_workerOf_5 (by decide) ?_
    refine j_iret rfl d_St_workerOf_6 ?_
    show J E 11 m_St_workers 60 [some (.ref a0), some (.int p1), some (.int p2), some (.int p3)] [.int (((p3 * p1) / (6 : Int32))), .int (((p3 * (gI G 586 a0)) / (6 : Int32)))] G Post
    obtain ⟨Ha, Hb⟩ := H
    refine j_icmp_eq (tgt := 66) d_St_workers_60 (by decide) (fun c3 => ?_) (fun c4 => ?_)
    · have H := Ha c3
      refine j_iinc (v := (p3 + (1 : Int32))) (L' := [some (.ref a0), some (.int p1), some (.int p2), some (.int ((p3 + (1 : Int32))))]) d_St_workers_66 rfl (by rw [show Int32.ofInt (1) = (1 : Int32) by decide]) (by decide) rfl ?_
      refine j_goto (tgt := 41) d_St_workers_69 (by decide) ?_
      exact H
    · have H := Hb c4
      refine j_iinc (v := (p2 + (1 : Int32))) (L' := [some (.ref a0), some (.int p1), some (.int ((p2 + (1 : Int32)))), some (.int p3)]) d_St_workers_63 rfl (by rw [show Int32.ofInt (1) = (1 : Int32) by decide]) (by decide) rfl ?_
      refine j_iinc (v := (p3 + (1 : Int32))) (L' := [some (.ref a0), some (.int p1), some (.int ((p2 + (1 : Int32)))), some (.int ((p3 + (1 : Int32))))]) d_St_workers_66 rfl (by rw [show Int32.ofInt (1) = (1 : Int32) by decide]) (by decide) rfl ?_
      refine j_goto (tgt := 41) d_St_workers_69 (by decide) ?_
      exact H
theorem wp_St_workers_81 {E : EV} {G : GH} {Post : Res → GH → Prop} (p2 : Int32) (H : Post (.inl (some (.int p2))) G) : J E 11 m_St_workers 81 [none, none, some (.int p2), none] [] G Post := by
  refine j_iload_n d_St_workers_81 rfl ?_
  exact j_iret rfl d_St_workers_82 H
theorem wp_St_watermark_0 {E : EV} {G : GH} {Post : Res → GH → Prop} (a0 : Nat) (H : gT G a0 = 10 ∧ ∃ b2, gR G 578 a0 = some b2 ∧ gT G b2 = 5 ∧ Post (.inl (some (.int ((gI G 259 b2))))) G) : J E 1 m_St_watermark 0 [some (.ref a0)] [] G Post := by
  refine j_aload_n d_St_watermark_0 rfl ?_
  obtain ⟨t1, H⟩ := H
  obtain ⟨b2, e3, H⟩ := H
  refine j_getR (f := 578) (b := b2) fe_St_26 rfl rfl t1 e3 d_St_watermark_1 ?_
  obtain ⟨t4, H⟩ := H
  refine j_getI (f := 259) fe_St_216 rfl rfl t4 d_St_watermark_4 ?_
  exact j_iret rfl d_St_watermark_7 H
theorem wp_St_sourceWatermark_0 {E : EV} {G : GH} {Post : Res → GH → Prop} (a0 : Nat) (p1 : Int32) (H : (p1 < 0 → Post (.inr "java/lang/IndexOutOfBoundsException") (bump G 1 6)) ∧ (¬ p1 < 0 → (p1 < (3 : Int32) → gT G a0 = 10 ∧ ∃ b2, gR G 578 a0 = some b2 ∧ gT G b2 = 5 ∧ ∃ b5, gR G 258 b2 = some b5 ∧ (gT G b5 = 20 ∨ gT G b5 = 25) ∧ ∃ n9, IX p1 n9 (gN G b5) ∧ ∃ b10, gR G 577 a0 = some b10 ∧ (gT G b10 = 23 ∨ gT G b10 = 24) ∧ ∃ n14, IX p1 n14 (gN G b10) ∧ ∃ b15, gO G b10 n14 = some b15 ∧ gT G b15 = 7 ∧ Post (.inl (some (.int ((if (-1 : Int32) < ((gA G b5 n9) - (gI G 385 b15)) then ((gA G b5 n9) - (gI G 385 b15)) else (-1 : Int32)))))) G) ∧ (¬ p1 < (3 : Int32) → Post (.inr "java/lang/IndexOutOfBoundsException") (bump G 1 6)))) : J E 2 m_St_sourceWatermark 0 [some (.ref a0), some (.int p1)] [] G Post := by
  refine j_iload_n d_St_sourceWatermark_0 rfl ?_
  refine j_callS (d' := 1) (As := [.int p1]) (rest := []) cs_St_106 me_St_needSource rfl (by decide) rfl rfl (Nat.le_of_ble_eq_true rfl) d_St_sourceWatermark_1 (by decide) rfl (j_enter (L := [some (.int p1)]) me_St_needSource (cat_c rfl cat_n) (Nat.le_of_ble_eq_true rfl) rfl ?_)
  refine j_iload_n d_St_needSource_0 rfl ?_
  obtain ⟨Ha, Hb⟩ := H
  refine j_if_lt (tgt := 9) d_St_needSource_1 (by decide) (fun c20 => ?_) (fun c21 => ?_)
  · have H := Ha c20
    exact j_throwW te_222_309_226 rfl d_St_needSource_9 d_St_needSource_12 d_St_needSource_13 d_St_needSource_16 d_St_needSource_19 (Nat.le_of_ble_eq_true rfl) H
  · have H := Hb c21
    refine j_iload_n d_St_needSource_4 rfl ?_
    refine j_iconst (v := 3) d_St_needSource_5 (by decide) ?_
    obtain ⟨Ha, Hb⟩ := H
    refine j_icmp_lt (tgt := 20) d_St_needSource_6 (by decide) (fun c18 => ?_) (fun c19 => ?_)
    · have H := Ha c18
      refine j_vret rfl d_St_needSource_20 ?_
      show J E 2 m_St_sourceWatermark 4 [some (.ref a0), some (.int p1)] [] G Post
      refine j_aload_n d_St_sourceWatermark_4 rfl ?_
      refine j_iload_n d_St_sourceWatermark_5 rfl ?_
      obtain ⟨t1, H⟩ := H
      refine j_callV (d' := 1) (ci := 9) (As := [.int p1]) (rest := []) (b := a0) cv_St_219 me_St_markOf rfl (by decide) rfl rfl t1 rfl rfl (Nat.le_of_ble_eq_true rfl) d_St_sourceWatermark_6 (by decide) rfl (j_enter (L := [some (.ref a0), some (.int p1)]) me_St_markOf (cat_c rfl (cat_c rfl cat_n)) (Nat.le_of_ble_eq_true rfl) rfl ?_)
      refine j_iconst (v := -1) d_St_markOf_0 (by decide) ?_
      refine j_aload_n d_St_markOf_1 rfl ?_
      obtain ⟨b2, e3, H⟩ := H
      refine j_getR (f := 578) (b := b2) fe_St_26 rfl rfl t1 e3 d_St_markOf_2 ?_
      obtain ⟨t4, H⟩ := H
      obtain ⟨b5, e6, H⟩ := H
      refine j_getR (f := 258) (b := b5) fe_St_317 rfl rfl t4 e6 d_St_markOf_5 ?_
      refine j_iload_n d_St_markOf_8 rfl ?_
      obtain ⟨t7, H⟩ := H
      obtain ⟨n9, x8, H⟩ := H
      refine j_iald (n := n9) t7 x8 d_St_markOf_9 ?_
      refine j_aload_n d_St_markOf_10 rfl ?_
      obtain ⟨b10, e11, H⟩ := H
      refine j_getR (f := 577) (b := b10) fe_St_19 rfl rfl t1 e11 d_St_markOf_11 ?_
      refine j_iload_n d_St_markOf_14 rfl ?_
      obtain ⟨t12, H⟩ := H
      obtain ⟨n14, x13, H⟩ := H
      obtain ⟨b15, e16, H⟩ := H
      refine j_aaldR (n := n14) (b := b15) t12 x13 e16 d_St_markOf_15 ?_
      obtain ⟨t17, H⟩ := H
      refine j_getI (f := 385) fe_St_112 rfl rfl t17 d_St_markOf_16 ?_
      refine j_isub d_St_markOf_19 ?_
      refine j_max cm_St_320 wm_max1 wm_ini wm_max2 (Nat.le_of_ble_eq_true rfl) d_St_markOf_20 ?_
      refine j_iret rfl d_St_markOf_23 ?_
      show J E 2 m_St_sourceWatermark 9 [some (.ref a0), some (.int p1)] [.int ((if (-1 : Int32) < ((gA G b5 n9) - (gI G 385 b15)) then ((gA G b5 n9) - (gI G 385 b15)) else (-1 : Int32)))] G Post
      exact j_iret rfl d_St_sourceWatermark_9 H
    · have H := Hb c19
      exact j_throwW te_222_309_226 rfl d_St_needSource_9 d_St_needSource_12 d_St_needSource_13 d_St_needSource_16 d_St_needSource_19 (Nat.le_of_ble_eq_true rfl) H
theorem wp_St_offset_0 {E : EV} {G : GH} {Post : Res → GH → Prop} (a0 : Nat) (p1 : Int32) (H : (p1 < 0 → Post (.inr "java/lang/IndexOutOfBoundsException") (bump G 1 6)) ∧ (¬ p1 < 0 → (p1 < (3 : Int32) → gT G a0 = 10 ∧ ∃ b2, gR G 578 a0 = some b2 ∧ gT G b2 = 5 ∧ ∃ b5, gR G 256 b2 = some b5 ∧ (gT G b5 = 20 ∨ gT G b5 = 25) ∧ ∃ n9, IX p1 n9 (gN G b5) ∧ Post (.inl (some (.int ((gA G b5 n9))))) G) ∧ (¬ p1 < (3 : Int32) → Post (.inr "java/lang/IndexOutOfBoundsException") (bump G 1 6)))) : J E 2 m_St_offset 0 [some (.ref a0), some (.int p1)] [] G Post := by
  refine j_iload_n d_St_offset_0 rfl ?_
  refine j_callS (d' := 1) (As := [.int p1]) (rest := []) cs_St_106 me_St_needSource rfl (by decide) rfl rfl (Nat.le_of_ble_eq_true rfl) d_St_offset_1 (by decide) rfl (j_enter (L := [some (.int p1)]) me_St_needSource (cat_c rfl cat_n) (Nat.le_of_ble_eq_true rfl) rfl ?_)
  refine j_iload_n d_St_needSource_0 rfl ?_
  obtain ⟨Ha, Hb⟩ := H
  refine j_if_lt (tgt := 9) d_St_needSource_1 (by decide) (fun c12 => ?_) (fun c13 => ?_)
  · have H := Ha c12
    exact j_throwW te_222_309_226 rfl d_St_needSource_9 d_St_needSource_12 d_St_needSource_13 d_St_needSource_16 d_St_needSource_19 (Nat.le_of_ble_eq_true rfl) H
  · have H := Hb c13
    refine j_iload_n d_St_needSource_4 rfl ?_
    refine j_iconst (v := 3) d_St_needSource_5 (by decide) ?_
    obtain ⟨Ha, Hb⟩ := H
    refine j_icmp_lt (tgt := 20) d_St_needSource_6 (by decide) (fun c10 => ?_) (fun c11 => ?_)
    · have H := Ha c10
      refine j_vret rfl d_St_needSource_20 ?_
      show J E 2 m_St_offset 4 [some (.ref a0), some (.int p1)] [] G Post
      refine j_aload_n d_St_offset_4 rfl ?_
      obtain ⟨t1, H⟩ := H
      obtain ⟨b2, e3, H⟩ := H
      refine j_getR (f := 578) (b := b2) fe_St_26 rfl rfl t1 e3 d_St_offset_5 ?_
      obtain ⟨t4, H⟩ := H
      obtain ⟨b5, e6, H⟩ := H
      refine j_getR (f := 256) (b := b5) fe_St_143 rfl rfl t4 e6 d_St_offset_8 ?_
      refine j_iload_n d_St_offset_11 rfl ?_
      obtain ⟨t7, H⟩ := H
      obtain ⟨n9, x8, H⟩ := H
      refine j_iald (n := n9) t7 x8 d_St_offset_12 ?_
      exact j_iret rfl d_St_offset_13 H
    · have H := Hb c11
      exact j_throwW te_222_309_226 rfl d_St_needSource_9 d_St_needSource_12 d_St_needSource_13 d_St_needSource_16 d_St_needSource_19 (Nat.le_of_ble_eq_true rfl) H
theorem wp_St_inChannel_0 {E : EV} {G : GH} {Post : Res → GH → Prop} (a0 : Nat) (p1 : Int32) (H : (p1 < 0 → Post (.inr "java/lang/IndexOutOfBoundsException") (bump G 1 6)) ∧ (¬ p1 < 0 → (p1 < (3 : Int32) → gT G a0 = 10 ∧ ∃ b2, gR G 578 a0 = some b2 ∧ gT G b2 = 5 ∧ ∃ b5, gR G 256 b2 = some b5 ∧ (gT G b5 = 20 ∨ gT G b5 = 25) ∧ ∃ n9, IX p1 n9 (gN G b5) ∧ ∃ b10, gR G 257 b2 = some b10 ∧ (gT G b10 = 20 ∨ gT G b10 = 25) ∧ ∃ n14, IX p1 n14 (gN G b10) ∧ Post (.inl (some (.int (((gA G b5 n9) - (gA G b10 n14)))))) G) ∧ (¬ p1 < (3 : Int32) → Post (.inr "java/lang/IndexOutOfBoundsException") (bump G 1 6)))) : J E 2 m_St_inChannel 0 [some (.ref a0), some (.int p1)] [] G Post := by
  refine j_iload_n d_St_inChannel_0 rfl ?_
  refine j_callS (d' := 1) (As := [.int p1]) (rest := []) cs_St_106 me_St_needSource rfl (by decide) rfl rfl (Nat.le_of_ble_eq_true rfl) d_St_inChannel_1 (by decide) rfl (j_enter (L := [some (.int p1)]) me_St_needSource (cat_c rfl cat_n) (Nat.le_of_ble_eq_true rfl) rfl ?_)
  refine j_iload_n d_St_needSource_0 rfl ?_
  obtain ⟨Ha, Hb⟩ := H
  refine j_if_lt (tgt := 9) d_St_needSource_1 (by decide) (fun c17 => ?_) (fun c18 => ?_)
  · have H := Ha c17
    exact j_throwW te_222_309_226 rfl d_St_needSource_9 d_St_needSource_12 d_St_needSource_13 d_St_needSource_16 d_St_needSource_19 (Nat.le_of_ble_eq_true rfl) H
  · have H := Hb c18
    refine j_iload_n d_St_needSource_4 rfl ?_
    refine j_iconst (v := 3) d_St_needSource_5 (by decide) ?_
    obtain ⟨Ha, Hb⟩ := H
    refine j_icmp_lt (tgt := 20) d_St_needSource_6 (by decide) (fun c15 => ?_) (fun c16 => ?_)
    · have H := Ha c15
      refine j_vret rfl d_St_needSource_20 ?_
      show J E 2 m_St_inChannel 4 [some (.ref a0), some (.int p1)] [] G Post
      refine j_aload_n d_St_inChannel_4 rfl ?_
      obtain ⟨t1, H⟩ := H
      obtain ⟨b2, e3, H⟩ := H
      refine j_getR (f := 578) (b := b2) fe_St_26 rfl rfl t1 e3 d_St_inChannel_5 ?_
      refine j_iload_n d_St_inChannel_8 rfl ?_
      obtain ⟨t4, H⟩ := H
      refine j_callV (d' := 1) (ci := 4) (As := [.int p1]) (rest := []) (b := b2) cv_St_149 me_Pr_inChannelOf rfl (by decide) rfl rfl t4 rfl rfl (Nat.le_of_ble_eq_true rfl) d_St_inChannel_9 (by decide) rfl (j_enter (L := [some (.ref b2), some (.int p1)]) me_Pr_inChannelOf (cat_c rfl (cat_c rfl cat_n)) (Nat.le_of_ble_eq_true rfl) rfl ?_)
      refine j_aload_n d_Pr_inChannelOf_0 rfl ?_
      obtain ⟨b5, e6, H⟩ := H
      refine j_getR (f := 256) (b := b5) fe_Pr_9 rfl rfl t4 e6 d_Pr_inChannelOf_1 ?_
      refine j_iload_n d_Pr_inChannelOf_4 rfl ?_
      obtain ⟨t7, H⟩ := H
      obtain ⟨n9, x8, H⟩ := H
      refine j_iald (n := n9) t7 x8 d_Pr_inChannelOf_5 ?_
      refine j_aload_n d_Pr_inChannelOf_6 rfl ?_
      obtain ⟨b10, e11, H⟩ := H
      refine j_getR (f := 257) (b := b10) fe_Pr_15 rfl rfl t4 e11 d_Pr_inChannelOf_7 ?_
      refine j_iload_n d_Pr_inChannelOf_10 rfl ?_
      obtain ⟨t12, H⟩ := H
      obtain ⟨n14, x13, H⟩ := H
      refine j_iald (n := n14) t12 x13 d_Pr_inChannelOf_11 ?_
      refine j_isub d_Pr_inChannelOf_12 ?_
      refine j_iret rfl d_Pr_inChannelOf_13 ?_
      show J E 2 m_St_inChannel 12 [some (.ref a0), some (.int p1)] [.int (((gA G b5 n9) - (gA G b10 n14)))] G Post
      exact j_iret rfl d_St_inChannel_12 H
    · have H := Hb c16
      exact j_throwW te_222_309_226 rfl d_St_needSource_9 d_St_needSource_12 d_St_needSource_13 d_St_needSource_16 d_St_needSource_19 (Nat.le_of_ble_eq_true rfl) H
theorem wp_St_open_0 {E : EV} {G : GH} {Post : Res → GH → Prop} (a0 : Nat) (p1 : Int32) (H : (p1 < 0 → Post (.inr "java/lang/IndexOutOfBoundsException") (bump G 1 6)) ∧ (¬ p1 < 0 → gT G a0 = 10 ∧ (p1 < (gI G 586 a0) → J E 4 m_St_open 26 [some (.ref a0), some (.int p1), some (.int ((0 : Int32))), some (.int ((0 : Int32))), none] [] G Post) ∧ (¬ p1 < (gI G 586 a0) → Post (.inr "java/lang/IndexOutOfBoundsException") (bump G 1 6)))) : J E 4 m_St_open 0 [some (.ref a0), some (.int p1), none, none, none] [] G Post := by
  refine j_iload_n d_St_open_0 rfl ?_
  obtain ⟨Ha, Hb⟩ := H
  refine j_if_lt (tgt := 12) d_St_open_1 (by decide) (fun c4 => ?_) (fun c5 => ?_)
  · have H := Ha c4
    exact j_throw te_222_224_226 rfl d_St_open_12 d_St_open_15 d_St_open_16 d_St_open_18 d_St_open_21 (Nat.le_of_ble_eq_true rfl) H
  · have H := Hb c5
    refine j_iload_n d_St_open_4 rfl ?_
    refine j_aload_n d_St_open_5 rfl ?_
    obtain ⟨t1, H⟩ := H
    refine j_getI (f := 586) fe_St_65 rfl rfl t1 d_St_open_6 ?_
    obtain ⟨Ha, Hb⟩ := H
    refine j_icmp_lt (tgt := 22) d_St_open_9 (by decide) (fun c2 => ?_) (fun c3 => ?_)
    · have H := Ha c2
      refine j_iconst (v := 0) d_St_open_22 (by decide) ?_
      refine j_istore_n (L' := [some (.ref a0), some (.int p1), some (.int ((0 : Int32))), none, none]) d_St_open_23 (by decide) rfl ?_
      refine j_iconst (v := 0) d_St_open_24 (by decide) ?_
      refine j_istore_n (L' := [some (.ref a0), some (.int p1), some (.int ((0 : Int32))), some (.int ((0 : Int32))), none]) d_St_open_25 (by decide) rfl ?_
      exact H
    · have H := Hb c3
      exact j_throw te_222_224_226 rfl d_St_open_12 d_St_open_15 d_St_open_16 d_St_open_18 d_St_open_21 (Nat.le_of_ble_eq_true rfl) H
theorem wp_St_open_26 {E : EV} {G : GH} {Post : Res → GH → Prop} (a0 : Nat) (p1 : Int32) (p2 : Int32) (p3 : Int32) (H : gT G a0 = 10 ∧ ∃ b2, gR G 578 a0 = some b2 ∧ gT G b2 = 5 ∧ ∃ b5, gR G 263 b2 = some b5 ∧ gT G b5 = 9 ∧ ∃ b8, gR G 512 b5 = some b8 ∧ gT G b8 = 12 ∧ ((gI G 706 b8) ≤ p3 → Post (.inl (some (.int p2))) G) ∧ (¬ (gI G 706 b8) ≤ p3 → ∃ b11, LG G b8 p3 b11 ∧ gT G b11 = 8 ∧ (¬ (((gI G 448 b11) * (gI G 586 a0)) / (6 : Int32)) = p1 → J E 4 m_St_open 26 [some (.ref a0), some (.int p1), some (.int p2), some (.int ((p3 + (1 : Int32)))), none] [] G Post) ∧ ((((gI G 448 b11) * (gI G 586 a0)) / (6 : Int32)) = p1 → ∃ b14, gR G 576 a0 = some b14 ∧ gT G b14 = 4 ∧ (¬ (gI G 192 b14) = (2 : Int32) → ((((gI G 450 b11) + (gI G 195 b14)) + (0 : Int32)) ≤ (gI G 259 b2) → J E 4 m_St_open 26 [some (.ref a0), some (.int p1), some (.int p2), some (.int ((p3 + (1 : Int32)))), none] [] G Post) ∧ (¬ (((gI G 450 b11) + (gI G 195 b14)) + (0 : Int32)) ≤ (gI G 259 b2) → J E 4 m_St_open 26 [some (.ref a0), some (.int p1), some (.int ((p2 + (1 : Int32)))), some (.int ((p3 + (1 : Int32)))), none] [] G Post)) ∧ ((gI G 192 b14) = (2 : Int32) → ((((gI G 450 b11) + (gI G 195 b14)) + (gI G 193 b14)) ≤ (gI G 259 b2) → J E 4 m_St_open 26 [some (.ref a0), some (.int p1), some (.int p2), some (.int ((p3 + (1 : Int32)))), none] [] G Post) ∧ (¬ (((gI G 450 b11) + (gI G 195 b14)) + (gI G 193 b14)) ≤ (gI G 259 b2) → J E 4 m_St_open 26 [some (.ref a0), some (.int p1), some (.int ((p2 + (1 : Int32)))), some (.int ((p3 + (1 : Int32)))), none] [] G Post))))) : J E 4 m_St_open 26 [some (.ref a0), some (.int p1), some (.int p2), some (.int p3), none] [] G Post := by
  refine j_iload_n d_St_open_26 rfl ?_
  refine j_aload_n d_St_open_27 rfl ?_
  obtain ⟨t1, H⟩ := H
  obtain ⟨b2, e3, H⟩ := H
  refine j_getR (f := 578) (b := b2) fe_St_26 rfl rfl t1 e3 d_St_open_28 ?_
  obtain ⟨t4, H⟩ := H
  obtain ⟨b5, e6, H⟩ := H
  refine j_getR (f := 263) (b := b5) fe_St_227 rfl rfl t4 e6 d_St_open_31 ?_
  obtain ⟨t7, H⟩ := H
  obtain ⟨b8, e9, H⟩ := H
  refine j_getR (f := 512) (b := b8) fe_St_231 rfl rfl t7 e9 d_St_open_34 ?_
  obtain ⟨t10, H⟩ := H
  refine j_callV (d' := 1) (ci := 11) (As := []) (rest := [.int p3]) (b := b8) cv_St_124 me_AL_size rfl (by decide) rfl rfl t10 rfl rfl (Nat.le_of_ble_eq_true rfl) d_St_open_37 (by decide) rfl (j_enter (L := [some (.ref b8)]) me_AL_size (cat_c rfl cat_n) (Nat.le_of_ble_eq_true rfl) rfl ?_)
  refine j_aload_n d_AL_size_0 rfl ?_
  refine j_getI (f := 706) fe_AL_48 rfl rfl t10 d_AL_size_1 ?_
  refine j_iret rfl d_AL_size_4 ?_
  show J E 4 m_St_open 40 [some (.ref a0), some (.int p1), some (.int p2), some (.int p3), none] [.int ((gI G 706 b8)), .int p3] G Post
  obtain ⟨Ha, Hb⟩ := H
  refine j_icmp_ge (tgt := 109) d_St_open_40 (by decide) (fun c25 => ?_) (fun c26 => ?_)
  · have H := Ha c25
    refine j_iload_n d_St_open_109 rfl ?_
    exact j_iret rfl d_St_open_110 H
  · have H := Hb c26
    refine j_aload_n d_St_open_43 rfl ?_
    refine j_getR (f := 578) (b := b2) fe_St_26 rfl rfl t1 e3 d_St_open_44 ?_
    refine j_getR (f := 263) (b := b5) fe_St_227 rfl rfl t4 e6 d_St_open_47 ?_
    refine j_getR (f := 512) (b := b8) fe_St_231 rfl rfl t7 e9 d_St_open_50 ?_
    refine j_iload_n d_St_open_53 rfl ?_
    obtain ⟨b11, g12, H⟩ := H
    refine j_callV (d' := 3) (ci := 11) (As := [.int p3]) (rest := []) (b := b8) cv_St_236 me_AL_get rfl (by decide) rfl rfl t10 rfl rfl (Nat.le_of_ble_eq_true rfl) d_St_open_54 (by decide) rfl (c_AL_get g12 ?_)
    show J E 4 m_St_open 57 [some (.ref a0), some (.int p1), some (.int p2), some (.int p3), none] [.ref b11] G Post
    obtain ⟨t13, H⟩ := H
    refine j_cast (ci := 7) rfl kl_St_240 t13 d_St_open_57 ?_
    refine j_astore (x := (some b11)) (L' := [some (.ref a0), some (.int p1), some (.int p2), some (.int p3), some (.ref b11)]) rfl d_St_open_60 (by decide) rfl ?_
    refine j_aload d_St_open_62 rfl ?_
    refine j_getI (f := 448) fe_St_242 rfl rfl t13 d_St_open_64 ?_
    refine j_aload_n d_St_open_67 rfl ?_
    refine j_getI (f := 586) fe_St_65 rfl rfl t1 d_St_open_68 ?_
    refine j_callS (d' := 1) (As := [.int ((gI G 448 b11)), .int ((gI G 586 a0))]) (rest := []) cs_St_212 me_St_workerOf rfl (by decide) rfl rfl (Nat.le_of_ble_eq_true rfl) d_St_open_71 (by decide) rfl (j_enter (L := [some (.int ((gI G 448 b11))), some (.int ((gI G 586 a0)))]) me_St_workerOf (cat_c rfl (cat_c rfl cat_n)) (Nat.le_of_ble_eq_true rfl) rfl ?_)
    refine j_iload_n d_St_workerOf_0 rfl ?_
    refine j_iload_n d_St_workerOf_1 rfl ?_
    refine j_imul d_St_workerOf_2 ?_
    refine j_bipush (v := 6) d_St_workerOf_3 (by decide) ?_
    refine j_idiv d_St_workerOf_5 (by decide) ?_
    refine j_iret rfl d_St_workerOf_6 ?_
    show J E 4 m_St_open 74 [some (.ref a0), some (.int p1), some (.int p2), some (.int p3), some (.ref b11)] [.int ((((gI G 448 b11) * (gI G 586 a0)) / (6 : Int32)))] G Post
    refine j_iload_n d_St_open_74 rfl ?_
    obtain ⟨Ha, Hb⟩ := H
    refine j_icmp_ne (tgt := 103) d_St_open_75 (by decide) (fun c23 => ?_) (fun c24 => ?_)
    · have H := Ha c23
      refine j_iinc (v := (p3 + (1 : Int32))) (L' := [some (.ref a0), some (.int p1), some (.int p2), some (.int ((p3 + (1 : Int32)))), some (.ref b11)]) d_St_open_103 rfl (by rw [show Int32.ofInt (1) = (1 : Int32) by decide]) (by decide) rfl ?_
      refine j_goto (tgt := 26) d_St_open_106 (by decide) ?_
      refine j_forget (L' := [some (.ref a0), some (.int p1), some (.int p2), some (.int ((p3 + (1 : Int32)))), none]) ⟨Or.inr rfl, Or.inr rfl, Or.inr rfl, Or.inr rfl, Or.inl rfl, trivial⟩ ?_
      exact H
    · have H := Hb c24
      refine j_aload_n d_St_open_78 rfl ?_
      obtain ⟨b14, e15, H⟩ := H
      refine j_getR (f := 576) (b := b14) fe_St_10 rfl rfl t1 e15 d_St_open_79 ?_
      refine j_aload d_St_open_82 rfl ?_
      refine j_getI (f := 450) fe_St_245 rfl rfl t13 d_St_open_84 ?_
      refine j_aload_n d_St_open_87 rfl ?_
      refine j_getR (f := 578) (b := b2) fe_St_26 rfl rfl t1 e3 d_St_open_88 ?_
      refine j_getI (f := 259) fe_St_216 rfl rfl t4 d_St_open_91 ?_
      obtain ⟨t16, H⟩ := H
      refine j_callV (d' := 1) (ci := 3) (As := [.int ((gI G 450 b11)), .int ((gI G 259 b2))]) (rest := []) (b := b14) cv_St_248 me_Jo_keepsOpen rfl (by decide) rfl rfl t16 rfl rfl (Nat.le_of_ble_eq_true rfl) d_St_open_94 (by decide) rfl (j_enter (L := [some (.ref b14), some (.int ((gI G 450 b11))), some (.int ((gI G 259 b2)))]) me_Jo_keepsOpen (cat_c rfl (cat_c rfl (cat_c rfl cat_n))) (Nat.le_of_ble_eq_true rfl) rfl ?_)
      refine j_iload_n d_Jo_keepsOpen_0 rfl ?_
      refine j_iload_n d_Jo_keepsOpen_1 rfl ?_
      refine j_aload_n d_Jo_keepsOpen_2 rfl ?_
      refine j_getI (f := 195) fe_Jo_21 rfl rfl t16 d_Jo_keepsOpen_3 ?_
      refine j_iadd d_Jo_keepsOpen_6 ?_
      refine j_aload_n d_Jo_keepsOpen_7 rfl ?_
      refine j_getI (f := 192) fe_Jo_9 rfl rfl t16 d_Jo_keepsOpen_8 ?_
      refine j_iconst (v := 2) d_Jo_keepsOpen_11 (by decide) ?_
      obtain ⟨Ha, Hb⟩ := H
      refine j_icmp_ne (tgt := 22) d_Jo_keepsOpen_12 (by decide) (fun c21 => ?_) (fun c22 => ?_)
      · have H := Ha c21
        refine j_iconst (v := 0) d_Jo_keepsOpen_22 (by decide) ?_
        refine j_iadd d_Jo_keepsOpen_23 ?_
        obtain ⟨Ha, Hb⟩ := H
        refine j_icmp_ge (tgt := 31) d_Jo_keepsOpen_24 (by decide) (fun c17 => ?_) (fun c18 => ?_)
        · have H := Ha c17
          refine j_iconst (v := 0) d_Jo_keepsOpen_31 (by decide) ?_
          refine j_zret rfl (by decide) d_Jo_keepsOpen_32 ?_
          show J E 4 m_St_open 97 [some (.ref a0), some (.int p1), some (.int p2), some (.int p3), some (.ref b11)] [.int ((0 : Int32))] G Post
          refine j_if_eq (tgt := 103) d_St_open_97 (by decide) (fun _ => ?_) (fun c => absurd c (by decide))
          refine j_iinc (v := (p3 + (1 : Int32))) (L' := [some (.ref a0), some (.int p1), some (.int p2), some (.int ((p3 + (1 : Int32)))), some (.ref b11)]) d_St_open_103 rfl (by rw [show Int32.ofInt (1) = (1 : Int32) by decide]) (by decide) rfl ?_
          refine j_goto (tgt := 26) d_St_open_106 (by decide) ?_
          refine j_forget (L' := [some (.ref a0), some (.int p1), some (.int p2), some (.int ((p3 + (1 : Int32)))), none]) ⟨Or.inr rfl, Or.inr rfl, Or.inr rfl, Or.inr rfl, Or.inl rfl, trivial⟩ ?_
          exact H
        · have H := Hb c18
          refine j_iconst (v := 1) d_Jo_keepsOpen_27 (by decide) ?_
          refine j_goto (tgt := 32) d_Jo_keepsOpen_28 (by decide) ?_
          refine j_zret rfl (by decide) d_Jo_keepsOpen_32 ?_
          show J E 4 m_St_open 97 [some (.ref a0), some (.int p1), some (.int p2), some (.int p3), some (.ref b11)] [.int ((1 : Int32))] G Post
          refine j_if_eq (tgt := 103) d_St_open_97 (by decide) (fun c => absurd c (by decide)) (fun _ => ?_)
          refine j_iinc (v := (p2 + (1 : Int32))) (L' := [some (.ref a0), some (.int p1), some (.int ((p2 + (1 : Int32)))), some (.int p3), some (.ref b11)]) d_St_open_100 rfl (by rw [show Int32.ofInt (1) = (1 : Int32) by decide]) (by decide) rfl ?_
          refine j_iinc (v := (p3 + (1 : Int32))) (L' := [some (.ref a0), some (.int p1), some (.int ((p2 + (1 : Int32)))), some (.int ((p3 + (1 : Int32)))), some (.ref b11)]) d_St_open_103 rfl (by rw [show Int32.ofInt (1) = (1 : Int32) by decide]) (by decide) rfl ?_
          refine j_goto (tgt := 26) d_St_open_106 (by decide) ?_
          refine j_forget (L' := [some (.ref a0), some (.int p1), some (.int ((p2 + (1 : Int32)))), some (.int ((p3 + (1 : Int32)))), none]) ⟨Or.inr rfl, Or.inr rfl, Or.inr rfl, Or.inr rfl, Or.inl rfl, trivial⟩ ?_
          exact H
      · have H := Hb c22
        refine j_aload_n d_Jo_keepsOpen_15 rfl ?_
        refine j_getI (f := 193) fe_Jo_15 rfl rfl t16 d_Jo_keepsOpen_16 ?_
        refine j_goto (tgt := 23) d_Jo_keepsOpen_19 (by decide) ?_
        refine j_iadd d_Jo_keepsOpen_23 ?_
        obtain ⟨Ha, Hb⟩ := H
        refine j_icmp_ge (tgt := 31) d_Jo_keepsOpen_24 (by decide) (fun c19 => ?_) (fun c20 => ?_)
        · have H := Ha c19
          refine j_iconst (v := 0) d_Jo_keepsOpen_31 (by decide) ?_
          refine j_zret rfl (by decide) d_Jo_keepsOpen_32 ?_
          show J E 4 m_St_open 97 [some (.ref a0), some (.int p1), some (.int p2), some (.int p3), some (.ref b11)] [.int ((0 : Int32))] G Post
          refine j_if_eq (tgt := 103) d_St_open_97 (by decide) (fun _ => ?_) (fun c => absurd c (by decide))
          refine j_iinc (v := (p3 + (1 : Int32))) (L' := [some (.ref a0), some (.int p1), some (.int p2), some (.int ((p3 + (1 : Int32)))), some (.ref b11)]) d_St_open_103 rfl (by rw [show Int32.ofInt (1) = (1 : Int32) by decide]) (by decide) rfl ?_
          refine j_goto (tgt := 26) d_St_open_106 (by decide) ?_
          refine j_forget (L' := [some (.ref a0), some (.int p1), some (.int p2), some (.int ((p3 + (1 : Int32)))), none]) ⟨Or.inr rfl, Or.inr rfl, Or.inr rfl, Or.inr rfl, Or.inl rfl, trivial⟩ ?_
          exact H
        · have H := Hb c20
          refine j_iconst (v := 1) d_Jo_keepsOpen_27 (by decide) ?_
          refine j_goto (tgt := 32) d_Jo_keepsOpen_28 (by decide) ?_
          refine j_zret rfl (by decide) d_Jo_keepsOpen_32 ?_
          show J E 4 m_St_open 97 [some (.ref a0), some (.int p1), some (.int p2), some (.int p3), some (.ref b11)] [.int ((1 : Int32))] G Post
          refine j_if_eq (tgt := 103) d_St_open_97 (by decide) (fun c => absurd c (by decide)) (fun _ => ?_)
          refine j_iinc (v := (p2 + (1 : Int32))) (L' := [some (.ref a0), some (.int p1), some (.int ((p2 + (1 : Int32)))), some (.int p3), some (.ref b11)]) d_St_open_100 rfl (by rw [show Int32.ofInt (1) = (1 : Int32) by decide]) (by decide) rfl ?_
          refine j_iinc (v := (p3 + (1 : Int32))) (L' := [some (.ref a0), some (.int p1), some (.int ((p2 + (1 : Int32)))), some (.int ((p3 + (1 : Int32)))), some (.ref b11)]) d_St_open_103 rfl (by rw [show Int32.ofInt (1) = (1 : Int32) by decide]) (by decide) rfl ?_
          refine j_goto (tgt := 26) d_St_open_106 (by decide) ?_
          refine j_forget (L' := [some (.ref a0), some (.int p1), some (.int ((p2 + (1 : Int32)))), some (.int ((p3 + (1 : Int32)))), none]) ⟨Or.inr rfl, Or.inr rfl, Or.inr rfl, Or.inr rfl, Or.inl rfl, trivial⟩ ?_
          exact H
theorem wp_St_dropped_0 {E : EV} {G : GH} {Post : Res → GH → Prop} (a0 : Nat) (H : gT G a0 = 10 ∧ ∃ b2, gR G 578 a0 = some b2 ∧ gT G b2 = 5 ∧ Post (.inl (some (.int ((gI G 261 b2))))) G) : J E 1 m_St_dropped 0 [some (.ref a0)] [] G Post := by
  refine j_aload_n d_St_dropped_0 rfl ?_
  obtain ⟨t1, H⟩ := H
  obtain ⟨b2, e3, H⟩ := H
  refine j_getR (f := 578) (b := b2) fe_St_26 rfl rfl t1 e3 d_St_dropped_1 ?_
  obtain ⟨t4, H⟩ := H
  refine j_getI (f := 261) fe_St_266 rfl rfl t4 d_St_dropped_4 ?_
  exact j_iret rfl d_St_dropped_7 H
theorem wp_St_pairs_0 {E : EV} {G : GH} {Post : Res → GH → Prop} (a0 : Nat) (H : gT G a0 = 10 ∧ ∃ b2, gR G 578 a0 = some b2 ∧ gT G b2 = 5 ∧ Post (.inl (some (.int ((gI G 262 b2))))) G) : J E 1 m_St_pairs 0 [some (.ref a0)] [] G Post := by
  refine j_aload_n d_St_pairs_0 rfl ?_
  obtain ⟨t1, H⟩ := H
  obtain ⟨b2, e3, H⟩ := H
  refine j_getR (f := 578) (b := b2) fe_St_26 rfl rfl t1 e3 d_St_pairs_1 ?_
  obtain ⟨t4, H⟩ := H
  refine j_getI (f := 262) fe_St_269 rfl rfl t4 d_St_pairs_4 ?_
  exact j_iret rfl d_St_pairs_7 H
theorem wp_St_pairsAnew_0 {E : EV} {G : GH} {Post : Res → GH → Prop} (a0 : Nat) (H : gT G a0 = 10 ∧ ∃ b2, gR G 580 a0 = some b2 ∧ ∃ b4, gR G 576 a0 = some b4 ∧ gT G b4 = 4 ∧ gT G b2 = 3 ∧ Cl E 4 m_Hi_countPairs [.ref b2, .int ((gI G 196 b4))] G (aft E 5 m_St_pairsAnew 11 [none] [] Post)) : J E 5 m_St_pairsAnew 0 [some (.ref a0)] [] G Post := by
  refine j_aload_n d_St_pairsAnew_0 rfl ?_
  obtain ⟨t1, H⟩ := H
  obtain ⟨b2, e3, H⟩ := H
  refine j_getR (f := 580) (b := b2) fe_St_36 rfl rfl t1 e3 d_St_pairsAnew_1 ?_
  refine j_aload_n d_St_pairsAnew_4 rfl ?_
  obtain ⟨b4, e5, H⟩ := H
  refine j_getR (f := 576) (b := b4) fe_St_10 rfl rfl t1 e5 d_St_pairsAnew_5 ?_
  obtain ⟨t6, H⟩ := H
  refine j_getI (f := 196) fe_St_100 rfl rfl t6 d_St_pairsAnew_8 ?_
  obtain ⟨t7, H⟩ := H
  refine j_forget (L' := [none]) ⟨Or.inl rfl, trivial⟩ ?_
  exact j_callV (d' := 4) (ci := 2) (As := [.int ((gI G 196 b4))]) (rest := []) (b := b2) cv_St_272 me_Hi_countPairs rfl (by decide) rfl rfl t7 rfl rfl (Nat.le_of_ble_eq_true rfl) d_St_pairsAnew_11 (by decide) rfl H
theorem wp_St_pairsAnew_14 {E : EV} {G : GH} {Post : Res → GH → Prop} (s0 : Int32) (H : Post (.inl (some (.int s0))) G) : J E 5 m_St_pairsAnew 14 [none] [.int s0] G Post := by
  exact j_iret rfl d_St_pairsAnew_14 H
theorem wp_St_uncommitted_0 {E : EV} {G : GH} {Post : Res → GH → Prop} (a0 : Nat) (H : gT G a0 = 10 ∧ ∃ b2, gR G 581 a0 = some b2 ∧ gT G b2 = 6 ∧ Post (.inl (some (.int (((gI G 323 b2) - (gI G 321 b2)))))) G) : J E 1 m_St_uncommitted 0 [some (.ref a0)] [] G Post := by
  refine j_aload_n d_St_uncommitted_0 rfl ?_
  obtain ⟨t1, H⟩ := H
  obtain ⟨b2, e3, H⟩ := H
  refine j_getR (f := 581) (b := b2) fe_St_43 rfl rfl t1 e3 d_St_uncommitted_1 ?_
  obtain ⟨t4, H⟩ := H
  refine j_getI (f := 323) fe_St_275 rfl rfl t4 d_St_uncommitted_4 ?_
  refine j_aload_n d_St_uncommitted_7 rfl ?_
  refine j_getR (f := 581) (b := b2) fe_St_43 rfl rfl t1 e3 d_St_uncommitted_8 ?_
  refine j_getI (f := 321) fe_St_202 rfl rfl t4 d_St_uncommitted_11 ?_
  refine j_isub d_St_uncommitted_14 ?_
  exact j_iret rfl d_St_uncommitted_15 H
theorem wp_St_result_0 {E : EV} {G : GH} {Post : Res → GH → Prop} (a0 : Nat) (p1 : Int32) (p2 : Int32) (p3 : Int32) (H : (p1 < 0 → Post (.inr "java/lang/IndexOutOfBoundsException") (bump G 1 6)) ∧ (¬ p1 < 0 → ((6 : Int32) ≤ p1 → Post (.inr "java/lang/IndexOutOfBoundsException") (bump G 1 6)) ∧ (¬ (6 : Int32) ≤ p1 → (p2 < 0 → Post (.inr "java/lang/IllegalArgumentException") (bump G 1 6)) ∧ (¬ p2 < 0 → ((999 : Int32) < p2 → Post (.inr "java/lang/IllegalArgumentException") (bump G 1 6)) ∧ (¬ (999 : Int32) < p2 → (p3 < 0 → Post (.inr "java/lang/IllegalArgumentException") (bump G 1 6)) ∧ (¬ p3 < 0 → (p3 ≤ (2 : Int32) → gT G a0 = 10 ∧ ∃ b2, gR G 581 a0 = some b2 ∧ gT G b2 = 6 ∧ Cl E 4 m_Si_lastCommitted [.ref b2, .int p1, .int p2] G (aft E 5 m_St_result 12 [none, none, none, some (.int p3), none] [] Post)) ∧ (¬ p3 ≤ (2 : Int32) → Post (.inr "java/lang/IllegalArgumentException") (bump G 1 6)))))))) : J E 5 m_St_result 0 [some (.ref a0), some (.int p1), some (.int p2), some (.int p3), none] [] G Post := by
  refine j_iload_n d_St_result_0 rfl ?_
  refine j_iload_n d_St_result_1 rfl ?_
  refine j_iload_n d_St_result_2 rfl ?_
  refine j_callS (d' := 3) (As := [.int p1, .int p2, .int p3]) (rest := []) cs_St_278 me_St_needResultOf rfl (by decide) rfl rfl (Nat.le_of_ble_eq_true rfl) d_St_result_3 (by decide) rfl (j_enter (L := [some (.int p1), some (.int p2), some (.int p3)]) me_St_needResultOf (cat_c rfl (cat_c rfl (cat_c rfl cat_n))) (Nat.le_of_ble_eq_true rfl) rfl ?_)
  refine j_iload_n d_St_needResultOf_0 rfl ?_
  refine j_callS (d' := 2) (As := [.int p1]) (rest := []) cs_St_251 me_St_needKey rfl (by decide) rfl rfl (Nat.le_of_ble_eq_true rfl) d_St_needResultOf_1 (by decide) rfl (j_enter (L := [some (.int p1)]) me_St_needKey (cat_c rfl cat_n) (Nat.le_of_ble_eq_true rfl) rfl ?_)
  refine j_iload_n d_St_needKey_0 rfl ?_
  refine j_callS (d' := 1) (As := [.int p1]) (rest := []) cs_St_115 me_St_isKey rfl (by decide) rfl rfl (Nat.le_of_ble_eq_true rfl) d_St_needKey_1 (by decide) rfl (j_enter (L := [some (.int p1)]) me_St_isKey (cat_c rfl cat_n) (Nat.le_of_ble_eq_true rfl) rfl ?_)
  refine j_iload_n d_St_isKey_0 rfl ?_
  obtain ⟨Ha, Hb⟩ := H
  refine j_if_lt (tgt := 14) d_St_isKey_1 (by decide) (fun c15 => ?_) (fun c16 => ?_)
  · have H := Ha c15
    refine j_iconst (v := 0) d_St_isKey_14 (by decide) ?_
    refine j_zret rfl (by decide) d_St_isKey_15 ?_
    show J E 2 m_St_needKey 4 [some (.int p1)] [.int ((0 : Int32))] G (aft E 3 m_St_needResultOf 1 [some (.int p1), some (.int p2), some (.int p3)] [] (aft E 5 m_St_result 3 [some (.ref a0), some (.int p1), some (.int p2), some (.int p3), none] [] Post))
    refine j_if_ne (tgt := 18) d_St_needKey_4 (by decide) (fun c => absurd c (by decide)) (fun _ => ?_)
    exact j_throwW te_222_311_226 rfl d_St_needKey_7 d_St_needKey_10 d_St_needKey_11 d_St_needKey_14 d_St_needKey_17 (Nat.le_of_ble_eq_true rfl) H
  · have H := Hb c16
    refine j_iload_n d_St_isKey_4 rfl ?_
    refine j_bipush (v := 6) d_St_isKey_5 (by decide) ?_
    obtain ⟨Ha, Hb⟩ := H
    refine j_icmp_ge (tgt := 14) d_St_isKey_7 (by decide) (fun c13 => ?_) (fun c14 => ?_)
    · have H := Ha c13
      refine j_iconst (v := 0) d_St_isKey_14 (by decide) ?_
      refine j_zret rfl (by decide) d_St_isKey_15 ?_
      show J E 2 m_St_needKey 4 [some (.int p1)] [.int ((0 : Int32))] G (aft E 3 m_St_needResultOf 1 [some (.int p1), some (.int p2), some (.int p3)] [] (aft E 5 m_St_result 3 [some (.ref a0), some (.int p1), some (.int p2), some (.int p3), none] [] Post))
      refine j_if_ne (tgt := 18) d_St_needKey_4 (by decide) (fun c => absurd c (by decide)) (fun _ => ?_)
      exact j_throwW te_222_311_226 rfl d_St_needKey_7 d_St_needKey_10 d_St_needKey_11 d_St_needKey_14 d_St_needKey_17 (Nat.le_of_ble_eq_true rfl) H
    · have H := Hb c14
      refine j_iconst (v := 1) d_St_isKey_10 (by decide) ?_
      refine j_goto (tgt := 15) d_St_isKey_11 (by decide) ?_
      refine j_zret rfl (by decide) d_St_isKey_15 ?_
      show J E 2 m_St_needKey 4 [some (.int p1)] [.int ((1 : Int32))] G (aft E 3 m_St_needResultOf 1 [some (.int p1), some (.int p2), some (.int p3)] [] (aft E 5 m_St_result 3 [some (.ref a0), some (.int p1), some (.int p2), some (.int p3), none] [] Post))
      refine j_if_ne (tgt := 18) d_St_needKey_4 (by decide) (fun _ => ?_) (fun c => absurd c (by decide))
      refine j_vret rfl d_St_needKey_18 ?_
      show J E 3 m_St_needResultOf 4 [some (.int p1), some (.int p2), some (.int p3)] [] G (aft E 5 m_St_result 3 [some (.ref a0), some (.int p1), some (.int p2), some (.int p3), none] [] Post)
      refine j_iload_n d_St_needResultOf_4 rfl ?_
      obtain ⟨Ha, Hb⟩ := H
      refine j_if_lt (tgt := 24) d_St_needResultOf_5 (by decide) (fun c11 => ?_) (fun c12 => ?_)
      · have H := Ha c11
        exact j_throwW te_72_313_76 rfl d_St_needResultOf_24 d_St_needResultOf_27 d_St_needResultOf_28 d_St_needResultOf_31 d_St_needResultOf_34 (Nat.le_of_ble_eq_true rfl) H
      · have H := Hb c12
        refine j_iload_n d_St_needResultOf_8 rfl ?_
        refine j_sipush (v := 999) d_St_needResultOf_9 (by decide) ?_
        obtain ⟨Ha, Hb⟩ := H
        refine j_icmp_gt (tgt := 24) d_St_needResultOf_12 (by decide) (fun c9 => ?_) (fun c10 => ?_)
        · have H := Ha c9
          exact j_throwW te_72_313_76 rfl d_St_needResultOf_24 d_St_needResultOf_27 d_St_needResultOf_28 d_St_needResultOf_31 d_St_needResultOf_34 (Nat.le_of_ble_eq_true rfl) H
        · have H := Hb c10
          refine j_iload_n d_St_needResultOf_15 rfl ?_
          obtain ⟨Ha, Hb⟩ := H
          refine j_if_lt (tgt := 24) d_St_needResultOf_16 (by decide) (fun c7 => ?_) (fun c8 => ?_)
          · have H := Ha c7
            exact j_throwW te_72_313_76 rfl d_St_needResultOf_24 d_St_needResultOf_27 d_St_needResultOf_28 d_St_needResultOf_31 d_St_needResultOf_34 (Nat.le_of_ble_eq_true rfl) H
          · have H := Hb c8
            refine j_iload_n d_St_needResultOf_19 rfl ?_
            refine j_iconst (v := 2) d_St_needResultOf_20 (by decide) ?_
            obtain ⟨Ha, Hb⟩ := H
            refine j_icmp_le (tgt := 35) d_St_needResultOf_21 (by decide) (fun c5 => ?_) (fun c6 => ?_)
            · have H := Ha c5
              refine j_vret rfl d_St_needResultOf_35 ?_
              show J E 5 m_St_result 6 [some (.ref a0), some (.int p1), some (.int p2), some (.int p3), none] [] G Post
              refine j_aload_n d_St_result_6 rfl ?_
              obtain ⟨t1, H⟩ := H
              obtain ⟨b2, e3, H⟩ := H
              refine j_getR (f := 581) (b := b2) fe_St_43 rfl rfl t1 e3 d_St_result_7 ?_
              refine j_iload_n d_St_result_10 rfl ?_
              refine j_iload_n d_St_result_11 rfl ?_
              obtain ⟨t4, H⟩ := H
              refine j_forget (L' := [none, none, none, some (.int p3), none]) ⟨Or.inl rfl, Or.inl rfl, Or.inl rfl, Or.inr rfl, Or.inl rfl, trivial⟩ ?_
              exact j_callV (d' := 4) (ci := 5) (As := [.int p1, .int p2]) (rest := []) (b := b2) cv_St_282 me_Si_lastCommitted rfl (by decide) rfl rfl t4 rfl rfl (Nat.le_of_ble_eq_true rfl) d_St_result_12 (by decide) rfl H
            · have H := Hb c6
              exact j_throwW te_72_313_76 rfl d_St_needResultOf_24 d_St_needResultOf_27 d_St_needResultOf_28 d_St_needResultOf_31 d_St_needResultOf_34 (Nat.le_of_ble_eq_true rfl) H
theorem wp_St_result_15 {E : EV} {G : GH} {Post : Res → GH → Prop} (p3 : Int32) (w0 : Option Nat) (H : (w0 = none → Post (.inl (some (.int ((-1000000 : Int32))))) G) ∧ (∀ r1, w0 = some r1 → gT G r1 = 8 ∧ (¬ (gI G 453 r1) = 0 → (¬ p3 = 0 → (¬ p3 = (1 : Int32) → Post (.inl (some (.int ((gI G 450 r1))))) G) ∧ (p3 = (1 : Int32) → Post (.inl (some (.int ((gI G 452 r1))))) G)) ∧ (p3 = 0 → Post (.inl (some (.int ((gI G 451 r1))))) G)) ∧ ((gI G 453 r1) = 0 → Post (.inl (some (.int ((-1000000 : Int32))))) G))) : J E 5 m_St_result 15 [none, none, none, some (.int p3), none] [va_rf w0] G Post := by
  refine j_astore (x := w0) (L' := [none, none, none, some (.int p3), some (va_rf w0)]) rfl d_St_result_15 (by decide) rfl ?_
  refine j_aloadq (x := w0) d_St_result_17 rfl ?_
  obtain ⟨Ha, Hb⟩ := H
  refine j_ifnull (x := w0) (tgt := 30) rfl d_St_result_19 (by decide) (fun c9 => ?_) (fun r1 c9 => ?_)
  · have H := Ha c9
    subst c9
    refine j_ldcw kc_St_262 d_St_result_30 ?_
    refine j_goto (tgt := 42) d_St_result_33 (by decide) ?_
    exact j_iret rfl d_St_result_42 H
  · have H := Hb r1 c9
    subst c9
    refine j_aload d_St_result_22 rfl ?_
    obtain ⟨t2, H⟩ := H
    refine j_getI (f := 453) fe_St_286 rfl rfl t2 d_St_result_24 ?_
    obtain ⟨Ha, Hb⟩ := H
    refine j_if_ne (tgt := 36) d_St_result_27 (by decide) (fun c7 => ?_) (fun c8 => ?_)
    · have H := Ha c7
      refine j_aload d_St_result_36 rfl ?_
      refine j_iload_n d_St_result_38 rfl ?_
      refine j_callV (d' := 1) (ci := 7) (As := [.int p3]) (rest := []) (b := r1) cv_St_289 me_Wi_number rfl (by decide) rfl rfl t2 rfl rfl (Nat.le_of_ble_eq_true rfl) d_St_result_39 (by decide) rfl (j_enter (L := [some (.ref r1), some (.int p3)]) me_Wi_number (cat_c rfl (cat_c rfl cat_n)) (Nat.le_of_ble_eq_true rfl) rfl ?_)
      refine j_iload_n d_Wi_number_0 rfl ?_
      obtain ⟨Ha, Hb⟩ := H
      refine j_if_ne (tgt := 11) d_Wi_number_1 (by decide) (fun c5 => ?_) (fun c6 => ?_)
      · have H := Ha c5
        refine j_iload_n d_Wi_number_11 rfl ?_
        refine j_iconst (v := 1) d_Wi_number_12 (by decide) ?_
        obtain ⟨Ha, Hb⟩ := H
        refine j_icmp_ne (tgt := 23) d_Wi_number_13 (by decide) (fun c3 => ?_) (fun c4 => ?_)
        · have H := Ha c3
          refine j_aload_n d_Wi_number_23 rfl ?_
          refine j_getI (f := 450) fe_Wi_18 rfl rfl t2 d_Wi_number_24 ?_
          refine j_iret rfl d_Wi_number_27 ?_
          show J E 5 m_St_result 42 [none, none, none, some (.int p3), some (.ref r1)] [.int ((gI G 450 r1))] G Post
          exact j_iret rfl d_St_result_42 H
        · have H := Hb c4
          refine j_aload_n d_Wi_number_16 rfl ?_
          refine j_getI (f := 452) fe_Wi_24 rfl rfl t2 d_Wi_number_17 ?_
          refine j_goto (tgt := 27) d_Wi_number_20 (by decide) ?_
          refine j_iret rfl d_Wi_number_27 ?_
          show J E 5 m_St_result 42 [none, none, none, some (.int p3), some (.ref r1)] [.int ((gI G 452 r1))] G Post
          exact j_iret rfl d_St_result_42 H
      · have H := Hb c6
        refine j_aload_n d_Wi_number_4 rfl ?_
        refine j_getI (f := 451) fe_Wi_21 rfl rfl t2 d_Wi_number_5 ?_
        refine j_goto (tgt := 27) d_Wi_number_8 (by decide) ?_
        refine j_iret rfl d_Wi_number_27 ?_
        show J E 5 m_St_result 42 [none, none, none, some (.int p3), some (.ref r1)] [.int ((gI G 451 r1))] G Post
        exact j_iret rfl d_St_result_42 H
    · have H := Hb c8
      refine j_ldcw kc_St_262 d_St_result_30 ?_
      refine j_goto (tgt := 42) d_St_result_33 (by decide) ?_
      exact j_iret rfl d_St_result_42 H
theorem wp_St_resultAnew_0 {E : EV} {G : GH} {Post : Res → GH → Prop} (a0 : Nat) (p1 : Int32) (p2 : Int32) (p3 : Int32) (H : (p1 < 0 → Post (.inr "java/lang/IndexOutOfBoundsException") (bump G 1 6)) ∧ (¬ p1 < 0 → ((6 : Int32) ≤ p1 → Post (.inr "java/lang/IndexOutOfBoundsException") (bump G 1 6)) ∧ (¬ (6 : Int32) ≤ p1 → (p2 < 0 → Post (.inr "java/lang/IllegalArgumentException") (bump G 1 6)) ∧ (¬ p2 < 0 → ((999 : Int32) < p2 → Post (.inr "java/lang/IllegalArgumentException") (bump G 1 6)) ∧ (¬ (999 : Int32) < p2 → (p3 < 0 → Post (.inr "java/lang/IllegalArgumentException") (bump G 1 6)) ∧ (¬ p3 < 0 → (p3 ≤ (2 : Int32) → gT G a0 = 10 ∧ ∃ b2, gR G 576 a0 = some b2 ∧ gT G b2 = 4 ∧ (¬ (gI G 192 b2) = (2 : Int32) → ((1 : Int32) ≤ (gI G 194 b2) → ¬ (gI G 194 b2) = 0 ∧ (¬ (p2 - (p2 - p2 / (gI G 194 b2) * (gI G 194 b2))) = p2 → Post (.inl (some (.int ((-1000000 : Int32))))) G) ∧ ((p2 - (p2 - p2 / (gI G 194 b2) * (gI G 194 b2))) = p2 → ((p2 + (gI G 193 b2)) = (-1 : Int32) → Post (.inl (some (.int ((-1000000 : Int32))))) G) ∧ (¬ (p2 + (gI G 193 b2)) = (-1 : Int32) → ∃ b6, gR G 580 a0 = some b6 ∧ gT G b6 = 3 ∧ ((p2 + (gI G 193 b2)) ≤ (gI G 130 b6) → Cl E 5 m_Hi_gather [.ref b6, .ref b2, .int p1, .int p2, .int ((p2 + (gI G 193 b2)))] G (aft E 7 m_St_resultAnew 77 [none, none, none, some (.int p3), none, none] [] Post)) ∧ (¬ (p2 + (gI G 193 b2)) ≤ (gI G 130 b6) → Post (.inl (some (.int ((-1000000 : Int32))))) G)))) ∧ (¬ (1 : Int32) ≤ (gI G 194 b2) → (¬ p2 = p2 → Post (.inl (some (.int ((-1000000 : Int32))))) G) ∧ (p2 = p2 → ((p2 + (gI G 193 b2)) = (-1 : Int32) → Post (.inl (some (.int ((-1000000 : Int32))))) G) ∧ (¬ (p2 + (gI G 193 b2)) = (-1 : Int32) → ∃ b15, gR G 580 a0 = some b15 ∧ gT G b15 = 3 ∧ ((p2 + (gI G 193 b2)) ≤ (gI G 130 b15) → Cl E 5 m_Hi_gather [.ref b15, .ref b2, .int p1, .int p2, .int ((p2 + (gI G 193 b2)))] G (aft E 7 m_St_resultAnew 77 [none, none, none, some (.int p3), none, none] [] Post)) ∧ (¬ (p2 + (gI G 193 b2)) ≤ (gI G 130 b15) → Post (.inl (some (.int ((-1000000 : Int32))))) G))))) ∧ ((gI G 192 b2) = (2 : Int32) → ∃ b26, gR G 580 a0 = some b26 ∧ gT G b26 = 3 ∧ Cl E 6 m_Hi_endByGap [.ref b26, .ref b2, .int p1, .int p2] G (aft E 7 m_St_resultAnew 27 [some (.ref a0), some (.int p1), some (.int p2), some (.int p3), none, none] [] Post))) ∧ (¬ p3 ≤ (2 : Int32) → Post (.inr "java/lang/IllegalArgumentException") (bump G 1 6)))))))) : J E 7 m_St_resultAnew 0 [some (.ref a0), some (.int p1), some (.int p2), some (.int p3), none, none] [] G Post := by
  refine j_iload_n d_St_resultAnew_0 rfl ?_
  refine j_iload_n d_St_resultAnew_1 rfl ?_
  refine j_iload_n d_St_resultAnew_2 rfl ?_
  refine j_callS (d' := 3) (As := [.int p1, .int p2, .int p3]) (rest := []) cs_St_278 me_St_needResultOf rfl (by decide) rfl rfl (Nat.le_of_ble_eq_true rfl) d_St_resultAnew_3 (by decide) rfl (j_enter (L := [some (.int p1), some (.int p2), some (.int p3)]) me_St_needResultOf (cat_c rfl (cat_c rfl (cat_c rfl cat_n))) (Nat.le_of_ble_eq_true rfl) rfl ?_)
  refine j_iload_n d_St_needResultOf_0 rfl ?_
  refine j_callS (d' := 2) (As := [.int p1]) (rest := []) cs_St_251 me_St_needKey rfl (by decide) rfl rfl (Nat.le_of_ble_eq_true rfl) d_St_needResultOf_1 (by decide) rfl (j_enter (L := [some (.int p1)]) me_St_needKey (cat_c rfl cat_n) (Nat.le_of_ble_eq_true rfl) rfl ?_)
  refine j_iload_n d_St_needKey_0 rfl ?_
  refine j_callS (d' := 1) (As := [.int p1]) (rest := []) cs_St_115 me_St_isKey rfl (by decide) rfl rfl (Nat.le_of_ble_eq_true rfl) d_St_needKey_1 (by decide) rfl (j_enter (L := [some (.int p1)]) me_St_isKey (cat_c rfl cat_n) (Nat.le_of_ble_eq_true rfl) rfl ?_)
  refine j_iload_n d_St_isKey_0 rfl ?_
  obtain ⟨Ha, Hb⟩ := H
  refine j_if_lt (tgt := 14) d_St_isKey_1 (by decide) (fun c41 => ?_) (fun c42 => ?_)
  · have H := Ha c41
    refine j_iconst (v := 0) d_St_isKey_14 (by decide) ?_
    refine j_zret rfl (by decide) d_St_isKey_15 ?_
    show J E 2 m_St_needKey 4 [some (.int p1)] [.int ((0 : Int32))] G (aft E 3 m_St_needResultOf 1 [some (.int p1), some (.int p2), some (.int p3)] [] (aft E 7 m_St_resultAnew 3 [some (.ref a0), some (.int p1), some (.int p2), some (.int p3), none, none] [] Post))
    refine j_if_ne (tgt := 18) d_St_needKey_4 (by decide) (fun c => absurd c (by decide)) (fun _ => ?_)
    exact j_throwW te_222_311_226 rfl d_St_needKey_7 d_St_needKey_10 d_St_needKey_11 d_St_needKey_14 d_St_needKey_17 (Nat.le_of_ble_eq_true rfl) H
  · have H := Hb c42
    refine j_iload_n d_St_isKey_4 rfl ?_
    refine j_bipush (v := 6) d_St_isKey_5 (by decide) ?_
    obtain ⟨Ha, Hb⟩ := H
    refine j_icmp_ge (tgt := 14) d_St_isKey_7 (by decide) (fun c39 => ?_) (fun c40 => ?_)
    · have H := Ha c39
      refine j_iconst (v := 0) d_St_isKey_14 (by decide) ?_
      refine j_zret rfl (by decide) d_St_isKey_15 ?_
      show J E 2 m_St_needKey 4 [some (.int p1)] [.int ((0 : Int32))] G (aft E 3 m_St_needResultOf 1 [some (.int p1), some (.int p2), some (.int p3)] [] (aft E 7 m_St_resultAnew 3 [some (.ref a0), some (.int p1), some (.int p2), some (.int p3), none, none] [] Post))
      refine j_if_ne (tgt := 18) d_St_needKey_4 (by decide) (fun c => absurd c (by decide)) (fun _ => ?_)
      exact j_throwW te_222_311_226 rfl d_St_needKey_7 d_St_needKey_10 d_St_needKey_11 d_St_needKey_14 d_St_needKey_17 (Nat.le_of_ble_eq_true rfl) H
    · have H := Hb c40
      refine j_iconst (v := 1) d_St_isKey_10 (by decide) ?_
      refine j_goto (tgt := 15) d_St_isKey_11 (by decide) ?_
      refine j_zret rfl (by decide) d_St_isKey_15 ?_
      show J E 2 m_St_needKey 4 [some (.int p1)] [.int ((1 : Int32))] G (aft E 3 m_St_needResultOf 1 [some (.int p1), some (.int p2), some (.int p3)] [] (aft E 7 m_St_resultAnew 3 [some (.ref a0), some (.int p1), some (.int p2), some (.int p3), none, none] [] Post))
      refine j_if_ne (tgt := 18) d_St_needKey_4 (by decide) (fun _ => ?_) (fun c => absurd c (by decide))
      refine j_vret rfl d_St_needKey_18 ?_
      show J E 3 m_St_needResultOf 4 [some (.int p1), some (.int p2), some (.int p3)] [] G (aft E 7 m_St_resultAnew 3 [some (.ref a0), some (.int p1), some (.int p2), some (.int p3), none, none] [] Post)
      refine j_iload_n d_St_needResultOf_4 rfl ?_
      obtain ⟨Ha, Hb⟩ := H
      refine j_if_lt (tgt := 24) d_St_needResultOf_5 (by decide) (fun c37 => ?_) (fun c38 => ?_)
      · have H := Ha c37
        exact j_throwW te_72_313_76 rfl d_St_needResultOf_24 d_St_needResultOf_27 d_St_needResultOf_28 d_St_needResultOf_31 d_St_needResultOf_34 (Nat.le_of_ble_eq_true rfl) H
      · have H := Hb c38
        refine j_iload_n d_St_needResultOf_8 rfl ?_
        refine j_sipush (v := 999) d_St_needResultOf_9 (by decide) ?_
        obtain ⟨Ha, Hb⟩ := H
        refine j_icmp_gt (tgt := 24) d_St_needResultOf_12 (by decide) (fun c35 => ?_) (fun c36 => ?_)
        · have H := Ha c35
          exact j_throwW te_72_313_76 rfl d_St_needResultOf_24 d_St_needResultOf_27 d_St_needResultOf_28 d_St_needResultOf_31 d_St_needResultOf_34 (Nat.le_of_ble_eq_true rfl) H
        · have H := Hb c36
          refine j_iload_n d_St_needResultOf_15 rfl ?_
          obtain ⟨Ha, Hb⟩ := H
          refine j_if_lt (tgt := 24) d_St_needResultOf_16 (by decide) (fun c33 => ?_) (fun c34 => ?_)
          · have H := Ha c33
            exact j_throwW te_72_313_76 rfl d_St_needResultOf_24 d_St_needResultOf_27 d_St_needResultOf_28 d_St_needResultOf_31 d_St_needResultOf_34 (Nat.le_of_ble_eq_true rfl) H
          · have H := Hb c34
            refine j_iload_n d_St_needResultOf_19 rfl ?_
            refine j_iconst (v := 2) d_St_needResultOf_20 (by decide) ?_
            obtain ⟨Ha, Hb⟩ := H
            refine j_icmp_le (tgt := 35) d_St_needResultOf_21 (by decide) (fun c31 => ?_) (fun c32 => ?_)
            · have H := Ha c31
              refine j_vret rfl d_St_needResultOf_35 ?_
              show J E 7 m_St_resultAnew 6 [some (.ref a0), some (.int p1), some (.int p2), some (.int p3), none, none] [] G Post
              refine j_aload_n d_St_resultAnew_6 rfl ?_
              obtain ⟨t1, H⟩ := H
              obtain ⟨b2, e3, H⟩ := H
              refine j_getR (f := 576) (b := b2) fe_St_10 rfl rfl t1 e3 d_St_resultAnew_7 ?_
              obtain ⟨t4, H⟩ := H
              refine j_getI (f := 192) fe_St_88 rfl rfl t4 d_St_resultAnew_10 ?_
              refine j_iconst (v := 2) d_St_resultAnew_13 (by decide) ?_
              obtain ⟨Ha, Hb⟩ := H
              refine j_icmp_ne (tgt := 33) d_St_resultAnew_14 (by decide) (fun c29 => ?_) (fun c30 => ?_)
              · have H := Ha c29
                refine j_aload_n d_St_resultAnew_33 rfl ?_
                refine j_getR (f := 576) (b := b2) fe_St_10 rfl rfl t1 e3 d_St_resultAnew_34 ?_
                refine j_iload_n d_St_resultAnew_37 rfl ?_
                refine j_callV (d' := 2) (ci := 3) (As := [.int p2]) (rest := []) (b := b2) cv_St_296 me_Jo_endBySteps rfl (by decide) rfl rfl t4 rfl rfl (Nat.le_of_ble_eq_true rfl) d_St_resultAnew_38 (by decide) rfl (j_enter (L := [some (.ref b2), some (.int p2)]) me_Jo_endBySteps (cat_c rfl (cat_c rfl cat_n)) (Nat.le_of_ble_eq_true rfl) rfl ?_)
                refine j_aload_n d_Jo_endBySteps_0 rfl ?_
                refine j_iload_n d_Jo_endBySteps_1 rfl ?_
                refine j_callV (d' := 1) (ci := 3) (As := [.int p2]) (rest := []) (b := b2) cv_Jo_31 me_Jo_lastStart rfl (by decide) rfl rfl t4 rfl rfl (Nat.le_of_ble_eq_true rfl) d_Jo_endBySteps_2 (by decide) rfl (j_enter (L := [some (.ref b2), some (.int p2)]) me_Jo_lastStart (cat_c rfl (cat_c rfl cat_n)) (Nat.le_of_ble_eq_true rfl) rfl ?_)
                refine j_aload_n d_Jo_lastStart_0 rfl ?_
                refine j_getI (f := 194) fe_Jo_18 rfl rfl t4 d_Jo_lastStart_1 ?_
                refine j_iconst (v := 1) d_Jo_lastStart_4 (by decide) ?_
                obtain ⟨Ha, Hb⟩ := H
                refine j_icmp_ge (tgt := 12) d_Jo_lastStart_5 (by decide) (fun c24 => ?_) (fun c25 => ?_)
                · have H := Ha c24
                  refine j_iload_n d_Jo_lastStart_12 rfl ?_
                  refine j_iload_n d_Jo_lastStart_13 rfl ?_
                  refine j_aload_n d_Jo_lastStart_14 rfl ?_
                  refine j_getI (f := 194) fe_Jo_18 rfl rfl t4 d_Jo_lastStart_15 ?_
                  obtain ⟨z5, H⟩ := H
                  refine j_irem d_Jo_lastStart_18 z5 ?_
                  refine j_isub d_Jo_lastStart_19 ?_
                  refine j_iret rfl d_Jo_lastStart_20 ?_
                  show J E 2 m_Jo_endBySteps 5 [some (.ref b2), some (.int p2)] [.int ((p2 - (p2 - p2 / (gI G 194 b2) * (gI G 194 b2))))] G (aft E 7 m_St_resultAnew 38 [some (.ref a0), some (.int p1), some (.int p2), some (.int p3), none, none] [] Post)
                  refine j_iload_n d_Jo_endBySteps_5 rfl ?_
                  obtain ⟨Ha, Hb⟩ := H
                  refine j_icmp_ne (tgt := 18) d_Jo_endBySteps_6 (by decide) (fun c13 => ?_) (fun c14 => ?_)
                  · have H := Ha c13
                    refine j_iconst (v := -1) d_Jo_endBySteps_18 (by decide) ?_
                    refine j_iret rfl d_Jo_endBySteps_19 ?_
                    show J E 7 m_St_resultAnew 41 [some (.ref a0), some (.int p1), some (.int p2), some (.int p3), none, none] [.int ((-1 : Int32))] G Post
                    refine j_istore (L' := [some (.ref a0), some (.int p1), some (.int p2), some (.int p3), some (.int ((-1 : Int32))), none]) d_St_resultAnew_41 (by decide) rfl ?_
                    refine j_iload d_St_resultAnew_43 rfl ?_
                    refine j_iconst (v := -1) d_St_resultAnew_45 (by decide) ?_
                    refine j_icmp_eq (tgt := 61) d_St_resultAnew_46 (by decide) (fun _ => ?_) (fun c => absurd c (by decide))
                    refine j_ldcw kc_St_262 d_St_resultAnew_61 ?_
                    exact j_iret rfl d_St_resultAnew_64 H
                  · have H := Hb c14
                    refine j_iload_n d_Jo_endBySteps_9 rfl ?_
                    refine j_aload_n d_Jo_endBySteps_10 rfl ?_
                    refine j_getI (f := 193) fe_Jo_15 rfl rfl t4 d_Jo_endBySteps_11 ?_
                    refine j_iadd d_Jo_endBySteps_14 ?_
                    refine j_goto (tgt := 19) d_Jo_endBySteps_15 (by decide) ?_
                    refine j_iret rfl d_Jo_endBySteps_19 ?_
                    show J E 7 m_St_resultAnew 41 [some (.ref a0), some (.int p1), some (.int p2), some (.int p3), none, none] [.int ((p2 + (gI G 193 b2)))] G Post
                    refine j_istore (L' := [some (.ref a0), some (.int p1), some (.int p2), some (.int p3), some (.int ((p2 + (gI G 193 b2)))), none]) d_St_resultAnew_41 (by decide) rfl ?_
                    refine j_iload d_St_resultAnew_43 rfl ?_
                    refine j_iconst (v := -1) d_St_resultAnew_45 (by decide) ?_
                    obtain ⟨Ha, Hb⟩ := H
                    refine j_icmp_eq (tgt := 61) d_St_resultAnew_46 (by decide) (fun c11 => ?_) (fun c12 => ?_)
                    · have H := Ha c11
                      refine j_ldcw kc_St_262 d_St_resultAnew_61 ?_
                      exact j_iret rfl d_St_resultAnew_64 H
                    · have H := Hb c12
                      refine j_iload d_St_resultAnew_49 rfl ?_
                      refine j_aload_n d_St_resultAnew_51 rfl ?_
                      obtain ⟨b6, e7, H⟩ := H
                      refine j_getR (f := 580) (b := b6) fe_St_36 rfl rfl t1 e7 d_St_resultAnew_52 ?_
                      obtain ⟨t8, H⟩ := H
                      refine j_getI (f := 130) fe_St_299 rfl rfl t8 d_St_resultAnew_55 ?_
                      obtain ⟨Ha, Hb⟩ := H
                      refine j_icmp_le (tgt := 65) d_St_resultAnew_58 (by decide) (fun c9 => ?_) (fun c10 => ?_)
                      · have H := Ha c9
                        refine j_aload_n d_St_resultAnew_65 rfl ?_
                        refine j_getR (f := 580) (b := b6) fe_St_36 rfl rfl t1 e7 d_St_resultAnew_66 ?_
                        refine j_aload_n d_St_resultAnew_69 rfl ?_
                        refine j_getR (f := 576) (b := b2) fe_St_10 rfl rfl t1 e3 d_St_resultAnew_70 ?_
                        refine j_iload_n d_St_resultAnew_73 rfl ?_
                        refine j_iload_n d_St_resultAnew_74 rfl ?_
                        refine j_iload d_St_resultAnew_75 rfl ?_
                        refine j_forget (L' := [none, none, none, some (.int p3), none, none]) ⟨Or.inl rfl, Or.inl rfl, Or.inl rfl, Or.inr rfl, Or.inl rfl, Or.inl rfl, trivial⟩ ?_
                        exact j_callV (d' := 5) (ci := 2) (As := [.ref b2, .int p1, .int p2, .int ((p2 + (gI G 193 b2)))]) (rest := []) (b := b6) cv_St_302 me_Hi_gather rfl (by decide) rfl rfl t8 rfl rfl (Nat.le_of_ble_eq_true rfl) d_St_resultAnew_77 (by decide) rfl H
                      · have H := Hb c10
                        refine j_ldcw kc_St_262 d_St_resultAnew_61 ?_
                        exact j_iret rfl d_St_resultAnew_64 H
                · have H := Hb c25
                  refine j_iload_n d_Jo_lastStart_8 rfl ?_
                  refine j_goto (tgt := 20) d_Jo_lastStart_9 (by decide) ?_
                  refine j_iret rfl d_Jo_lastStart_20 ?_
                  show J E 2 m_Jo_endBySteps 5 [some (.ref b2), some (.int p2)] [.int p2] G (aft E 7 m_St_resultAnew 38 [some (.ref a0), some (.int p1), some (.int p2), some (.int p3), none, none] [] Post)
                  refine j_iload_n d_Jo_endBySteps_5 rfl ?_
                  obtain ⟨Ha, Hb⟩ := H
                  refine j_icmp_ne (tgt := 18) d_Jo_endBySteps_6 (by decide) (fun c22 => ?_) (fun c23 => ?_)
                  · have H := Ha c22
                    refine j_iconst (v := -1) d_Jo_endBySteps_18 (by decide) ?_
                    refine j_iret rfl d_Jo_endBySteps_19 ?_
                    show J E 7 m_St_resultAnew 41 [some (.ref a0), some (.int p1), some (.int p2), some (.int p3), none, none] [.int ((-1 : Int32))] G Post
                    refine j_istore (L' := [some (.ref a0), some (.int p1), some (.int p2), some (.int p3), some (.int ((-1 : Int32))), none]) d_St_resultAnew_41 (by decide) rfl ?_
                    refine j_iload d_St_resultAnew_43 rfl ?_
                    refine j_iconst (v := -1) d_St_resultAnew_45 (by decide) ?_
                    refine j_icmp_eq (tgt := 61) d_St_resultAnew_46 (by decide) (fun _ => ?_) (fun c => absurd c (by decide))
                    refine j_ldcw kc_St_262 d_St_resultAnew_61 ?_
                    exact j_iret rfl d_St_resultAnew_64 H
                  · have H := Hb c23
                    refine j_iload_n d_Jo_endBySteps_9 rfl ?_
                    refine j_aload_n d_Jo_endBySteps_10 rfl ?_
                    refine j_getI (f := 193) fe_Jo_15 rfl rfl t4 d_Jo_endBySteps_11 ?_
                    refine j_iadd d_Jo_endBySteps_14 ?_
                    refine j_goto (tgt := 19) d_Jo_endBySteps_15 (by decide) ?_
                    refine j_iret rfl d_Jo_endBySteps_19 ?_
                    show J E 7 m_St_resultAnew 41 [some (.ref a0), some (.int p1), some (.int p2), some (.int p3), none, none] [.int ((p2 + (gI G 193 b2)))] G Post
                    refine j_istore (L' := [some (.ref a0), some (.int p1), some (.int p2), some (.int p3), some (.int ((p2 + (gI G 193 b2)))), none]) d_St_resultAnew_41 (by decide) rfl ?_
                    refine j_iload d_St_resultAnew_43 rfl ?_
                    refine j_iconst (v := -1) d_St_resultAnew_45 (by decide) ?_
                    obtain ⟨Ha, Hb⟩ := H
                    refine j_icmp_eq (tgt := 61) d_St_resultAnew_46 (by decide) (fun c20 => ?_) (fun c21 => ?_)
                    · have H := Ha c20
                      refine j_ldcw kc_St_262 d_St_resultAnew_61 ?_
                      exact j_iret rfl d_St_resultAnew_64 H
                    · have H := Hb c21
                      refine j_iload d_St_resultAnew_49 rfl ?_
                      refine j_aload_n d_St_resultAnew_51 rfl ?_
                      obtain ⟨b15, e16, H⟩ := H
                      refine j_getR (f := 580) (b := b15) fe_St_36 rfl rfl t1 e16 d_St_resultAnew_52 ?_
                      obtain ⟨t17, H⟩ := H
                      refine j_getI (f := 130) fe_St_299 rfl rfl t17 d_St_resultAnew_55 ?_
                      obtain ⟨Ha, Hb⟩ := H
                      refine j_icmp_le (tgt := 65) d_St_resultAnew_58 (by decide) (fun c18 => ?_) (fun c19 => ?_)
                      · have H := Ha c18
                        refine j_aload_n d_St_resultAnew_65 rfl ?_
                        refine j_getR (f := 580) (b := b15) fe_St_36 rfl rfl t1 e16 d_St_resultAnew_66 ?_
                        refine j_aload_n d_St_resultAnew_69 rfl ?_
                        refine j_getR (f := 576) (b := b2) fe_St_10 rfl rfl t1 e3 d_St_resultAnew_70 ?_
                        refine j_iload_n d_St_resultAnew_73 rfl ?_
                        refine j_iload_n d_St_resultAnew_74 rfl ?_
                        refine j_iload d_St_resultAnew_75 rfl ?_
                        refine j_forget (L' := [none, none, none, some (.int p3), none, none]) ⟨Or.inl rfl, Or.inl rfl, Or.inl rfl, Or.inr rfl, Or.inl rfl, Or.inl rfl, trivial⟩ ?_
                        exact j_callV (d' := 5) (ci := 2) (As := [.ref b2, .int p1, .int p2, .int ((p2 + (gI G 193 b2)))]) (rest := []) (b := b15) cv_St_302 me_Hi_gather rfl (by decide) rfl rfl t17 rfl rfl (Nat.le_of_ble_eq_true rfl) d_St_resultAnew_77 (by decide) rfl H
                      · have H := Hb c19
                        refine j_ldcw kc_St_262 d_St_resultAnew_61 ?_
                        exact j_iret rfl d_St_resultAnew_64 H
              · have H := Hb c30
                refine j_aload_n d_St_resultAnew_17 rfl ?_
                obtain ⟨b26, e27, H⟩ := H
                refine j_getR (f := 580) (b := b26) fe_St_36 rfl rfl t1 e27 d_St_resultAnew_18 ?_
                refine j_aload_n d_St_resultAnew_21 rfl ?_
                refine j_getR (f := 576) (b := b2) fe_St_10 rfl rfl t1 e3 d_St_resultAnew_22 ?_
                refine j_iload_n d_St_resultAnew_25 rfl ?_
                refine j_iload_n d_St_resultAnew_26 rfl ?_
                obtain ⟨t28, H⟩ := H
                exact j_callV (d' := 6) (ci := 2) (As := [.ref b2, .int p1, .int p2]) (rest := []) (b := b26) cv_St_292 me_Hi_endByGap rfl (by decide) rfl rfl t28 rfl rfl (Nat.le_of_ble_eq_true rfl) d_St_resultAnew_27 (by decide) rfl H
            · have H := Hb c32
              exact j_throwW te_72_313_76 rfl d_St_needResultOf_24 d_St_needResultOf_27 d_St_needResultOf_28 d_St_needResultOf_31 d_St_needResultOf_34 (Nat.le_of_ble_eq_true rfl) H
theorem wp_St_resultAnew_80 {E : EV} {G : GH} {Post : Res → GH → Prop} (p3 : Int32) (u0 : Nat) (H : gT G u0 = 8 ∧ (¬ (gI G 451 u0) = 0 → (¬ p3 = 0 → (¬ p3 = (1 : Int32) → Post (.inl (some (.int ((gI G 450 u0))))) G) ∧ (p3 = (1 : Int32) → Post (.inl (some (.int ((gI G 452 u0))))) G)) ∧ (p3 = 0 → Post (.inl (some (.int ((gI G 451 u0))))) G)) ∧ ((gI G 451 u0) = 0 → Post (.inl (some (.int ((-1000000 : Int32))))) G)) : J E 7 m_St_resultAnew 80 [none, none, none, some (.int p3), none, none] [.ref u0] G Post := by
  refine j_astore (x := (some u0)) (L' := [none, none, none, some (.int p3), none, some (.ref u0)]) rfl d_St_resultAnew_80 (by decide) rfl ?_
  refine j_aload d_St_resultAnew_82 rfl ?_
  obtain ⟨t1, H⟩ := H
  refine j_getI (f := 451) fe_St_306 rfl rfl t1 d_St_resultAnew_84 ?_
  obtain ⟨Ha, Hb⟩ := H
  refine j_if_ne (tgt := 96) d_St_resultAnew_87 (by decide) (fun c6 => ?_) (fun c7 => ?_)
  · have H := Ha c6
    refine j_aload d_St_resultAnew_96 rfl ?_
    refine j_iload_n d_St_resultAnew_98 rfl ?_
    refine j_callV (d' := 1) (ci := 7) (As := [.int p3]) (rest := []) (b := u0) cv_St_289 me_Wi_number rfl (by decide) rfl rfl t1 rfl rfl (Nat.le_of_ble_eq_true rfl) d_St_resultAnew_99 (by decide) rfl (j_enter (L := [some (.ref u0), some (.int p3)]) me_Wi_number (cat_c rfl (cat_c rfl cat_n)) (Nat.le_of_ble_eq_true rfl) rfl ?_)
    refine j_iload_n d_Wi_number_0 rfl ?_
    obtain ⟨Ha, Hb⟩ := H
    refine j_if_ne (tgt := 11) d_Wi_number_1 (by decide) (fun c4 => ?_) (fun c5 => ?_)
    · have H := Ha c4
      refine j_iload_n d_Wi_number_11 rfl ?_
      refine j_iconst (v := 1) d_Wi_number_12 (by decide) ?_
      obtain ⟨Ha, Hb⟩ := H
      refine j_icmp_ne (tgt := 23) d_Wi_number_13 (by decide) (fun c2 => ?_) (fun c3 => ?_)
      · have H := Ha c2
        refine j_aload_n d_Wi_number_23 rfl ?_
        refine j_getI (f := 450) fe_Wi_18 rfl rfl t1 d_Wi_number_24 ?_
        refine j_iret rfl d_Wi_number_27 ?_
        show J E 7 m_St_resultAnew 102 [none, none, none, some (.int p3), none, some (.ref u0)] [.int ((gI G 450 u0))] G Post
        exact j_iret rfl d_St_resultAnew_102 H
      · have H := Hb c3
        refine j_aload_n d_Wi_number_16 rfl ?_
        refine j_getI (f := 452) fe_Wi_24 rfl rfl t1 d_Wi_number_17 ?_
        refine j_goto (tgt := 27) d_Wi_number_20 (by decide) ?_
        refine j_iret rfl d_Wi_number_27 ?_
        show J E 7 m_St_resultAnew 102 [none, none, none, some (.int p3), none, some (.ref u0)] [.int ((gI G 452 u0))] G Post
        exact j_iret rfl d_St_resultAnew_102 H
    · have H := Hb c5
      refine j_aload_n d_Wi_number_4 rfl ?_
      refine j_getI (f := 451) fe_Wi_21 rfl rfl t1 d_Wi_number_5 ?_
      refine j_goto (tgt := 27) d_Wi_number_8 (by decide) ?_
      refine j_iret rfl d_Wi_number_27 ?_
      show J E 7 m_St_resultAnew 102 [none, none, none, some (.int p3), none, some (.ref u0)] [.int ((gI G 451 u0))] G Post
      exact j_iret rfl d_St_resultAnew_102 H
  · have H := Hb c7
    refine j_ldcw kc_St_262 d_St_resultAnew_90 ?_
    refine j_goto (tgt := 102) d_St_resultAnew_93 (by decide) ?_
    exact j_iret rfl d_St_resultAnew_102 H
theorem wp_St_resultAnew_30 {E : EV} {G : GH} {Post : Res → GH → Prop} (a0 : Nat) (p1 : Int32) (p2 : Int32) (p3 : Int32) (s0 : Int32) (H : (s0 = (-1 : Int32) → Post (.inl (some (.int ((-1000000 : Int32))))) G) ∧ (¬ s0 = (-1 : Int32) → gT G a0 = 10 ∧ ∃ b2, gR G 580 a0 = some b2 ∧ gT G b2 = 3 ∧ (s0 ≤ (gI G 130 b2) → ∃ b5, gR G 576 a0 = some b5 ∧ Cl E 5 m_Hi_gather [.ref b2, .ref b5, .int p1, .int p2, .int s0] G (aft E 7 m_St_resultAnew 77 [none, none, none, some (.int p3), none, none] [] Post)) ∧ (¬ s0 ≤ (gI G 130 b2) → Post (.inl (some (.int ((-1000000 : Int32))))) G))) : J E 7 m_St_resultAnew 30 [some (.ref a0), some (.int p1), some (.int p2), some (.int p3), none, none] [.int s0] G Post := by
  refine j_goto (tgt := 41) d_St_resultAnew_30 (by decide) ?_
  refine j_istore (L' := [some (.ref a0), some (.int p1), some (.int p2), some (.int p3), some (.int s0), none]) d_St_resultAnew_41 (by decide) rfl ?_
  refine j_iload d_St_resultAnew_43 rfl ?_
  refine j_iconst (v := -1) d_St_resultAnew_45 (by decide) ?_
  obtain ⟨Ha, Hb⟩ := H
  refine j_icmp_eq (tgt := 61) d_St_resultAnew_46 (by decide) (fun c9 => ?_) (fun c10 => ?_)
  · have H := Ha c9
    refine j_ldcw kc_St_262 d_St_resultAnew_61 ?_
    exact j_iret rfl d_St_resultAnew_64 H
  · have H := Hb c10
    refine j_iload d_St_resultAnew_49 rfl ?_
    refine j_aload_n d_St_resultAnew_51 rfl ?_
    obtain ⟨t1, H⟩ := H
    obtain ⟨b2, e3, H⟩ := H
    refine j_getR (f := 580) (b := b2) fe_St_36 rfl rfl t1 e3 d_St_resultAnew_52 ?_
    obtain ⟨t4, H⟩ := H
    refine j_getI (f := 130) fe_St_299 rfl rfl t4 d_St_resultAnew_55 ?_
    obtain ⟨Ha, Hb⟩ := H
    refine j_icmp_le (tgt := 65) d_St_resultAnew_58 (by decide) (fun c7 => ?_) (fun c8 => ?_)
    · have H := Ha c7
      refine j_aload_n d_St_resultAnew_65 rfl ?_
      refine j_getR (f := 580) (b := b2) fe_St_36 rfl rfl t1 e3 d_St_resultAnew_66 ?_
      refine j_aload_n d_St_resultAnew_69 rfl ?_
      obtain ⟨b5, e6, H⟩ := H
      refine j_getR (f := 576) (b := b5) fe_St_10 rfl rfl t1 e6 d_St_resultAnew_70 ?_
      refine j_iload_n d_St_resultAnew_73 rfl ?_
      refine j_iload_n d_St_resultAnew_74 rfl ?_
      refine j_iload d_St_resultAnew_75 rfl ?_
      refine j_forget (L' := [none, none, none, some (.int p3), none, none]) ⟨Or.inl rfl, Or.inl rfl, Or.inl rfl, Or.inr rfl, Or.inl rfl, Or.inl rfl, trivial⟩ ?_
      exact j_callV (d' := 5) (ci := 2) (As := [.ref b5, .int p1, .int p2, .int s0]) (rest := []) (b := b2) cv_St_302 me_Hi_gather rfl (by decide) rfl rfl t4 rfl rfl (Nat.le_of_ble_eq_true rfl) d_St_resultAnew_77 (by decide) rfl H
    · have H := Hb c8
      refine j_ldcw kc_St_262 d_St_resultAnew_61 ?_
      exact j_iret rfl d_St_resultAnew_64 H
theorem wp_St_frontOf_0 {E : EV} {G : GH} {Post : Res → GH → Prop} (a0 : Nat) (p1 : Int32) (H : gT G a0 = 10 ∧ ∃ b2, gR G 578 a0 = some b2 ∧ gT G b2 = 5 ∧ ∃ b5, gR G 257 b2 = some b5 ∧ (gT G b5 = 20 ∨ gT G b5 = 25) ∧ ∃ n9, IX p1 n9 (gN G b5) ∧ ∃ b10, gR G 577 a0 = some b10 ∧ (gT G b10 = 23 ∨ gT G b10 = 24) ∧ ∃ n14, IX p1 n14 (gN G b10) ∧ ∃ b15, gO G b10 n14 = some b15 ∧ gT G b15 = 7 ∧ ∃ b18, gR G 384 b15 = some b18 ∧ ((gA G b5 n9) < 0 → Post (.inl (some (.null))) G) ∧ (¬ (gA G b5 n9) < 0 → ∃ b20, gR G 256 b2 = some b20 ∧ (gT G b20 = 20 ∨ gT G b20 = 25) ∧ ∃ n24, IX p1 n24 (gN G b20) ∧ ((gA G b20 n24) ≤ (gA G b5 n9) → Post (.inl (some (.null))) G) ∧ (¬ (gA G b20 n24) ≤ (gA G b5 n9) → gT G b18 = 12 ∧ ((gI G 706 b18) ≤ (gA G b5 n9) → Post (.inl (some (.null))) G) ∧ (¬ (gI G 706 b18) ≤ (gA G b5 n9) → ∃ b26, LG G b18 ((gA G b5 n9)) b26 ∧ gT G b26 = 2 ∧ Post (.inl (some (.ref b26))) G)))) : J E 4 m_St_frontOf 0 [some (.ref a0), some (.int p1), none, none] [] G Post := by
  refine j_aload_n d_St_frontOf_0 rfl ?_
  obtain ⟨t1, H⟩ := H
  obtain ⟨b2, e3, H⟩ := H
  refine j_getR (f := 578) (b := b2) fe_St_26 rfl rfl t1 e3 d_St_frontOf_1 ?_
  obtain ⟨t4, H⟩ := H
  obtain ⟨b5, e6, H⟩ := H
  refine j_getR (f := 257) (b := b5) fe_St_166 rfl rfl t4 e6 d_St_frontOf_4 ?_
  refine j_iload_n d_St_frontOf_7 rfl ?_
  obtain ⟨t7, H⟩ := H
  obtain ⟨n9, x8, H⟩ := H
  refine j_iald (n := n9) t7 x8 d_St_frontOf_8 ?_
  refine j_istore_n (L' := [some (.ref a0), some (.int p1), some (.int ((gA G b5 n9))), none]) d_St_frontOf_9 (by decide) rfl ?_
  refine j_aload_n d_St_frontOf_10 rfl ?_
  obtain ⟨b10, e11, H⟩ := H
  refine j_getR (f := 577) (b := b10) fe_St_19 rfl rfl t1 e11 d_St_frontOf_11 ?_
  refine j_iload_n d_St_frontOf_14 rfl ?_
  obtain ⟨t12, H⟩ := H
  obtain ⟨n14, x13, H⟩ := H
  obtain ⟨b15, e16, H⟩ := H
  refine j_aaldR (n := n14) (b := b15) t12 x13 e16 d_St_frontOf_15 ?_
  obtain ⟨t17, H⟩ := H
  obtain ⟨b18, e19, H⟩ := H
  refine j_getR (f := 384) (b := b18) fe_St_120 rfl rfl t17 e19 d_St_frontOf_16 ?_
  refine j_astore_n (x := (some b18)) (L' := [some (.ref a0), some (.int p1), some (.int ((gA G b5 n9))), some (.ref b18)]) rfl d_St_frontOf_19 (by decide) rfl ?_
  refine j_iload_n d_St_frontOf_20 rfl ?_
  obtain ⟨Ha, Hb⟩ := H
  refine j_if_lt (tgt := 56) d_St_frontOf_21 (by decide) (fun c33 => ?_) (fun c34 => ?_)
  · have H := Ha c33
    refine j_null d_St_frontOf_56 ?_
    exact j_aret (x := none) rfl rfl (Or.inl ⟨_, rfl⟩) d_St_frontOf_57 H
  · have H := Hb c34
    refine j_iload_n d_St_frontOf_24 rfl ?_
    refine j_aload_n d_St_frontOf_25 rfl ?_
    refine j_getR (f := 578) (b := b2) fe_St_26 rfl rfl t1 e3 d_St_frontOf_26 ?_
    obtain ⟨b20, e21, H⟩ := H
    refine j_getR (f := 256) (b := b20) fe_St_143 rfl rfl t4 e21 d_St_frontOf_29 ?_
    refine j_iload_n d_St_frontOf_32 rfl ?_
    obtain ⟨t22, H⟩ := H
    obtain ⟨n24, x23, H⟩ := H
    refine j_iald (n := n24) t22 x23 d_St_frontOf_33 ?_
    obtain ⟨Ha, Hb⟩ := H
    refine j_icmp_ge (tgt := 56) d_St_frontOf_34 (by decide) (fun c31 => ?_) (fun c32 => ?_)
    · have H := Ha c31
      refine j_null d_St_frontOf_56 ?_
      exact j_aret (x := none) rfl rfl (Or.inl ⟨_, rfl⟩) d_St_frontOf_57 H
    · have H := Hb c32
      refine j_iload_n d_St_frontOf_37 rfl ?_
      refine j_aload_n d_St_frontOf_38 rfl ?_
      obtain ⟨t25, H⟩ := H
      refine j_callV (d' := 1) (ci := 11) (As := []) (rest := [.int ((gA G b5 n9))]) (b := b18) cv_St_124 me_AL_size rfl (by decide) rfl rfl t25 rfl rfl (Nat.le_of_ble_eq_true rfl) d_St_frontOf_39 (by decide) rfl (j_enter (L := [some (.ref b18)]) me_AL_size (cat_c rfl cat_n) (Nat.le_of_ble_eq_true rfl) rfl ?_)
      refine j_aload_n d_AL_size_0 rfl ?_
      refine j_getI (f := 706) fe_AL_48 rfl rfl t25 d_AL_size_1 ?_
      refine j_iret rfl d_AL_size_4 ?_
      show J E 4 m_St_frontOf 42 [some (.ref a0), some (.int p1), some (.int ((gA G b5 n9))), some (.ref b18)] [.int ((gI G 706 b18)), .int ((gA G b5 n9))] G Post
      obtain ⟨Ha, Hb⟩ := H
      refine j_icmp_ge (tgt := 56) d_St_frontOf_42 (by decide) (fun c29 => ?_) (fun c30 => ?_)
      · have H := Ha c29
        refine j_null d_St_frontOf_56 ?_
        exact j_aret (x := none) rfl rfl (Or.inl ⟨_, rfl⟩) d_St_frontOf_57 H
      · have H := Hb c30
        refine j_aload_n d_St_frontOf_45 rfl ?_
        refine j_iload_n d_St_frontOf_46 rfl ?_
        obtain ⟨b26, g27, H⟩ := H
        refine j_callV (d' := 3) (ci := 11) (As := [.int ((gA G b5 n9))]) (rest := []) (b := b18) cv_St_236 me_AL_get rfl (by decide) rfl rfl t25 rfl rfl (Nat.le_of_ble_eq_true rfl) d_St_frontOf_47 (by decide) rfl (c_AL_get g27 ?_)
        show J E 4 m_St_frontOf 50 [some (.ref a0), some (.int p1), some (.int ((gA G b5 n9))), some (.ref b18)] [.ref b26] G Post
        obtain ⟨t28, H⟩ := H
        refine j_cast (ci := 1) rfl kl_St_134 t28 d_St_frontOf_50 ?_
        refine j_goto (tgt := 57) d_St_frontOf_53 (by decide) ?_
        exact j_aret (x := (some b26)) rfl rfl (Or.inl ⟨_, rfl⟩) d_St_frontOf_57 H
theorem wp_St_takeBarrier_0 {E : EV} {G : GH} {Post : Res → GH → Prop} (a0 : Nat) (p1 : Int32) (H : gT G a0 = 10 ∧ ∃ b2, gR G 582 a0 = some b2 ∧ gT G b2 = 1 ∧ ∃ b5, gR G 1 b2 = some b5 ∧ gT G b5 = 21 ∧ ∃ n9, IX p1 n9 (gN G b5) ∧ Cl E 1 m_Ba_isTakenOfAll [.ref b2] (sA G b5 n9 ((1 : Int32))) (aft E 10 m_St_takeBarrier 12 [some (.ref a0), none] [] Post)) : J E 10 m_St_takeBarrier 0 [some (.ref a0), some (.int p1)] [] G Post := by
  refine j_aload_n d_St_takeBarrier_0 rfl ?_
  obtain ⟨t1, H⟩ := H
  obtain ⟨b2, e3, H⟩ := H
  refine j_getR (f := 582) (b := b2) fe_St_50 rfl rfl t1 e3 d_St_takeBarrier_1 ?_
  refine j_iload_n d_St_takeBarrier_4 rfl ?_
  obtain ⟨t4, H⟩ := H
  refine j_callV (d' := 1) (ci := 0) (As := [.int p1]) (rest := []) (b := b2) cv_St_325 me_Ba_takeOf rfl (by decide) rfl rfl t4 rfl rfl (Nat.le_of_ble_eq_true rfl) d_St_takeBarrier_5 (by decide) rfl (j_enter (L := [some (.ref b2), some (.int p1)]) me_Ba_takeOf (cat_c rfl (cat_c rfl cat_n)) (Nat.le_of_ble_eq_true rfl) rfl ?_)
  refine j_aload_n d_Ba_takeOf_0 rfl ?_
  obtain ⟨b5, e6, H⟩ := H
  refine j_getR (f := 1) (b := b5) fe_Ba_15 rfl rfl t4 e6 d_Ba_takeOf_1 ?_
  refine j_iload_n d_Ba_takeOf_4 rfl ?_
  refine j_iconst (v := 1) d_Ba_takeOf_5 (by decide) ?_
  obtain ⟨t7, H⟩ := H
  obtain ⟨n9, x8, H⟩ := H
  refine j_zast (n := n9) t7 x8 (by decide) d_Ba_takeOf_6 ?_
  refine j_vret rfl d_Ba_takeOf_7 ?_
  show J E 10 m_St_takeBarrier 8 [some (.ref a0), some (.int p1)] [] (sA G b5 n9 ((1 : Int32))) Post
  refine j_aload_n d_St_takeBarrier_8 rfl ?_
  refine j_getR (f := 582) (b := b2) fe_St_50 rfl rfl t1 e3 d_St_takeBarrier_9 ?_
  refine j_forget (L' := [some (.ref a0), none]) ⟨Or.inr rfl, Or.inl rfl, trivial⟩ ?_
  exact j_callV (d' := 1) (ci := 0) (As := []) (rest := []) (b := b2) cv_St_328 me_Ba_isTakenOfAll rfl (by decide) rfl rfl t4 rfl rfl (Nat.le_of_ble_eq_true rfl) d_St_takeBarrier_12 (by decide) rfl H
theorem wp_St_takeBarrier_15 {E : EV} {G : GH} {Post : Res → GH → Prop} (a0 : Nat) (s0 : Int32) (H : (¬ s0 = 0 → gT G a0 = 10 ∧ ∃ b2, gR G 582 a0 = some b2 ∧ gT G b2 = 1 ∧ Cl E 9 m_St_takeSnapshot [.ref a0] (sI G 2 b2 ((0 : Int32))) (aft E 10 m_St_takeBarrier 29 [none, none] [] Post)) ∧ (s0 = 0 → Post (.inl (some (.int ((3 : Int32))))) G)) : J E 10 m_St_takeBarrier 15 [some (.ref a0), none] [.int s0] G Post := by
  obtain ⟨Ha, Hb⟩ := H
  refine j_if_ne (tgt := 20) d_St_takeBarrier_15 (by decide) (fun c5 => ?_) (fun c6 => ?_)
  · have H := Ha c5
    refine j_aload_n d_St_takeBarrier_20 rfl ?_
    obtain ⟨t1, H⟩ := H
    obtain ⟨b2, e3, H⟩ := H
    refine j_getR (f := 582) (b := b2) fe_St_50 rfl rfl t1 e3 d_St_takeBarrier_21 ?_
    refine j_iconst (v := 0) d_St_takeBarrier_24 (by decide) ?_
    obtain ⟨t4, H⟩ := H
    refine j_putZ (f := 2) fw_St_185 rfl rfl t4 (by decide) d_St_takeBarrier_25 ?_
    refine j_aload_n d_St_takeBarrier_28 rfl ?_
    refine j_forget (L' := [none, none]) ⟨Or.inl rfl, Or.inl rfl, trivial⟩ ?_
    exact j_callV (d' := 9) (ci := 9) (As := []) (rest := []) (b := a0) cv_St_194 me_St_takeSnapshot rfl (by decide) rfl rfl t1 rfl rfl (Nat.le_of_ble_eq_true rfl) d_St_takeBarrier_29 (by decide) rfl H
  · have H := Hb c6
    refine j_iconst (v := 3) d_St_takeBarrier_18 (by decide) ?_
    exact j_iret rfl d_St_takeBarrier_19 H
theorem wp_St_takeBarrier_32 {E : EV} {G : GH} {Post : Res → GH → Prop}  (H : Post (.inl (some (.int ((4 : Int32))))) G) : J E 10 m_St_takeBarrier 32 [none, none] [] G Post := by
  refine j_iconst (v := 4) d_St_takeBarrier_32 (by decide) ?_
  exact j_iret rfl d_St_takeBarrier_33 H
theorem wp_St_takeEvent_0 {E : EV} {G : GH} {Post : Res → GH → Prop} (a0 : Nat) (p1 : Int32) (a2 : Nat) (H : gT G a0 = 10 ∧ ∃ b2, gR G 578 a0 = some b2 ∧ gT G b2 = 5 ∧ gT G a2 = 2 ∧ ∃ b6, gR G 580 a0 = some b6 ∧ ∃ b8, gR G 576 a0 = some b8 ∧ gT G b8 = 4 ∧ gT G b6 = 3 ∧ Cl E 4 m_Hi_countPairsOf [.ref b6, .ref a2, .int ((gI G 196 b8))] (sI G 68 a2 ((gI G 259 b2))) (aft E 11 m_St_takeEvent 31 [some (.ref a0), some (.int p1), some (.ref a2), none] [.int ((gI G 262 b2)), .ref b2] Post)) : J E 11 m_St_takeEvent 0 [some (.ref a0), some (.int p1), some (.ref a2), none] [] G Post := by
  refine j_aload_n d_St_takeEvent_0 rfl ?_
  refine j_aload_n d_St_takeEvent_1 rfl ?_
  obtain ⟨t1, H⟩ := H
  obtain ⟨b2, e3, H⟩ := H
  refine j_getR (f := 578) (b := b2) fe_St_26 rfl rfl t1 e3 d_St_takeEvent_2 ?_
  obtain ⟨t4, H⟩ := H
  refine j_getI (f := 259) fe_St_216 rfl rfl t4 d_St_takeEvent_5 ?_
  obtain ⟨t5, H⟩ := H
  refine j_putI (f := 68) fw_St_332 rfl rfl t5 d_St_takeEvent_8 ?_
  refine j_aload_n d_St_takeEvent_11 rfl ?_
  refine j_getR (f := 578) (b := b2) fe_St_26 rfl rfl t1 e3 d_St_takeEvent_12 ?_
  refine j_dup d_St_takeEvent_15 rfl ?_
  refine j_getI (f := 262) fe_St_269 rfl rfl t4 d_St_takeEvent_16 ?_
  refine j_aload_n d_St_takeEvent_19 rfl ?_
  obtain ⟨b6, e7, H⟩ := H
  refine j_getR (f := 580) (b := b6) fe_St_36 rfl rfl t1 e7 d_St_takeEvent_20 ?_
  refine j_aload_n d_St_takeEvent_23 rfl ?_
  refine j_aload_n d_St_takeEvent_24 rfl ?_
  obtain ⟨b8, e9, H⟩ := H
  refine j_getR (f := 576) (b := b8) fe_St_10 rfl rfl t1 e9 d_St_takeEvent_25 ?_
  obtain ⟨t10, H⟩ := H
  refine j_getI (f := 196) fe_St_100 rfl rfl t10 d_St_takeEvent_28 ?_
  obtain ⟨t11, H⟩ := H
  exact j_callV (d' := 4) (ci := 2) (As := [.ref a2, .int ((gI G 196 b8))]) (rest := [.int ((gI G 262 b2)), .ref b2]) (b := b6) cv_St_333 me_Hi_countPairsOf rfl (by decide) rfl rfl t11 rfl rfl (Nat.le_of_ble_eq_true rfl) d_St_takeEvent_31 (by decide) rfl H
theorem wp_St_takeEvent_34 {E : EV} {G : GH} {Post : Res → GH → Prop} (a0 : Nat) (p1 : Int32) (a2 : Nat) (u0 : Nat) (s1 : Int32) (s2 : Int32) (H : gT G u0 = 5 ∧ gT G a0 = 10 ∧ ∃ b3, gR G 580 a0 = some b3 ∧ gT G b3 = 3 ∧ ∃ b6, gR G 128 b3 = some b6 ∧ gT G b6 = 12 ∧ Cl E 6 m_AL_add [.ref b6, .ref a2] (sI G 262 u0 ((s1 + s2))) (aft E 11 m_St_takeEvent 46 [some (.ref a0), some (.int p1), some (.ref a2), none] [] Post)) : J E 11 m_St_takeEvent 34 [some (.ref a0), some (.int p1), some (.ref a2), none] [.int s2, .int s1, .ref u0] G Post := by
  refine j_iadd d_St_takeEvent_34 ?_
  obtain ⟨t1, H⟩ := H
  refine j_putI (f := 262) fw_St_269 rfl rfl t1 d_St_takeEvent_35 ?_
  refine j_aload_n d_St_takeEvent_38 rfl ?_
  obtain ⟨t2, H⟩ := H
  obtain ⟨b3, e4, H⟩ := H
  refine j_getR (f := 580) (b := b3) fe_St_36 rfl rfl t2 e4 d_St_takeEvent_39 ?_
  obtain ⟨t5, H⟩ := H
  obtain ⟨b6, e7, H⟩ := H
  refine j_getR (f := 128) (b := b6) fe_St_337 rfl rfl t5 e7 d_St_takeEvent_42 ?_
  refine j_aload_n d_St_takeEvent_45 rfl ?_
  obtain ⟨t8, H⟩ := H
  exact j_callV (d' := 6) (ci := 11) (As := [.ref a2]) (rest := []) (b := b6) cv_St_139 me_AL_add rfl (by decide) rfl rfl t8 rfl rfl (Nat.le_of_ble_eq_true rfl) d_St_takeEvent_46 (by decide) rfl H
theorem wp_St_takeEvent_49 {E : EV} {G : GH} {Post : Res → GH → Prop} (a0 : Nat) (p1 : Int32) (a2 : Nat) (s0 : Int32) (H : gT G a0 = 10 ∧ ∃ b2, gR G 578 a0 = some b2 ∧ gT G b2 = 5 ∧ ∃ b5, gR G 257 b2 = some b5 ∧ (gT G b5 = 20 ∨ gT G b5 = 25) ∧ ∃ n9, IX p1 n9 (gN G b5) ∧ gT G b5 = 20 ∧ ∀ G11, G11 = sA (sI G 260 b2 (((gI G 260 b2) + (1 : Int32)))) b5 n9 (((gA (sI G 260 b2 (((gI G 260 b2) + (1 : Int32)))) b5 n9) + (1 : Int32))) → ∃ b13, gR G 258 b2 = some b13 ∧ (gT G b13 = 20 ∨ gT G b13 = 25) ∧ ∃ n17, IX p1 n17 (gN G b13) ∧ gT G a2 = 2 ∧ gT G b13 = 20 ∧ ∃ b20, gR G 576 a0 = some b20 ∧ gT G b20 = 4 ∧ (¬ (gI G 192 b20) = (2 : Int32) → ∃ b23, gR G 263 b2 = some b23 ∧ ∃ b25, gR G 581 a0 = some b25 ∧ gT G b23 = 9 ∧ Cl E 10 m_Ws_admitBySteps [.ref b23, .ref a2, .ref b20, .ref b25] (sA G11 b13 n17 ((if (gA G11 b13 n17) < (gI G 65 a2) then (gI G 65 a2) else (gA G11 b13 n17)))) (aft E 11 m_St_takeEvent 150 [some (.ref a0), none, some (.ref a2), none] [] Post)) ∧ ((gI G 192 b20) = (2 : Int32) → ∃ b28, gR G 263 b2 = some b28 ∧ ∃ b30, gR G 581 a0 = some b30 ∧ gT G b28 = 9 ∧ Cl E 9 m_Ws_admitByGap [.ref b28, .ref a2, .ref b20, .ref b30] (sA G11 b13 n17 ((if (gA G11 b13 n17) < (gI G 65 a2) then (gI G 65 a2) else (gA G11 b13 n17)))) (aft E 11 m_St_takeEvent 128 [some (.ref a0), none, some (.ref a2), none] [] Post))) : J E 11 m_St_takeEvent 49 [some (.ref a0), some (.int p1), some (.ref a2), none] [.int s0] G Post := by
  refine j_pop d_St_takeEvent_49 rfl ?_
  refine j_aload_n d_St_takeEvent_50 rfl ?_
  obtain ⟨t1, H⟩ := H
  obtain ⟨b2, e3, H⟩ := H
  refine j_getR (f := 578) (b := b2) fe_St_26 rfl rfl t1 e3 d_St_takeEvent_51 ?_
  refine j_dup d_St_takeEvent_54 rfl ?_
  obtain ⟨t4, H⟩ := H
  refine j_getI (f := 260) fe_St_338 rfl rfl t4 d_St_takeEvent_55 ?_
  refine j_iconst (v := 1) d_St_takeEvent_58 (by decide) ?_
  refine j_iadd d_St_takeEvent_59 ?_
  refine j_putI (f := 260) fw_St_338 rfl rfl t4 d_St_takeEvent_60 ?_
  refine j_aload_n d_St_takeEvent_63 rfl ?_
  refine j_getR (f := 578) (b := b2) fe_St_26 rfl rfl t1 e3 d_St_takeEvent_64 ?_
  obtain ⟨b5, e6, H⟩ := H
  refine j_getR (f := 257) (b := b5) fe_St_166 rfl rfl t4 e6 d_St_takeEvent_67 ?_
  refine j_iload_n d_St_takeEvent_70 rfl ?_
  refine j_dup2 d_St_takeEvent_71 rfl rfl ?_
  obtain ⟨t7, H⟩ := H
  obtain ⟨n9, x8, H⟩ := H
  refine j_iald (n := n9) t7 x8 d_St_takeEvent_72 ?_
  refine j_iconst (v := 1) d_St_takeEvent_73 (by decide) ?_
  refine j_iadd d_St_takeEvent_74 ?_
  obtain ⟨t10, H⟩ := H
  refine j_iast (n := n9) t10 x8 d_St_takeEvent_75 ?_
  show J E 11 m_St_takeEvent 76 [some (.ref a0), some (.int p1), some (.ref a2), none] [] (sA (sI G 260 b2 (((gI G 260 b2) + (1 : Int32)))) b5 n9 (((gA (sI G 260 b2 (((gI G 260 b2) + (1 : Int32)))) b5 n9) + (1 : Int32)))) Post
  generalize e12 : sA (sI G 260 b2 (((gI G 260 b2) + (1 : Int32)))) b5 n9 (((gA (sI G 260 b2 (((gI G 260 b2) + (1 : Int32)))) b5 n9) + (1 : Int32))) = G11
  have e12 := e12.symm
  have H := H G11 e12
  refine j_aload_n d_St_takeEvent_76 rfl ?_
  refine j_getR (f := 578) (b := b2) fe_St_26 rfl rfl (by rw [e12]; exact t1) (by rw [e12]; exact e3) d_St_takeEvent_77 ?_
  obtain ⟨b13, e14, H⟩ := H
  refine j_getR (f := 258) (b := b13) fe_St_317 rfl rfl (by rw [e12]; exact t4) (by rw [e12]; exact e14) d_St_takeEvent_80 ?_
  refine j_iload_n d_St_takeEvent_83 rfl ?_
  refine j_aload_n d_St_takeEvent_84 rfl ?_
  refine j_getR (f := 578) (b := b2) fe_St_26 rfl rfl (by rw [e12]; exact t1) (by rw [e12]; exact e3) d_St_takeEvent_85 ?_
  refine j_getR (f := 258) (b := b13) fe_St_317 rfl rfl (by rw [e12]; exact t4) (by rw [e12]; exact e14) d_St_takeEvent_88 ?_
  refine j_iload_n d_St_takeEvent_91 rfl ?_
  obtain ⟨t15, H⟩ := H
  obtain ⟨n17, x16, H⟩ := H
  refine j_iald (n := n17) (by rw [e12]; exact t15) (IX_n (by first | (rw [e12]; done) | (rw [e12]; rfl)) x16) d_St_takeEvent_92 ?_
  refine j_aload_n d_St_takeEvent_93 rfl ?_
  obtain ⟨t18, H⟩ := H
  refine j_getIv (f := 65) (v := (gI G 65 a2)) fe_St_341 rfl rfl (by rw [e12]; exact t18) (by rw [e12]; rfl) d_St_takeEvent_94 ?_
  refine j_max cm_St_320 wm_max1 wm_ini wm_max2 (Nat.le_of_ble_eq_true rfl) d_St_takeEvent_97 ?_
  obtain ⟨t19, H⟩ := H
  refine j_iast (n := n17) (by rw [e12]; exact t19) (IX_n (by first | (rw [e12]; done) | (rw [e12]; rfl)) x16) d_St_takeEvent_100 ?_
  refine j_aload_n d_St_takeEvent_101 rfl ?_
  obtain ⟨b20, e21, H⟩ := H
  refine j_getR (f := 576) (b := b20) fe_St_10 rfl rfl (by rw [e12]; exact t1) (by rw [e12]; exact e21) d_St_takeEvent_102 ?_
  obtain ⟨t22, H⟩ := H
  refine j_getIv (f := 192) (v := (gI G 192 b20)) fe_St_88 rfl rfl (by rw [e12]; exact t22) (by rw [e12]; rfl) d_St_takeEvent_105 ?_
  refine j_iconst (v := 2) d_St_takeEvent_108 (by decide) ?_
  obtain ⟨Ha, Hb⟩ := H
  refine j_icmp_ne (tgt := 134) d_St_takeEvent_109 (by decide) (fun c33 => ?_) (fun c34 => ?_)
  · have H := Ha c33
    refine j_aload_n d_St_takeEvent_134 rfl ?_
    refine j_getR (f := 578) (b := b2) fe_St_26 rfl rfl (by rw [e12]; exact t1) (by rw [e12]; exact e3) d_St_takeEvent_135 ?_
    obtain ⟨b23, e24, H⟩ := H
    refine j_getR (f := 263) (b := b23) fe_St_227 rfl rfl (by rw [e12]; exact t4) (by rw [e12]; exact e24) d_St_takeEvent_138 ?_
    refine j_aload_n d_St_takeEvent_141 rfl ?_
    refine j_aload_n d_St_takeEvent_142 rfl ?_
    refine j_getR (f := 576) (b := b20) fe_St_10 rfl rfl (by rw [e12]; exact t1) (by rw [e12]; exact e21) d_St_takeEvent_143 ?_
    refine j_aload_n d_St_takeEvent_146 rfl ?_
    obtain ⟨b25, e26, H⟩ := H
    refine j_getR (f := 581) (b := b25) fe_St_43 rfl rfl (by rw [e12]; exact t1) (by rw [e12]; exact e26) d_St_takeEvent_147 ?_
    obtain ⟨t27, H⟩ := H
    refine j_forget (L' := [some (.ref a0), none, some (.ref a2), none]) ⟨Or.inr rfl, Or.inl rfl, Or.inr rfl, Or.inl rfl, trivial⟩ ?_
    exact j_callV (d' := 10) (ci := 8) (As := [.ref a2, .ref b20, .ref b25]) (rest := []) (b := b23) cv_St_348 me_Ws_admitBySteps rfl (by decide) rfl rfl (by rw [e12]; exact t27) rfl rfl (Nat.le_of_ble_eq_true rfl) d_St_takeEvent_150 (by decide) rfl H
  · have H := Hb c34
    refine j_aload_n d_St_takeEvent_112 rfl ?_
    refine j_getR (f := 578) (b := b2) fe_St_26 rfl rfl (by rw [e12]; exact t1) (by rw [e12]; exact e3) d_St_takeEvent_113 ?_
    obtain ⟨b28, e29, H⟩ := H
    refine j_getR (f := 263) (b := b28) fe_St_227 rfl rfl (by rw [e12]; exact t4) (by rw [e12]; exact e29) d_St_takeEvent_116 ?_
    refine j_aload_n d_St_takeEvent_119 rfl ?_
    refine j_aload_n d_St_takeEvent_120 rfl ?_
    refine j_getR (f := 576) (b := b20) fe_St_10 rfl rfl (by rw [e12]; exact t1) (by rw [e12]; exact e21) d_St_takeEvent_121 ?_
    refine j_aload_n d_St_takeEvent_124 rfl ?_
    obtain ⟨b30, e31, H⟩ := H
    refine j_getR (f := 581) (b := b30) fe_St_43 rfl rfl (by rw [e12]; exact t1) (by rw [e12]; exact e31) d_St_takeEvent_125 ?_
    obtain ⟨t32, H⟩ := H
    refine j_forget (L' := [some (.ref a0), none, some (.ref a2), none]) ⟨Or.inr rfl, Or.inl rfl, Or.inr rfl, Or.inl rfl, trivial⟩ ?_
    exact j_callV (d' := 9) (ci := 8) (As := [.ref a2, .ref b20, .ref b30]) (rest := []) (b := b28) cv_St_344 me_Ws_admitByGap rfl (by decide) rfl rfl (by rw [e12]; exact t32) rfl rfl (Nat.le_of_ble_eq_true rfl) d_St_takeEvent_128 (by decide) rfl H
theorem wp_St_takeEvent_153 {E : EV} {G : GH} {Post : Res → GH → Prop} (a0 : Nat) (a2 : Nat) (s0 : Int32) (H : (¬ s0 = 0 → gT G a0 = 10 ∧ Cl E 9 m_St_lookAtWatermark [.ref a0] G (aft E 11 m_St_takeEvent 172 [none, none, some (.ref a2), some (.int s0)] [] Post)) ∧ (s0 = 0 → gT G a0 = 10 ∧ ∃ b3, gR G 578 a0 = some b3 ∧ gT G b3 = 5 ∧ Cl E 9 m_St_lookAtWatermark [.ref a0] (sI G 261 b3 (((gI G 261 b3) + (1 : Int32)))) (aft E 11 m_St_takeEvent 172 [none, none, some (.ref a2), some (.int s0)] [] Post))) : J E 11 m_St_takeEvent 153 [some (.ref a0), none, some (.ref a2), none] [.int s0] G Post := by
  refine j_istore_n (L' := [some (.ref a0), none, some (.ref a2), some (.int s0)]) d_St_takeEvent_153 (by decide) rfl ?_
  refine j_iload_n d_St_takeEvent_154 rfl ?_
  obtain ⟨Ha, Hb⟩ := H
  refine j_if_ne (tgt := 171) d_St_takeEvent_155 (by decide) (fun c6 => ?_) (fun c7 => ?_)
  · have H := Ha c6
    refine j_aload_n d_St_takeEvent_171 rfl ?_
    obtain ⟨t1, H⟩ := H
    refine j_forget (L' := [none, none, some (.ref a2), some (.int s0)]) ⟨Or.inl rfl, Or.inl rfl, Or.inr rfl, Or.inr rfl, trivial⟩ ?_
    exact j_callV (d' := 9) (ci := 9) (As := []) (rest := []) (b := a0) cv_St_158 me_St_lookAtWatermark rfl (by decide) rfl rfl t1 rfl rfl (Nat.le_of_ble_eq_true rfl) d_St_takeEvent_172 (by decide) rfl H
  · have H := Hb c7
    refine j_aload_n d_St_takeEvent_158 rfl ?_
    obtain ⟨t2, H⟩ := H
    obtain ⟨b3, e4, H⟩ := H
    refine j_getR (f := 578) (b := b3) fe_St_26 rfl rfl t2 e4 d_St_takeEvent_159 ?_
    refine j_dup d_St_takeEvent_162 rfl ?_
    obtain ⟨t5, H⟩ := H
    refine j_getI (f := 261) fe_St_266 rfl rfl t5 d_St_takeEvent_163 ?_
    refine j_iconst (v := 1) d_St_takeEvent_166 (by decide) ?_
    refine j_iadd d_St_takeEvent_167 ?_
    refine j_putI (f := 261) fw_St_266 rfl rfl t5 d_St_takeEvent_168 ?_
    refine j_aload_n d_St_takeEvent_171 rfl ?_
    refine j_forget (L' := [none, none, some (.ref a2), some (.int s0)]) ⟨Or.inl rfl, Or.inl rfl, Or.inr rfl, Or.inr rfl, trivial⟩ ?_
    exact j_callV (d' := 9) (ci := 9) (As := []) (rest := []) (b := a0) cv_St_158 me_St_lookAtWatermark rfl (by decide) rfl rfl t2 rfl rfl (Nat.le_of_ble_eq_true rfl) d_St_takeEvent_172 (by decide) rfl H
theorem wp_St_takeEvent_131 {E : EV} {G : GH} {Post : Res → GH → Prop} (a0 : Nat) (a2 : Nat) (s0 : Int32) (H : (¬ s0 = 0 → gT G a0 = 10 ∧ Cl E 9 m_St_lookAtWatermark [.ref a0] G (aft E 11 m_St_takeEvent 172 [none, none, some (.ref a2), some (.int s0)] [] Post)) ∧ (s0 = 0 → gT G a0 = 10 ∧ ∃ b3, gR G 578 a0 = some b3 ∧ gT G b3 = 5 ∧ Cl E 9 m_St_lookAtWatermark [.ref a0] (sI G 261 b3 (((gI G 261 b3) + (1 : Int32)))) (aft E 11 m_St_takeEvent 172 [none, none, some (.ref a2), some (.int s0)] [] Post))) : J E 11 m_St_takeEvent 131 [some (.ref a0), none, some (.ref a2), none] [.int s0] G Post := by
  refine j_goto (tgt := 153) d_St_takeEvent_131 (by decide) ?_
  refine j_istore_n (L' := [some (.ref a0), none, some (.ref a2), some (.int s0)]) d_St_takeEvent_153 (by decide) rfl ?_
  refine j_iload_n d_St_takeEvent_154 rfl ?_
  obtain ⟨Ha, Hb⟩ := H
  refine j_if_ne (tgt := 171) d_St_takeEvent_155 (by decide) (fun c6 => ?_) (fun c7 => ?_)
  · have H := Ha c6
    refine j_aload_n d_St_takeEvent_171 rfl ?_
    obtain ⟨t1, H⟩ := H
    refine j_forget (L' := [none, none, some (.ref a2), some (.int s0)]) ⟨Or.inl rfl, Or.inl rfl, Or.inr rfl, Or.inr rfl, trivial⟩ ?_
    exact j_callV (d' := 9) (ci := 9) (As := []) (rest := []) (b := a0) cv_St_158 me_St_lookAtWatermark rfl (by decide) rfl rfl t1 rfl rfl (Nat.le_of_ble_eq_true rfl) d_St_takeEvent_172 (by decide) rfl H
  · have H := Hb c7
    refine j_aload_n d_St_takeEvent_158 rfl ?_
    obtain ⟨t2, H⟩ := H
    obtain ⟨b3, e4, H⟩ := H
    refine j_getR (f := 578) (b := b3) fe_St_26 rfl rfl t2 e4 d_St_takeEvent_159 ?_
    refine j_dup d_St_takeEvent_162 rfl ?_
    obtain ⟨t5, H⟩ := H
    refine j_getI (f := 261) fe_St_266 rfl rfl t5 d_St_takeEvent_163 ?_
    refine j_iconst (v := 1) d_St_takeEvent_166 (by decide) ?_
    refine j_iadd d_St_takeEvent_167 ?_
    refine j_putI (f := 261) fw_St_266 rfl rfl t5 d_St_takeEvent_168 ?_
    refine j_aload_n d_St_takeEvent_171 rfl ?_
    refine j_forget (L' := [none, none, some (.ref a2), some (.int s0)]) ⟨Or.inl rfl, Or.inl rfl, Or.inr rfl, Or.inr rfl, trivial⟩ ?_
    exact j_callV (d' := 9) (ci := 9) (As := []) (rest := []) (b := a0) cv_St_158 me_St_lookAtWatermark rfl (by decide) rfl rfl t2 rfl rfl (Nat.le_of_ble_eq_true rfl) d_St_takeEvent_172 (by decide) rfl H
theorem wp_St_takeEvent_175 {E : EV} {G : GH} {Post : Res → GH → Prop} (a2 : Nat) (p3 : Int32) (H : (¬ p3 = 0 → gT G a2 = 2 ∧ ((gI G 68 a2) ≤ (gI G 65 a2) → Post (.inl (some (.int ((0 : Int32))))) G) ∧ (¬ (gI G 68 a2) ≤ (gI G 65 a2) → Post (.inl (some (.int ((1 : Int32))))) G)) ∧ (p3 = 0 → Post (.inl (some (.int ((2 : Int32))))) G)) : J E 11 m_St_takeEvent 175 [none, none, some (.ref a2), some (.int p3)] [] G Post := by
  refine j_iload_n d_St_takeEvent_175 rfl ?_
  obtain ⟨Ha, Hb⟩ := H
  refine j_if_ne (tgt := 183) d_St_takeEvent_176 (by decide) (fun c4 => ?_) (fun c5 => ?_)
  · have H := Ha c4
    refine j_aload_n d_St_takeEvent_183 rfl ?_
    obtain ⟨t1, H⟩ := H
    refine j_callV (d' := 1) (ci := 1) (As := []) (rest := []) (b := a2) cv_St_351 me_Ev_isLate rfl (by decide) rfl rfl t1 rfl rfl (Nat.le_of_ble_eq_true rfl) d_St_takeEvent_184 (by decide) rfl (j_enter (L := [some (.ref a2)]) me_Ev_isLate (cat_c rfl cat_n) (Nat.le_of_ble_eq_true rfl) rfl ?_)
    refine j_aload_n d_Ev_isLate_0 rfl ?_
    refine j_getI (f := 65) fe_Ev_18 rfl rfl t1 d_Ev_isLate_1 ?_
    refine j_aload_n d_Ev_isLate_4 rfl ?_
    refine j_getI (f := 68) fe_Ev_9 rfl rfl t1 d_Ev_isLate_5 ?_
    obtain ⟨Ha, Hb⟩ := H
    refine j_icmp_ge (tgt := 15) d_Ev_isLate_8 (by decide) (fun c2 => ?_) (fun c3 => ?_)
    · have H := Ha c2
      refine j_iconst (v := 0) d_Ev_isLate_15 (by decide) ?_
      refine j_zret rfl (by decide) d_Ev_isLate_16 ?_
      show J E 11 m_St_takeEvent 187 [none, none, some (.ref a2), some (.int p3)] [.int ((0 : Int32))] G Post
      refine j_if_eq (tgt := 194) d_St_takeEvent_187 (by decide) (fun _ => ?_) (fun c => absurd c (by decide))
      refine j_iconst (v := 0) d_St_takeEvent_194 (by decide) ?_
      exact j_iret rfl d_St_takeEvent_195 H
    · have H := Hb c3
      refine j_iconst (v := 1) d_Ev_isLate_11 (by decide) ?_
      refine j_goto (tgt := 16) d_Ev_isLate_12 (by decide) ?_
      refine j_zret rfl (by decide) d_Ev_isLate_16 ?_
      show J E 11 m_St_takeEvent 187 [none, none, some (.ref a2), some (.int p3)] [.int ((1 : Int32))] G Post
      refine j_if_eq (tgt := 194) d_St_takeEvent_187 (by decide) (fun c => absurd c (by decide)) (fun _ => ?_)
      refine j_iconst (v := 1) d_St_takeEvent_190 (by decide) ?_
      refine j_goto (tgt := 195) d_St_takeEvent_191 (by decide) ?_
      exact j_iret rfl d_St_takeEvent_195 H
  · have H := Hb c5
    refine j_iconst (v := 2) d_St_takeEvent_179 (by decide) ?_
    refine j_goto (tgt := 195) d_St_takeEvent_180 (by decide) ?_
    exact j_iret rfl d_St_takeEvent_195 H
theorem wp_St_lookAtWatermark_0 {E : EV} {G : GH} {Post : Res → GH → Prop} (a0 : Nat) (H : J E 9 m_St_lookAtWatermark 6 [some (.ref a0), some (.int ((0 : Int32))), some (.int ((-1 : Int32))), some (.int ((0 : Int32))), none] [] G Post) : J E 9 m_St_lookAtWatermark 0 [some (.ref a0), none, none, none, none] [] G Post := by
  refine j_iconst (v := 0) d_St_lookAtWatermark_0 (by decide) ?_
  refine j_istore_n (L' := [some (.ref a0), some (.int ((0 : Int32))), none, none, none]) d_St_lookAtWatermark_1 (by decide) rfl ?_
  refine j_iconst (v := -1) d_St_lookAtWatermark_2 (by decide) ?_
  refine j_istore_n (L' := [some (.ref a0), some (.int ((0 : Int32))), some (.int ((-1 : Int32))), none, none]) d_St_lookAtWatermark_3 (by decide) rfl ?_
  refine j_iconst (v := 0) d_St_lookAtWatermark_4 (by decide) ?_
  refine j_istore_n (L' := [some (.ref a0), some (.int ((0 : Int32))), some (.int ((-1 : Int32))), some (.int ((0 : Int32))), none]) d_St_lookAtWatermark_5 (by decide) rfl ?_
  exact H
theorem wp_St_lookAtWatermark_6 {E : EV} {G : GH} {Post : Res → GH → Prop} (a0 : Nat) (p1 : Int32) (p2 : Int32) (p3 : Int32) (H : ((3 : Int32) ≤ p3 → (p1 = 0 → gT G a0 = 10 ∧ ∃ b2, gR G 578 a0 = some b2 ∧ gT G b2 = 5 ∧ ∃ b5, gR G 263 b2 = some b5 ∧ ∃ b7, gR G 581 a0 = some b7 ∧ gT G b5 = 9 ∧ Cl E 8 m_Ws_emitDue [.ref b5, .int ((gI G 259 b2)), .ref b7] G (aft E 9 m_St_lookAtWatermark 94 [none, none, none, none, none] [] Post)) ∧ (¬ p1 = 0 → gT G a0 = 10 ∧ ∃ b11, gR G 578 a0 = some b11 ∧ gT G b11 = 5 ∧ ∃ b14, gR G 263 b11 = some b14 ∧ ∃ b16, gR G 581 a0 = some b16 ∧ gT G b14 = 9 ∧ Cl E 8 m_Ws_emitDue [.ref b14, .int (((if (gI G 259 b11) < p2 then p2 else (gI G 259 b11)))), .ref b16] (sI G 259 b11 ((if (gI G 259 b11) < p2 then p2 else (gI G 259 b11)))) (aft E 9 m_St_lookAtWatermark 94 [none, none, none, none, none] [] Post))) ∧ (¬ (3 : Int32) ≤ p3 → gT G a0 = 10 ∧ ∃ b22, gR G 577 a0 = some b22 ∧ (gT G b22 = 23 ∨ gT G b22 = 24) ∧ ∃ n26, IX p3 n26 (gN G b22) ∧ ∃ b27, gO G b22 n26 = some b27 ∧ gT G b27 = 7 ∧ (¬ (gI G 386 b27) = 0 → J E 9 m_St_lookAtWatermark 6 [some (.ref a0), some (.int p1), some (.int p2), some (.int ((p3 + (1 : Int32)))), none] [] G Post) ∧ ((gI G 386 b27) = 0 → ∃ b30, gR G 578 a0 = some b30 ∧ gT G b30 = 5 ∧ ∃ b33, gR G 258 b30 = some b33 ∧ (gT G b33 = 20 ∨ gT G b33 = 25) ∧ ∃ n37, IX p3 n37 (gN G b33) ∧ (p1 = 0 → J E 9 m_St_lookAtWatermark 6 [some (.ref a0), some (.int ((1 : Int32))), some (.int ((if (-1 : Int32) < ((gA G b33 n37) - (gI G 385 b27)) then ((gA G b33 n37) - (gI G 385 b27)) else (-1 : Int32)))), some (.int ((p3 + (1 : Int32)))), none] [] G Post) ∧ (¬ p1 = 0 → J E 9 m_St_lookAtWatermark 6 [some (.ref a0), some (.int ((1 : Int32))), some (.int ((if (if (-1 : Int32) < ((gA G b33 n37) - (gI G 385 b27)) then ((gA G b33 n37) - (gI G 385 b27)) else (-1 : Int32)) < p2 then (if (-1 : Int32) < ((gA G b33 n37) - (gI G 385 b27)) then ((gA G b33 n37) - (gI G 385 b27)) else (-1 : Int32)) else p2))), some (.int ((p3 + (1 : Int32)))), none] [] G Post)))) : J E 9 m_St_lookAtWatermark 6 [some (.ref a0), some (.int p1), some (.int p2), some (.int p3), none] [] G Post := by
  refine j_iload_n d_St_lookAtWatermark_6 rfl ?_
  refine j_iconst (v := 3) d_St_lookAtWatermark_7 (by decide) ?_
  obtain ⟨Ha, Hb⟩ := H
  refine j_icmp_ge (tgt := 54) d_St_lookAtWatermark_8 (by decide) (fun c42 => ?_) (fun c43 => ?_)
  · have H := Ha c42
    refine j_iload_n d_St_lookAtWatermark_54 rfl ?_
    obtain ⟨Ha, Hb⟩ := H
    refine j_if_eq (tgt := 76) d_St_lookAtWatermark_55 (by decide) (fun c19 => ?_) (fun c20 => ?_)
    · have H := Ha c19
      refine j_aload_n d_St_lookAtWatermark_76 rfl ?_
      obtain ⟨t1, H⟩ := H
      obtain ⟨b2, e3, H⟩ := H
      refine j_getR (f := 578) (b := b2) fe_St_26 rfl rfl t1 e3 d_St_lookAtWatermark_77 ?_
      obtain ⟨t4, H⟩ := H
      obtain ⟨b5, e6, H⟩ := H
      refine j_getR (f := 263) (b := b5) fe_St_227 rfl rfl t4 e6 d_St_lookAtWatermark_80 ?_
      refine j_aload_n d_St_lookAtWatermark_83 rfl ?_
      refine j_getR (f := 578) (b := b2) fe_St_26 rfl rfl t1 e3 d_St_lookAtWatermark_84 ?_
      refine j_getI (f := 259) fe_St_216 rfl rfl t4 d_St_lookAtWatermark_87 ?_
      refine j_aload_n d_St_lookAtWatermark_90 rfl ?_
      obtain ⟨b7, e8, H⟩ := H
      refine j_getR (f := 581) (b := b7) fe_St_43 rfl rfl t1 e8 d_St_lookAtWatermark_91 ?_
      obtain ⟨t9, H⟩ := H
      refine j_forget (L' := [none, none, none, none, none]) ⟨Or.inl rfl, Or.inl rfl, Or.inl rfl, Or.inl rfl, Or.inl rfl, trivial⟩ ?_
      exact j_callV (d' := 8) (ci := 8) (As := [.int ((gI G 259 b2)), .ref b7]) (rest := []) (b := b5) cv_St_357 me_Ws_emitDue rfl (by decide) rfl rfl t9 rfl rfl (Nat.le_of_ble_eq_true rfl) d_St_lookAtWatermark_94 (by decide) rfl H
    · have H := Hb c20
      refine j_aload_n d_St_lookAtWatermark_58 rfl ?_
      obtain ⟨t10, H⟩ := H
      obtain ⟨b11, e12, H⟩ := H
      refine j_getR (f := 578) (b := b11) fe_St_26 rfl rfl t10 e12 d_St_lookAtWatermark_59 ?_
      refine j_aload_n d_St_lookAtWatermark_62 rfl ?_
      refine j_getR (f := 578) (b := b11) fe_St_26 rfl rfl t10 e12 d_St_lookAtWatermark_63 ?_
      obtain ⟨t13, H⟩ := H
      refine j_getI (f := 259) fe_St_216 rfl rfl t13 d_St_lookAtWatermark_66 ?_
      refine j_iload_n d_St_lookAtWatermark_69 rfl ?_
      refine j_max cm_St_320 wm_max1 wm_ini wm_max2 (Nat.le_of_ble_eq_true rfl) d_St_lookAtWatermark_70 ?_
      refine j_putI (f := 259) fw_St_216 rfl rfl t13 d_St_lookAtWatermark_73 ?_
      refine j_aload_n d_St_lookAtWatermark_76 rfl ?_
      refine j_getR (f := 578) (b := b11) fe_St_26 rfl rfl t10 e12 d_St_lookAtWatermark_77 ?_
      obtain ⟨b14, e15, H⟩ := H
      refine j_getR (f := 263) (b := b14) fe_St_227 rfl rfl t13 e15 d_St_lookAtWatermark_80 ?_
      refine j_aload_n d_St_lookAtWatermark_83 rfl ?_
      refine j_getR (f := 578) (b := b11) fe_St_26 rfl rfl t10 e12 d_St_lookAtWatermark_84 ?_
      refine j_getIv (f := 259) (v := ((if (gI G 259 b11) < p2 then p2 else (gI G 259 b11)))) fe_St_216 rfl rfl t13 (show gI (sI G 259 b11 ((if (gI G 259 b11) < p2 then p2 else (gI G 259 b11)))) 259 b11 = _ from gI_sI_eq) d_St_lookAtWatermark_87 ?_
      refine j_aload_n d_St_lookAtWatermark_90 rfl ?_
      obtain ⟨b16, e17, H⟩ := H
      refine j_getR (f := 581) (b := b16) fe_St_43 rfl rfl t10 e17 d_St_lookAtWatermark_91 ?_
      obtain ⟨t18, H⟩ := H
      refine j_forget (L' := [none, none, none, none, none]) ⟨Or.inl rfl, Or.inl rfl, Or.inl rfl, Or.inl rfl, Or.inl rfl, trivial⟩ ?_
      exact j_callV (d' := 8) (ci := 8) (As := [.int (((if (gI G 259 b11) < p2 then p2 else (gI G 259 b11)))), .ref b16]) (rest := []) (b := b14) cv_St_357 me_Ws_emitDue rfl (by decide) rfl rfl t18 rfl rfl (Nat.le_of_ble_eq_true rfl) d_St_lookAtWatermark_94 (by decide) rfl H
  · have H := Hb c43
    refine j_aload_n d_St_lookAtWatermark_11 rfl ?_
    obtain ⟨t21, H⟩ := H
    obtain ⟨b22, e23, H⟩ := H
    refine j_getR (f := 577) (b := b22) fe_St_19 rfl rfl t21 e23 d_St_lookAtWatermark_12 ?_
    refine j_iload_n d_St_lookAtWatermark_15 rfl ?_
    obtain ⟨t24, H⟩ := H
    obtain ⟨n26, x25, H⟩ := H
    obtain ⟨b27, e28, H⟩ := H
    refine j_aaldR (n := n26) (b := b27) t24 x25 e28 d_St_lookAtWatermark_16 ?_
    obtain ⟨t29, H⟩ := H
    refine j_getI (f := 386) fe_St_155 rfl rfl t29 d_St_lookAtWatermark_17 ?_
    obtain ⟨Ha, Hb⟩ := H
    refine j_if_ne (tgt := 48) d_St_lookAtWatermark_20 (by decide) (fun c40 => ?_) (fun c41 => ?_)
    · have H := Ha c40
      refine j_iinc (v := (p3 + (1 : Int32))) (L' := [some (.ref a0), some (.int p1), some (.int p2), some (.int ((p3 + (1 : Int32)))), none]) d_St_lookAtWatermark_48 rfl (by rw [show Int32.ofInt (1) = (1 : Int32) by decide]) (by decide) rfl ?_
      refine j_goto (tgt := 6) d_St_lookAtWatermark_51 (by decide) ?_
      exact H
    · have H := Hb c41
      refine j_aload_n d_St_lookAtWatermark_23 rfl ?_
      refine j_iload_n d_St_lookAtWatermark_24 rfl ?_
      refine j_callV (d' := 1) (ci := 9) (As := [.int p3]) (rest := []) (b := a0) cv_St_219 me_St_markOf rfl (by decide) rfl rfl t21 rfl rfl (Nat.le_of_ble_eq_true rfl) d_St_lookAtWatermark_25 (by decide) rfl (j_enter (L := [some (.ref a0), some (.int p3)]) me_St_markOf (cat_c rfl (cat_c rfl cat_n)) (Nat.le_of_ble_eq_true rfl) rfl ?_)
      refine j_iconst (v := -1) d_St_markOf_0 (by decide) ?_
      refine j_aload_n d_St_markOf_1 rfl ?_
      obtain ⟨b30, e31, H⟩ := H
      refine j_getR (f := 578) (b := b30) fe_St_26 rfl rfl t21 e31 d_St_markOf_2 ?_
      obtain ⟨t32, H⟩ := H
      obtain ⟨b33, e34, H⟩ := H
      refine j_getR (f := 258) (b := b33) fe_St_317 rfl rfl t32 e34 d_St_markOf_5 ?_
      refine j_iload_n d_St_markOf_8 rfl ?_
      obtain ⟨t35, H⟩ := H
      obtain ⟨n37, x36, H⟩ := H
      refine j_iald (n := n37) t35 x36 d_St_markOf_9 ?_
      refine j_aload_n d_St_markOf_10 rfl ?_
      refine j_getR (f := 577) (b := b22) fe_St_19 rfl rfl t21 e23 d_St_markOf_11 ?_
      refine j_iload_n d_St_markOf_14 rfl ?_
      refine j_aaldR (n := n26) (b := b27) t24 x25 e28 d_St_markOf_15 ?_
      refine j_getI (f := 385) fe_St_112 rfl rfl t29 d_St_markOf_16 ?_
      refine j_isub d_St_markOf_19 ?_
      refine j_max cm_St_320 wm_max1 wm_ini wm_max2 (Nat.le_of_ble_eq_true rfl) d_St_markOf_20 ?_
      refine j_iret rfl d_St_markOf_23 ?_
      show J E 9 m_St_lookAtWatermark 28 [some (.ref a0), some (.int p1), some (.int p2), some (.int p3), none] [.int ((if (-1 : Int32) < ((gA G b33 n37) - (gI G 385 b27)) then ((gA G b33 n37) - (gI G 385 b27)) else (-1 : Int32)))] G Post
      refine j_istore (L' := [some (.ref a0), some (.int p1), some (.int p2), some (.int p3), some (.int ((if (-1 : Int32) < ((gA G b33 n37) - (gI G 385 b27)) then ((gA G b33 n37) - (gI G 385 b27)) else (-1 : Int32))))]) d_St_lookAtWatermark_28 (by decide) rfl ?_
      refine j_iload_n d_St_lookAtWatermark_30 rfl ?_
      obtain ⟨Ha, Hb⟩ := H
      refine j_if_eq (tgt := 43) d_St_lookAtWatermark_31 (by decide) (fun c38 => ?_) (fun c39 => ?_)
      · have H := Ha c38
        refine j_iload d_St_lookAtWatermark_43 rfl ?_
        refine j_istore_n (L' := [some (.ref a0), some (.int p1), some (.int ((if (-1 : Int32) < ((gA G b33 n37) - (gI G 385 b27)) then ((gA G b33 n37) - (gI G 385 b27)) else (-1 : Int32)))), some (.int p3), some (.int ((if (-1 : Int32) < ((gA G b33 n37) - (gI G 385 b27)) then ((gA G b33 n37) - (gI G 385 b27)) else (-1 : Int32))))]) d_St_lookAtWatermark_45 (by decide) rfl ?_
        refine j_iconst (v := 1) d_St_lookAtWatermark_46 (by decide) ?_
        refine j_istore_n (L' := [some (.ref a0), some (.int ((1 : Int32))), some (.int ((if (-1 : Int32) < ((gA G b33 n37) - (gI G 385 b27)) then ((gA G b33 n37) - (gI G 385 b27)) else (-1 : Int32)))), some (.int p3), some (.int ((if (-1 : Int32) < ((gA G b33 n37) - (gI G 385 b27)) then ((gA G b33 n37) - (gI G 385 b27)) else (-1 : Int32))))]) d_St_lookAtWatermark_47 (by decide) rfl ?_
        refine j_iinc (v := (p3 + (1 : Int32))) (L' := [some (.ref a0), some (.int ((1 : Int32))), some (.int ((if (-1 : Int32) < ((gA G b33 n37) - (gI G 385 b27)) then ((gA G b33 n37) - (gI G 385 b27)) else (-1 : Int32)))), some (.int ((p3 + (1 : Int32)))), some (.int ((if (-1 : Int32) < ((gA G b33 n37) - (gI G 385 b27)) then ((gA G b33 n37) - (gI G 385 b27)) else (-1 : Int32))))]) d_St_lookAtWatermark_48 rfl (by rw [show Int32.ofInt (1) = (1 : Int32) by decide]) (by decide) rfl ?_
        refine j_goto (tgt := 6) d_St_lookAtWatermark_51 (by decide) ?_
        refine j_forget (L' := [some (.ref a0), some (.int ((1 : Int32))), some (.int ((if (-1 : Int32) < ((gA G b33 n37) - (gI G 385 b27)) then ((gA G b33 n37) - (gI G 385 b27)) else (-1 : Int32)))), some (.int ((p3 + (1 : Int32)))), none]) ⟨Or.inr rfl, Or.inr rfl, Or.inr rfl, Or.inr rfl, Or.inl rfl, trivial⟩ ?_
        exact H
      · have H := Hb c39
        refine j_iload_n d_St_lookAtWatermark_34 rfl ?_
        refine j_iload d_St_lookAtWatermark_35 rfl ?_
        refine j_min cm_St_354 wm_min1 wm_ini wm_min2 (Nat.le_of_ble_eq_true rfl) d_St_lookAtWatermark_37 ?_
        refine j_goto (tgt := 45) d_St_lookAtWatermark_40 (by decide) ?_
        refine j_istore_n (L' := [some (.ref a0), some (.int p1), some (.int ((if (if (-1 : Int32) < ((gA G b33 n37) - (gI G 385 b27)) then ((gA G b33 n37) - (gI G 385 b27)) else (-1 : Int32)) < p2 then (if (-1 : Int32) < ((gA G b33 n37) - (gI G 385 b27)) then ((gA G b33 n37) - (gI G 385 b27)) else (-1 : Int32)) else p2))), some (.int p3), some (.int ((if (-1 : Int32) < ((gA G b33 n37) - (gI G 385 b27)) then ((gA G b33 n37) - (gI G 385 b27)) else (-1 : Int32))))]) d_St_lookAtWatermark_45 (by decide) rfl ?_
        refine j_iconst (v := 1) d_St_lookAtWatermark_46 (by decide) ?_
        refine j_istore_n (L' := [some (.ref a0), some (.int ((1 : Int32))), some (.int ((if (if (-1 : Int32) < ((gA G b33 n37) - (gI G 385 b27)) then ((gA G b33 n37) - (gI G 385 b27)) else (-1 : Int32)) < p2 then (if (-1 : Int32) < ((gA G b33 n37) - (gI G 385 b27)) then ((gA G b33 n37) - (gI G 385 b27)) else (-1 : Int32)) else p2))), some (.int p3), some (.int ((if (-1 : Int32) < ((gA G b33 n37) - (gI G 385 b27)) then ((gA G b33 n37) - (gI G 385 b27)) else (-1 : Int32))))]) d_St_lookAtWatermark_47 (by decide) rfl ?_
        refine j_iinc (v := (p3 + (1 : Int32))) (L' := [some (.ref a0), some (.int ((1 : Int32))), some (.int ((if (if (-1 : Int32) < ((gA G b33 n37) - (gI G 385 b27)) then ((gA G b33 n37) - (gI G 385 b27)) else (-1 : Int32)) < p2 then (if (-1 : Int32) < ((gA G b33 n37) - (gI G 385 b27)) then ((gA G b33 n37) - (gI G 385 b27)) else (-1 : Int32)) else p2))), some (.int ((p3 + (1 : Int32)))), some (.int ((if (-1 : Int32) < ((gA G b33 n37) - (gI G 385 b27)) then ((gA G b33 n37) - (gI G 385 b27)) else (-1 : Int32))))]) d_St_lookAtWatermark_48 rfl (by rw [show Int32.ofInt (1) = (1 : Int32) by decide]) (by decide) rfl ?_
        refine j_goto (tgt := 6) d_St_lookAtWatermark_51 (by decide) ?_
        refine j_forget (L' := [some (.ref a0), some (.int ((1 : Int32))), some (.int ((if (if (-1 : Int32) < ((gA G b33 n37) - (gI G 385 b27)) then ((gA G b33 n37) - (gI G 385 b27)) else (-1 : Int32)) < p2 then (if (-1 : Int32) < ((gA G b33 n37) - (gI G 385 b27)) then ((gA G b33 n37) - (gI G 385 b27)) else (-1 : Int32)) else p2))), some (.int ((p3 + (1 : Int32)))), none]) ⟨Or.inr rfl, Or.inr rfl, Or.inr rfl, Or.inr rfl, Or.inl rfl, trivial⟩ ?_
        exact H
theorem wp_St_lookAtWatermark_97 {E : EV} {G : GH} {Post : Res → GH → Prop}  (H : Post (.inl none) G) : J E 9 m_St_lookAtWatermark 97 [none, none, none, none, none] [] G Post := by
  exact j_vret rfl d_St_lookAtWatermark_97 H
theorem wp_St_takeSnapshot_0 {E : EV} {G : GH} {Post : Res → GH → Prop} (a0 : Nat) (H : gT G a0 = 10 ∧ ∃ b2, gR G 579 a0 = some b2 ∧ ∃ b4, gR G 578 a0 = some b4 ∧ gT G b2 = 5 ∧ Cl E 8 m_Pr_copyFrom [.ref b2, .ref b4] G (aft E 9 m_St_takeSnapshot 8 [some (.ref a0), none] [] Post)) : J E 9 m_St_takeSnapshot 0 [some (.ref a0), none] [] G Post := by
  refine j_aload_n d_St_takeSnapshot_0 rfl ?_
  obtain ⟨t1, H⟩ := H
  obtain ⟨b2, e3, H⟩ := H
  refine j_getR (f := 579) (b := b2) fe_St_30 rfl rfl t1 e3 d_St_takeSnapshot_1 ?_
  refine j_aload_n d_St_takeSnapshot_4 rfl ?_
  obtain ⟨b4, e5, H⟩ := H
  refine j_getR (f := 578) (b := b4) fe_St_26 rfl rfl t1 e5 d_St_takeSnapshot_5 ?_
  obtain ⟨t6, H⟩ := H
  exact j_callV (d' := 8) (ci := 4) (As := [.ref b4]) (rest := []) (b := b2) cv_St_361 me_Pr_copyFrom rfl (by decide) rfl rfl t6 rfl rfl (Nat.le_of_ble_eq_true rfl) d_St_takeSnapshot_8 (by decide) rfl H
theorem wp_St_takeSnapshot_11 {E : EV} {G : GH} {Post : Res → GH → Prop} (a0 : Nat) (H : J E 9 m_St_takeSnapshot 13 [some (.ref a0), some (.int ((0 : Int32)))] [] G Post) : J E 9 m_St_takeSnapshot 11 [some (.ref a0), none] [] G Post := by
  refine j_iconst (v := 0) d_St_takeSnapshot_11 (by decide) ?_
  refine j_istore_n (L' := [some (.ref a0), some (.int ((0 : Int32)))]) d_St_takeSnapshot_12 (by decide) rfl ?_
  exact H
theorem wp_St_takeSnapshot_13 {E : EV} {G : GH} {Post : Res → GH → Prop} (a0 : Nat) (p1 : Int32) (H : ((3 : Int32) ≤ p1 → gT G a0 = 10 ∧ ∃ b2, gR G 581 a0 = some b2 ∧ gT G b2 = 6 ∧ Post (.inl none) (sI (sI (sI G 322 b2 ((gI G 323 b2))) 584 a0 (((gI G 584 a0) + (1 : Int32)))) 585 a0 ((1 : Int32)))) ∧ (¬ (3 : Int32) ≤ p1 → gT G a0 = 10 ∧ ∃ b6, gR G 579 a0 = some b6 ∧ gT G b6 = 5 ∧ ∃ b9, gR G 256 b6 = some b9 ∧ ∃ b11, gR G 582 a0 = some b11 ∧ gT G b11 = 1 ∧ ∃ b14, gR G 0 b11 = some b14 ∧ (gT G b14 = 20 ∨ gT G b14 = 25) ∧ ∃ n18, IX p1 n18 (gN G b14) ∧ gT G b9 = 20 ∧ ∃ n21, IX p1 n21 (gN G b9) ∧ J E 9 m_St_takeSnapshot 13 [some (.ref a0), some (.int ((p1 + (1 : Int32))))] [] (sA G b9 n21 ((gA G b14 n18))) Post)) : J E 9 m_St_takeSnapshot 13 [some (.ref a0), some (.int p1)] [] G Post := by
  refine j_iload_n d_St_takeSnapshot_13 rfl ?_
  refine j_iconst (v := 3) d_St_takeSnapshot_14 (by decide) ?_
  obtain ⟨Ha, Hb⟩ := H
  refine j_icmp_ge (tgt := 42) d_St_takeSnapshot_15 (by decide) (fun c22 => ?_) (fun c23 => ?_)
  · have H := Ha c22
    refine j_aload_n d_St_takeSnapshot_42 rfl ?_
    obtain ⟨t1, H⟩ := H
    obtain ⟨b2, e3, H⟩ := H
    refine j_getR (f := 581) (b := b2) fe_St_43 rfl rfl t1 e3 d_St_takeSnapshot_43 ?_
    refine j_aload_n d_St_takeSnapshot_46 rfl ?_
    refine j_getR (f := 581) (b := b2) fe_St_43 rfl rfl t1 e3 d_St_takeSnapshot_47 ?_
    obtain ⟨t4, H⟩ := H
    refine j_getI (f := 323) fe_St_275 rfl rfl t4 d_St_takeSnapshot_50 ?_
    refine j_putI (f := 322) fw_St_368 rfl rfl t4 d_St_takeSnapshot_53 ?_
    refine j_aload_n d_St_takeSnapshot_56 rfl ?_
    refine j_dup d_St_takeSnapshot_57 rfl ?_
    refine j_getI (f := 584) fe_St_58 rfl rfl t1 d_St_takeSnapshot_58 ?_
    refine j_iconst (v := 1) d_St_takeSnapshot_61 (by decide) ?_
    refine j_iadd d_St_takeSnapshot_62 ?_
    refine j_putI (f := 584) fw_St_58 rfl rfl t1 d_St_takeSnapshot_63 ?_
    refine j_aload_n d_St_takeSnapshot_66 rfl ?_
    refine j_iconst (v := 1) d_St_takeSnapshot_67 (by decide) ?_
    refine j_putZ (f := 585) fw_St_62 rfl rfl t1 (by decide) d_St_takeSnapshot_68 ?_
    exact j_vret rfl d_St_takeSnapshot_71 H
  · have H := Hb c23
    refine j_aload_n d_St_takeSnapshot_18 rfl ?_
    obtain ⟨t5, H⟩ := H
    obtain ⟨b6, e7, H⟩ := H
    refine j_getR (f := 579) (b := b6) fe_St_30 rfl rfl t5 e7 d_St_takeSnapshot_19 ?_
    obtain ⟨t8, H⟩ := H
    obtain ⟨b9, e10, H⟩ := H
    refine j_getR (f := 256) (b := b9) fe_St_143 rfl rfl t8 e10 d_St_takeSnapshot_22 ?_
    refine j_iload_n d_St_takeSnapshot_25 rfl ?_
    refine j_aload_n d_St_takeSnapshot_26 rfl ?_
    obtain ⟨b11, e12, H⟩ := H
    refine j_getR (f := 582) (b := b11) fe_St_50 rfl rfl t5 e12 d_St_takeSnapshot_27 ?_
    obtain ⟨t13, H⟩ := H
    obtain ⟨b14, e15, H⟩ := H
    refine j_getR (f := 0) (b := b14) fe_St_365 rfl rfl t13 e15 d_St_takeSnapshot_30 ?_
    refine j_iload_n d_St_takeSnapshot_33 rfl ?_
    obtain ⟨t16, H⟩ := H
    obtain ⟨n18, x17, H⟩ := H
    refine j_iald (n := n18) t16 x17 d_St_takeSnapshot_34 ?_
    obtain ⟨t19, H⟩ := H
    obtain ⟨n21, x20, H⟩ := H
    refine j_iast (n := n21) t19 x20 d_St_takeSnapshot_35 ?_
    refine j_iinc (v := (p1 + (1 : Int32))) (L' := [some (.ref a0), some (.int ((p1 + (1 : Int32))))]) d_St_takeSnapshot_36 rfl (by rw [show Int32.ofInt (1) = (1 : Int32) by decide]) (by decide) rfl ?_
    refine j_goto (tgt := 13) d_St_takeSnapshot_39 (by decide) ?_
    exact H
theorem wp_St_fallBack_0 {E : EV} {G : GH} {Post : Res → GH → Prop} (a0 : Nat) (H : gT G a0 = 10 ∧ ∃ b2, gR G 581 a0 = some b2 ∧ gT G b2 = 6 ∧ ∃ b5, gR G 580 a0 = some b5 ∧ ∃ b7, gR G 579 a0 = some b7 ∧ gT G b7 = 5 ∧ gT G b5 = 3 ∧ ∀ G11, G11 = sI (sI (sI (sI G 321 b2 ((gI G 322 b2))) 129 b5 ((gI G 260 b7))) 130 b5 ((gI G 259 b7))) 585 a0 ((0 : Int32)) → ∃ b13, gR G 578 a0 = some b13 ∧ gT G b13 = 5 ∧ Cl E 8 m_Pr_copyFrom [.ref b13, .ref b7] (sI G11 323 b2 ((gI G 322 b2))) (aft E 10 m_St_fallBack 26 [some (.ref a0)] [] Post)) : J E 10 m_St_fallBack 0 [some (.ref a0)] [] G Post := by
  refine j_aload_n d_St_fallBack_0 rfl ?_
  obtain ⟨t1, H⟩ := H
  refine j_callV (d' := 1) (ci := 9) (As := []) (rest := []) (b := a0) cv_St_199 me_St_commitSnapshot rfl (by decide) rfl rfl t1 rfl rfl (Nat.le_of_ble_eq_true rfl) d_St_fallBack_1 (by decide) rfl (j_enter (L := [some (.ref a0)]) me_St_commitSnapshot (cat_c rfl cat_n) (Nat.le_of_ble_eq_true rfl) rfl ?_)
  refine j_aload_n d_St_commitSnapshot_0 rfl ?_
  obtain ⟨b2, e3, H⟩ := H
  refine j_getR (f := 581) (b := b2) fe_St_43 rfl rfl t1 e3 d_St_commitSnapshot_1 ?_
  refine j_aload_n d_St_commitSnapshot_4 rfl ?_
  refine j_getR (f := 581) (b := b2) fe_St_43 rfl rfl t1 e3 d_St_commitSnapshot_5 ?_
  obtain ⟨t4, H⟩ := H
  refine j_getI (f := 322) fe_St_368 rfl rfl t4 d_St_commitSnapshot_8 ?_
  refine j_putI (f := 321) fw_St_202 rfl rfl t4 d_St_commitSnapshot_11 ?_
  refine j_aload_n d_St_commitSnapshot_14 rfl ?_
  obtain ⟨b5, e6, H⟩ := H
  refine j_getR (f := 580) (b := b5) fe_St_36 rfl rfl t1 e6 d_St_commitSnapshot_15 ?_
  refine j_aload_n d_St_commitSnapshot_18 rfl ?_
  obtain ⟨b7, e8, H⟩ := H
  refine j_getR (f := 579) (b := b7) fe_St_30 rfl rfl t1 e8 d_St_commitSnapshot_19 ?_
  obtain ⟨t9, H⟩ := H
  refine j_getI (f := 260) fe_St_338 rfl rfl t9 d_St_commitSnapshot_22 ?_
  obtain ⟨t10, H⟩ := H
  refine j_putI (f := 129) fw_St_371 rfl rfl t10 d_St_commitSnapshot_25 ?_
  refine j_aload_n d_St_commitSnapshot_28 rfl ?_
  refine j_getR (f := 580) (b := b5) fe_St_36 rfl rfl t1 e6 d_St_commitSnapshot_29 ?_
  refine j_aload_n d_St_commitSnapshot_32 rfl ?_
  refine j_getR (f := 579) (b := b7) fe_St_30 rfl rfl t1 e8 d_St_commitSnapshot_33 ?_
  refine j_getI (f := 259) fe_St_216 rfl rfl t9 d_St_commitSnapshot_36 ?_
  refine j_putI (f := 130) fw_St_299 rfl rfl t10 d_St_commitSnapshot_39 ?_
  refine j_aload_n d_St_commitSnapshot_42 rfl ?_
  refine j_iconst (v := 0) d_St_commitSnapshot_43 (by decide) ?_
  refine j_putZ (f := 585) fw_St_62 rfl rfl t1 (by decide) d_St_commitSnapshot_44 ?_
  show J E 1 m_St_commitSnapshot 47 [some (.ref a0)] [] (sI (sI (sI (sI G 321 b2 ((gI G 322 b2))) 129 b5 ((gI G 260 b7))) 130 b5 ((gI G 259 b7))) 585 a0 ((0 : Int32))) (aft E 10 m_St_fallBack 1 [some (.ref a0)] [] Post)
  generalize e12 : sI (sI (sI (sI G 321 b2 ((gI G 322 b2))) 129 b5 ((gI G 260 b7))) 130 b5 ((gI G 259 b7))) 585 a0 ((0 : Int32)) = G11
  have e12 := e12.symm
  have H := H G11 e12
  refine j_vret rfl d_St_commitSnapshot_47 ?_
  show J E 10 m_St_fallBack 4 [some (.ref a0)] [] G11 Post
  refine j_aload_n d_St_fallBack_4 rfl ?_
  refine j_getR (f := 581) (b := b2) fe_St_43 rfl rfl (by rw [e12]; exact t1) (by rw [e12]; exact e3) d_St_fallBack_5 ?_
  refine j_aload_n d_St_fallBack_8 rfl ?_
  refine j_getR (f := 581) (b := b2) fe_St_43 rfl rfl (by rw [e12]; exact t1) (by rw [e12]; exact e3) d_St_fallBack_9 ?_
  refine j_getIv (f := 322) (v := (gI G 322 b2)) fe_St_368 rfl rfl (by rw [e12]; exact t4) (by rw [e12]; rfl) d_St_fallBack_12 ?_
  refine j_putI (f := 323) fw_St_275 rfl rfl (by rw [e12]; exact t4) d_St_fallBack_15 ?_
  refine j_aload_n d_St_fallBack_18 rfl ?_
  obtain ⟨b13, e14, H⟩ := H
  refine j_getR (f := 578) (b := b13) fe_St_26 rfl rfl (by rw [e12]; exact t1) (by rw [e12]; exact e14) d_St_fallBack_19 ?_
  refine j_aload_n d_St_fallBack_22 rfl ?_
  refine j_getR (f := 579) (b := b7) fe_St_30 rfl rfl (by rw [e12]; exact t1) (by rw [e12]; exact e8) d_St_fallBack_23 ?_
  obtain ⟨t15, H⟩ := H
  exact j_callV (d' := 8) (ci := 4) (As := [.ref b7]) (rest := []) (b := b13) cv_St_361 me_Pr_copyFrom rfl (by decide) rfl rfl (by rw [e12]; exact t15) rfl rfl (Nat.le_of_ble_eq_true rfl) d_St_fallBack_26 (by decide) rfl H
theorem wp_St_fallBack_29 {E : EV} {G : GH} {Post : Res → GH → Prop} (a0 : Nat) (H : gT G a0 = 10 ∧ ∃ b2, gR G 580 a0 = some b2 ∧ ∃ b4, gR G 578 a0 = some b4 ∧ gT G b4 = 5 ∧ gT G b2 = 3 ∧ Cl E 4 m_Hi_cutTo [.ref b2, .int ((gI G 260 b4))] G (aft E 10 m_St_fallBack 40 [some (.ref a0)] [] Post)) : J E 10 m_St_fallBack 29 [some (.ref a0)] [] G Post := by
  refine j_aload_n d_St_fallBack_29 rfl ?_
  obtain ⟨t1, H⟩ := H
  obtain ⟨b2, e3, H⟩ := H
  refine j_getR (f := 580) (b := b2) fe_St_36 rfl rfl t1 e3 d_St_fallBack_30 ?_
  refine j_aload_n d_St_fallBack_33 rfl ?_
  obtain ⟨b4, e5, H⟩ := H
  refine j_getR (f := 578) (b := b4) fe_St_26 rfl rfl t1 e5 d_St_fallBack_34 ?_
  obtain ⟨t6, H⟩ := H
  refine j_getI (f := 260) fe_St_338 rfl rfl t6 d_St_fallBack_37 ?_
  obtain ⟨t7, H⟩ := H
  exact j_callV (d' := 4) (ci := 2) (As := [.int ((gI G 260 b4))]) (rest := []) (b := b2) cv_St_374 me_Hi_cutTo rfl (by decide) rfl rfl t7 rfl rfl (Nat.le_of_ble_eq_true rfl) d_St_fallBack_40 (by decide) rfl H
theorem wp_St_fallBack_43 {E : EV} {G : GH} {Post : Res → GH → Prop} (a0 : Nat) (H : gT G a0 = 10 ∧ ∃ b2, gR G 582 a0 = some b2 ∧ gT G b2 = 1 ∧ Cl E 9 m_St_lookAtWatermark [.ref a0] (sI G 2 b2 ((0 : Int32))) (aft E 10 m_St_fallBack 52 [none] [] Post)) : J E 10 m_St_fallBack 43 [some (.ref a0)] [] G Post := by
  refine j_aload_n d_St_fallBack_43 rfl ?_
  obtain ⟨t1, H⟩ := H
  obtain ⟨b2, e3, H⟩ := H
  refine j_getR (f := 582) (b := b2) fe_St_50 rfl rfl t1 e3 d_St_fallBack_44 ?_
  refine j_iconst (v := 0) d_St_fallBack_47 (by decide) ?_
  obtain ⟨t4, H⟩ := H
  refine j_putZ (f := 2) fw_St_185 rfl rfl t4 (by decide) d_St_fallBack_48 ?_
  refine j_aload_n d_St_fallBack_51 rfl ?_
  refine j_forget (L' := [none]) ⟨Or.inl rfl, trivial⟩ ?_
  exact j_callV (d' := 9) (ci := 9) (As := []) (rest := []) (b := a0) cv_St_158 me_St_lookAtWatermark rfl (by decide) rfl rfl t1 rfl rfl (Nat.le_of_ble_eq_true rfl) d_St_fallBack_52 (by decide) rfl H
theorem wp_St_fallBack_55 {E : EV} {G : GH} {Post : Res → GH → Prop}  (H : Post (.inl none) G) : J E 10 m_St_fallBack 55 [none] [] G Post := by
  exact j_vret rfl d_St_fallBack_55 H
