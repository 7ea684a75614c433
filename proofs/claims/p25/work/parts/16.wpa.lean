/-! walks; printed by wip/gen/wps.py -/
theorem wp_Ba_put_0 {E : EV} {G : GH} {Post : Res → GH → Prop} (a0 : Nat) (a1 : Nat) (p2 : Int32) (H : J E 1 m_Ba_put 2 [some (.ref a0), some (.ref a1), some (.int p2), some (.int ((0 : Int32)))] [] G Post) : J E 1 m_Ba_put 0 [some (.ref a0), some (.ref a1), some (.int p2), none] [] G Post := by
  refine j_iconst (v := 0) d_Ba_put_0 (by decide) ?_
  refine j_istore_n (L' := [some (.ref a0), some (.ref a1), some (.int p2), some (.int ((0 : Int32)))]) d_Ba_put_1 (by decide) rfl ?_
  exact H
theorem wp_Ba_put_2 {E : EV} {G : GH} {Post : Res → GH → Prop} (a0 : Nat) (a1 : Nat) (p2 : Int32) (p3 : Int32) (H : ((3 : Int32) ≤ p3 → gT G a0 = 1 ∧ (p2 = 0 ∨ p2 = 1) ∧ Post (.inl none) (sI G 2 a0 p2)) ∧ (¬ (3 : Int32) ≤ p3 → (20 ≤ gT G a1 ∧ gT G a1 ≤ 26) ∧ ((nI (gN G a1)) ≤ p3 → gT G a0 = 1 ∧ (p2 = 0 ∨ p2 = 1) ∧ Post (.inl none) (sI G 2 a0 p2)) ∧ (¬ (nI (gN G a1)) ≤ p3 → gT G a0 = 1 ∧ ∃ b7, gR G 0 a0 = some b7 ∧ (gT G a1 = 20 ∨ gT G a1 = 25) ∧ ∃ n11, IX p3 n11 (gN G a1) ∧ gT G b7 = 20 ∧ ∃ n14, IX p3 n14 (gN G b7) ∧ ∃ b15, gR G 1 a0 = some b15 ∧ gT G b15 = 21 ∧ ∃ n19, IX p3 n19 (gN G b15) ∧ J E 1 m_Ba_put 2 [some (.ref a0), some (.ref a1), some (.int p2), some (.int ((p3 + (1 : Int32))))] [] (sA (sA G b7 n14 ((gA G a1 n11))) b15 n19 ((0 : Int32))) Post))) : J E 1 m_Ba_put 2 [some (.ref a0), some (.ref a1), some (.int p2), some (.int p3)] [] G Post := by
  refine j_iload_n d_Ba_put_2 rfl ?_
  refine j_iconst (v := 3) d_Ba_put_3 (by decide) ?_
  obtain ⟨Ha, Hb⟩ := H
  refine j_icmp_ge (tgt := 35) d_Ba_put_4 (by decide) (fun c22 => ?_) (fun c23 => ?_)
  · have H := Ha c22
    refine j_aload_n d_Ba_put_35 rfl ?_
    refine j_iload_n d_Ba_put_36 rfl ?_
    obtain ⟨t1, H⟩ := H
    obtain ⟨z2, H⟩ := H
    refine j_putZ (f := 2) fw_Ba_19 rfl rfl t1 z2 d_Ba_put_37 ?_
    exact j_vret rfl d_Ba_put_40 H
  · have H := Hb c23
    refine j_iload_n d_Ba_put_7 rfl ?_
    refine j_aload_n d_Ba_put_8 rfl ?_
    obtain ⟨t3, H⟩ := H
    refine j_alen t3 d_Ba_put_9 ?_
    obtain ⟨Ha, Hb⟩ := H
    refine j_icmp_ge (tgt := 35) d_Ba_put_10 (by decide) (fun c20 => ?_) (fun c21 => ?_)
    · have H := Ha c20
      refine j_aload_n d_Ba_put_35 rfl ?_
      refine j_iload_n d_Ba_put_36 rfl ?_
      obtain ⟨t4, H⟩ := H
      obtain ⟨z5, H⟩ := H
      refine j_putZ (f := 2) fw_Ba_19 rfl rfl t4 z5 d_Ba_put_37 ?_
      exact j_vret rfl d_Ba_put_40 H
    · have H := Hb c21
      refine j_aload_n d_Ba_put_13 rfl ?_
      obtain ⟨t6, H⟩ := H
      obtain ⟨b7, e8, H⟩ := H
      refine j_getR (f := 0) (b := b7) fe_Ba_9 rfl rfl t6 e8 d_Ba_put_14 ?_
      refine j_iload_n d_Ba_put_17 rfl ?_
      refine j_aload_n d_Ba_put_18 rfl ?_
      refine j_iload_n d_Ba_put_19 rfl ?_
      obtain ⟨t9, H⟩ := H
      obtain ⟨n11, x10, H⟩ := H
      refine j_iald (n := n11) t9 x10 d_Ba_put_20 ?_
      obtain ⟨t12, H⟩ := H
      obtain ⟨n14, x13, H⟩ := H
      refine j_iast (n := n14) t12 x13 d_Ba_put_21 ?_
      refine j_aload_n d_Ba_put_22 rfl ?_
      obtain ⟨b15, e16, H⟩ := H
      refine j_getR (f := 1) (b := b15) fe_Ba_15 rfl rfl t6 e16 d_Ba_put_23 ?_
      refine j_iload_n d_Ba_put_26 rfl ?_
      refine j_iconst (v := 0) d_Ba_put_27 (by decide) ?_
      obtain ⟨t17, H⟩ := H
      obtain ⟨n19, x18, H⟩ := H
      refine j_zast (n := n19) t17 x18 (by decide) d_Ba_put_28 ?_
      refine j_iinc (v := (p3 + (1 : Int32))) (L' := [some (.ref a0), some (.ref a1), some (.int p2), some (.int ((p3 + (1 : Int32))))]) d_Ba_put_29 rfl (by rw [show Int32.ofInt (1) = (1 : Int32) by decide]) (by decide) rfl ?_
      refine j_goto (tgt := 2) d_Ba_put_32 (by decide) ?_
      exact H
theorem wp_Ba_isTakenOfAll_0 {E : EV} {G : GH} {Post : Res → GH → Prop} (a0 : Nat) (H : J E 1 m_Ba_isTakenOfAll 2 [some (.ref a0), some (.int ((0 : Int32)))] [] G Post) : J E 1 m_Ba_isTakenOfAll 0 [some (.ref a0), none] [] G Post := by
  refine j_iconst (v := 0) d_Ba_isTakenOfAll_0 (by decide) ?_
  refine j_istore_n (L' := [some (.ref a0), some (.int ((0 : Int32)))]) d_Ba_isTakenOfAll_1 (by decide) rfl ?_
  exact H
theorem wp_Ba_isTakenOfAll_2 {E : EV} {G : GH} {Post : Res → GH → Prop} (a0 : Nat) (p1 : Int32) (H : ((3 : Int32) ≤ p1 → Post (.inl (some (.int ((1 : Int32))))) G) ∧ (¬ (3 : Int32) ≤ p1 → gT G a0 = 1 ∧ ∃ b2, gR G 1 a0 = some b2 ∧ gT G b2 = 21 ∧ ∃ n6, IX p1 n6 (gN G b2) ∧ (¬ (gA G b2 n6) = 0 → J E 1 m_Ba_isTakenOfAll 2 [some (.ref a0), some (.int ((p1 + (1 : Int32))))] [] G Post) ∧ ((gA G b2 n6) = 0 → Post (.inl (some (.int ((0 : Int32))))) G))) : J E 1 m_Ba_isTakenOfAll 2 [some (.ref a0), some (.int p1)] [] G Post := by
  refine j_iload_n d_Ba_isTakenOfAll_2 rfl ?_
  refine j_iconst (v := 3) d_Ba_isTakenOfAll_3 (by decide) ?_
  obtain ⟨Ha, Hb⟩ := H
  refine j_icmp_ge (tgt := 24) d_Ba_isTakenOfAll_4 (by decide) (fun c9 => ?_) (fun c10 => ?_)
  · have H := Ha c9
    refine j_iconst (v := 1) d_Ba_isTakenOfAll_24 (by decide) ?_
    exact j_zret rfl (by decide) d_Ba_isTakenOfAll_25 H
  · have H := Hb c10
    refine j_aload_n d_Ba_isTakenOfAll_7 rfl ?_
    obtain ⟨t1, H⟩ := H
    obtain ⟨b2, e3, H⟩ := H
    refine j_getR (f := 1) (b := b2) fe_Ba_15 rfl rfl t1 e3 d_Ba_isTakenOfAll_8 ?_
    refine j_iload_n d_Ba_isTakenOfAll_11 rfl ?_
    obtain ⟨t4, H⟩ := H
    obtain ⟨n6, x5, H⟩ := H
    refine j_zald (n := n6) t4 x5 d_Ba_isTakenOfAll_12 ?_
    obtain ⟨Ha, Hb⟩ := H
    refine j_if_ne (tgt := 18) d_Ba_isTakenOfAll_13 (by decide) (fun c7 => ?_) (fun c8 => ?_)
    · have H := Ha c7
      refine j_iinc (v := (p1 + (1 : Int32))) (L' := [some (.ref a0), some (.int ((p1 + (1 : Int32))))]) d_Ba_isTakenOfAll_18 rfl (by rw [show Int32.ofInt (1) = (1 : Int32) by decide]) (by decide) rfl ?_
      refine j_goto (tgt := 2) d_Ba_isTakenOfAll_21 (by decide) ?_
      exact H
    · have H := Hb c8
      refine j_iconst (v := 0) d_Ba_isTakenOfAll_16 (by decide) ?_
      exact j_zret rfl (by decide) d_Ba_isTakenOfAll_17 H
theorem wp_Hi_init_0 {E : EV} {G : GH} {Post : Res → GH → Prop} (a0 : Nat) (H : ∀ G1, G1 = al G 12 3 → Cl E 3 m_AL_init [.ref ((gz G))] G1 (aft E 4 m_Hi_init 9 [some (.ref a0)] [.ref ((gz G)), .ref a0] Post)) : J E 4 m_Hi_init 0 [some (.ref a0)] [] G Post := by
  refine j_aload_n d_Hi_init_0 rfl ?_
  refine j_objInit co_Hi_3 ob1 ob2 (Nat.le_of_ble_eq_true rfl) d_Hi_init_1 ?_
  refine j_aload_n d_Hi_init_4 rfl ?_
  refine j_newT (n := 3) (t := 12) rfl ne_Hi_9 rfl (by decide) d_Hi_init_5 ?_
  show J E 4 m_Hi_init 8 [some (.ref a0)] [.ref ((gz G)), .ref a0] (al G 12 3) Post
  generalize e2 : al G 12 3 = G1
  have e2 := e2.symm
  have H := H G1 e2
  refine j_dup d_Hi_init_8 rfl ?_
  exact j_callI (d' := 3) (As := []) (rest := [.ref ((gz G)), .ref a0]) (b := ((gz G))) ci_Hi_11 me_AL_init rfl rfl (by decide) rfl rfl (Nat.le_of_ble_eq_true rfl) d_Hi_init_9 (by decide) rfl H
theorem wp_Hi_init_12 {E : EV} {G : GH} {Post : Res → GH → Prop} (a0 : Nat) (u0 : Nat) (u1 : Nat) (H : gT G u0 = 3 ∧ gT G a0 = 3 ∧ ∀ G3, G3 = al (sI (sI (sR G 128 u0 (some u1)) 129 a0 ((0 : Int32))) 130 a0 ((-1 : Int32))) 8 6 → gT G3 a0 = 3 ∧ Post (.inl none) (sR G3 131 a0 (some ((gz G))))) : J E 4 m_Hi_init 12 [some (.ref a0)] [.ref u1, .ref u0] G Post := by
  obtain ⟨t1, H⟩ := H
  refine j_putFR (r := (some u1)) (f := 128) rfl ff_Hi_12 rfl rfl rfl t1 d_Hi_init_12 ?_
  refine j_aload_n d_Hi_init_15 rfl ?_
  refine j_iconst (v := 0) d_Hi_init_16 (by decide) ?_
  obtain ⟨t2, H⟩ := H
  refine j_putI (f := 129) fw_Hi_18 rfl rfl t2 d_Hi_init_17 ?_
  refine j_aload_n d_Hi_init_20 rfl ?_
  refine j_iconst (v := -1) d_Hi_init_21 (by decide) ?_
  refine j_putI (f := 130) fw_Hi_22 rfl rfl t2 d_Hi_init_22 ?_
  refine j_aload_n d_Hi_init_25 rfl ?_
  refine j_newT (n := 6) (t := 8) rfl ne_Hi_25 rfl (by decide) d_Hi_init_26 ?_
  show J E 4 m_Hi_init 29 [some (.ref a0)] [.ref ((gz G)), .ref a0] (al (sI (sI (sR G 128 u0 (some u1)) 129 a0 ((0 : Int32))) 130 a0 ((-1 : Int32))) 8 6) Post
  generalize e4 : al (sI (sI (sR G 128 u0 (some u1)) 129 a0 ((0 : Int32))) 130 a0 ((-1 : Int32))) 8 6 = G3
  have e4 := e4.symm
  have H := H G3 e4
  refine j_dup d_Hi_init_29 rfl ?_
  refine j_callIN (d' := 1) (As := []) (rest := [.ref ((gz G)), .ref a0]) (b := ((gz G))) cn_Hi_27 me_Wi_init rfl rfl (by decide) rfl rfl (Nat.le_of_ble_eq_true rfl) d_Hi_init_30 (by decide) rfl (j_enter (L := [some (.ref ((gz G)))]) me_Wi_init (cat_c rfl cat_n) (Nat.le_of_ble_eq_true rfl) rfl ?_)
  refine j_aload_n d_Wi_init_0 rfl ?_
  refine j_objInit co_Wi_3 ob1 ob2 (Nat.le_of_ble_eq_true rfl) d_Wi_init_1 ?_
  refine j_vret rfl d_Wi_init_4 ?_
  show J E 4 m_Hi_init 33 [some (.ref a0)] [.ref ((gz G)), .ref a0] G3 Post
  obtain ⟨t5, H⟩ := H
  refine j_putFR (r := (some ((gz G)))) (f := 131) rfl ff_Hi_28 rfl rfl rfl t5 d_Hi_init_33 ?_
  exact j_vret rfl d_Hi_init_36 H
theorem wp_Hi_cutTo_0 {E : EV} {G : GH} {Post : Res → GH → Prop} (a0 : Nat) (p1 : Int32) (H : gT G a0 = 3 ∧ ∃ b2, gR G 128 a0 = some b2 ∧ gT G b2 = 12 ∧ J E 4 m_Hi_cutTo 10 [some (.ref a0), some (.int p1), some (.int (((gI G 706 b2) - (1 : Int32))))] [] G Post) : J E 4 m_Hi_cutTo 0 [some (.ref a0), some (.int p1), none] [] G Post := by
  refine j_aload_n d_Hi_cutTo_0 rfl ?_
  obtain ⟨t1, H⟩ := H
  obtain ⟨b2, e3, H⟩ := H
  refine j_getR (f := 128) (b := b2) fe_Hi_12 rfl rfl t1 e3 d_Hi_cutTo_1 ?_
  obtain ⟨t4, H⟩ := H
  refine j_callV (d' := 1) (ci := 11) (As := []) (rest := []) (b := b2) cv_Hi_32 me_AL_size rfl (by decide) rfl rfl t4 rfl rfl (Nat.le_of_ble_eq_true rfl) d_Hi_cutTo_4 (by decide) rfl (j_enter (L := [some (.ref b2)]) me_AL_size (cat_c rfl cat_n) (Nat.le_of_ble_eq_true rfl) rfl ?_)
  refine j_aload_n d_AL_size_0 rfl ?_
  refine j_getI (f := 706) fe_AL_48 rfl rfl t4 d_AL_size_1 ?_
  refine j_iret rfl d_AL_size_4 ?_
  show J E 4 m_Hi_cutTo 7 [some (.ref a0), some (.int p1), none] [.int ((gI G 706 b2))] G Post
  refine j_iconst (v := 1) d_Hi_cutTo_7 (by decide) ?_
  refine j_isub d_Hi_cutTo_8 ?_
  refine j_istore_n (L' := [some (.ref a0), some (.int p1), some (.int (((gI G 706 b2) - (1 : Int32))))]) d_Hi_cutTo_9 (by decide) rfl ?_
  exact H
theorem wp_Hi_cutTo_10 {E : EV} {G : GH} {Post : Res → GH → Prop} (a0 : Nat) (p1 : Int32) (p2 : Int32) (H : (p2 < p1 → Post (.inl none) G) ∧ (¬ p2 < p1 → gT G a0 = 3 ∧ ∃ b2, gR G 128 a0 = some b2 ∧ gT G b2 = 12 ∧ Cl E 3 m_AL_remove [.ref b2, .int p2] G (aft E 4 m_Hi_cutTo 20 [some (.ref a0), some (.int p1), some (.int p2)] [] Post))) : J E 4 m_Hi_cutTo 10 [some (.ref a0), some (.int p1), some (.int p2)] [] G Post := by
  refine j_iload_n d_Hi_cutTo_10 rfl ?_
  refine j_iload_n d_Hi_cutTo_11 rfl ?_
  obtain ⟨Ha, Hb⟩ := H
  refine j_icmp_lt (tgt := 30) d_Hi_cutTo_12 (by decide) (fun c5 => ?_) (fun c6 => ?_)
  · have H := Ha c5
    exact j_vret rfl d_Hi_cutTo_30 H
  · have H := Hb c6
    refine j_aload_n d_Hi_cutTo_15 rfl ?_
    obtain ⟨t1, H⟩ := H
    obtain ⟨b2, e3, H⟩ := H
    refine j_getR (f := 128) (b := b2) fe_Hi_12 rfl rfl t1 e3 d_Hi_cutTo_16 ?_
    refine j_iload_n d_Hi_cutTo_19 rfl ?_
    obtain ⟨t4, H⟩ := H
    exact j_callV (d' := 3) (ci := 11) (As := [.int p2]) (rest := []) (b := b2) cv_Hi_36 me_AL_remove rfl (by decide) rfl rfl t4 rfl rfl (Nat.le_of_ble_eq_true rfl) d_Hi_cutTo_20 (by decide) rfl H
theorem wp_Hi_cutTo_23 {E : EV} {G : GH} {Post : Res → GH → Prop} (a0 : Nat) (p1 : Int32) (p2 : Int32) (u0 : Nat) (H : J E 4 m_Hi_cutTo 10 [some (.ref a0), some (.int p1), some (.int ((p2 + (-1 : Int32))))] [] G Post) : J E 4 m_Hi_cutTo 23 [some (.ref a0), some (.int p1), some (.int p2)] [.ref u0] G Post := by
  refine j_pop d_Hi_cutTo_23 rfl ?_
  refine j_iinc (v := (p2 + (-1 : Int32))) (L' := [some (.ref a0), some (.int p1), some (.int ((p2 + (-1 : Int32))))]) d_Hi_cutTo_24 rfl (by rw [show Int32.ofInt (-1) = (-1 : Int32) by decide]) (by decide) rfl ?_
  refine j_goto (tgt := 10) d_Hi_cutTo_27 (by decide) ?_
  exact H
theorem wp_Hi_countPairsOf_0 {E : EV} {G : GH} {Post : Res → GH → Prop} (a0 : Nat) (a1 : Nat) (p2 : Int32) (H : J E 4 m_Hi_countPairsOf 5 [some (.ref a0), some (.ref a1), some (.int p2), some (.int ((0 : Int32))), some (.int ((0 : Int32)))] [] G Post) : J E 4 m_Hi_countPairsOf 0 [some (.ref a0), some (.ref a1), some (.int p2), none, none] [] G Post := by
  refine j_iconst (v := 0) d_Hi_countPairsOf_0 (by decide) ?_
  refine j_istore_n (L' := [some (.ref a0), some (.ref a1), some (.int p2), some (.int ((0 : Int32))), none]) d_Hi_countPairsOf_1 (by decide) rfl ?_
  refine j_iconst (v := 0) d_Hi_countPairsOf_2 (by decide) ?_
  refine j_istore (L' := [some (.ref a0), some (.ref a1), some (.int p2), some (.int ((0 : Int32))), some (.int ((0 : Int32)))]) d_Hi_countPairsOf_3 (by decide) rfl ?_
  exact H
theorem wp_Hi_countPairsOf_5 {E : EV} {G : GH} {Post : Res → GH → Prop} (a0 : Nat) (a1 : Nat) (p2 : Int32) (p3 : Int32) (p4 : Int32) (H : gT G a0 = 3 ∧ ∃ b2, gR G 128 a0 = some b2 ∧ gT G b2 = 12 ∧ ((gI G 706 b2) ≤ p4 → Post (.inl (some (.int p3))) G) ∧ (¬ (gI G 706 b2) ≤ p4 → ∃ b5, LG G b2 p4 b5 ∧ gT G b5 = 2 ∧ gT G a1 = 2 ∧ (¬ ((gI G 64 b5) + (gI G 64 a1)) = (1 : Int32) → ((gI G 65 a1) ≤ (gI G 65 b5) → J E 4 m_Hi_countPairsOf 5 [some (.ref a0), some (.ref a1), some (.int p2), some (.int p3), some (.int ((p4 + (1 : Int32))))] [] G Post) ∧ (¬ (gI G 65 a1) ≤ (gI G 65 b5) → J E 4 m_Hi_countPairsOf 5 [some (.ref a0), some (.ref a1), some (.int p2), some (.int p3), some (.int ((p4 + (1 : Int32))))] [] G Post)) ∧ (((gI G 64 b5) + (gI G 64 a1)) = (1 : Int32) → ((gI G 65 a1) ≤ (gI G 65 b5) → (¬ (gI G 66 b5) = (gI G 66 a1) → J E 4 m_Hi_countPairsOf 5 [some (.ref a0), some (.ref a1), some (.int p2), some (.int p3), some (.int ((p4 + (1 : Int32))))] [] G Post) ∧ ((gI G 66 b5) = (gI G 66 a1) → (p2 < ((gI G 65 b5) - (gI G 65 a1)) → J E 4 m_Hi_countPairsOf 5 [some (.ref a0), some (.ref a1), some (.int p2), some (.int p3), some (.int ((p4 + (1 : Int32))))] [] G Post) ∧ (¬ p2 < ((gI G 65 b5) - (gI G 65 a1)) → ((gI G 68 b5) ≤ (gI G 65 b5) → ((gI G 68 a1) ≤ (gI G 65 a1) → J E 4 m_Hi_countPairsOf 5 [some (.ref a0), some (.ref a1), some (.int p2), some (.int ((p3 + (1 : Int32)))), some (.int ((p4 + (1 : Int32))))] [] G Post) ∧ (¬ (gI G 68 a1) ≤ (gI G 65 a1) → J E 4 m_Hi_countPairsOf 5 [some (.ref a0), some (.ref a1), some (.int p2), some (.int p3), some (.int ((p4 + (1 : Int32))))] [] G Post)) ∧ (¬ (gI G 68 b5) ≤ (gI G 65 b5) → J E 4 m_Hi_countPairsOf 5 [some (.ref a0), some (.ref a1), some (.int p2), some (.int p3), some (.int ((p4 + (1 : Int32))))] [] G Post)))) ∧ (¬ (gI G 65 a1) ≤ (gI G 65 b5) → (¬ (gI G 66 b5) = (gI G 66 a1) → J E 4 m_Hi_countPairsOf 5 [some (.ref a0), some (.ref a1), some (.int p2), some (.int p3), some (.int ((p4 + (1 : Int32))))] [] G Post) ∧ ((gI G 66 b5) = (gI G 66 a1) → (p2 < ((gI G 65 a1) - (gI G 65 b5)) → J E 4 m_Hi_countPairsOf 5 [some (.ref a0), some (.ref a1), some (.int p2), some (.int p3), some (.int ((p4 + (1 : Int32))))] [] G Post) ∧ (¬ p2 < ((gI G 65 a1) - (gI G 65 b5)) → ((gI G 68 b5) ≤ (gI G 65 b5) → ((gI G 68 a1) ≤ (gI G 65 a1) → J E 4 m_Hi_countPairsOf 5 [some (.ref a0), some (.ref a1), some (.int p2), some (.int ((p3 + (1 : Int32)))), some (.int ((p4 + (1 : Int32))))] [] G Post) ∧ (¬ (gI G 68 a1) ≤ (gI G 65 a1) → J E 4 m_Hi_countPairsOf 5 [some (.ref a0), some (.ref a1), some (.int p2), some (.int p3), some (.int ((p4 + (1 : Int32))))] [] G Post)) ∧ (¬ (gI G 68 b5) ≤ (gI G 65 b5) → J E 4 m_Hi_countPairsOf 5 [some (.ref a0), some (.ref a1), some (.int p2), some (.int p3), some (.int ((p4 + (1 : Int32))))] [] G Post))))))) : J E 4 m_Hi_countPairsOf 5 [some (.ref a0), some (.ref a1), some (.int p2), some (.int p3), some (.int p4)] [] G Post := by
  refine j_iload d_Hi_countPairsOf_5 rfl ?_
  refine j_aload_n d_Hi_countPairsOf_7 rfl ?_
  obtain ⟨t1, H⟩ := H
  obtain ⟨b2, e3, H⟩ := H
  refine j_getR (f := 128) (b := b2) fe_Hi_12 rfl rfl t1 e3 d_Hi_countPairsOf_8 ?_
  obtain ⟨t4, H⟩ := H
  refine j_callV (d' := 1) (ci := 11) (As := []) (rest := [.int p4]) (b := b2) cv_Hi_32 me_AL_size rfl (by decide) rfl rfl t4 rfl rfl (Nat.le_of_ble_eq_true rfl) d_Hi_countPairsOf_11 (by decide) rfl (j_enter (L := [some (.ref b2)]) me_AL_size (cat_c rfl cat_n) (Nat.le_of_ble_eq_true rfl) rfl ?_)
  refine j_aload_n d_AL_size_0 rfl ?_
  refine j_getI (f := 706) fe_AL_48 rfl rfl t4 d_AL_size_1 ?_
  refine j_iret rfl d_AL_size_4 ?_
  show J E 4 m_Hi_countPairsOf 14 [some (.ref a0), some (.ref a1), some (.int p2), some (.int p3), some (.int p4)] [.int ((gI G 706 b2)), .int p4] G Post
  obtain ⟨Ha, Hb⟩ := H
  refine j_icmp_ge (tgt := 46) d_Hi_countPairsOf_14 (by decide) (fun c31 => ?_) (fun c32 => ?_)
  · have H := Ha c31
    refine j_iload_n d_Hi_countPairsOf_46 rfl ?_
    exact j_iret rfl d_Hi_countPairsOf_47 H
  · have H := Hb c32
    refine j_aload_n d_Hi_countPairsOf_17 rfl ?_
    refine j_getR (f := 128) (b := b2) fe_Hi_12 rfl rfl t1 e3 d_Hi_countPairsOf_18 ?_
    refine j_iload d_Hi_countPairsOf_21 rfl ?_
    obtain ⟨b5, g6, H⟩ := H
    refine j_callV (d' := 3) (ci := 11) (As := [.int p4]) (rest := []) (b := b2) cv_Hi_40 me_AL_get rfl (by decide) rfl rfl t4 rfl rfl (Nat.le_of_ble_eq_true rfl) d_Hi_countPairsOf_23 (by decide) rfl (c_AL_get g6 ?_)
    show J E 4 m_Hi_countPairsOf 26 [some (.ref a0), some (.ref a1), some (.int p2), some (.int p3), some (.int p4)] [.ref b5] G Post
    obtain ⟨t7, H⟩ := H
    refine j_cast (ci := 1) rfl kl_Hi_43 t7 d_Hi_countPairsOf_26 ?_
    refine j_aload_n d_Hi_countPairsOf_29 rfl ?_
    refine j_iload_n d_Hi_countPairsOf_30 rfl ?_
    refine j_callV (d' := 2) (ci := 1) (As := [.ref a1, .int p2]) (rest := []) (b := b5) cv_Hi_45 me_Ev_isPairWith rfl (by decide) rfl rfl t7 rfl rfl (Nat.le_of_ble_eq_true rfl) d_Hi_countPairsOf_31 (by decide) rfl (j_enter (L := [some (.ref b5), some (.ref a1), some (.int p2), none, none]) me_Ev_isPairWith (cat_c rfl (cat_c rfl (cat_c rfl cat_n))) (Nat.le_of_ble_eq_true rfl) rfl ?_)
    refine j_aload_n d_Ev_isPairWith_0 rfl ?_
    refine j_getI (f := 64) fe_Ev_15 rfl rfl t7 d_Ev_isPairWith_1 ?_
    refine j_aload_n d_Ev_isPairWith_4 rfl ?_
    obtain ⟨t8, H⟩ := H
    refine j_getI (f := 64) fe_Ev_15 rfl rfl t8 d_Ev_isPairWith_5 ?_
    refine j_iadd d_Ev_isPairWith_8 ?_
    refine j_iconst (v := 1) d_Ev_isPairWith_9 (by decide) ?_
    obtain ⟨Ha, Hb⟩ := H
    refine j_icmp_ne (tgt := 17) d_Ev_isPairWith_10 (by decide) (fun c29 => ?_) (fun c30 => ?_)
    · have H := Ha c29
      refine j_iconst (v := 0) d_Ev_isPairWith_17 (by decide) ?_
      refine j_istore_n (L' := [some (.ref b5), some (.ref a1), some (.int p2), some (.int ((0 : Int32))), none]) d_Ev_isPairWith_18 (by decide) rfl ?_
      refine j_aload_n d_Ev_isPairWith_19 rfl ?_
      refine j_getI (f := 65) fe_Ev_18 rfl rfl t7 d_Ev_isPairWith_20 ?_
      refine j_aload_n d_Ev_isPairWith_23 rfl ?_
      refine j_getI (f := 65) fe_Ev_18 rfl rfl t8 d_Ev_isPairWith_24 ?_
      obtain ⟨Ha, Hb⟩ := H
      refine j_icmp_ge (tgt := 42) d_Ev_isPairWith_27 (by decide) (fun c9 => ?_) (fun c10 => ?_)
      · have H := Ha c9
        refine j_aload_n d_Ev_isPairWith_42 rfl ?_
        refine j_getI (f := 65) fe_Ev_18 rfl rfl t7 d_Ev_isPairWith_43 ?_
        refine j_aload_n d_Ev_isPairWith_46 rfl ?_
        refine j_getI (f := 65) fe_Ev_18 rfl rfl t8 d_Ev_isPairWith_47 ?_
        refine j_isub d_Ev_isPairWith_50 ?_
        refine j_istore (L' := [some (.ref b5), some (.ref a1), some (.int p2), some (.int ((0 : Int32))), some (.int (((gI G 65 b5) - (gI G 65 a1))))]) d_Ev_isPairWith_51 (by decide) rfl ?_
        refine j_iload_n d_Ev_isPairWith_53 rfl ?_
        refine j_if_eq (tgt := 92) d_Ev_isPairWith_54 (by decide) (fun _ => ?_) (fun c => absurd c (by decide))
        refine j_iconst (v := 0) d_Ev_isPairWith_92 (by decide) ?_
        refine j_zret rfl (by decide) d_Ev_isPairWith_93 ?_
        show J E 4 m_Hi_countPairsOf 34 [some (.ref a0), some (.ref a1), some (.int p2), some (.int p3), some (.int p4)] [.int ((0 : Int32))] G Post
        refine j_if_eq (tgt := 40) d_Hi_countPairsOf_34 (by decide) (fun _ => ?_) (fun c => absurd c (by decide))
        refine j_iinc (v := (p4 + (1 : Int32))) (L' := [some (.ref a0), some (.ref a1), some (.int p2), some (.int p3), some (.int ((p4 + (1 : Int32))))]) d_Hi_countPairsOf_40 rfl (by rw [show Int32.ofInt (1) = (1 : Int32) by decide]) (by decide) rfl ?_
        refine j_goto (tgt := 5) d_Hi_countPairsOf_43 (by decide) ?_
        exact H
      · have H := Hb c10
        refine j_aload_n d_Ev_isPairWith_30 rfl ?_
        refine j_getI (f := 65) fe_Ev_18 rfl rfl t8 d_Ev_isPairWith_31 ?_
        refine j_aload_n d_Ev_isPairWith_34 rfl ?_
        refine j_getI (f := 65) fe_Ev_18 rfl rfl t7 d_Ev_isPairWith_35 ?_
        refine j_isub d_Ev_isPairWith_38 ?_
        refine j_goto (tgt := 51) d_Ev_isPairWith_39 (by decide) ?_
        refine j_istore (L' := [some (.ref b5), some (.ref a1), some (.int p2), some (.int ((0 : Int32))), some (.int (((gI G 65 a1) - (gI G 65 b5))))]) d_Ev_isPairWith_51 (by decide) rfl ?_
        refine j_iload_n d_Ev_isPairWith_53 rfl ?_
        refine j_if_eq (tgt := 92) d_Ev_isPairWith_54 (by decide) (fun _ => ?_) (fun c => absurd c (by decide))
        refine j_iconst (v := 0) d_Ev_isPairWith_92 (by decide) ?_
        refine j_zret rfl (by decide) d_Ev_isPairWith_93 ?_
        show J E 4 m_Hi_countPairsOf 34 [some (.ref a0), some (.ref a1), some (.int p2), some (.int p3), some (.int p4)] [.int ((0 : Int32))] G Post
        refine j_if_eq (tgt := 40) d_Hi_countPairsOf_34 (by decide) (fun _ => ?_) (fun c => absurd c (by decide))
        refine j_iinc (v := (p4 + (1 : Int32))) (L' := [some (.ref a0), some (.ref a1), some (.int p2), some (.int p3), some (.int ((p4 + (1 : Int32))))]) d_Hi_countPairsOf_40 rfl (by rw [show Int32.ofInt (1) = (1 : Int32) by decide]) (by decide) rfl ?_
        refine j_goto (tgt := 5) d_Hi_countPairsOf_43 (by decide) ?_
        exact H
    · have H := Hb c30
      refine j_iconst (v := 1) d_Ev_isPairWith_13 (by decide) ?_
      refine j_goto (tgt := 18) d_Ev_isPairWith_14 (by decide) ?_
      refine j_istore_n (L' := [some (.ref b5), some (.ref a1), some (.int p2), some (.int ((1 : Int32))), none]) d_Ev_isPairWith_18 (by decide) rfl ?_
      refine j_aload_n d_Ev_isPairWith_19 rfl ?_
      refine j_getI (f := 65) fe_Ev_18 rfl rfl t7 d_Ev_isPairWith_20 ?_
      refine j_aload_n d_Ev_isPairWith_23 rfl ?_
      refine j_getI (f := 65) fe_Ev_18 rfl rfl t8 d_Ev_isPairWith_24 ?_
      obtain ⟨Ha, Hb⟩ := H
      refine j_icmp_ge (tgt := 42) d_Ev_isPairWith_27 (by decide) (fun c27 => ?_) (fun c28 => ?_)
      · have H := Ha c27
        refine j_aload_n d_Ev_isPairWith_42 rfl ?_
        refine j_getI (f := 65) fe_Ev_18 rfl rfl t7 d_Ev_isPairWith_43 ?_
        refine j_aload_n d_Ev_isPairWith_46 rfl ?_
        refine j_getI (f := 65) fe_Ev_18 rfl rfl t8 d_Ev_isPairWith_47 ?_
        refine j_isub d_Ev_isPairWith_50 ?_
        refine j_istore (L' := [some (.ref b5), some (.ref a1), some (.int p2), some (.int ((1 : Int32))), some (.int (((gI G 65 b5) - (gI G 65 a1))))]) d_Ev_isPairWith_51 (by decide) rfl ?_
        refine j_iload_n d_Ev_isPairWith_53 rfl ?_
        refine j_if_eq (tgt := 92) d_Ev_isPairWith_54 (by decide) (fun c => absurd c (by decide)) (fun _ => ?_)
        refine j_aload_n d_Ev_isPairWith_57 rfl ?_
        refine j_getI (f := 66) fe_Ev_21 rfl rfl t7 d_Ev_isPairWith_58 ?_
        refine j_aload_n d_Ev_isPairWith_61 rfl ?_
        refine j_getI (f := 66) fe_Ev_21 rfl rfl t8 d_Ev_isPairWith_62 ?_
        obtain ⟨Ha, Hb⟩ := H
        refine j_icmp_ne (tgt := 92) d_Ev_isPairWith_65 (by decide) (fun c17 => ?_) (fun c18 => ?_)
        · have H := Ha c17
          refine j_iconst (v := 0) d_Ev_isPairWith_92 (by decide) ?_
          refine j_zret rfl (by decide) d_Ev_isPairWith_93 ?_
          show J E 4 m_Hi_countPairsOf 34 [some (.ref a0), some (.ref a1), some (.int p2), some (.int p3), some (.int p4)] [.int ((0 : Int32))] G Post
          refine j_if_eq (tgt := 40) d_Hi_countPairsOf_34 (by decide) (fun _ => ?_) (fun c => absurd c (by decide))
          refine j_iinc (v := (p4 + (1 : Int32))) (L' := [some (.ref a0), some (.ref a1), some (.int p2), some (.int p3), some (.int ((p4 + (1 : Int32))))]) d_Hi_countPairsOf_40 rfl (by rw [show Int32.ofInt (1) = (1 : Int32) by decide]) (by decide) rfl ?_
          refine j_goto (tgt := 5) d_Hi_countPairsOf_43 (by decide) ?_
          exact H
        · have H := Hb c18
          refine j_iload d_Ev_isPairWith_68 rfl ?_
          refine j_iload_n d_Ev_isPairWith_70 rfl ?_
          obtain ⟨Ha, Hb⟩ := H
          refine j_icmp_gt (tgt := 92) d_Ev_isPairWith_71 (by decide) (fun c15 => ?_) (fun c16 => ?_)
          · have H := Ha c15
            refine j_iconst (v := 0) d_Ev_isPairWith_92 (by decide) ?_
            refine j_zret rfl (by decide) d_Ev_isPairWith_93 ?_
            show J E 4 m_Hi_countPairsOf 34 [some (.ref a0), some (.ref a1), some (.int p2), some (.int p3), some (.int p4)] [.int ((0 : Int32))] G Post
            refine j_if_eq (tgt := 40) d_Hi_countPairsOf_34 (by decide) (fun _ => ?_) (fun c => absurd c (by decide))
            refine j_iinc (v := (p4 + (1 : Int32))) (L' := [some (.ref a0), some (.ref a1), some (.int p2), some (.int p3), some (.int ((p4 + (1 : Int32))))]) d_Hi_countPairsOf_40 rfl (by rw [show Int32.ofInt (1) = (1 : Int32) by decide]) (by decide) rfl ?_
            refine j_goto (tgt := 5) d_Hi_countPairsOf_43 (by decide) ?_
            exact H
          · have H := Hb c16
            refine j_aload_n d_Ev_isPairWith_74 rfl ?_
            refine j_callV (d' := 1) (ci := 1) (As := []) (rest := []) (b := b5) cv_Ev_27 me_Ev_isLate rfl (by decide) rfl rfl t7 rfl rfl (Nat.le_of_ble_eq_true rfl) d_Ev_isPairWith_75 (by decide) rfl (j_enter (L := [some (.ref b5)]) me_Ev_isLate (cat_c rfl cat_n) (Nat.le_of_ble_eq_true rfl) rfl ?_)
            refine j_aload_n d_Ev_isLate_0 rfl ?_
            refine j_getI (f := 65) fe_Ev_18 rfl rfl t7 d_Ev_isLate_1 ?_
            refine j_aload_n d_Ev_isLate_4 rfl ?_
            refine j_getI (f := 68) fe_Ev_9 rfl rfl t7 d_Ev_isLate_5 ?_
            obtain ⟨Ha, Hb⟩ := H
            refine j_icmp_ge (tgt := 15) d_Ev_isLate_8 (by decide) (fun c13 => ?_) (fun c14 => ?_)
            · have H := Ha c13
              refine j_iconst (v := 0) d_Ev_isLate_15 (by decide) ?_
              refine j_zret rfl (by decide) d_Ev_isLate_16 ?_
              show J E 2 m_Ev_isPairWith 78 [some (.ref b5), some (.ref a1), some (.int p2), some (.int ((1 : Int32))), some (.int (((gI G 65 b5) - (gI G 65 a1))))] [.int ((0 : Int32))] G (aft E 4 m_Hi_countPairsOf 31 [some (.ref a0), some (.ref a1), some (.int p2), some (.int p3), some (.int p4)] [] Post)
              refine j_if_ne (tgt := 92) d_Ev_isPairWith_78 (by decide) (fun c => absurd c (by decide)) (fun _ => ?_)
              refine j_aload_n d_Ev_isPairWith_81 rfl ?_
              refine j_callV (d' := 1) (ci := 1) (As := []) (rest := []) (b := a1) cv_Ev_27 me_Ev_isLate rfl (by decide) rfl rfl t8 rfl rfl (Nat.le_of_ble_eq_true rfl) d_Ev_isPairWith_82 (by decide) rfl (j_enter (L := [some (.ref a1)]) me_Ev_isLate (cat_c rfl cat_n) (Nat.le_of_ble_eq_true rfl) rfl ?_)
              refine j_aload_n d_Ev_isLate_0 rfl ?_
              refine j_getI (f := 65) fe_Ev_18 rfl rfl t8 d_Ev_isLate_1 ?_
              refine j_aload_n d_Ev_isLate_4 rfl ?_
              refine j_getI (f := 68) fe_Ev_9 rfl rfl t8 d_Ev_isLate_5 ?_
              obtain ⟨Ha, Hb⟩ := H
              refine j_icmp_ge (tgt := 15) d_Ev_isLate_8 (by decide) (fun c11 => ?_) (fun c12 => ?_)
              · have H := Ha c11
                refine j_iconst (v := 0) d_Ev_isLate_15 (by decide) ?_
                refine j_zret rfl (by decide) d_Ev_isLate_16 ?_
                show J E 2 m_Ev_isPairWith 85 [some (.ref b5), some (.ref a1), some (.int p2), some (.int ((1 : Int32))), some (.int (((gI G 65 b5) - (gI G 65 a1))))] [.int ((0 : Int32))] G (aft E 4 m_Hi_countPairsOf 31 [some (.ref a0), some (.ref a1), some (.int p2), some (.int p3), some (.int p4)] [] Post)
                refine j_if_ne (tgt := 92) d_Ev_isPairWith_85 (by decide) (fun c => absurd c (by decide)) (fun _ => ?_)
                refine j_iconst (v := 1) d_Ev_isPairWith_88 (by decide) ?_
                refine j_goto (tgt := 93) d_Ev_isPairWith_89 (by decide) ?_
                refine j_zret rfl (by decide) d_Ev_isPairWith_93 ?_
                show J E 4 m_Hi_countPairsOf 34 [some (.ref a0), some (.ref a1), some (.int p2), some (.int p3), some (.int p4)] [.int ((1 : Int32))] G Post
                refine j_if_eq (tgt := 40) d_Hi_countPairsOf_34 (by decide) (fun c => absurd c (by decide)) (fun _ => ?_)
                refine j_iinc (v := (p3 + (1 : Int32))) (L' := [some (.ref a0), some (.ref a1), some (.int p2), some (.int ((p3 + (1 : Int32)))), some (.int p4)]) d_Hi_countPairsOf_37 rfl (by rw [show Int32.ofInt (1) = (1 : Int32) by decide]) (by decide) rfl ?_
                refine j_iinc (v := (p4 + (1 : Int32))) (L' := [some (.ref a0), some (.ref a1), some (.int p2), some (.int ((p3 + (1 : Int32)))), some (.int ((p4 + (1 : Int32))))]) d_Hi_countPairsOf_40 rfl (by rw [show Int32.ofInt (1) = (1 : Int32) by decide]) (by decide) rfl ?_
                refine j_goto (tgt := 5) d_Hi_countPairsOf_43 (by decide) ?_
                exact H
              · have H := Hb c12
                refine j_iconst (v := 1) d_Ev_isLate_11 (by decide) ?_
                refine j_goto (tgt := 16) d_Ev_isLate_12 (by decide) ?_
                refine j_zret rfl (by decide) d_Ev_isLate_16 ?_
                show J E 2 m_Ev_isPairWith 85 [some (.ref b5), some (.ref a1), some (.int p2), some (.int ((1 : Int32))), some (.int (((gI G 65 b5) - (gI G 65 a1))))] [.int ((1 : Int32))] G (aft E 4 m_Hi_countPairsOf 31 [some (.ref a0), some (.ref a1), some (.int p2), some (.int p3), some (.int p4)] [] Post)
                refine j_if_ne (tgt := 92) d_Ev_isPairWith_85 (by decide) (fun _ => ?_) (fun c => absurd c (by decide))
                refine j_iconst (v := 0) d_Ev_isPairWith_92 (by decide) ?_
                refine j_zret rfl (by decide) d_Ev_isPairWith_93 ?_
                show J E 4 m_Hi_countPairsOf 34 [some (.ref a0), some (.ref a1), some (.int p2), some (.int p3), some (.int p4)] [.int ((0 : Int32))] G Post
                refine j_if_eq (tgt := 40) d_Hi_countPairsOf_34 (by decide) (fun _ => ?_) (fun c => absurd c (by decide))
                refine j_iinc (v := (p4 + (1 : Int32))) (L' := [some (.ref a0), some (.ref a1), some (.int p2), some (.int p3), some (.int ((p4 + (1 : Int32))))]) d_Hi_countPairsOf_40 rfl (by rw [show Int32.ofInt (1) = (1 : Int32) by decide]) (by decide) rfl ?_
                refine j_goto (tgt := 5) d_Hi_countPairsOf_43 (by decide) ?_
                exact H
            · have H := Hb c14
              refine j_iconst (v := 1) d_Ev_isLate_11 (by decide) ?_
              refine j_goto (tgt := 16) d_Ev_isLate_12 (by decide) ?_
              refine j_zret rfl (by decide) d_Ev_isLate_16 ?_
              show J E 2 m_Ev_isPairWith 78 [some (.ref b5), some (.ref a1), some (.int p2), some (.int ((1 : Int32))), some (.int (((gI G 65 b5) - (gI G 65 a1))))] [.int ((1 : Int32))] G (aft E 4 m_Hi_countPairsOf 31 [some (.ref a0), some (.ref a1), some (.int p2), some (.int p3), some (.int p4)] [] Post)
              refine j_if_ne (tgt := 92) d_Ev_isPairWith_78 (by decide) (fun _ => ?_) (fun c => absurd c (by decide))
              refine j_iconst (v := 0) d_Ev_isPairWith_92 (by decide) ?_
              refine j_zret rfl (by decide) d_Ev_isPairWith_93 ?_
              show J E 4 m_Hi_countPairsOf 34 [some (.ref a0), some (.ref a1), some (.int p2), some (.int p3), some (.int p4)] [.int ((0 : Int32))] G Post
              refine j_if_eq (tgt := 40) d_Hi_countPairsOf_34 (by decide) (fun _ => ?_) (fun c => absurd c (by decide))
              refine j_iinc (v := (p4 + (1 : Int32))) (L' := [some (.ref a0), some (.ref a1), some (.int p2), some (.int p3), some (.int ((p4 + (1 : Int32))))]) d_Hi_countPairsOf_40 rfl (by rw [show Int32.ofInt (1) = (1 : Int32) by decide]) (by decide) rfl ?_
              refine j_goto (tgt := 5) d_Hi_countPairsOf_43 (by decide) ?_
              exact H
      · have H := Hb c28
        refine j_aload_n d_Ev_isPairWith_30 rfl ?_
        refine j_getI (f := 65) fe_Ev_18 rfl rfl t8 d_Ev_isPairWith_31 ?_
        refine j_aload_n d_Ev_isPairWith_34 rfl ?_
        refine j_getI (f := 65) fe_Ev_18 rfl rfl t7 d_Ev_isPairWith_35 ?_
        refine j_isub d_Ev_isPairWith_38 ?_
        refine j_goto (tgt := 51) d_Ev_isPairWith_39 (by decide) ?_
        refine j_istore (L' := [some (.ref b5), some (.ref a1), some (.int p2), some (.int ((1 : Int32))), some (.int (((gI G 65 a1) - (gI G 65 b5))))]) d_Ev_isPairWith_51 (by decide) rfl ?_
        refine j_iload_n d_Ev_isPairWith_53 rfl ?_
        refine j_if_eq (tgt := 92) d_Ev_isPairWith_54 (by decide) (fun c => absurd c (by decide)) (fun _ => ?_)
        refine j_aload_n d_Ev_isPairWith_57 rfl ?_
        refine j_getI (f := 66) fe_Ev_21 rfl rfl t7 d_Ev_isPairWith_58 ?_
        refine j_aload_n d_Ev_isPairWith_61 rfl ?_
        refine j_getI (f := 66) fe_Ev_21 rfl rfl t8 d_Ev_isPairWith_62 ?_
        obtain ⟨Ha, Hb⟩ := H
        refine j_icmp_ne (tgt := 92) d_Ev_isPairWith_65 (by decide) (fun c25 => ?_) (fun c26 => ?_)
        · have H := Ha c25
          refine j_iconst (v := 0) d_Ev_isPairWith_92 (by decide) ?_
          refine j_zret rfl (by decide) d_Ev_isPairWith_93 ?_
          show J E 4 m_Hi_countPairsOf 34 [some (.ref a0), some (.ref a1), some (.int p2), some (.int p3), some (.int p4)] [.int ((0 : Int32))] G Post
          refine j_if_eq (tgt := 40) d_Hi_countPairsOf_34 (by decide) (fun _ => ?_) (fun c => absurd c (by decide))
          refine j_iinc (v := (p4 + (1 : Int32))) (L' := [some (.ref a0), some (.ref a1), some (.int p2), some (.int p3), some (.int ((p4 + (1 : Int32))))]) d_Hi_countPairsOf_40 rfl (by rw [show Int32.ofInt (1) = (1 : Int32) by decide]) (by decide) rfl ?_
          refine j_goto (tgt := 5) d_Hi_countPairsOf_43 (by decide) ?_
          exact H
        · have H := Hb c26
          refine j_iload d_Ev_isPairWith_68 rfl ?_
          refine j_iload_n d_Ev_isPairWith_70 rfl ?_
          obtain ⟨Ha, Hb⟩ := H
          refine j_icmp_gt (tgt := 92) d_Ev_isPairWith_71 (by decide) (fun c23 => ?_) (fun c24 => ?_)
          · have H := Ha c23
            refine j_iconst (v := 0) d_Ev_isPairWith_92 (by decide) ?_
            refine j_zret rfl (by decide) d_Ev_isPairWith_93 ?_
            show J E 4 m_Hi_countPairsOf 34 [some (.ref a0), some (.ref a1), some (.int p2), some (.int p3), some (.int p4)] [.int ((0 : Int32))] G Post
            refine j_if_eq (tgt := 40) d_Hi_countPairsOf_34 (by decide) (fun _ => ?_) (fun c => absurd c (by decide))
            refine j_iinc (v := (p4 + (1 : Int32))) (L' := [some (.ref a0), some (.ref a1), some (.int p2), some (.int p3), some (.int ((p4 + (1 : Int32))))]) d_Hi_countPairsOf_40 rfl (by rw [show Int32.ofInt (1) = (1 : Int32) by decide]) (by decide) rfl ?_
            refine j_goto (tgt := 5) d_Hi_countPairsOf_43 (by decide) ?_
            exact H
          · have H := Hb c24
            refine j_aload_n d_Ev_isPairWith_74 rfl ?_
            refine j_callV (d' := 1) (ci := 1) (As := []) (rest := []) (b := b5) cv_Ev_27 me_Ev_isLate rfl (by decide) rfl rfl t7 rfl rfl (Nat.le_of_ble_eq_true rfl) d_Ev_isPairWith_75 (by decide) rfl (j_enter (L := [some (.ref b5)]) me_Ev_isLate (cat_c rfl cat_n) (Nat.le_of_ble_eq_true rfl) rfl ?_)
            refine j_aload_n d_Ev_isLate_0 rfl ?_
            refine j_getI (f := 65) fe_Ev_18 rfl rfl t7 d_Ev_isLate_1 ?_
            refine j_aload_n d_Ev_isLate_4 rfl ?_
            refine j_getI (f := 68) fe_Ev_9 rfl rfl t7 d_Ev_isLate_5 ?_
            obtain ⟨Ha, Hb⟩ := H
            refine j_icmp_ge (tgt := 15) d_Ev_isLate_8 (by decide) (fun c21 => ?_) (fun c22 => ?_)
            · have H := Ha c21
              refine j_iconst (v := 0) d_Ev_isLate_15 (by decide) ?_
              refine j_zret rfl (by decide) d_Ev_isLate_16 ?_
              show J E 2 m_Ev_isPairWith 78 [some (.ref b5), some (.ref a1), some (.int p2), some (.int ((1 : Int32))), some (.int (((gI G 65 a1) - (gI G 65 b5))))] [.int ((0 : Int32))] G (aft E 4 m_Hi_countPairsOf 31 [some (.ref a0), some (.ref a1), some (.int p2), some (.int p3), some (.int p4)] [] Post)
              refine j_if_ne (tgt := 92) d_Ev_isPairWith_78 (by decide) (fun c => absurd c (by decide)) (fun _ => ?_)
              refine j_aload_n d_Ev_isPairWith_81 rfl ?_
              refine j_callV (d' := 1) (ci := 1) (As := []) (rest := []) (b := a1) cv_Ev_27 me_Ev_isLate rfl (by decide) rfl rfl t8 rfl rfl (Nat.le_of_ble_eq_true rfl) d_Ev_isPairWith_82 (by decide) rfl (j_enter (L := [some (.ref a1)]) me_Ev_isLate (cat_c rfl cat_n) (Nat.le_of_ble_eq_true rfl) rfl ?_)
              refine j_aload_n d_Ev_isLate_0 rfl ?_
              refine j_getI (f := 65) fe_Ev_18 rfl rfl t8 d_Ev_isLate_1 ?_
              refine j_aload_n d_Ev_isLate_4 rfl ?_
              refine j_getI (f := 68) fe_Ev_9 rfl rfl t8 d_Ev_isLate_5 ?_
              obtain ⟨Ha, Hb⟩ := H
              refine j_icmp_ge (tgt := 15) d_Ev_isLate_8 (by decide) (fun c19 => ?_) (fun c20 => ?_)
              · have H := Ha c19
                refine j_iconst (v := 0) d_Ev_isLate_15 (by decide) ?_
                refine j_zret rfl (by decide) d_Ev_isLate_16 ?_
                show J E 2 m_Ev_isPairWith 85 [some (.ref b5), some (.ref a1), some (.int p2), some (.int ((1 : Int32))), some (.int (((gI G 65 a1) - (gI G 65 b5))))] [.int ((0 : Int32))] G (aft E 4 m_Hi_countPairsOf 31 [some (.ref a0), some (.ref a1), some (.int p2), some (.int p3), some (.int p4)] [] Post)
                refine j_if_ne (tgt := 92) d_Ev_isPairWith_85 (by decide) (fun c => absurd c (by decide)) (fun _ => ?_)
                refine j_iconst (v := 1) d_Ev_isPairWith_88 (by decide) ?_
                refine j_goto (tgt := 93) d_Ev_isPairWith_89 (by decide) ?_
                refine j_zret rfl (by decide) d_Ev_isPairWith_93 ?_
                show J E 4 m_Hi_countPairsOf 34 [some (.ref a0), some (.ref a1), some (.int p2), some (.int p3), some (.int p4)] [.int ((1 : Int32))] G Post
                refine j_if_eq (tgt := 40) d_Hi_countPairsOf_34 (by decide) (fun c => absurd c (by decide)) (fun _ => ?_)
                refine j_iinc (v := (p3 + (1 : Int32))) (L' := [some (.ref a0), some (.ref a1), some (.int p2), some (.int ((p3 + (1 : Int32)))), some (.int p4)]) d_Hi_countPairsOf_37 rfl (by rw [show Int32.ofInt (1) = (1 : Int32) by decide]) (by decide) rfl ?_
                refine j_iinc (v := (p4 + (1 : Int32))) (L' := [some (.ref a0), some (.ref a1), some (.int p2), some (.int ((p3 + (1 : Int32)))), some (.int ((p4 + (1 : Int32))))]) d_Hi_countPairsOf_40 rfl (by rw [show Int32.ofInt (1) = (1 : Int32) by decide]) (by decide) rfl ?_
                refine j_goto (tgt := 5) d_Hi_countPairsOf_43 (by decide) ?_
                exact H
              · have H := Hb c20
                refine j_iconst (v := 1) d_Ev_isLate_11 (by decide) ?_
                refine j_goto (tgt := 16) d_Ev_isLate_12 (by decide) ?_
                refine j_zret rfl (by decide) d_Ev_isLate_16 ?_
                show J E 2 m_Ev_isPairWith 85 [some (.ref b5), some (.ref a1), some (.int p2), some (.int ((1 : Int32))), some (.int (((gI G 65 a1) - (gI G 65 b5))))] [.int ((1 : Int32))] G (aft E 4 m_Hi_countPairsOf 31 [some (.ref a0), some (.ref a1), some (.int p2), some (.int p3), some (.int p4)] [] Post)
                refine j_if_ne (tgt := 92) d_Ev_isPairWith_85 (by decide) (fun _ => ?_) (fun c => absurd c (by decide))
                refine j_iconst (v := 0) d_Ev_isPairWith_92 (by decide) ?_
                refine j_zret rfl (by decide) d_Ev_isPairWith_93 ?_
                show J E 4 m_Hi_countPairsOf 34 [some (.ref a0), some (.ref a1), some (.int p2), some (.int p3), some (.int p4)] [.int ((0 : Int32))] G Post
                refine j_if_eq (tgt := 40) d_Hi_countPairsOf_34 (by decide) (fun _ => ?_) (fun c => absurd c (by decide))
                refine j_iinc (v := (p4 + (1 : Int32))) (L' := [some (.ref a0), some (.ref a1), some (.int p2), some (.int p3), some (.int ((p4 + (1 : Int32))))]) d_Hi_countPairsOf_40 rfl (by rw [show Int32.ofInt (1) = (1 : Int32) by decide]) (by decide) rfl ?_
                refine j_goto (tgt := 5) d_Hi_countPairsOf_43 (by decide) ?_
                exact H
            · have H := Hb c22
              refine j_iconst (v := 1) d_Ev_isLate_11 (by decide) ?_
              refine j_goto (tgt := 16) d_Ev_isLate_12 (by decide) ?_
              refine j_zret rfl (by decide) d_Ev_isLate_16 ?_
              show J E 2 m_Ev_isPairWith 78 [some (.ref b5), some (.ref a1), some (.int p2), some (.int ((1 : Int32))), some (.int (((gI G 65 a1) - (gI G 65 b5))))] [.int ((1 : Int32))] G (aft E 4 m_Hi_countPairsOf 31 [some (.ref a0), some (.ref a1), some (.int p2), some (.int p3), some (.int p4)] [] Post)
              refine j_if_ne (tgt := 92) d_Ev_isPairWith_78 (by decide) (fun _ => ?_) (fun c => absurd c (by decide))
              refine j_iconst (v := 0) d_Ev_isPairWith_92 (by decide) ?_
              refine j_zret rfl (by decide) d_Ev_isPairWith_93 ?_
              show J E 4 m_Hi_countPairsOf 34 [some (.ref a0), some (.ref a1), some (.int p2), some (.int p3), some (.int p4)] [.int ((0 : Int32))] G Post
              refine j_if_eq (tgt := 40) d_Hi_countPairsOf_34 (by decide) (fun _ => ?_) (fun c => absurd c (by decide))
              refine j_iinc (v := (p4 + (1 : Int32))) (L' := [some (.ref a0), some (.ref a1), some (.int p2), some (.int p3), some (.int ((p4 + (1 : Int32))))]) d_Hi_countPairsOf_40 rfl (by rw [show Int32.ofInt (1) = (1 : Int32) by decide]) (by decide) rfl ?_
              refine j_goto (tgt := 5) d_Hi_countPairsOf_43 (by decide) ?_
              exact H
theorem wp_Hi_countPairs_0 {E : EV} {G : GH} {Post : Res → GH → Prop} (a0 : Nat) (p1 : Int32) (H : J E 4 m_Hi_countPairs 4 [some (.ref a0), some (.int p1), some (.int ((0 : Int32))), some (.int ((0 : Int32))), none] [] G Post) : J E 4 m_Hi_countPairs 0 [some (.ref a0), some (.int p1), none, none, none] [] G Post := by
  refine j_iconst (v := 0) d_Hi_countPairs_0 (by decide) ?_
  refine j_istore_n (L' := [some (.ref a0), some (.int p1), some (.int ((0 : Int32))), none, none]) d_Hi_countPairs_1 (by decide) rfl ?_
  refine j_iconst (v := 0) d_Hi_countPairs_2 (by decide) ?_
  refine j_istore_n (L' := [some (.ref a0), some (.int p1), some (.int ((0 : Int32))), some (.int ((0 : Int32))), none]) d_Hi_countPairs_3 (by decide) rfl ?_
  exact H
theorem wp_Hi_countPairs_4 {E : EV} {G : GH} {Post : Res → GH → Prop} (a0 : Nat) (p1 : Int32) (p2 : Int32) (p3 : Int32) (H : gT G a0 = 3 ∧ ∃ b2, gR G 128 a0 = some b2 ∧ gT G b2 = 12 ∧ ((gI G 706 b2) ≤ p3 → Post (.inl (some (.int p2))) G) ∧ (¬ (gI G 706 b2) ≤ p3 → J E 4 m_Hi_countPairs 18 [some (.ref a0), some (.int p1), some (.int p2), some (.int p3), some (.int ((0 : Int32)))] [] G Post)) : J E 4 m_Hi_countPairs 4 [some (.ref a0), some (.int p1), some (.int p2), some (.int p3), none] [] G Post := by
  refine j_iload_n d_Hi_countPairs_4 rfl ?_
  refine j_aload_n d_Hi_countPairs_5 rfl ?_
  obtain ⟨t1, H⟩ := H
  obtain ⟨b2, e3, H⟩ := H
  refine j_getR (f := 128) (b := b2) fe_Hi_12 rfl rfl t1 e3 d_Hi_countPairs_6 ?_
  obtain ⟨t4, H⟩ := H
  refine j_callV (d' := 1) (ci := 11) (As := []) (rest := [.int p3]) (b := b2) cv_Hi_32 me_AL_size rfl (by decide) rfl rfl t4 rfl rfl (Nat.le_of_ble_eq_true rfl) d_Hi_countPairs_9 (by decide) rfl (j_enter (L := [some (.ref b2)]) me_AL_size (cat_c rfl cat_n) (Nat.le_of_ble_eq_true rfl) rfl ?_)
  refine j_aload_n d_AL_size_0 rfl ?_
  refine j_getI (f := 706) fe_AL_48 rfl rfl t4 d_AL_size_1 ?_
  refine j_iret rfl d_AL_size_4 ?_
  show J E 4 m_Hi_countPairs 12 [some (.ref a0), some (.int p1), some (.int p2), some (.int p3), none] [.int ((gI G 706 b2)), .int p3] G Post
  obtain ⟨Ha, Hb⟩ := H
  refine j_icmp_ge (tgt := 69) d_Hi_countPairs_12 (by decide) (fun c5 => ?_) (fun c6 => ?_)
  · have H := Ha c5
    refine j_iload_n d_Hi_countPairs_69 rfl ?_
    exact j_iret rfl d_Hi_countPairs_70 H
  · have H := Hb c6
    refine j_iconst (v := 0) d_Hi_countPairs_15 (by decide) ?_
    refine j_istore (L' := [some (.ref a0), some (.int p1), some (.int p2), some (.int p3), some (.int ((0 : Int32)))]) d_Hi_countPairs_16 (by decide) rfl ?_
    exact H
theorem wp_Hi_countPairs_18 {E : EV} {G : GH} {Post : Res → GH → Prop} (a0 : Nat) (p1 : Int32) (p2 : Int32) (p3 : Int32) (p4 : Int32) (H : (p3 ≤ p4 → J E 4 m_Hi_countPairs 4 [some (.ref a0), some (.int p1), some (.int p2), some (.int ((p3 + (1 : Int32)))), none] [] G Post) ∧ (¬ p3 ≤ p4 → gT G a0 = 3 ∧ ∃ b2, gR G 128 a0 = some b2 ∧ gT G b2 = 12 ∧ ∃ b5, LG G b2 p3 b5 ∧ gT G b5 = 2 ∧ ∃ b8, LG G b2 p4 b8 ∧ gT G b8 = 2 ∧ (¬ ((gI G 64 b5) + (gI G 64 b8)) = (1 : Int32) → ((gI G 65 b8) ≤ (gI G 65 b5) → J E 4 m_Hi_countPairs 18 [some (.ref a0), some (.int p1), some (.int p2), some (.int p3), some (.int ((p4 + (1 : Int32))))] [] G Post) ∧ (¬ (gI G 65 b8) ≤ (gI G 65 b5) → J E 4 m_Hi_countPairs 18 [some (.ref a0), some (.int p1), some (.int p2), some (.int p3), some (.int ((p4 + (1 : Int32))))] [] G Post)) ∧ (((gI G 64 b5) + (gI G 64 b8)) = (1 : Int32) → ((gI G 65 b8) ≤ (gI G 65 b5) → (¬ (gI G 66 b5) = (gI G 66 b8) → J E 4 m_Hi_countPairs 18 [some (.ref a0), some (.int p1), some (.int p2), some (.int p3), some (.int ((p4 + (1 : Int32))))] [] G Post) ∧ ((gI G 66 b5) = (gI G 66 b8) → (p1 < ((gI G 65 b5) - (gI G 65 b8)) → J E 4 m_Hi_countPairs 18 [some (.ref a0), some (.int p1), some (.int p2), some (.int p3), some (.int ((p4 + (1 : Int32))))] [] G Post) ∧ (¬ p1 < ((gI G 65 b5) - (gI G 65 b8)) → ((gI G 68 b5) ≤ (gI G 65 b5) → ((gI G 68 b8) ≤ (gI G 65 b8) → J E 4 m_Hi_countPairs 18 [some (.ref a0), some (.int p1), some (.int ((p2 + (1 : Int32)))), some (.int p3), some (.int ((p4 + (1 : Int32))))] [] G Post) ∧ (¬ (gI G 68 b8) ≤ (gI G 65 b8) → J E 4 m_Hi_countPairs 18 [some (.ref a0), some (.int p1), some (.int p2), some (.int p3), some (.int ((p4 + (1 : Int32))))] [] G Post)) ∧ (¬ (gI G 68 b5) ≤ (gI G 65 b5) → J E 4 m_Hi_countPairs 18 [some (.ref a0), some (.int p1), some (.int p2), some (.int p3), some (.int ((p4 + (1 : Int32))))] [] G Post)))) ∧ (¬ (gI G 65 b8) ≤ (gI G 65 b5) → (¬ (gI G 66 b5) = (gI G 66 b8) → J E 4 m_Hi_countPairs 18 [some (.ref a0), some (.int p1), some (.int p2), some (.int p3), some (.int ((p4 + (1 : Int32))))] [] G Post) ∧ ((gI G 66 b5) = (gI G 66 b8) → (p1 < ((gI G 65 b8) - (gI G 65 b5)) → J E 4 m_Hi_countPairs 18 [some (.ref a0), some (.int p1), some (.int p2), some (.int p3), some (.int ((p4 + (1 : Int32))))] [] G Post) ∧ (¬ p1 < ((gI G 65 b8) - (gI G 65 b5)) → ((gI G 68 b5) ≤ (gI G 65 b5) → ((gI G 68 b8) ≤ (gI G 65 b8) → J E 4 m_Hi_countPairs 18 [some (.ref a0), some (.int p1), some (.int ((p2 + (1 : Int32)))), some (.int p3), some (.int ((p4 + (1 : Int32))))] [] G Post) ∧ (¬ (gI G 68 b8) ≤ (gI G 65 b8) → J E 4 m_Hi_countPairs 18 [some (.ref a0), some (.int p1), some (.int p2), some (.int p3), some (.int ((p4 + (1 : Int32))))] [] G Post)) ∧ (¬ (gI G 68 b5) ≤ (gI G 65 b5) → J E 4 m_Hi_countPairs 18 [some (.ref a0), some (.int p1), some (.int p2), some (.int p3), some (.int ((p4 + (1 : Int32))))] [] G Post))))))) : J E 4 m_Hi_countPairs 18 [some (.ref a0), some (.int p1), some (.int p2), some (.int p3), some (.int p4)] [] G Post := by
  refine j_iload d_Hi_countPairs_18 rfl ?_
  refine j_iload_n d_Hi_countPairs_20 rfl ?_
  obtain ⟨Ha, Hb⟩ := H
  refine j_icmp_ge (tgt := 63) d_Hi_countPairs_21 (by decide) (fun c33 => ?_) (fun c34 => ?_)
  · have H := Ha c33
    refine j_iinc (v := (p3 + (1 : Int32))) (L' := [some (.ref a0), some (.int p1), some (.int p2), some (.int ((p3 + (1 : Int32)))), some (.int p4)]) d_Hi_countPairs_63 rfl (by rw [show Int32.ofInt (1) = (1 : Int32) by decide]) (by decide) rfl ?_
    refine j_goto (tgt := 4) d_Hi_countPairs_66 (by decide) ?_
    refine j_forget (L' := [some (.ref a0), some (.int p1), some (.int p2), some (.int ((p3 + (1 : Int32)))), none]) ⟨Or.inr rfl, Or.inr rfl, Or.inr rfl, Or.inr rfl, Or.inl rfl, trivial⟩ ?_
    exact H
  · have H := Hb c34
    refine j_aload_n d_Hi_countPairs_24 rfl ?_
    obtain ⟨t1, H⟩ := H
    obtain ⟨b2, e3, H⟩ := H
    refine j_getR (f := 128) (b := b2) fe_Hi_12 rfl rfl t1 e3 d_Hi_countPairs_25 ?_
    refine j_iload_n d_Hi_countPairs_28 rfl ?_
    obtain ⟨t4, H⟩ := H
    obtain ⟨b5, g6, H⟩ := H
    refine j_callV (d' := 3) (ci := 11) (As := [.int p3]) (rest := []) (b := b2) cv_Hi_40 me_AL_get rfl (by decide) rfl rfl t4 rfl rfl (Nat.le_of_ble_eq_true rfl) d_Hi_countPairs_29 (by decide) rfl (c_AL_get g6 ?_)
    show J E 4 m_Hi_countPairs 32 [some (.ref a0), some (.int p1), some (.int p2), some (.int p3), some (.int p4)] [.ref b5] G Post
    obtain ⟨t7, H⟩ := H
    refine j_cast (ci := 1) rfl kl_Hi_43 t7 d_Hi_countPairs_32 ?_
    refine j_aload_n d_Hi_countPairs_35 rfl ?_
    refine j_getR (f := 128) (b := b2) fe_Hi_12 rfl rfl t1 e3 d_Hi_countPairs_36 ?_
    refine j_iload d_Hi_countPairs_39 rfl ?_
    obtain ⟨b8, g9, H⟩ := H
    refine j_callV (d' := 3) (ci := 11) (As := [.int p4]) (rest := [.ref b5]) (b := b2) cv_Hi_40 me_AL_get rfl (by decide) rfl rfl t4 rfl rfl (Nat.le_of_ble_eq_true rfl) d_Hi_countPairs_41 (by decide) rfl (c_AL_get g9 ?_)
    show J E 4 m_Hi_countPairs 44 [some (.ref a0), some (.int p1), some (.int p2), some (.int p3), some (.int p4)] [.ref b8, .ref b5] G Post
    obtain ⟨t10, H⟩ := H
    refine j_cast (ci := 1) rfl kl_Hi_43 t10 d_Hi_countPairs_44 ?_
    refine j_iload_n d_Hi_countPairs_47 rfl ?_
    refine j_callV (d' := 2) (ci := 1) (As := [.ref b8, .int p1]) (rest := []) (b := b5) cv_Hi_45 me_Ev_isPairWith rfl (by decide) rfl rfl t7 rfl rfl (Nat.le_of_ble_eq_true rfl) d_Hi_countPairs_48 (by decide) rfl (j_enter (L := [some (.ref b5), some (.ref b8), some (.int p1), none, none]) me_Ev_isPairWith (cat_c rfl (cat_c rfl (cat_c rfl cat_n))) (Nat.le_of_ble_eq_true rfl) rfl ?_)
    refine j_aload_n d_Ev_isPairWith_0 rfl ?_
    refine j_getI (f := 64) fe_Ev_15 rfl rfl t7 d_Ev_isPairWith_1 ?_
    refine j_aload_n d_Ev_isPairWith_4 rfl ?_
    refine j_getI (f := 64) fe_Ev_15 rfl rfl t10 d_Ev_isPairWith_5 ?_
    refine j_iadd d_Ev_isPairWith_8 ?_
    refine j_iconst (v := 1) d_Ev_isPairWith_9 (by decide) ?_
    obtain ⟨Ha, Hb⟩ := H
    refine j_icmp_ne (tgt := 17) d_Ev_isPairWith_10 (by decide) (fun c31 => ?_) (fun c32 => ?_)
    · have H := Ha c31
      refine j_iconst (v := 0) d_Ev_isPairWith_17 (by decide) ?_
      refine j_istore_n (L' := [some (.ref b5), some (.ref b8), some (.int p1), some (.int ((0 : Int32))), none]) d_Ev_isPairWith_18 (by decide) rfl ?_
      refine j_aload_n d_Ev_isPairWith_19 rfl ?_
      refine j_getI (f := 65) fe_Ev_18 rfl rfl t7 d_Ev_isPairWith_20 ?_
      refine j_aload_n d_Ev_isPairWith_23 rfl ?_
      refine j_getI (f := 65) fe_Ev_18 rfl rfl t10 d_Ev_isPairWith_24 ?_
      obtain ⟨Ha, Hb⟩ := H
      refine j_icmp_ge (tgt := 42) d_Ev_isPairWith_27 (by decide) (fun c11 => ?_) (fun c12 => ?_)
      · have H := Ha c11
        refine j_aload_n d_Ev_isPairWith_42 rfl ?_
        refine j_getI (f := 65) fe_Ev_18 rfl rfl t7 d_Ev_isPairWith_43 ?_
        refine j_aload_n d_Ev_isPairWith_46 rfl ?_
        refine j_getI (f := 65) fe_Ev_18 rfl rfl t10 d_Ev_isPairWith_47 ?_
        refine j_isub d_Ev_isPairWith_50 ?_
        refine j_istore (L' := [some (.ref b5), some (.ref b8), some (.int p1), some (.int ((0 : Int32))), some (.int (((gI G 65 b5) - (gI G 65 b8))))]) d_Ev_isPairWith_51 (by decide) rfl ?_
        refine j_iload_n d_Ev_isPairWith_53 rfl ?_
        refine j_if_eq (tgt := 92) d_Ev_isPairWith_54 (by decide) (fun _ => ?_) (fun c => absurd c (by decide))
        refine j_iconst (v := 0) d_Ev_isPairWith_92 (by decide) ?_
        refine j_zret rfl (by decide) d_Ev_isPairWith_93 ?_
        show J E 4 m_Hi_countPairs 51 [some (.ref a0), some (.int p1), some (.int p2), some (.int p3), some (.int p4)] [.int ((0 : Int32))] G Post
        refine j_if_eq (tgt := 57) d_Hi_countPairs_51 (by decide) (fun _ => ?_) (fun c => absurd c (by decide))
        refine j_iinc (v := (p4 + (1 : Int32))) (L' := [some (.ref a0), some (.int p1), some (.int p2), some (.int p3), some (.int ((p4 + (1 : Int32))))]) d_Hi_countPairs_57 rfl (by rw [show Int32.ofInt (1) = (1 : Int32) by decide]) (by decide) rfl ?_
        refine j_goto (tgt := 18) d_Hi_countPairs_60 (by decide) ?_
        exact H
      · have H := Hb c12
        refine j_aload_n d_Ev_isPairWith_30 rfl ?_
        refine j_getI (f := 65) fe_Ev_18 rfl rfl t10 d_Ev_isPairWith_31 ?_
        refine j_aload_n d_Ev_isPairWith_34 rfl ?_
        refine j_getI (f := 65) fe_Ev_18 rfl rfl t7 d_Ev_isPairWith_35 ?_
        refine j_isub d_Ev_isPairWith_38 ?_
        refine j_goto (tgt := 51) d_Ev_isPairWith_39 (by decide) ?_
        refine j_istore (L' := [some (.ref b5), some (.ref b8), some (.int p1), some (.int ((0 : Int32))), some (.int (((gI G 65 b8) - (gI G 65 b5))))]) d_Ev_isPairWith_51 (by decide) rfl ?_
        refine j_iload_n d_Ev_isPairWith_53 rfl ?_
        refine j_if_eq (tgt := 92) d_Ev_isPairWith_54 (by decide) (fun _ => ?_) (fun c => absurd c (by decide))
        refine j_iconst (v := 0) d_Ev_isPairWith_92 (by decide) ?_
        refine j_zret rfl (by decide) d_Ev_isPairWith_93 ?_
        show J E 4 m_Hi_countPairs 51 [some (.ref a0), some (.int p1), some (.int p2), some (.int p3), some (.int p4)] [.int ((0 : Int32))] G Post
        refine j_if_eq (tgt := 57) d_Hi_countPairs_51 (by decide) (fun _ => ?_) (fun c => absurd c (by decide))
        refine j_iinc (v := (p4 + (1 : Int32))) (L' := [some (.ref a0), some (.int p1), some (.int p2), some (.int p3), some (.int ((p4 + (1 : Int32))))]) d_Hi_countPairs_57 rfl (by rw [show Int32.ofInt (1) = (1 : Int32) by decide]) (by decide) rfl ?_
        refine j_goto (tgt := 18) d_Hi_countPairs_60 (by decide) ?_
        exact H
    · have H := Hb c32
      refine j_iconst (v := 1) d_Ev_isPairWith_13 (by decide) ?_
      refine j_goto (tgt := 18) d_Ev_isPairWith_14 (by decide) ?_
      refine j_istore_n (L' := [some (.ref b5), some (.ref b8), some (.int p1), some (.int ((1 : Int32))), none]) d_Ev_isPairWith_18 (by decide) rfl ?_
      refine j_aload_n d_Ev_isPairWith_19 rfl ?_
      refine j_getI (f := 65) fe_Ev_18 rfl rfl t7 d_Ev_isPairWith_20 ?_
      refine j_aload_n d_Ev_isPairWith_23 rfl ?_
      refine j_getI (f := 65) fe_Ev_18 rfl rfl t10 d_Ev_isPairWith_24 ?_
      obtain ⟨Ha, Hb⟩ := H
      refine j_icmp_ge (tgt := 42) d_Ev_isPairWith_27 (by decide) (fun c29 => ?_) (fun c30 => ?_)
      · have H := Ha c29
        refine j_aload_n d_Ev_isPairWith_42 rfl ?_
        refine j_getI (f := 65) fe_Ev_18 rfl rfl t7 d_Ev_isPairWith_43 ?_
        refine j_aload_n d_Ev_isPairWith_46 rfl ?_
        refine j_getI (f := 65) fe_Ev_18 rfl rfl t10 d_Ev_isPairWith_47 ?_
        refine j_isub d_Ev_isPairWith_50 ?_
        refine j_istore (L' := [some (.ref b5), some (.ref b8), some (.int p1), some (.int ((1 : Int32))), some (.int (((gI G 65 b5) - (gI G 65 b8))))]) d_Ev_isPairWith_51 (by decide) rfl ?_
        refine j_iload_n d_Ev_isPairWith_53 rfl ?_
        refine j_if_eq (tgt := 92) d_Ev_isPairWith_54 (by decide) (fun c => absurd c (by decide)) (fun _ => ?_)
        refine j_aload_n d_Ev_isPairWith_57 rfl ?_
        refine j_getI (f := 66) fe_Ev_21 rfl rfl t7 d_Ev_isPairWith_58 ?_
        refine j_aload_n d_Ev_isPairWith_61 rfl ?_
        refine j_getI (f := 66) fe_Ev_21 rfl rfl t10 d_Ev_isPairWith_62 ?_
        obtain ⟨Ha, Hb⟩ := H
        refine j_icmp_ne (tgt := 92) d_Ev_isPairWith_65 (by decide) (fun c19 => ?_) (fun c20 => ?_)
        · have H := Ha c19
          refine j_iconst (v := 0) d_Ev_isPairWith_92 (by decide) ?_
          refine j_zret rfl (by decide) d_Ev_isPairWith_93 ?_
          show J E 4 m_Hi_countPairs 51 [some (.ref a0), some (.int p1), some (.int p2), some (.int p3), some (.int p4)] [.int ((0 : Int32))] G Post
          refine j_if_eq (tgt := 57) d_Hi_countPairs_51 (by decide) (fun _ => ?_) (fun c => absurd c (by decide))
          refine j_iinc (v := (p4 + (1 : Int32))) (L' := [some (.ref a0), some (.int p1), some (.int p2), some (.int p3), some (.int ((p4 + (1 : Int32))))]) d_Hi_countPairs_57 rfl (by rw [show Int32.ofInt (1) = (1 : Int32) by decide]) (by decide) rfl ?_
          refine j_goto (tgt := 18) d_Hi_countPairs_60 (by decide) ?_
          exact H
        · have H := Hb c20
          refine j_iload d_Ev_isPairWith_68 rfl ?_
          refine j_iload_n d_Ev_isPairWith_70 rfl ?_
          obtain ⟨Ha, Hb⟩ := H
          refine j_icmp_gt (tgt := 92) d_Ev_isPairWith_71 (by decide) (fun c17 => ?_) (fun c18 => ?_)
          · have H := Ha c17
            refine j_iconst (v := 0) d_Ev_isPairWith_92 (by decide) ?_
            refine j_zret rfl (by decide) d_Ev_isPairWith_93 ?_
            show J E 4 m_Hi_countPairs 51 [some (.ref a0), some (.int p1), some (.int p2), some (.int p3), some (.int p4)] [.int ((0 : Int32))] G Post
            refine j_if_eq (tgt := 57) d_Hi_countPairs_51 (by decide) (fun _ => ?_) (fun c => absurd c (by decide))
            refine j_iinc (v := (p4 + (1 : Int32))) (L' := [some (.ref a0), some (.int p1), some (.int p2), some (.int p3), some (.int ((p4 + (1 : Int32))))]) d_Hi_countPairs_57 rfl (by rw [show Int32.ofInt (1) = (1 : Int32) by decide]) (by decide) rfl ?_
            refine j_goto (tgt := 18) d_Hi_countPairs_60 (by decide) ?_
            exact H
          · have H := Hb c18
            refine j_aload_n d_Ev_isPairWith_74 rfl ?_
            refine j_callV (d' := 1) (ci := 1) (As := []) (rest := []) (b := b5) cv_Ev_27 me_Ev_isLate rfl (by decide) rfl rfl t7 rfl rfl (Nat.le_of_ble_eq_true rfl) d_Ev_isPairWith_75 (by decide) rfl (j_enter (L := [some (.ref b5)]) me_Ev_isLate (cat_c rfl cat_n) (Nat.le_of_ble_eq_true rfl) rfl ?_)
            refine j_aload_n d_Ev_isLate_0 rfl ?_
            refine j_getI (f := 65) fe_Ev_18 rfl rfl t7 d_Ev_isLate_1 ?_
            refine j_aload_n d_Ev_isLate_4 rfl ?_
            refine j_getI (f := 68) fe_Ev_9 rfl rfl t7 d_Ev_isLate_5 ?_
            obtain ⟨Ha, Hb⟩ := H
            refine j_icmp_ge (tgt := 15) d_Ev_isLate_8 (by decide) (fun c15 => ?_) (fun c16 => ?_)
            · have H := Ha c15
              refine j_iconst (v := 0) d_Ev_isLate_15 (by decide) ?_
              refine j_zret rfl (by decide) d_Ev_isLate_16 ?_
              show J E 2 m_Ev_isPairWith 78 [some (.ref b5), some (.ref b8), some (.int p1), some (.int ((1 : Int32))), some (.int (((gI G 65 b5) - (gI G 65 b8))))] [.int ((0 : Int32))] G (aft E 4 m_Hi_countPairs 48 [some (.ref a0), some (.int p1), some (.int p2), some (.int p3), some (.int p4)] [] Post)
              refine j_if_ne (tgt := 92) d_Ev_isPairWith_78 (by decide) (fun c => absurd c (by decide)) (fun _ => ?_)
              refine j_aload_n d_Ev_isPairWith_81 rfl ?_
              refine j_callV (d' := 1) (ci := 1) (As := []) (rest := []) (b := b8) cv_Ev_27 me_Ev_isLate rfl (by decide) rfl rfl t10 rfl rfl (Nat.le_of_ble_eq_true rfl) d_Ev_isPairWith_82 (by decide) rfl (j_enter (L := [some (.ref b8)]) me_Ev_isLate (cat_c rfl cat_n) (Nat.le_of_ble_eq_true rfl) rfl ?_)
              refine j_aload_n d_Ev_isLate_0 rfl ?_
              refine j_getI (f := 65) fe_Ev_18 rfl rfl t10 d_Ev_isLate_1 ?_
              refine j_aload_n d_Ev_isLate_4 rfl ?_
              refine j_getI (f := 68) fe_Ev_9 rfl rfl t10 d_Ev_isLate_5 ?_
              obtain ⟨Ha, Hb⟩ := H
              refine j_icmp_ge (tgt := 15) d_Ev_isLate_8 (by decide) (fun c13 => ?_) (fun c14 => ?_)
              · have H := Ha c13
                refine j_iconst (v := 0) d_Ev_isLate_15 (by decide) ?_
                refine j_zret rfl (by decide) d_Ev_isLate_16 ?_
                show J E 2 m_Ev_isPairWith 85 [some (.ref b5), some (.ref b8), some (.int p1), some (.int ((1 : Int32))), some (.int (((gI G 65 b5) - (gI G 65 b8))))] [.int ((0 : Int32))] G (aft E 4 m_Hi_countPairs 48 [some (.ref a0), some (.int p1), some (.int p2), some (.int p3), some (.int p4)] [] Post)
                refine j_if_ne (tgt := 92) d_Ev_isPairWith_85 (by decide) (fun c => absurd c (by decide)) (fun _ => ?_)
                refine j_iconst (v := 1) d_Ev_isPairWith_88 (by decide) ?_
                refine j_goto (tgt := 93) d_Ev_isPairWith_89 (by decide) ?_
                refine j_zret rfl (by decide) d_Ev_isPairWith_93 ?_
                show J E 4 m_Hi_countPairs 51 [some (.ref a0), some (.int p1), some (.int p2), some (.int p3), some (.int p4)] [.int ((1 : Int32))] G Post
                refine j_if_eq (tgt := 57) d_Hi_countPairs_51 (by decide) (fun c => absurd c (by decide)) (fun _ => ?_)
                refine j_iinc (v := (p2 + (1 : Int32))) (L' := [some (.ref a0), some (.int p1), some (.int ((p2 + (1 : Int32)))), some (.int p3), some (.int p4)]) d_Hi_countPairs_54 rfl (by rw [show Int32.ofInt (1) = (1 : Int32) by decide]) (by decide) rfl ?_
                refine j_iinc (v := (p4 + (1 : Int32))) (L' := [some (.ref a0), some (.int p1), some (.int ((p2 + (1 : Int32)))), some (.int p3), some (.int ((p4 + (1 : Int32))))]) d_Hi_countPairs_57 rfl (by rw [show Int32.ofInt (1) = (1 : Int32) by decide]) (by decide) rfl ?_
                refine j_goto (tgt := 18) d_Hi_countPairs_60 (by decide) ?_
                exact H
              · have H := Hb c14
                refine j_iconst (v := 1) d_Ev_isLate_11 (by decide) ?_
                refine j_goto (tgt := 16) d_Ev_isLate_12 (by decide) ?_
                refine j_zret rfl (by decide) d_Ev_isLate_16 ?_
                show J E 2 m_Ev_isPairWith 85 [some (.ref b5), some (.ref b8), some (.int p1), some (.int ((1 : Int32))), some (.int (((gI G 65 b5) - (gI G 65 b8))))] [.int ((1 : Int32))] G (aft E 4 m_Hi_countPairs 48 [some (.ref a0), some (.int p1), some (.int p2), some (.int p3), some (.int p4)] [] Post)
                refine j_if_ne (tgt := 92) d_Ev_isPairWith_85 (by decide) (fun _ => ?_) (fun c => absurd c (by decide))
                refine j_iconst (v := 0) d_Ev_isPairWith_92 (by decide) ?_
                refine j_zret rfl (by decide) d_Ev_isPairWith_93 ?_
                show J E 4 m_Hi_countPairs 51 [some (.ref a0), some (.int p1), some (.int p2), some (.int p3), some (.int p4)] [.int ((0 : Int32))] G Post
                refine j_if_eq (tgt := 57) d_Hi_countPairs_51 (by decide) (fun _ => ?_) (fun c => absurd c (by decide))
                refine j_iinc (v := (p4 + (1 : Int32))) (L' := [some (.ref a0), some (.int p1), some (.int p2), some (.int p3), some (.int ((p4 + (1 : Int32))))]) d_Hi_countPairs_57 rfl (by rw [show Int32.ofInt (1) = (1 : Int32) by decide]) (by decide) rfl ?_
                refine j_goto (tgt := 18) d_Hi_countPairs_60 (by decide) ?_
                exact H
            · have H := Hb c16
              refine j_iconst (v := 1) d_Ev_isLate_11 (by decide) ?_
              refine j_goto (tgt := 16) d_Ev_isLate_12 (by decide) ?_
              refine j_zret rfl (by decide) d_Ev_isLate_16 ?_
              show J E 2 m_Ev_isPairWith 78 [some (.ref b5), some (.ref b8), some (.int p1), some (.int ((1 : Int32))), some (.int (((gI G 65 b5) - (gI G 65 b8))))] [.int ((1 : Int32))] G (aft E 4 m_Hi_countPairs 48 [some (.ref a0), some (.int p1), some (.int p2), some (.int p3), some (.int p4)] [] Post)
              refine j_if_ne (tgt := 92) d_Ev_isPairWith_78 (by decide) (fun _ => ?_) (fun c => absurd c (by decide))
              refine j_iconst (v := 0) d_Ev_isPairWith_92 (by decide) ?_
              refine j_zret rfl (by decide) d_Ev_isPairWith_93 ?_
              show J E 4 m_Hi_countPairs 51 [some (.ref a0), some (.int p1), some (.int p2), some (.int p3), some (.int p4)] [.int ((0 : Int32))] G Post
              refine j_if_eq (tgt := 57) d_Hi_countPairs_51 (by decide) (fun _ => ?_) (fun c => absurd c (by decide))
              refine j_iinc (v := (p4 + (1 : Int32))) (L' := [some (.ref a0), some (.int p1), some (.int p2), some (.int p3), some (.int ((p4 + (1 : Int32))))]) d_Hi_countPairs_57 rfl (by rw [show Int32.ofInt (1) = (1 : Int32) by decide]) (by decide) rfl ?_
              refine j_goto (tgt := 18) d_Hi_countPairs_60 (by decide) ?_
              exact H
      · have H := Hb c30
        refine j_aload_n d_Ev_isPairWith_30 rfl ?_
        refine j_getI (f := 65) fe_Ev_18 rfl rfl t10 d_Ev_isPairWith_31 ?_
        refine j_aload_n d_Ev_isPairWith_34 rfl ?_
        refine j_getI (f := 65) fe_Ev_18 rfl rfl t7 d_Ev_isPairWith_35 ?_
        refine j_isub d_Ev_isPairWith_38 ?_
        refine j_goto (tgt := 51) d_Ev_isPairWith_39 (by decide) ?_
        refine j_istore (L' := [some (.ref b5), some (.ref b8), some (.int p1), some (.int ((1 : Int32))), some (.int (((gI G 65 b8) - (gI G 65 b5))))]) d_Ev_isPairWith_51 (by decide) rfl ?_
        refine j_iload_n d_Ev_isPairWith_53 rfl ?_
        refine j_if_eq (tgt := 92) d_Ev_isPairWith_54 (by decide) (fun c => absurd c (by decide)) (fun _ => ?_)
        refine j_aload_n d_Ev_isPairWith_57 rfl ?_
        refine j_getI (f := 66) fe_Ev_21 rfl rfl t7 d_Ev_isPairWith_58 ?_
        refine j_aload_n d_Ev_isPairWith_61 rfl ?_
        refine j_getI (f := 66) fe_Ev_21 rfl rfl t10 d_Ev_isPairWith_62 ?_
        obtain ⟨Ha, Hb⟩ := H
        refine j_icmp_ne (tgt := 92) d_Ev_isPairWith_65 (by decide) (fun c27 => ?_) (fun c28 => ?_)
        · have H := Ha c27
          refine j_iconst (v := 0) d_Ev_isPairWith_92 (by decide) ?_
          refine j_zret rfl (by decide) d_Ev_isPairWith_93 ?_
          show J E 4 m_Hi_countPairs 51 [some (.ref a0), some (.int p1), some (.int p2), some (.int p3), some (.int p4)] [.int ((0 : Int32))] G Post
          refine j_if_eq (tgt := 57) d_Hi_countPairs_51 (by decide) (fun _ => ?_) (fun c => absurd c (by decide))
          refine j_iinc (v := (p4 + (1 : Int32))) (L' := [some (.ref a0), some (.int p1), some (.int p2), some (.int p3), some (.int ((p4 + (1 : Int32))))]) d_Hi_countPairs_57 rfl (by rw [show Int32.ofInt (1) = (1 : Int32) by decide]) (by decide) rfl ?_
          refine j_goto (tgt := 18) d_Hi_countPairs_60 (by decide) ?_
          exact H
        · have H := Hb c28
          refine j_iload d_Ev_isPairWith_68 rfl ?_
          refine j_iload_n d_Ev_isPairWith_70 rfl ?_
          obtain ⟨Ha, Hb⟩ := H
          refine j_icmp_gt (tgt := 92) d_Ev_isPairWith_71 (by decide) (fun c25 => ?_) (fun c26 => ?_)
          · have H := Ha c25
            refine j_iconst (v := 0) d_Ev_isPairWith_92 (by decide) ?_
            refine j_zret rfl (by decide) d_Ev_isPairWith_93 ?_
            show J E 4 m_Hi_countPairs 51 [some (.ref a0), some (.int p1), some (.int p2), some (.int p3), some (.int p4)] [.int ((0 : Int32))] G Post
            refine j_if_eq (tgt := 57) d_Hi_countPairs_51 (by decide) (fun _ => ?_) (fun c => absurd c (by decide))
            refine j_iinc (v := (p4 + (1 : Int32))) (L' := [some (.ref a0), some (.int p1), some (.int p2), some (.int p3), some (.int ((p4 + (1 : Int32))))]) d_Hi_countPairs_57 rfl (by rw [show Int32.ofInt (1) = (1 : Int32) by decide]) (by decide) rfl ?_
            refine j_goto (tgt := 18) d_Hi_countPairs_60 (by decide) ?_
            exact H
          · have H := Hb c26
            refine j_aload_n d_Ev_isPairWith_74 rfl ?_
            refine j_callV (d' := 1) (ci := 1) (As := []) (rest := []) (b := b5) cv_Ev_27 me_Ev_isLate rfl (by decide) rfl rfl t7 rfl rfl (Nat.le_of_ble_eq_true rfl) d_Ev_isPairWith_75 (by decide) rfl (j_enter (L := [some (.ref b5)]) me_Ev_isLate (cat_c rfl cat_n) (Nat.le_of_ble_eq_true rfl) rfl ?_)
            refine j_aload_n d_Ev_isLate_0 rfl ?_
            refine j_getI (f := 65) fe_Ev_18 rfl rfl t7 d_Ev_isLate_1 ?_
            refine j_aload_n d_Ev_isLate_4 rfl ?_
            refine j_getI (f := 68) fe_Ev_9 rfl rfl t7 d_Ev_isLate_5 ?_
            obtain ⟨Ha, Hb⟩ := H
            refine j_icmp_ge (tgt := 15) d_Ev_isLate_8 (by decide) (fun c23 => ?_) (fun c24 => ?_)
            · have H := Ha c23
              refine j_iconst (v := 0) d_Ev_isLate_15 (by decide) ?_
              refine j_zret rfl (by decide) d_Ev_isLate_16 ?_
              show J E 2 m_Ev_isPairWith 78 [some (.ref b5), some (.ref b8), some (.int p1), some (.int ((1 : Int32))), some (.int (((gI G 65 b8) - (gI G 65 b5))))] [.int ((0 : Int32))] G (aft E 4 m_Hi_countPairs 48 [some (.ref a0), some (.int p1), some (.int p2), some (.int p3), some (.int p4)] [] Post)
              refine j_if_ne (tgt := 92) d_Ev_isPairWith_78 (by decide) (fun c => absurd c (by decide)) (fun _ => ?_)
              refine j_aload_n d_Ev_isPairWith_81 rfl ?_
              refine j_callV (d' := 1) (ci := 1) (As := []) (rest := []) (b := b8) cv_Ev_27 me_Ev_isLate rfl (by decide) rfl rfl t10 rfl rfl (Nat.le_of_ble_eq_true rfl) d_Ev_isPairWith_82 (by decide) rfl (j_enter (L := [some (.ref b8)]) me_Ev_isLate (cat_c rfl cat_n) (Nat.le_of_ble_eq_true rfl) rfl ?_)
              refine j_aload_n d_Ev_isLate_0 rfl ?_
              refine j_getI (f := 65) fe_Ev_18 rfl rfl t10 d_Ev_isLate_1 ?_
              refine j_aload_n d_Ev_isLate_4 rfl ?_
              refine j_getI (f := 68) fe_Ev_9 rfl rfl t10 d_Ev_isLate_5 ?_
              obtain ⟨Ha, Hb⟩ := H
              refine j_icmp_ge (tgt := 15) d_Ev_isLate_8 (by decide) (fun c21 => ?_) (fun c22 => ?_)
              · have H := Ha c21
                refine j_iconst (v := 0) d_Ev_isLate_15 (by decide) ?_
                refine j_zret rfl (by decide) d_Ev_isLate_16 ?_
                show J E 2 m_Ev_isPairWith 85 [some (.ref b5), some (.ref b8), some (.int p1), some (.int ((1 : Int32))), some (.int (((gI G 65 b8) - (gI G 65 b5))))] [.int ((0 : Int32))] G (aft E 4 m_Hi_countPairs 48 [some (.ref a0), some (.int p1), some (.int p2), some (.int p3), some (.int p4)] [] Post)
                refine j_if_ne (tgt := 92) d_Ev_isPairWith_85 (by decide) (fun c => absurd c (by decide)) (fun _ => ?_)
                refine j_iconst (v := 1) d_Ev_isPairWith_88 (by decide) ?_
                refine j_goto (tgt := 93) d_Ev_isPairWith_89 (by decide) ?_
                refine j_zret rfl (by decide) d_Ev_isPairWith_93 ?_
                show J E 4 m_Hi_countPairs 51 [some (.ref a0), some (.int p1), some (.int p2), some (.int p3), some (.int p4)] [.int ((1 : Int32))] G Post
                refine j_if_eq (tgt := 57) d_Hi_countPairs_51 (by decide) (fun c => absurd c (by decide)) (fun _ => ?_)
                refine j_iinc (v := (p2 + (1 : Int32))) (L' := [some (.ref a0), some (.int p1), some (.int ((p2 + (1 : Int32)))), some (.int p3), some (.int p4)]) d_Hi_countPairs_54 rfl (by rw [show Int32.ofInt (1) = (1 : Int32) by decide]) (by decide) rfl ?_
                refine j_iinc (v := (p4 + (1 : Int32))) (L' := [some (.ref a0), some (.int p1), some (.int ((p2 + (1 : Int32)))), some (.int p3), some (.int ((p4 + (1 : Int32))))]) d_Hi_countPairs_57 rfl (by rw [show Int32.ofInt (1) = (1 : Int32) by decide]) (by decide) rfl ?_
                refine j_goto (tgt := 18) d_Hi_countPairs_60 (by decide) ?_
                exact H
              · have H := Hb c22
                refine j_iconst (v := 1) d_Ev_isLate_11 (by decide) ?_
                refine j_goto (tgt := 16) d_Ev_isLate_12 (by decide) ?_
                refine j_zret rfl (by decide) d_Ev_isLate_16 ?_
                show J E 2 m_Ev_isPairWith 85 [some (.ref b5), some (.ref b8), some (.int p1), some (.int ((1 : Int32))), some (.int (((gI G 65 b8) - (gI G 65 b5))))] [.int ((1 : Int32))] G (aft E 4 m_Hi_countPairs 48 [some (.ref a0), some (.int p1), some (.int p2), some (.int p3), some (.int p4)] [] Post)
                refine j_if_ne (tgt := 92) d_Ev_isPairWith_85 (by decide) (fun _ => ?_) (fun c => absurd c (by decide))
                refine j_iconst (v := 0) d_Ev_isPairWith_92 (by decide) ?_
                refine j_zret rfl (by decide) d_Ev_isPairWith_93 ?_
                show J E 4 m_Hi_countPairs 51 [some (.ref a0), some (.int p1), some (.int p2), some (.int p3), some (.int p4)] [.int ((0 : Int32))] G Post
                refine j_if_eq (tgt := 57) d_Hi_countPairs_51 (by decide) (fun _ => ?_) (fun c => absurd c (by decide))
                refine j_iinc (v := (p4 + (1 : Int32))) (L' := [some (.ref a0), some (.int p1), some (.int p2), some (.int p3), some (.int ((p4 + (1 : Int32))))]) d_Hi_countPairs_57 rfl (by rw [show Int32.ofInt (1) = (1 : Int32) by decide]) (by decide) rfl ?_
                refine j_goto (tgt := 18) d_Hi_countPairs_60 (by decide) ?_
                exact H
            · have H := Hb c24
              refine j_iconst (v := 1) d_Ev_isLate_11 (by decide) ?_
              refine j_goto (tgt := 16) d_Ev_isLate_12 (by decide) ?_
              refine j_zret rfl (by decide) d_Ev_isLate_16 ?_
              show J E 2 m_Ev_isPairWith 78 [some (.ref b5), some (.ref b8), some (.int p1), some (.int ((1 : Int32))), some (.int (((gI G 65 b8) - (gI G 65 b5))))] [.int ((1 : Int32))] G (aft E 4 m_Hi_countPairs 48 [some (.ref a0), some (.int p1), some (.int p2), some (.int p3), some (.int p4)] [] Post)
              refine j_if_ne (tgt := 92) d_Ev_isPairWith_78 (by decide) (fun _ => ?_) (fun c => absurd c (by decide))
              refine j_iconst (v := 0) d_Ev_isPairWith_92 (by decide) ?_
              refine j_zret rfl (by decide) d_Ev_isPairWith_93 ?_
              show J E 4 m_Hi_countPairs 51 [some (.ref a0), some (.int p1), some (.int p2), some (.int p3), some (.int p4)] [.int ((0 : Int32))] G Post
              refine j_if_eq (tgt := 57) d_Hi_countPairs_51 (by decide) (fun _ => ?_) (fun c => absurd c (by decide))
              refine j_iinc (v := (p4 + (1 : Int32))) (L' := [some (.ref a0), some (.int p1), some (.int p2), some (.int p3), some (.int ((p4 + (1 : Int32))))]) d_Hi_countPairs_57 rfl (by rw [show Int32.ofInt (1) = (1 : Int32) by decide]) (by decide) rfl ?_
              refine j_goto (tgt := 18) d_Hi_countPairs_60 (by decide) ?_
              exact H
theorem wp_Hi_admittedAt_0 {E : EV} {G : GH} {Post : Res → GH → Prop} (a0 : Nat) (p1 : Int32) (a2 : Nat) (p3 : Int32) (p4 : Int32) (H : (p1 < 0 → Post (.inl (some (.null))) G) ∧ (¬ p1 < 0 → gT G a0 = 3 ∧ ∃ b2, gR G 128 a0 = some b2 ∧ gT G b2 = 12 ∧ ((gI G 706 b2) ≤ p1 → Post (.inl (some (.null))) G) ∧ (¬ (gI G 706 b2) ≤ p1 → (p1 < (gI G 129 a0) → ∃ b5, LG G b2 p1 b5 ∧ gT G b5 = 2 ∧ (¬ (gI G 66 b5) = p3 → Post (.inl (some (.null))) G) ∧ ((gI G 66 b5) = p3 → gT G a2 = 4 ∧ (¬ (gI G 192 a2) = (2 : Int32) → ((p4 + (gI G 195 a2)) ≤ (gI G 68 b5) → Post (.inl (some (.null))) G) ∧ (¬ (p4 + (gI G 195 a2)) ≤ (gI G 68 b5) → Post (.inl (some (.ref b5))) G)) ∧ ((gI G 192 a2) = (2 : Int32) → ((((gI G 65 b5) + (gI G 193 a2)) + (gI G 195 a2)) ≤ (gI G 68 b5) → Post (.inl (some (.null))) G) ∧ (¬ (((gI G 65 b5) + (gI G 193 a2)) + (gI G 195 a2)) ≤ (gI G 68 b5) → Post (.inl (some (.ref b5))) G)))) ∧ (¬ p1 < (gI G 129 a0) → Post (.inl (some (.null))) G)))) : J E 4 m_Hi_admittedAt 0 [some (.ref a0), some (.int p1), some (.ref a2), some (.int p3), some (.int p4), none] [] G Post := by
  refine j_iload_n d_Hi_admittedAt_0 rfl ?_
  obtain ⟨Ha, Hb⟩ := H
  refine j_if_lt (tgt := 23) d_Hi_admittedAt_1 (by decide) (fun c21 => ?_) (fun c22 => ?_)
  · have H := Ha c21
    refine j_null d_Hi_admittedAt_23 ?_
    exact j_aret (x := none) rfl rfl (Or.inl ⟨_, rfl⟩) d_Hi_admittedAt_24 H
  · have H := Hb c22
    refine j_iload_n d_Hi_admittedAt_4 rfl ?_
    refine j_aload_n d_Hi_admittedAt_5 rfl ?_
    obtain ⟨t1, H⟩ := H
    obtain ⟨b2, e3, H⟩ := H
    refine j_getR (f := 128) (b := b2) fe_Hi_12 rfl rfl t1 e3 d_Hi_admittedAt_6 ?_
    obtain ⟨t4, H⟩ := H
    refine j_callV (d' := 1) (ci := 11) (As := []) (rest := [.int p1]) (b := b2) cv_Hi_32 me_AL_size rfl (by decide) rfl rfl t4 rfl rfl (Nat.le_of_ble_eq_true rfl) d_Hi_admittedAt_9 (by decide) rfl (j_enter (L := [some (.ref b2)]) me_AL_size (cat_c rfl cat_n) (Nat.le_of_ble_eq_true rfl) rfl ?_)
    refine j_aload_n d_AL_size_0 rfl ?_
    refine j_getI (f := 706) fe_AL_48 rfl rfl t4 d_AL_size_1 ?_
    refine j_iret rfl d_AL_size_4 ?_
    show J E 4 m_Hi_admittedAt 12 [some (.ref a0), some (.int p1), some (.ref a2), some (.int p3), some (.int p4), none] [.int ((gI G 706 b2)), .int p1] G Post
    obtain ⟨Ha, Hb⟩ := H
    refine j_icmp_ge (tgt := 23) d_Hi_admittedAt_12 (by decide) (fun c19 => ?_) (fun c20 => ?_)
    · have H := Ha c19
      refine j_null d_Hi_admittedAt_23 ?_
      exact j_aret (x := none) rfl rfl (Or.inl ⟨_, rfl⟩) d_Hi_admittedAt_24 H
    · have H := Hb c20
      refine j_iload_n d_Hi_admittedAt_15 rfl ?_
      refine j_aload_n d_Hi_admittedAt_16 rfl ?_
      refine j_getI (f := 129) fe_Hi_18 rfl rfl t1 d_Hi_admittedAt_17 ?_
      obtain ⟨Ha, Hb⟩ := H
      refine j_icmp_lt (tgt := 25) d_Hi_admittedAt_20 (by decide) (fun c17 => ?_) (fun c18 => ?_)
      · have H := Ha c17
        refine j_aload_n d_Hi_admittedAt_25 rfl ?_
        refine j_getR (f := 128) (b := b2) fe_Hi_12 rfl rfl t1 e3 d_Hi_admittedAt_26 ?_
        refine j_iload_n d_Hi_admittedAt_29 rfl ?_
        obtain ⟨b5, g6, H⟩ := H
        refine j_callV (d' := 3) (ci := 11) (As := [.int p1]) (rest := []) (b := b2) cv_Hi_40 me_AL_get rfl (by decide) rfl rfl t4 rfl rfl (Nat.le_of_ble_eq_true rfl) d_Hi_admittedAt_30 (by decide) rfl (c_AL_get g6 ?_)
        show J E 4 m_Hi_admittedAt 33 [some (.ref a0), some (.int p1), some (.ref a2), some (.int p3), some (.int p4), none] [.ref b5] G Post
        obtain ⟨t7, H⟩ := H
        refine j_cast (ci := 1) rfl kl_Hi_43 t7 d_Hi_admittedAt_33 ?_
        refine j_astore (x := (some b5)) (L' := [some (.ref a0), some (.int p1), some (.ref a2), some (.int p3), some (.int p4), some (.ref b5)]) rfl d_Hi_admittedAt_36 (by decide) rfl ?_
        refine j_aload d_Hi_admittedAt_38 rfl ?_
        refine j_getI (f := 66) fe_Hi_49 rfl rfl t7 d_Hi_admittedAt_40 ?_
        refine j_iload_n d_Hi_admittedAt_43 rfl ?_
        obtain ⟨Ha, Hb⟩ := H
        refine j_icmp_ne (tgt := 63) d_Hi_admittedAt_44 (by decide) (fun c15 => ?_) (fun c16 => ?_)
        · have H := Ha c15
          refine j_null d_Hi_admittedAt_63 ?_
          exact j_aret (x := none) rfl rfl (Or.inl ⟨_, rfl⟩) d_Hi_admittedAt_64 H
        · have H := Hb c16
          refine j_aload_n d_Hi_admittedAt_47 rfl ?_
          refine j_aload d_Hi_admittedAt_48 rfl ?_
          refine j_iload d_Hi_admittedAt_50 rfl ?_
          obtain ⟨t8, H⟩ := H
          refine j_callV (d' := 2) (ci := 3) (As := [.ref b5, .int p4]) (rest := []) (b := a2) cv_Hi_52 me_Jo_admitted rfl (by decide) rfl rfl t8 rfl rfl (Nat.le_of_ble_eq_true rfl) d_Hi_admittedAt_52 (by decide) rfl (j_enter (L := [some (.ref a2), some (.ref b5), some (.int p4)]) me_Jo_admitted (cat_c rfl (cat_c rfl (cat_c rfl cat_n))) (Nat.le_of_ble_eq_true rfl) rfl ?_)
          refine j_aload_n d_Jo_admitted_0 rfl ?_
          refine j_aload_n d_Jo_admitted_1 rfl ?_
          refine j_getI (f := 192) fe_Jo_9 rfl rfl t8 d_Jo_admitted_2 ?_
          refine j_iconst (v := 2) d_Jo_admitted_5 (by decide) ?_
          obtain ⟨Ha, Hb⟩ := H
          refine j_icmp_ne (tgt := 21) d_Jo_admitted_6 (by decide) (fun c13 => ?_) (fun c14 => ?_)
          · have H := Ha c13
            refine j_iload_n d_Jo_admitted_21 rfl ?_
            refine j_aload_n d_Jo_admitted_22 rfl ?_
            refine j_getI (f := 68) fe_Jo_40 rfl rfl t7 d_Jo_admitted_23 ?_
            refine j_callV (d' := 1) (ci := 3) (As := [.int p4, .int ((gI G 68 b5))]) (rest := []) (b := a2) cv_Jo_43 me_Jo_admits rfl (by decide) rfl rfl t8 rfl rfl (Nat.le_of_ble_eq_true rfl) d_Jo_admitted_26 (by decide) rfl (j_enter (L := [some (.ref a2), some (.int p4), some (.int ((gI G 68 b5)))]) me_Jo_admits (cat_c rfl (cat_c rfl (cat_c rfl cat_n))) (Nat.le_of_ble_eq_true rfl) rfl ?_)
            refine j_iload_n d_Jo_admits_0 rfl ?_
            refine j_aload_n d_Jo_admits_1 rfl ?_
            refine j_getI (f := 195) fe_Jo_21 rfl rfl t8 d_Jo_admits_2 ?_
            refine j_iadd d_Jo_admits_5 ?_
            refine j_iload_n d_Jo_admits_6 rfl ?_
            obtain ⟨Ha, Hb⟩ := H
            refine j_icmp_le (tgt := 14) d_Jo_admits_7 (by decide) (fun c9 => ?_) (fun c10 => ?_)
            · have H := Ha c9
              refine j_iconst (v := 0) d_Jo_admits_14 (by decide) ?_
              refine j_zret rfl (by decide) d_Jo_admits_15 ?_
              show J E 2 m_Jo_admitted 29 [some (.ref a2), some (.ref b5), some (.int p4)] [.int ((0 : Int32))] G (aft E 4 m_Hi_admittedAt 52 [some (.ref a0), some (.int p1), some (.ref a2), some (.int p3), some (.int p4), some (.ref b5)] [] Post)
              refine j_zret rfl (by decide) d_Jo_admitted_29 ?_
              show J E 4 m_Hi_admittedAt 55 [some (.ref a0), some (.int p1), some (.ref a2), some (.int p3), some (.int p4), some (.ref b5)] [.int ((0 : Int32))] G Post
              refine j_if_eq (tgt := 63) d_Hi_admittedAt_55 (by decide) (fun _ => ?_) (fun c => absurd c (by decide))
              refine j_null d_Hi_admittedAt_63 ?_
              exact j_aret (x := none) rfl rfl (Or.inl ⟨_, rfl⟩) d_Hi_admittedAt_64 H
            · have H := Hb c10
              refine j_iconst (v := 1) d_Jo_admits_10 (by decide) ?_
              refine j_goto (tgt := 15) d_Jo_admits_11 (by decide) ?_
              refine j_zret rfl (by decide) d_Jo_admits_15 ?_
              show J E 2 m_Jo_admitted 29 [some (.ref a2), some (.ref b5), some (.int p4)] [.int ((1 : Int32))] G (aft E 4 m_Hi_admittedAt 52 [some (.ref a0), some (.int p1), some (.ref a2), some (.int p3), some (.int p4), some (.ref b5)] [] Post)
              refine j_zret rfl (by decide) d_Jo_admitted_29 ?_
              show J E 4 m_Hi_admittedAt 55 [some (.ref a0), some (.int p1), some (.ref a2), some (.int p3), some (.int p4), some (.ref b5)] [.int ((1 : Int32))] G Post
              refine j_if_eq (tgt := 63) d_Hi_admittedAt_55 (by decide) (fun c => absurd c (by decide)) (fun _ => ?_)
              refine j_aload d_Hi_admittedAt_58 rfl ?_
              refine j_goto (tgt := 64) d_Hi_admittedAt_60 (by decide) ?_
              exact j_aret (x := (some b5)) rfl rfl (Or.inl ⟨_, rfl⟩) d_Hi_admittedAt_64 H
          · have H := Hb c14
            refine j_aload_n d_Jo_admitted_9 rfl ?_
            refine j_getI (f := 65) fe_Jo_35 rfl rfl t7 d_Jo_admitted_10 ?_
            refine j_aload_n d_Jo_admitted_13 rfl ?_
            refine j_getI (f := 193) fe_Jo_15 rfl rfl t8 d_Jo_admitted_14 ?_
            refine j_iadd d_Jo_admitted_17 ?_
            refine j_goto (tgt := 22) d_Jo_admitted_18 (by decide) ?_
            refine j_aload_n d_Jo_admitted_22 rfl ?_
            refine j_getI (f := 68) fe_Jo_40 rfl rfl t7 d_Jo_admitted_23 ?_
            refine j_callV (d' := 1) (ci := 3) (As := [.int (((gI G 65 b5) + (gI G 193 a2))), .int ((gI G 68 b5))]) (rest := []) (b := a2) cv_Jo_43 me_Jo_admits rfl (by decide) rfl rfl t8 rfl rfl (Nat.le_of_ble_eq_true rfl) d_Jo_admitted_26 (by decide) rfl (j_enter (L := [some (.ref a2), some (.int (((gI G 65 b5) + (gI G 193 a2)))), some (.int ((gI G 68 b5)))]) me_Jo_admits (cat_c rfl (cat_c rfl (cat_c rfl cat_n))) (Nat.le_of_ble_eq_true rfl) rfl ?_)
            refine j_iload_n d_Jo_admits_0 rfl ?_
            refine j_aload_n d_Jo_admits_1 rfl ?_
            refine j_getI (f := 195) fe_Jo_21 rfl rfl t8 d_Jo_admits_2 ?_
            refine j_iadd d_Jo_admits_5 ?_
            refine j_iload_n d_Jo_admits_6 rfl ?_
            obtain ⟨Ha, Hb⟩ := H
            refine j_icmp_le (tgt := 14) d_Jo_admits_7 (by decide) (fun c11 => ?_) (fun c12 => ?_)
            · have H := Ha c11
              refine j_iconst (v := 0) d_Jo_admits_14 (by decide) ?_
              refine j_zret rfl (by decide) d_Jo_admits_15 ?_
              show J E 2 m_Jo_admitted 29 [some (.ref a2), some (.ref b5), some (.int p4)] [.int ((0 : Int32))] G (aft E 4 m_Hi_admittedAt 52 [some (.ref a0), some (.int p1), some (.ref a2), some (.int p3), some (.int p4), some (.ref b5)] [] Post)
              refine j_zret rfl (by decide) d_Jo_admitted_29 ?_
              show J E 4 m_Hi_admittedAt 55 [some (.ref a0), some (.int p1), some (.ref a2), some (.int p3), some (.int p4), some (.ref b5)] [.int ((0 : Int32))] G Post
              refine j_if_eq (tgt := 63) d_Hi_admittedAt_55 (by decide) (fun _ => ?_) (fun c => absurd c (by decide))
              refine j_null d_Hi_admittedAt_63 ?_
              exact j_aret (x := none) rfl rfl (Or.inl ⟨_, rfl⟩) d_Hi_admittedAt_64 H
            · have H := Hb c12
              refine j_iconst (v := 1) d_Jo_admits_10 (by decide) ?_
              refine j_goto (tgt := 15) d_Jo_admits_11 (by decide) ?_
              refine j_zret rfl (by decide) d_Jo_admits_15 ?_
              show J E 2 m_Jo_admitted 29 [some (.ref a2), some (.ref b5), some (.int p4)] [.int ((1 : Int32))] G (aft E 4 m_Hi_admittedAt 52 [some (.ref a0), some (.int p1), some (.ref a2), some (.int p3), some (.int p4), some (.ref b5)] [] Post)
              refine j_zret rfl (by decide) d_Jo_admitted_29 ?_
              show J E 4 m_Hi_admittedAt 55 [some (.ref a0), some (.int p1), some (.ref a2), some (.int p3), some (.int p4), some (.ref b5)] [.int ((1 : Int32))] G Post
              refine j_if_eq (tgt := 63) d_Hi_admittedAt_55 (by decide) (fun c => absurd c (by decide)) (fun _ => ?_)
              refine j_aload d_Hi_admittedAt_58 rfl ?_
              refine j_goto (tgt := 64) d_Hi_admittedAt_60 (by decide) ?_
              exact j_aret (x := (some b5)) rfl rfl (Or.inl ⟨_, rfl⟩) d_Hi_admittedAt_64 H
      · have H := Hb c18
        refine j_null d_Hi_admittedAt_23 ?_
        exact j_aret (x := none) rfl rfl (Or.inl ⟨_, rfl⟩) d_Hi_admittedAt_24 H
theorem wp_Hi_endByGap_0 {E : EV} {G : GH} {Post : Res → GH → Prop} (a0 : Nat) (a1 : Nat) (p2 : Int32) (p3 : Int32) (H : J E 6 m_Hi_endByGap 6 [some (.ref a0), some (.ref a1), some (.int p2), some (.int p3), some (.int ((0 : Int32))), some (.int ((0 : Int32))), none, none] [] G Post) : J E 6 m_Hi_endByGap 0 [some (.ref a0), some (.ref a1), some (.int p2), some (.int p3), none, none, none, none] [] G Post := by
  refine j_iconst (v := 0) d_Hi_endByGap_0 (by decide) ?_
  refine j_istore (L' := [some (.ref a0), some (.ref a1), some (.int p2), some (.int p3), some (.int ((0 : Int32))), none, none, none]) d_Hi_endByGap_1 (by decide) rfl ?_
  refine j_iconst (v := 0) d_Hi_endByGap_3 (by decide) ?_
  refine j_istore (L' := [some (.ref a0), some (.ref a1), some (.int p2), some (.int p3), some (.int ((0 : Int32))), some (.int ((0 : Int32))), none, none]) d_Hi_endByGap_4 (by decide) rfl ?_
  exact H
theorem wp_Hi_endByGap_6 {E : EV} {G : GH} {Post : Res → GH → Prop} (a0 : Nat) (a1 : Nat) (p2 : Int32) (p3 : Int32) (p4 : Int32) (p5 : Int32) (H : gT G a0 = 3 ∧ ((gI G 129 a0) ≤ p5 → (¬ p4 = 0 → gT G a1 = 4 ∧ J E 6 m_Hi_endByGap 104 [some (.ref a0), some (.ref a1), some (.int p2), some (.int p3), none, some (.int ((p3 + (gI G 193 a1)))), some (.int ((0 : Int32))), none] [] G Post) ∧ (p4 = 0 → Post (.inl (some (.int ((-1 : Int32))))) G)) ∧ (¬ (gI G 129 a0) ≤ p5 → Cl E 4 m_Hi_admittedAt [.ref a0, .int p5, .ref a1, .int p2, .int ((-1 : Int32))] G (aft E 6 m_Hi_endByGap 21 [some (.ref a0), some (.ref a1), some (.int p2), some (.int p3), some (.int p4), some (.int p5), none, none] [] Post))) : J E 6 m_Hi_endByGap 6 [some (.ref a0), some (.ref a1), some (.int p2), some (.int p3), some (.int p4), some (.int p5), none, none] [] G Post := by
  refine j_iload d_Hi_endByGap_6 rfl ?_
  refine j_aload_n d_Hi_endByGap_8 rfl ?_
  obtain ⟨t1, H⟩ := H
  refine j_getI (f := 129) fe_Hi_18 rfl rfl t1 d_Hi_endByGap_9 ?_
  obtain ⟨Ha, Hb⟩ := H
  refine j_icmp_ge (tgt := 86) d_Hi_endByGap_12 (by decide) (fun c5 => ?_) (fun c6 => ?_)
  · have H := Ha c5
    refine j_iload d_Hi_endByGap_86 rfl ?_
    obtain ⟨Ha, Hb⟩ := H
    refine j_if_ne (tgt := 93) d_Hi_endByGap_88 (by decide) (fun c3 => ?_) (fun c4 => ?_)
    · have H := Ha c3
      refine j_iload_n d_Hi_endByGap_93 rfl ?_
      refine j_aload_n d_Hi_endByGap_94 rfl ?_
      obtain ⟨t2, H⟩ := H
      refine j_getI (f := 193) fe_Hi_64 rfl rfl t2 d_Hi_endByGap_95 ?_
      refine j_iadd d_Hi_endByGap_98 ?_
      refine j_istore (L' := [some (.ref a0), some (.ref a1), some (.int p2), some (.int p3), some (.int p4), some (.int ((p3 + (gI G 193 a1)))), none, none]) d_Hi_endByGap_99 (by decide) rfl ?_
      refine j_iconst (v := 0) d_Hi_endByGap_101 (by decide) ?_
      refine j_istore (L' := [some (.ref a0), some (.ref a1), some (.int p2), some (.int p3), some (.int p4), some (.int ((p3 + (gI G 193 a1)))), some (.int ((0 : Int32))), none]) d_Hi_endByGap_102 (by decide) rfl ?_
      refine j_forget (L' := [some (.ref a0), some (.ref a1), some (.int p2), some (.int p3), none, some (.int ((p3 + (gI G 193 a1)))), some (.int ((0 : Int32))), none]) ⟨Or.inr rfl, Or.inr rfl, Or.inr rfl, Or.inr rfl, Or.inl rfl, Or.inr rfl, Or.inr rfl, Or.inl rfl, trivial⟩ ?_
      exact H
    · have H := Hb c4
      refine j_iconst (v := -1) d_Hi_endByGap_91 (by decide) ?_
      exact j_iret rfl d_Hi_endByGap_92 H
  · have H := Hb c6
    refine j_aload_n d_Hi_endByGap_15 rfl ?_
    refine j_iload d_Hi_endByGap_16 rfl ?_
    refine j_aload_n d_Hi_endByGap_18 rfl ?_
    refine j_iload_n d_Hi_endByGap_19 rfl ?_
    refine j_iconst (v := -1) d_Hi_endByGap_20 (by decide) ?_
    exact j_callV (d' := 4) (ci := 2) (As := [.int p5, .ref a1, .int p2, .int ((-1 : Int32))]) (rest := []) (b := a0) cv_Hi_57 me_Hi_admittedAt rfl (by decide) rfl rfl t1 rfl rfl (Nat.le_of_ble_eq_true rfl) d_Hi_endByGap_21 (by decide) rfl H
theorem wp_Hi_endByGap_104 {E : EV} {G : GH} {Post : Res → GH → Prop} (a0 : Nat) (a1 : Nat) (p2 : Int32) (p3 : Int32) (p5 : Int32) (p6 : Int32) (H : gT G a0 = 3 ∧ ((gI G 129 a0) ≤ p6 → Post (.inl (some (.int p5))) G) ∧ (¬ (gI G 129 a0) ≤ p6 → Cl E 5 m_Hi_furthestEnd [.ref a0, .ref a1, .int p2, .int p3, .int p5] G (aft E 6 m_Hi_endByGap 119 [some (.ref a0), some (.ref a1), some (.int p2), some (.int p3), none, some (.int p5), some (.int p6), none] [] Post))) : J E 6 m_Hi_endByGap 104 [some (.ref a0), some (.ref a1), some (.int p2), some (.int p3), none, some (.int p5), some (.int p6), none] [] G Post := by
  refine j_iload d_Hi_endByGap_104 rfl ?_
  refine j_aload_n d_Hi_endByGap_106 rfl ?_
  obtain ⟨t1, H⟩ := H
  refine j_getI (f := 129) fe_Hi_18 rfl rfl t1 d_Hi_endByGap_107 ?_
  obtain ⟨Ha, Hb⟩ := H
  refine j_icmp_ge (tgt := 144) d_Hi_endByGap_110 (by decide) (fun c2 => ?_) (fun c3 => ?_)
  · have H := Ha c2
    refine j_iload d_Hi_endByGap_144 rfl ?_
    exact j_iret rfl d_Hi_endByGap_146 H
  · have H := Hb c3
    refine j_aload_n d_Hi_endByGap_113 rfl ?_
    refine j_aload_n d_Hi_endByGap_114 rfl ?_
    refine j_iload_n d_Hi_endByGap_115 rfl ?_
    refine j_iload_n d_Hi_endByGap_116 rfl ?_
    refine j_iload d_Hi_endByGap_117 rfl ?_
    exact j_callV (d' := 5) (ci := 2) (As := [.ref a1, .int p2, .int p3, .int p5]) (rest := []) (b := a0) cv_Hi_66 me_Hi_furthestEnd rfl (by decide) rfl rfl t1 rfl rfl (Nat.le_of_ble_eq_true rfl) d_Hi_endByGap_119 (by decide) rfl H
theorem wp_Hi_endByGap_24 {E : EV} {G : GH} {Post : Res → GH → Prop} (a0 : Nat) (a1 : Nat) (p2 : Int32) (p3 : Int32) (p4 : Int32) (p5 : Int32) (w0 : Option Nat) (H : (w0 = none → J E 6 m_Hi_endByGap 6 [some (.ref a0), some (.ref a1), some (.int p2), some (.int p3), some (.int ((p4 ||| (0 : Int32)))), some (.int ((p5 + (1 : Int32)))), none, none] [] G Post) ∧ (∀ r1, w0 = some r1 → gT G r1 = 2 ∧ (p3 ≤ (gI G 65 r1) → (¬ (gI G 65 r1) = p3 → J E 6 m_Hi_endByGap 6 [some (.ref a0), some (.ref a1), some (.int p2), some (.int p3), some (.int ((p4 ||| (0 : Int32)))), some (.int ((p5 + (1 : Int32)))), none, none] [] G Post) ∧ ((gI G 65 r1) = p3 → J E 6 m_Hi_endByGap 6 [some (.ref a0), some (.ref a1), some (.int p2), some (.int p3), some (.int ((p4 ||| (1 : Int32)))), some (.int ((p5 + (1 : Int32)))), none, none] [] G Post)) ∧ (¬ p3 ≤ (gI G 65 r1) → gT G a1 = 4 ∧ (((gI G 65 r1) + (gI G 193 a1)) ≤ p3 → (¬ (gI G 65 r1) = p3 → J E 6 m_Hi_endByGap 6 [some (.ref a0), some (.ref a1), some (.int p2), some (.int p3), some (.int ((p4 ||| (0 : Int32)))), some (.int ((p5 + (1 : Int32)))), none, none] [] G Post) ∧ ((gI G 65 r1) = p3 → J E 6 m_Hi_endByGap 6 [some (.ref a0), some (.ref a1), some (.int p2), some (.int p3), some (.int ((p4 ||| (1 : Int32)))), some (.int ((p5 + (1 : Int32)))), none, none] [] G Post)) ∧ (¬ ((gI G 65 r1) + (gI G 193 a1)) ≤ p3 → Post (.inl (some (.int ((-1 : Int32))))) G)))) : J E 6 m_Hi_endByGap 24 [some (.ref a0), some (.ref a1), some (.int p2), some (.int p3), some (.int p4), some (.int p5), none, none] [va_rf w0] G Post := by
  refine j_astore (x := w0) (L' := [some (.ref a0), some (.ref a1), some (.int p2), some (.int p3), some (.int p4), some (.int p5), some (va_rf w0), none]) rfl d_Hi_endByGap_24 (by decide) rfl ?_
  refine j_aloadq (x := w0) d_Hi_endByGap_26 rfl ?_
  obtain ⟨Ha, Hb⟩ := H
  refine j_ifnull (x := w0) (tgt := 56) rfl d_Hi_endByGap_28 (by decide) (fun c12 => ?_) (fun r1 c12 => ?_)
  · have H := Ha c12
    subst c12
    refine j_iload d_Hi_endByGap_56 rfl ?_
    refine j_aloadq (x := none) d_Hi_endByGap_58 rfl ?_
    refine j_ifnull (x := none) (tgt := 76) rfl d_Hi_endByGap_60 (by decide) (fun _ => ?_) (fun _ c => by cases c)
    refine j_iconst (v := 0) d_Hi_endByGap_76 (by decide) ?_
    refine j_ior d_Hi_endByGap_77 ?_
    refine j_istore (L' := [some (.ref a0), some (.ref a1), some (.int p2), some (.int p3), some (.int ((p4 ||| (0 : Int32)))), some (.int p5), some (.null), none]) d_Hi_endByGap_78 (by decide) rfl ?_
    refine j_iinc (v := (p5 + (1 : Int32))) (L' := [some (.ref a0), some (.ref a1), some (.int p2), some (.int p3), some (.int ((p4 ||| (0 : Int32)))), some (.int ((p5 + (1 : Int32)))), some (.null), none]) d_Hi_endByGap_80 rfl (by rw [show Int32.ofInt (1) = (1 : Int32) by decide]) (by decide) rfl ?_
    refine j_goto (tgt := 6) d_Hi_endByGap_83 (by decide) ?_
    refine j_forget (L' := [some (.ref a0), some (.ref a1), some (.int p2), some (.int p3), some (.int ((p4 ||| (0 : Int32)))), some (.int ((p5 + (1 : Int32)))), none, none]) ⟨Or.inr rfl, Or.inr rfl, Or.inr rfl, Or.inr rfl, Or.inr rfl, Or.inr rfl, Or.inl rfl, Or.inl rfl, trivial⟩ ?_
    exact H
  · have H := Hb r1 c12
    subst c12
    refine j_aload d_Hi_endByGap_31 rfl ?_
    obtain ⟨t2, H⟩ := H
    refine j_getI (f := 65) fe_Hi_61 rfl rfl t2 d_Hi_endByGap_33 ?_
    refine j_iload_n d_Hi_endByGap_36 rfl ?_
    obtain ⟨Ha, Hb⟩ := H
    refine j_icmp_ge (tgt := 56) d_Hi_endByGap_37 (by decide) (fun c10 => ?_) (fun c11 => ?_)
    · have H := Ha c10
      refine j_iload d_Hi_endByGap_56 rfl ?_
      refine j_aload d_Hi_endByGap_58 rfl ?_
      refine j_ifnull (x := (some r1)) (tgt := 76) rfl d_Hi_endByGap_60 (by decide) (fun c => by cases c) (fun _ _ => ?_)
      refine j_aload d_Hi_endByGap_63 rfl ?_
      refine j_getI (f := 65) fe_Hi_61 rfl rfl t2 d_Hi_endByGap_65 ?_
      refine j_iload_n d_Hi_endByGap_68 rfl ?_
      obtain ⟨Ha, Hb⟩ := H
      refine j_icmp_ne (tgt := 76) d_Hi_endByGap_69 (by decide) (fun c3 => ?_) (fun c4 => ?_)
      · have H := Ha c3
        refine j_iconst (v := 0) d_Hi_endByGap_76 (by decide) ?_
        refine j_ior d_Hi_endByGap_77 ?_
        refine j_istore (L' := [some (.ref a0), some (.ref a1), some (.int p2), some (.int p3), some (.int ((p4 ||| (0 : Int32)))), some (.int p5), some (.ref r1), none]) d_Hi_endByGap_78 (by decide) rfl ?_
        refine j_iinc (v := (p5 + (1 : Int32))) (L' := [some (.ref a0), some (.ref a1), some (.int p2), some (.int p3), some (.int ((p4 ||| (0 : Int32)))), some (.int ((p5 + (1 : Int32)))), some (.ref r1), none]) d_Hi_endByGap_80 rfl (by rw [show Int32.ofInt (1) = (1 : Int32) by decide]) (by decide) rfl ?_
        refine j_goto (tgt := 6) d_Hi_endByGap_83 (by decide) ?_
        refine j_forget (L' := [some (.ref a0), some (.ref a1), some (.int p2), some (.int p3), some (.int ((p4 ||| (0 : Int32)))), some (.int ((p5 + (1 : Int32)))), none, none]) ⟨Or.inr rfl, Or.inr rfl, Or.inr rfl, Or.inr rfl, Or.inr rfl, Or.inr rfl, Or.inl rfl, Or.inl rfl, trivial⟩ ?_
        exact H
      · have H := Hb c4
        refine j_iconst (v := 1) d_Hi_endByGap_72 (by decide) ?_
        refine j_goto (tgt := 77) d_Hi_endByGap_73 (by decide) ?_
        refine j_ior d_Hi_endByGap_77 ?_
        refine j_istore (L' := [some (.ref a0), some (.ref a1), some (.int p2), some (.int p3), some (.int ((p4 ||| (1 : Int32)))), some (.int p5), some (.ref r1), none]) d_Hi_endByGap_78 (by decide) rfl ?_
        refine j_iinc (v := (p5 + (1 : Int32))) (L' := [some (.ref a0), some (.ref a1), some (.int p2), some (.int p3), some (.int ((p4 ||| (1 : Int32)))), some (.int ((p5 + (1 : Int32)))), some (.ref r1), none]) d_Hi_endByGap_80 rfl (by rw [show Int32.ofInt (1) = (1 : Int32) by decide]) (by decide) rfl ?_
        refine j_goto (tgt := 6) d_Hi_endByGap_83 (by decide) ?_
        refine j_forget (L' := [some (.ref a0), some (.ref a1), some (.int p2), some (.int p3), some (.int ((p4 ||| (1 : Int32)))), some (.int ((p5 + (1 : Int32)))), none, none]) ⟨Or.inr rfl, Or.inr rfl, Or.inr rfl, Or.inr rfl, Or.inr rfl, Or.inr rfl, Or.inl rfl, Or.inl rfl, trivial⟩ ?_
        exact H
    · have H := Hb c11
      refine j_aload d_Hi_endByGap_40 rfl ?_
      refine j_getI (f := 65) fe_Hi_61 rfl rfl t2 d_Hi_endByGap_42 ?_
      refine j_aload_n d_Hi_endByGap_45 rfl ?_
      obtain ⟨t5, H⟩ := H
      refine j_getI (f := 193) fe_Hi_64 rfl rfl t5 d_Hi_endByGap_46 ?_
      refine j_iadd d_Hi_endByGap_49 ?_
      refine j_iload_n d_Hi_endByGap_50 rfl ?_
      obtain ⟨Ha, Hb⟩ := H
      refine j_icmp_le (tgt := 56) d_Hi_endByGap_51 (by decide) (fun c8 => ?_) (fun c9 => ?_)
      · have H := Ha c8
        refine j_iload d_Hi_endByGap_56 rfl ?_
        refine j_aload d_Hi_endByGap_58 rfl ?_
        refine j_ifnull (x := (some r1)) (tgt := 76) rfl d_Hi_endByGap_60 (by decide) (fun c => by cases c) (fun _ _ => ?_)
        refine j_aload d_Hi_endByGap_63 rfl ?_
        refine j_getI (f := 65) fe_Hi_61 rfl rfl t2 d_Hi_endByGap_65 ?_
        refine j_iload_n d_Hi_endByGap_68 rfl ?_
        obtain ⟨Ha, Hb⟩ := H
        refine j_icmp_ne (tgt := 76) d_Hi_endByGap_69 (by decide) (fun c6 => ?_) (fun c7 => ?_)
        · have H := Ha c6
          refine j_iconst (v := 0) d_Hi_endByGap_76 (by decide) ?_
          refine j_ior d_Hi_endByGap_77 ?_
          refine j_istore (L' := [some (.ref a0), some (.ref a1), some (.int p2), some (.int p3), some (.int ((p4 ||| (0 : Int32)))), some (.int p5), some (.ref r1), none]) d_Hi_endByGap_78 (by decide) rfl ?_
          refine j_iinc (v := (p5 + (1 : Int32))) (L' := [some (.ref a0), some (.ref a1), some (.int p2), some (.int p3), some (.int ((p4 ||| (0 : Int32)))), some (.int ((p5 + (1 : Int32)))), some (.ref r1), none]) d_Hi_endByGap_80 rfl (by rw [show Int32.ofInt (1) = (1 : Int32) by decide]) (by decide) rfl ?_
          refine j_goto (tgt := 6) d_Hi_endByGap_83 (by decide) ?_
          refine j_forget (L' := [some (.ref a0), some (.ref a1), some (.int p2), some (.int p3), some (.int ((p4 ||| (0 : Int32)))), some (.int ((p5 + (1 : Int32)))), none, none]) ⟨Or.inr rfl, Or.inr rfl, Or.inr rfl, Or.inr rfl, Or.inr rfl, Or.inr rfl, Or.inl rfl, Or.inl rfl, trivial⟩ ?_
          exact H
        · have H := Hb c7
          refine j_iconst (v := 1) d_Hi_endByGap_72 (by decide) ?_
          refine j_goto (tgt := 77) d_Hi_endByGap_73 (by decide) ?_
          refine j_ior d_Hi_endByGap_77 ?_
          refine j_istore (L' := [some (.ref a0), some (.ref a1), some (.int p2), some (.int p3), some (.int ((p4 ||| (1 : Int32)))), some (.int p5), some (.ref r1), none]) d_Hi_endByGap_78 (by decide) rfl ?_
          refine j_iinc (v := (p5 + (1 : Int32))) (L' := [some (.ref a0), some (.ref a1), some (.int p2), some (.int p3), some (.int ((p4 ||| (1 : Int32)))), some (.int ((p5 + (1 : Int32)))), some (.ref r1), none]) d_Hi_endByGap_80 rfl (by rw [show Int32.ofInt (1) = (1 : Int32) by decide]) (by decide) rfl ?_
          refine j_goto (tgt := 6) d_Hi_endByGap_83 (by decide) ?_
          refine j_forget (L' := [some (.ref a0), some (.ref a1), some (.int p2), some (.int p3), some (.int ((p4 ||| (1 : Int32)))), some (.int ((p5 + (1 : Int32)))), none, none]) ⟨Or.inr rfl, Or.inr rfl, Or.inr rfl, Or.inr rfl, Or.inr rfl, Or.inr rfl, Or.inl rfl, Or.inl rfl, trivial⟩ ?_
          exact H
      · have H := Hb c9
        refine j_iconst (v := -1) d_Hi_endByGap_54 (by decide) ?_
        exact j_iret rfl d_Hi_endByGap_55 H
theorem wp_Hi_endByGap_122 {E : EV} {G : GH} {Post : Res → GH → Prop} (a0 : Nat) (a1 : Nat) (p2 : Int32) (p3 : Int32) (p5 : Int32) (p6 : Int32) (s0 : Int32) (H : (¬ s0 = p5 → J E 6 m_Hi_endByGap 104 [some (.ref a0), some (.ref a1), some (.int p2), some (.int p3), none, some (.int s0), some (.int ((p6 + (1 : Int32)))), none] [] G Post) ∧ (s0 = p5 → Post (.inl (some (.int p5))) G)) : J E 6 m_Hi_endByGap 122 [some (.ref a0), some (.ref a1), some (.int p2), some (.int p3), none, some (.int p5), some (.int p6), none] [.int s0] G Post := by
  refine j_istore (L' := [some (.ref a0), some (.ref a1), some (.int p2), some (.int p3), none, some (.int p5), some (.int p6), some (.int s0)]) d_Hi_endByGap_122 (by decide) rfl ?_
  refine j_iload d_Hi_endByGap_124 rfl ?_
  refine j_iload d_Hi_endByGap_126 rfl ?_
  obtain ⟨Ha, Hb⟩ := H
  refine j_icmp_ne (tgt := 134) d_Hi_endByGap_128 (by decide) (fun c1 => ?_) (fun c2 => ?_)
  · have H := Ha c1
    refine j_iload d_Hi_endByGap_134 rfl ?_
    refine j_istore (L' := [some (.ref a0), some (.ref a1), some (.int p2), some (.int p3), none, some (.int s0), some (.int p6), some (.int s0)]) d_Hi_endByGap_136 (by decide) rfl ?_
    refine j_iinc (v := (p6 + (1 : Int32))) (L' := [some (.ref a0), some (.ref a1), some (.int p2), some (.int p3), none, some (.int s0), some (.int ((p6 + (1 : Int32)))), some (.int s0)]) d_Hi_endByGap_138 rfl (by rw [show Int32.ofInt (1) = (1 : Int32) by decide]) (by decide) rfl ?_
    refine j_goto (tgt := 104) d_Hi_endByGap_141 (by decide) ?_
    refine j_forget (L' := [some (.ref a0), some (.ref a1), some (.int p2), some (.int p3), none, some (.int s0), some (.int ((p6 + (1 : Int32)))), none]) ⟨Or.inr rfl, Or.inr rfl, Or.inr rfl, Or.inr rfl, Or.inl rfl, Or.inr rfl, Or.inr rfl, Or.inl rfl, trivial⟩ ?_
    exact H
  · have H := Hb c2
    refine j_iload d_Hi_endByGap_131 rfl ?_
    exact j_iret rfl d_Hi_endByGap_133 H
theorem wp_Hi_furthestEnd_0 {E : EV} {G : GH} {Post : Res → GH → Prop} (a0 : Nat) (a1 : Nat) (p2 : Int32) (p3 : Int32) (p4 : Int32) (H : J E 5 m_Hi_furthestEnd 7 [some (.ref a0), some (.ref a1), some (.int p2), some (.int p3), none, some (.int p4), some (.int ((0 : Int32))), none] [] G Post) : J E 5 m_Hi_furthestEnd 0 [some (.ref a0), some (.ref a1), some (.int p2), some (.int p3), some (.int p4), none, none, none] [] G Post := by
  refine j_iload d_Hi_furthestEnd_0 rfl ?_
  refine j_istore (L' := [some (.ref a0), some (.ref a1), some (.int p2), some (.int p3), some (.int p4), some (.int p4), none, none]) d_Hi_furthestEnd_2 (by decide) rfl ?_
  refine j_iconst (v := 0) d_Hi_furthestEnd_4 (by decide) ?_
  refine j_istore (L' := [some (.ref a0), some (.ref a1), some (.int p2), some (.int p3), some (.int p4), some (.int p4), some (.int ((0 : Int32))), none]) d_Hi_furthestEnd_5 (by decide) rfl ?_
  refine j_forget (L' := [some (.ref a0), some (.ref a1), some (.int p2), some (.int p3), none, some (.int p4), some (.int ((0 : Int32))), none]) ⟨Or.inr rfl, Or.inr rfl, Or.inr rfl, Or.inr rfl, Or.inl rfl, Or.inr rfl, Or.inr rfl, Or.inl rfl, trivial⟩ ?_
  exact H
theorem wp_Hi_furthestEnd_7 {E : EV} {G : GH} {Post : Res → GH → Prop} (a0 : Nat) (a1 : Nat) (p2 : Int32) (p3 : Int32) (p5 : Int32) (p6 : Int32) (H : gT G a0 = 3 ∧ ((gI G 129 a0) ≤ p6 → Post (.inl (some (.int p5))) G) ∧ (¬ (gI G 129 a0) ≤ p6 → Cl E 4 m_Hi_admittedAt [.ref a0, .int p6, .ref a1, .int p2, .int ((-1 : Int32))] G (aft E 5 m_Hi_furthestEnd 22 [some (.ref a0), some (.ref a1), some (.int p2), some (.int p3), none, some (.int p5), some (.int p6), none] [] Post))) : J E 5 m_Hi_furthestEnd 7 [some (.ref a0), some (.ref a1), some (.int p2), some (.int p3), none, some (.int p5), some (.int p6), none] [] G Post := by
  refine j_iload d_Hi_furthestEnd_7 rfl ?_
  refine j_aload_n d_Hi_furthestEnd_9 rfl ?_
  obtain ⟨t1, H⟩ := H
  refine j_getI (f := 129) fe_Hi_18 rfl rfl t1 d_Hi_furthestEnd_10 ?_
  obtain ⟨Ha, Hb⟩ := H
  refine j_icmp_ge (tgt := 74) d_Hi_furthestEnd_13 (by decide) (fun c2 => ?_) (fun c3 => ?_)
  · have H := Ha c2
    refine j_iload d_Hi_furthestEnd_74 rfl ?_
    exact j_iret rfl d_Hi_furthestEnd_76 H
  · have H := Hb c3
    refine j_aload_n d_Hi_furthestEnd_16 rfl ?_
    refine j_iload d_Hi_furthestEnd_17 rfl ?_
    refine j_aload_n d_Hi_furthestEnd_19 rfl ?_
    refine j_iload_n d_Hi_furthestEnd_20 rfl ?_
    refine j_iconst (v := -1) d_Hi_furthestEnd_21 (by decide) ?_
    exact j_callV (d' := 4) (ci := 2) (As := [.int p6, .ref a1, .int p2, .int ((-1 : Int32))]) (rest := []) (b := a0) cv_Hi_57 me_Hi_admittedAt rfl (by decide) rfl rfl t1 rfl rfl (Nat.le_of_ble_eq_true rfl) d_Hi_furthestEnd_22 (by decide) rfl H
theorem wp_Hi_furthestEnd_25 {E : EV} {G : GH} {Post : Res → GH → Prop} (a0 : Nat) (a1 : Nat) (p2 : Int32) (p3 : Int32) (p5 : Int32) (p6 : Int32) (w0 : Option Nat) (H : (w0 = none → J E 5 m_Hi_furthestEnd 7 [some (.ref a0), some (.ref a1), some (.int p2), some (.int p3), none, some (.int p5), some (.int ((p6 + (1 : Int32)))), none] [] G Post) ∧ (∀ r1, w0 = some r1 → gT G r1 = 2 ∧ ((gI G 65 r1) < p3 → J E 5 m_Hi_furthestEnd 7 [some (.ref a0), some (.ref a1), some (.int p2), some (.int p3), none, some (.int p5), some (.int ((p6 + (1 : Int32)))), none] [] G Post) ∧ (¬ (gI G 65 r1) < p3 → (p5 ≤ (gI G 65 r1) → J E 5 m_Hi_furthestEnd 7 [some (.ref a0), some (.ref a1), some (.int p2), some (.int p3), none, some (.int p5), some (.int ((p6 + (1 : Int32)))), none] [] G Post) ∧ (¬ p5 ≤ (gI G 65 r1) → gT G a1 = 4 ∧ J E 5 m_Hi_furthestEnd 7 [some (.ref a0), some (.ref a1), some (.int p2), some (.int p3), none, some (.int ((if p5 < ((gI G 65 r1) + (gI G 193 a1)) then ((gI G 65 r1) + (gI G 193 a1)) else p5))), some (.int ((p6 + (1 : Int32)))), none] [] G Post)))) : J E 5 m_Hi_furthestEnd 25 [some (.ref a0), some (.ref a1), some (.int p2), some (.int p3), none, some (.int p5), some (.int p6), none] [va_rf w0] G Post := by
  refine j_astore (x := w0) (L' := [some (.ref a0), some (.ref a1), some (.int p2), some (.int p3), none, some (.int p5), some (.int p6), some (va_rf w0)]) rfl d_Hi_furthestEnd_25 (by decide) rfl ?_
  refine j_aloadq (x := w0) d_Hi_furthestEnd_27 rfl ?_
  obtain ⟨Ha, Hb⟩ := H
  refine j_ifnull (x := w0) (tgt := 68) rfl d_Hi_furthestEnd_29 (by decide) (fun c8 => ?_) (fun r1 c8 => ?_)
  · have H := Ha c8
    subst c8
    refine j_iinc (v := (p6 + (1 : Int32))) (L' := [some (.ref a0), some (.ref a1), some (.int p2), some (.int p3), none, some (.int p5), some (.int ((p6 + (1 : Int32)))), some (.null)]) d_Hi_furthestEnd_68 rfl (by rw [show Int32.ofInt (1) = (1 : Int32) by decide]) (by decide) rfl ?_
    refine j_goto (tgt := 7) d_Hi_furthestEnd_71 (by decide) ?_
    refine j_forget (L' := [some (.ref a0), some (.ref a1), some (.int p2), some (.int p3), none, some (.int p5), some (.int ((p6 + (1 : Int32)))), none]) ⟨Or.inr rfl, Or.inr rfl, Or.inr rfl, Or.inr rfl, Or.inl rfl, Or.inr rfl, Or.inr rfl, Or.inl rfl, trivial⟩ ?_
    exact H
  · have H := Hb r1 c8
    subst c8
    refine j_aload d_Hi_furthestEnd_32 rfl ?_
    obtain ⟨t2, H⟩ := H
    refine j_getI (f := 65) fe_Hi_61 rfl rfl t2 d_Hi_furthestEnd_34 ?_
    refine j_iload_n d_Hi_furthestEnd_37 rfl ?_
    obtain ⟨Ha, Hb⟩ := H
    refine j_icmp_lt (tgt := 68) d_Hi_furthestEnd_38 (by decide) (fun c6 => ?_) (fun c7 => ?_)
    · have H := Ha c6
      refine j_iinc (v := (p6 + (1 : Int32))) (L' := [some (.ref a0), some (.ref a1), some (.int p2), some (.int p3), none, some (.int p5), some (.int ((p6 + (1 : Int32)))), some (.ref r1)]) d_Hi_furthestEnd_68 rfl (by rw [show Int32.ofInt (1) = (1 : Int32) by decide]) (by decide) rfl ?_
      refine j_goto (tgt := 7) d_Hi_furthestEnd_71 (by decide) ?_
      refine j_forget (L' := [some (.ref a0), some (.ref a1), some (.int p2), some (.int p3), none, some (.int p5), some (.int ((p6 + (1 : Int32)))), none]) ⟨Or.inr rfl, Or.inr rfl, Or.inr rfl, Or.inr rfl, Or.inl rfl, Or.inr rfl, Or.inr rfl, Or.inl rfl, trivial⟩ ?_
      exact H
    · have H := Hb c7
      refine j_aload d_Hi_furthestEnd_41 rfl ?_
      refine j_getI (f := 65) fe_Hi_61 rfl rfl t2 d_Hi_furthestEnd_43 ?_
      refine j_iload d_Hi_furthestEnd_46 rfl ?_
      obtain ⟨Ha, Hb⟩ := H
      refine j_icmp_ge (tgt := 68) d_Hi_furthestEnd_48 (by decide) (fun c4 => ?_) (fun c5 => ?_)
      · have H := Ha c4
        refine j_iinc (v := (p6 + (1 : Int32))) (L' := [some (.ref a0), some (.ref a1), some (.int p2), some (.int p3), none, some (.int p5), some (.int ((p6 + (1 : Int32)))), some (.ref r1)]) d_Hi_furthestEnd_68 rfl (by rw [show Int32.ofInt (1) = (1 : Int32) by decide]) (by decide) rfl ?_
        refine j_goto (tgt := 7) d_Hi_furthestEnd_71 (by decide) ?_
        refine j_forget (L' := [some (.ref a0), some (.ref a1), some (.int p2), some (.int p3), none, some (.int p5), some (.int ((p6 + (1 : Int32)))), none]) ⟨Or.inr rfl, Or.inr rfl, Or.inr rfl, Or.inr rfl, Or.inl rfl, Or.inr rfl, Or.inr rfl, Or.inl rfl, trivial⟩ ?_
        exact H
      · have H := Hb c5
        refine j_iload d_Hi_furthestEnd_51 rfl ?_
        refine j_aload d_Hi_furthestEnd_53 rfl ?_
        refine j_getI (f := 65) fe_Hi_61 rfl rfl t2 d_Hi_furthestEnd_55 ?_
        refine j_aload_n d_Hi_furthestEnd_58 rfl ?_
        obtain ⟨t3, H⟩ := H
        refine j_getI (f := 193) fe_Hi_64 rfl rfl t3 d_Hi_furthestEnd_59 ?_
        refine j_iadd d_Hi_furthestEnd_62 ?_
        refine j_max cm_Hi_70 wm_max1 wm_ini wm_max2 (Nat.le_of_ble_eq_true rfl) d_Hi_furthestEnd_63 ?_
        refine j_istore (L' := [some (.ref a0), some (.ref a1), some (.int p2), some (.int p3), none, some (.int ((if p5 < ((gI G 65 r1) + (gI G 193 a1)) then ((gI G 65 r1) + (gI G 193 a1)) else p5))), some (.int p6), some (.ref r1)]) d_Hi_furthestEnd_66 (by decide) rfl ?_
        refine j_iinc (v := (p6 + (1 : Int32))) (L' := [some (.ref a0), some (.ref a1), some (.int p2), some (.int p3), none, some (.int ((if p5 < ((gI G 65 r1) + (gI G 193 a1)) then ((gI G 65 r1) + (gI G 193 a1)) else p5))), some (.int ((p6 + (1 : Int32)))), some (.ref r1)]) d_Hi_furthestEnd_68 rfl (by rw [show Int32.ofInt (1) = (1 : Int32) by decide]) (by decide) rfl ?_
        refine j_goto (tgt := 7) d_Hi_furthestEnd_71 (by decide) ?_
        refine j_forget (L' := [some (.ref a0), some (.ref a1), some (.int p2), some (.int p3), none, some (.int ((if p5 < ((gI G 65 r1) + (gI G 193 a1)) then ((gI G 65 r1) + (gI G 193 a1)) else p5))), some (.int ((p6 + (1 : Int32)))), none]) ⟨Or.inr rfl, Or.inr rfl, Or.inr rfl, Or.inr rfl, Or.inl rfl, Or.inr rfl, Or.inr rfl, Or.inl rfl, trivial⟩ ?_
        exact H
theorem wp_Hi_gather_0 {E : EV} {G : GH} {Post : Res → GH → Prop} (a0 : Nat) (a1 : Nat) (p2 : Int32) (p3 : Int32) (p4 : Int32) (H : gT G a0 = 3 ∧ ∃ b2, gR G 131 a0 = some b2 ∧ gT G b2 = 8 ∧ ∀ G5, G5 = sI (sI (sI (sI (sI (sI G 448 b2 p2) 449 b2 p3) 450 b2 p4) 451 b2 ((0 : Int32))) 452 b2 ((0 : Int32))) 453 b2 ((0 : Int32)) → J E 5 m_Hi_gather 14 [some (.ref a0), some (.ref a1), some (.int p2), none, some (.int p4), some (.int ((0 : Int32))), none] [] G5 Post) : J E 5 m_Hi_gather 0 [some (.ref a0), some (.ref a1), some (.int p2), some (.int p3), some (.int p4), none, none] [] G Post := by
  refine j_aload_n d_Hi_gather_0 rfl ?_
  obtain ⟨t1, H⟩ := H
  obtain ⟨b2, e3, H⟩ := H
  refine j_getR (f := 131) (b := b2) fe_Hi_28 rfl rfl t1 e3 d_Hi_gather_1 ?_
  refine j_iload_n d_Hi_gather_4 rfl ?_
  refine j_iload_n d_Hi_gather_5 rfl ?_
  refine j_iload d_Hi_gather_6 rfl ?_
  obtain ⟨t4, H⟩ := H
  refine j_callV (d' := 1) (ci := 7) (As := [.int p2, .int p3, .int p4]) (rest := []) (b := b2) cv_Hi_76 me_Wi_begin rfl (by decide) rfl rfl t4 rfl rfl (Nat.le_of_ble_eq_true rfl) d_Hi_gather_8 (by decide) rfl (j_enter (L := [some (.ref b2), some (.int p2), some (.int p3), some (.int p4)]) me_Wi_begin (cat_c rfl (cat_c rfl (cat_c rfl (cat_c rfl cat_n)))) (Nat.le_of_ble_eq_true rfl) rfl ?_)
  refine j_aload_n d_Wi_begin_0 rfl ?_
  refine j_iload_n d_Wi_begin_1 rfl ?_
  refine j_putI (f := 448) fw_Wi_9 rfl rfl t4 d_Wi_begin_2 ?_
  refine j_aload_n d_Wi_begin_5 rfl ?_
  refine j_iload_n d_Wi_begin_6 rfl ?_
  refine j_putI (f := 449) fw_Wi_15 rfl rfl t4 d_Wi_begin_7 ?_
  refine j_aload_n d_Wi_begin_10 rfl ?_
  refine j_iload_n d_Wi_begin_11 rfl ?_
  refine j_putI (f := 450) fw_Wi_18 rfl rfl t4 d_Wi_begin_12 ?_
  refine j_aload_n d_Wi_begin_15 rfl ?_
  refine j_iconst (v := 0) d_Wi_begin_16 (by decide) ?_
  refine j_putI (f := 451) fw_Wi_21 rfl rfl t4 d_Wi_begin_17 ?_
  refine j_aload_n d_Wi_begin_20 rfl ?_
  refine j_iconst (v := 0) d_Wi_begin_21 (by decide) ?_
  refine j_putI (f := 452) fw_Wi_24 rfl rfl t4 d_Wi_begin_22 ?_
  refine j_aload_n d_Wi_begin_25 rfl ?_
  refine j_iconst (v := 0) d_Wi_begin_26 (by decide) ?_
  refine j_putZ (f := 453) fw_Wi_27 rfl rfl t4 (by decide) d_Wi_begin_27 ?_
  show J E 1 m_Wi_begin 30 [some (.ref b2), some (.int p2), some (.int p3), some (.int p4)] [] (sI (sI (sI (sI (sI (sI G 448 b2 p2) 449 b2 p3) 450 b2 p4) 451 b2 ((0 : Int32))) 452 b2 ((0 : Int32))) 453 b2 ((0 : Int32))) (aft E 5 m_Hi_gather 8 [some (.ref a0), some (.ref a1), some (.int p2), some (.int p3), some (.int p4), none, none] [] Post)
  generalize e6 : sI (sI (sI (sI (sI (sI G 448 b2 p2) 449 b2 p3) 450 b2 p4) 451 b2 ((0 : Int32))) 452 b2 ((0 : Int32))) 453 b2 ((0 : Int32)) = G5
  have e6 := e6.symm
  have H := H G5 e6
  refine j_vret rfl d_Wi_begin_30 ?_
  show J E 5 m_Hi_gather 11 [some (.ref a0), some (.ref a1), some (.int p2), some (.int p3), some (.int p4), none, none] [] G5 Post
  refine j_iconst (v := 0) d_Hi_gather_11 (by decide) ?_
  refine j_istore (L' := [some (.ref a0), some (.ref a1), some (.int p2), some (.int p3), some (.int p4), some (.int ((0 : Int32))), none]) d_Hi_gather_12 (by decide) rfl ?_
  refine j_forget (L' := [some (.ref a0), some (.ref a1), some (.int p2), none, some (.int p4), some (.int ((0 : Int32))), none]) ⟨Or.inr rfl, Or.inr rfl, Or.inr rfl, Or.inl rfl, Or.inr rfl, Or.inr rfl, Or.inl rfl, trivial⟩ ?_
  exact H
theorem wp_Hi_gather_14 {E : EV} {G : GH} {Post : Res → GH → Prop} (a0 : Nat) (a1 : Nat) (p2 : Int32) (p4 : Int32) (p5 : Int32) (H : gT G a0 = 3 ∧ ((gI G 129 a0) ≤ p5 → ∃ b2, gR G 131 a0 = some b2 ∧ Post (.inl (some (.ref b2))) G) ∧ (¬ (gI G 129 a0) ≤ p5 → Cl E 4 m_Hi_admittedAt [.ref a0, .int p5, .ref a1, .int p2, .int p4] G (aft E 5 m_Hi_gather 30 [some (.ref a0), some (.ref a1), some (.int p2), none, some (.int p4), some (.int p5), none] [] Post))) : J E 5 m_Hi_gather 14 [some (.ref a0), some (.ref a1), some (.int p2), none, some (.int p4), some (.int p5), none] [] G Post := by
  refine j_iload d_Hi_gather_14 rfl ?_
  refine j_aload_n d_Hi_gather_16 rfl ?_
  obtain ⟨t1, H⟩ := H
  refine j_getI (f := 129) fe_Hi_18 rfl rfl t1 d_Hi_gather_17 ?_
  obtain ⟨Ha, Hb⟩ := H
  refine j_icmp_ge (tgt := 73) d_Hi_gather_20 (by decide) (fun c4 => ?_) (fun c5 => ?_)
  · have H := Ha c4
    refine j_aload_n d_Hi_gather_73 rfl ?_
    obtain ⟨b2, e3, H⟩ := H
    refine j_getR (f := 131) (b := b2) fe_Hi_28 rfl rfl t1 e3 d_Hi_gather_74 ?_
    exact j_aret (x := (some b2)) rfl rfl (Or.inl ⟨_, rfl⟩) d_Hi_gather_77 H
  · have H := Hb c5
    refine j_aload_n d_Hi_gather_23 rfl ?_
    refine j_iload d_Hi_gather_24 rfl ?_
    refine j_aload_n d_Hi_gather_26 rfl ?_
    refine j_iload_n d_Hi_gather_27 rfl ?_
    refine j_iload d_Hi_gather_28 rfl ?_
    exact j_callV (d' := 4) (ci := 2) (As := [.int p5, .ref a1, .int p2, .int p4]) (rest := []) (b := a0) cv_Hi_57 me_Hi_admittedAt rfl (by decide) rfl rfl t1 rfl rfl (Nat.le_of_ble_eq_true rfl) d_Hi_gather_30 (by decide) rfl H
theorem wp_Hi_gather_33 {E : EV} {G : GH} {Post : Res → GH → Prop} (a0 : Nat) (a1 : Nat) (p2 : Int32) (p4 : Int32) (p5 : Int32) (w0 : Option Nat) (H : (w0 = none → J E 5 m_Hi_gather 14 [some (.ref a0), some (.ref a1), some (.int p2), none, some (.int p4), some (.int ((p5 + (1 : Int32)))), none] [] G Post) ∧ (∀ r1, w0 = some r1 → gT G a0 = 3 ∧ ∃ b3, gR G 131 a0 = some b3 ∧ gT G r1 = 2 ∧ gT G b3 = 8 ∧ ((gI G 65 r1) < (gI G 449 b3) → J E 5 m_Hi_gather 14 [some (.ref a0), some (.ref a1), some (.int p2), none, some (.int p4), some (.int ((p5 + (1 : Int32)))), none] [] G Post) ∧ (¬ (gI G 65 r1) < (gI G 449 b3) → ((gI G 450 b3) ≤ (gI G 65 r1) → J E 5 m_Hi_gather 14 [some (.ref a0), some (.ref a1), some (.int p2), none, some (.int p4), some (.int ((p5 + (1 : Int32)))), none] [] G Post) ∧ (¬ (gI G 450 b3) ≤ (gI G 65 r1) → J E 5 m_Hi_gather 14 [some (.ref a0), some (.ref a1), some (.int p2), none, some (.int p4), some (.int ((p5 + (1 : Int32)))), none] [] (sI (sI G 451 b3 (((gI G 451 b3) + (1 : Int32)))) 452 b3 (((gI G 452 b3) + (gI G 67 r1)))) Post)))) : J E 5 m_Hi_gather 33 [some (.ref a0), some (.ref a1), some (.int p2), none, some (.int p4), some (.int p5), none] [va_rf w0] G Post := by
  refine j_astore (x := w0) (L' := [some (.ref a0), some (.ref a1), some (.int p2), none, some (.int p4), some (.int p5), some (va_rf w0)]) rfl d_Hi_gather_33 (by decide) rfl ?_
  refine j_aloadq (x := w0) d_Hi_gather_35 rfl ?_
  obtain ⟨Ha, Hb⟩ := H
  refine j_ifnull (x := w0) (tgt := 67) rfl d_Hi_gather_37 (by decide) (fun c11 => ?_) (fun r1 c11 => ?_)
  · have H := Ha c11
    subst c11
    refine j_iinc (v := (p5 + (1 : Int32))) (L' := [some (.ref a0), some (.ref a1), some (.int p2), none, some (.int p4), some (.int ((p5 + (1 : Int32)))), some (.null)]) d_Hi_gather_67 rfl (by rw [show Int32.ofInt (1) = (1 : Int32) by decide]) (by decide) rfl ?_
    refine j_goto (tgt := 14) d_Hi_gather_70 (by decide) ?_
    refine j_forget (L' := [some (.ref a0), some (.ref a1), some (.int p2), none, some (.int p4), some (.int ((p5 + (1 : Int32)))), none]) ⟨Or.inr rfl, Or.inr rfl, Or.inr rfl, Or.inl rfl, Or.inr rfl, Or.inr rfl, Or.inl rfl, trivial⟩ ?_
    exact H
  · have H := Hb r1 c11
    subst c11
    refine j_aload_n d_Hi_gather_40 rfl ?_
    obtain ⟨t2, H⟩ := H
    obtain ⟨b3, e4, H⟩ := H
    refine j_getR (f := 131) (b := b3) fe_Hi_28 rfl rfl t2 e4 d_Hi_gather_41 ?_
    refine j_aload d_Hi_gather_44 rfl ?_
    obtain ⟨t5, H⟩ := H
    refine j_getI (f := 65) fe_Hi_61 rfl rfl t5 d_Hi_gather_46 ?_
    obtain ⟨t6, H⟩ := H
    refine j_callV (d' := 1) (ci := 7) (As := [.int ((gI G 65 r1))]) (rest := []) (b := b3) cv_Hi_80 me_Wi_hasMoment rfl (by decide) rfl rfl t6 rfl rfl (Nat.le_of_ble_eq_true rfl) d_Hi_gather_49 (by decide) rfl (j_enter (L := [some (.ref b3), some (.int ((gI G 65 r1)))]) me_Wi_hasMoment (cat_c rfl (cat_c rfl cat_n)) (Nat.le_of_ble_eq_true rfl) rfl ?_)
    refine j_aload_n d_Wi_hasMoment_0 rfl ?_
    refine j_getI (f := 449) fe_Wi_15 rfl rfl t6 d_Wi_hasMoment_1 ?_
    refine j_iload_n d_Wi_hasMoment_4 rfl ?_
    obtain ⟨Ha, Hb⟩ := H
    refine j_icmp_gt (tgt := 20) d_Wi_hasMoment_5 (by decide) (fun c9 => ?_) (fun c10 => ?_)
    · have H := Ha c9
      refine j_iconst (v := 0) d_Wi_hasMoment_20 (by decide) ?_
      refine j_zret rfl (by decide) d_Wi_hasMoment_21 ?_
      show J E 5 m_Hi_gather 52 [some (.ref a0), some (.ref a1), some (.int p2), none, some (.int p4), some (.int p5), some (.ref r1)] [.int ((0 : Int32))] G Post
      refine j_if_eq (tgt := 67) d_Hi_gather_52 (by decide) (fun _ => ?_) (fun c => absurd c (by decide))
      refine j_iinc (v := (p5 + (1 : Int32))) (L' := [some (.ref a0), some (.ref a1), some (.int p2), none, some (.int p4), some (.int ((p5 + (1 : Int32)))), some (.ref r1)]) d_Hi_gather_67 rfl (by rw [show Int32.ofInt (1) = (1 : Int32) by decide]) (by decide) rfl ?_
      refine j_goto (tgt := 14) d_Hi_gather_70 (by decide) ?_
      refine j_forget (L' := [some (.ref a0), some (.ref a1), some (.int p2), none, some (.int p4), some (.int ((p5 + (1 : Int32)))), none]) ⟨Or.inr rfl, Or.inr rfl, Or.inr rfl, Or.inl rfl, Or.inr rfl, Or.inr rfl, Or.inl rfl, trivial⟩ ?_
      exact H
    · have H := Hb c10
      refine j_iload_n d_Wi_hasMoment_8 rfl ?_
      refine j_aload_n d_Wi_hasMoment_9 rfl ?_
      refine j_getI (f := 450) fe_Wi_18 rfl rfl t6 d_Wi_hasMoment_10 ?_
      obtain ⟨Ha, Hb⟩ := H
      refine j_icmp_ge (tgt := 20) d_Wi_hasMoment_13 (by decide) (fun c7 => ?_) (fun c8 => ?_)
      · have H := Ha c7
        refine j_iconst (v := 0) d_Wi_hasMoment_20 (by decide) ?_
        refine j_zret rfl (by decide) d_Wi_hasMoment_21 ?_
        show J E 5 m_Hi_gather 52 [some (.ref a0), some (.ref a1), some (.int p2), none, some (.int p4), some (.int p5), some (.ref r1)] [.int ((0 : Int32))] G Post
        refine j_if_eq (tgt := 67) d_Hi_gather_52 (by decide) (fun _ => ?_) (fun c => absurd c (by decide))
        refine j_iinc (v := (p5 + (1 : Int32))) (L' := [some (.ref a0), some (.ref a1), some (.int p2), none, some (.int p4), some (.int ((p5 + (1 : Int32)))), some (.ref r1)]) d_Hi_gather_67 rfl (by rw [show Int32.ofInt (1) = (1 : Int32) by decide]) (by decide) rfl ?_
        refine j_goto (tgt := 14) d_Hi_gather_70 (by decide) ?_
        refine j_forget (L' := [some (.ref a0), some (.ref a1), some (.int p2), none, some (.int p4), some (.int ((p5 + (1 : Int32)))), none]) ⟨Or.inr rfl, Or.inr rfl, Or.inr rfl, Or.inl rfl, Or.inr rfl, Or.inr rfl, Or.inl rfl, trivial⟩ ?_
        exact H
      · have H := Hb c8
        refine j_iconst (v := 1) d_Wi_hasMoment_16 (by decide) ?_
        refine j_goto (tgt := 21) d_Wi_hasMoment_17 (by decide) ?_
        refine j_zret rfl (by decide) d_Wi_hasMoment_21 ?_
        show J E 5 m_Hi_gather 52 [some (.ref a0), some (.ref a1), some (.int p2), none, some (.int p4), some (.int p5), some (.ref r1)] [.int ((1 : Int32))] G Post
        refine j_if_eq (tgt := 67) d_Hi_gather_52 (by decide) (fun c => absurd c (by decide)) (fun _ => ?_)
        refine j_aload_n d_Hi_gather_55 rfl ?_
        refine j_getR (f := 131) (b := b3) fe_Hi_28 rfl rfl t2 e4 d_Hi_gather_56 ?_
        refine j_aload d_Hi_gather_59 rfl ?_
        refine j_getI (f := 67) fe_Hi_84 rfl rfl t5 d_Hi_gather_61 ?_
        refine j_callV (d' := 1) (ci := 7) (As := [.int ((gI G 67 r1))]) (rest := []) (b := b3) cv_Hi_87 me_Wi_addValue rfl (by decide) rfl rfl t6 rfl rfl (Nat.le_of_ble_eq_true rfl) d_Hi_gather_64 (by decide) rfl (j_enter (L := [some (.ref b3), some (.int ((gI G 67 r1)))]) me_Wi_addValue (cat_c rfl (cat_c rfl cat_n)) (Nat.le_of_ble_eq_true rfl) rfl ?_)
        refine j_aload_n d_Wi_addValue_0 rfl ?_
        refine j_dup d_Wi_addValue_1 rfl ?_
        refine j_getI (f := 451) fe_Wi_21 rfl rfl t6 d_Wi_addValue_2 ?_
        refine j_iconst (v := 1) d_Wi_addValue_5 (by decide) ?_
        refine j_iadd d_Wi_addValue_6 ?_
        refine j_putI (f := 451) fw_Wi_21 rfl rfl t6 d_Wi_addValue_7 ?_
        refine j_aload_n d_Wi_addValue_10 rfl ?_
        refine j_dup d_Wi_addValue_11 rfl ?_
        refine j_getI (f := 452) fe_Wi_24 rfl rfl t6 d_Wi_addValue_12 ?_
        refine j_iload_n d_Wi_addValue_15 rfl ?_
        refine j_iadd d_Wi_addValue_16 ?_
        refine j_putI (f := 452) fw_Wi_24 rfl rfl t6 d_Wi_addValue_17 ?_
        refine j_vret rfl d_Wi_addValue_20 ?_
        show J E 5 m_Hi_gather 67 [some (.ref a0), some (.ref a1), some (.int p2), none, some (.int p4), some (.int p5), some (.ref r1)] [] (sI (sI G 451 b3 (((gI G 451 b3) + (1 : Int32)))) 452 b3 (((gI G 452 b3) + (gI G 67 r1)))) Post
        refine j_iinc (v := (p5 + (1 : Int32))) (L' := [some (.ref a0), some (.ref a1), some (.int p2), none, some (.int p4), some (.int ((p5 + (1 : Int32)))), some (.ref r1)]) d_Hi_gather_67 rfl (by rw [show Int32.ofInt (1) = (1 : Int32) by decide]) (by decide) rfl ?_
        refine j_goto (tgt := 14) d_Hi_gather_70 (by decide) ?_
        refine j_forget (L' := [some (.ref a0), some (.ref a1), some (.int p2), none, some (.int p4), some (.int ((p5 + (1 : Int32)))), none]) ⟨Or.inr rfl, Or.inr rfl, Or.inr rfl, Or.inl rfl, Or.inr rfl, Or.inr rfl, Or.inl rfl, trivial⟩ ?_
        exact H
theorem wp_Pr_init_0 {E : EV} {G : GH} {Post : Res → GH → Prop} (a0 : Nat) (H : ∀ G1, G1 = al G 20 3 → gT G1 a0 = 5 ∧ ∀ G4, G4 = al (sR G1 256 a0 (some ((gz G)))) 20 3 → gT G4 a0 = 5 ∧ ∀ G7, G7 = al (sR G4 257 a0 (some ((gz G1)))) 20 3 → gT G7 ((gz G4)) = 20 ∧ IX (0 : Int32) 0 (gN G7 ((gz G4))) ∧ IX (1 : Int32) 1 (gN G7 ((gz G4))) ∧ IX (2 : Int32) 2 (gN G7 ((gz G4))) ∧ gT G7 a0 = 5 ∧ ∀ G14, G14 = sR (sA (sA (sA G7 ((gz G4)) 0 ((-1 : Int32))) ((gz G4)) 1 ((-1 : Int32))) ((gz G4)) 2 ((-1 : Int32))) 258 a0 (some ((gz G4))) → ∀ G16, G16 = al (sI (sI (sI (sI G14 259 a0 ((-1 : Int32))) 260 a0 ((0 : Int32))) 261 a0 ((0 : Int32))) 262 a0 ((0 : Int32))) 9 2 → Cl E 4 m_Ws_init [.ref ((gz G14))] G16 (aft E 5 m_Pr_init 62 [none] [.ref ((gz G14)), .ref a0] Post)) : J E 5 m_Pr_init 0 [some (.ref a0)] [] G Post := by
  refine j_aload_n d_Pr_init_0 rfl ?_
  refine j_objInit co_Pr_3 ob1 ob2 (Nat.le_of_ble_eq_true rfl) d_Pr_init_1 ?_
  refine j_aload_n d_Pr_init_4 rfl ?_
  refine j_iconst (v := 3) d_Pr_init_5 (by decide) ?_
  refine j_newI (n := 3) (by decide) (by decide) (by decide) wa_int d_Pr_init_6 ?_
  show J E 5 m_Pr_init 8 [some (.ref a0)] [.ref ((gz G)), .ref a0] (al G 20 3) Post
  generalize e2 : al G 20 3 = G1
  have e2 := e2.symm
  have H := H G1 e2
  obtain ⟨t3, H⟩ := H
  refine j_putFR (r := (some ((gz G)))) (f := 256) rfl ff_Pr_9 rfl rfl rfl t3 d_Pr_init_8 ?_
  refine j_aload_n d_Pr_init_11 rfl ?_
  refine j_iconst (v := 3) d_Pr_init_12 (by decide) ?_
  refine j_newI (n := 3) (by decide) (by decide) (by decide) wa_int d_Pr_init_13 ?_
  show J E 5 m_Pr_init 15 [some (.ref a0)] [.ref ((gz G1)), .ref a0] (al (sR G1 256 a0 (some ((gz G)))) 20 3) Post
  generalize e5 : al (sR G1 256 a0 (some ((gz G)))) 20 3 = G4
  have e5 := e5.symm
  have H := H G4 e5
  obtain ⟨t6, H⟩ := H
  refine j_putFR (r := (some ((gz G1)))) (f := 257) rfl ff_Pr_15 rfl rfl rfl t6 d_Pr_init_15 ?_
  refine j_aload_n d_Pr_init_18 rfl ?_
  refine j_iconst (v := 3) d_Pr_init_19 (by decide) ?_
  refine j_newI (n := 3) (by decide) (by decide) (by decide) wa_int d_Pr_init_20 ?_
  show J E 5 m_Pr_init 22 [some (.ref a0)] [.ref ((gz G4)), .ref a0] (al (sR G4 257 a0 (some ((gz G1)))) 20 3) Post
  generalize e8 : al (sR G4 257 a0 (some ((gz G1)))) 20 3 = G7
  have e8 := e8.symm
  have H := H G7 e8
  refine j_dup d_Pr_init_22 rfl ?_
  refine j_iconst (v := 0) d_Pr_init_23 (by decide) ?_
  refine j_iconst (v := -1) d_Pr_init_24 (by decide) ?_
  obtain ⟨t9, H⟩ := H
  obtain ⟨x10, H⟩ := H
  refine j_iast (n := 0) t9 x10 d_Pr_init_25 ?_
  refine j_dup d_Pr_init_26 rfl ?_
  refine j_iconst (v := 1) d_Pr_init_27 (by decide) ?_
  refine j_iconst (v := -1) d_Pr_init_28 (by decide) ?_
  obtain ⟨x11, H⟩ := H
  refine j_iast (n := 1) t9 x11 d_Pr_init_29 ?_
  refine j_dup d_Pr_init_30 rfl ?_
  refine j_iconst (v := 2) d_Pr_init_31 (by decide) ?_
  refine j_iconst (v := -1) d_Pr_init_32 (by decide) ?_
  obtain ⟨x12, H⟩ := H
  refine j_iast (n := 2) t9 x12 d_Pr_init_33 ?_
  obtain ⟨t13, H⟩ := H
  refine j_putFR (r := (some ((gz G4)))) (f := 258) rfl ff_Pr_18 rfl rfl rfl t13 d_Pr_init_34 ?_
  show J E 5 m_Pr_init 37 [some (.ref a0)] [] (sR (sA (sA (sA G7 ((gz G4)) 0 ((-1 : Int32))) ((gz G4)) 1 ((-1 : Int32))) ((gz G4)) 2 ((-1 : Int32))) 258 a0 (some ((gz G4)))) Post
  generalize e15 : sR (sA (sA (sA G7 ((gz G4)) 0 ((-1 : Int32))) ((gz G4)) 1 ((-1 : Int32))) ((gz G4)) 2 ((-1 : Int32))) 258 a0 (some ((gz G4))) = G14
  have e15 := e15.symm
  have H := H G14 e15
  refine j_aload_n d_Pr_init_37 rfl ?_
  refine j_iconst (v := -1) d_Pr_init_38 (by decide) ?_
  refine j_putI (f := 259) fw_Pr_21 rfl rfl (by rw [e15]; exact t13) d_Pr_init_39 ?_
  refine j_aload_n d_Pr_init_42 rfl ?_
  refine j_iconst (v := 0) d_Pr_init_43 (by decide) ?_
  refine j_putI (f := 260) fw_Pr_25 rfl rfl (by rw [e15]; exact t13) d_Pr_init_44 ?_
  refine j_aload_n d_Pr_init_47 rfl ?_
  refine j_iconst (v := 0) d_Pr_init_48 (by decide) ?_
  refine j_putI (f := 261) fw_Pr_28 rfl rfl (by rw [e15]; exact t13) d_Pr_init_49 ?_
  refine j_aload_n d_Pr_init_52 rfl ?_
  refine j_iconst (v := 0) d_Pr_init_53 (by decide) ?_
  refine j_putI (f := 262) fw_Pr_31 rfl rfl (by rw [e15]; exact t13) d_Pr_init_54 ?_
  refine j_aload_n d_Pr_init_57 rfl ?_
  refine j_newT (n := 2) (t := 9) rfl ne_Pr_34 rfl (by decide) d_Pr_init_58 ?_
  show J E 5 m_Pr_init 61 [some (.ref a0)] [.ref ((gz G14)), .ref a0] (al (sI (sI (sI (sI G14 259 a0 ((-1 : Int32))) 260 a0 ((0 : Int32))) 261 a0 ((0 : Int32))) 262 a0 ((0 : Int32))) 9 2) Post
  generalize e17 : al (sI (sI (sI (sI G14 259 a0 ((-1 : Int32))) 260 a0 ((0 : Int32))) 261 a0 ((0 : Int32))) 262 a0 ((0 : Int32))) 9 2 = G16
  have e17 := e17.symm
  have H := H G16 e17
  refine j_dup d_Pr_init_61 rfl ?_
  refine j_forget (L' := [none]) ⟨Or.inl rfl, trivial⟩ ?_
  exact j_callIN (d' := 4) (As := []) (rest := [.ref ((gz G14)), .ref a0]) (b := ((gz G14))) cn_Pr_36 me_Ws_init rfl rfl (by decide) rfl rfl (Nat.le_of_ble_eq_true rfl) d_Pr_init_62 (by decide) rfl H
theorem wp_Pr_init_65 {E : EV} {G : GH} {Post : Res → GH → Prop} (u0 : Nat) (u1 : Nat) (H : gT G u0 = 5 ∧ Post (.inl none) (sR G 263 u0 (some u1))) : J E 5 m_Pr_init 65 [none] [.ref u1, .ref u0] G Post := by
  obtain ⟨t1, H⟩ := H
  refine j_putFR (r := (some u1)) (f := 263) rfl ff_Pr_37 rfl rfl rfl t1 d_Pr_init_65 ?_
  exact j_vret rfl d_Pr_init_68 H
theorem wp_Pr_copyFrom_0 {E : EV} {G : GH} {Post : Res → GH → Prop} (a0 : Nat) (a1 : Nat) (H : J E 8 m_Pr_copyFrom 2 [some (.ref a0), some (.ref a1), some (.int ((0 : Int32)))] [] G Post) : J E 8 m_Pr_copyFrom 0 [some (.ref a0), some (.ref a1), none] [] G Post := by
  refine j_iconst (v := 0) d_Pr_copyFrom_0 (by decide) ?_
  refine j_istore_n (L' := [some (.ref a0), some (.ref a1), some (.int ((0 : Int32)))]) d_Pr_copyFrom_1 (by decide) rfl ?_
  exact H
theorem wp_Pr_copyFrom_2 {E : EV} {G : GH} {Post : Res → GH → Prop} (a0 : Nat) (a1 : Nat) (p2 : Int32) (H : ((3 : Int32) ≤ p2 → gT G a1 = 5 ∧ gT G a0 = 5 ∧ ∀ G3, G3 = sI (sI (sI (sI G 259 a0 ((gI G 259 a1))) 260 a0 ((gI G 260 a1))) 261 a0 ((gI G 261 a1))) 262 a0 ((gI G 262 a1)) → ∃ b5, gR G 263 a0 = some b5 ∧ ∃ b7, gR G 263 a1 = some b7 ∧ gT G b5 = 9 ∧ Cl E 7 m_Ws_copyFrom [.ref b5, .ref b7] G3 (aft E 8 m_Pr_copyFrom 89 [none, none, none] [] Post)) ∧ (¬ (3 : Int32) ≤ p2 → gT G a0 = 5 ∧ ∃ b11, gR G 256 a0 = some b11 ∧ gT G a1 = 5 ∧ ∃ b14, gR G 256 a1 = some b14 ∧ (gT G b14 = 20 ∨ gT G b14 = 25) ∧ ∃ n18, IX p2 n18 (gN G b14) ∧ gT G b11 = 20 ∧ ∃ n21, IX p2 n21 (gN G b11) ∧ ∃ b22, gR G 257 a0 = some b22 ∧ ∃ b24, gR G 257 a1 = some b24 ∧ (gT G b24 = 20 ∨ gT G b24 = 25) ∧ ∃ n28, IX p2 n28 (gN G b24) ∧ gT G b22 = 20 ∧ ∃ n31, IX p2 n31 (gN G b22) ∧ ∃ b32, gR G 258 a0 = some b32 ∧ ∃ b34, gR G 258 a1 = some b34 ∧ (gT G b34 = 20 ∨ gT G b34 = 25) ∧ ∃ n38, IX p2 n38 (gN G b34) ∧ gT G b32 = 20 ∧ ∃ n41, IX p2 n41 (gN G b32) ∧ ∀ G42, G42 = sA (sA (sA G b11 n21 ((gA G b14 n18))) b22 n31 ((gA (sA G b11 n21 ((gA G b14 n18))) b24 n28))) b32 n41 ((gA (sA (sA G b11 n21 ((gA G b14 n18))) b22 n31 ((gA (sA G b11 n21 ((gA G b14 n18))) b24 n28))) b34 n38)) → J E 8 m_Pr_copyFrom 2 [some (.ref a0), some (.ref a1), some (.int ((p2 + (1 : Int32))))] [] G42 Post)) : J E 8 m_Pr_copyFrom 2 [some (.ref a0), some (.ref a1), some (.int p2)] [] G Post := by
  refine j_iload_n d_Pr_copyFrom_2 rfl ?_
  refine j_iconst (v := 3) d_Pr_copyFrom_3 (by decide) ?_
  obtain ⟨Ha, Hb⟩ := H
  refine j_icmp_ge (tgt := 49) d_Pr_copyFrom_4 (by decide) (fun c44 => ?_) (fun c45 => ?_)
  · have H := Ha c44
    refine j_aload_n d_Pr_copyFrom_49 rfl ?_
    refine j_aload_n d_Pr_copyFrom_50 rfl ?_
    obtain ⟨t1, H⟩ := H
    refine j_getI (f := 259) fe_Pr_21 rfl rfl t1 d_Pr_copyFrom_51 ?_
    obtain ⟨t2, H⟩ := H
    refine j_putI (f := 259) fw_Pr_21 rfl rfl t2 d_Pr_copyFrom_54 ?_
    refine j_aload_n d_Pr_copyFrom_57 rfl ?_
    refine j_aload_n d_Pr_copyFrom_58 rfl ?_
    refine j_getI (f := 260) fe_Pr_25 rfl rfl t1 d_Pr_copyFrom_59 ?_
    refine j_putI (f := 260) fw_Pr_25 rfl rfl t2 d_Pr_copyFrom_62 ?_
    refine j_aload_n d_Pr_copyFrom_65 rfl ?_
    refine j_aload_n d_Pr_copyFrom_66 rfl ?_
    refine j_getI (f := 261) fe_Pr_28 rfl rfl t1 d_Pr_copyFrom_67 ?_
    refine j_putI (f := 261) fw_Pr_28 rfl rfl t2 d_Pr_copyFrom_70 ?_
    refine j_aload_n d_Pr_copyFrom_73 rfl ?_
    refine j_aload_n d_Pr_copyFrom_74 rfl ?_
    refine j_getI (f := 262) fe_Pr_31 rfl rfl t1 d_Pr_copyFrom_75 ?_
    refine j_putI (f := 262) fw_Pr_31 rfl rfl t2 d_Pr_copyFrom_78 ?_
    show J E 8 m_Pr_copyFrom 81 [some (.ref a0), some (.ref a1), some (.int p2)] [] (sI (sI (sI (sI G 259 a0 ((gI G 259 a1))) 260 a0 ((gI G 260 a1))) 261 a0 ((gI G 261 a1))) 262 a0 ((gI G 262 a1))) Post
    generalize e4 : sI (sI (sI (sI G 259 a0 ((gI G 259 a1))) 260 a0 ((gI G 260 a1))) 261 a0 ((gI G 261 a1))) 262 a0 ((gI G 262 a1)) = G3
    have e4 := e4.symm
    have H := H G3 e4
    refine j_aload_n d_Pr_copyFrom_81 rfl ?_
    obtain ⟨b5, e6, H⟩ := H
    refine j_getR (f := 263) (b := b5) fe_Pr_37 rfl rfl (by rw [e4]; exact t2) (by rw [e4]; exact e6) d_Pr_copyFrom_82 ?_
    refine j_aload_n d_Pr_copyFrom_85 rfl ?_
    obtain ⟨b7, e8, H⟩ := H
    refine j_getR (f := 263) (b := b7) fe_Pr_37 rfl rfl (by rw [e4]; exact t1) (by rw [e4]; exact e8) d_Pr_copyFrom_86 ?_
    obtain ⟨t9, H⟩ := H
    refine j_forget (L' := [none, none, none]) ⟨Or.inl rfl, Or.inl rfl, Or.inl rfl, trivial⟩ ?_
    exact j_callV (d' := 7) (ci := 8) (As := [.ref b7]) (rest := []) (b := b5) cv_Pr_41 me_Ws_copyFrom rfl (by decide) rfl rfl (by rw [e4]; exact t9) rfl rfl (Nat.le_of_ble_eq_true rfl) d_Pr_copyFrom_89 (by decide) rfl H
  · have H := Hb c45
    refine j_aload_n d_Pr_copyFrom_7 rfl ?_
    obtain ⟨t10, H⟩ := H
    obtain ⟨b11, e12, H⟩ := H
    refine j_getR (f := 256) (b := b11) fe_Pr_9 rfl rfl t10 e12 d_Pr_copyFrom_8 ?_
    refine j_iload_n d_Pr_copyFrom_11 rfl ?_
    refine j_aload_n d_Pr_copyFrom_12 rfl ?_
    obtain ⟨t13, H⟩ := H
    obtain ⟨b14, e15, H⟩ := H
    refine j_getR (f := 256) (b := b14) fe_Pr_9 rfl rfl t13 e15 d_Pr_copyFrom_13 ?_
    refine j_iload_n d_Pr_copyFrom_16 rfl ?_
    obtain ⟨t16, H⟩ := H
    obtain ⟨n18, x17, H⟩ := H
    refine j_iald (n := n18) t16 x17 d_Pr_copyFrom_17 ?_
    obtain ⟨t19, H⟩ := H
    obtain ⟨n21, x20, H⟩ := H
    refine j_iast (n := n21) t19 x20 d_Pr_copyFrom_18 ?_
    refine j_aload_n d_Pr_copyFrom_19 rfl ?_
    obtain ⟨b22, e23, H⟩ := H
    refine j_getR (f := 257) (b := b22) fe_Pr_15 rfl rfl t10 e23 d_Pr_copyFrom_20 ?_
    refine j_iload_n d_Pr_copyFrom_23 rfl ?_
    refine j_aload_n d_Pr_copyFrom_24 rfl ?_
    obtain ⟨b24, e25, H⟩ := H
    refine j_getR (f := 257) (b := b24) fe_Pr_15 rfl rfl t13 e25 d_Pr_copyFrom_25 ?_
    refine j_iload_n d_Pr_copyFrom_28 rfl ?_
    obtain ⟨t26, H⟩ := H
    obtain ⟨n28, x27, H⟩ := H
    refine j_iald (n := n28) t26 x27 d_Pr_copyFrom_29 ?_
    obtain ⟨t29, H⟩ := H
    obtain ⟨n31, x30, H⟩ := H
    refine j_iast (n := n31) t29 x30 d_Pr_copyFrom_30 ?_
    refine j_aload_n d_Pr_copyFrom_31 rfl ?_
    obtain ⟨b32, e33, H⟩ := H
    refine j_getR (f := 258) (b := b32) fe_Pr_18 rfl rfl t10 e33 d_Pr_copyFrom_32 ?_
    refine j_iload_n d_Pr_copyFrom_35 rfl ?_
    refine j_aload_n d_Pr_copyFrom_36 rfl ?_
    obtain ⟨b34, e35, H⟩ := H
    refine j_getR (f := 258) (b := b34) fe_Pr_18 rfl rfl t13 e35 d_Pr_copyFrom_37 ?_
    refine j_iload_n d_Pr_copyFrom_40 rfl ?_
    obtain ⟨t36, H⟩ := H
    obtain ⟨n38, x37, H⟩ := H
    refine j_iald (n := n38) t36 x37 d_Pr_copyFrom_41 ?_
    obtain ⟨t39, H⟩ := H
    obtain ⟨n41, x40, H⟩ := H
    refine j_iast (n := n41) t39 x40 d_Pr_copyFrom_42 ?_
    show J E 8 m_Pr_copyFrom 43 [some (.ref a0), some (.ref a1), some (.int p2)] [] (sA (sA (sA G b11 n21 ((gA G b14 n18))) b22 n31 ((gA (sA G b11 n21 ((gA G b14 n18))) b24 n28))) b32 n41 ((gA (sA (sA G b11 n21 ((gA G b14 n18))) b22 n31 ((gA (sA G b11 n21 ((gA G b14 n18))) b24 n28))) b34 n38))) Post
    generalize e43 : sA (sA (sA G b11 n21 ((gA G b14 n18))) b22 n31 ((gA (sA G b11 n21 ((gA G b14 n18))) b24 n28))) b32 n41 ((gA (sA (sA G b11 n21 ((gA G b14 n18))) b22 n31 ((gA (sA G b11 n21 ((gA G b14 n18))) b24 n28))) b34 n38)) = G42
    have e43 := e43.symm
    have H := H G42 e43
    refine j_iinc (v := (p2 + (1 : Int32))) (L' := [some (.ref a0), some (.ref a1), some (.int ((p2 + (1 : Int32))))]) d_Pr_copyFrom_43 rfl (by rw [show Int32.ofInt (1) = (1 : Int32) by decide]) (by decide) rfl ?_
    refine j_goto (tgt := 2) d_Pr_copyFrom_46 (by decide) ?_
    exact H
theorem wp_Pr_copyFrom_92 {E : EV} {G : GH} {Post : Res → GH → Prop}  (H : Post (.inl none) G) : J E 8 m_Pr_copyFrom 92 [none, none, none] [] G Post := by
  exact j_vret rfl d_Pr_copyFrom_92 H
theorem wp_Si_init_0 {E : EV} {G : GH} {Post : Res → GH → Prop} (a0 : Nat) (H : ∀ G1, G1 = al G 12 3 → Cl E 3 m_AL_init [.ref ((gz G))] G1 (aft E 4 m_Si_init 9 [some (.ref a0)] [.ref ((gz G)), .ref a0] Post)) : J E 4 m_Si_init 0 [some (.ref a0)] [] G Post := by
  refine j_aload_n d_Si_init_0 rfl ?_
  refine j_objInit co_Si_1 ob1 ob2 (Nat.le_of_ble_eq_true rfl) d_Si_init_1 ?_
  refine j_aload_n d_Si_init_4 rfl ?_
  refine j_newT (n := 3) (t := 12) rfl ne_Si_7 rfl (by decide) d_Si_init_5 ?_
  show J E 4 m_Si_init 8 [some (.ref a0)] [.ref ((gz G)), .ref a0] (al G 12 3) Post
  generalize e2 : al G 12 3 = G1
  have e2 := e2.symm
  have H := H G1 e2
  refine j_dup d_Si_init_8 rfl ?_
  exact j_callI (d' := 3) (As := []) (rest := [.ref ((gz G)), .ref a0]) (b := ((gz G))) ci_Si_9 me_AL_init rfl rfl (by decide) rfl rfl (Nat.le_of_ble_eq_true rfl) d_Si_init_9 (by decide) rfl H
theorem wp_Si_init_12 {E : EV} {G : GH} {Post : Res → GH → Prop} (a0 : Nat) (u0 : Nat) (u1 : Nat) (H : gT G u0 = 6 ∧ gT G a0 = 6 ∧ Post (.inl none) (sI (sI (sI (sR G 320 u0 (some u1)) 321 a0 ((0 : Int32))) 322 a0 ((0 : Int32))) 323 a0 ((0 : Int32)))) : J E 4 m_Si_init 12 [some (.ref a0)] [.ref u1, .ref u0] G Post := by
  obtain ⟨t1, H⟩ := H
  refine j_putFR (r := (some u1)) (f := 320) rfl ff_Si_10 rfl rfl rfl t1 d_Si_init_12 ?_
  refine j_aload_n d_Si_init_15 rfl ?_
  refine j_iconst (v := 0) d_Si_init_16 (by decide) ?_
  obtain ⟨t2, H⟩ := H
  refine j_putI (f := 321) fw_Si_16 rfl rfl t2 d_Si_init_17 ?_
  refine j_aload_n d_Si_init_20 rfl ?_
  refine j_iconst (v := 0) d_Si_init_21 (by decide) ?_
  refine j_putI (f := 322) fw_Si_20 rfl rfl t2 d_Si_init_22 ?_
  refine j_aload_n d_Si_init_25 rfl ?_
  refine j_iconst (v := 0) d_Si_init_26 (by decide) ?_
  refine j_putI (f := 323) fw_Si_23 rfl rfl t2 d_Si_init_27 ?_
  exact j_vret rfl d_Si_init_30 H
theorem wp_Si_write_0 {E : EV} {G : GH} {Post : Res → GH → Prop} (a0 : Nat) (a1 : Nat) (p2 : Int32) (H : gT G a1 = 8 ∧ (p2 = 0 ∨ p2 = 1) ∧ gT G a0 = 6 ∧ ∃ b4, gR G 320 a0 = some b4 ∧ gT G b4 = 12 ∧ ((gI G 323 a0) < (gI G 706 b4) → ((gI G 706 b4) ≤ (gI G 323 a0) → Post (.inl none) (sI G 453 a1 p2)) ∧ (¬ (gI G 706 b4) ≤ (gI G 323 a0) → ∃ b7, LG (sI G 453 a1 p2) b4 ((gI G 323 a0)) b7 ∧ gT G b7 = 8 ∧ ∀ G10, G10 = sI (sI (sI (sI (sI G 453 a1 p2) 448 b7 ((gI G 448 a1))) 449 b7 ((gI G 449 a1))) 450 b7 ((gI G 450 a1))) 451 b7 ((gI G 451 a1)) → (p2 = 0 ∨ p2 = 1) ∧ Post (.inl none) (sI (sI (sI G10 452 b7 ((gI G 452 a1))) 453 b7 p2) 323 a0 (((gI G 323 a0) + (1 : Int32)))))) ∧ (¬ (gI G 323 a0) < (gI G 706 b4) → ∀ G15, G15 = al (sI G 453 a1 p2) 8 6 → gT G15 b4 = 12 ∧ Cl E 6 m_AL_add [.ref b4, .ref ((gz G))] G15 (aft E 7 m_Si_write 30 [some (.ref a0), some (.ref a1), none] [] Post))) : J E 7 m_Si_write 0 [some (.ref a0), some (.ref a1), some (.int p2)] [] G Post := by
  refine j_aload_n d_Si_write_0 rfl ?_
  refine j_iload_n d_Si_write_1 rfl ?_
  obtain ⟨t1, H⟩ := H
  obtain ⟨z2, H⟩ := H
  refine j_putZ (f := 453) fw_Si_26 rfl rfl t1 z2 d_Si_write_2 ?_
  refine j_aload_n d_Si_write_5 rfl ?_
  obtain ⟨t3, H⟩ := H
  refine j_getI (f := 323) fe_Si_23 rfl rfl t3 d_Si_write_6 ?_
  refine j_aload_n d_Si_write_9 rfl ?_
  obtain ⟨b4, e5, H⟩ := H
  refine j_getR (f := 320) (b := b4) fe_Si_10 rfl rfl t3 e5 d_Si_write_10 ?_
  obtain ⟨t6, H⟩ := H
  refine j_callV (d' := 1) (ci := 11) (As := []) (rest := [.int ((gI G 323 a0))]) (b := b4) cv_Si_32 me_AL_size rfl (by decide) rfl rfl t6 rfl rfl (Nat.le_of_ble_eq_true rfl) d_Si_write_13 (by decide) rfl (j_enter (L := [some (.ref b4)]) me_AL_size (cat_c rfl cat_n) (Nat.le_of_ble_eq_true rfl) rfl ?_)
  refine j_aload_n d_AL_size_0 rfl ?_
  refine j_getI (f := 706) fe_AL_48 rfl rfl t6 d_AL_size_1 ?_
  refine j_iret rfl d_AL_size_4 ?_
  show J E 7 m_Si_write 16 [some (.ref a0), some (.ref a1), some (.int p2)] [.int ((gI G 706 b4)), .int ((gI G 323 a0))] (sI G 453 a1 p2) Post
  obtain ⟨Ha, Hb⟩ := H
  refine j_icmp_lt (tgt := 34) d_Si_write_16 (by decide) (fun c18 => ?_) (fun c19 => ?_)
  · have H := Ha c18
    refine j_aload_n d_Si_write_34 rfl ?_
    refine j_getI (f := 323) fe_Si_23 rfl rfl t3 d_Si_write_35 ?_
    refine j_aload_n d_Si_write_38 rfl ?_
    refine j_getR (f := 320) (b := b4) fe_Si_10 rfl rfl t3 e5 d_Si_write_39 ?_
    refine j_callV (d' := 1) (ci := 11) (As := []) (rest := [.int ((gI G 323 a0))]) (b := b4) cv_Si_32 me_AL_size rfl (by decide) rfl rfl t6 rfl rfl (Nat.le_of_ble_eq_true rfl) d_Si_write_42 (by decide) rfl (j_enter (L := [some (.ref b4)]) me_AL_size (cat_c rfl cat_n) (Nat.le_of_ble_eq_true rfl) rfl ?_)
    refine j_aload_n d_AL_size_0 rfl ?_
    refine j_getI (f := 706) fe_AL_48 rfl rfl t6 d_AL_size_1 ?_
    refine j_iret rfl d_AL_size_4 ?_
    show J E 7 m_Si_write 45 [some (.ref a0), some (.ref a1), some (.int p2)] [.int ((gI G 706 b4)), .int ((gI G 323 a0))] (sI G 453 a1 p2) Post
    obtain ⟨Ha, Hb⟩ := H
    refine j_icmp_ge (tgt := 76) d_Si_write_45 (by decide) (fun c13 => ?_) (fun c14 => ?_)
    · have H := Ha c13
      exact j_vret rfl d_Si_write_76 H
    · have H := Hb c14
      refine j_aload_n d_Si_write_48 rfl ?_
      refine j_getR (f := 320) (b := b4) fe_Si_10 rfl rfl t3 e5 d_Si_write_49 ?_
      refine j_aload_n d_Si_write_52 rfl ?_
      refine j_getI (f := 323) fe_Si_23 rfl rfl t3 d_Si_write_53 ?_
      obtain ⟨b7, g8, H⟩ := H
      refine j_callV (d' := 3) (ci := 11) (As := [.int ((gI G 323 a0))]) (rest := []) (b := b4) cv_Si_41 me_AL_get rfl (by decide) rfl rfl t6 rfl rfl (Nat.le_of_ble_eq_true rfl) d_Si_write_56 (by decide) rfl (c_AL_get g8 ?_)
      show J E 7 m_Si_write 59 [some (.ref a0), some (.ref a1), some (.int p2)] [.ref b7] (sI G 453 a1 p2) Post
      obtain ⟨t9, H⟩ := H
      refine j_cast (ci := 7) rfl kl_Si_27 t9 d_Si_write_59 ?_
      refine j_aload_n d_Si_write_62 rfl ?_
      refine j_callV (d' := 1) (ci := 7) (As := [.ref a1]) (rest := []) (b := b7) cv_Si_45 me_Wi_copyFrom rfl (by decide) rfl rfl t9 rfl rfl (Nat.le_of_ble_eq_true rfl) d_Si_write_63 (by decide) rfl (j_enter (L := [some (.ref b7), some (.ref a1)]) me_Wi_copyFrom (cat_c rfl (cat_c rfl cat_n)) (Nat.le_of_ble_eq_true rfl) rfl ?_)
      refine j_aload_n d_Wi_copyFrom_0 rfl ?_
      refine j_aload_n d_Wi_copyFrom_1 rfl ?_
      refine j_getI (f := 448) fe_Wi_9 rfl rfl t1 d_Wi_copyFrom_2 ?_
      refine j_putI (f := 448) fw_Wi_9 rfl rfl t9 d_Wi_copyFrom_5 ?_
      refine j_aload_n d_Wi_copyFrom_8 rfl ?_
      refine j_aload_n d_Wi_copyFrom_9 rfl ?_
      refine j_getI (f := 449) fe_Wi_15 rfl rfl t1 d_Wi_copyFrom_10 ?_
      refine j_putI (f := 449) fw_Wi_15 rfl rfl t9 d_Wi_copyFrom_13 ?_
      refine j_aload_n d_Wi_copyFrom_16 rfl ?_
      refine j_aload_n d_Wi_copyFrom_17 rfl ?_
      refine j_getI (f := 450) fe_Wi_18 rfl rfl t1 d_Wi_copyFrom_18 ?_
      refine j_putI (f := 450) fw_Wi_18 rfl rfl t9 d_Wi_copyFrom_21 ?_
      refine j_aload_n d_Wi_copyFrom_24 rfl ?_
      refine j_aload_n d_Wi_copyFrom_25 rfl ?_
      refine j_getI (f := 451) fe_Wi_21 rfl rfl t1 d_Wi_copyFrom_26 ?_
      refine j_putI (f := 451) fw_Wi_21 rfl rfl t9 d_Wi_copyFrom_29 ?_
      show J E 1 m_Wi_copyFrom 32 [some (.ref b7), some (.ref a1)] [] (sI (sI (sI (sI (sI G 453 a1 p2) 448 b7 ((gI G 448 a1))) 449 b7 ((gI G 449 a1))) 450 b7 ((gI G 450 a1))) 451 b7 ((gI G 451 a1))) (aft E 7 m_Si_write 63 [some (.ref a0), some (.ref a1), some (.int p2)] [] Post)
      generalize e11 : sI (sI (sI (sI (sI G 453 a1 p2) 448 b7 ((gI G 448 a1))) 449 b7 ((gI G 449 a1))) 450 b7 ((gI G 450 a1))) 451 b7 ((gI G 451 a1)) = G10
      have e11 := e11.symm
      have H := H G10 e11
      refine j_aload_n d_Wi_copyFrom_32 rfl ?_
      refine j_aload_n d_Wi_copyFrom_33 rfl ?_
      refine j_getIv (f := 452) (v := (gI G 452 a1)) fe_Wi_24 rfl rfl (by rw [e11]; exact t1) (by rw [e11]; rfl) d_Wi_copyFrom_34 ?_
      refine j_putI (f := 452) fw_Wi_24 rfl rfl (by rw [e11]; exact t9) d_Wi_copyFrom_37 ?_
      refine j_aload_n d_Wi_copyFrom_40 rfl ?_
      refine j_aload_n d_Wi_copyFrom_41 rfl ?_
      refine j_getIv (f := 453) (v := p2) fe_Wi_27 rfl rfl (by rw [e11]; exact t1) (by rw [e11]; exact (show gI (sI G 453 a1 p2) 453 a1 = _ from gI_sI_eq)) d_Wi_copyFrom_42 ?_
      obtain ⟨z12, H⟩ := H
      refine j_putZ (f := 453) fw_Wi_27 rfl rfl (by rw [e11]; exact t9) z12 d_Wi_copyFrom_45 ?_
      refine j_vret rfl d_Wi_copyFrom_48 ?_
      show J E 7 m_Si_write 66 [some (.ref a0), some (.ref a1), some (.int p2)] [] (sI (sI G10 452 b7 ((gI G 452 a1))) 453 b7 p2) Post
      refine j_aload_n d_Si_write_66 rfl ?_
      refine j_dup d_Si_write_67 rfl ?_
      refine j_getIv (f := 323) (v := (gI G 323 a0)) fe_Si_23 rfl rfl (by rw [e11]; exact t3) (by rw [e11]; rfl) d_Si_write_68 ?_
      refine j_iconst (v := 1) d_Si_write_71 (by decide) ?_
      refine j_iadd d_Si_write_72 ?_
      refine j_putI (f := 323) fw_Si_23 rfl rfl (by rw [e11]; exact t3) d_Si_write_73 ?_
      exact j_vret rfl d_Si_write_76 H
  · have H := Hb c19
    refine j_aload_n d_Si_write_19 rfl ?_
    refine j_getR (f := 320) (b := b4) fe_Si_10 rfl rfl t3 e5 d_Si_write_20 ?_
    refine j_newT (n := 6) (t := 8) rfl ne_Si_27 rfl (by decide) d_Si_write_23 ?_
    show J E 7 m_Si_write 26 [some (.ref a0), some (.ref a1), some (.int p2)] [.ref ((gz G)), .ref b4] (al (sI G 453 a1 p2) 8 6) Post
    generalize e16 : al (sI G 453 a1 p2) 8 6 = G15
    have e16 := e16.symm
    have H := H G15 e16
    refine j_dup d_Si_write_26 rfl ?_
    refine j_callIN (d' := 1) (As := []) (rest := [.ref ((gz G)), .ref b4]) (b := ((gz G))) cn_Si_36 me_Wi_init rfl rfl (by decide) rfl rfl (Nat.le_of_ble_eq_true rfl) d_Si_write_27 (by decide) rfl (j_enter (L := [some (.ref ((gz G)))]) me_Wi_init (cat_c rfl cat_n) (Nat.le_of_ble_eq_true rfl) rfl ?_)
    refine j_aload_n d_Wi_init_0 rfl ?_
    refine j_objInit co_Wi_3 ob1 ob2 (Nat.le_of_ble_eq_true rfl) d_Wi_init_1 ?_
    refine j_vret rfl d_Wi_init_4 ?_
    show J E 7 m_Si_write 30 [some (.ref a0), some (.ref a1), some (.int p2)] [.ref ((gz G)), .ref b4] G15 Post
    obtain ⟨t17, H⟩ := H
    refine j_forget (L' := [some (.ref a0), some (.ref a1), none]) ⟨Or.inr rfl, Or.inr rfl, Or.inl rfl, trivial⟩ ?_
    exact j_callV (d' := 6) (ci := 11) (As := [.ref ((gz G))]) (rest := []) (b := b4) cv_Si_37 me_AL_add rfl (by decide) rfl rfl t17 rfl rfl (Nat.le_of_ble_eq_true rfl) d_Si_write_30 (by decide) rfl H
theorem wp_Si_write_33 {E : EV} {G : GH} {Post : Res → GH → Prop} (a0 : Nat) (a1 : Nat) (s0 : Int32) (H : gT G a0 = 6 ∧ ∃ b2, gR G 320 a0 = some b2 ∧ gT G b2 = 12 ∧ ((gI G 706 b2) ≤ (gI G 323 a0) → Post (.inl none) G) ∧ (¬ (gI G 706 b2) ≤ (gI G 323 a0) → ∃ b5, LG G b2 ((gI G 323 a0)) b5 ∧ gT G b5 = 8 ∧ gT G a1 = 8 ∧ ∀ G9, G9 = sI (sI (sI (sI G 448 b5 ((gI G 448 a1))) 449 b5 ((gI G 449 a1))) 450 b5 ((gI G 450 a1))) 451 b5 ((gI G 451 a1)) → ((gI G 453 a1) = 0 ∨ (gI G 453 a1) = 1) ∧ Post (.inl none) (sI (sI (sI G9 452 b5 ((gI G 452 a1))) 453 b5 ((gI G 453 a1))) 323 a0 (((gI G 323 a0) + (1 : Int32)))))) : J E 7 m_Si_write 33 [some (.ref a0), some (.ref a1), none] [.int s0] G Post := by
  refine j_pop d_Si_write_33 rfl ?_
  refine j_aload_n d_Si_write_34 rfl ?_
  obtain ⟨t1, H⟩ := H
  refine j_getI (f := 323) fe_Si_23 rfl rfl t1 d_Si_write_35 ?_
  refine j_aload_n d_Si_write_38 rfl ?_
  obtain ⟨b2, e3, H⟩ := H
  refine j_getR (f := 320) (b := b2) fe_Si_10 rfl rfl t1 e3 d_Si_write_39 ?_
  obtain ⟨t4, H⟩ := H
  refine j_callV (d' := 1) (ci := 11) (As := []) (rest := [.int ((gI G 323 a0))]) (b := b2) cv_Si_32 me_AL_size rfl (by decide) rfl rfl t4 rfl rfl (Nat.le_of_ble_eq_true rfl) d_Si_write_42 (by decide) rfl (j_enter (L := [some (.ref b2)]) me_AL_size (cat_c rfl cat_n) (Nat.le_of_ble_eq_true rfl) rfl ?_)
  refine j_aload_n d_AL_size_0 rfl ?_
  refine j_getI (f := 706) fe_AL_48 rfl rfl t4 d_AL_size_1 ?_
  refine j_iret rfl d_AL_size_4 ?_
  show J E 7 m_Si_write 45 [some (.ref a0), some (.ref a1), none] [.int ((gI G 706 b2)), .int ((gI G 323 a0))] G Post
  obtain ⟨Ha, Hb⟩ := H
  refine j_icmp_ge (tgt := 76) d_Si_write_45 (by decide) (fun c12 => ?_) (fun c13 => ?_)
  · have H := Ha c12
    exact j_vret rfl d_Si_write_76 H
  · have H := Hb c13
    refine j_aload_n d_Si_write_48 rfl ?_
    refine j_getR (f := 320) (b := b2) fe_Si_10 rfl rfl t1 e3 d_Si_write_49 ?_
    refine j_aload_n d_Si_write_52 rfl ?_
    refine j_getI (f := 323) fe_Si_23 rfl rfl t1 d_Si_write_53 ?_
    obtain ⟨b5, g6, H⟩ := H
    refine j_callV (d' := 3) (ci := 11) (As := [.int ((gI G 323 a0))]) (rest := []) (b := b2) cv_Si_41 me_AL_get rfl (by decide) rfl rfl t4 rfl rfl (Nat.le_of_ble_eq_true rfl) d_Si_write_56 (by decide) rfl (c_AL_get g6 ?_)
    show J E 7 m_Si_write 59 [some (.ref a0), some (.ref a1), none] [.ref b5] G Post
    obtain ⟨t7, H⟩ := H
    refine j_cast (ci := 7) rfl kl_Si_27 t7 d_Si_write_59 ?_
    refine j_aload_n d_Si_write_62 rfl ?_
    refine j_callV (d' := 1) (ci := 7) (As := [.ref a1]) (rest := []) (b := b5) cv_Si_45 me_Wi_copyFrom rfl (by decide) rfl rfl t7 rfl rfl (Nat.le_of_ble_eq_true rfl) d_Si_write_63 (by decide) rfl (j_enter (L := [some (.ref b5), some (.ref a1)]) me_Wi_copyFrom (cat_c rfl (cat_c rfl cat_n)) (Nat.le_of_ble_eq_true rfl) rfl ?_)
    refine j_aload_n d_Wi_copyFrom_0 rfl ?_
    refine j_aload_n d_Wi_copyFrom_1 rfl ?_
    obtain ⟨t8, H⟩ := H
    refine j_getI (f := 448) fe_Wi_9 rfl rfl t8 d_Wi_copyFrom_2 ?_
    refine j_putI (f := 448) fw_Wi_9 rfl rfl t7 d_Wi_copyFrom_5 ?_
    refine j_aload_n d_Wi_copyFrom_8 rfl ?_
    refine j_aload_n d_Wi_copyFrom_9 rfl ?_
    refine j_getI (f := 449) fe_Wi_15 rfl rfl t8 d_Wi_copyFrom_10 ?_
    refine j_putI (f := 449) fw_Wi_15 rfl rfl t7 d_Wi_copyFrom_13 ?_
    refine j_aload_n d_Wi_copyFrom_16 rfl ?_
    refine j_aload_n d_Wi_copyFrom_17 rfl ?_
    refine j_getI (f := 450) fe_Wi_18 rfl rfl t8 d_Wi_copyFrom_18 ?_
    refine j_putI (f := 450) fw_Wi_18 rfl rfl t7 d_Wi_copyFrom_21 ?_
    refine j_aload_n d_Wi_copyFrom_24 rfl ?_
    refine j_aload_n d_Wi_copyFrom_25 rfl ?_
    refine j_getI (f := 451) fe_Wi_21 rfl rfl t8 d_Wi_copyFrom_26 ?_
    refine j_putI (f := 451) fw_Wi_21 rfl rfl t7 d_Wi_copyFrom_29 ?_
    show J E 1 m_Wi_copyFrom 32 [some (.ref b5), some (.ref a1)] [] (sI (sI (sI (sI G 448 b5 ((gI G 448 a1))) 449 b5 ((gI G 449 a1))) 450 b5 ((gI G 450 a1))) 451 b5 ((gI G 451 a1))) (aft E 7 m_Si_write 63 [some (.ref a0), some (.ref a1), none] [] Post)
    generalize e10 : sI (sI (sI (sI G 448 b5 ((gI G 448 a1))) 449 b5 ((gI G 449 a1))) 450 b5 ((gI G 450 a1))) 451 b5 ((gI G 451 a1)) = G9
    have e10 := e10.symm
    have H := H G9 e10
    refine j_aload_n d_Wi_copyFrom_32 rfl ?_
    refine j_aload_n d_Wi_copyFrom_33 rfl ?_
    refine j_getIv (f := 452) (v := (gI G 452 a1)) fe_Wi_24 rfl rfl (by rw [e10]; exact t8) (by rw [e10]; rfl) d_Wi_copyFrom_34 ?_
    refine j_putI (f := 452) fw_Wi_24 rfl rfl (by rw [e10]; exact t7) d_Wi_copyFrom_37 ?_
    refine j_aload_n d_Wi_copyFrom_40 rfl ?_
    refine j_aload_n d_Wi_copyFrom_41 rfl ?_
    refine j_getIv (f := 453) (v := (gI G 453 a1)) fe_Wi_27 rfl rfl (by rw [e10]; exact t8) (by rw [e10]; rfl) d_Wi_copyFrom_42 ?_
    obtain ⟨z11, H⟩ := H
    refine j_putZ (f := 453) fw_Wi_27 rfl rfl (by rw [e10]; exact t7) z11 d_Wi_copyFrom_45 ?_
    refine j_vret rfl d_Wi_copyFrom_48 ?_
    show J E 7 m_Si_write 66 [some (.ref a0), some (.ref a1), none] [] (sI (sI G9 452 b5 ((gI G 452 a1))) 453 b5 ((gI G 453 a1))) Post
    refine j_aload_n d_Si_write_66 rfl ?_
    refine j_dup d_Si_write_67 rfl ?_
    refine j_getIv (f := 323) (v := (gI G 323 a0)) fe_Si_23 rfl rfl (by rw [e10]; exact t1) (by rw [e10]; rfl) d_Si_write_68 ?_
    refine j_iconst (v := 1) d_Si_write_71 (by decide) ?_
    refine j_iadd d_Si_write_72 ?_
    refine j_putI (f := 323) fw_Si_23 rfl rfl (by rw [e10]; exact t1) d_Si_write_73 ?_
    exact j_vret rfl d_Si_write_76 H
theorem wp_Si_lastCommitted_0 {E : EV} {G : GH} {Post : Res → GH → Prop} (a0 : Nat) (p1 : Int32) (p2 : Int32) (H : J E 4 m_Si_lastCommitted 5 [some (.ref a0), some (.int p1), some (.int p2), some (va_rf none), some (.int ((0 : Int32))), none] [] G Post) : J E 4 m_Si_lastCommitted 0 [some (.ref a0), some (.int p1), some (.int p2), none, none, none] [] G Post := by
  refine j_null d_Si_lastCommitted_0 ?_
  refine j_astore_n (x := none) (L' := [some (.ref a0), some (.int p1), some (.int p2), some (.null), none, none]) rfl d_Si_lastCommitted_1 (by decide) rfl ?_
  refine j_iconst (v := 0) d_Si_lastCommitted_2 (by decide) ?_
  refine j_istore (L' := [some (.ref a0), some (.int p1), some (.int p2), some (.null), some (.int ((0 : Int32))), none]) d_Si_lastCommitted_3 (by decide) rfl ?_
  exact H
theorem wp_Si_lastCommitted_5 {E : EV} {G : GH} {Post : Res → GH → Prop} (a0 : Nat) (p1 : Int32) (p2 : Int32) (q3 : Option Nat) (p4 : Int32) (H : gT G a0 = 6 ∧ ((gI G 321 a0) ≤ p4 → Post (.inl (some (va_rf q3))) G) ∧ (¬ (gI G 321 a0) ≤ p4 → ∃ b2, gR G 320 a0 = some b2 ∧ gT G b2 = 12 ∧ ((gI G 706 b2) ≤ p4 → Post (.inl (some (va_rf q3))) G) ∧ (¬ (gI G 706 b2) ≤ p4 → ∃ b5, LG G b2 p4 b5 ∧ gT G b5 = 8 ∧ (¬ (gI G 448 b5) = p1 → J E 4 m_Si_lastCommitted 5 [some (.ref a0), some (.int p1), some (.int p2), some (va_rf q3), some (.int ((p4 + (1 : Int32)))), none] [] G Post) ∧ ((gI G 448 b5) = p1 → (¬ (gI G 449 b5) = p2 → J E 4 m_Si_lastCommitted 5 [some (.ref a0), some (.int p1), some (.int p2), some (va_rf q3), some (.int ((p4 + (1 : Int32)))), none] [] G Post) ∧ ((gI G 449 b5) = p2 → J E 4 m_Si_lastCommitted 5 [some (.ref a0), some (.int p1), some (.int p2), some (va_rf ((some b5))), some (.int ((p4 + (1 : Int32)))), none] [] G Post))))) : J E 4 m_Si_lastCommitted 5 [some (.ref a0), some (.int p1), some (.int p2), some (va_rf q3), some (.int p4), none] [] G Post := by
  refine j_iload d_Si_lastCommitted_5 rfl ?_
  refine j_aload_n d_Si_lastCommitted_7 rfl ?_
  obtain ⟨t1, H⟩ := H
  refine j_getI (f := 321) fe_Si_16 rfl rfl t1 d_Si_lastCommitted_8 ?_
  obtain ⟨Ha, Hb⟩ := H
  refine j_icmp_ge (tgt := 67) d_Si_lastCommitted_11 (by decide) (fun c14 => ?_) (fun c15 => ?_)
  · have H := Ha c14
    refine j_aload_nq (x := q3) d_Si_lastCommitted_67 rfl ?_
    exact j_aret (x := q3) rfl rfl (Or.inl ⟨_, rfl⟩) d_Si_lastCommitted_68 H
  · have H := Hb c15
    refine j_iload d_Si_lastCommitted_14 rfl ?_
    refine j_aload_n d_Si_lastCommitted_16 rfl ?_
    obtain ⟨b2, e3, H⟩ := H
    refine j_getR (f := 320) (b := b2) fe_Si_10 rfl rfl t1 e3 d_Si_lastCommitted_17 ?_
    obtain ⟨t4, H⟩ := H
    refine j_callV (d' := 1) (ci := 11) (As := []) (rest := [.int p4]) (b := b2) cv_Si_32 me_AL_size rfl (by decide) rfl rfl t4 rfl rfl (Nat.le_of_ble_eq_true rfl) d_Si_lastCommitted_20 (by decide) rfl (j_enter (L := [some (.ref b2)]) me_AL_size (cat_c rfl cat_n) (Nat.le_of_ble_eq_true rfl) rfl ?_)
    refine j_aload_n d_AL_size_0 rfl ?_
    refine j_getI (f := 706) fe_AL_48 rfl rfl t4 d_AL_size_1 ?_
    refine j_iret rfl d_AL_size_4 ?_
    show J E 4 m_Si_lastCommitted 23 [some (.ref a0), some (.int p1), some (.int p2), some (va_rf q3), some (.int p4), none] [.int ((gI G 706 b2)), .int p4] G Post
    obtain ⟨Ha, Hb⟩ := H
    refine j_icmp_ge (tgt := 67) d_Si_lastCommitted_23 (by decide) (fun c12 => ?_) (fun c13 => ?_)
    · have H := Ha c12
      refine j_aload_nq (x := q3) d_Si_lastCommitted_67 rfl ?_
      exact j_aret (x := q3) rfl rfl (Or.inl ⟨_, rfl⟩) d_Si_lastCommitted_68 H
    · have H := Hb c13
      refine j_aload_n d_Si_lastCommitted_26 rfl ?_
      refine j_getR (f := 320) (b := b2) fe_Si_10 rfl rfl t1 e3 d_Si_lastCommitted_27 ?_
      refine j_iload d_Si_lastCommitted_30 rfl ?_
      obtain ⟨b5, g6, H⟩ := H
      refine j_callV (d' := 3) (ci := 11) (As := [.int p4]) (rest := []) (b := b2) cv_Si_41 me_AL_get rfl (by decide) rfl rfl t4 rfl rfl (Nat.le_of_ble_eq_true rfl) d_Si_lastCommitted_32 (by decide) rfl (c_AL_get g6 ?_)
      show J E 4 m_Si_lastCommitted 35 [some (.ref a0), some (.int p1), some (.int p2), some (va_rf q3), some (.int p4), none] [.ref b5] G Post
      obtain ⟨t7, H⟩ := H
      refine j_cast (ci := 7) rfl kl_Si_27 t7 d_Si_lastCommitted_35 ?_
      refine j_astore (x := (some b5)) (L' := [some (.ref a0), some (.int p1), some (.int p2), some (va_rf q3), some (.int p4), some (.ref b5)]) rfl d_Si_lastCommitted_38 (by decide) rfl ?_
      refine j_aload d_Si_lastCommitted_40 rfl ?_
      refine j_getI (f := 448) fe_Si_49 rfl rfl t7 d_Si_lastCommitted_42 ?_
      refine j_iload_n d_Si_lastCommitted_45 rfl ?_
      obtain ⟨Ha, Hb⟩ := H
      refine j_icmp_ne (tgt := 61) d_Si_lastCommitted_46 (by decide) (fun c10 => ?_) (fun c11 => ?_)
      · have H := Ha c10
        refine j_iinc (v := (p4 + (1 : Int32))) (L' := [some (.ref a0), some (.int p1), some (.int p2), some (va_rf q3), some (.int ((p4 + (1 : Int32)))), some (.ref b5)]) d_Si_lastCommitted_61 rfl (by rw [show Int32.ofInt (1) = (1 : Int32) by decide]) (by decide) rfl ?_
        refine j_goto (tgt := 5) d_Si_lastCommitted_64 (by decide) ?_
        refine j_forget (L' := [some (.ref a0), some (.int p1), some (.int p2), some (va_rf q3), some (.int ((p4 + (1 : Int32)))), none]) ⟨Or.inr rfl, Or.inr rfl, Or.inr rfl, Or.inr rfl, Or.inr rfl, Or.inl rfl, trivial⟩ ?_
        exact H
      · have H := Hb c11
        refine j_aload d_Si_lastCommitted_49 rfl ?_
        refine j_getI (f := 449) fe_Si_52 rfl rfl t7 d_Si_lastCommitted_51 ?_
        refine j_iload_n d_Si_lastCommitted_54 rfl ?_
        obtain ⟨Ha, Hb⟩ := H
        refine j_icmp_ne (tgt := 61) d_Si_lastCommitted_55 (by decide) (fun c8 => ?_) (fun c9 => ?_)
        · have H := Ha c8
          refine j_iinc (v := (p4 + (1 : Int32))) (L' := [some (.ref a0), some (.int p1), some (.int p2), some (va_rf q3), some (.int ((p4 + (1 : Int32)))), some (.ref b5)]) d_Si_lastCommitted_61 rfl (by rw [show Int32.ofInt (1) = (1 : Int32) by decide]) (by decide) rfl ?_
          refine j_goto (tgt := 5) d_Si_lastCommitted_64 (by decide) ?_
          refine j_forget (L' := [some (.ref a0), some (.int p1), some (.int p2), some (va_rf q3), some (.int ((p4 + (1 : Int32)))), none]) ⟨Or.inr rfl, Or.inr rfl, Or.inr rfl, Or.inr rfl, Or.inr rfl, Or.inl rfl, trivial⟩ ?_
          exact H
        · have H := Hb c9
          refine j_aload d_Si_lastCommitted_58 rfl ?_
          refine j_astore_n (x := (some b5)) (L' := [some (.ref a0), some (.int p1), some (.int p2), some (.ref b5), some (.int p4), some (.ref b5)]) rfl d_Si_lastCommitted_60 (by decide) rfl ?_
          refine j_iinc (v := (p4 + (1 : Int32))) (L' := [some (.ref a0), some (.int p1), some (.int p2), some (.ref b5), some (.int ((p4 + (1 : Int32)))), some (.ref b5)]) d_Si_lastCommitted_61 rfl (by rw [show Int32.ofInt (1) = (1 : Int32) by decide]) (by decide) rfl ?_
          refine j_goto (tgt := 5) d_Si_lastCommitted_64 (by decide) ?_
          refine j_forget (L' := [some (.ref a0), some (.int p1), some (.int p2), some (va_rf ((some b5))), some (.int ((p4 + (1 : Int32)))), none]) ⟨Or.inr rfl, Or.inr rfl, Or.inr rfl, Or.inr rfl, Or.inr rfl, Or.inl rfl, trivial⟩ ?_
          exact H
theorem wp_So_init_0 {E : EV} {G : GH} {Post : Res → GH → Prop} (a0 : Nat) (H : ∀ G1, G1 = al G 12 3 → Cl E 3 m_AL_init [.ref ((gz G))] G1 (aft E 4 m_So_init 9 [some (.ref a0)] [.ref ((gz G)), .ref a0] Post)) : J E 4 m_So_init 0 [some (.ref a0)] [] G Post := by
  refine j_aload_n d_So_init_0 rfl ?_
  refine j_objInit co_So_1 ob1 ob2 (Nat.le_of_ble_eq_true rfl) d_So_init_1 ?_
  refine j_aload_n d_So_init_4 rfl ?_
  refine j_newT (n := 3) (t := 12) rfl ne_So_7 rfl (by decide) d_So_init_5 ?_
  show J E 4 m_So_init 8 [some (.ref a0)] [.ref ((gz G)), .ref a0] (al G 12 3) Post
  generalize e2 : al G 12 3 = G1
  have e2 := e2.symm
  have H := H G1 e2
  refine j_dup d_So_init_8 rfl ?_
  exact j_callI (d' := 3) (As := []) (rest := [.ref ((gz G)), .ref a0]) (b := ((gz G))) ci_So_9 me_AL_init rfl rfl (by decide) rfl rfl (Nat.le_of_ble_eq_true rfl) d_So_init_9 (by decide) rfl H
theorem wp_So_init_12 {E : EV} {G : GH} {Post : Res → GH → Prop} (a0 : Nat) (u0 : Nat) (u1 : Nat) (H : gT G u0 = 7 ∧ gT G a0 = 7 ∧ Post (.inl none) (sI (sI (sR G 384 u0 (some u1)) 385 a0 ((0 : Int32))) 386 a0 ((0 : Int32)))) : J E 4 m_So_init 12 [some (.ref a0)] [.ref u1, .ref u0] G Post := by
  obtain ⟨t1, H⟩ := H
  refine j_putFR (r := (some u1)) (f := 384) rfl ff_So_10 rfl rfl rfl t1 d_So_init_12 ?_
  refine j_aload_n d_So_init_15 rfl ?_
  refine j_iconst (v := 0) d_So_init_16 (by decide) ?_
  obtain ⟨t2, H⟩ := H
  refine j_putI (f := 385) fw_So_16 rfl rfl t2 d_So_init_17 ?_
  refine j_aload_n d_So_init_20 rfl ?_
  refine j_iconst (v := 0) d_So_init_21 (by decide) ?_
  refine j_putZ (f := 386) fw_So_20 rfl rfl t2 (by decide) d_So_init_22 ?_
  exact j_vret rfl d_So_init_25 H
theorem wp_Ws_init_0 {E : EV} {G : GH} {Post : Res → GH → Prop} (a0 : Nat) (H : ∀ G1, G1 = al G 12 3 → Cl E 3 m_AL_init [.ref ((gz G))] G1 (aft E 4 m_Ws_init 9 [some (.ref a0)] [.ref ((gz G)), .ref a0] Post)) : J E 4 m_Ws_init 0 [some (.ref a0)] [] G Post := by
  refine j_aload_n d_Ws_init_0 rfl ?_
  refine j_objInit co_Ws_3 ob1 ob2 (Nat.le_of_ble_eq_true rfl) d_Ws_init_1 ?_
  refine j_aload_n d_Ws_init_4 rfl ?_
  refine j_newT (n := 3) (t := 12) rfl ne_Ws_9 rfl (by decide) d_Ws_init_5 ?_
  show J E 4 m_Ws_init 8 [some (.ref a0)] [.ref ((gz G)), .ref a0] (al G 12 3) Post
  generalize e2 : al G 12 3 = G1
  have e2 := e2.symm
  have H := H G1 e2
  refine j_dup d_Ws_init_8 rfl ?_
  exact j_callI (d' := 3) (As := []) (rest := [.ref ((gz G)), .ref a0]) (b := ((gz G))) ci_Ws_11 me_AL_init rfl rfl (by decide) rfl rfl (Nat.le_of_ble_eq_true rfl) d_Ws_init_9 (by decide) rfl H
theorem wp_Ws_init_12 {E : EV} {G : GH} {Post : Res → GH → Prop} (a0 : Nat) (u0 : Nat) (u1 : Nat) (H : gT G u0 = 9 ∧ ∀ G2, G2 = al (sR G 512 u0 (some u1)) 12 3 → Cl E 3 m_AL_init [.ref ((gz G))] G2 (aft E 4 m_Ws_init 20 [none] [.ref ((gz G)), .ref a0] Post)) : J E 4 m_Ws_init 12 [some (.ref a0)] [.ref u1, .ref u0] G Post := by
  obtain ⟨t1, H⟩ := H
  refine j_putFR (r := (some u1)) (f := 512) rfl ff_Ws_12 rfl rfl rfl t1 d_Ws_init_12 ?_
  refine j_aload_n d_Ws_init_15 rfl ?_
  refine j_newT (n := 3) (t := 12) rfl ne_Ws_9 rfl (by decide) d_Ws_init_16 ?_
  show J E 4 m_Ws_init 19 [some (.ref a0)] [.ref ((gz G)), .ref a0] (al (sR G 512 u0 (some u1)) 12 3) Post
  generalize e3 : al (sR G 512 u0 (some u1)) 12 3 = G2
  have e3 := e3.symm
  have H := H G2 e3
  refine j_dup d_Ws_init_19 rfl ?_
  refine j_forget (L' := [none]) ⟨Or.inl rfl, trivial⟩ ?_
  exact j_callI (d' := 3) (As := []) (rest := [.ref ((gz G)), .ref a0]) (b := ((gz G))) ci_Ws_11 me_AL_init rfl rfl (by decide) rfl rfl (Nat.le_of_ble_eq_true rfl) d_Ws_init_20 (by decide) rfl H
theorem wp_Ws_init_23 {E : EV} {G : GH} {Post : Res → GH → Prop} (u0 : Nat) (u1 : Nat) (H : gT G u0 = 9 ∧ Post (.inl none) (sR G 513 u0 (some u1))) : J E 4 m_Ws_init 23 [none] [.ref u1, .ref u0] G Post := by
  obtain ⟨t1, H⟩ := H
  refine j_putFR (r := (some u1)) (f := 513) rfl ff_Ws_18 rfl rfl rfl t1 d_Ws_init_23 ?_
  exact j_vret rfl d_Ws_init_26 H
theorem wp_Ws_unusedRow_0 {E : EV} {G : GH} {Post : Res → GH → Prop} (a0 : Nat) (H : gT G a0 = 9 ∧ ∃ b2, gR G 513 a0 = some b2 ∧ gT G b2 = 12 ∧ (0 ≤ ((gI G 706 b2) - (1 : Int32)) → Cl E 3 m_AL_remove [.ref b2, .int (((gI G 706 b2) - (1 : Int32)))] G (aft E 4 m_Ws_unusedRow 29 [none, none] [] Post)) ∧ (¬ 0 ≤ ((gI G 706 b2) - (1 : Int32)) → ∀ G5, G5 = al G 8 6 → Post (.inl (some (.ref ((gz G))))) G5)) : J E 4 m_Ws_unusedRow 0 [some (.ref a0), none] [] G Post := by
  refine j_aload_n d_Ws_unusedRow_0 rfl ?_
  obtain ⟨t1, H⟩ := H
  obtain ⟨b2, e3, H⟩ := H
  refine j_getR (f := 513) (b := b2) fe_Ws_18 rfl rfl t1 e3 d_Ws_unusedRow_1 ?_
  obtain ⟨t4, H⟩ := H
  refine j_callV (d' := 1) (ci := 11) (As := []) (rest := []) (b := b2) cv_Ws_21 me_AL_size rfl (by decide) rfl rfl t4 rfl rfl (Nat.le_of_ble_eq_true rfl) d_Ws_unusedRow_4 (by decide) rfl (j_enter (L := [some (.ref b2)]) me_AL_size (cat_c rfl cat_n) (Nat.le_of_ble_eq_true rfl) rfl ?_)
  refine j_aload_n d_AL_size_0 rfl ?_
  refine j_getI (f := 706) fe_AL_48 rfl rfl t4 d_AL_size_1 ?_
  refine j_iret rfl d_AL_size_4 ?_
  show J E 4 m_Ws_unusedRow 7 [some (.ref a0), none] [.int ((gI G 706 b2))] G Post
  refine j_iconst (v := 1) d_Ws_unusedRow_7 (by decide) ?_
  refine j_isub d_Ws_unusedRow_8 ?_
  refine j_istore_n (L' := [some (.ref a0), some (.int (((gI G 706 b2) - (1 : Int32))))]) d_Ws_unusedRow_9 (by decide) rfl ?_
  refine j_iload_n d_Ws_unusedRow_10 rfl ?_
  obtain ⟨Ha, Hb⟩ := H
  refine j_if_ge (tgt := 24) d_Ws_unusedRow_11 (by decide) (fun c7 => ?_) (fun c8 => ?_)
  · have H := Ha c7
    refine j_aload_n d_Ws_unusedRow_24 rfl ?_
    refine j_getR (f := 513) (b := b2) fe_Ws_18 rfl rfl t1 e3 d_Ws_unusedRow_25 ?_
    refine j_iload_n d_Ws_unusedRow_28 rfl ?_
    refine j_forget (L' := [none, none]) ⟨Or.inl rfl, Or.inl rfl, trivial⟩ ?_
    exact j_callV (d' := 3) (ci := 11) (As := [.int (((gI G 706 b2) - (1 : Int32)))]) (rest := []) (b := b2) cv_Ws_28 me_AL_remove rfl (by decide) rfl rfl t4 rfl rfl (Nat.le_of_ble_eq_true rfl) d_Ws_unusedRow_29 (by decide) rfl H
  · have H := Hb c8
    refine j_newT (n := 6) (t := 8) rfl ne_Ws_25 rfl (by decide) d_Ws_unusedRow_14 ?_
    show J E 4 m_Ws_unusedRow 17 [some (.ref a0), some (.int (((gI G 706 b2) - (1 : Int32))))] [.ref ((gz G))] (al G 8 6) Post
    generalize e6 : al G 8 6 = G5
    have e6 := e6.symm
    have H := H G5 e6
    refine j_dup d_Ws_unusedRow_17 rfl ?_
    refine j_callIN (d' := 1) (As := []) (rest := [.ref ((gz G))]) (b := ((gz G))) cn_Ws_27 me_Wi_init rfl rfl (by decide) rfl rfl (Nat.le_of_ble_eq_true rfl) d_Ws_unusedRow_18 (by decide) rfl (j_enter (L := [some (.ref ((gz G)))]) me_Wi_init (cat_c rfl cat_n) (Nat.le_of_ble_eq_true rfl) rfl ?_)
    refine j_aload_n d_Wi_init_0 rfl ?_
    refine j_objInit co_Wi_3 ob1 ob2 (Nat.le_of_ble_eq_true rfl) d_Wi_init_1 ?_
    refine j_vret rfl d_Wi_init_4 ?_
    show J E 4 m_Ws_unusedRow 21 [some (.ref a0), some (.int (((gI G 706 b2) - (1 : Int32))))] [.ref ((gz G))] G5 Post
    refine j_goto (tgt := 35) d_Ws_unusedRow_21 (by decide) ?_
    exact j_aret (x := (some ((gz G)))) rfl rfl (Or.inl ⟨_, rfl⟩) d_Ws_unusedRow_35 H
theorem wp_Ws_unusedRow_32 {E : EV} {G : GH} {Post : Res → GH → Prop} (u0 : Nat) (H : gT G u0 = 8 ∧ Post (.inl (some (.ref u0))) G) : J E 4 m_Ws_unusedRow 32 [none, none] [.ref u0] G Post := by
  obtain ⟨t1, H⟩ := H
  refine j_cast (ci := 7) rfl kl_Ws_25 t1 d_Ws_unusedRow_32 ?_
  exact j_aret (x := (some u0)) rfl rfl (Or.inl ⟨_, rfl⟩) d_Ws_unusedRow_35 H
theorem wp_Ws_copyFrom_0 {E : EV} {G : GH} {Post : Res → GH → Prop} (a0 : Nat) (a1 : Nat) (H : gT G a0 = 9 ∧ ∃ b2, gR G 512 a0 = some b2 ∧ gT G b2 = 12 ∧ J E 7 m_Ws_copyFrom 10 [some (.ref a0), some (.ref a1), some (.int (((gI G 706 b2) - (1 : Int32))))] [] G Post) : J E 7 m_Ws_copyFrom 0 [some (.ref a0), some (.ref a1), none] [] G Post := by
  refine j_aload_n d_Ws_copyFrom_0 rfl ?_
  obtain ⟨t1, H⟩ := H
  obtain ⟨b2, e3, H⟩ := H
  refine j_getR (f := 512) (b := b2) fe_Ws_12 rfl rfl t1 e3 d_Ws_copyFrom_1 ?_
  obtain ⟨t4, H⟩ := H
  refine j_callV (d' := 1) (ci := 11) (As := []) (rest := []) (b := b2) cv_Ws_21 me_AL_size rfl (by decide) rfl rfl t4 rfl rfl (Nat.le_of_ble_eq_true rfl) d_Ws_copyFrom_4 (by decide) rfl (j_enter (L := [some (.ref b2)]) me_AL_size (cat_c rfl cat_n) (Nat.le_of_ble_eq_true rfl) rfl ?_)
  refine j_aload_n d_AL_size_0 rfl ?_
  refine j_getI (f := 706) fe_AL_48 rfl rfl t4 d_AL_size_1 ?_
  refine j_iret rfl d_AL_size_4 ?_
  show J E 7 m_Ws_copyFrom 7 [some (.ref a0), some (.ref a1), none] [.int ((gI G 706 b2))] G Post
  refine j_iconst (v := 1) d_Ws_copyFrom_7 (by decide) ?_
  refine j_isub d_Ws_copyFrom_8 ?_
  refine j_istore_n (L' := [some (.ref a0), some (.ref a1), some (.int (((gI G 706 b2) - (1 : Int32))))]) d_Ws_copyFrom_9 (by decide) rfl ?_
  exact H
theorem wp_Ws_copyFrom_10 {E : EV} {G : GH} {Post : Res → GH → Prop} (a0 : Nat) (a1 : Nat) (p2 : Int32) (H : gT G a1 = 9 ∧ ∃ b2, gR G 512 a1 = some b2 ∧ gT G b2 = 12 ∧ (p2 < (gI G 706 b2) → J E 7 m_Ws_copyFrom 48 [some (.ref a0), some (.ref a1), some (.int ((0 : Int32)))] [] G Post) ∧ (¬ p2 < (gI G 706 b2) → gT G a0 = 9 ∧ ∃ b6, gR G 513 a0 = some b6 ∧ ∃ b8, gR G 512 a0 = some b8 ∧ gT G b8 = 12 ∧ Cl E 3 m_AL_remove [.ref b8, .int p2] G (aft E 7 m_Ws_copyFrom 30 [some (.ref a0), some (.ref a1), some (.int p2)] [.ref b6] Post))) : J E 7 m_Ws_copyFrom 10 [some (.ref a0), some (.ref a1), some (.int p2)] [] G Post := by
  refine j_iload_n d_Ws_copyFrom_10 rfl ?_
  refine j_aload_n d_Ws_copyFrom_11 rfl ?_
  obtain ⟨t1, H⟩ := H
  obtain ⟨b2, e3, H⟩ := H
  refine j_getR (f := 512) (b := b2) fe_Ws_12 rfl rfl t1 e3 d_Ws_copyFrom_12 ?_
  obtain ⟨t4, H⟩ := H
  refine j_callV (d' := 1) (ci := 11) (As := []) (rest := [.int p2]) (b := b2) cv_Ws_21 me_AL_size rfl (by decide) rfl rfl t4 rfl rfl (Nat.le_of_ble_eq_true rfl) d_Ws_copyFrom_15 (by decide) rfl (j_enter (L := [some (.ref b2)]) me_AL_size (cat_c rfl cat_n) (Nat.le_of_ble_eq_true rfl) rfl ?_)
  refine j_aload_n d_AL_size_0 rfl ?_
  refine j_getI (f := 706) fe_AL_48 rfl rfl t4 d_AL_size_1 ?_
  refine j_iret rfl d_AL_size_4 ?_
  show J E 7 m_Ws_copyFrom 18 [some (.ref a0), some (.ref a1), some (.int p2)] [.int ((gI G 706 b2)), .int p2] G Post
  obtain ⟨Ha, Hb⟩ := H
  refine j_icmp_lt (tgt := 46) d_Ws_copyFrom_18 (by decide) (fun c11 => ?_) (fun c12 => ?_)
  · have H := Ha c11
    refine j_iconst (v := 0) d_Ws_copyFrom_46 (by decide) ?_
    refine j_istore_n (L' := [some (.ref a0), some (.ref a1), some (.int ((0 : Int32)))]) d_Ws_copyFrom_47 (by decide) rfl ?_
    exact H
  · have H := Hb c12
    refine j_aload_n d_Ws_copyFrom_21 rfl ?_
    obtain ⟨t5, H⟩ := H
    obtain ⟨b6, e7, H⟩ := H
    refine j_getR (f := 513) (b := b6) fe_Ws_18 rfl rfl t5 e7 d_Ws_copyFrom_22 ?_
    refine j_aload_n d_Ws_copyFrom_25 rfl ?_
    obtain ⟨b8, e9, H⟩ := H
    refine j_getR (f := 512) (b := b8) fe_Ws_12 rfl rfl t5 e9 d_Ws_copyFrom_26 ?_
    refine j_iload_n d_Ws_copyFrom_29 rfl ?_
    obtain ⟨t10, H⟩ := H
    exact j_callV (d' := 3) (ci := 11) (As := [.int p2]) (rest := [.ref b6]) (b := b8) cv_Ws_28 me_AL_remove rfl (by decide) rfl rfl t10 rfl rfl (Nat.le_of_ble_eq_true rfl) d_Ws_copyFrom_30 (by decide) rfl H
theorem wp_Ws_copyFrom_48 {E : EV} {G : GH} {Post : Res → GH → Prop} (a0 : Nat) (a1 : Nat) (p2 : Int32) (H : gT G a1 = 9 ∧ ∃ b2, gR G 512 a1 = some b2 ∧ gT G b2 = 12 ∧ ((gI G 706 b2) ≤ p2 → Post (.inl none) G) ∧ (¬ (gI G 706 b2) ≤ p2 → gT G a0 = 9 ∧ ∃ b6, gR G 512 a0 = some b6 ∧ gT G b6 = 12 ∧ (p2 < (gI G 706 b6) → ∃ b9, LG G b6 p2 b9 ∧ gT G b9 = 8 ∧ ∃ b12, LG G b2 p2 b12 ∧ gT G b12 = 8 ∧ ∀ G15, G15 = sI (sI (sI (sI G 448 b9 ((gI G 448 b12))) 449 b9 ((gI G 449 b12))) 450 b9 ((gI G 450 b12))) 451 b9 ((gI G 451 b12)) → ((gI G 453 b12) = 0 ∨ (gI G 453 b12) = 1) ∧ J E 7 m_Ws_copyFrom 48 [some (.ref a0), some (.ref a1), some (.int ((p2 + (1 : Int32))))] [] (sI (sI G15 452 b9 ((gI G 452 b12))) 453 b9 ((gI G 453 b12))) Post) ∧ (¬ p2 < (gI G 706 b6) → Cl E 4 m_Ws_unusedRow [.ref a0] G (aft E 7 m_Ws_copyFrom 75 [some (.ref a0), some (.ref a1), some (.int p2)] [.ref b6] Post)))) : J E 7 m_Ws_copyFrom 48 [some (.ref a0), some (.ref a1), some (.int p2)] [] G Post := by
  refine j_iload_n d_Ws_copyFrom_48 rfl ?_
  refine j_aload_n d_Ws_copyFrom_49 rfl ?_
  obtain ⟨t1, H⟩ := H
  obtain ⟨b2, e3, H⟩ := H
  refine j_getR (f := 512) (b := b2) fe_Ws_12 rfl rfl t1 e3 d_Ws_copyFrom_50 ?_
  obtain ⟨t4, H⟩ := H
  refine j_callV (d' := 1) (ci := 11) (As := []) (rest := [.int p2]) (b := b2) cv_Ws_21 me_AL_size rfl (by decide) rfl rfl t4 rfl rfl (Nat.le_of_ble_eq_true rfl) d_Ws_copyFrom_53 (by decide) rfl (j_enter (L := [some (.ref b2)]) me_AL_size (cat_c rfl cat_n) (Nat.le_of_ble_eq_true rfl) rfl ?_)
  refine j_aload_n d_AL_size_0 rfl ?_
  refine j_getI (f := 706) fe_AL_48 rfl rfl t4 d_AL_size_1 ?_
  refine j_iret rfl d_AL_size_4 ?_
  show J E 7 m_Ws_copyFrom 56 [some (.ref a0), some (.ref a1), some (.int p2)] [.int ((gI G 706 b2)), .int p2] G Post
  obtain ⟨Ha, Hb⟩ := H
  refine j_icmp_ge (tgt := 113) d_Ws_copyFrom_56 (by decide) (fun c20 => ?_) (fun c21 => ?_)
  · have H := Ha c20
    exact j_vret rfl d_Ws_copyFrom_113 H
  · have H := Hb c21
    refine j_iload_n d_Ws_copyFrom_59 rfl ?_
    refine j_aload_n d_Ws_copyFrom_60 rfl ?_
    obtain ⟨t5, H⟩ := H
    obtain ⟨b6, e7, H⟩ := H
    refine j_getR (f := 512) (b := b6) fe_Ws_12 rfl rfl t5 e7 d_Ws_copyFrom_61 ?_
    obtain ⟨t8, H⟩ := H
    refine j_callV (d' := 1) (ci := 11) (As := []) (rest := [.int p2]) (b := b6) cv_Ws_21 me_AL_size rfl (by decide) rfl rfl t8 rfl rfl (Nat.le_of_ble_eq_true rfl) d_Ws_copyFrom_64 (by decide) rfl (j_enter (L := [some (.ref b6)]) me_AL_size (cat_c rfl cat_n) (Nat.le_of_ble_eq_true rfl) rfl ?_)
    refine j_aload_n d_AL_size_0 rfl ?_
    refine j_getI (f := 706) fe_AL_48 rfl rfl t8 d_AL_size_1 ?_
    refine j_iret rfl d_AL_size_4 ?_
    show J E 7 m_Ws_copyFrom 67 [some (.ref a0), some (.ref a1), some (.int p2)] [.int ((gI G 706 b6)), .int p2] G Post
    obtain ⟨Ha, Hb⟩ := H
    refine j_icmp_lt (tgt := 82) d_Ws_copyFrom_67 (by decide) (fun c18 => ?_) (fun c19 => ?_)
    · have H := Ha c18
      refine j_aload_n d_Ws_copyFrom_82 rfl ?_
      refine j_getR (f := 512) (b := b6) fe_Ws_12 rfl rfl t5 e7 d_Ws_copyFrom_83 ?_
      refine j_iload_n d_Ws_copyFrom_86 rfl ?_
      obtain ⟨b9, g10, H⟩ := H
      refine j_callV (d' := 3) (ci := 11) (As := [.int p2]) (rest := []) (b := b6) cv_Ws_40 me_AL_get rfl (by decide) rfl rfl t8 rfl rfl (Nat.le_of_ble_eq_true rfl) d_Ws_copyFrom_87 (by decide) rfl (c_AL_get g10 ?_)
      show J E 7 m_Ws_copyFrom 90 [some (.ref a0), some (.ref a1), some (.int p2)] [.ref b9] G Post
      obtain ⟨t11, H⟩ := H
      refine j_cast (ci := 7) rfl kl_Ws_25 t11 d_Ws_copyFrom_90 ?_
      refine j_aload_n d_Ws_copyFrom_93 rfl ?_
      refine j_getR (f := 512) (b := b2) fe_Ws_12 rfl rfl t1 e3 d_Ws_copyFrom_94 ?_
      refine j_iload_n d_Ws_copyFrom_97 rfl ?_
      obtain ⟨b12, g13, H⟩ := H
      refine j_callV (d' := 3) (ci := 11) (As := [.int p2]) (rest := [.ref b9]) (b := b2) cv_Ws_40 me_AL_get rfl (by decide) rfl rfl t4 rfl rfl (Nat.le_of_ble_eq_true rfl) d_Ws_copyFrom_98 (by decide) rfl (c_AL_get g13 ?_)
      show J E 7 m_Ws_copyFrom 101 [some (.ref a0), some (.ref a1), some (.int p2)] [.ref b12, .ref b9] G Post
      obtain ⟨t14, H⟩ := H
      refine j_cast (ci := 7) rfl kl_Ws_25 t14 d_Ws_copyFrom_101 ?_
      refine j_callV (d' := 1) (ci := 7) (As := [.ref b12]) (rest := []) (b := b9) cv_Ws_43 me_Wi_copyFrom rfl (by decide) rfl rfl t11 rfl rfl (Nat.le_of_ble_eq_true rfl) d_Ws_copyFrom_104 (by decide) rfl (j_enter (L := [some (.ref b9), some (.ref b12)]) me_Wi_copyFrom (cat_c rfl (cat_c rfl cat_n)) (Nat.le_of_ble_eq_true rfl) rfl ?_)
      refine j_aload_n d_Wi_copyFrom_0 rfl ?_
      refine j_aload_n d_Wi_copyFrom_1 rfl ?_
      refine j_getI (f := 448) fe_Wi_9 rfl rfl t14 d_Wi_copyFrom_2 ?_
      refine j_putI (f := 448) fw_Wi_9 rfl rfl t11 d_Wi_copyFrom_5 ?_
      refine j_aload_n d_Wi_copyFrom_8 rfl ?_
      refine j_aload_n d_Wi_copyFrom_9 rfl ?_
      refine j_getI (f := 449) fe_Wi_15 rfl rfl t14 d_Wi_copyFrom_10 ?_
      refine j_putI (f := 449) fw_Wi_15 rfl rfl t11 d_Wi_copyFrom_13 ?_
      refine j_aload_n d_Wi_copyFrom_16 rfl ?_
      refine j_aload_n d_Wi_copyFrom_17 rfl ?_
      refine j_getI (f := 450) fe_Wi_18 rfl rfl t14 d_Wi_copyFrom_18 ?_
      refine j_putI (f := 450) fw_Wi_18 rfl rfl t11 d_Wi_copyFrom_21 ?_
      refine j_aload_n d_Wi_copyFrom_24 rfl ?_
      refine j_aload_n d_Wi_copyFrom_25 rfl ?_
      refine j_getI (f := 451) fe_Wi_21 rfl rfl t14 d_Wi_copyFrom_26 ?_
      refine j_putI (f := 451) fw_Wi_21 rfl rfl t11 d_Wi_copyFrom_29 ?_
      show J E 1 m_Wi_copyFrom 32 [some (.ref b9), some (.ref b12)] [] (sI (sI (sI (sI G 448 b9 ((gI G 448 b12))) 449 b9 ((gI G 449 b12))) 450 b9 ((gI G 450 b12))) 451 b9 ((gI G 451 b12))) (aft E 7 m_Ws_copyFrom 104 [some (.ref a0), some (.ref a1), some (.int p2)] [] Post)
      generalize e16 : sI (sI (sI (sI G 448 b9 ((gI G 448 b12))) 449 b9 ((gI G 449 b12))) 450 b9 ((gI G 450 b12))) 451 b9 ((gI G 451 b12)) = G15
      have e16 := e16.symm
      have H := H G15 e16
      refine j_aload_n d_Wi_copyFrom_32 rfl ?_
      refine j_aload_n d_Wi_copyFrom_33 rfl ?_
      refine j_getIv (f := 452) (v := (gI G 452 b12)) fe_Wi_24 rfl rfl (by rw [e16]; exact t14) (by rw [e16]; rfl) d_Wi_copyFrom_34 ?_
      refine j_putI (f := 452) fw_Wi_24 rfl rfl (by rw [e16]; exact t11) d_Wi_copyFrom_37 ?_
      refine j_aload_n d_Wi_copyFrom_40 rfl ?_
      refine j_aload_n d_Wi_copyFrom_41 rfl ?_
      refine j_getIv (f := 453) (v := (gI G 453 b12)) fe_Wi_27 rfl rfl (by rw [e16]; exact t14) (by rw [e16]; rfl) d_Wi_copyFrom_42 ?_
      obtain ⟨z17, H⟩ := H
      refine j_putZ (f := 453) fw_Wi_27 rfl rfl (by rw [e16]; exact t11) z17 d_Wi_copyFrom_45 ?_
      refine j_vret rfl d_Wi_copyFrom_48 ?_
      show J E 7 m_Ws_copyFrom 107 [some (.ref a0), some (.ref a1), some (.int p2)] [] (sI (sI G15 452 b9 ((gI G 452 b12))) 453 b9 ((gI G 453 b12))) Post
      refine j_iinc (v := (p2 + (1 : Int32))) (L' := [some (.ref a0), some (.ref a1), some (.int ((p2 + (1 : Int32))))]) d_Ws_copyFrom_107 rfl (by rw [show Int32.ofInt (1) = (1 : Int32) by decide]) (by decide) rfl ?_
      refine j_goto (tgt := 48) d_Ws_copyFrom_110 (by decide) ?_
      exact H
    · have H := Hb c19
      refine j_aload_n d_Ws_copyFrom_70 rfl ?_
      refine j_getR (f := 512) (b := b6) fe_Ws_12 rfl rfl t5 e7 d_Ws_copyFrom_71 ?_
      refine j_aload_n d_Ws_copyFrom_74 rfl ?_
      exact j_callV (d' := 4) (ci := 8) (As := []) (rest := [.ref b6]) (b := a0) cv_Ws_36 me_Ws_unusedRow rfl (by decide) rfl rfl t5 rfl rfl (Nat.le_of_ble_eq_true rfl) d_Ws_copyFrom_75 (by decide) rfl H
theorem wp_Ws_copyFrom_33 {E : EV} {G : GH} {Post : Res → GH → Prop} (a0 : Nat) (a1 : Nat) (p2 : Int32) (u0 : Nat) (u1 : Nat) (H : gT G u1 = 8 ∧ gT G u0 = 12 ∧ Cl E 6 m_AL_add [.ref u0, .ref u1] G (aft E 7 m_Ws_copyFrom 36 [some (.ref a0), some (.ref a1), some (.int p2)] [] Post)) : J E 7 m_Ws_copyFrom 33 [some (.ref a0), some (.ref a1), some (.int p2)] [.ref u1, .ref u0] G Post := by
  obtain ⟨t1, H⟩ := H
  refine j_cast (ci := 7) rfl kl_Ws_25 t1 d_Ws_copyFrom_33 ?_
  obtain ⟨t2, H⟩ := H
  exact j_callV (d' := 6) (ci := 11) (As := [.ref u1]) (rest := []) (b := u0) cv_Ws_32 me_AL_add rfl (by decide) rfl rfl t2 rfl rfl (Nat.le_of_ble_eq_true rfl) d_Ws_copyFrom_36 (by decide) rfl H
theorem wp_Ws_copyFrom_78 {E : EV} {G : GH} {Post : Res → GH → Prop} (a0 : Nat) (a1 : Nat) (p2 : Int32) (u0 : Nat) (u1 : Nat) (H : gT G u0 = 12 ∧ Cl E 6 m_AL_add [.ref u0, .ref u1] G (aft E 7 m_Ws_copyFrom 78 [some (.ref a0), some (.ref a1), some (.int p2)] [] Post)) : J E 7 m_Ws_copyFrom 78 [some (.ref a0), some (.ref a1), some (.int p2)] [.ref u1, .ref u0] G Post := by
  obtain ⟨t1, H⟩ := H
  exact j_callV (d' := 6) (ci := 11) (As := [.ref u1]) (rest := []) (b := u0) cv_Ws_32 me_AL_add rfl (by decide) rfl rfl t1 rfl rfl (Nat.le_of_ble_eq_true rfl) d_Ws_copyFrom_78 (by decide) rfl H
theorem wp_Ws_copyFrom_39 {E : EV} {G : GH} {Post : Res → GH → Prop} (a0 : Nat) (a1 : Nat) (p2 : Int32) (s0 : Int32) (H : J E 7 m_Ws_copyFrom 10 [some (.ref a0), some (.ref a1), some (.int ((p2 + (-1 : Int32))))] [] G Post) : J E 7 m_Ws_copyFrom 39 [some (.ref a0), some (.ref a1), some (.int p2)] [.int s0] G Post := by
  refine j_pop d_Ws_copyFrom_39 rfl ?_
  refine j_iinc (v := (p2 + (-1 : Int32))) (L' := [some (.ref a0), some (.ref a1), some (.int ((p2 + (-1 : Int32))))]) d_Ws_copyFrom_40 rfl (by rw [show Int32.ofInt (-1) = (-1 : Int32) by decide]) (by decide) rfl ?_
  refine j_goto (tgt := 10) d_Ws_copyFrom_43 (by decide) ?_
  exact H
theorem wp_Ws_copyFrom_81 {E : EV} {G : GH} {Post : Res → GH → Prop} (a0 : Nat) (a1 : Nat) (p2 : Int32) (s0 : Int32) (H : gT G a0 = 9 ∧ ∃ b2, gR G 512 a0 = some b2 ∧ gT G b2 = 12 ∧ ∃ b5, LG G b2 p2 b5 ∧ gT G b5 = 8 ∧ gT G a1 = 9 ∧ ∃ b9, gR G 512 a1 = some b9 ∧ gT G b9 = 12 ∧ ∃ b12, LG G b9 p2 b12 ∧ gT G b12 = 8 ∧ ∀ G15, G15 = sI (sI (sI (sI G 448 b5 ((gI G 448 b12))) 449 b5 ((gI G 449 b12))) 450 b5 ((gI G 450 b12))) 451 b5 ((gI G 451 b12)) → ((gI G 453 b12) = 0 ∨ (gI G 453 b12) = 1) ∧ J E 7 m_Ws_copyFrom 48 [some (.ref a0), some (.ref a1), some (.int ((p2 + (1 : Int32))))] [] (sI (sI G15 452 b5 ((gI G 452 b12))) 453 b5 ((gI G 453 b12))) Post) : J E 7 m_Ws_copyFrom 81 [some (.ref a0), some (.ref a1), some (.int p2)] [.int s0] G Post := by
  refine j_pop d_Ws_copyFrom_81 rfl ?_
  refine j_aload_n d_Ws_copyFrom_82 rfl ?_
  obtain ⟨t1, H⟩ := H
  obtain ⟨b2, e3, H⟩ := H
  refine j_getR (f := 512) (b := b2) fe_Ws_12 rfl rfl t1 e3 d_Ws_copyFrom_83 ?_
  refine j_iload_n d_Ws_copyFrom_86 rfl ?_
  obtain ⟨t4, H⟩ := H
  obtain ⟨b5, g6, H⟩ := H
  refine j_callV (d' := 3) (ci := 11) (As := [.int p2]) (rest := []) (b := b2) cv_Ws_40 me_AL_get rfl (by decide) rfl rfl t4 rfl rfl (Nat.le_of_ble_eq_true rfl) d_Ws_copyFrom_87 (by decide) rfl (c_AL_get g6 ?_)
  show J E 7 m_Ws_copyFrom 90 [some (.ref a0), some (.ref a1), some (.int p2)] [.ref b5] G Post
  obtain ⟨t7, H⟩ := H
  refine j_cast (ci := 7) rfl kl_Ws_25 t7 d_Ws_copyFrom_90 ?_
  refine j_aload_n d_Ws_copyFrom_93 rfl ?_
  obtain ⟨t8, H⟩ := H
  obtain ⟨b9, e10, H⟩ := H
  refine j_getR (f := 512) (b := b9) fe_Ws_12 rfl rfl t8 e10 d_Ws_copyFrom_94 ?_
  refine j_iload_n d_Ws_copyFrom_97 rfl ?_
  obtain ⟨t11, H⟩ := H
  obtain ⟨b12, g13, H⟩ := H
  refine j_callV (d' := 3) (ci := 11) (As := [.int p2]) (rest := [.ref b5]) (b := b9) cv_Ws_40 me_AL_get rfl (by decide) rfl rfl t11 rfl rfl (Nat.le_of_ble_eq_true rfl) d_Ws_copyFrom_98 (by decide) rfl (c_AL_get g13 ?_)
  show J E 7 m_Ws_copyFrom 101 [some (.ref a0), some (.ref a1), some (.int p2)] [.ref b12, .ref b5] G Post
  obtain ⟨t14, H⟩ := H
  refine j_cast (ci := 7) rfl kl_Ws_25 t14 d_Ws_copyFrom_101 ?_
  refine j_callV (d' := 1) (ci := 7) (As := [.ref b12]) (rest := []) (b := b5) cv_Ws_43 me_Wi_copyFrom rfl (by decide) rfl rfl t7 rfl rfl (Nat.le_of_ble_eq_true rfl) d_Ws_copyFrom_104 (by decide) rfl (j_enter (L := [some (.ref b5), some (.ref b12)]) me_Wi_copyFrom (cat_c rfl (cat_c rfl cat_n)) (Nat.le_of_ble_eq_true rfl) rfl ?_)
  refine j_aload_n d_Wi_copyFrom_0 rfl ?_
  refine j_aload_n d_Wi_copyFrom_1 rfl ?_
  refine j_getI (f := 448) fe_Wi_9 rfl rfl t14 d_Wi_copyFrom_2 ?_
  refine j_putI (f := 448) fw_Wi_9 rfl rfl t7 d_Wi_copyFrom_5 ?_
  refine j_aload_n d_Wi_copyFrom_8 rfl ?_
  refine j_aload_n d_Wi_copyFrom_9 rfl ?_
  refine j_getI (f := 449) fe_Wi_15 rfl rfl t14 d_Wi_copyFrom_10 ?_
  refine j_putI (f := 449) fw_Wi_15 rfl rfl t7 d_Wi_copyFrom_13 ?_
  refine j_aload_n d_Wi_copyFrom_16 rfl ?_
  refine j_aload_n d_Wi_copyFrom_17 rfl ?_
  refine j_getI (f := 450) fe_Wi_18 rfl rfl t14 d_Wi_copyFrom_18 ?_
  refine j_putI (f := 450) fw_Wi_18 rfl rfl t7 d_Wi_copyFrom_21 ?_
  refine j_aload_n d_Wi_copyFrom_24 rfl ?_
  refine j_aload_n d_Wi_copyFrom_25 rfl ?_
  refine j_getI (f := 451) fe_Wi_21 rfl rfl t14 d_Wi_copyFrom_26 ?_
  refine j_putI (f := 451) fw_Wi_21 rfl rfl t7 d_Wi_copyFrom_29 ?_
  show J E 1 m_Wi_copyFrom 32 [some (.ref b5), some (.ref b12)] [] (sI (sI (sI (sI G 448 b5 ((gI G 448 b12))) 449 b5 ((gI G 449 b12))) 450 b5 ((gI G 450 b12))) 451 b5 ((gI G 451 b12))) (aft E 7 m_Ws_copyFrom 104 [some (.ref a0), some (.ref a1), some (.int p2)] [] Post)
  generalize e16 : sI (sI (sI (sI G 448 b5 ((gI G 448 b12))) 449 b5 ((gI G 449 b12))) 450 b5 ((gI G 450 b12))) 451 b5 ((gI G 451 b12)) = G15
  have e16 := e16.symm
  have H := H G15 e16
  refine j_aload_n d_Wi_copyFrom_32 rfl ?_
  refine j_aload_n d_Wi_copyFrom_33 rfl ?_
  refine j_getIv (f := 452) (v := (gI G 452 b12)) fe_Wi_24 rfl rfl (by rw [e16]; exact t14) (by rw [e16]; rfl) d_Wi_copyFrom_34 ?_
  refine j_putI (f := 452) fw_Wi_24 rfl rfl (by rw [e16]; exact t7) d_Wi_copyFrom_37 ?_
  refine j_aload_n d_Wi_copyFrom_40 rfl ?_
  refine j_aload_n d_Wi_copyFrom_41 rfl ?_
  refine j_getIv (f := 453) (v := (gI G 453 b12)) fe_Wi_27 rfl rfl (by rw [e16]; exact t14) (by rw [e16]; rfl) d_Wi_copyFrom_42 ?_
  obtain ⟨z17, H⟩ := H
  refine j_putZ (f := 453) fw_Wi_27 rfl rfl (by rw [e16]; exact t7) z17 d_Wi_copyFrom_45 ?_
  refine j_vret rfl d_Wi_copyFrom_48 ?_
  show J E 7 m_Ws_copyFrom 107 [some (.ref a0), some (.ref a1), some (.int p2)] [] (sI (sI G15 452 b5 ((gI G 452 b12))) 453 b5 ((gI G 453 b12))) Post
  refine j_iinc (v := (p2 + (1 : Int32))) (L' := [some (.ref a0), some (.ref a1), some (.int ((p2 + (1 : Int32))))]) d_Ws_copyFrom_107 rfl (by rw [show Int32.ofInt (1) = (1 : Int32) by decide]) (by decide) rfl ?_
  refine j_goto (tgt := 48) d_Ws_copyFrom_110 (by decide) ?_
  exact H
theorem wp_Ws_insert_0 {E : EV} {G : GH} {Post : Res → GH → Prop} (a0 : Nat) (a1 : Nat) (H : J E 6 m_Ws_insert 2 [some (.ref a0), some (.ref a1), some (.int ((0 : Int32)))] [] G Post) : J E 6 m_Ws_insert 0 [some (.ref a0), some (.ref a1), none] [] G Post := by
  refine j_iconst (v := 0) d_Ws_insert_0 (by decide) ?_
  refine j_istore_n (L' := [some (.ref a0), some (.ref a1), some (.int ((0 : Int32)))]) d_Ws_insert_1 (by decide) rfl ?_
  exact H
theorem wp_Ws_insert_2 {E : EV} {G : GH} {Post : Res → GH → Prop} (a0 : Nat) (a1 : Nat) (p2 : Int32) (H : gT G a0 = 9 ∧ ∃ b2, gR G 512 a0 = some b2 ∧ gT G b2 = 12 ∧ ((gI G 706 b2) ≤ p2 → Cl E 5 m_AL_addAt [.ref b2, .int p2, .ref a1] G (aft E 6 m_Ws_insert 43 [none, none, none] [] Post)) ∧ (¬ (gI G 706 b2) ≤ p2 → ∃ b5, LG G b2 p2 b5 ∧ gT G b5 = 8 ∧ gT G a1 = 8 ∧ ((gI G 450 b5) = (gI G 450 a1) → ((gI G 448 b5) = (gI G 448 a1) → ((gI G 449 a1) ≤ (gI G 449 b5) → Cl E 5 m_AL_addAt [.ref b2, .int p2, .ref a1] G (aft E 6 m_Ws_insert 43 [none, none, none] [] Post)) ∧ (¬ (gI G 449 a1) ≤ (gI G 449 b5) → J E 6 m_Ws_insert 2 [some (.ref a0), some (.ref a1), some (.int ((p2 + (1 : Int32))))] [] G Post)) ∧ (¬ (gI G 448 b5) = (gI G 448 a1) → ((gI G 448 a1) ≤ (gI G 448 b5) → Cl E 5 m_AL_addAt [.ref b2, .int p2, .ref a1] G (aft E 6 m_Ws_insert 43 [none, none, none] [] Post)) ∧ (¬ (gI G 448 a1) ≤ (gI G 448 b5) → J E 6 m_Ws_insert 2 [some (.ref a0), some (.ref a1), some (.int ((p2 + (1 : Int32))))] [] G Post))) ∧ (¬ (gI G 450 b5) = (gI G 450 a1) → ((gI G 450 a1) ≤ (gI G 450 b5) → Cl E 5 m_AL_addAt [.ref b2, .int p2, .ref a1] G (aft E 6 m_Ws_insert 43 [none, none, none] [] Post)) ∧ (¬ (gI G 450 a1) ≤ (gI G 450 b5) → J E 6 m_Ws_insert 2 [some (.ref a0), some (.ref a1), some (.int ((p2 + (1 : Int32))))] [] G Post)))) : J E 6 m_Ws_insert 2 [some (.ref a0), some (.ref a1), some (.int p2)] [] G Post := by
  refine j_iload_n d_Ws_insert_2 rfl ?_
  refine j_aload_n d_Ws_insert_3 rfl ?_
  obtain ⟨t1, H⟩ := H
  obtain ⟨b2, e3, H⟩ := H
  refine j_getR (f := 512) (b := b2) fe_Ws_12 rfl rfl t1 e3 d_Ws_insert_4 ?_
  obtain ⟨t4, H⟩ := H
  refine j_callV (d' := 1) (ci := 11) (As := []) (rest := [.int p2]) (b := b2) cv_Ws_21 me_AL_size rfl (by decide) rfl rfl t4 rfl rfl (Nat.le_of_ble_eq_true rfl) d_Ws_insert_7 (by decide) rfl (j_enter (L := [some (.ref b2)]) me_AL_size (cat_c rfl cat_n) (Nat.le_of_ble_eq_true rfl) rfl ?_)
  refine j_aload_n d_AL_size_0 rfl ?_
  refine j_getI (f := 706) fe_AL_48 rfl rfl t4 d_AL_size_1 ?_
  refine j_iret rfl d_AL_size_4 ?_
  show J E 6 m_Ws_insert 10 [some (.ref a0), some (.ref a1), some (.int p2)] [.int ((gI G 706 b2)), .int p2] G Post
  obtain ⟨Ha, Hb⟩ := H
  refine j_icmp_ge (tgt := 37) d_Ws_insert_10 (by decide) (fun c19 => ?_) (fun c20 => ?_)
  · have H := Ha c19
    refine j_aload_n d_Ws_insert_37 rfl ?_
    refine j_getR (f := 512) (b := b2) fe_Ws_12 rfl rfl t1 e3 d_Ws_insert_38 ?_
    refine j_iload_n d_Ws_insert_41 rfl ?_
    refine j_aload_n d_Ws_insert_42 rfl ?_
    refine j_forget (L' := [none, none, none]) ⟨Or.inl rfl, Or.inl rfl, Or.inl rfl, trivial⟩ ?_
    exact j_callV (d' := 5) (ci := 11) (As := [.int p2, .ref a1]) (rest := []) (b := b2) cv_Ws_51 me_AL_addAt rfl (by decide) rfl rfl t4 rfl rfl (Nat.le_of_ble_eq_true rfl) d_Ws_insert_43 (by decide) rfl H
  · have H := Hb c20
    refine j_aload_n d_Ws_insert_13 rfl ?_
    refine j_getR (f := 512) (b := b2) fe_Ws_12 rfl rfl t1 e3 d_Ws_insert_14 ?_
    refine j_iload_n d_Ws_insert_17 rfl ?_
    obtain ⟨b5, g6, H⟩ := H
    refine j_callV (d' := 3) (ci := 11) (As := [.int p2]) (rest := []) (b := b2) cv_Ws_40 me_AL_get rfl (by decide) rfl rfl t4 rfl rfl (Nat.le_of_ble_eq_true rfl) d_Ws_insert_18 (by decide) rfl (c_AL_get g6 ?_)
    show J E 6 m_Ws_insert 21 [some (.ref a0), some (.ref a1), some (.int p2)] [.ref b5] G Post
    obtain ⟨t7, H⟩ := H
    refine j_cast (ci := 7) rfl kl_Ws_25 t7 d_Ws_insert_21 ?_
    refine j_aload_n d_Ws_insert_24 rfl ?_
    refine j_callV (d' := 1) (ci := 7) (As := [.ref a1]) (rest := []) (b := b5) cv_Ws_47 me_Wi_isAheadOf rfl (by decide) rfl rfl t7 rfl rfl (Nat.le_of_ble_eq_true rfl) d_Ws_insert_25 (by decide) rfl (j_enter (L := [some (.ref b5), some (.ref a1)]) me_Wi_isAheadOf (cat_c rfl (cat_c rfl cat_n)) (Nat.le_of_ble_eq_true rfl) rfl ?_)
    refine j_aload_n d_Wi_isAheadOf_0 rfl ?_
    refine j_getI (f := 450) fe_Wi_18 rfl rfl t7 d_Wi_isAheadOf_1 ?_
    refine j_aload_n d_Wi_isAheadOf_4 rfl ?_
    obtain ⟨t8, H⟩ := H
    refine j_getI (f := 450) fe_Wi_18 rfl rfl t8 d_Wi_isAheadOf_5 ?_
    obtain ⟨Ha, Hb⟩ := H
    refine j_icmp_eq (tgt := 28) d_Wi_isAheadOf_8 (by decide) (fun c17 => ?_) (fun c18 => ?_)
    · have H := Ha c17
      refine j_aload_n d_Wi_isAheadOf_28 rfl ?_
      refine j_getI (f := 448) fe_Wi_9 rfl rfl t7 d_Wi_isAheadOf_29 ?_
      refine j_aload_n d_Wi_isAheadOf_32 rfl ?_
      refine j_getI (f := 448) fe_Wi_9 rfl rfl t8 d_Wi_isAheadOf_33 ?_
      obtain ⟨Ha, Hb⟩ := H
      refine j_icmp_eq (tgt := 58) d_Wi_isAheadOf_36 (by decide) (fun c13 => ?_) (fun c14 => ?_)
      · have H := Ha c13
        refine j_aload_n d_Wi_isAheadOf_58 rfl ?_
        refine j_getI (f := 449) fe_Wi_15 rfl rfl t7 d_Wi_isAheadOf_59 ?_
        refine j_aload_n d_Wi_isAheadOf_62 rfl ?_
        refine j_getI (f := 449) fe_Wi_15 rfl rfl t8 d_Wi_isAheadOf_63 ?_
        obtain ⟨Ha, Hb⟩ := H
        refine j_icmp_ge (tgt := 73) d_Wi_isAheadOf_66 (by decide) (fun c9 => ?_) (fun c10 => ?_)
        · have H := Ha c9
          refine j_iconst (v := 0) d_Wi_isAheadOf_73 (by decide) ?_
          refine j_zret rfl (by decide) d_Wi_isAheadOf_74 ?_
          show J E 6 m_Ws_insert 28 [some (.ref a0), some (.ref a1), some (.int p2)] [.int ((0 : Int32))] G Post
          refine j_if_eq (tgt := 37) d_Ws_insert_28 (by decide) (fun _ => ?_) (fun c => absurd c (by decide))
          refine j_aload_n d_Ws_insert_37 rfl ?_
          refine j_getR (f := 512) (b := b2) fe_Ws_12 rfl rfl t1 e3 d_Ws_insert_38 ?_
          refine j_iload_n d_Ws_insert_41 rfl ?_
          refine j_aload_n d_Ws_insert_42 rfl ?_
          refine j_forget (L' := [none, none, none]) ⟨Or.inl rfl, Or.inl rfl, Or.inl rfl, trivial⟩ ?_
          exact j_callV (d' := 5) (ci := 11) (As := [.int p2, .ref a1]) (rest := []) (b := b2) cv_Ws_51 me_AL_addAt rfl (by decide) rfl rfl t4 rfl rfl (Nat.le_of_ble_eq_true rfl) d_Ws_insert_43 (by decide) rfl H
        · have H := Hb c10
          refine j_iconst (v := 1) d_Wi_isAheadOf_69 (by decide) ?_
          refine j_goto (tgt := 74) d_Wi_isAheadOf_70 (by decide) ?_
          refine j_zret rfl (by decide) d_Wi_isAheadOf_74 ?_
          show J E 6 m_Ws_insert 28 [some (.ref a0), some (.ref a1), some (.int p2)] [.int ((1 : Int32))] G Post
          refine j_if_eq (tgt := 37) d_Ws_insert_28 (by decide) (fun c => absurd c (by decide)) (fun _ => ?_)
          refine j_iinc (v := (p2 + (1 : Int32))) (L' := [some (.ref a0), some (.ref a1), some (.int ((p2 + (1 : Int32))))]) d_Ws_insert_31 rfl (by rw [show Int32.ofInt (1) = (1 : Int32) by decide]) (by decide) rfl ?_
          refine j_goto (tgt := 2) d_Ws_insert_34 (by decide) ?_
          exact H
      · have H := Hb c14
        refine j_aload_n d_Wi_isAheadOf_39 rfl ?_
        refine j_getI (f := 448) fe_Wi_9 rfl rfl t7 d_Wi_isAheadOf_40 ?_
        refine j_aload_n d_Wi_isAheadOf_43 rfl ?_
        refine j_getI (f := 448) fe_Wi_9 rfl rfl t8 d_Wi_isAheadOf_44 ?_
        obtain ⟨Ha, Hb⟩ := H
        refine j_icmp_ge (tgt := 54) d_Wi_isAheadOf_47 (by decide) (fun c11 => ?_) (fun c12 => ?_)
        · have H := Ha c11
          refine j_iconst (v := 0) d_Wi_isAheadOf_54 (by decide) ?_
          refine j_goto (tgt := 74) d_Wi_isAheadOf_55 (by decide) ?_
          refine j_zret rfl (by decide) d_Wi_isAheadOf_74 ?_
          show J E 6 m_Ws_insert 28 [some (.ref a0), some (.ref a1), some (.int p2)] [.int ((0 : Int32))] G Post
          refine j_if_eq (tgt := 37) d_Ws_insert_28 (by decide) (fun _ => ?_) (fun c => absurd c (by decide))
          refine j_aload_n d_Ws_insert_37 rfl ?_
          refine j_getR (f := 512) (b := b2) fe_Ws_12 rfl rfl t1 e3 d_Ws_insert_38 ?_
          refine j_iload_n d_Ws_insert_41 rfl ?_
          refine j_aload_n d_Ws_insert_42 rfl ?_
          refine j_forget (L' := [none, none, none]) ⟨Or.inl rfl, Or.inl rfl, Or.inl rfl, trivial⟩ ?_
          exact j_callV (d' := 5) (ci := 11) (As := [.int p2, .ref a1]) (rest := []) (b := b2) cv_Ws_51 me_AL_addAt rfl (by decide) rfl rfl t4 rfl rfl (Nat.le_of_ble_eq_true rfl) d_Ws_insert_43 (by decide) rfl H
        · have H := Hb c12
          refine j_iconst (v := 1) d_Wi_isAheadOf_50 (by decide) ?_
          refine j_goto (tgt := 74) d_Wi_isAheadOf_51 (by decide) ?_
          refine j_zret rfl (by decide) d_Wi_isAheadOf_74 ?_
          show J E 6 m_Ws_insert 28 [some (.ref a0), some (.ref a1), some (.int p2)] [.int ((1 : Int32))] G Post
          refine j_if_eq (tgt := 37) d_Ws_insert_28 (by decide) (fun c => absurd c (by decide)) (fun _ => ?_)
          refine j_iinc (v := (p2 + (1 : Int32))) (L' := [some (.ref a0), some (.ref a1), some (.int ((p2 + (1 : Int32))))]) d_Ws_insert_31 rfl (by rw [show Int32.ofInt (1) = (1 : Int32) by decide]) (by decide) rfl ?_
          refine j_goto (tgt := 2) d_Ws_insert_34 (by decide) ?_
          exact H
    · have H := Hb c18
      refine j_aload_n d_Wi_isAheadOf_11 rfl ?_
      refine j_getI (f := 450) fe_Wi_18 rfl rfl t7 d_Wi_isAheadOf_12 ?_
      refine j_aload_n d_Wi_isAheadOf_15 rfl ?_
      refine j_getI (f := 450) fe_Wi_18 rfl rfl t8 d_Wi_isAheadOf_16 ?_
      obtain ⟨Ha, Hb⟩ := H
      refine j_icmp_ge (tgt := 26) d_Wi_isAheadOf_19 (by decide) (fun c15 => ?_) (fun c16 => ?_)
      · have H := Ha c15
        refine j_iconst (v := 0) d_Wi_isAheadOf_26 (by decide) ?_
        refine j_zret rfl (by decide) d_Wi_isAheadOf_27 ?_
        show J E 6 m_Ws_insert 28 [some (.ref a0), some (.ref a1), some (.int p2)] [.int ((0 : Int32))] G Post
        refine j_if_eq (tgt := 37) d_Ws_insert_28 (by decide) (fun _ => ?_) (fun c => absurd c (by decide))
        refine j_aload_n d_Ws_insert_37 rfl ?_
        refine j_getR (f := 512) (b := b2) fe_Ws_12 rfl rfl t1 e3 d_Ws_insert_38 ?_
        refine j_iload_n d_Ws_insert_41 rfl ?_
        refine j_aload_n d_Ws_insert_42 rfl ?_
        refine j_forget (L' := [none, none, none]) ⟨Or.inl rfl, Or.inl rfl, Or.inl rfl, trivial⟩ ?_
        exact j_callV (d' := 5) (ci := 11) (As := [.int p2, .ref a1]) (rest := []) (b := b2) cv_Ws_51 me_AL_addAt rfl (by decide) rfl rfl t4 rfl rfl (Nat.le_of_ble_eq_true rfl) d_Ws_insert_43 (by decide) rfl H
      · have H := Hb c16
        refine j_iconst (v := 1) d_Wi_isAheadOf_22 (by decide) ?_
        refine j_goto (tgt := 27) d_Wi_isAheadOf_23 (by decide) ?_
        refine j_zret rfl (by decide) d_Wi_isAheadOf_27 ?_
        show J E 6 m_Ws_insert 28 [some (.ref a0), some (.ref a1), some (.int p2)] [.int ((1 : Int32))] G Post
        refine j_if_eq (tgt := 37) d_Ws_insert_28 (by decide) (fun c => absurd c (by decide)) (fun _ => ?_)
        refine j_iinc (v := (p2 + (1 : Int32))) (L' := [some (.ref a0), some (.ref a1), some (.int ((p2 + (1 : Int32))))]) d_Ws_insert_31 rfl (by rw [show Int32.ofInt (1) = (1 : Int32) by decide]) (by decide) rfl ?_
        refine j_goto (tgt := 2) d_Ws_insert_34 (by decide) ?_
        exact H
theorem wp_Ws_insert_46 {E : EV} {G : GH} {Post : Res → GH → Prop}  (H : Post (.inl none) G) : J E 6 m_Ws_insert 46 [none, none, none] [] G Post := by
  exact j_vret rfl d_Ws_insert_46 H
theorem wp_Ws_find_0 {E : EV} {G : GH} {Post : Res → GH → Prop} (a0 : Nat) (p1 : Int32) (p2 : Int32) (H : J E 4 m_Ws_find 2 [some (.ref a0), some (.int p1), some (.int p2), some (.int ((0 : Int32))), none] [] G Post) : J E 4 m_Ws_find 0 [some (.ref a0), some (.int p1), some (.int p2), none, none] [] G Post := by
  refine j_iconst (v := 0) d_Ws_find_0 (by decide) ?_
  refine j_istore_n (L' := [some (.ref a0), some (.int p1), some (.int p2), some (.int ((0 : Int32))), none]) d_Ws_find_1 (by decide) rfl ?_
  exact H
theorem wp_Ws_find_2 {E : EV} {G : GH} {Post : Res → GH → Prop} (a0 : Nat) (p1 : Int32) (p2 : Int32) (p3 : Int32) (H : gT G a0 = 9 ∧ ∃ b2, gR G 512 a0 = some b2 ∧ gT G b2 = 12 ∧ ((gI G 706 b2) ≤ p3 → Post (.inl (some (.null))) G) ∧ (¬ (gI G 706 b2) ≤ p3 → ∃ b5, LG G b2 p3 b5 ∧ gT G b5 = 8 ∧ (¬ (gI G 448 b5) = p1 → J E 4 m_Ws_find 2 [some (.ref a0), some (.int p1), some (.int p2), some (.int ((p3 + (1 : Int32)))), none] [] G Post) ∧ ((gI G 448 b5) = p1 → (¬ (gI G 449 b5) = p2 → J E 4 m_Ws_find 2 [some (.ref a0), some (.int p1), some (.int p2), some (.int ((p3 + (1 : Int32)))), none] [] G Post) ∧ ((gI G 449 b5) = p2 → Post (.inl (some (.ref b5))) G)))) : J E 4 m_Ws_find 2 [some (.ref a0), some (.int p1), some (.int p2), some (.int p3), none] [] G Post := by
  refine j_iload_n d_Ws_find_2 rfl ?_
  refine j_aload_n d_Ws_find_3 rfl ?_
  obtain ⟨t1, H⟩ := H
  obtain ⟨b2, e3, H⟩ := H
  refine j_getR (f := 512) (b := b2) fe_Ws_12 rfl rfl t1 e3 d_Ws_find_4 ?_
  obtain ⟨t4, H⟩ := H
  refine j_callV (d' := 1) (ci := 11) (As := []) (rest := [.int p3]) (b := b2) cv_Ws_21 me_AL_size rfl (by decide) rfl rfl t4 rfl rfl (Nat.le_of_ble_eq_true rfl) d_Ws_find_7 (by decide) rfl (j_enter (L := [some (.ref b2)]) me_AL_size (cat_c rfl cat_n) (Nat.le_of_ble_eq_true rfl) rfl ?_)
  refine j_aload_n d_AL_size_0 rfl ?_
  refine j_getI (f := 706) fe_AL_48 rfl rfl t4 d_AL_size_1 ?_
  refine j_iret rfl d_AL_size_4 ?_
  show J E 4 m_Ws_find 10 [some (.ref a0), some (.int p1), some (.int p2), some (.int p3), none] [.int ((gI G 706 b2)), .int p3] G Post
  obtain ⟨Ha, Hb⟩ := H
  refine j_icmp_ge (tgt := 53) d_Ws_find_10 (by decide) (fun c12 => ?_) (fun c13 => ?_)
  · have H := Ha c12
    refine j_null d_Ws_find_53 ?_
    exact j_aret (x := none) rfl rfl (Or.inl ⟨_, rfl⟩) d_Ws_find_54 H
  · have H := Hb c13
    refine j_aload_n d_Ws_find_13 rfl ?_
    refine j_getR (f := 512) (b := b2) fe_Ws_12 rfl rfl t1 e3 d_Ws_find_14 ?_
    refine j_iload_n d_Ws_find_17 rfl ?_
    obtain ⟨b5, g6, H⟩ := H
    refine j_callV (d' := 3) (ci := 11) (As := [.int p3]) (rest := []) (b := b2) cv_Ws_40 me_AL_get rfl (by decide) rfl rfl t4 rfl rfl (Nat.le_of_ble_eq_true rfl) d_Ws_find_18 (by decide) rfl (c_AL_get g6 ?_)
    show J E 4 m_Ws_find 21 [some (.ref a0), some (.int p1), some (.int p2), some (.int p3), none] [.ref b5] G Post
    obtain ⟨t7, H⟩ := H
    refine j_cast (ci := 7) rfl kl_Ws_25 t7 d_Ws_find_21 ?_
    refine j_astore (x := (some b5)) (L' := [some (.ref a0), some (.int p1), some (.int p2), some (.int p3), some (.ref b5)]) rfl d_Ws_find_24 (by decide) rfl ?_
    refine j_aload d_Ws_find_26 rfl ?_
    refine j_getI (f := 448) fe_Ws_54 rfl rfl t7 d_Ws_find_28 ?_
    refine j_iload_n d_Ws_find_31 rfl ?_
    obtain ⟨Ha, Hb⟩ := H
    refine j_icmp_ne (tgt := 47) d_Ws_find_32 (by decide) (fun c10 => ?_) (fun c11 => ?_)
    · have H := Ha c10
      refine j_iinc (v := (p3 + (1 : Int32))) (L' := [some (.ref a0), some (.int p1), some (.int p2), some (.int ((p3 + (1 : Int32)))), some (.ref b5)]) d_Ws_find_47 rfl (by rw [show Int32.ofInt (1) = (1 : Int32) by decide]) (by decide) rfl ?_
      refine j_goto (tgt := 2) d_Ws_find_50 (by decide) ?_
      refine j_forget (L' := [some (.ref a0), some (.int p1), some (.int p2), some (.int ((p3 + (1 : Int32)))), none]) ⟨Or.inr rfl, Or.inr rfl, Or.inr rfl, Or.inr rfl, Or.inl rfl, trivial⟩ ?_
      exact H
    · have H := Hb c11
      refine j_aload d_Ws_find_35 rfl ?_
      refine j_getI (f := 449) fe_Ws_58 rfl rfl t7 d_Ws_find_37 ?_
      refine j_iload_n d_Ws_find_40 rfl ?_
      obtain ⟨Ha, Hb⟩ := H
      refine j_icmp_ne (tgt := 47) d_Ws_find_41 (by decide) (fun c8 => ?_) (fun c9 => ?_)
      · have H := Ha c8
        refine j_iinc (v := (p3 + (1 : Int32))) (L' := [some (.ref a0), some (.int p1), some (.int p2), some (.int ((p3 + (1 : Int32)))), some (.ref b5)]) d_Ws_find_47 rfl (by rw [show Int32.ofInt (1) = (1 : Int32) by decide]) (by decide) rfl ?_
        refine j_goto (tgt := 2) d_Ws_find_50 (by decide) ?_
        refine j_forget (L' := [some (.ref a0), some (.int p1), some (.int p2), some (.int ((p3 + (1 : Int32)))), none]) ⟨Or.inr rfl, Or.inr rfl, Or.inr rfl, Or.inr rfl, Or.inl rfl, trivial⟩ ?_
        exact H
      · have H := Hb c9
        refine j_aload d_Ws_find_44 rfl ?_
        exact j_aret (x := (some b5)) rfl rfl (Or.inl ⟨_, rfl⟩) d_Ws_find_46 H
theorem wp_Ws_admitBySteps_0 {E : EV} {G : GH} {Post : Res → GH → Prop} (a0 : Nat) (a1 : Nat) (a2 : Nat) (a3 : Nat) (H : gT G a1 = 2 ∧ gT G a2 = 4 ∧ ((1 : Int32) ≤ (gI G 194 a2) → ¬ (gI G 194 a2) = 0 ∧ J E 10 m_Ws_admitBySteps 17 [some (.ref a0), some (.ref a1), some (.ref a2), some (.ref a3), some (.int (((gI G 65 a1) - ((gI G 65 a1) - (gI G 65 a1) / (gI G 194 a2) * (gI G 194 a2))))), some (.int (((gI G 65 a1) - ((gI G 65 a1) - (gI G 65 a1) / (gI G 194 a2) * (gI G 194 a2))))), some (.int ((1 : Int32))), none, none] [] G Post) ∧ (¬ (1 : Int32) ≤ (gI G 194 a2) → J E 10 m_Ws_admitBySteps 17 [some (.ref a0), some (.ref a1), some (.ref a2), some (.ref a3), some (.int ((gI G 65 a1))), some (.int ((gI G 65 a1))), some (.int ((1 : Int32))), none, none] [] G Post)) : J E 10 m_Ws_admitBySteps 0 [some (.ref a0), some (.ref a1), some (.ref a2), some (.ref a3), none, none, none, none, none] [] G Post := by
  refine j_aload_n d_Ws_admitBySteps_0 rfl ?_
  refine j_aload_n d_Ws_admitBySteps_1 rfl ?_
  obtain ⟨t1, H⟩ := H
  refine j_getI (f := 65) fe_Ws_61 rfl rfl t1 d_Ws_admitBySteps_2 ?_
  obtain ⟨t2, H⟩ := H
  refine j_callV (d' := 1) (ci := 3) (As := [.int ((gI G 65 a1))]) (rest := []) (b := a2) cv_Ws_66 me_Jo_lastStart rfl (by decide) rfl rfl t2 rfl rfl (Nat.le_of_ble_eq_true rfl) d_Ws_admitBySteps_5 (by decide) rfl (j_enter (L := [some (.ref a2), some (.int ((gI G 65 a1)))]) me_Jo_lastStart (cat_c rfl (cat_c rfl cat_n)) (Nat.le_of_ble_eq_true rfl) rfl ?_)
  refine j_aload_n d_Jo_lastStart_0 rfl ?_
  refine j_getI (f := 194) fe_Jo_18 rfl rfl t2 d_Jo_lastStart_1 ?_
  refine j_iconst (v := 1) d_Jo_lastStart_4 (by decide) ?_
  obtain ⟨Ha, Hb⟩ := H
  refine j_icmp_ge (tgt := 12) d_Jo_lastStart_5 (by decide) (fun c4 => ?_) (fun c5 => ?_)
  · have H := Ha c4
    refine j_iload_n d_Jo_lastStart_12 rfl ?_
    refine j_iload_n d_Jo_lastStart_13 rfl ?_
    refine j_aload_n d_Jo_lastStart_14 rfl ?_
    refine j_getI (f := 194) fe_Jo_18 rfl rfl t2 d_Jo_lastStart_15 ?_
    obtain ⟨z3, H⟩ := H
    refine j_irem d_Jo_lastStart_18 z3 ?_
    refine j_isub d_Jo_lastStart_19 ?_
    refine j_iret rfl d_Jo_lastStart_20 ?_
    show J E 10 m_Ws_admitBySteps 8 [some (.ref a0), some (.ref a1), some (.ref a2), some (.ref a3), none, none, none, none, none] [.int (((gI G 65 a1) - ((gI G 65 a1) - (gI G 65 a1) / (gI G 194 a2) * (gI G 194 a2))))] G Post
    refine j_istore (L' := [some (.ref a0), some (.ref a1), some (.ref a2), some (.ref a3), some (.int (((gI G 65 a1) - ((gI G 65 a1) - (gI G 65 a1) / (gI G 194 a2) * (gI G 194 a2))))), none, none, none, none]) d_Ws_admitBySteps_8 (by decide) rfl ?_
    refine j_iload d_Ws_admitBySteps_10 rfl ?_
    refine j_istore (L' := [some (.ref a0), some (.ref a1), some (.ref a2), some (.ref a3), some (.int (((gI G 65 a1) - ((gI G 65 a1) - (gI G 65 a1) / (gI G 194 a2) * (gI G 194 a2))))), some (.int (((gI G 65 a1) - ((gI G 65 a1) - (gI G 65 a1) / (gI G 194 a2) * (gI G 194 a2))))), none, none, none]) d_Ws_admitBySteps_12 (by decide) rfl ?_
    refine j_iconst (v := 1) d_Ws_admitBySteps_14 (by decide) ?_
    refine j_istore (L' := [some (.ref a0), some (.ref a1), some (.ref a2), some (.ref a3), some (.int (((gI G 65 a1) - ((gI G 65 a1) - (gI G 65 a1) / (gI G 194 a2) * (gI G 194 a2))))), some (.int (((gI G 65 a1) - ((gI G 65 a1) - (gI G 65 a1) / (gI G 194 a2) * (gI G 194 a2))))), some (.int ((1 : Int32))), none, none]) d_Ws_admitBySteps_15 (by decide) rfl ?_
    exact H
  · have H := Hb c5
    refine j_iload_n d_Jo_lastStart_8 rfl ?_
    refine j_goto (tgt := 20) d_Jo_lastStart_9 (by decide) ?_
    refine j_iret rfl d_Jo_lastStart_20 ?_
    show J E 10 m_Ws_admitBySteps 8 [some (.ref a0), some (.ref a1), some (.ref a2), some (.ref a3), none, none, none, none, none] [.int ((gI G 65 a1))] G Post
    refine j_istore (L' := [some (.ref a0), some (.ref a1), some (.ref a2), some (.ref a3), some (.int ((gI G 65 a1))), none, none, none, none]) d_Ws_admitBySteps_8 (by decide) rfl ?_
    refine j_iload d_Ws_admitBySteps_10 rfl ?_
    refine j_istore (L' := [some (.ref a0), some (.ref a1), some (.ref a2), some (.ref a3), some (.int ((gI G 65 a1))), some (.int ((gI G 65 a1))), none, none, none]) d_Ws_admitBySteps_12 (by decide) rfl ?_
    refine j_iconst (v := 1) d_Ws_admitBySteps_14 (by decide) ?_
    refine j_istore (L' := [some (.ref a0), some (.ref a1), some (.ref a2), some (.ref a3), some (.int ((gI G 65 a1))), some (.int ((gI G 65 a1))), some (.int ((1 : Int32))), none, none]) d_Ws_admitBySteps_15 (by decide) rfl ?_
    exact H
theorem wp_Ws_admitBySteps_17 {E : EV} {G : GH} {Post : Res → GH → Prop} (a0 : Nat) (a1 : Nat) (a2 : Nat) (a3 : Nat) (p4 : Int32) (p5 : Int32) (p6 : Int32) (H : ((8 : Int32) ≤ p6 → J E 10 m_Ws_admitBySteps 68 [some (.ref a0), some (.ref a1), some (.ref a2), some (.ref a3), some (.int p4), some (.int p5), some (.int ((0 : Int32))), some (.int ((0 : Int32))), none] [] G Post) ∧ (¬ (8 : Int32) ≤ p6 → gT G a2 = 4 ∧ ((p5 - (gI G 194 a2)) < 0 → J E 10 m_Ws_admitBySteps 17 [some (.ref a0), some (.ref a1), some (.ref a2), some (.ref a3), some (.int p4), some (.int p5), some (.int ((p6 + (1 : Int32)))), none, none] [] G Post) ∧ (¬ (p5 - (gI G 194 a2)) < 0 → gT G a1 = 2 ∧ (((p5 - (gI G 194 a2)) + (gI G 193 a2)) ≤ (gI G 65 a1) → J E 10 m_Ws_admitBySteps 17 [some (.ref a0), some (.ref a1), some (.ref a2), some (.ref a3), some (.int p4), some (.int p5), some (.int ((p6 + (1 : Int32)))), none, none] [] G Post) ∧ (¬ ((p5 - (gI G 194 a2)) + (gI G 193 a2)) ≤ (gI G 65 a1) → J E 10 m_Ws_admitBySteps 17 [some (.ref a0), some (.ref a1), some (.ref a2), some (.ref a3), some (.int p4), some (.int ((p5 - (gI G 194 a2)))), some (.int ((p6 + (1 : Int32)))), none, none] [] G Post)))) : J E 10 m_Ws_admitBySteps 17 [some (.ref a0), some (.ref a1), some (.ref a2), some (.ref a3), some (.int p4), some (.int p5), some (.int p6), none, none] [] G Post := by
  refine j_iload d_Ws_admitBySteps_17 rfl ?_
  refine j_bipush (v := 8) d_Ws_admitBySteps_19 (by decide) ?_
  obtain ⟨Ha, Hb⟩ := H
  refine j_icmp_ge (tgt := 62) d_Ws_admitBySteps_21 (by decide) (fun c7 => ?_) (fun c8 => ?_)
  · have H := Ha c7
    refine j_iconst (v := 0) d_Ws_admitBySteps_62 (by decide) ?_
    refine j_istore (L' := [some (.ref a0), some (.ref a1), some (.ref a2), some (.ref a3), some (.int p4), some (.int p5), some (.int ((0 : Int32))), none, none]) d_Ws_admitBySteps_63 (by decide) rfl ?_
    refine j_iconst (v := 0) d_Ws_admitBySteps_65 (by decide) ?_
    refine j_istore (L' := [some (.ref a0), some (.ref a1), some (.ref a2), some (.ref a3), some (.int p4), some (.int p5), some (.int ((0 : Int32))), some (.int ((0 : Int32))), none]) d_Ws_admitBySteps_66 (by decide) rfl ?_
    exact H
  · have H := Hb c8
    refine j_iload d_Ws_admitBySteps_24 rfl ?_
    refine j_aload_n d_Ws_admitBySteps_26 rfl ?_
    obtain ⟨t1, H⟩ := H
    refine j_getI (f := 194) fe_Ws_72 rfl rfl t1 d_Ws_admitBySteps_27 ?_
    refine j_isub d_Ws_admitBySteps_30 ?_
    refine j_istore (L' := [some (.ref a0), some (.ref a1), some (.ref a2), some (.ref a3), some (.int p4), some (.int p5), some (.int p6), some (.int ((p5 - (gI G 194 a2)))), none]) d_Ws_admitBySteps_31 (by decide) rfl ?_
    refine j_iload d_Ws_admitBySteps_33 rfl ?_
    obtain ⟨Ha, Hb⟩ := H
    refine j_if_lt (tgt := 56) d_Ws_admitBySteps_35 (by decide) (fun c5 => ?_) (fun c6 => ?_)
    · have H := Ha c5
      refine j_iinc (v := (p6 + (1 : Int32))) (L' := [some (.ref a0), some (.ref a1), some (.ref a2), some (.ref a3), some (.int p4), some (.int p5), some (.int ((p6 + (1 : Int32)))), some (.int ((p5 - (gI G 194 a2)))), none]) d_Ws_admitBySteps_56 rfl (by rw [show Int32.ofInt (1) = (1 : Int32) by decide]) (by decide) rfl ?_
      refine j_goto (tgt := 17) d_Ws_admitBySteps_59 (by decide) ?_
      refine j_forget (L' := [some (.ref a0), some (.ref a1), some (.ref a2), some (.ref a3), some (.int p4), some (.int p5), some (.int ((p6 + (1 : Int32)))), none, none]) ⟨Or.inr rfl, Or.inr rfl, Or.inr rfl, Or.inr rfl, Or.inr rfl, Or.inr rfl, Or.inr rfl, Or.inl rfl, Or.inl rfl, trivial⟩ ?_
      exact H
    · have H := Hb c6
      refine j_iload d_Ws_admitBySteps_38 rfl ?_
      refine j_aload_n d_Ws_admitBySteps_40 rfl ?_
      refine j_getI (f := 193) fe_Ws_75 rfl rfl t1 d_Ws_admitBySteps_41 ?_
      refine j_iadd d_Ws_admitBySteps_44 ?_
      refine j_aload_n d_Ws_admitBySteps_45 rfl ?_
      obtain ⟨t2, H⟩ := H
      refine j_getI (f := 65) fe_Ws_61 rfl rfl t2 d_Ws_admitBySteps_46 ?_
      obtain ⟨Ha, Hb⟩ := H
      refine j_icmp_le (tgt := 56) d_Ws_admitBySteps_49 (by decide) (fun c3 => ?_) (fun c4 => ?_)
      · have H := Ha c3
        refine j_iinc (v := (p6 + (1 : Int32))) (L' := [some (.ref a0), some (.ref a1), some (.ref a2), some (.ref a3), some (.int p4), some (.int p5), some (.int ((p6 + (1 : Int32)))), some (.int ((p5 - (gI G 194 a2)))), none]) d_Ws_admitBySteps_56 rfl (by rw [show Int32.ofInt (1) = (1 : Int32) by decide]) (by decide) rfl ?_
        refine j_goto (tgt := 17) d_Ws_admitBySteps_59 (by decide) ?_
        refine j_forget (L' := [some (.ref a0), some (.ref a1), some (.ref a2), some (.ref a3), some (.int p4), some (.int p5), some (.int ((p6 + (1 : Int32)))), none, none]) ⟨Or.inr rfl, Or.inr rfl, Or.inr rfl, Or.inr rfl, Or.inr rfl, Or.inr rfl, Or.inr rfl, Or.inl rfl, Or.inl rfl, trivial⟩ ?_
        exact H
      · have H := Hb c4
        refine j_iload d_Ws_admitBySteps_52 rfl ?_
        refine j_istore (L' := [some (.ref a0), some (.ref a1), some (.ref a2), some (.ref a3), some (.int p4), some (.int ((p5 - (gI G 194 a2)))), some (.int p6), some (.int ((p5 - (gI G 194 a2)))), none]) d_Ws_admitBySteps_54 (by decide) rfl ?_
        refine j_iinc (v := (p6 + (1 : Int32))) (L' := [some (.ref a0), some (.ref a1), some (.ref a2), some (.ref a3), some (.int p4), some (.int ((p5 - (gI G 194 a2)))), some (.int ((p6 + (1 : Int32)))), some (.int ((p5 - (gI G 194 a2)))), none]) d_Ws_admitBySteps_56 rfl (by rw [show Int32.ofInt (1) = (1 : Int32) by decide]) (by decide) rfl ?_
        refine j_goto (tgt := 17) d_Ws_admitBySteps_59 (by decide) ?_
        refine j_forget (L' := [some (.ref a0), some (.ref a1), some (.ref a2), some (.ref a3), some (.int p4), some (.int ((p5 - (gI G 194 a2)))), some (.int ((p6 + (1 : Int32)))), none, none]) ⟨Or.inr rfl, Or.inr rfl, Or.inr rfl, Or.inr rfl, Or.inr rfl, Or.inr rfl, Or.inr rfl, Or.inl rfl, Or.inl rfl, trivial⟩ ?_
        exact H
theorem wp_Ws_admitBySteps_68 {E : EV} {G : GH} {Post : Res → GH → Prop} (a0 : Nat) (a1 : Nat) (a2 : Nat) (a3 : Nat) (p4 : Int32) (p5 : Int32) (p6 : Int32) (p7 : Int32) (H : ((8 : Int32) ≤ p7 → (p6 = 0 ∨ p6 = 1) ∧ Post (.inl (some (.int p6))) G) ∧ (¬ (8 : Int32) ≤ p7 → gT G a2 = 4 ∧ (p4 < (p5 + (p7 * (gI G 194 a2))) → J E 10 m_Ws_admitBySteps 68 [some (.ref a0), some (.ref a1), some (.ref a2), some (.ref a3), some (.int p4), some (.int p5), some (.int p6), some (.int ((p7 + (1 : Int32)))), none] [] G Post) ∧ (¬ p4 < (p5 + (p7 * (gI G 194 a2))) → gT G a1 = 2 ∧ ((((p5 + (p7 * (gI G 194 a2))) + (gI G 193 a2)) + (gI G 195 a2)) ≤ (gI G 68 a1) → J E 10 m_Ws_admitBySteps 68 [some (.ref a0), some (.ref a1), some (.ref a2), some (.ref a3), some (.int p4), some (.int p5), some (.int p6), some (.int ((p7 + (1 : Int32)))), none] [] G Post) ∧ (¬ (((p5 + (p7 * (gI G 194 a2))) + (gI G 193 a2)) + (gI G 195 a2)) ≤ (gI G 68 a1) → gT G a0 = 9 ∧ Cl E 9 m_Ws_addToWindow [.ref a0, .ref a1, .int ((p5 + (p7 * (gI G 194 a2)))), .int (((p5 + (p7 * (gI G 194 a2))) + (gI G 193 a2))), .ref a3] G (aft E 10 m_Ws_admitBySteps 124 [some (.ref a0), some (.ref a1), some (.ref a2), some (.ref a3), some (.int p4), some (.int p5), none, some (.int p7), none] [] Post))))) : J E 10 m_Ws_admitBySteps 68 [some (.ref a0), some (.ref a1), some (.ref a2), some (.ref a3), some (.int p4), some (.int p5), some (.int p6), some (.int p7), none] [] G Post := by
  refine j_iload d_Ws_admitBySteps_68 rfl ?_
  refine j_bipush (v := 8) d_Ws_admitBySteps_70 (by decide) ?_
  obtain ⟨Ha, Hb⟩ := H
  refine j_icmp_ge (tgt := 136) d_Ws_admitBySteps_72 (by decide) (fun c9 => ?_) (fun c10 => ?_)
  · have H := Ha c9
    refine j_iload d_Ws_admitBySteps_136 rfl ?_
    obtain ⟨z1, H⟩ := H
    exact j_zret rfl z1 d_Ws_admitBySteps_138 H
  · have H := Hb c10
    refine j_iload d_Ws_admitBySteps_75 rfl ?_
    refine j_iload d_Ws_admitBySteps_77 rfl ?_
    refine j_aload_n d_Ws_admitBySteps_79 rfl ?_
    obtain ⟨t2, H⟩ := H
    refine j_getI (f := 194) fe_Ws_72 rfl rfl t2 d_Ws_admitBySteps_80 ?_
    refine j_imul d_Ws_admitBySteps_83 ?_
    refine j_iadd d_Ws_admitBySteps_84 ?_
    refine j_istore (L' := [some (.ref a0), some (.ref a1), some (.ref a2), some (.ref a3), some (.int p4), some (.int p5), some (.int p6), some (.int p7), some (.int ((p5 + (p7 * (gI G 194 a2)))))]) d_Ws_admitBySteps_85 (by decide) rfl ?_
    refine j_iload d_Ws_admitBySteps_87 rfl ?_
    refine j_iload d_Ws_admitBySteps_89 rfl ?_
    obtain ⟨Ha, Hb⟩ := H
    refine j_icmp_gt (tgt := 130) d_Ws_admitBySteps_91 (by decide) (fun c7 => ?_) (fun c8 => ?_)
    · have H := Ha c7
      refine j_iinc (v := (p7 + (1 : Int32))) (L' := [some (.ref a0), some (.ref a1), some (.ref a2), some (.ref a3), some (.int p4), some (.int p5), some (.int p6), some (.int ((p7 + (1 : Int32)))), some (.int ((p5 + (p7 * (gI G 194 a2)))))]) d_Ws_admitBySteps_130 rfl (by rw [show Int32.ofInt (1) = (1 : Int32) by decide]) (by decide) rfl ?_
      refine j_goto (tgt := 68) d_Ws_admitBySteps_133 (by decide) ?_
      refine j_forget (L' := [some (.ref a0), some (.ref a1), some (.ref a2), some (.ref a3), some (.int p4), some (.int p5), some (.int p6), some (.int ((p7 + (1 : Int32)))), none]) ⟨Or.inr rfl, Or.inr rfl, Or.inr rfl, Or.inr rfl, Or.inr rfl, Or.inr rfl, Or.inr rfl, Or.inr rfl, Or.inl rfl, trivial⟩ ?_
      exact H
    · have H := Hb c8
      refine j_aload_n d_Ws_admitBySteps_94 rfl ?_
      refine j_iload d_Ws_admitBySteps_95 rfl ?_
      refine j_aload_n d_Ws_admitBySteps_97 rfl ?_
      refine j_getI (f := 193) fe_Ws_75 rfl rfl t2 d_Ws_admitBySteps_98 ?_
      refine j_iadd d_Ws_admitBySteps_101 ?_
      refine j_aload_n d_Ws_admitBySteps_102 rfl ?_
      obtain ⟨t3, H⟩ := H
      refine j_getI (f := 68) fe_Ws_77 rfl rfl t3 d_Ws_admitBySteps_103 ?_
      refine j_callV (d' := 1) (ci := 3) (As := [.int (((p5 + (p7 * (gI G 194 a2))) + (gI G 193 a2))), .int ((gI G 68 a1))]) (rest := []) (b := a2) cv_Ws_80 me_Jo_admits rfl (by decide) rfl rfl t2 rfl rfl (Nat.le_of_ble_eq_true rfl) d_Ws_admitBySteps_106 (by decide) rfl (j_enter (L := [some (.ref a2), some (.int (((p5 + (p7 * (gI G 194 a2))) + (gI G 193 a2)))), some (.int ((gI G 68 a1)))]) me_Jo_admits (cat_c rfl (cat_c rfl (cat_c rfl cat_n))) (Nat.le_of_ble_eq_true rfl) rfl ?_)
      refine j_iload_n d_Jo_admits_0 rfl ?_
      refine j_aload_n d_Jo_admits_1 rfl ?_
      refine j_getI (f := 195) fe_Jo_21 rfl rfl t2 d_Jo_admits_2 ?_
      refine j_iadd d_Jo_admits_5 ?_
      refine j_iload_n d_Jo_admits_6 rfl ?_
      obtain ⟨Ha, Hb⟩ := H
      refine j_icmp_le (tgt := 14) d_Jo_admits_7 (by decide) (fun c5 => ?_) (fun c6 => ?_)
      · have H := Ha c5
        refine j_iconst (v := 0) d_Jo_admits_14 (by decide) ?_
        refine j_zret rfl (by decide) d_Jo_admits_15 ?_
        show J E 10 m_Ws_admitBySteps 109 [some (.ref a0), some (.ref a1), some (.ref a2), some (.ref a3), some (.int p4), some (.int p5), some (.int p6), some (.int p7), some (.int ((p5 + (p7 * (gI G 194 a2)))))] [.int ((0 : Int32))] G Post
        refine j_if_eq (tgt := 130) d_Ws_admitBySteps_109 (by decide) (fun _ => ?_) (fun c => absurd c (by decide))
        refine j_iinc (v := (p7 + (1 : Int32))) (L' := [some (.ref a0), some (.ref a1), some (.ref a2), some (.ref a3), some (.int p4), some (.int p5), some (.int p6), some (.int ((p7 + (1 : Int32)))), some (.int ((p5 + (p7 * (gI G 194 a2)))))]) d_Ws_admitBySteps_130 rfl (by rw [show Int32.ofInt (1) = (1 : Int32) by decide]) (by decide) rfl ?_
        refine j_goto (tgt := 68) d_Ws_admitBySteps_133 (by decide) ?_
        refine j_forget (L' := [some (.ref a0), some (.ref a1), some (.ref a2), some (.ref a3), some (.int p4), some (.int p5), some (.int p6), some (.int ((p7 + (1 : Int32)))), none]) ⟨Or.inr rfl, Or.inr rfl, Or.inr rfl, Or.inr rfl, Or.inr rfl, Or.inr rfl, Or.inr rfl, Or.inr rfl, Or.inl rfl, trivial⟩ ?_
        exact H
      · have H := Hb c6
        refine j_iconst (v := 1) d_Jo_admits_10 (by decide) ?_
        refine j_goto (tgt := 15) d_Jo_admits_11 (by decide) ?_
        refine j_zret rfl (by decide) d_Jo_admits_15 ?_
        show J E 10 m_Ws_admitBySteps 109 [some (.ref a0), some (.ref a1), some (.ref a2), some (.ref a3), some (.int p4), some (.int p5), some (.int p6), some (.int p7), some (.int ((p5 + (p7 * (gI G 194 a2)))))] [.int ((1 : Int32))] G Post
        refine j_if_eq (tgt := 130) d_Ws_admitBySteps_109 (by decide) (fun c => absurd c (by decide)) (fun _ => ?_)
        refine j_aload_n d_Ws_admitBySteps_112 rfl ?_
        refine j_aload_n d_Ws_admitBySteps_113 rfl ?_
        refine j_iload d_Ws_admitBySteps_114 rfl ?_
        refine j_iload d_Ws_admitBySteps_116 rfl ?_
        refine j_aload_n d_Ws_admitBySteps_118 rfl ?_
        refine j_getI (f := 193) fe_Ws_75 rfl rfl t2 d_Ws_admitBySteps_119 ?_
        refine j_iadd d_Ws_admitBySteps_122 ?_
        refine j_aload_n d_Ws_admitBySteps_123 rfl ?_
        obtain ⟨t4, H⟩ := H
        refine j_forget (L' := [some (.ref a0), some (.ref a1), some (.ref a2), some (.ref a3), some (.int p4), some (.int p5), none, some (.int p7), none]) ⟨Or.inr rfl, Or.inr rfl, Or.inr rfl, Or.inr rfl, Or.inr rfl, Or.inr rfl, Or.inl rfl, Or.inr rfl, Or.inl rfl, trivial⟩ ?_
        exact j_callV (d' := 9) (ci := 8) (As := [.ref a1, .int ((p5 + (p7 * (gI G 194 a2)))), .int (((p5 + (p7 * (gI G 194 a2))) + (gI G 193 a2))), .ref a3]) (rest := []) (b := a0) cv_Ws_84 me_Ws_addToWindow rfl (by decide) rfl rfl t4 rfl rfl (Nat.le_of_ble_eq_true rfl) d_Ws_admitBySteps_124 (by decide) rfl H
theorem wp_Ws_admitBySteps_127 {E : EV} {G : GH} {Post : Res → GH → Prop} (a0 : Nat) (a1 : Nat) (a2 : Nat) (a3 : Nat) (p4 : Int32) (p5 : Int32) (p7 : Int32) (H : J E 10 m_Ws_admitBySteps 68 [some (.ref a0), some (.ref a1), some (.ref a2), some (.ref a3), some (.int p4), some (.int p5), some (.int ((1 : Int32))), some (.int ((p7 + (1 : Int32)))), none] [] G Post) : J E 10 m_Ws_admitBySteps 127 [some (.ref a0), some (.ref a1), some (.ref a2), some (.ref a3), some (.int p4), some (.int p5), none, some (.int p7), none] [] G Post := by
  refine j_iconst (v := 1) d_Ws_admitBySteps_127 (by decide) ?_
  refine j_istore (L' := [some (.ref a0), some (.ref a1), some (.ref a2), some (.ref a3), some (.int p4), some (.int p5), some (.int ((1 : Int32))), some (.int p7), none]) d_Ws_admitBySteps_128 (by decide) rfl ?_
  refine j_iinc (v := (p7 + (1 : Int32))) (L' := [some (.ref a0), some (.ref a1), some (.ref a2), some (.ref a3), some (.int p4), some (.int p5), some (.int ((1 : Int32))), some (.int ((p7 + (1 : Int32)))), none]) d_Ws_admitBySteps_130 rfl (by rw [show Int32.ofInt (1) = (1 : Int32) by decide]) (by decide) rfl ?_
  refine j_goto (tgt := 68) d_Ws_admitBySteps_133 (by decide) ?_
  exact H
theorem wp_Ws_addToWindow_0 {E : EV} {G : GH} {Post : Res → GH → Prop} (a0 : Nat) (a1 : Nat) (p2 : Int32) (p3 : Int32) (a4 : Nat) (H : gT G a1 = 2 ∧ gT G a0 = 9 ∧ Cl E 4 m_Ws_find [.ref a0, .int ((gI G 66 a1)), .int p2] G (aft E 9 m_Ws_addToWindow 6 [some (.ref a0), some (.ref a1), some (.int p2), some (.int p3), some (.ref a4), none, none] [] Post)) : J E 9 m_Ws_addToWindow 0 [some (.ref a0), some (.ref a1), some (.int p2), some (.int p3), some (.ref a4), none, none] [] G Post := by
  refine j_aload_n d_Ws_addToWindow_0 rfl ?_
  refine j_aload_n d_Ws_addToWindow_1 rfl ?_
  obtain ⟨t1, H⟩ := H
  refine j_getI (f := 66) fe_Ws_88 rfl rfl t1 d_Ws_addToWindow_2 ?_
  refine j_iload_n d_Ws_addToWindow_5 rfl ?_
  obtain ⟨t2, H⟩ := H
  exact j_callV (d' := 4) (ci := 8) (As := [.int ((gI G 66 a1)), .int p2]) (rest := []) (b := a0) cv_Ws_89 me_Ws_find rfl (by decide) rfl rfl t2 rfl rfl (Nat.le_of_ble_eq_true rfl) d_Ws_addToWindow_6 (by decide) rfl H
theorem wp_Ws_addToWindow_9 {E : EV} {G : GH} {Post : Res → GH → Prop} (a0 : Nat) (a1 : Nat) (p2 : Int32) (p3 : Int32) (a4 : Nat) (w0 : Option Nat) (H : (∀ r1, w0 = some r1 → gT G r1 = 8 ∧ ((gI G 453 r1) = 0 → gT G a1 = 2 ∧ ((gI G 453 r1) = 0 → Post (.inl none) (sI (sI G 451 r1 (((gI G 451 r1) + (1 : Int32)))) 452 r1 (((gI G 452 r1) + (gI G 67 a1))))) ∧ (¬ (gI G 453 r1) = 0 → gT G a0 = 9 ∧ Cl E 8 m_Ws_emitIfDue [.ref a0, .ref r1, .int ((gI G 68 a1)), .ref a4] (sI (sI G 451 r1 (((gI G 451 r1) + (1 : Int32)))) 452 r1 (((gI G 452 r1) + (gI G 67 a1)))) (aft E 9 m_Ws_addToWindow 82 [none, none, none, none, none, none, none] [] Post))) ∧ (¬ (gI G 453 r1) = 0 → gT G a4 = 6 ∧ Cl E 7 m_Si_write [.ref a4, .ref r1, .int ((0 : Int32))] G (aft E 9 m_Ws_addToWindow 56 [some (.ref a0), some (.ref a1), none, none, some (.ref a4), some (.ref r1), some (.int ((gI G 453 r1)))] [] Post))) ∧ (w0 = none → gT G a0 = 9 ∧ Cl E 4 m_Ws_unusedRow [.ref a0] G (aft E 9 m_Ws_addToWindow 17 [some (.ref a0), some (.ref a1), some (.int p2), some (.int p3), some (.ref a4), none, none] [] Post))) : J E 9 m_Ws_addToWindow 9 [some (.ref a0), some (.ref a1), some (.int p2), some (.int p3), some (.ref a4), none, none] [va_rf w0] G Post := by
  refine j_astore (x := w0) (L' := [some (.ref a0), some (.ref a1), some (.int p2), some (.int p3), some (.ref a4), some (va_rf w0), none]) rfl d_Ws_addToWindow_9 (by decide) rfl ?_
  refine j_aloadq (x := w0) d_Ws_addToWindow_11 rfl ?_
  obtain ⟨Ha, Hb⟩ := H
  refine j_ifnonnull (x := w0) (tgt := 39) rfl d_Ws_addToWindow_13 (by decide) (fun r1 c11 => ?_) (fun c11 => ?_)
  · have H := Ha r1 c11
    subst c11
    refine j_aload d_Ws_addToWindow_39 rfl ?_
    obtain ⟨t2, H⟩ := H
    refine j_getI (f := 453) fe_Ws_100 rfl rfl t2 d_Ws_addToWindow_41 ?_
    refine j_istore (L' := [some (.ref a0), some (.ref a1), some (.int p2), some (.int p3), some (.ref a4), some (.ref r1), some (.int ((gI G 453 r1)))]) d_Ws_addToWindow_44 (by decide) rfl ?_
    refine j_iload d_Ws_addToWindow_46 rfl ?_
    obtain ⟨Ha, Hb⟩ := H
    refine j_if_eq (tgt := 59) d_Ws_addToWindow_48 (by decide) (fun c8 => ?_) (fun c9 => ?_)
    · have H := Ha c8
      refine j_aload d_Ws_addToWindow_59 rfl ?_
      refine j_aload_n d_Ws_addToWindow_61 rfl ?_
      obtain ⟨t3, H⟩ := H
      refine j_getI (f := 67) fe_Ws_110 rfl rfl t3 d_Ws_addToWindow_62 ?_
      refine j_callV (d' := 1) (ci := 7) (As := [.int ((gI G 67 a1))]) (rest := []) (b := r1) cv_Ws_113 me_Wi_addValue rfl (by decide) rfl rfl t2 rfl rfl (Nat.le_of_ble_eq_true rfl) d_Ws_addToWindow_65 (by decide) rfl (j_enter (L := [some (.ref r1), some (.int ((gI G 67 a1)))]) me_Wi_addValue (cat_c rfl (cat_c rfl cat_n)) (Nat.le_of_ble_eq_true rfl) rfl ?_)
      refine j_aload_n d_Wi_addValue_0 rfl ?_
      refine j_dup d_Wi_addValue_1 rfl ?_
      refine j_getI (f := 451) fe_Wi_21 rfl rfl t2 d_Wi_addValue_2 ?_
      refine j_iconst (v := 1) d_Wi_addValue_5 (by decide) ?_
      refine j_iadd d_Wi_addValue_6 ?_
      refine j_putI (f := 451) fw_Wi_21 rfl rfl t2 d_Wi_addValue_7 ?_
      refine j_aload_n d_Wi_addValue_10 rfl ?_
      refine j_dup d_Wi_addValue_11 rfl ?_
      refine j_getI (f := 452) fe_Wi_24 rfl rfl t2 d_Wi_addValue_12 ?_
      refine j_iload_n d_Wi_addValue_15 rfl ?_
      refine j_iadd d_Wi_addValue_16 ?_
      refine j_putI (f := 452) fw_Wi_24 rfl rfl t2 d_Wi_addValue_17 ?_
      refine j_vret rfl d_Wi_addValue_20 ?_
      show J E 9 m_Ws_addToWindow 68 [some (.ref a0), some (.ref a1), some (.int p2), some (.int p3), some (.ref a4), some (.ref r1), some (.int ((gI G 453 r1)))] [] (sI (sI G 451 r1 (((gI G 451 r1) + (1 : Int32)))) 452 r1 (((gI G 452 r1) + (gI G 67 a1)))) Post
      refine j_iload d_Ws_addToWindow_68 rfl ?_
      obtain ⟨Ha, Hb⟩ := H
      refine j_if_eq (tgt := 85) d_Ws_addToWindow_70 (by decide) (fun c5 => ?_) (fun c6 => ?_)
      · have H := Ha c5
        exact j_vret rfl d_Ws_addToWindow_85 H
      · have H := Hb c6
        refine j_aload_n d_Ws_addToWindow_73 rfl ?_
        refine j_aload d_Ws_addToWindow_74 rfl ?_
        refine j_aload_n d_Ws_addToWindow_76 rfl ?_
        refine j_getI (f := 68) fe_Ws_77 rfl rfl t3 d_Ws_addToWindow_77 ?_
        refine j_aload d_Ws_addToWindow_80 rfl ?_
        obtain ⟨t4, H⟩ := H
        refine j_forget (L' := [none, none, none, none, none, none, none]) ⟨Or.inl rfl, Or.inl rfl, Or.inl rfl, Or.inl rfl, Or.inl rfl, Or.inl rfl, Or.inl rfl, trivial⟩ ?_
        exact j_callV (d' := 8) (ci := 8) (As := [.ref r1, .int ((gI G 68 a1)), .ref a4]) (rest := []) (b := a0) cv_Ws_117 me_Ws_emitIfDue rfl (by decide) rfl rfl t4 rfl rfl (Nat.le_of_ble_eq_true rfl) d_Ws_addToWindow_82 (by decide) rfl H
    · have H := Hb c9
      refine j_aload d_Ws_addToWindow_51 rfl ?_
      refine j_aload d_Ws_addToWindow_53 rfl ?_
      refine j_iconst (v := 0) d_Ws_addToWindow_55 (by decide) ?_
      obtain ⟨t7, H⟩ := H
      refine j_forget (L' := [some (.ref a0), some (.ref a1), none, none, some (.ref a4), some (.ref r1), some (.int ((gI G 453 r1)))]) ⟨Or.inr rfl, Or.inr rfl, Or.inl rfl, Or.inl rfl, Or.inr rfl, Or.inr rfl, Or.inr rfl, trivial⟩ ?_
      exact j_callV (d' := 7) (ci := 5) (As := [.ref r1, .int ((0 : Int32))]) (rest := []) (b := a4) cv_Ws_104 me_Si_write rfl (by decide) rfl rfl t7 rfl rfl (Nat.le_of_ble_eq_true rfl) d_Ws_addToWindow_56 (by decide) rfl H
  · have H := Hb c11
    subst c11
    refine j_aload_n d_Ws_addToWindow_16 rfl ?_
    obtain ⟨t10, H⟩ := H
    refine j_forget (L' := [some (.ref a0), some (.ref a1), some (.int p2), some (.int p3), some (.ref a4), none, none]) ⟨Or.inr rfl, Or.inr rfl, Or.inr rfl, Or.inr rfl, Or.inr rfl, Or.inl rfl, Or.inl rfl, trivial⟩ ?_
    exact j_callV (d' := 4) (ci := 8) (As := []) (rest := []) (b := a0) cv_Ws_36 me_Ws_unusedRow rfl (by decide) rfl rfl t10 rfl rfl (Nat.le_of_ble_eq_true rfl) d_Ws_addToWindow_17 (by decide) rfl H
theorem wp_Ws_addToWindow_85 {E : EV} {G : GH} {Post : Res → GH → Prop}  (H : Post (.inl none) G) : J E 9 m_Ws_addToWindow 85 [none, none, none, none, none, none, none] [] G Post := by
  exact j_vret rfl d_Ws_addToWindow_85 H
theorem wp_Ws_addToWindow_59 {E : EV} {G : GH} {Post : Res → GH → Prop} (a0 : Nat) (a1 : Nat) (a4 : Nat) (a5 : Nat) (p6 : Int32) (H : gT G a1 = 2 ∧ gT G a5 = 8 ∧ (p6 = 0 → Post (.inl none) (sI (sI G 451 a5 (((gI G 451 a5) + (1 : Int32)))) 452 a5 (((gI G 452 a5) + (gI G 67 a1))))) ∧ (¬ p6 = 0 → gT G a0 = 9 ∧ Cl E 8 m_Ws_emitIfDue [.ref a0, .ref a5, .int ((gI G 68 a1)), .ref a4] (sI (sI G 451 a5 (((gI G 451 a5) + (1 : Int32)))) 452 a5 (((gI G 452 a5) + (gI G 67 a1)))) (aft E 9 m_Ws_addToWindow 82 [none, none, none, none, none, none, none] [] Post))) : J E 9 m_Ws_addToWindow 59 [some (.ref a0), some (.ref a1), none, none, some (.ref a4), some (.ref a5), some (.int p6)] [] G Post := by
  refine j_aload d_Ws_addToWindow_59 rfl ?_
  refine j_aload_n d_Ws_addToWindow_61 rfl ?_
  obtain ⟨t1, H⟩ := H
  refine j_getI (f := 67) fe_Ws_110 rfl rfl t1 d_Ws_addToWindow_62 ?_
  obtain ⟨t2, H⟩ := H
  refine j_callV (d' := 1) (ci := 7) (As := [.int ((gI G 67 a1))]) (rest := []) (b := a5) cv_Ws_113 me_Wi_addValue rfl (by decide) rfl rfl t2 rfl rfl (Nat.le_of_ble_eq_true rfl) d_Ws_addToWindow_65 (by decide) rfl (j_enter (L := [some (.ref a5), some (.int ((gI G 67 a1)))]) me_Wi_addValue (cat_c rfl (cat_c rfl cat_n)) (Nat.le_of_ble_eq_true rfl) rfl ?_)
  refine j_aload_n d_Wi_addValue_0 rfl ?_
  refine j_dup d_Wi_addValue_1 rfl ?_
  refine j_getI (f := 451) fe_Wi_21 rfl rfl t2 d_Wi_addValue_2 ?_
  refine j_iconst (v := 1) d_Wi_addValue_5 (by decide) ?_
  refine j_iadd d_Wi_addValue_6 ?_
  refine j_putI (f := 451) fw_Wi_21 rfl rfl t2 d_Wi_addValue_7 ?_
  refine j_aload_n d_Wi_addValue_10 rfl ?_
  refine j_dup d_Wi_addValue_11 rfl ?_
  refine j_getI (f := 452) fe_Wi_24 rfl rfl t2 d_Wi_addValue_12 ?_
  refine j_iload_n d_Wi_addValue_15 rfl ?_
  refine j_iadd d_Wi_addValue_16 ?_
  refine j_putI (f := 452) fw_Wi_24 rfl rfl t2 d_Wi_addValue_17 ?_
  refine j_vret rfl d_Wi_addValue_20 ?_
  show J E 9 m_Ws_addToWindow 68 [some (.ref a0), some (.ref a1), none, none, some (.ref a4), some (.ref a5), some (.int p6)] [] (sI (sI G 451 a5 (((gI G 451 a5) + (1 : Int32)))) 452 a5 (((gI G 452 a5) + (gI G 67 a1)))) Post
  refine j_iload d_Ws_addToWindow_68 rfl ?_
  obtain ⟨Ha, Hb⟩ := H
  refine j_if_eq (tgt := 85) d_Ws_addToWindow_70 (by decide) (fun c4 => ?_) (fun c5 => ?_)
  · have H := Ha c4
    exact j_vret rfl d_Ws_addToWindow_85 H
  · have H := Hb c5
    refine j_aload_n d_Ws_addToWindow_73 rfl ?_
    refine j_aload d_Ws_addToWindow_74 rfl ?_
    refine j_aload_n d_Ws_addToWindow_76 rfl ?_
    refine j_getI (f := 68) fe_Ws_77 rfl rfl t1 d_Ws_addToWindow_77 ?_
    refine j_aload d_Ws_addToWindow_80 rfl ?_
    obtain ⟨t3, H⟩ := H
    refine j_forget (L' := [none, none, none, none, none, none, none]) ⟨Or.inl rfl, Or.inl rfl, Or.inl rfl, Or.inl rfl, Or.inl rfl, Or.inl rfl, Or.inl rfl, trivial⟩ ?_
    exact j_callV (d' := 8) (ci := 8) (As := [.ref a5, .int ((gI G 68 a1)), .ref a4]) (rest := []) (b := a0) cv_Ws_117 me_Ws_emitIfDue rfl (by decide) rfl rfl t3 rfl rfl (Nat.le_of_ble_eq_true rfl) d_Ws_addToWindow_82 (by decide) rfl H
theorem wp_Ws_addToWindow_20 {E : EV} {G : GH} {Post : Res → GH → Prop} (a0 : Nat) (a1 : Nat) (p2 : Int32) (p3 : Int32) (a4 : Nat) (u0 : Nat) (H : gT G a1 = 2 ∧ gT G u0 = 8 ∧ ∀ G3, G3 = sI (sI (sI (sI (sI G 448 u0 ((gI G 66 a1))) 449 u0 p2) 450 u0 p3) 451 u0 ((0 : Int32))) 452 u0 ((0 : Int32)) → gT G a0 = 9 ∧ Cl E 6 m_Ws_insert [.ref a0, .ref u0] (sI G3 453 u0 ((0 : Int32))) (aft E 9 m_Ws_addToWindow 36 [some (.ref a0), some (.ref a1), none, none, some (.ref a4), some (.ref u0), none] [] Post)) : J E 9 m_Ws_addToWindow 20 [some (.ref a0), some (.ref a1), some (.int p2), some (.int p3), some (.ref a4), none, none] [.ref u0] G Post := by
  refine j_astore (x := (some u0)) (L' := [some (.ref a0), some (.ref a1), some (.int p2), some (.int p3), some (.ref a4), some (.ref u0), none]) rfl d_Ws_addToWindow_20 (by decide) rfl ?_
  refine j_aload d_Ws_addToWindow_22 rfl ?_
  refine j_aload_n d_Ws_addToWindow_24 rfl ?_
  obtain ⟨t1, H⟩ := H
  refine j_getI (f := 66) fe_Ws_88 rfl rfl t1 d_Ws_addToWindow_25 ?_
  refine j_iload_n d_Ws_addToWindow_28 rfl ?_
  refine j_iload_n d_Ws_addToWindow_29 rfl ?_
  obtain ⟨t2, H⟩ := H
  refine j_callV (d' := 1) (ci := 7) (As := [.int ((gI G 66 a1)), .int p2, .int p3]) (rest := []) (b := u0) cv_Ws_93 me_Wi_begin rfl (by decide) rfl rfl t2 rfl rfl (Nat.le_of_ble_eq_true rfl) d_Ws_addToWindow_30 (by decide) rfl (j_enter (L := [some (.ref u0), some (.int ((gI G 66 a1))), some (.int p2), some (.int p3)]) me_Wi_begin (cat_c rfl (cat_c rfl (cat_c rfl (cat_c rfl cat_n)))) (Nat.le_of_ble_eq_true rfl) rfl ?_)
  refine j_aload_n d_Wi_begin_0 rfl ?_
  refine j_iload_n d_Wi_begin_1 rfl ?_
  refine j_putI (f := 448) fw_Wi_9 rfl rfl t2 d_Wi_begin_2 ?_
  refine j_aload_n d_Wi_begin_5 rfl ?_
  refine j_iload_n d_Wi_begin_6 rfl ?_
  refine j_putI (f := 449) fw_Wi_15 rfl rfl t2 d_Wi_begin_7 ?_
  refine j_aload_n d_Wi_begin_10 rfl ?_
  refine j_iload_n d_Wi_begin_11 rfl ?_
  refine j_putI (f := 450) fw_Wi_18 rfl rfl t2 d_Wi_begin_12 ?_
  refine j_aload_n d_Wi_begin_15 rfl ?_
  refine j_iconst (v := 0) d_Wi_begin_16 (by decide) ?_
  refine j_putI (f := 451) fw_Wi_21 rfl rfl t2 d_Wi_begin_17 ?_
  refine j_aload_n d_Wi_begin_20 rfl ?_
  refine j_iconst (v := 0) d_Wi_begin_21 (by decide) ?_
  refine j_putI (f := 452) fw_Wi_24 rfl rfl t2 d_Wi_begin_22 ?_
  show J E 1 m_Wi_begin 25 [some (.ref u0), some (.int ((gI G 66 a1))), some (.int p2), some (.int p3)] [] (sI (sI (sI (sI (sI G 448 u0 ((gI G 66 a1))) 449 u0 p2) 450 u0 p3) 451 u0 ((0 : Int32))) 452 u0 ((0 : Int32))) (aft E 9 m_Ws_addToWindow 30 [some (.ref a0), some (.ref a1), some (.int p2), some (.int p3), some (.ref a4), some (.ref u0), none] [] Post)
  generalize e4 : sI (sI (sI (sI (sI G 448 u0 ((gI G 66 a1))) 449 u0 p2) 450 u0 p3) 451 u0 ((0 : Int32))) 452 u0 ((0 : Int32)) = G3
  have e4 := e4.symm
  have H := H G3 e4
  refine j_aload_n d_Wi_begin_25 rfl ?_
  refine j_iconst (v := 0) d_Wi_begin_26 (by decide) ?_
  refine j_putZ (f := 453) fw_Wi_27 rfl rfl (by rw [e4]; exact t2) (by decide) d_Wi_begin_27 ?_
  refine j_vret rfl d_Wi_begin_30 ?_
  show J E 9 m_Ws_addToWindow 33 [some (.ref a0), some (.ref a1), some (.int p2), some (.int p3), some (.ref a4), some (.ref u0), none] [] (sI G3 453 u0 ((0 : Int32))) Post
  refine j_aload_n d_Ws_addToWindow_33 rfl ?_
  refine j_aload d_Ws_addToWindow_34 rfl ?_
  obtain ⟨t5, H⟩ := H
  refine j_forget (L' := [some (.ref a0), some (.ref a1), none, none, some (.ref a4), some (.ref u0), none]) ⟨Or.inr rfl, Or.inr rfl, Or.inl rfl, Or.inl rfl, Or.inr rfl, Or.inr rfl, Or.inl rfl, trivial⟩ ?_
  exact j_callV (d' := 6) (ci := 8) (As := [.ref u0]) (rest := []) (b := a0) cv_Ws_97 me_Ws_insert rfl (by decide) rfl rfl (by rw [e4]; exact t5) rfl rfl (Nat.le_of_ble_eq_true rfl) d_Ws_addToWindow_36 (by decide) rfl H
theorem wp_Ws_addToWindow_39 {E : EV} {G : GH} {Post : Res → GH → Prop} (a0 : Nat) (a1 : Nat) (a4 : Nat) (a5 : Nat) (H : gT G a5 = 8 ∧ ((gI G 453 a5) = 0 → gT G a1 = 2 ∧ ((gI G 453 a5) = 0 → Post (.inl none) (sI (sI G 451 a5 (((gI G 451 a5) + (1 : Int32)))) 452 a5 (((gI G 452 a5) + (gI G 67 a1))))) ∧ (¬ (gI G 453 a5) = 0 → gT G a0 = 9 ∧ Cl E 8 m_Ws_emitIfDue [.ref a0, .ref a5, .int ((gI G 68 a1)), .ref a4] (sI (sI G 451 a5 (((gI G 451 a5) + (1 : Int32)))) 452 a5 (((gI G 452 a5) + (gI G 67 a1)))) (aft E 9 m_Ws_addToWindow 82 [none, none, none, none, none, none, none] [] Post))) ∧ (¬ (gI G 453 a5) = 0 → gT G a4 = 6 ∧ Cl E 7 m_Si_write [.ref a4, .ref a5, .int ((0 : Int32))] G (aft E 9 m_Ws_addToWindow 56 [some (.ref a0), some (.ref a1), none, none, some (.ref a4), some (.ref a5), some (.int ((gI G 453 a5)))] [] Post))) : J E 9 m_Ws_addToWindow 39 [some (.ref a0), some (.ref a1), none, none, some (.ref a4), some (.ref a5), none] [] G Post := by
  refine j_aload d_Ws_addToWindow_39 rfl ?_
  obtain ⟨t1, H⟩ := H
  refine j_getI (f := 453) fe_Ws_100 rfl rfl t1 d_Ws_addToWindow_41 ?_
  refine j_istore (L' := [some (.ref a0), some (.ref a1), none, none, some (.ref a4), some (.ref a5), some (.int ((gI G 453 a5)))]) d_Ws_addToWindow_44 (by decide) rfl ?_
  refine j_iload d_Ws_addToWindow_46 rfl ?_
  obtain ⟨Ha, Hb⟩ := H
  refine j_if_eq (tgt := 59) d_Ws_addToWindow_48 (by decide) (fun c7 => ?_) (fun c8 => ?_)
  · have H := Ha c7
    refine j_aload d_Ws_addToWindow_59 rfl ?_
    refine j_aload_n d_Ws_addToWindow_61 rfl ?_
    obtain ⟨t2, H⟩ := H
    refine j_getI (f := 67) fe_Ws_110 rfl rfl t2 d_Ws_addToWindow_62 ?_
    refine j_callV (d' := 1) (ci := 7) (As := [.int ((gI G 67 a1))]) (rest := []) (b := a5) cv_Ws_113 me_Wi_addValue rfl (by decide) rfl rfl t1 rfl rfl (Nat.le_of_ble_eq_true rfl) d_Ws_addToWindow_65 (by decide) rfl (j_enter (L := [some (.ref a5), some (.int ((gI G 67 a1)))]) me_Wi_addValue (cat_c rfl (cat_c rfl cat_n)) (Nat.le_of_ble_eq_true rfl) rfl ?_)
    refine j_aload_n d_Wi_addValue_0 rfl ?_
    refine j_dup d_Wi_addValue_1 rfl ?_
    refine j_getI (f := 451) fe_Wi_21 rfl rfl t1 d_Wi_addValue_2 ?_
    refine j_iconst (v := 1) d_Wi_addValue_5 (by decide) ?_
    refine j_iadd d_Wi_addValue_6 ?_
    refine j_putI (f := 451) fw_Wi_21 rfl rfl t1 d_Wi_addValue_7 ?_
    refine j_aload_n d_Wi_addValue_10 rfl ?_
    refine j_dup d_Wi_addValue_11 rfl ?_
    refine j_getI (f := 452) fe_Wi_24 rfl rfl t1 d_Wi_addValue_12 ?_
    refine j_iload_n d_Wi_addValue_15 rfl ?_
    refine j_iadd d_Wi_addValue_16 ?_
    refine j_putI (f := 452) fw_Wi_24 rfl rfl t1 d_Wi_addValue_17 ?_
    refine j_vret rfl d_Wi_addValue_20 ?_
    show J E 9 m_Ws_addToWindow 68 [some (.ref a0), some (.ref a1), none, none, some (.ref a4), some (.ref a5), some (.int ((gI G 453 a5)))] [] (sI (sI G 451 a5 (((gI G 451 a5) + (1 : Int32)))) 452 a5 (((gI G 452 a5) + (gI G 67 a1)))) Post
    refine j_iload d_Ws_addToWindow_68 rfl ?_
    obtain ⟨Ha, Hb⟩ := H
    refine j_if_eq (tgt := 85) d_Ws_addToWindow_70 (by decide) (fun c4 => ?_) (fun c5 => ?_)
    · have H := Ha c4
      exact j_vret rfl d_Ws_addToWindow_85 H
    · have H := Hb c5
      refine j_aload_n d_Ws_addToWindow_73 rfl ?_
      refine j_aload d_Ws_addToWindow_74 rfl ?_
      refine j_aload_n d_Ws_addToWindow_76 rfl ?_
      refine j_getI (f := 68) fe_Ws_77 rfl rfl t2 d_Ws_addToWindow_77 ?_
      refine j_aload d_Ws_addToWindow_80 rfl ?_
      obtain ⟨t3, H⟩ := H
      refine j_forget (L' := [none, none, none, none, none, none, none]) ⟨Or.inl rfl, Or.inl rfl, Or.inl rfl, Or.inl rfl, Or.inl rfl, Or.inl rfl, Or.inl rfl, trivial⟩ ?_
      exact j_callV (d' := 8) (ci := 8) (As := [.ref a5, .int ((gI G 68 a1)), .ref a4]) (rest := []) (b := a0) cv_Ws_117 me_Ws_emitIfDue rfl (by decide) rfl rfl t3 rfl rfl (Nat.le_of_ble_eq_true rfl) d_Ws_addToWindow_82 (by decide) rfl H
  · have H := Hb c8
    refine j_aload d_Ws_addToWindow_51 rfl ?_
    refine j_aload d_Ws_addToWindow_53 rfl ?_
    refine j_iconst (v := 0) d_Ws_addToWindow_55 (by decide) ?_
    obtain ⟨t6, H⟩ := H
    exact j_callV (d' := 7) (ci := 5) (As := [.ref a5, .int ((0 : Int32))]) (rest := []) (b := a4) cv_Ws_104 me_Si_write rfl (by decide) rfl rfl t6 rfl rfl (Nat.le_of_ble_eq_true rfl) d_Ws_addToWindow_56 (by decide) rfl H
theorem wp_Ws_admitByGap_0 {E : EV} {G : GH} {Post : Res → GH → Prop} (a0 : Nat) (a1 : Nat) (a2 : Nat) (a3 : Nat) (H : gT G a1 = 2 ∧ gT G a2 = 4 ∧ ((((gI G 65 a1) + (gI G 193 a2)) + (gI G 195 a2)) ≤ (gI G 68 a1) → Post (.inl (some (.int ((0 : Int32))))) G) ∧ (¬ (((gI G 65 a1) + (gI G 193 a2)) + (gI G 195 a2)) ≤ (gI G 68 a1) → gT G a0 = 9 ∧ Cl E 4 m_Ws_unusedRow [.ref a0] G (aft E 9 m_Ws_admitByGap 27 [some (.ref a0), some (.ref a1), none, some (.ref a3), some (.int (((gI G 65 a1) + (gI G 193 a2)))), none, none] [] Post))) : J E 9 m_Ws_admitByGap 0 [some (.ref a0), some (.ref a1), some (.ref a2), some (.ref a3), none, none, none] [] G Post := by
  refine j_aload_n d_Ws_admitByGap_0 rfl ?_
  obtain ⟨t1, H⟩ := H
  refine j_getI (f := 65) fe_Ws_61 rfl rfl t1 d_Ws_admitByGap_1 ?_
  refine j_aload_n d_Ws_admitByGap_4 rfl ?_
  obtain ⟨t2, H⟩ := H
  refine j_getI (f := 193) fe_Ws_75 rfl rfl t2 d_Ws_admitByGap_5 ?_
  refine j_iadd d_Ws_admitByGap_8 ?_
  refine j_istore (L' := [some (.ref a0), some (.ref a1), some (.ref a2), some (.ref a3), some (.int (((gI G 65 a1) + (gI G 193 a2)))), none, none]) d_Ws_admitByGap_9 (by decide) rfl ?_
  refine j_aload_n d_Ws_admitByGap_11 rfl ?_
  refine j_iload d_Ws_admitByGap_12 rfl ?_
  refine j_aload_n d_Ws_admitByGap_14 rfl ?_
  refine j_getI (f := 68) fe_Ws_77 rfl rfl t1 d_Ws_admitByGap_15 ?_
  refine j_callV (d' := 1) (ci := 3) (As := [.int (((gI G 65 a1) + (gI G 193 a2))), .int ((gI G 68 a1))]) (rest := []) (b := a2) cv_Ws_80 me_Jo_admits rfl (by decide) rfl rfl t2 rfl rfl (Nat.le_of_ble_eq_true rfl) d_Ws_admitByGap_18 (by decide) rfl (j_enter (L := [some (.ref a2), some (.int (((gI G 65 a1) + (gI G 193 a2)))), some (.int ((gI G 68 a1)))]) me_Jo_admits (cat_c rfl (cat_c rfl (cat_c rfl cat_n))) (Nat.le_of_ble_eq_true rfl) rfl ?_)
  refine j_iload_n d_Jo_admits_0 rfl ?_
  refine j_aload_n d_Jo_admits_1 rfl ?_
  refine j_getI (f := 195) fe_Jo_21 rfl rfl t2 d_Jo_admits_2 ?_
  refine j_iadd d_Jo_admits_5 ?_
  refine j_iload_n d_Jo_admits_6 rfl ?_
  obtain ⟨Ha, Hb⟩ := H
  refine j_icmp_le (tgt := 14) d_Jo_admits_7 (by decide) (fun c4 => ?_) (fun c5 => ?_)
  · have H := Ha c4
    refine j_iconst (v := 0) d_Jo_admits_14 (by decide) ?_
    refine j_zret rfl (by decide) d_Jo_admits_15 ?_
    show J E 9 m_Ws_admitByGap 21 [some (.ref a0), some (.ref a1), some (.ref a2), some (.ref a3), some (.int (((gI G 65 a1) + (gI G 193 a2)))), none, none] [.int ((0 : Int32))] G Post
    refine j_if_ne (tgt := 26) d_Ws_admitByGap_21 (by decide) (fun c => absurd c (by decide)) (fun _ => ?_)
    refine j_iconst (v := 0) d_Ws_admitByGap_24 (by decide) ?_
    exact j_zret rfl (by decide) d_Ws_admitByGap_25 H
  · have H := Hb c5
    refine j_iconst (v := 1) d_Jo_admits_10 (by decide) ?_
    refine j_goto (tgt := 15) d_Jo_admits_11 (by decide) ?_
    refine j_zret rfl (by decide) d_Jo_admits_15 ?_
    show J E 9 m_Ws_admitByGap 21 [some (.ref a0), some (.ref a1), some (.ref a2), some (.ref a3), some (.int (((gI G 65 a1) + (gI G 193 a2)))), none, none] [.int ((1 : Int32))] G Post
    refine j_if_ne (tgt := 26) d_Ws_admitByGap_21 (by decide) (fun _ => ?_) (fun c => absurd c (by decide))
    refine j_aload_n d_Ws_admitByGap_26 rfl ?_
    obtain ⟨t3, H⟩ := H
    refine j_forget (L' := [some (.ref a0), some (.ref a1), none, some (.ref a3), some (.int (((gI G 65 a1) + (gI G 193 a2)))), none, none]) ⟨Or.inr rfl, Or.inr rfl, Or.inl rfl, Or.inr rfl, Or.inr rfl, Or.inl rfl, Or.inl rfl, trivial⟩ ?_
    exact j_callV (d' := 4) (ci := 8) (As := []) (rest := []) (b := a0) cv_Ws_36 me_Ws_unusedRow rfl (by decide) rfl rfl t3 rfl rfl (Nat.le_of_ble_eq_true rfl) d_Ws_admitByGap_27 (by decide) rfl H
theorem wp_Ws_admitByGap_30 {E : EV} {G : GH} {Post : Res → GH → Prop} (a0 : Nat) (a1 : Nat) (a3 : Nat) (p4 : Int32) (u0 : Nat) (H : gT G a1 = 2 ∧ gT G u0 = 8 ∧ ∀ G3, G3 = sI (sI (sI (sI (sI G 448 u0 ((gI G 66 a1))) 449 u0 ((gI G 65 a1))) 450 u0 p4) 451 u0 ((0 : Int32))) 452 u0 ((0 : Int32)) → ∀ G5, G5 = sI (sI (sI G3 453 u0 ((0 : Int32))) 451 u0 ((((0 : Int32)) + (1 : Int32)))) 452 u0 ((((0 : Int32)) + (gI G 67 a1))) → gT G a0 = 9 ∧ Cl E 8 m_Ws_absorbMet [.ref a0, .ref u0, .ref a3] G5 (aft E 9 m_Ws_admitByGap 60 [some (.ref a0), some (.ref a1), none, some (.ref a3), none, some (.ref u0), none] [] Post)) : J E 9 m_Ws_admitByGap 30 [some (.ref a0), some (.ref a1), none, some (.ref a3), some (.int p4), none, none] [.ref u0] G Post := by
  refine j_astore (x := (some u0)) (L' := [some (.ref a0), some (.ref a1), none, some (.ref a3), some (.int p4), some (.ref u0), none]) rfl d_Ws_admitByGap_30 (by decide) rfl ?_
  refine j_aload d_Ws_admitByGap_32 rfl ?_
  refine j_aload_n d_Ws_admitByGap_34 rfl ?_
  obtain ⟨t1, H⟩ := H
  refine j_getI (f := 66) fe_Ws_88 rfl rfl t1 d_Ws_admitByGap_35 ?_
  refine j_aload_n d_Ws_admitByGap_38 rfl ?_
  refine j_getI (f := 65) fe_Ws_61 rfl rfl t1 d_Ws_admitByGap_39 ?_
  refine j_iload d_Ws_admitByGap_42 rfl ?_
  obtain ⟨t2, H⟩ := H
  refine j_callV (d' := 1) (ci := 7) (As := [.int ((gI G 66 a1)), .int ((gI G 65 a1)), .int p4]) (rest := []) (b := u0) cv_Ws_93 me_Wi_begin rfl (by decide) rfl rfl t2 rfl rfl (Nat.le_of_ble_eq_true rfl) d_Ws_admitByGap_44 (by decide) rfl (j_enter (L := [some (.ref u0), some (.int ((gI G 66 a1))), some (.int ((gI G 65 a1))), some (.int p4)]) me_Wi_begin (cat_c rfl (cat_c rfl (cat_c rfl (cat_c rfl cat_n)))) (Nat.le_of_ble_eq_true rfl) rfl ?_)
  refine j_aload_n d_Wi_begin_0 rfl ?_
  refine j_iload_n d_Wi_begin_1 rfl ?_
  refine j_putI (f := 448) fw_Wi_9 rfl rfl t2 d_Wi_begin_2 ?_
  refine j_aload_n d_Wi_begin_5 rfl ?_
  refine j_iload_n d_Wi_begin_6 rfl ?_
  refine j_putI (f := 449) fw_Wi_15 rfl rfl t2 d_Wi_begin_7 ?_
  refine j_aload_n d_Wi_begin_10 rfl ?_
  refine j_iload_n d_Wi_begin_11 rfl ?_
  refine j_putI (f := 450) fw_Wi_18 rfl rfl t2 d_Wi_begin_12 ?_
  refine j_aload_n d_Wi_begin_15 rfl ?_
  refine j_iconst (v := 0) d_Wi_begin_16 (by decide) ?_
  refine j_putI (f := 451) fw_Wi_21 rfl rfl t2 d_Wi_begin_17 ?_
  refine j_aload_n d_Wi_begin_20 rfl ?_
  refine j_iconst (v := 0) d_Wi_begin_21 (by decide) ?_
  refine j_putI (f := 452) fw_Wi_24 rfl rfl t2 d_Wi_begin_22 ?_
  show J E 1 m_Wi_begin 25 [some (.ref u0), some (.int ((gI G 66 a1))), some (.int ((gI G 65 a1))), some (.int p4)] [] (sI (sI (sI (sI (sI G 448 u0 ((gI G 66 a1))) 449 u0 ((gI G 65 a1))) 450 u0 p4) 451 u0 ((0 : Int32))) 452 u0 ((0 : Int32))) (aft E 9 m_Ws_admitByGap 44 [some (.ref a0), some (.ref a1), none, some (.ref a3), some (.int p4), some (.ref u0), none] [] Post)
  generalize e4 : sI (sI (sI (sI (sI G 448 u0 ((gI G 66 a1))) 449 u0 ((gI G 65 a1))) 450 u0 p4) 451 u0 ((0 : Int32))) 452 u0 ((0 : Int32)) = G3
  have e4 := e4.symm
  have H := H G3 e4
  refine j_aload_n d_Wi_begin_25 rfl ?_
  refine j_iconst (v := 0) d_Wi_begin_26 (by decide) ?_
  refine j_putZ (f := 453) fw_Wi_27 rfl rfl (by rw [e4]; exact t2) (by decide) d_Wi_begin_27 ?_
  refine j_vret rfl d_Wi_begin_30 ?_
  show J E 9 m_Ws_admitByGap 47 [some (.ref a0), some (.ref a1), none, some (.ref a3), some (.int p4), some (.ref u0), none] [] (sI G3 453 u0 ((0 : Int32))) Post
  refine j_aload d_Ws_admitByGap_47 rfl ?_
  refine j_aload_n d_Ws_admitByGap_49 rfl ?_
  refine j_getIv (f := 67) (v := (gI G 67 a1)) fe_Ws_110 rfl rfl (by rw [e4]; exact t1) (by rw [e4]; rfl) d_Ws_admitByGap_50 ?_
  refine j_callV (d' := 1) (ci := 7) (As := [.int ((gI G 67 a1))]) (rest := []) (b := u0) cv_Ws_113 me_Wi_addValue rfl (by decide) rfl rfl (by rw [e4]; exact t2) rfl rfl (Nat.le_of_ble_eq_true rfl) d_Ws_admitByGap_53 (by decide) rfl (j_enter (L := [some (.ref u0), some (.int ((gI G 67 a1)))]) me_Wi_addValue (cat_c rfl (cat_c rfl cat_n)) (Nat.le_of_ble_eq_true rfl) rfl ?_)
  refine j_aload_n d_Wi_addValue_0 rfl ?_
  refine j_dup d_Wi_addValue_1 rfl ?_
  refine j_getIv (f := 451) (v := ((0 : Int32))) fe_Wi_21 rfl rfl (by rw [e4]; exact t2) (by rw [e4]; exact (show gI (sI (sI (sI (sI G 448 u0 ((gI G 66 a1))) 449 u0 ((gI G 65 a1))) 450 u0 p4) 451 u0 ((0 : Int32))) 451 u0 = _ from gI_sI_eq)) d_Wi_addValue_2 ?_
  refine j_iconst (v := 1) d_Wi_addValue_5 (by decide) ?_
  refine j_iadd d_Wi_addValue_6 ?_
  refine j_putI (f := 451) fw_Wi_21 rfl rfl (by rw [e4]; exact t2) d_Wi_addValue_7 ?_
  refine j_aload_n d_Wi_addValue_10 rfl ?_
  refine j_dup d_Wi_addValue_11 rfl ?_
  refine j_getIv (f := 452) (v := ((0 : Int32))) fe_Wi_24 rfl rfl (by rw [e4]; exact t2) (by rw [e4]; exact (show gI (sI (sI (sI (sI (sI G 448 u0 ((gI G 66 a1))) 449 u0 ((gI G 65 a1))) 450 u0 p4) 451 u0 ((0 : Int32))) 452 u0 ((0 : Int32))) 452 u0 = _ from gI_sI_eq)) d_Wi_addValue_12 ?_
  refine j_iload_n d_Wi_addValue_15 rfl ?_
  refine j_iadd d_Wi_addValue_16 ?_
  refine j_putI (f := 452) fw_Wi_24 rfl rfl (by rw [e4]; exact t2) d_Wi_addValue_17 ?_
  show J E 1 m_Wi_addValue 20 [some (.ref u0), some (.int ((gI G 67 a1)))] [] (sI (sI (sI G3 453 u0 ((0 : Int32))) 451 u0 ((((0 : Int32)) + (1 : Int32)))) 452 u0 ((((0 : Int32)) + (gI G 67 a1)))) (aft E 9 m_Ws_admitByGap 53 [some (.ref a0), some (.ref a1), none, some (.ref a3), some (.int p4), some (.ref u0), none] [] Post)
  generalize e6 : sI (sI (sI G3 453 u0 ((0 : Int32))) 451 u0 ((((0 : Int32)) + (1 : Int32)))) 452 u0 ((((0 : Int32)) + (gI G 67 a1))) = G5
  have e6 := e6.symm
  have H := H G5 e6
  refine j_vret rfl d_Wi_addValue_20 ?_
  show J E 9 m_Ws_admitByGap 56 [some (.ref a0), some (.ref a1), none, some (.ref a3), some (.int p4), some (.ref u0), none] [] G5 Post
  refine j_aload_n d_Ws_admitByGap_56 rfl ?_
  refine j_aload d_Ws_admitByGap_57 rfl ?_
  refine j_aload_n d_Ws_admitByGap_59 rfl ?_
  obtain ⟨t7, H⟩ := H
  refine j_forget (L' := [some (.ref a0), some (.ref a1), none, some (.ref a3), none, some (.ref u0), none]) ⟨Or.inr rfl, Or.inr rfl, Or.inl rfl, Or.inr rfl, Or.inl rfl, Or.inr rfl, Or.inl rfl, trivial⟩ ?_
  exact j_callV (d' := 8) (ci := 8) (As := [.ref u0, .ref a3]) (rest := []) (b := a0) cv_Ws_121 me_Ws_absorbMet rfl (by decide) rfl rfl (by rw [e6, e4]; exact t7) rfl rfl (Nat.le_of_ble_eq_true rfl) d_Ws_admitByGap_60 (by decide) rfl H
theorem wp_Ws_admitByGap_63 {E : EV} {G : GH} {Post : Res → GH → Prop} (a0 : Nat) (a1 : Nat) (a3 : Nat) (a5 : Nat) (s0 : Int32) (H : gT G a0 = 9 ∧ Cl E 6 m_Ws_insert [.ref a0, .ref a5] G (aft E 9 m_Ws_admitByGap 68 [some (.ref a0), some (.ref a1), none, some (.ref a3), none, some (.ref a5), some (.int s0)] [] Post)) : J E 9 m_Ws_admitByGap 63 [some (.ref a0), some (.ref a1), none, some (.ref a3), none, some (.ref a5), none] [.int s0] G Post := by
  refine j_istore (L' := [some (.ref a0), some (.ref a1), none, some (.ref a3), none, some (.ref a5), some (.int s0)]) d_Ws_admitByGap_63 (by decide) rfl ?_
  refine j_aload_n d_Ws_admitByGap_65 rfl ?_
  refine j_aload d_Ws_admitByGap_66 rfl ?_
  obtain ⟨t1, H⟩ := H
  exact j_callV (d' := 6) (ci := 8) (As := [.ref a5]) (rest := []) (b := a0) cv_Ws_97 me_Ws_insert rfl (by decide) rfl rfl t1 rfl rfl (Nat.le_of_ble_eq_true rfl) d_Ws_admitByGap_68 (by decide) rfl H
theorem wp_Ws_admitByGap_71 {E : EV} {G : GH} {Post : Res → GH → Prop} (a0 : Nat) (a1 : Nat) (a3 : Nat) (a5 : Nat) (p6 : Int32) (H : (p6 = 0 → Post (.inl (some (.int ((1 : Int32))))) G) ∧ (¬ p6 = 0 → gT G a1 = 2 ∧ gT G a0 = 9 ∧ Cl E 8 m_Ws_emitIfDue [.ref a0, .ref a5, .int ((gI G 68 a1)), .ref a3] G (aft E 9 m_Ws_admitByGap 84 [none, none, none, none, none, none, none] [] Post))) : J E 9 m_Ws_admitByGap 71 [some (.ref a0), some (.ref a1), none, some (.ref a3), none, some (.ref a5), some (.int p6)] [] G Post := by
  refine j_iload d_Ws_admitByGap_71 rfl ?_
  obtain ⟨Ha, Hb⟩ := H
  refine j_if_eq (tgt := 87) d_Ws_admitByGap_73 (by decide) (fun c3 => ?_) (fun c4 => ?_)
  · have H := Ha c3
    refine j_iconst (v := 1) d_Ws_admitByGap_87 (by decide) ?_
    exact j_zret rfl (by decide) d_Ws_admitByGap_88 H
  · have H := Hb c4
    refine j_aload_n d_Ws_admitByGap_76 rfl ?_
    refine j_aload d_Ws_admitByGap_77 rfl ?_
    refine j_aload_n d_Ws_admitByGap_79 rfl ?_
    obtain ⟨t1, H⟩ := H
    refine j_getI (f := 68) fe_Ws_77 rfl rfl t1 d_Ws_admitByGap_80 ?_
    refine j_aload_n d_Ws_admitByGap_83 rfl ?_
    obtain ⟨t2, H⟩ := H
    refine j_forget (L' := [none, none, none, none, none, none, none]) ⟨Or.inl rfl, Or.inl rfl, Or.inl rfl, Or.inl rfl, Or.inl rfl, Or.inl rfl, Or.inl rfl, trivial⟩ ?_
    exact j_callV (d' := 8) (ci := 8) (As := [.ref a5, .int ((gI G 68 a1)), .ref a3]) (rest := []) (b := a0) cv_Ws_117 me_Ws_emitIfDue rfl (by decide) rfl rfl t2 rfl rfl (Nat.le_of_ble_eq_true rfl) d_Ws_admitByGap_84 (by decide) rfl H
theorem wp_Ws_admitByGap_87 {E : EV} {G : GH} {Post : Res → GH → Prop}  (H : Post (.inl (some (.int ((1 : Int32))))) G) : J E 9 m_Ws_admitByGap 87 [none, none, none, none, none, none, none] [] G Post := by
  refine j_iconst (v := 1) d_Ws_admitByGap_87 (by decide) ?_
  exact j_zret rfl (by decide) d_Ws_admitByGap_88 H
theorem wp_Ws_absorbMet_0 {E : EV} {G : GH} {Post : Res → GH → Prop} (a0 : Nat) (a1 : Nat) (a2 : Nat) (H : gT G a0 = 9 ∧ ∃ b2, gR G 512 a0 = some b2 ∧ gT G b2 = 12 ∧ J E 8 m_Ws_absorbMet 14 [some (.ref a0), some (.ref a1), some (.ref a2), some (.int ((0 : Int32))), some (.int ((0 : Int32))), some (.int ((gI G 706 b2))), none] [] G Post) : J E 8 m_Ws_absorbMet 0 [some (.ref a0), some (.ref a1), some (.ref a2), none, none, none, none] [] G Post := by
  refine j_iconst (v := 0) d_Ws_absorbMet_0 (by decide) ?_
  refine j_istore_n (L' := [some (.ref a0), some (.ref a1), some (.ref a2), some (.int ((0 : Int32))), none, none, none]) d_Ws_absorbMet_1 (by decide) rfl ?_
  refine j_iconst (v := 0) d_Ws_absorbMet_2 (by decide) ?_
  refine j_istore (L' := [some (.ref a0), some (.ref a1), some (.ref a2), some (.int ((0 : Int32))), some (.int ((0 : Int32))), none, none]) d_Ws_absorbMet_3 (by decide) rfl ?_
  refine j_aload_n d_Ws_absorbMet_5 rfl ?_
  obtain ⟨t1, H⟩ := H
  obtain ⟨b2, e3, H⟩ := H
  refine j_getR (f := 512) (b := b2) fe_Ws_12 rfl rfl t1 e3 d_Ws_absorbMet_6 ?_
  obtain ⟨t4, H⟩ := H
  refine j_callV (d' := 1) (ci := 11) (As := []) (rest := []) (b := b2) cv_Ws_21 me_AL_size rfl (by decide) rfl rfl t4 rfl rfl (Nat.le_of_ble_eq_true rfl) d_Ws_absorbMet_9 (by decide) rfl (j_enter (L := [some (.ref b2)]) me_AL_size (cat_c rfl cat_n) (Nat.le_of_ble_eq_true rfl) rfl ?_)
  refine j_aload_n d_AL_size_0 rfl ?_
  refine j_getI (f := 706) fe_AL_48 rfl rfl t4 d_AL_size_1 ?_
  refine j_iret rfl d_AL_size_4 ?_
  show J E 8 m_Ws_absorbMet 12 [some (.ref a0), some (.ref a1), some (.ref a2), some (.int ((0 : Int32))), some (.int ((0 : Int32))), none, none] [.int ((gI G 706 b2))] G Post
  refine j_istore (L' := [some (.ref a0), some (.ref a1), some (.ref a2), some (.int ((0 : Int32))), some (.int ((0 : Int32))), some (.int ((gI G 706 b2))), none]) d_Ws_absorbMet_12 (by decide) rfl ?_
  exact H
theorem wp_Ws_absorbMet_14 {E : EV} {G : GH} {Post : Res → GH → Prop} (a0 : Nat) (a1 : Nat) (a2 : Nat) (p3 : Int32) (p4 : Int32) (p5 : Int32) (H : (p5 ≤ 0 → (p3 = 0 ∨ p3 = 1) ∧ Post (.inl (some (.int p3))) G) ∧ (¬ p5 ≤ 0 → gT G a0 = 9 ∧ ∃ b3, gR G 512 a0 = some b3 ∧ gT G b3 = 12 ∧ ((gI G 706 b3) ≤ p4 → (p3 = 0 ∨ p3 = 1) ∧ Post (.inl (some (.int p3))) G) ∧ (¬ (gI G 706 b3) ≤ p4 → ∃ b7, LG G b3 p4 b7 ∧ gT G b7 = 8 ∧ gT G a1 = 8 ∧ (¬ (gI G 448 a1) = (gI G 448 b7) → J E 8 m_Ws_absorbMet 14 [some (.ref a0), some (.ref a1), some (.ref a2), some (.int p3), some (.int ((p4 + (1 : Int32)))), some (.int ((p5 + (-1 : Int32)))), none] [] G Post) ∧ ((gI G 448 a1) = (gI G 448 b7) → ((gI G 450 b7) ≤ (gI G 449 a1) → J E 8 m_Ws_absorbMet 14 [some (.ref a0), some (.ref a1), some (.ref a2), some (.int p3), some (.int ((p4 + (1 : Int32)))), some (.int ((p5 + (-1 : Int32)))), none] [] G Post) ∧ (¬ (gI G 450 b7) ≤ (gI G 449 a1) → ((gI G 450 a1) ≤ (gI G 449 b7) → J E 8 m_Ws_absorbMet 14 [some (.ref a0), some (.ref a1), some (.ref a2), some (.int p3), some (.int ((p4 + (1 : Int32)))), some (.int ((p5 + (-1 : Int32)))), none] [] G Post) ∧ (¬ (gI G 450 a1) ≤ (gI G 449 b7) → ((gI G 453 b7) = 0 → ∀ G11, G11 = sI (sI G 449 a1 ((if (gI G 449 b7) < (gI G 449 a1) then (gI G 449 b7) else (gI G 449 a1)))) 450 a1 ((if (gI G 450 a1) < (gI G 450 b7) then (gI G 450 b7) else (gI G 450 a1))) → ∃ b13, gR G 513 a0 = some b13 ∧ Cl E 3 m_AL_remove [.ref b3, .int p4] (sI (sI G11 451 a1 (((gI G 451 a1) + (gI G 451 b7)))) 452 a1 (((gI G 452 a1) + (gI G 452 b7)))) (aft E 8 m_Ws_absorbMet 93 [some (.ref a0), some (.ref a1), some (.ref a2), some (.int p3), some (.int p4), some (.int p5), none] [.ref b13] Post)) ∧ (¬ (gI G 453 b7) = 0 → gT G a2 = 6 ∧ Cl E 7 m_Si_write [.ref a2, .ref b7, .int ((0 : Int32))] G (aft E 8 m_Ws_absorbMet 72 [some (.ref a0), some (.ref a1), some (.ref a2), none, some (.int p4), some (.int p5), some (.ref b7)] [] Post)))))))) : J E 8 m_Ws_absorbMet 14 [some (.ref a0), some (.ref a1), some (.ref a2), some (.int p3), some (.int p4), some (.int p5), none] [] G Post := by
  refine j_iload d_Ws_absorbMet_14 rfl ?_
  obtain ⟨Ha, Hb⟩ := H
  refine j_if_le (tgt := 109) d_Ws_absorbMet_16 (by decide) (fun c26 => ?_) (fun c27 => ?_)
  · have H := Ha c26
    refine j_iload_n d_Ws_absorbMet_109 rfl ?_
    obtain ⟨z1, H⟩ := H
    exact j_zret rfl z1 d_Ws_absorbMet_110 H
  · have H := Hb c27
    refine j_iload d_Ws_absorbMet_19 rfl ?_
    refine j_aload_n d_Ws_absorbMet_21 rfl ?_
    obtain ⟨t2, H⟩ := H
    obtain ⟨b3, e4, H⟩ := H
    refine j_getR (f := 512) (b := b3) fe_Ws_12 rfl rfl t2 e4 d_Ws_absorbMet_22 ?_
    obtain ⟨t5, H⟩ := H
    refine j_callV (d' := 1) (ci := 11) (As := []) (rest := [.int p4]) (b := b3) cv_Ws_21 me_AL_size rfl (by decide) rfl rfl t5 rfl rfl (Nat.le_of_ble_eq_true rfl) d_Ws_absorbMet_25 (by decide) rfl (j_enter (L := [some (.ref b3)]) me_AL_size (cat_c rfl cat_n) (Nat.le_of_ble_eq_true rfl) rfl ?_)
    refine j_aload_n d_AL_size_0 rfl ?_
    refine j_getI (f := 706) fe_AL_48 rfl rfl t5 d_AL_size_1 ?_
    refine j_iret rfl d_AL_size_4 ?_
    show J E 8 m_Ws_absorbMet 28 [some (.ref a0), some (.ref a1), some (.ref a2), some (.int p3), some (.int p4), some (.int p5), none] [.int ((gI G 706 b3)), .int p4] G Post
    obtain ⟨Ha, Hb⟩ := H
    refine j_icmp_ge (tgt := 109) d_Ws_absorbMet_28 (by decide) (fun c24 => ?_) (fun c25 => ?_)
    · have H := Ha c24
      refine j_iload_n d_Ws_absorbMet_109 rfl ?_
      obtain ⟨z6, H⟩ := H
      exact j_zret rfl z6 d_Ws_absorbMet_110 H
    · have H := Hb c25
      refine j_aload_n d_Ws_absorbMet_31 rfl ?_
      refine j_getR (f := 512) (b := b3) fe_Ws_12 rfl rfl t2 e4 d_Ws_absorbMet_32 ?_
      refine j_iload d_Ws_absorbMet_35 rfl ?_
      obtain ⟨b7, g8, H⟩ := H
      refine j_callV (d' := 3) (ci := 11) (As := [.int p4]) (rest := []) (b := b3) cv_Ws_40 me_AL_get rfl (by decide) rfl rfl t5 rfl rfl (Nat.le_of_ble_eq_true rfl) d_Ws_absorbMet_37 (by decide) rfl (c_AL_get g8 ?_)
      show J E 8 m_Ws_absorbMet 40 [some (.ref a0), some (.ref a1), some (.ref a2), some (.int p3), some (.int p4), some (.int p5), none] [.ref b7] G Post
      obtain ⟨t9, H⟩ := H
      refine j_cast (ci := 7) rfl kl_Ws_25 t9 d_Ws_absorbMet_40 ?_
      refine j_astore (x := (some b7)) (L' := [some (.ref a0), some (.ref a1), some (.ref a2), some (.int p3), some (.int p4), some (.int p5), some (.ref b7)]) rfl d_Ws_absorbMet_43 (by decide) rfl ?_
      refine j_aload_n d_Ws_absorbMet_45 rfl ?_
      refine j_aload d_Ws_absorbMet_46 rfl ?_
      obtain ⟨t10, H⟩ := H
      refine j_callV (d' := 1) (ci := 7) (As := [.ref b7]) (rest := []) (b := a1) cv_Ws_125 me_Wi_meets rfl (by decide) rfl rfl t10 rfl rfl (Nat.le_of_ble_eq_true rfl) d_Ws_absorbMet_48 (by decide) rfl (j_enter (L := [some (.ref a1), some (.ref b7)]) me_Wi_meets (cat_c rfl (cat_c rfl cat_n)) (Nat.le_of_ble_eq_true rfl) rfl ?_)
      refine j_aload_n d_Wi_meets_0 rfl ?_
      refine j_getI (f := 448) fe_Wi_9 rfl rfl t10 d_Wi_meets_1 ?_
      refine j_aload_n d_Wi_meets_4 rfl ?_
      refine j_getI (f := 448) fe_Wi_9 rfl rfl t9 d_Wi_meets_5 ?_
      obtain ⟨Ha, Hb⟩ := H
      refine j_icmp_ne (tgt := 37) d_Wi_meets_8 (by decide) (fun c22 => ?_) (fun c23 => ?_)
      · have H := Ha c22
        refine j_iconst (v := 0) d_Wi_meets_37 (by decide) ?_
        refine j_zret rfl (by decide) d_Wi_meets_38 ?_
        show J E 8 m_Ws_absorbMet 51 [some (.ref a0), some (.ref a1), some (.ref a2), some (.int p3), some (.int p4), some (.int p5), some (.ref b7)] [.int ((0 : Int32))] G Post
        refine j_if_ne (tgt := 60) d_Ws_absorbMet_51 (by decide) (fun c => absurd c (by decide)) (fun _ => ?_)
        refine j_iinc (v := (p4 + (1 : Int32))) (L' := [some (.ref a0), some (.ref a1), some (.ref a2), some (.int p3), some (.int ((p4 + (1 : Int32)))), some (.int p5), some (.ref b7)]) d_Ws_absorbMet_54 rfl (by rw [show Int32.ofInt (1) = (1 : Int32) by decide]) (by decide) rfl ?_
        refine j_goto (tgt := 103) d_Ws_absorbMet_57 (by decide) ?_
        refine j_iinc (v := (p5 + (-1 : Int32))) (L' := [some (.ref a0), some (.ref a1), some (.ref a2), some (.int p3), some (.int ((p4 + (1 : Int32)))), some (.int ((p5 + (-1 : Int32)))), some (.ref b7)]) d_Ws_absorbMet_103 rfl (by rw [show Int32.ofInt (-1) = (-1 : Int32) by decide]) (by decide) rfl ?_
        refine j_goto (tgt := 14) d_Ws_absorbMet_106 (by decide) ?_
        refine j_forget (L' := [some (.ref a0), some (.ref a1), some (.ref a2), some (.int p3), some (.int ((p4 + (1 : Int32)))), some (.int ((p5 + (-1 : Int32)))), none]) ⟨Or.inr rfl, Or.inr rfl, Or.inr rfl, Or.inr rfl, Or.inr rfl, Or.inr rfl, Or.inl rfl, trivial⟩ ?_
        exact H
      · have H := Hb c23
        refine j_aload_n d_Wi_meets_11 rfl ?_
        refine j_getI (f := 449) fe_Wi_15 rfl rfl t10 d_Wi_meets_12 ?_
        refine j_aload_n d_Wi_meets_15 rfl ?_
        refine j_getI (f := 450) fe_Wi_18 rfl rfl t9 d_Wi_meets_16 ?_
        obtain ⟨Ha, Hb⟩ := H
        refine j_icmp_ge (tgt := 37) d_Wi_meets_19 (by decide) (fun c20 => ?_) (fun c21 => ?_)
        · have H := Ha c20
          refine j_iconst (v := 0) d_Wi_meets_37 (by decide) ?_
          refine j_zret rfl (by decide) d_Wi_meets_38 ?_
          show J E 8 m_Ws_absorbMet 51 [some (.ref a0), some (.ref a1), some (.ref a2), some (.int p3), some (.int p4), some (.int p5), some (.ref b7)] [.int ((0 : Int32))] G Post
          refine j_if_ne (tgt := 60) d_Ws_absorbMet_51 (by decide) (fun c => absurd c (by decide)) (fun _ => ?_)
          refine j_iinc (v := (p4 + (1 : Int32))) (L' := [some (.ref a0), some (.ref a1), some (.ref a2), some (.int p3), some (.int ((p4 + (1 : Int32)))), some (.int p5), some (.ref b7)]) d_Ws_absorbMet_54 rfl (by rw [show Int32.ofInt (1) = (1 : Int32) by decide]) (by decide) rfl ?_
          refine j_goto (tgt := 103) d_Ws_absorbMet_57 (by decide) ?_
          refine j_iinc (v := (p5 + (-1 : Int32))) (L' := [some (.ref a0), some (.ref a1), some (.ref a2), some (.int p3), some (.int ((p4 + (1 : Int32)))), some (.int ((p5 + (-1 : Int32)))), some (.ref b7)]) d_Ws_absorbMet_103 rfl (by rw [show Int32.ofInt (-1) = (-1 : Int32) by decide]) (by decide) rfl ?_
          refine j_goto (tgt := 14) d_Ws_absorbMet_106 (by decide) ?_
          refine j_forget (L' := [some (.ref a0), some (.ref a1), some (.ref a2), some (.int p3), some (.int ((p4 + (1 : Int32)))), some (.int ((p5 + (-1 : Int32)))), none]) ⟨Or.inr rfl, Or.inr rfl, Or.inr rfl, Or.inr rfl, Or.inr rfl, Or.inr rfl, Or.inl rfl, trivial⟩ ?_
          exact H
        · have H := Hb c21
          refine j_aload_n d_Wi_meets_22 rfl ?_
          refine j_getI (f := 449) fe_Wi_15 rfl rfl t9 d_Wi_meets_23 ?_
          refine j_aload_n d_Wi_meets_26 rfl ?_
          refine j_getI (f := 450) fe_Wi_18 rfl rfl t10 d_Wi_meets_27 ?_
          obtain ⟨Ha, Hb⟩ := H
          refine j_icmp_ge (tgt := 37) d_Wi_meets_30 (by decide) (fun c18 => ?_) (fun c19 => ?_)
          · have H := Ha c18
            refine j_iconst (v := 0) d_Wi_meets_37 (by decide) ?_
            refine j_zret rfl (by decide) d_Wi_meets_38 ?_
            show J E 8 m_Ws_absorbMet 51 [some (.ref a0), some (.ref a1), some (.ref a2), some (.int p3), some (.int p4), some (.int p5), some (.ref b7)] [.int ((0 : Int32))] G Post
            refine j_if_ne (tgt := 60) d_Ws_absorbMet_51 (by decide) (fun c => absurd c (by decide)) (fun _ => ?_)
            refine j_iinc (v := (p4 + (1 : Int32))) (L' := [some (.ref a0), some (.ref a1), some (.ref a2), some (.int p3), some (.int ((p4 + (1 : Int32)))), some (.int p5), some (.ref b7)]) d_Ws_absorbMet_54 rfl (by rw [show Int32.ofInt (1) = (1 : Int32) by decide]) (by decide) rfl ?_
            refine j_goto (tgt := 103) d_Ws_absorbMet_57 (by decide) ?_
            refine j_iinc (v := (p5 + (-1 : Int32))) (L' := [some (.ref a0), some (.ref a1), some (.ref a2), some (.int p3), some (.int ((p4 + (1 : Int32)))), some (.int ((p5 + (-1 : Int32)))), some (.ref b7)]) d_Ws_absorbMet_103 rfl (by rw [show Int32.ofInt (-1) = (-1 : Int32) by decide]) (by decide) rfl ?_
            refine j_goto (tgt := 14) d_Ws_absorbMet_106 (by decide) ?_
            refine j_forget (L' := [some (.ref a0), some (.ref a1), some (.ref a2), some (.int p3), some (.int ((p4 + (1 : Int32)))), some (.int ((p5 + (-1 : Int32)))), none]) ⟨Or.inr rfl, Or.inr rfl, Or.inr rfl, Or.inr rfl, Or.inr rfl, Or.inr rfl, Or.inl rfl, trivial⟩ ?_
            exact H
          · have H := Hb c19
            refine j_iconst (v := 1) d_Wi_meets_33 (by decide) ?_
            refine j_goto (tgt := 38) d_Wi_meets_34 (by decide) ?_
            refine j_zret rfl (by decide) d_Wi_meets_38 ?_
            show J E 8 m_Ws_absorbMet 51 [some (.ref a0), some (.ref a1), some (.ref a2), some (.int p3), some (.int p4), some (.int p5), some (.ref b7)] [.int ((1 : Int32))] G Post
            refine j_if_ne (tgt := 60) d_Ws_absorbMet_51 (by decide) (fun _ => ?_) (fun c => absurd c (by decide))
            refine j_aload d_Ws_absorbMet_60 rfl ?_
            refine j_getI (f := 453) fe_Ws_100 rfl rfl t9 d_Ws_absorbMet_62 ?_
            obtain ⟨Ha, Hb⟩ := H
            refine j_if_eq (tgt := 77) d_Ws_absorbMet_65 (by decide) (fun c16 => ?_) (fun c17 => ?_)
            · have H := Ha c16
              refine j_aload_n d_Ws_absorbMet_77 rfl ?_
              refine j_aload d_Ws_absorbMet_78 rfl ?_
              refine j_callV (d' := 1) (ci := 7) (As := [.ref b7]) (rest := []) (b := a1) cv_Ws_128 me_Wi_absorb rfl (by decide) rfl rfl t10 rfl rfl (Nat.le_of_ble_eq_true rfl) d_Ws_absorbMet_80 (by decide) rfl (j_enter (L := [some (.ref a1), some (.ref b7)]) me_Wi_absorb (cat_c rfl (cat_c rfl cat_n)) (Nat.le_of_ble_eq_true rfl) rfl ?_)
              refine j_aload_n d_Wi_absorb_0 rfl ?_
              refine j_aload_n d_Wi_absorb_1 rfl ?_
              refine j_getI (f := 449) fe_Wi_15 rfl rfl t10 d_Wi_absorb_2 ?_
              refine j_aload_n d_Wi_absorb_5 rfl ?_
              refine j_getI (f := 449) fe_Wi_15 rfl rfl t9 d_Wi_absorb_6 ?_
              refine j_min cm_Wi_31 wm_min1 wm_ini wm_min2 (Nat.le_of_ble_eq_true rfl) d_Wi_absorb_9 ?_
              refine j_putI (f := 449) fw_Wi_15 rfl rfl t10 d_Wi_absorb_12 ?_
              refine j_aload_n d_Wi_absorb_15 rfl ?_
              refine j_aload_n d_Wi_absorb_16 rfl ?_
              refine j_getI (f := 450) fe_Wi_18 rfl rfl t10 d_Wi_absorb_17 ?_
              refine j_aload_n d_Wi_absorb_20 rfl ?_
              refine j_getI (f := 450) fe_Wi_18 rfl rfl t9 d_Wi_absorb_21 ?_
              refine j_max cm_Wi_37 wm_max1 wm_ini wm_max2 (Nat.le_of_ble_eq_true rfl) d_Wi_absorb_24 ?_
              refine j_putI (f := 450) fw_Wi_18 rfl rfl t10 d_Wi_absorb_27 ?_
              show J E 1 m_Wi_absorb 30 [some (.ref a1), some (.ref b7)] [] (sI (sI G 449 a1 ((if (gI G 449 b7) < (gI G 449 a1) then (gI G 449 b7) else (gI G 449 a1)))) 450 a1 ((if (gI G 450 a1) < (gI G 450 b7) then (gI G 450 b7) else (gI G 450 a1)))) (aft E 8 m_Ws_absorbMet 80 [some (.ref a0), some (.ref a1), some (.ref a2), some (.int p3), some (.int p4), some (.int p5), some (.ref b7)] [] Post)
              generalize e12 : sI (sI G 449 a1 ((if (gI G 449 b7) < (gI G 449 a1) then (gI G 449 b7) else (gI G 449 a1)))) 450 a1 ((if (gI G 450 a1) < (gI G 450 b7) then (gI G 450 b7) else (gI G 450 a1))) = G11
              have e12 := e12.symm
              have H := H G11 e12
              refine j_aload_n d_Wi_absorb_30 rfl ?_
              refine j_dup d_Wi_absorb_31 rfl ?_
              refine j_getIv (f := 451) (v := (gI G 451 a1)) fe_Wi_21 rfl rfl (by rw [e12]; exact t10) (by rw [e12]; rfl) d_Wi_absorb_32 ?_
              refine j_aload_n d_Wi_absorb_35 rfl ?_
              refine j_getIv (f := 451) (v := (gI G 451 b7)) fe_Wi_21 rfl rfl (by rw [e12]; exact t9) (by rw [e12]; rfl) d_Wi_absorb_36 ?_
              refine j_iadd d_Wi_absorb_39 ?_
              refine j_putI (f := 451) fw_Wi_21 rfl rfl (by rw [e12]; exact t10) d_Wi_absorb_40 ?_
              refine j_aload_n d_Wi_absorb_43 rfl ?_
              refine j_dup d_Wi_absorb_44 rfl ?_
              refine j_getIv (f := 452) (v := (gI G 452 a1)) fe_Wi_24 rfl rfl (by rw [e12]; exact t10) (by rw [e12]; rfl) d_Wi_absorb_45 ?_
              refine j_aload_n d_Wi_absorb_48 rfl ?_
              refine j_getIv (f := 452) (v := (gI G 452 b7)) fe_Wi_24 rfl rfl (by rw [e12]; exact t9) (by rw [e12]; rfl) d_Wi_absorb_49 ?_
              refine j_iadd d_Wi_absorb_52 ?_
              refine j_putI (f := 452) fw_Wi_24 rfl rfl (by rw [e12]; exact t10) d_Wi_absorb_53 ?_
              refine j_vret rfl d_Wi_absorb_56 ?_
              show J E 8 m_Ws_absorbMet 83 [some (.ref a0), some (.ref a1), some (.ref a2), some (.int p3), some (.int p4), some (.int p5), some (.ref b7)] [] (sI (sI G11 451 a1 (((gI G 451 a1) + (gI G 451 b7)))) 452 a1 (((gI G 452 a1) + (gI G 452 b7)))) Post
              refine j_aload_n d_Ws_absorbMet_83 rfl ?_
              obtain ⟨b13, e14, H⟩ := H
              refine j_getR (f := 513) (b := b13) fe_Ws_18 rfl rfl (by rw [e12]; exact t2) (by rw [e12]; exact e14) d_Ws_absorbMet_84 ?_
              refine j_aload_n d_Ws_absorbMet_87 rfl ?_
              refine j_getR (f := 512) (b := b3) fe_Ws_12 rfl rfl (by rw [e12]; exact t2) (by rw [e12]; exact e4) d_Ws_absorbMet_88 ?_
              refine j_iload d_Ws_absorbMet_91 rfl ?_
              refine j_forget (L' := [some (.ref a0), some (.ref a1), some (.ref a2), some (.int p3), some (.int p4), some (.int p5), none]) ⟨Or.inr rfl, Or.inr rfl, Or.inr rfl, Or.inr rfl, Or.inr rfl, Or.inr rfl, Or.inl rfl, trivial⟩ ?_
              exact j_callV (d' := 3) (ci := 11) (As := [.int p4]) (rest := [.ref b13]) (b := b3) cv_Ws_28 me_AL_remove rfl (by decide) rfl rfl (by rw [e12]; exact t5) rfl rfl (Nat.le_of_ble_eq_true rfl) d_Ws_absorbMet_93 (by decide) rfl H
            · have H := Hb c17
              refine j_aload_n d_Ws_absorbMet_68 rfl ?_
              refine j_aload d_Ws_absorbMet_69 rfl ?_
              refine j_iconst (v := 0) d_Ws_absorbMet_71 (by decide) ?_
              obtain ⟨t15, H⟩ := H
              refine j_forget (L' := [some (.ref a0), some (.ref a1), some (.ref a2), none, some (.int p4), some (.int p5), some (.ref b7)]) ⟨Or.inr rfl, Or.inr rfl, Or.inr rfl, Or.inl rfl, Or.inr rfl, Or.inr rfl, Or.inr rfl, trivial⟩ ?_
              exact j_callV (d' := 7) (ci := 5) (As := [.ref b7, .int ((0 : Int32))]) (rest := []) (b := a2) cv_Ws_104 me_Si_write rfl (by decide) rfl rfl t15 rfl rfl (Nat.le_of_ble_eq_true rfl) d_Ws_absorbMet_72 (by decide) rfl H
theorem wp_Ws_absorbMet_96 {E : EV} {G : GH} {Post : Res → GH → Prop} (a0 : Nat) (a1 : Nat) (a2 : Nat) (p3 : Int32) (p4 : Int32) (p5 : Int32) (u0 : Nat) (u1 : Nat) (H : gT G u1 = 8 ∧ gT G u0 = 12 ∧ Cl E 6 m_AL_add [.ref u0, .ref u1] G (aft E 8 m_Ws_absorbMet 99 [some (.ref a0), some (.ref a1), some (.ref a2), some (.int p3), some (.int p4), some (.int p5), none] [] Post)) : J E 8 m_Ws_absorbMet 96 [some (.ref a0), some (.ref a1), some (.ref a2), some (.int p3), some (.int p4), some (.int p5), none] [.ref u1, .ref u0] G Post := by
  obtain ⟨t1, H⟩ := H
  refine j_cast (ci := 7) rfl kl_Ws_25 t1 d_Ws_absorbMet_96 ?_
  obtain ⟨t2, H⟩ := H
  exact j_callV (d' := 6) (ci := 11) (As := [.ref u1]) (rest := []) (b := u0) cv_Ws_32 me_AL_add rfl (by decide) rfl rfl t2 rfl rfl (Nat.le_of_ble_eq_true rfl) d_Ws_absorbMet_99 (by decide) rfl H
theorem wp_Ws_absorbMet_75 {E : EV} {G : GH} {Post : Res → GH → Prop} (a0 : Nat) (a1 : Nat) (a2 : Nat) (p4 : Int32) (p5 : Int32) (a6 : Nat) (H : gT G a1 = 8 ∧ gT G a6 = 8 ∧ ∀ G3, G3 = sI (sI G 449 a1 ((if (gI G 449 a6) < (gI G 449 a1) then (gI G 449 a6) else (gI G 449 a1)))) 450 a1 ((if (gI G 450 a1) < (gI G 450 a6) then (gI G 450 a6) else (gI G 450 a1))) → gT G a0 = 9 ∧ ∃ b6, gR G 513 a0 = some b6 ∧ ∃ b8, gR G 512 a0 = some b8 ∧ gT G b8 = 12 ∧ Cl E 3 m_AL_remove [.ref b8, .int p4] (sI (sI G3 451 a1 (((gI G 451 a1) + (gI G 451 a6)))) 452 a1 (((gI G 452 a1) + (gI G 452 a6)))) (aft E 8 m_Ws_absorbMet 93 [some (.ref a0), some (.ref a1), some (.ref a2), some (.int ((1 : Int32))), some (.int p4), some (.int p5), none] [.ref b6] Post)) : J E 8 m_Ws_absorbMet 75 [some (.ref a0), some (.ref a1), some (.ref a2), none, some (.int p4), some (.int p5), some (.ref a6)] [] G Post := by
  refine j_iconst (v := 1) d_Ws_absorbMet_75 (by decide) ?_
  refine j_istore_n (L' := [some (.ref a0), some (.ref a1), some (.ref a2), some (.int ((1 : Int32))), some (.int p4), some (.int p5), some (.ref a6)]) d_Ws_absorbMet_76 (by decide) rfl ?_
  refine j_aload_n d_Ws_absorbMet_77 rfl ?_
  refine j_aload d_Ws_absorbMet_78 rfl ?_
  obtain ⟨t1, H⟩ := H
  refine j_callV (d' := 1) (ci := 7) (As := [.ref a6]) (rest := []) (b := a1) cv_Ws_128 me_Wi_absorb rfl (by decide) rfl rfl t1 rfl rfl (Nat.le_of_ble_eq_true rfl) d_Ws_absorbMet_80 (by decide) rfl (j_enter (L := [some (.ref a1), some (.ref a6)]) me_Wi_absorb (cat_c rfl (cat_c rfl cat_n)) (Nat.le_of_ble_eq_true rfl) rfl ?_)
  refine j_aload_n d_Wi_absorb_0 rfl ?_
  refine j_aload_n d_Wi_absorb_1 rfl ?_
  refine j_getI (f := 449) fe_Wi_15 rfl rfl t1 d_Wi_absorb_2 ?_
  refine j_aload_n d_Wi_absorb_5 rfl ?_
  obtain ⟨t2, H⟩ := H
  refine j_getI (f := 449) fe_Wi_15 rfl rfl t2 d_Wi_absorb_6 ?_
  refine j_min cm_Wi_31 wm_min1 wm_ini wm_min2 (Nat.le_of_ble_eq_true rfl) d_Wi_absorb_9 ?_
  refine j_putI (f := 449) fw_Wi_15 rfl rfl t1 d_Wi_absorb_12 ?_
  refine j_aload_n d_Wi_absorb_15 rfl ?_
  refine j_aload_n d_Wi_absorb_16 rfl ?_
  refine j_getI (f := 450) fe_Wi_18 rfl rfl t1 d_Wi_absorb_17 ?_
  refine j_aload_n d_Wi_absorb_20 rfl ?_
  refine j_getI (f := 450) fe_Wi_18 rfl rfl t2 d_Wi_absorb_21 ?_
  refine j_max cm_Wi_37 wm_max1 wm_ini wm_max2 (Nat.le_of_ble_eq_true rfl) d_Wi_absorb_24 ?_
  refine j_putI (f := 450) fw_Wi_18 rfl rfl t1 d_Wi_absorb_27 ?_
  show J E 1 m_Wi_absorb 30 [some (.ref a1), some (.ref a6)] [] (sI (sI G 449 a1 ((if (gI G 449 a6) < (gI G 449 a1) then (gI G 449 a6) else (gI G 449 a1)))) 450 a1 ((if (gI G 450 a1) < (gI G 450 a6) then (gI G 450 a6) else (gI G 450 a1)))) (aft E 8 m_Ws_absorbMet 80 [some (.ref a0), some (.ref a1), some (.ref a2), some (.int ((1 : Int32))), some (.int p4), some (.int p5), some (.ref a6)] [] Post)
  generalize e4 : sI (sI G 449 a1 ((if (gI G 449 a6) < (gI G 449 a1) then (gI G 449 a6) else (gI G 449 a1)))) 450 a1 ((if (gI G 450 a1) < (gI G 450 a6) then (gI G 450 a6) else (gI G 450 a1))) = G3
  have e4 := e4.symm
  have H := H G3 e4
  refine j_aload_n d_Wi_absorb_30 rfl ?_
  refine j_dup d_Wi_absorb_31 rfl ?_
  refine j_getIv (f := 451) (v := (gI G 451 a1)) fe_Wi_21 rfl rfl (by rw [e4]; exact t1) (by rw [e4]; rfl) d_Wi_absorb_32 ?_
  refine j_aload_n d_Wi_absorb_35 rfl ?_
  refine j_getIv (f := 451) (v := (gI G 451 a6)) fe_Wi_21 rfl rfl (by rw [e4]; exact t2) (by rw [e4]; rfl) d_Wi_absorb_36 ?_
  refine j_iadd d_Wi_absorb_39 ?_
  refine j_putI (f := 451) fw_Wi_21 rfl rfl (by rw [e4]; exact t1) d_Wi_absorb_40 ?_
  refine j_aload_n d_Wi_absorb_43 rfl ?_
  refine j_dup d_Wi_absorb_44 rfl ?_
  refine j_getIv (f := 452) (v := (gI G 452 a1)) fe_Wi_24 rfl rfl (by rw [e4]; exact t1) (by rw [e4]; rfl) d_Wi_absorb_45 ?_
  refine j_aload_n d_Wi_absorb_48 rfl ?_
  refine j_getIv (f := 452) (v := (gI G 452 a6)) fe_Wi_24 rfl rfl (by rw [e4]; exact t2) (by rw [e4]; rfl) d_Wi_absorb_49 ?_
  refine j_iadd d_Wi_absorb_52 ?_
  refine j_putI (f := 452) fw_Wi_24 rfl rfl (by rw [e4]; exact t1) d_Wi_absorb_53 ?_
  refine j_vret rfl d_Wi_absorb_56 ?_
  show J E 8 m_Ws_absorbMet 83 [some (.ref a0), some (.ref a1), some (.ref a2), some (.int ((1 : Int32))), some (.int p4), some (.int p5), some (.ref a6)] [] (sI (sI G3 451 a1 (((gI G 451 a1) + (gI G 451 a6)))) 452 a1 (((gI G 452 a1) + (gI G 452 a6)))) Post
  refine j_aload_n d_Ws_absorbMet_83 rfl ?_
  obtain ⟨t5, H⟩ := H
  obtain ⟨b6, e7, H⟩ := H
  refine j_getR (f := 513) (b := b6) fe_Ws_18 rfl rfl (by rw [e4]; exact t5) (by rw [e4]; exact e7) d_Ws_absorbMet_84 ?_
  refine j_aload_n d_Ws_absorbMet_87 rfl ?_
  obtain ⟨b8, e9, H⟩ := H
  refine j_getR (f := 512) (b := b8) fe_Ws_12 rfl rfl (by rw [e4]; exact t5) (by rw [e4]; exact e9) d_Ws_absorbMet_88 ?_
  refine j_iload d_Ws_absorbMet_91 rfl ?_
  obtain ⟨t10, H⟩ := H
  refine j_forget (L' := [some (.ref a0), some (.ref a1), some (.ref a2), some (.int ((1 : Int32))), some (.int p4), some (.int p5), none]) ⟨Or.inr rfl, Or.inr rfl, Or.inr rfl, Or.inr rfl, Or.inr rfl, Or.inr rfl, Or.inl rfl, trivial⟩ ?_
  exact j_callV (d' := 3) (ci := 11) (As := [.int p4]) (rest := [.ref b6]) (b := b8) cv_Ws_28 me_AL_remove rfl (by decide) rfl rfl (by rw [e4]; exact t10) rfl rfl (Nat.le_of_ble_eq_true rfl) d_Ws_absorbMet_93 (by decide) rfl H
theorem wp_Ws_absorbMet_102 {E : EV} {G : GH} {Post : Res → GH → Prop} (a0 : Nat) (a1 : Nat) (a2 : Nat) (p3 : Int32) (p4 : Int32) (p5 : Int32) (s0 : Int32) (H : J E 8 m_Ws_absorbMet 14 [some (.ref a0), some (.ref a1), some (.ref a2), some (.int p3), some (.int p4), some (.int ((p5 + (-1 : Int32)))), none] [] G Post) : J E 8 m_Ws_absorbMet 102 [some (.ref a0), some (.ref a1), some (.ref a2), some (.int p3), some (.int p4), some (.int p5), none] [.int s0] G Post := by
  refine j_pop d_Ws_absorbMet_102 rfl ?_
  refine j_iinc (v := (p5 + (-1 : Int32))) (L' := [some (.ref a0), some (.ref a1), some (.ref a2), some (.int p3), some (.int p4), some (.int ((p5 + (-1 : Int32)))), none]) d_Ws_absorbMet_103 rfl (by rw [show Int32.ofInt (-1) = (-1 : Int32) by decide]) (by decide) rfl ?_
  refine j_goto (tgt := 14) d_Ws_absorbMet_106 (by decide) ?_
  exact H
theorem wp_Ws_emitIfDue_0 {E : EV} {G : GH} {Post : Res → GH → Prop} (a0 : Nat) (a1 : Nat) (p2 : Int32) (a3 : Nat) (H : gT G a1 = 8 ∧ (p2 < (gI G 450 a1) → Post (.inl none) G) ∧ (¬ p2 < (gI G 450 a1) → gT G a3 = 6 ∧ Cl E 7 m_Si_write [.ref a3, .ref a1, .int ((1 : Int32))] G (aft E 8 m_Ws_emitIfDue 11 [none, none, none, none] [] Post))) : J E 8 m_Ws_emitIfDue 0 [some (.ref a0), some (.ref a1), some (.int p2), some (.ref a3)] [] G Post := by
  refine j_aload_n d_Ws_emitIfDue_0 rfl ?_
  obtain ⟨t1, H⟩ := H
  refine j_getI (f := 450) fe_Ws_131 rfl rfl t1 d_Ws_emitIfDue_1 ?_
  refine j_iload_n d_Ws_emitIfDue_4 rfl ?_
  obtain ⟨Ha, Hb⟩ := H
  refine j_icmp_gt (tgt := 14) d_Ws_emitIfDue_5 (by decide) (fun c3 => ?_) (fun c4 => ?_)
  · have H := Ha c3
    exact j_vret rfl d_Ws_emitIfDue_14 H
  · have H := Hb c4
    refine j_aload_n d_Ws_emitIfDue_8 rfl ?_
    refine j_aload_n d_Ws_emitIfDue_9 rfl ?_
    refine j_iconst (v := 1) d_Ws_emitIfDue_10 (by decide) ?_
    obtain ⟨t2, H⟩ := H
    refine j_forget (L' := [none, none, none, none]) ⟨Or.inl rfl, Or.inl rfl, Or.inl rfl, Or.inl rfl, trivial⟩ ?_
    exact j_callV (d' := 7) (ci := 5) (As := [.ref a1, .int ((1 : Int32))]) (rest := []) (b := a3) cv_Ws_104 me_Si_write rfl (by decide) rfl rfl t2 rfl rfl (Nat.le_of_ble_eq_true rfl) d_Ws_emitIfDue_11 (by decide) rfl H
theorem wp_Ws_emitIfDue_14 {E : EV} {G : GH} {Post : Res → GH → Prop}  (H : Post (.inl none) G) : J E 8 m_Ws_emitIfDue 14 [none, none, none, none] [] G Post := by
  exact j_vret rfl d_Ws_emitIfDue_14 H
theorem wp_Ws_emitDue_0 {E : EV} {G : GH} {Post : Res → GH → Prop} (a0 : Nat) (p1 : Int32) (a2 : Nat) (H : J E 8 m_Ws_emitDue 2 [some (.ref a0), some (.int p1), some (.ref a2), some (.int ((0 : Int32))), none] [] G Post) : J E 8 m_Ws_emitDue 0 [some (.ref a0), some (.int p1), some (.ref a2), none, none] [] G Post := by
  refine j_iconst (v := 0) d_Ws_emitDue_0 (by decide) ?_
  refine j_istore_n (L' := [some (.ref a0), some (.int p1), some (.ref a2), some (.int ((0 : Int32))), none]) d_Ws_emitDue_1 (by decide) rfl ?_
  exact H
theorem wp_Ws_emitDue_2 {E : EV} {G : GH} {Post : Res → GH → Prop} (a0 : Nat) (p1 : Int32) (a2 : Nat) (p3 : Int32) (H : gT G a0 = 9 ∧ ∃ b2, gR G 512 a0 = some b2 ∧ gT G b2 = 12 ∧ ((gI G 706 b2) ≤ p3 → Post (.inl none) G) ∧ (¬ (gI G 706 b2) ≤ p3 → ∃ b5, LG G b2 p3 b5 ∧ gT G b5 = 8 ∧ ((gI G 450 b5) ≤ p1 → (¬ (gI G 453 b5) = 0 → J E 8 m_Ws_emitDue 2 [some (.ref a0), some (.int p1), some (.ref a2), some (.int ((p3 + (1 : Int32)))), none] [] G Post) ∧ ((gI G 453 b5) = 0 → gT G a2 = 6 ∧ Cl E 7 m_Si_write [.ref a2, .ref b5, .int ((1 : Int32))] G (aft E 8 m_Ws_emitDue 48 [some (.ref a0), some (.int p1), some (.ref a2), some (.int p3), none] [] Post))) ∧ (¬ (gI G 450 b5) ≤ p1 → Post (.inl none) G))) : J E 8 m_Ws_emitDue 2 [some (.ref a0), some (.int p1), some (.ref a2), some (.int p3), none] [] G Post := by
  refine j_iload_n d_Ws_emitDue_2 rfl ?_
  refine j_aload_n d_Ws_emitDue_3 rfl ?_
  obtain ⟨t1, H⟩ := H
  obtain ⟨b2, e3, H⟩ := H
  refine j_getR (f := 512) (b := b2) fe_Ws_12 rfl rfl t1 e3 d_Ws_emitDue_4 ?_
  obtain ⟨t4, H⟩ := H
  refine j_callV (d' := 1) (ci := 11) (As := []) (rest := [.int p3]) (b := b2) cv_Ws_21 me_AL_size rfl (by decide) rfl rfl t4 rfl rfl (Nat.le_of_ble_eq_true rfl) d_Ws_emitDue_7 (by decide) rfl (j_enter (L := [some (.ref b2)]) me_AL_size (cat_c rfl cat_n) (Nat.le_of_ble_eq_true rfl) rfl ?_)
  refine j_aload_n d_AL_size_0 rfl ?_
  refine j_getI (f := 706) fe_AL_48 rfl rfl t4 d_AL_size_1 ?_
  refine j_iret rfl d_AL_size_4 ?_
  show J E 8 m_Ws_emitDue 10 [some (.ref a0), some (.int p1), some (.ref a2), some (.int p3), none] [.int ((gI G 706 b2)), .int p3] G Post
  obtain ⟨Ha, Hb⟩ := H
  refine j_icmp_ge (tgt := 57) d_Ws_emitDue_10 (by decide) (fun c13 => ?_) (fun c14 => ?_)
  · have H := Ha c13
    exact j_vret rfl d_Ws_emitDue_57 H
  · have H := Hb c14
    refine j_aload_n d_Ws_emitDue_13 rfl ?_
    refine j_getR (f := 512) (b := b2) fe_Ws_12 rfl rfl t1 e3 d_Ws_emitDue_14 ?_
    refine j_iload_n d_Ws_emitDue_17 rfl ?_
    obtain ⟨b5, g6, H⟩ := H
    refine j_callV (d' := 3) (ci := 11) (As := [.int p3]) (rest := []) (b := b2) cv_Ws_40 me_AL_get rfl (by decide) rfl rfl t4 rfl rfl (Nat.le_of_ble_eq_true rfl) d_Ws_emitDue_18 (by decide) rfl (c_AL_get g6 ?_)
    show J E 8 m_Ws_emitDue 21 [some (.ref a0), some (.int p1), some (.ref a2), some (.int p3), none] [.ref b5] G Post
    obtain ⟨t7, H⟩ := H
    refine j_cast (ci := 7) rfl kl_Ws_25 t7 d_Ws_emitDue_21 ?_
    refine j_astore (x := (some b5)) (L' := [some (.ref a0), some (.int p1), some (.ref a2), some (.int p3), some (.ref b5)]) rfl d_Ws_emitDue_24 (by decide) rfl ?_
    refine j_aload d_Ws_emitDue_26 rfl ?_
    refine j_getI (f := 450) fe_Ws_131 rfl rfl t7 d_Ws_emitDue_28 ?_
    refine j_iload_n d_Ws_emitDue_31 rfl ?_
    obtain ⟨Ha, Hb⟩ := H
    refine j_icmp_le (tgt := 36) d_Ws_emitDue_32 (by decide) (fun c11 => ?_) (fun c12 => ?_)
    · have H := Ha c11
      refine j_aload d_Ws_emitDue_36 rfl ?_
      refine j_getI (f := 453) fe_Ws_100 rfl rfl t7 d_Ws_emitDue_38 ?_
      obtain ⟨Ha, Hb⟩ := H
      refine j_if_ne (tgt := 51) d_Ws_emitDue_41 (by decide) (fun c9 => ?_) (fun c10 => ?_)
      · have H := Ha c9
        refine j_iinc (v := (p3 + (1 : Int32))) (L' := [some (.ref a0), some (.int p1), some (.ref a2), some (.int ((p3 + (1 : Int32)))), some (.ref b5)]) d_Ws_emitDue_51 rfl (by rw [show Int32.ofInt (1) = (1 : Int32) by decide]) (by decide) rfl ?_
        refine j_goto (tgt := 2) d_Ws_emitDue_54 (by decide) ?_
        refine j_forget (L' := [some (.ref a0), some (.int p1), some (.ref a2), some (.int ((p3 + (1 : Int32)))), none]) ⟨Or.inr rfl, Or.inr rfl, Or.inr rfl, Or.inr rfl, Or.inl rfl, trivial⟩ ?_
        exact H
      · have H := Hb c10
        refine j_aload_n d_Ws_emitDue_44 rfl ?_
        refine j_aload d_Ws_emitDue_45 rfl ?_
        refine j_iconst (v := 1) d_Ws_emitDue_47 (by decide) ?_
        obtain ⟨t8, H⟩ := H
        refine j_forget (L' := [some (.ref a0), some (.int p1), some (.ref a2), some (.int p3), none]) ⟨Or.inr rfl, Or.inr rfl, Or.inr rfl, Or.inr rfl, Or.inl rfl, trivial⟩ ?_
        exact j_callV (d' := 7) (ci := 5) (As := [.ref b5, .int ((1 : Int32))]) (rest := []) (b := a2) cv_Ws_104 me_Si_write rfl (by decide) rfl rfl t8 rfl rfl (Nat.le_of_ble_eq_true rfl) d_Ws_emitDue_48 (by decide) rfl H
    · have H := Hb c12
      exact j_vret rfl d_Ws_emitDue_35 H
theorem wp_Ws_emitDue_51 {E : EV} {G : GH} {Post : Res → GH → Prop} (a0 : Nat) (p1 : Int32) (a2 : Nat) (p3 : Int32) (H : J E 8 m_Ws_emitDue 2 [some (.ref a0), some (.int p1), some (.ref a2), some (.int ((p3 + (1 : Int32)))), none] [] G Post) : J E 8 m_Ws_emitDue 51 [some (.ref a0), some (.int p1), some (.ref a2), some (.int p3), none] [] G Post := by
  refine j_iinc (v := (p3 + (1 : Int32))) (L' := [some (.ref a0), some (.int p1), some (.ref a2), some (.int ((p3 + (1 : Int32)))), none]) d_Ws_emitDue_51 rfl (by rw [show Int32.ofInt (1) = (1 : Int32) by decide]) (by decide) rfl ?_
  refine j_goto (tgt := 2) d_Ws_emitDue_54 (by decide) ?_
  exact H
