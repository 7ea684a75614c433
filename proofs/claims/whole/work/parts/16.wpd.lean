/-! walks; printed by wip/gen/wps.py -/
theorem wp_Mo_snapshot_0 {E : EV} {G : GH} {Post : Res → GH → Prop} (a0 : Nat) (p1 : Int32) (H : gT G a0 = 11 ∧ Cl E 1 m_Mo_copies [.ref a0] G (aft E 2 m_Mo_snapshot 1 [some (.ref a0), some (.int p1), none] [] Post)) : J E 2 m_Mo_snapshot 0 [some (.ref a0), some (.int p1), none] [] G Post := by
  refine j_aload_n d_Mo_snapshot_0 rfl ?_
  obtain ⟨t1, H⟩ := H
  exact j_callV (d' := 1) (ci := 10) (As := []) (rest := []) (b := a0) cv_Mo_239 me_Mo_copies rfl (by decide) rfl rfl t1 rfl rfl (Nat.le_of_ble_eq_true rfl) d_Mo_snapshot_1 (by decide) rfl H
theorem wp_Mo_snapshot_4 {E : EV} {G : GH} {Post : Res → GH → Prop} (a0 : Nat) (p1 : Int32) (H : J E 2 m_Mo_snapshot 6 [some (.ref a0), some (.int p1), some (.int ((0 : Int32)))] [] G Post) : J E 2 m_Mo_snapshot 4 [some (.ref a0), some (.int p1), none] [] G Post := by
  refine j_iconst (v := 0) d_Mo_snapshot_4 (by decide) ?_
  refine j_istore_n (L' := [some (.ref a0), some (.int p1), some (.int ((0 : Int32)))]) d_Mo_snapshot_5 (by decide) rfl ?_
  exact H
theorem wp_Mo_snapshot_6 {E : EV} {G : GH} {Post : Res → GH → Prop} (a0 : Nat) (p1 : Int32) (p2 : Int32) (H : ((3 : Int32) ≤ p2 → gT G a0 = 11 ∧ ∀ G2, G2 = sI (sI (sI (sI G 695 a0 ((gI G 658 a0))) 696 a0 ((gI G 659 a0))) 697 a0 ((gI G 673 a0))) 681 a0 ((gI G 680 a0)) → Post (.inl none) (sI (sI G2 684 a0 ((1 : Int32))) 683 a0 (((gI G 683 a0) + (1 : Int32))))) ∧ (¬ (3 : Int32) ≤ p2 → gT G a0 = 11 ∧ ∃ b5, gR G 692 a0 = some b5 ∧ (p1 = 0 → ∃ b7, gR G 661 a0 = some b7 ∧ (gT G b7 = 20 ∨ gT G b7 = 25) ∧ ∃ n11, IX p2 n11 (gN G b7) ∧ gT G b5 = 20 ∧ ∃ n14, IX p2 n14 (gN G b5) ∧ ∃ b15, gR G 693 a0 = some b15 ∧ ∃ b17, gR G 654 a0 = some b17 ∧ (gT G b17 = 20 ∨ gT G b17 = 25) ∧ ∃ n21, IX p2 n21 (gN G b17) ∧ gT G b15 = 20 ∧ ∃ n24, IX p2 n24 (gN G b15) ∧ ∃ b25, gR G 694 a0 = some b25 ∧ ∃ b27, gR G 657 a0 = some b27 ∧ (gT G b27 = 20 ∨ gT G b27 = 25) ∧ ∃ n31, IX p2 n31 (gN G b27) ∧ gT G b25 = 20 ∧ ∃ n34, IX p2 n34 (gN G b25) ∧ ∀ G35, G35 = sA (sA (sA G b5 n14 ((gA G b7 n11))) b15 n24 ((gA (sA G b5 n14 ((gA G b7 n11))) b17 n21))) b25 n34 ((gA (sA (sA G b5 n14 ((gA G b7 n11))) b15 n24 ((gA (sA G b5 n14 ((gA G b7 n11))) b17 n21))) b27 n31)) → J E 2 m_Mo_snapshot 6 [some (.ref a0), some (.int p1), some (.int ((p2 + (1 : Int32))))] [] G35 Post) ∧ (¬ p1 = 0 → ∃ b37, gR G 653 a0 = some b37 ∧ (gT G b37 = 20 ∨ gT G b37 = 25) ∧ ∃ n41, IX p2 n41 (gN G b37) ∧ gT G b5 = 20 ∧ ∃ n44, IX p2 n44 (gN G b5) ∧ ∃ b45, gR G 693 a0 = some b45 ∧ ∃ b47, gR G 654 a0 = some b47 ∧ (gT G b47 = 20 ∨ gT G b47 = 25) ∧ ∃ n51, IX p2 n51 (gN G b47) ∧ gT G b45 = 20 ∧ ∃ n54, IX p2 n54 (gN G b45) ∧ ∃ b55, gR G 694 a0 = some b55 ∧ ∃ b57, gR G 657 a0 = some b57 ∧ (gT G b57 = 20 ∨ gT G b57 = 25) ∧ ∃ n61, IX p2 n61 (gN G b57) ∧ gT G b55 = 20 ∧ ∃ n64, IX p2 n64 (gN G b55) ∧ ∀ G65, G65 = sA (sA (sA G b5 n44 ((gA G b37 n41))) b45 n54 ((gA (sA G b5 n44 ((gA G b37 n41))) b47 n51))) b55 n64 ((gA (sA (sA G b5 n44 ((gA G b37 n41))) b45 n54 ((gA (sA G b5 n44 ((gA G b37 n41))) b47 n51))) b57 n61)) → J E 2 m_Mo_snapshot 6 [some (.ref a0), some (.int p1), some (.int ((p2 + (1 : Int32))))] [] G65 Post))) : J E 2 m_Mo_snapshot 6 [some (.ref a0), some (.int p1), some (.int p2)] [] G Post := by
  refine j_iload_n d_Mo_snapshot_6 rfl ?_
  refine j_iconst (v := 3) d_Mo_snapshot_7 (by decide) ?_
  obtain ⟨Ha, Hb⟩ := H
  refine j_icmp_ge (tgt := 66) d_Mo_snapshot_8 (by decide) (fun c69 => ?_) (fun c70 => ?_)
  · have H := Ha c69
    refine j_aload_n d_Mo_snapshot_66 rfl ?_
    refine j_aload_n d_Mo_snapshot_67 rfl ?_
    obtain ⟨t1, H⟩ := H
    refine j_getI (f := 658) fe_Mo_58 rfl rfl t1 d_Mo_snapshot_68 ?_
    refine j_putI (f := 695) fw_Mo_136 rfl rfl t1 d_Mo_snapshot_71 ?_
    refine j_aload_n d_Mo_snapshot_74 rfl ?_
    refine j_aload_n d_Mo_snapshot_75 rfl ?_
    refine j_getI (f := 659) fe_Mo_214 rfl rfl t1 d_Mo_snapshot_76 ?_
    refine j_putI (f := 696) fw_Mo_242 rfl rfl t1 d_Mo_snapshot_79 ?_
    refine j_aload_n d_Mo_snapshot_82 rfl ?_
    refine j_aload_n d_Mo_snapshot_83 rfl ?_
    refine j_getI (f := 673) fe_Mo_217 rfl rfl t1 d_Mo_snapshot_84 ?_
    refine j_putI (f := 697) fw_Mo_245 rfl rfl t1 d_Mo_snapshot_87 ?_
    refine j_aload_n d_Mo_snapshot_90 rfl ?_
    refine j_aload_n d_Mo_snapshot_91 rfl ?_
    refine j_getI (f := 680) fe_Mo_169 rfl rfl t1 d_Mo_snapshot_92 ?_
    refine j_putI (f := 681) fw_Mo_248 rfl rfl t1 d_Mo_snapshot_95 ?_
    show J E 2 m_Mo_snapshot 98 [some (.ref a0), some (.int p1), some (.int p2)] [] (sI (sI (sI (sI G 695 a0 ((gI G 658 a0))) 696 a0 ((gI G 659 a0))) 697 a0 ((gI G 673 a0))) 681 a0 ((gI G 680 a0))) Post
    generalize e3 : sI (sI (sI (sI G 695 a0 ((gI G 658 a0))) 696 a0 ((gI G 659 a0))) 697 a0 ((gI G 673 a0))) 681 a0 ((gI G 680 a0)) = G2
    have e3 := e3.symm
    have H := H G2 e3
    refine j_aload_n d_Mo_snapshot_98 rfl ?_
    refine j_iconst (v := 1) d_Mo_snapshot_99 (by decide) ?_
    refine j_putZ (f := 684) fw_Mo_251 rfl rfl (by rw [e3]; exact t1) (by decide) d_Mo_snapshot_100 ?_
    refine j_aload_n d_Mo_snapshot_103 rfl ?_
    refine j_dup d_Mo_snapshot_104 rfl ?_
    refine j_getIv (f := 683) (v := (gI G 683 a0)) fe_Mo_254 rfl rfl (by rw [e3]; exact t1) (by rw [e3]; rfl) d_Mo_snapshot_105 ?_
    refine j_iconst (v := 1) d_Mo_snapshot_108 (by decide) ?_
    refine j_iadd d_Mo_snapshot_109 ?_
    refine j_putI (f := 683) fw_Mo_254 rfl rfl (by rw [e3]; exact t1) d_Mo_snapshot_110 ?_
    exact j_vret rfl d_Mo_snapshot_113 H
  · have H := Hb c70
    refine j_aload_n d_Mo_snapshot_11 rfl ?_
    obtain ⟨t4, H⟩ := H
    obtain ⟨b5, e6, H⟩ := H
    refine j_getR (f := 692) (b := b5) fe_Mo_127 rfl rfl t4 e6 d_Mo_snapshot_12 ?_
    refine j_iload_n d_Mo_snapshot_15 rfl ?_
    refine j_iload_n d_Mo_snapshot_16 rfl ?_
    obtain ⟨Ha, Hb⟩ := H
    refine j_if_eq (tgt := 29) d_Mo_snapshot_17 (by decide) (fun c67 => ?_) (fun c68 => ?_)
    · have H := Ha c67
      refine j_aload_n d_Mo_snapshot_29 rfl ?_
      obtain ⟨b7, e8, H⟩ := H
      refine j_getR (f := 661) (b := b7) fe_Mo_61 rfl rfl t4 e8 d_Mo_snapshot_30 ?_
      refine j_iload_n d_Mo_snapshot_33 rfl ?_
      obtain ⟨t9, H⟩ := H
      obtain ⟨n11, x10, H⟩ := H
      refine j_iald (n := n11) t9 x10 d_Mo_snapshot_34 ?_
      obtain ⟨t12, H⟩ := H
      obtain ⟨n14, x13, H⟩ := H
      refine j_iast (n := n14) t12 x13 d_Mo_snapshot_35 ?_
      refine j_aload_n d_Mo_snapshot_36 rfl ?_
      obtain ⟨b15, e16, H⟩ := H
      refine j_getR (f := 693) (b := b15) fe_Mo_130 rfl rfl t4 e16 d_Mo_snapshot_37 ?_
      refine j_iload_n d_Mo_snapshot_40 rfl ?_
      refine j_aload_n d_Mo_snapshot_41 rfl ?_
      obtain ⟨b17, e18, H⟩ := H
      refine j_getR (f := 654) (b := b17) fe_Mo_45 rfl rfl t4 e18 d_Mo_snapshot_42 ?_
      refine j_iload_n d_Mo_snapshot_45 rfl ?_
      obtain ⟨t19, H⟩ := H
      obtain ⟨n21, x20, H⟩ := H
      refine j_iald (n := n21) t19 x20 d_Mo_snapshot_46 ?_
      obtain ⟨t22, H⟩ := H
      obtain ⟨n24, x23, H⟩ := H
      refine j_iast (n := n24) t22 x23 d_Mo_snapshot_47 ?_
      refine j_aload_n d_Mo_snapshot_48 rfl ?_
      obtain ⟨b25, e26, H⟩ := H
      refine j_getR (f := 694) (b := b25) fe_Mo_133 rfl rfl t4 e26 d_Mo_snapshot_49 ?_
      refine j_iload_n d_Mo_snapshot_52 rfl ?_
      refine j_aload_n d_Mo_snapshot_53 rfl ?_
      obtain ⟨b27, e28, H⟩ := H
      refine j_getR (f := 657) (b := b27) fe_Mo_55 rfl rfl t4 e28 d_Mo_snapshot_54 ?_
      refine j_iload_n d_Mo_snapshot_57 rfl ?_
      obtain ⟨t29, H⟩ := H
      obtain ⟨n31, x30, H⟩ := H
      refine j_iald (n := n31) t29 x30 d_Mo_snapshot_58 ?_
      obtain ⟨t32, H⟩ := H
      obtain ⟨n34, x33, H⟩ := H
      refine j_iast (n := n34) t32 x33 d_Mo_snapshot_59 ?_
      show J E 2 m_Mo_snapshot 60 [some (.ref a0), some (.int p1), some (.int p2)] [] (sA (sA (sA G b5 n14 ((gA G b7 n11))) b15 n24 ((gA (sA G b5 n14 ((gA G b7 n11))) b17 n21))) b25 n34 ((gA (sA (sA G b5 n14 ((gA G b7 n11))) b15 n24 ((gA (sA G b5 n14 ((gA G b7 n11))) b17 n21))) b27 n31))) Post
      generalize e36 : sA (sA (sA G b5 n14 ((gA G b7 n11))) b15 n24 ((gA (sA G b5 n14 ((gA G b7 n11))) b17 n21))) b25 n34 ((gA (sA (sA G b5 n14 ((gA G b7 n11))) b15 n24 ((gA (sA G b5 n14 ((gA G b7 n11))) b17 n21))) b27 n31)) = G35
      have e36 := e36.symm
      have H := H G35 e36
      refine j_iinc (v := (p2 + (1 : Int32))) (L' := [some (.ref a0), some (.int p1), some (.int ((p2 + (1 : Int32))))]) d_Mo_snapshot_60 rfl (by rw [show Int32.ofInt (1) = (1 : Int32) by decide]) (by decide) rfl ?_
      refine j_goto (tgt := 6) d_Mo_snapshot_63 (by decide) ?_
      exact H
    · have H := Hb c68
      refine j_aload_n d_Mo_snapshot_20 rfl ?_
      obtain ⟨b37, e38, H⟩ := H
      refine j_getR (f := 653) (b := b37) fe_Mo_42 rfl rfl t4 e38 d_Mo_snapshot_21 ?_
      refine j_iload_n d_Mo_snapshot_24 rfl ?_
      obtain ⟨t39, H⟩ := H
      obtain ⟨n41, x40, H⟩ := H
      refine j_iald (n := n41) t39 x40 d_Mo_snapshot_25 ?_
      refine j_goto (tgt := 35) d_Mo_snapshot_26 (by decide) ?_
      obtain ⟨t42, H⟩ := H
      obtain ⟨n44, x43, H⟩ := H
      refine j_iast (n := n44) t42 x43 d_Mo_snapshot_35 ?_
      refine j_aload_n d_Mo_snapshot_36 rfl ?_
      obtain ⟨b45, e46, H⟩ := H
      refine j_getR (f := 693) (b := b45) fe_Mo_130 rfl rfl t4 e46 d_Mo_snapshot_37 ?_
      refine j_iload_n d_Mo_snapshot_40 rfl ?_
      refine j_aload_n d_Mo_snapshot_41 rfl ?_
      obtain ⟨b47, e48, H⟩ := H
      refine j_getR (f := 654) (b := b47) fe_Mo_45 rfl rfl t4 e48 d_Mo_snapshot_42 ?_
      refine j_iload_n d_Mo_snapshot_45 rfl ?_
      obtain ⟨t49, H⟩ := H
      obtain ⟨n51, x50, H⟩ := H
      refine j_iald (n := n51) t49 x50 d_Mo_snapshot_46 ?_
      obtain ⟨t52, H⟩ := H
      obtain ⟨n54, x53, H⟩ := H
      refine j_iast (n := n54) t52 x53 d_Mo_snapshot_47 ?_
      refine j_aload_n d_Mo_snapshot_48 rfl ?_
      obtain ⟨b55, e56, H⟩ := H
      refine j_getR (f := 694) (b := b55) fe_Mo_133 rfl rfl t4 e56 d_Mo_snapshot_49 ?_
      refine j_iload_n d_Mo_snapshot_52 rfl ?_
      refine j_aload_n d_Mo_snapshot_53 rfl ?_
      obtain ⟨b57, e58, H⟩ := H
      refine j_getR (f := 657) (b := b57) fe_Mo_55 rfl rfl t4 e58 d_Mo_snapshot_54 ?_
      refine j_iload_n d_Mo_snapshot_57 rfl ?_
      obtain ⟨t59, H⟩ := H
      obtain ⟨n61, x60, H⟩ := H
      refine j_iald (n := n61) t59 x60 d_Mo_snapshot_58 ?_
      obtain ⟨t62, H⟩ := H
      obtain ⟨n64, x63, H⟩ := H
      refine j_iast (n := n64) t62 x63 d_Mo_snapshot_59 ?_
      show J E 2 m_Mo_snapshot 60 [some (.ref a0), some (.int p1), some (.int p2)] [] (sA (sA (sA G b5 n44 ((gA G b37 n41))) b45 n54 ((gA (sA G b5 n44 ((gA G b37 n41))) b47 n51))) b55 n64 ((gA (sA (sA G b5 n44 ((gA G b37 n41))) b45 n54 ((gA (sA G b5 n44 ((gA G b37 n41))) b47 n51))) b57 n61))) Post
      generalize e66 : sA (sA (sA G b5 n44 ((gA G b37 n41))) b45 n54 ((gA (sA G b5 n44 ((gA G b37 n41))) b47 n51))) b55 n64 ((gA (sA (sA G b5 n44 ((gA G b37 n41))) b45 n54 ((gA (sA G b5 n44 ((gA G b37 n41))) b47 n51))) b57 n61)) = G65
      have e66 := e66.symm
      have H := H G65 e66
      refine j_iinc (v := (p2 + (1 : Int32))) (L' := [some (.ref a0), some (.int p1), some (.int ((p2 + (1 : Int32))))]) d_Mo_snapshot_60 rfl (by rw [show Int32.ofInt (1) = (1 : Int32) by decide]) (by decide) rfl ?_
      refine j_goto (tgt := 6) d_Mo_snapshot_63 (by decide) ?_
      exact H
theorem wp_Mo_barrier_0 {E : EV} {G : GH} {Post : Res → GH → Prop} (a0 : Nat) (H : gT G a0 = 11 ∧ ((gI G 660 a0) = 0 → ((gI G 646 a0) = 0 → Cl E 2 m_Mo_snapshot [.ref a0, .int ((1 : Int32))] (sI (sI G 640 a0 ((0 : Int32))) 648 a0 ((1 : Int32))) (aft E 3 m_Mo_barrier 75 [some (.ref a0), none] [] Post)) ∧ (¬ (gI G 646 a0) = 0 → J E 3 m_Mo_barrier 40 [some (.ref a0), some (.int ((0 : Int32)))] [] (sI (sI (sI G 640 a0 ((0 : Int32))) 648 a0 ((1 : Int32))) 660 a0 ((1 : Int32))) Post)) ∧ (¬ (gI G 660 a0) = 0 → Post (.inl (some (.int ((0 : Int32))))) (sI G 640 a0 ((1 : Int32))))) : J E 3 m_Mo_barrier 0 [some (.ref a0), none] [] G Post := by
  refine j_aload_n d_Mo_barrier_0 rfl ?_
  refine j_aload_n d_Mo_barrier_1 rfl ?_
  obtain ⟨t1, H⟩ := H
  refine j_getI (f := 660) fe_Mo_220 rfl rfl t1 d_Mo_barrier_2 ?_
  obtain ⟨Ha, Hb⟩ := H
  refine j_if_eq (tgt := 12) d_Mo_barrier_5 (by decide) (fun c4 => ?_) (fun c5 => ?_)
  · have H := Ha c4
    refine j_iconst (v := 0) d_Mo_barrier_12 (by decide) ?_
    refine j_callV (d' := 1) (ci := 10) (As := [.int ((0 : Int32))]) (rest := []) (b := a0) cv_Mo_149 me_Mo_isFine rfl (by decide) rfl rfl t1 rfl rfl (Nat.le_of_ble_eq_true rfl) d_Mo_barrier_13 (by decide) rfl (j_enter (L := [some (.ref a0), some (.int ((0 : Int32)))]) me_Mo_isFine (cat_c rfl (cat_c rfl cat_n)) (Nat.le_of_ble_eq_true rfl) rfl ?_)
    refine j_aload_n d_Mo_isFine_0 rfl ?_
    refine j_iload_n d_Mo_isFine_1 rfl ?_
    refine j_putI (f := 640) fw_Mo_139 rfl rfl t1 d_Mo_isFine_2 ?_
    refine j_iload_n d_Mo_isFine_5 rfl ?_
    refine j_if_ne (tgt := 13) d_Mo_isFine_6 (by decide) (fun c => absurd c (by decide)) (fun _ => ?_)
    refine j_iconst (v := 1) d_Mo_isFine_9 (by decide) ?_
    refine j_goto (tgt := 14) d_Mo_isFine_10 (by decide) ?_
    refine j_zret rfl (by decide) d_Mo_isFine_14 ?_
    show J E 3 m_Mo_barrier 16 [some (.ref a0), none] [.int ((1 : Int32))] (sI G 640 a0 ((0 : Int32))) Post
    refine j_if_ne (tgt := 21) d_Mo_barrier_16 (by decide) (fun _ => ?_) (fun c => absurd c (by decide))
    refine j_aload_n d_Mo_barrier_21 rfl ?_
    refine j_iconst (v := 1) d_Mo_barrier_22 (by decide) ?_
    refine j_putZ (f := 648) fw_Mo_146 rfl rfl t1 (by decide) d_Mo_barrier_23 ?_
    refine j_aload_n d_Mo_barrier_26 rfl ?_
    refine j_getI (f := 646) fe_Mo_22 rfl rfl t1 d_Mo_barrier_27 ?_
    obtain ⟨Ha, Hb⟩ := H
    refine j_if_eq (tgt := 73) d_Mo_barrier_30 (by decide) (fun c2 => ?_) (fun c3 => ?_)
    · have H := Ha c2
      refine j_aload_n d_Mo_barrier_73 rfl ?_
      refine j_iconst (v := 1) d_Mo_barrier_74 (by decide) ?_
      exact j_callV (d' := 2) (ci := 10) (As := [.int ((1 : Int32))]) (rest := []) (b := a0) cv_Mo_223 me_Mo_snapshot rfl (by decide) rfl rfl t1 rfl rfl (Nat.le_of_ble_eq_true rfl) d_Mo_barrier_75 (by decide) rfl H
    · have H := Hb c3
      refine j_aload_n d_Mo_barrier_33 rfl ?_
      refine j_iconst (v := 1) d_Mo_barrier_34 (by decide) ?_
      refine j_putZ (f := 660) fw_Mo_220 rfl rfl t1 (by decide) d_Mo_barrier_35 ?_
      refine j_iconst (v := 0) d_Mo_barrier_38 (by decide) ?_
      refine j_istore_n (L' := [some (.ref a0), some (.int ((0 : Int32)))]) d_Mo_barrier_39 (by decide) rfl ?_
      exact H
  · have H := Hb c5
    refine j_iconst (v := 1) d_Mo_barrier_8 (by decide) ?_
    refine j_goto (tgt := 13) d_Mo_barrier_9 (by decide) ?_
    refine j_callV (d' := 1) (ci := 10) (As := [.int ((1 : Int32))]) (rest := []) (b := a0) cv_Mo_149 me_Mo_isFine rfl (by decide) rfl rfl t1 rfl rfl (Nat.le_of_ble_eq_true rfl) d_Mo_barrier_13 (by decide) rfl (j_enter (L := [some (.ref a0), some (.int ((1 : Int32)))]) me_Mo_isFine (cat_c rfl (cat_c rfl cat_n)) (Nat.le_of_ble_eq_true rfl) rfl ?_)
    refine j_aload_n d_Mo_isFine_0 rfl ?_
    refine j_iload_n d_Mo_isFine_1 rfl ?_
    refine j_putI (f := 640) fw_Mo_139 rfl rfl t1 d_Mo_isFine_2 ?_
    refine j_iload_n d_Mo_isFine_5 rfl ?_
    refine j_if_ne (tgt := 13) d_Mo_isFine_6 (by decide) (fun _ => ?_) (fun c => absurd c (by decide))
    refine j_iconst (v := 0) d_Mo_isFine_13 (by decide) ?_
    refine j_zret rfl (by decide) d_Mo_isFine_14 ?_
    show J E 3 m_Mo_barrier 16 [some (.ref a0), none] [.int ((0 : Int32))] (sI G 640 a0 ((1 : Int32))) Post
    refine j_if_ne (tgt := 21) d_Mo_barrier_16 (by decide) (fun c => absurd c (by decide)) (fun _ => ?_)
    refine j_iconst (v := 0) d_Mo_barrier_19 (by decide) ?_
    exact j_iret rfl d_Mo_barrier_20 H
theorem wp_Mo_barrier_78 {E : EV} {G : GH} {Post : Res → GH → Prop} (a0 : Nat) (H : gT G a0 = 11 ∧ Post (.inl (some (.int ((gI G 683 a0))))) G) : J E 3 m_Mo_barrier 78 [some (.ref a0), none] [] G Post := by
  refine j_aload_n d_Mo_barrier_78 rfl ?_
  obtain ⟨t1, H⟩ := H
  refine j_getI (f := 683) fe_Mo_254 rfl rfl t1 d_Mo_barrier_79 ?_
  exact j_iret rfl d_Mo_barrier_82 H
theorem wp_Mo_barrier_40 {E : EV} {G : GH} {Post : Res → GH → Prop} (a0 : Nat) (p1 : Int32) (H : ((3 : Int32) ≤ p1 → gT G a0 = 11 ∧ Post (.inl (some (.int ((gI G 683 a0))))) G) ∧ (¬ (3 : Int32) ≤ p1 → gT G a0 = 11 ∧ ∃ b3, gR G 661 a0 = some b3 ∧ ∃ b5, gR G 653 a0 = some b5 ∧ (gT G b5 = 20 ∨ gT G b5 = 25) ∧ ∃ n9, IX p1 n9 (gN G b5) ∧ gT G b3 = 20 ∧ ∃ n12, IX p1 n12 (gN G b3) ∧ ∃ b13, gR G 662 a0 = some b13 ∧ gT G b13 = 21 ∧ ∃ n17, IX p1 n17 (gN G b13) ∧ J E 3 m_Mo_barrier 40 [some (.ref a0), some (.int ((p1 + (1 : Int32))))] [] (sA (sA G b3 n12 ((gA G b5 n9))) b13 n17 ((0 : Int32))) Post)) : J E 3 m_Mo_barrier 40 [some (.ref a0), some (.int p1)] [] G Post := by
  refine j_iload_n d_Mo_barrier_40 rfl ?_
  refine j_iconst (v := 3) d_Mo_barrier_41 (by decide) ?_
  obtain ⟨Ha, Hb⟩ := H
  refine j_icmp_ge (tgt := 70) d_Mo_barrier_42 (by decide) (fun c18 => ?_) (fun c19 => ?_)
  · have H := Ha c18
    refine j_goto (tgt := 78) d_Mo_barrier_70 (by decide) ?_
    refine j_aload_n d_Mo_barrier_78 rfl ?_
    obtain ⟨t1, H⟩ := H
    refine j_getI (f := 683) fe_Mo_254 rfl rfl t1 d_Mo_barrier_79 ?_
    exact j_iret rfl d_Mo_barrier_82 H
  · have H := Hb c19
    refine j_aload_n d_Mo_barrier_45 rfl ?_
    obtain ⟨t2, H⟩ := H
    obtain ⟨b3, e4, H⟩ := H
    refine j_getR (f := 661) (b := b3) fe_Mo_61 rfl rfl t2 e4 d_Mo_barrier_46 ?_
    refine j_iload_n d_Mo_barrier_49 rfl ?_
    refine j_aload_n d_Mo_barrier_50 rfl ?_
    obtain ⟨b5, e6, H⟩ := H
    refine j_getR (f := 653) (b := b5) fe_Mo_42 rfl rfl t2 e6 d_Mo_barrier_51 ?_
    refine j_iload_n d_Mo_barrier_54 rfl ?_
    obtain ⟨t7, H⟩ := H
    obtain ⟨n9, x8, H⟩ := H
    refine j_iald (n := n9) t7 x8 d_Mo_barrier_55 ?_
    obtain ⟨t10, H⟩ := H
    obtain ⟨n12, x11, H⟩ := H
    refine j_iast (n := n12) t10 x11 d_Mo_barrier_56 ?_
    refine j_aload_n d_Mo_barrier_57 rfl ?_
    obtain ⟨b13, e14, H⟩ := H
    refine j_getR (f := 662) (b := b13) fe_Mo_64 rfl rfl t2 e14 d_Mo_barrier_58 ?_
    refine j_iload_n d_Mo_barrier_61 rfl ?_
    refine j_iconst (v := 0) d_Mo_barrier_62 (by decide) ?_
    obtain ⟨t15, H⟩ := H
    obtain ⟨n17, x16, H⟩ := H
    refine j_zast (n := n17) t15 x16 (by decide) d_Mo_barrier_63 ?_
    refine j_iinc (v := (p1 + (1 : Int32))) (L' := [some (.ref a0), some (.int ((p1 + (1 : Int32))))]) d_Mo_barrier_64 rfl (by rw [show Int32.ofInt (1) = (1 : Int32) by decide]) (by decide) rfl ?_
    refine j_goto (tgt := 40) d_Mo_barrier_67 (by decide) ?_
    exact H
theorem wp_Mo_confirm_0 {E : EV} {G : GH} {Post : Res → GH → Prop} (a0 : Nat) (H : gT G a0 = 11 ∧ ((gI G 684 a0) = 0 → Post (.inl (some (.int ((0 : Int32))))) (sI G 640 a0 ((1 : Int32)))) ∧ (¬ (gI G 684 a0) = 0 → Post (.inl (some (.int (((gI G 681 a0)))))) (sI (sI (sI G 640 a0 ((0 : Int32))) 684 a0 ((0 : Int32))) 682 a0 ((gI G 681 a0))))) : J E 2 m_Mo_confirm 0 [some (.ref a0)] [] G Post := by
  refine j_aload_n d_Mo_confirm_0 rfl ?_
  refine j_aload_n d_Mo_confirm_1 rfl ?_
  obtain ⟨t1, H⟩ := H
  refine j_getI (f := 684) fe_Mo_251 rfl rfl t1 d_Mo_confirm_2 ?_
  obtain ⟨Ha, Hb⟩ := H
  refine j_if_eq (tgt := 12) d_Mo_confirm_5 (by decide) (fun c2 => ?_) (fun c3 => ?_)
  · have H := Ha c2
    refine j_iconst (v := 1) d_Mo_confirm_12 (by decide) ?_
    refine j_callV (d' := 1) (ci := 10) (As := [.int ((1 : Int32))]) (rest := []) (b := a0) cv_Mo_149 me_Mo_isFine rfl (by decide) rfl rfl t1 rfl rfl (Nat.le_of_ble_eq_true rfl) d_Mo_confirm_13 (by decide) rfl (j_enter (L := [some (.ref a0), some (.int ((1 : Int32)))]) me_Mo_isFine (cat_c rfl (cat_c rfl cat_n)) (Nat.le_of_ble_eq_true rfl) rfl ?_)
    refine j_aload_n d_Mo_isFine_0 rfl ?_
    refine j_iload_n d_Mo_isFine_1 rfl ?_
    refine j_putI (f := 640) fw_Mo_139 rfl rfl t1 d_Mo_isFine_2 ?_
    refine j_iload_n d_Mo_isFine_5 rfl ?_
    refine j_if_ne (tgt := 13) d_Mo_isFine_6 (by decide) (fun _ => ?_) (fun c => absurd c (by decide))
    refine j_iconst (v := 0) d_Mo_isFine_13 (by decide) ?_
    refine j_zret rfl (by decide) d_Mo_isFine_14 ?_
    show J E 2 m_Mo_confirm 16 [some (.ref a0)] [.int ((0 : Int32))] (sI G 640 a0 ((1 : Int32))) Post
    refine j_if_ne (tgt := 21) d_Mo_confirm_16 (by decide) (fun c => absurd c (by decide)) (fun _ => ?_)
    refine j_iconst (v := 0) d_Mo_confirm_19 (by decide) ?_
    exact j_iret rfl d_Mo_confirm_20 H
  · have H := Hb c3
    refine j_iconst (v := 0) d_Mo_confirm_8 (by decide) ?_
    refine j_goto (tgt := 13) d_Mo_confirm_9 (by decide) ?_
    refine j_callV (d' := 1) (ci := 10) (As := [.int ((0 : Int32))]) (rest := []) (b := a0) cv_Mo_149 me_Mo_isFine rfl (by decide) rfl rfl t1 rfl rfl (Nat.le_of_ble_eq_true rfl) d_Mo_confirm_13 (by decide) rfl (j_enter (L := [some (.ref a0), some (.int ((0 : Int32)))]) me_Mo_isFine (cat_c rfl (cat_c rfl cat_n)) (Nat.le_of_ble_eq_true rfl) rfl ?_)
    refine j_aload_n d_Mo_isFine_0 rfl ?_
    refine j_iload_n d_Mo_isFine_1 rfl ?_
    refine j_putI (f := 640) fw_Mo_139 rfl rfl t1 d_Mo_isFine_2 ?_
    refine j_iload_n d_Mo_isFine_5 rfl ?_
    refine j_if_ne (tgt := 13) d_Mo_isFine_6 (by decide) (fun c => absurd c (by decide)) (fun _ => ?_)
    refine j_iconst (v := 1) d_Mo_isFine_9 (by decide) ?_
    refine j_goto (tgt := 14) d_Mo_isFine_10 (by decide) ?_
    refine j_zret rfl (by decide) d_Mo_isFine_14 ?_
    show J E 2 m_Mo_confirm 16 [some (.ref a0)] [.int ((1 : Int32))] (sI G 640 a0 ((0 : Int32))) Post
    refine j_if_ne (tgt := 21) d_Mo_confirm_16 (by decide) (fun _ => ?_) (fun c => absurd c (by decide))
    refine j_aload_n d_Mo_confirm_21 rfl ?_
    refine j_iconst (v := 0) d_Mo_confirm_22 (by decide) ?_
    refine j_putZ (f := 684) fw_Mo_251 rfl rfl t1 (by decide) d_Mo_confirm_23 ?_
    refine j_aload_n d_Mo_confirm_26 rfl ?_
    refine j_aload_n d_Mo_confirm_27 rfl ?_
    refine j_getI (f := 681) fe_Mo_248 rfl rfl t1 d_Mo_confirm_28 ?_
    refine j_putI (f := 682) fw_Mo_257 rfl rfl t1 d_Mo_confirm_31 ?_
    refine j_aload_n d_Mo_confirm_34 rfl ?_
    refine j_getIv (f := 682) (v := ((gI G 681 a0))) fe_Mo_257 rfl rfl t1 (show gI (sI (sI (sI G 640 a0 ((0 : Int32))) 684 a0 ((0 : Int32))) 682 a0 ((gI G 681 a0))) 682 a0 = _ from gI_sI_eq) d_Mo_confirm_35 ?_
    exact j_iret rfl d_Mo_confirm_38 H
theorem wp_Mo_restores_0 {E : EV} {G : GH} {Post : Res → GH → Prop} (a0 : Nat) (H : J E 4 m_Mo_restores 2 [some (.ref a0), some (.int ((0 : Int32)))] [] G Post) : J E 4 m_Mo_restores 0 [some (.ref a0), none] [] G Post := by
  refine j_iconst (v := 0) d_Mo_restores_0 (by decide) ?_
  refine j_istore_n (L' := [some (.ref a0), some (.int ((0 : Int32)))]) d_Mo_restores_1 (by decide) rfl ?_
  exact H
theorem wp_Mo_restores_2 {E : EV} {G : GH} {Post : Res → GH → Prop} (a0 : Nat) (p1 : Int32) (H : gT G a0 = 11 ∧ ((gI G 691 a0) ≤ p1 → J E 4 m_Mo_restores 98 [some (.ref a0), some (.int ((0 : Int32)))] [] (sI G 669 a0 ((gI G 691 a0))) Post) ∧ (¬ (gI G 691 a0) ≤ p1 → ∃ b2, gR G 663 a0 = some b2 ∧ ∃ b4, gR G 685 a0 = some b4 ∧ (gT G b4 = 20 ∨ gT G b4 = 25) ∧ ∃ n8, IX p1 n8 (gN G b4) ∧ gT G b2 = 20 ∧ ∃ n11, IX p1 n11 (gN G b2) ∧ ∃ b12, gR G 664 a0 = some b12 ∧ ∃ b14, gR G 686 a0 = some b14 ∧ (gT G b14 = 20 ∨ gT G b14 = 25) ∧ ∃ n18, IX p1 n18 (gN G b14) ∧ gT G b12 = 20 ∧ ∃ n21, IX p1 n21 (gN G b12) ∧ ∃ b22, gR G 665 a0 = some b22 ∧ ∃ b24, gR G 687 a0 = some b24 ∧ (gT G b24 = 20 ∨ gT G b24 = 25) ∧ ∃ n28, IX p1 n28 (gN G b24) ∧ gT G b22 = 20 ∧ ∃ n31, IX p1 n31 (gN G b22) ∧ ∀ G32, G32 = sA (sA (sA G b2 n11 ((gA G b4 n8))) b12 n21 ((gA (sA G b2 n11 ((gA G b4 n8))) b14 n18))) b22 n31 ((gA (sA (sA G b2 n11 ((gA G b4 n8))) b12 n21 ((gA (sA G b2 n11 ((gA G b4 n8))) b14 n18))) b24 n28)) → ∃ b34, gR G 666 a0 = some b34 ∧ ∃ b36, gR G 688 a0 = some b36 ∧ (gT G b36 = 20 ∨ gT G b36 = 25) ∧ ∃ n40, IX p1 n40 (gN G b36) ∧ gT G b34 = 20 ∧ ∃ n43, IX p1 n43 (gN G b34) ∧ ∃ b44, gR G 667 a0 = some b44 ∧ ∃ b46, gR G 689 a0 = some b46 ∧ (gT G b46 = 20 ∨ gT G b46 = 25) ∧ ∃ n50, IX p1 n50 (gN G b46) ∧ gT G b44 = 20 ∧ ∃ n53, IX p1 n53 (gN G b44) ∧ ∃ b54, gR G 668 a0 = some b54 ∧ ∃ b56, gR G 690 a0 = some b56 ∧ gT G b56 = 21 ∧ ∃ n60, IX p1 n60 (gN G b56) ∧ gT G b54 = 21 ∧ ∃ n63, IX p1 n63 (gN G b54) ∧ ((gA (sA (sA G32 b34 n43 ((gA G32 b36 n40))) b44 n53 ((gA (sA G32 b34 n43 ((gA G32 b36 n40))) b46 n50))) b56 n60) = 0 ∨ (gA (sA (sA G32 b34 n43 ((gA G32 b36 n40))) b44 n53 ((gA (sA G32 b34 n43 ((gA G32 b36 n40))) b46 n50))) b56 n60) = 1) ∧ ∀ G65, G65 = sA (sA (sA G32 b34 n43 ((gA G32 b36 n40))) b44 n53 ((gA (sA G32 b34 n43 ((gA G32 b36 n40))) b46 n50))) b54 n63 ((gA (sA (sA G32 b34 n43 ((gA G32 b36 n40))) b44 n53 ((gA (sA G32 b34 n43 ((gA G32 b36 n40))) b46 n50))) b56 n60)) → J E 4 m_Mo_restores 2 [some (.ref a0), some (.int ((p1 + (1 : Int32))))] [] G65 Post)) : J E 4 m_Mo_restores 2 [some (.ref a0), some (.int p1)] [] G Post := by
  refine j_iload_n d_Mo_restores_2 rfl ?_
  refine j_aload_n d_Mo_restores_3 rfl ?_
  obtain ⟨t1, H⟩ := H
  refine j_getI (f := 691) fe_Mo_236 rfl rfl t1 d_Mo_restores_4 ?_
  obtain ⟨Ha, Hb⟩ := H
  refine j_icmp_ge (tgt := 88) d_Mo_restores_7 (by decide) (fun c67 => ?_) (fun c68 => ?_)
  · have H := Ha c67
    refine j_aload_n d_Mo_restores_88 rfl ?_
    refine j_aload_n d_Mo_restores_89 rfl ?_
    refine j_getI (f := 691) fe_Mo_236 rfl rfl t1 d_Mo_restores_90 ?_
    refine j_putI (f := 669) fw_Mo_184 rfl rfl t1 d_Mo_restores_93 ?_
    refine j_iconst (v := 0) d_Mo_restores_96 (by decide) ?_
    refine j_istore_n (L' := [some (.ref a0), some (.int ((0 : Int32)))]) d_Mo_restores_97 (by decide) rfl ?_
    exact H
  · have H := Hb c68
    refine j_aload_n d_Mo_restores_10 rfl ?_
    obtain ⟨b2, e3, H⟩ := H
    refine j_getR (f := 663) (b := b2) fe_Mo_67 rfl rfl t1 e3 d_Mo_restores_11 ?_
    refine j_iload_n d_Mo_restores_14 rfl ?_
    refine j_aload_n d_Mo_restores_15 rfl ?_
    obtain ⟨b4, e5, H⟩ := H
    refine j_getR (f := 685) (b := b4) fe_Mo_109 rfl rfl t1 e5 d_Mo_restores_16 ?_
    refine j_iload_n d_Mo_restores_19 rfl ?_
    obtain ⟨t6, H⟩ := H
    obtain ⟨n8, x7, H⟩ := H
    refine j_iald (n := n8) t6 x7 d_Mo_restores_20 ?_
    obtain ⟨t9, H⟩ := H
    obtain ⟨n11, x10, H⟩ := H
    refine j_iast (n := n11) t9 x10 d_Mo_restores_21 ?_
    refine j_aload_n d_Mo_restores_22 rfl ?_
    obtain ⟨b12, e13, H⟩ := H
    refine j_getR (f := 664) (b := b12) fe_Mo_70 rfl rfl t1 e13 d_Mo_restores_23 ?_
    refine j_iload_n d_Mo_restores_26 rfl ?_
    refine j_aload_n d_Mo_restores_27 rfl ?_
    obtain ⟨b14, e15, H⟩ := H
    refine j_getR (f := 686) (b := b14) fe_Mo_112 rfl rfl t1 e15 d_Mo_restores_28 ?_
    refine j_iload_n d_Mo_restores_31 rfl ?_
    obtain ⟨t16, H⟩ := H
    obtain ⟨n18, x17, H⟩ := H
    refine j_iald (n := n18) t16 x17 d_Mo_restores_32 ?_
    obtain ⟨t19, H⟩ := H
    obtain ⟨n21, x20, H⟩ := H
    refine j_iast (n := n21) t19 x20 d_Mo_restores_33 ?_
    refine j_aload_n d_Mo_restores_34 rfl ?_
    obtain ⟨b22, e23, H⟩ := H
    refine j_getR (f := 665) (b := b22) fe_Mo_73 rfl rfl t1 e23 d_Mo_restores_35 ?_
    refine j_iload_n d_Mo_restores_38 rfl ?_
    refine j_aload_n d_Mo_restores_39 rfl ?_
    obtain ⟨b24, e25, H⟩ := H
    refine j_getR (f := 687) (b := b24) fe_Mo_115 rfl rfl t1 e25 d_Mo_restores_40 ?_
    refine j_iload_n d_Mo_restores_43 rfl ?_
    obtain ⟨t26, H⟩ := H
    obtain ⟨n28, x27, H⟩ := H
    refine j_iald (n := n28) t26 x27 d_Mo_restores_44 ?_
    obtain ⟨t29, H⟩ := H
    obtain ⟨n31, x30, H⟩ := H
    refine j_iast (n := n31) t29 x30 d_Mo_restores_45 ?_
    show J E 4 m_Mo_restores 46 [some (.ref a0), some (.int p1)] [] (sA (sA (sA G b2 n11 ((gA G b4 n8))) b12 n21 ((gA (sA G b2 n11 ((gA G b4 n8))) b14 n18))) b22 n31 ((gA (sA (sA G b2 n11 ((gA G b4 n8))) b12 n21 ((gA (sA G b2 n11 ((gA G b4 n8))) b14 n18))) b24 n28))) Post
    generalize e33 : sA (sA (sA G b2 n11 ((gA G b4 n8))) b12 n21 ((gA (sA G b2 n11 ((gA G b4 n8))) b14 n18))) b22 n31 ((gA (sA (sA G b2 n11 ((gA G b4 n8))) b12 n21 ((gA (sA G b2 n11 ((gA G b4 n8))) b14 n18))) b24 n28)) = G32
    have e33 := e33.symm
    have H := H G32 e33
    refine j_aload_n d_Mo_restores_46 rfl ?_
    obtain ⟨b34, e35, H⟩ := H
    refine j_getR (f := 666) (b := b34) fe_Mo_76 rfl rfl (by rw [e33]; exact t1) (by rw [e33]; exact e35) d_Mo_restores_47 ?_
    refine j_iload_n d_Mo_restores_50 rfl ?_
    refine j_aload_n d_Mo_restores_51 rfl ?_
    obtain ⟨b36, e37, H⟩ := H
    refine j_getR (f := 688) (b := b36) fe_Mo_118 rfl rfl (by rw [e33]; exact t1) (by rw [e33]; exact e37) d_Mo_restores_52 ?_
    refine j_iload_n d_Mo_restores_55 rfl ?_
    obtain ⟨t38, H⟩ := H
    obtain ⟨n40, x39, H⟩ := H
    refine j_iald (n := n40) (by rw [e33]; exact t38) (IX_n (by first | (rw [e33]; done) | (rw [e33]; rfl)) x39) d_Mo_restores_56 ?_
    obtain ⟨t41, H⟩ := H
    obtain ⟨n43, x42, H⟩ := H
    refine j_iast (n := n43) (by rw [e33]; exact t41) (IX_n (by first | (rw [e33]; done) | (rw [e33]; rfl)) x42) d_Mo_restores_57 ?_
    refine j_aload_n d_Mo_restores_58 rfl ?_
    obtain ⟨b44, e45, H⟩ := H
    refine j_getR (f := 667) (b := b44) fe_Mo_79 rfl rfl (by rw [e33]; exact t1) (by rw [e33]; exact e45) d_Mo_restores_59 ?_
    refine j_iload_n d_Mo_restores_62 rfl ?_
    refine j_aload_n d_Mo_restores_63 rfl ?_
    obtain ⟨b46, e47, H⟩ := H
    refine j_getR (f := 689) (b := b46) fe_Mo_121 rfl rfl (by rw [e33]; exact t1) (by rw [e33]; exact e47) d_Mo_restores_64 ?_
    refine j_iload_n d_Mo_restores_67 rfl ?_
    obtain ⟨t48, H⟩ := H
    obtain ⟨n50, x49, H⟩ := H
    refine j_iald (n := n50) (by rw [e33]; exact t48) (IX_n (by first | (rw [e33]; done) | (rw [e33]; rfl)) x49) d_Mo_restores_68 ?_
    obtain ⟨t51, H⟩ := H
    obtain ⟨n53, x52, H⟩ := H
    refine j_iast (n := n53) (by rw [e33]; exact t51) (IX_n (by first | (rw [e33]; done) | (rw [e33]; rfl)) x52) d_Mo_restores_69 ?_
    refine j_aload_n d_Mo_restores_70 rfl ?_
    obtain ⟨b54, e55, H⟩ := H
    refine j_getR (f := 668) (b := b54) fe_Mo_82 rfl rfl (by rw [e33]; exact t1) (by rw [e33]; exact e55) d_Mo_restores_71 ?_
    refine j_iload_n d_Mo_restores_74 rfl ?_
    refine j_aload_n d_Mo_restores_75 rfl ?_
    obtain ⟨b56, e57, H⟩ := H
    refine j_getR (f := 690) (b := b56) fe_Mo_124 rfl rfl (by rw [e33]; exact t1) (by rw [e33]; exact e57) d_Mo_restores_76 ?_
    refine j_iload_n d_Mo_restores_79 rfl ?_
    obtain ⟨t58, H⟩ := H
    obtain ⟨n60, x59, H⟩ := H
    refine j_zald (n := n60) (by rw [e33]; exact t58) (IX_n (by first | (rw [e33]; done) | (rw [e33]; rfl)) x59) d_Mo_restores_80 ?_
    obtain ⟨t61, H⟩ := H
    obtain ⟨n63, x62, H⟩ := H
    obtain ⟨z64, H⟩ := H
    refine j_zast (n := n63) (by rw [e33]; exact t61) (IX_n (by first | (rw [e33]; done) | (rw [e33]; rfl)) x62) z64 d_Mo_restores_81 ?_
    show J E 4 m_Mo_restores 82 [some (.ref a0), some (.int p1)] [] (sA (sA (sA G32 b34 n43 ((gA G32 b36 n40))) b44 n53 ((gA (sA G32 b34 n43 ((gA G32 b36 n40))) b46 n50))) b54 n63 ((gA (sA (sA G32 b34 n43 ((gA G32 b36 n40))) b44 n53 ((gA (sA G32 b34 n43 ((gA G32 b36 n40))) b46 n50))) b56 n60))) Post
    generalize e66 : sA (sA (sA G32 b34 n43 ((gA G32 b36 n40))) b44 n53 ((gA (sA G32 b34 n43 ((gA G32 b36 n40))) b46 n50))) b54 n63 ((gA (sA (sA G32 b34 n43 ((gA G32 b36 n40))) b44 n53 ((gA (sA G32 b34 n43 ((gA G32 b36 n40))) b46 n50))) b56 n60)) = G65
    have e66 := e66.symm
    have H := H G65 e66
    refine j_iinc (v := (p1 + (1 : Int32))) (L' := [some (.ref a0), some (.int ((p1 + (1 : Int32))))]) d_Mo_restores_82 rfl (by rw [show Int32.ofInt (1) = (1 : Int32) by decide]) (by decide) rfl ?_
    refine j_goto (tgt := 2) d_Mo_restores_85 (by decide) ?_
    exact H
theorem wp_Mo_restores_98 {E : EV} {G : GH} {Post : Res → GH → Prop} (a0 : Nat) (p1 : Int32) (H : ((3 : Int32) ≤ p1 → gT G a0 = 11 ∧ ∀ G2, G2 = sI (sI (sI (sI G 658 a0 ((gI G 695 a0))) 659 a0 ((gI G 696 a0))) 673 a0 ((gI G 697 a0))) 660 a0 ((0 : Int32)) → Cl E 3 m_Mo_grows [.ref a0] (sI (sI (sI G2 680 a0 ((gI G 681 a0))) 682 a0 ((gI G 681 a0))) 684 a0 ((0 : Int32))) (aft E 4 m_Mo_restores 196 [none, none] [] Post)) ∧ (¬ (3 : Int32) ≤ p1 → gT G a0 = 11 ∧ ∃ b5, gR G 653 a0 = some b5 ∧ ∃ b7, gR G 692 a0 = some b7 ∧ (gT G b7 = 20 ∨ gT G b7 = 25) ∧ ∃ n11, IX p1 n11 (gN G b7) ∧ gT G b5 = 20 ∧ ∃ n14, IX p1 n14 (gN G b5) ∧ ∃ b15, gR G 654 a0 = some b15 ∧ ∃ b17, gR G 693 a0 = some b17 ∧ (gT G b17 = 20 ∨ gT G b17 = 25) ∧ ∃ n21, IX p1 n21 (gN G b17) ∧ gT G b15 = 20 ∧ ∃ n24, IX p1 n24 (gN G b15) ∧ ∃ b25, gR G 657 a0 = some b25 ∧ ∃ b27, gR G 694 a0 = some b27 ∧ (gT G b27 = 20 ∨ gT G b27 = 25) ∧ ∃ n31, IX p1 n31 (gN G b27) ∧ gT G b25 = 20 ∧ ∃ n34, IX p1 n34 (gN G b25) ∧ ∀ G35, G35 = sA (sA (sA G b5 n14 ((gA G b7 n11))) b15 n24 ((gA (sA G b5 n14 ((gA G b7 n11))) b17 n21))) b25 n34 ((gA (sA (sA G b5 n14 ((gA G b7 n11))) b15 n24 ((gA (sA G b5 n14 ((gA G b7 n11))) b17 n21))) b27 n31)) → J E 4 m_Mo_restores 98 [some (.ref a0), some (.int ((p1 + (1 : Int32))))] [] G35 Post)) : J E 4 m_Mo_restores 98 [some (.ref a0), some (.int p1)] [] G Post := by
  refine j_iload_n d_Mo_restores_98 rfl ?_
  refine j_iconst (v := 3) d_Mo_restores_99 (by decide) ?_
  obtain ⟨Ha, Hb⟩ := H
  refine j_icmp_ge (tgt := 145) d_Mo_restores_100 (by decide) (fun c37 => ?_) (fun c38 => ?_)
  · have H := Ha c37
    refine j_aload_n d_Mo_restores_145 rfl ?_
    refine j_aload_n d_Mo_restores_146 rfl ?_
    obtain ⟨t1, H⟩ := H
    refine j_getI (f := 695) fe_Mo_136 rfl rfl t1 d_Mo_restores_147 ?_
    refine j_putI (f := 658) fw_Mo_58 rfl rfl t1 d_Mo_restores_150 ?_
    refine j_aload_n d_Mo_restores_153 rfl ?_
    refine j_aload_n d_Mo_restores_154 rfl ?_
    refine j_getI (f := 696) fe_Mo_242 rfl rfl t1 d_Mo_restores_155 ?_
    refine j_putI (f := 659) fw_Mo_214 rfl rfl t1 d_Mo_restores_158 ?_
    refine j_aload_n d_Mo_restores_161 rfl ?_
    refine j_aload_n d_Mo_restores_162 rfl ?_
    refine j_getI (f := 697) fe_Mo_245 rfl rfl t1 d_Mo_restores_163 ?_
    refine j_putI (f := 673) fw_Mo_217 rfl rfl t1 d_Mo_restores_166 ?_
    refine j_aload_n d_Mo_restores_169 rfl ?_
    refine j_iconst (v := 0) d_Mo_restores_170 (by decide) ?_
    refine j_putZ (f := 660) fw_Mo_220 rfl rfl t1 (by decide) d_Mo_restores_171 ?_
    show J E 4 m_Mo_restores 174 [some (.ref a0), some (.int p1)] [] (sI (sI (sI (sI G 658 a0 ((gI G 695 a0))) 659 a0 ((gI G 696 a0))) 673 a0 ((gI G 697 a0))) 660 a0 ((0 : Int32))) Post
    generalize e3 : sI (sI (sI (sI G 658 a0 ((gI G 695 a0))) 659 a0 ((gI G 696 a0))) 673 a0 ((gI G 697 a0))) 660 a0 ((0 : Int32)) = G2
    have e3 := e3.symm
    have H := H G2 e3
    refine j_aload_n d_Mo_restores_174 rfl ?_
    refine j_aload_n d_Mo_restores_175 rfl ?_
    refine j_getIv (f := 681) (v := (gI G 681 a0)) fe_Mo_248 rfl rfl (by rw [e3]; exact t1) (by rw [e3]; rfl) d_Mo_restores_176 ?_
    refine j_putI (f := 680) fw_Mo_169 rfl rfl (by rw [e3]; exact t1) d_Mo_restores_179 ?_
    refine j_aload_n d_Mo_restores_182 rfl ?_
    refine j_aload_n d_Mo_restores_183 rfl ?_
    refine j_getIv (f := 681) (v := (gI G 681 a0)) fe_Mo_248 rfl rfl (by rw [e3]; exact t1) (by rw [e3]; rfl) d_Mo_restores_184 ?_
    refine j_putI (f := 682) fw_Mo_257 rfl rfl (by rw [e3]; exact t1) d_Mo_restores_187 ?_
    refine j_aload_n d_Mo_restores_190 rfl ?_
    refine j_iconst (v := 0) d_Mo_restores_191 (by decide) ?_
    refine j_putZ (f := 684) fw_Mo_251 rfl rfl (by rw [e3]; exact t1) (by decide) d_Mo_restores_192 ?_
    refine j_aload_n d_Mo_restores_195 rfl ?_
    refine j_forget (L' := [none, none]) ⟨Or.inl rfl, Or.inl rfl, trivial⟩ ?_
    exact j_callV (d' := 3) (ci := 10) (As := []) (rest := []) (b := a0) cv_Mo_162 me_Mo_grows rfl (by decide) rfl rfl (by rw [e3]; exact t1) rfl rfl (Nat.le_of_ble_eq_true rfl) d_Mo_restores_196 (by decide) rfl H
  · have H := Hb c38
    refine j_aload_n d_Mo_restores_103 rfl ?_
    obtain ⟨t4, H⟩ := H
    obtain ⟨b5, e6, H⟩ := H
    refine j_getR (f := 653) (b := b5) fe_Mo_42 rfl rfl t4 e6 d_Mo_restores_104 ?_
    refine j_iload_n d_Mo_restores_107 rfl ?_
    refine j_aload_n d_Mo_restores_108 rfl ?_
    obtain ⟨b7, e8, H⟩ := H
    refine j_getR (f := 692) (b := b7) fe_Mo_127 rfl rfl t4 e8 d_Mo_restores_109 ?_
    refine j_iload_n d_Mo_restores_112 rfl ?_
    obtain ⟨t9, H⟩ := H
    obtain ⟨n11, x10, H⟩ := H
    refine j_iald (n := n11) t9 x10 d_Mo_restores_113 ?_
    obtain ⟨t12, H⟩ := H
    obtain ⟨n14, x13, H⟩ := H
    refine j_iast (n := n14) t12 x13 d_Mo_restores_114 ?_
    refine j_aload_n d_Mo_restores_115 rfl ?_
    obtain ⟨b15, e16, H⟩ := H
    refine j_getR (f := 654) (b := b15) fe_Mo_45 rfl rfl t4 e16 d_Mo_restores_116 ?_
    refine j_iload_n d_Mo_restores_119 rfl ?_
    refine j_aload_n d_Mo_restores_120 rfl ?_
    obtain ⟨b17, e18, H⟩ := H
    refine j_getR (f := 693) (b := b17) fe_Mo_130 rfl rfl t4 e18 d_Mo_restores_121 ?_
    refine j_iload_n d_Mo_restores_124 rfl ?_
    obtain ⟨t19, H⟩ := H
    obtain ⟨n21, x20, H⟩ := H
    refine j_iald (n := n21) t19 x20 d_Mo_restores_125 ?_
    obtain ⟨t22, H⟩ := H
    obtain ⟨n24, x23, H⟩ := H
    refine j_iast (n := n24) t22 x23 d_Mo_restores_126 ?_
    refine j_aload_n d_Mo_restores_127 rfl ?_
    obtain ⟨b25, e26, H⟩ := H
    refine j_getR (f := 657) (b := b25) fe_Mo_55 rfl rfl t4 e26 d_Mo_restores_128 ?_
    refine j_iload_n d_Mo_restores_131 rfl ?_
    refine j_aload_n d_Mo_restores_132 rfl ?_
    obtain ⟨b27, e28, H⟩ := H
    refine j_getR (f := 694) (b := b27) fe_Mo_133 rfl rfl t4 e28 d_Mo_restores_133 ?_
    refine j_iload_n d_Mo_restores_136 rfl ?_
    obtain ⟨t29, H⟩ := H
    obtain ⟨n31, x30, H⟩ := H
    refine j_iald (n := n31) t29 x30 d_Mo_restores_137 ?_
    obtain ⟨t32, H⟩ := H
    obtain ⟨n34, x33, H⟩ := H
    refine j_iast (n := n34) t32 x33 d_Mo_restores_138 ?_
    show J E 4 m_Mo_restores 139 [some (.ref a0), some (.int p1)] [] (sA (sA (sA G b5 n14 ((gA G b7 n11))) b15 n24 ((gA (sA G b5 n14 ((gA G b7 n11))) b17 n21))) b25 n34 ((gA (sA (sA G b5 n14 ((gA G b7 n11))) b15 n24 ((gA (sA G b5 n14 ((gA G b7 n11))) b17 n21))) b27 n31))) Post
    generalize e36 : sA (sA (sA G b5 n14 ((gA G b7 n11))) b15 n24 ((gA (sA G b5 n14 ((gA G b7 n11))) b17 n21))) b25 n34 ((gA (sA (sA G b5 n14 ((gA G b7 n11))) b15 n24 ((gA (sA G b5 n14 ((gA G b7 n11))) b17 n21))) b27 n31)) = G35
    have e36 := e36.symm
    have H := H G35 e36
    refine j_iinc (v := (p1 + (1 : Int32))) (L' := [some (.ref a0), some (.int ((p1 + (1 : Int32))))]) d_Mo_restores_139 rfl (by rw [show Int32.ofInt (1) = (1 : Int32) by decide]) (by decide) rfl ?_
    refine j_goto (tgt := 98) d_Mo_restores_142 (by decide) ?_
    exact H
theorem wp_Mo_restores_199 {E : EV} {G : GH} {Post : Res → GH → Prop}  (H : Post (.inl none) G) : J E 4 m_Mo_restores 199 [none, none] [] G Post := by
  exact j_vret rfl d_Mo_restores_199 H
theorem wp_Mo_fail_0 {E : EV} {G : GH} {Post : Res → GH → Prop} (a0 : Nat) (H : gT G a0 = 11 ∧ Cl E 4 m_Mo_restores [.ref a0] (sI G 640 a0 ((0 : Int32))) (aft E 5 m_Mo_fail 6 [some (.ref a0)] [] Post)) : J E 5 m_Mo_fail 0 [some (.ref a0)] [] G Post := by
  refine j_aload_n d_Mo_fail_0 rfl ?_
  refine j_iconst (v := 0) d_Mo_fail_1 (by decide) ?_
  obtain ⟨t1, H⟩ := H
  refine j_putI (f := 640) fw_Mo_139 rfl rfl t1 d_Mo_fail_2 ?_
  refine j_aload_n d_Mo_fail_5 rfl ?_
  exact j_callV (d' := 4) (ci := 10) (As := []) (rest := []) (b := a0) cv_Mo_260 me_Mo_restores rfl (by decide) rfl rfl t1 rfl rfl (Nat.le_of_ble_eq_true rfl) d_Mo_fail_6 (by decide) rfl H
theorem wp_Mo_fail_9 {E : EV} {G : GH} {Post : Res → GH → Prop} (a0 : Nat) (H : gT G a0 = 11 ∧ Post (.inl (some (.int ((gI G 682 a0))))) G) : J E 5 m_Mo_fail 9 [some (.ref a0)] [] G Post := by
  refine j_aload_n d_Mo_fail_9 rfl ?_
  obtain ⟨t1, H⟩ := H
  refine j_getI (f := 682) fe_Mo_257 rfl rfl t1 d_Mo_fail_10 ?_
  exact j_iret rfl d_Mo_fail_13 H
theorem wp_Mo_workers_0 {E : EV} {G : GH} {Post : Res → GH → Prop} (a0 : Nat) (p1 : Int32) (H : (p1 < (1 : Int32) → gT G a0 = 11 ∧ Post (.inl (some (.int ((0 : Int32))))) (sI G 640 a0 ((1 : Int32)))) ∧ (¬ p1 < (1 : Int32) → ((3 : Int32) < p1 → gT G a0 = 11 ∧ Post (.inl (some (.int ((0 : Int32))))) (sI G 640 a0 ((1 : Int32)))) ∧ (¬ (3 : Int32) < p1 → gT G a0 = 11 ∧ (¬ (gI G 683 a0) = 0 → J E 5 m_Mo_workers 38 [some (.ref a0), some (.int p1), some (.int ((0 : Int32))), some (.int ((0 : Int32)))] [] (sI G 640 a0 ((0 : Int32))) Post) ∧ ((gI G 683 a0) = 0 → Post (.inl (some (.int ((0 : Int32))))) (sI G 640 a0 ((2 : Int32))))))) : J E 5 m_Mo_workers 0 [some (.ref a0), some (.int p1), none, none] [] G Post := by
  refine j_aload_n d_Mo_workers_0 rfl ?_
  refine j_iload_n d_Mo_workers_1 rfl ?_
  refine j_iconst (v := 1) d_Mo_workers_2 (by decide) ?_
  refine j_iconst (v := 3) d_Mo_workers_3 (by decide) ?_
  refine j_callS (d' := 1) (As := [.int p1, .int ((1 : Int32)), .int ((3 : Int32))]) (rest := [.ref a0]) cs_Mo_142 me_Mo_isIn rfl (by decide) rfl rfl (Nat.le_of_ble_eq_true rfl) d_Mo_workers_4 (by decide) rfl (j_enter (L := [some (.int p1), some (.int ((1 : Int32))), some (.int ((3 : Int32)))]) me_Mo_isIn (cat_c rfl (cat_c rfl (cat_c rfl cat_n))) (Nat.le_of_ble_eq_true rfl) rfl ?_)
  refine j_iload_n d_Mo_isIn_0 rfl ?_
  refine j_iload_n d_Mo_isIn_1 rfl ?_
  obtain ⟨Ha, Hb⟩ := H
  refine j_icmp_lt (tgt := 14) d_Mo_isIn_2 (by decide) (fun c8 => ?_) (fun c9 => ?_)
  · have H := Ha c8
    refine j_iconst (v := 0) d_Mo_isIn_14 (by decide) ?_
    refine j_zret rfl (by decide) d_Mo_isIn_15 ?_
    show J E 5 m_Mo_workers 7 [some (.ref a0), some (.int p1), none, none] [.int ((0 : Int32)), .ref a0] G Post
    refine j_if_ne (tgt := 14) d_Mo_workers_7 (by decide) (fun c => absurd c (by decide)) (fun _ => ?_)
    refine j_iconst (v := 1) d_Mo_workers_10 (by decide) ?_
    refine j_goto (tgt := 26) d_Mo_workers_11 (by decide) ?_
    obtain ⟨t1, H⟩ := H
    refine j_callV (d' := 1) (ci := 10) (As := [.int ((1 : Int32))]) (rest := []) (b := a0) cv_Mo_149 me_Mo_isFine rfl (by decide) rfl rfl t1 rfl rfl (Nat.le_of_ble_eq_true rfl) d_Mo_workers_26 (by decide) rfl (j_enter (L := [some (.ref a0), some (.int ((1 : Int32)))]) me_Mo_isFine (cat_c rfl (cat_c rfl cat_n)) (Nat.le_of_ble_eq_true rfl) rfl ?_)
    refine j_aload_n d_Mo_isFine_0 rfl ?_
    refine j_iload_n d_Mo_isFine_1 rfl ?_
    refine j_putI (f := 640) fw_Mo_139 rfl rfl t1 d_Mo_isFine_2 ?_
    refine j_iload_n d_Mo_isFine_5 rfl ?_
    refine j_if_ne (tgt := 13) d_Mo_isFine_6 (by decide) (fun _ => ?_) (fun c => absurd c (by decide))
    refine j_iconst (v := 0) d_Mo_isFine_13 (by decide) ?_
    refine j_zret rfl (by decide) d_Mo_isFine_14 ?_
    show J E 5 m_Mo_workers 29 [some (.ref a0), some (.int p1), none, none] [.int ((0 : Int32))] (sI G 640 a0 ((1 : Int32))) Post
    refine j_if_ne (tgt := 34) d_Mo_workers_29 (by decide) (fun c => absurd c (by decide)) (fun _ => ?_)
    refine j_iconst (v := 0) d_Mo_workers_32 (by decide) ?_
    exact j_iret rfl d_Mo_workers_33 H
  · have H := Hb c9
    refine j_iload_n d_Mo_isIn_5 rfl ?_
    refine j_iload_n d_Mo_isIn_6 rfl ?_
    obtain ⟨Ha, Hb⟩ := H
    refine j_icmp_gt (tgt := 14) d_Mo_isIn_7 (by decide) (fun c6 => ?_) (fun c7 => ?_)
    · have H := Ha c6
      refine j_iconst (v := 0) d_Mo_isIn_14 (by decide) ?_
      refine j_zret rfl (by decide) d_Mo_isIn_15 ?_
      show J E 5 m_Mo_workers 7 [some (.ref a0), some (.int p1), none, none] [.int ((0 : Int32)), .ref a0] G Post
      refine j_if_ne (tgt := 14) d_Mo_workers_7 (by decide) (fun c => absurd c (by decide)) (fun _ => ?_)
      refine j_iconst (v := 1) d_Mo_workers_10 (by decide) ?_
      refine j_goto (tgt := 26) d_Mo_workers_11 (by decide) ?_
      obtain ⟨t2, H⟩ := H
      refine j_callV (d' := 1) (ci := 10) (As := [.int ((1 : Int32))]) (rest := []) (b := a0) cv_Mo_149 me_Mo_isFine rfl (by decide) rfl rfl t2 rfl rfl (Nat.le_of_ble_eq_true rfl) d_Mo_workers_26 (by decide) rfl (j_enter (L := [some (.ref a0), some (.int ((1 : Int32)))]) me_Mo_isFine (cat_c rfl (cat_c rfl cat_n)) (Nat.le_of_ble_eq_true rfl) rfl ?_)
      refine j_aload_n d_Mo_isFine_0 rfl ?_
      refine j_iload_n d_Mo_isFine_1 rfl ?_
      refine j_putI (f := 640) fw_Mo_139 rfl rfl t2 d_Mo_isFine_2 ?_
      refine j_iload_n d_Mo_isFine_5 rfl ?_
      refine j_if_ne (tgt := 13) d_Mo_isFine_6 (by decide) (fun _ => ?_) (fun c => absurd c (by decide))
      refine j_iconst (v := 0) d_Mo_isFine_13 (by decide) ?_
      refine j_zret rfl (by decide) d_Mo_isFine_14 ?_
      show J E 5 m_Mo_workers 29 [some (.ref a0), some (.int p1), none, none] [.int ((0 : Int32))] (sI G 640 a0 ((1 : Int32))) Post
      refine j_if_ne (tgt := 34) d_Mo_workers_29 (by decide) (fun c => absurd c (by decide)) (fun _ => ?_)
      refine j_iconst (v := 0) d_Mo_workers_32 (by decide) ?_
      exact j_iret rfl d_Mo_workers_33 H
    · have H := Hb c7
      refine j_iconst (v := 1) d_Mo_isIn_10 (by decide) ?_
      refine j_goto (tgt := 15) d_Mo_isIn_11 (by decide) ?_
      refine j_zret rfl (by decide) d_Mo_isIn_15 ?_
      show J E 5 m_Mo_workers 7 [some (.ref a0), some (.int p1), none, none] [.int ((1 : Int32)), .ref a0] G Post
      refine j_if_ne (tgt := 14) d_Mo_workers_7 (by decide) (fun _ => ?_) (fun c => absurd c (by decide))
      refine j_aload_n d_Mo_workers_14 rfl ?_
      obtain ⟨t3, H⟩ := H
      refine j_getI (f := 683) fe_Mo_254 rfl rfl t3 d_Mo_workers_15 ?_
      obtain ⟨Ha, Hb⟩ := H
      refine j_if_ne (tgt := 25) d_Mo_workers_18 (by decide) (fun c4 => ?_) (fun c5 => ?_)
      · have H := Ha c4
        refine j_iconst (v := 0) d_Mo_workers_25 (by decide) ?_
        refine j_callV (d' := 1) (ci := 10) (As := [.int ((0 : Int32))]) (rest := []) (b := a0) cv_Mo_149 me_Mo_isFine rfl (by decide) rfl rfl t3 rfl rfl (Nat.le_of_ble_eq_true rfl) d_Mo_workers_26 (by decide) rfl (j_enter (L := [some (.ref a0), some (.int ((0 : Int32)))]) me_Mo_isFine (cat_c rfl (cat_c rfl cat_n)) (Nat.le_of_ble_eq_true rfl) rfl ?_)
        refine j_aload_n d_Mo_isFine_0 rfl ?_
        refine j_iload_n d_Mo_isFine_1 rfl ?_
        refine j_putI (f := 640) fw_Mo_139 rfl rfl t3 d_Mo_isFine_2 ?_
        refine j_iload_n d_Mo_isFine_5 rfl ?_
        refine j_if_ne (tgt := 13) d_Mo_isFine_6 (by decide) (fun c => absurd c (by decide)) (fun _ => ?_)
        refine j_iconst (v := 1) d_Mo_isFine_9 (by decide) ?_
        refine j_goto (tgt := 14) d_Mo_isFine_10 (by decide) ?_
        refine j_zret rfl (by decide) d_Mo_isFine_14 ?_
        show J E 5 m_Mo_workers 29 [some (.ref a0), some (.int p1), none, none] [.int ((1 : Int32))] (sI G 640 a0 ((0 : Int32))) Post
        refine j_if_ne (tgt := 34) d_Mo_workers_29 (by decide) (fun _ => ?_) (fun c => absurd c (by decide))
        refine j_iconst (v := 0) d_Mo_workers_34 (by decide) ?_
        refine j_istore_n (L' := [some (.ref a0), some (.int p1), some (.int ((0 : Int32))), none]) d_Mo_workers_35 (by decide) rfl ?_
        refine j_iconst (v := 0) d_Mo_workers_36 (by decide) ?_
        refine j_istore_n (L' := [some (.ref a0), some (.int p1), some (.int ((0 : Int32))), some (.int ((0 : Int32)))]) d_Mo_workers_37 (by decide) rfl ?_
        exact H
      · have H := Hb c5
        refine j_iconst (v := 2) d_Mo_workers_21 (by decide) ?_
        refine j_goto (tgt := 26) d_Mo_workers_22 (by decide) ?_
        refine j_callV (d' := 1) (ci := 10) (As := [.int ((2 : Int32))]) (rest := []) (b := a0) cv_Mo_149 me_Mo_isFine rfl (by decide) rfl rfl t3 rfl rfl (Nat.le_of_ble_eq_true rfl) d_Mo_workers_26 (by decide) rfl (j_enter (L := [some (.ref a0), some (.int ((2 : Int32)))]) me_Mo_isFine (cat_c rfl (cat_c rfl cat_n)) (Nat.le_of_ble_eq_true rfl) rfl ?_)
        refine j_aload_n d_Mo_isFine_0 rfl ?_
        refine j_iload_n d_Mo_isFine_1 rfl ?_
        refine j_putI (f := 640) fw_Mo_139 rfl rfl t3 d_Mo_isFine_2 ?_
        refine j_iload_n d_Mo_isFine_5 rfl ?_
        refine j_if_ne (tgt := 13) d_Mo_isFine_6 (by decide) (fun _ => ?_) (fun c => absurd c (by decide))
        refine j_iconst (v := 0) d_Mo_isFine_13 (by decide) ?_
        refine j_zret rfl (by decide) d_Mo_isFine_14 ?_
        show J E 5 m_Mo_workers 29 [some (.ref a0), some (.int p1), none, none] [.int ((0 : Int32))] (sI G 640 a0 ((2 : Int32))) Post
        refine j_if_ne (tgt := 34) d_Mo_workers_29 (by decide) (fun c => absurd c (by decide)) (fun _ => ?_)
        refine j_iconst (v := 0) d_Mo_workers_32 (by decide) ?_
        exact j_iret rfl d_Mo_workers_33 H
theorem wp_Mo_workers_38 {E : EV} {G : GH} {Post : Res → GH → Prop} (a0 : Nat) (p1 : Int32) (p2 : Int32) (p3 : Int32) (H : ((6 : Int32) ≤ p3 → gT G a0 = 11 ∧ Cl E 4 m_Mo_restores [.ref a0] (sI G 647 a0 p1) (aft E 5 m_Mo_workers 82 [none, none, some (.int p2), none] [] Post)) ∧ (¬ (6 : Int32) ≤ p3 → gT G a0 = 11 ∧ (¬ ((p3 * p1) / (6 : Int32)) = ((p3 * (gI G 647 a0)) / (6 : Int32)) → J E 5 m_Mo_workers 38 [some (.ref a0), some (.int p1), some (.int ((p2 + (1 : Int32)))), some (.int ((p3 + (1 : Int32))))] [] G Post) ∧ (((p3 * p1) / (6 : Int32)) = ((p3 * (gI G 647 a0)) / (6 : Int32)) → J E 5 m_Mo_workers 38 [some (.ref a0), some (.int p1), some (.int ((p2 + (0 : Int32)))), some (.int ((p3 + (1 : Int32))))] [] G Post))) : J E 5 m_Mo_workers 38 [some (.ref a0), some (.int p1), some (.int p2), some (.int p3)] [] G Post := by
  refine j_iload_n d_Mo_workers_38 rfl ?_
  refine j_bipush (v := 6) d_Mo_workers_39 (by decide) ?_
  obtain ⟨Ha, Hb⟩ := H
  refine j_icmp_ge (tgt := 76) d_Mo_workers_41 (by decide) (fun c5 => ?_) (fun c6 => ?_)
  · have H := Ha c5
    refine j_aload_n d_Mo_workers_76 rfl ?_
    refine j_iload_n d_Mo_workers_77 rfl ?_
    obtain ⟨t1, H⟩ := H
    refine j_putI (f := 647) fw_Mo_26 rfl rfl t1 d_Mo_workers_78 ?_
    refine j_aload_n d_Mo_workers_81 rfl ?_
    refine j_forget (L' := [none, none, some (.int p2), none]) ⟨Or.inl rfl, Or.inl rfl, Or.inr rfl, Or.inl rfl, trivial⟩ ?_
    exact j_callV (d' := 4) (ci := 10) (As := []) (rest := []) (b := a0) cv_Mo_260 me_Mo_restores rfl (by decide) rfl rfl t1 rfl rfl (Nat.le_of_ble_eq_true rfl) d_Mo_workers_82 (by decide) rfl H
  · have H := Hb c6
    refine j_iload_n d_Mo_workers_44 rfl ?_
    refine j_iload_n d_Mo_workers_45 rfl ?_
    refine j_iload_n d_Mo_workers_46 rfl ?_
    refine j_imul d_Mo_workers_47 ?_
    refine j_bipush (v := 6) d_Mo_workers_48 (by decide) ?_
    refine j_idiv d_Mo_workers_50 (by decide) ?_
    refine j_iload_n d_Mo_workers_51 rfl ?_
    refine j_aload_n d_Mo_workers_52 rfl ?_
    obtain ⟨t2, H⟩ := H
    refine j_getI (f := 647) fe_Mo_26 rfl rfl t2 d_Mo_workers_53 ?_
    refine j_imul d_Mo_workers_56 ?_
    refine j_bipush (v := 6) d_Mo_workers_57 (by decide) ?_
    refine j_idiv d_Mo_workers_59 (by decide) ?_
    obtain ⟨Ha, Hb⟩ := H
    refine j_icmp_ne (tgt := 67) d_Mo_workers_60 (by decide) (fun c3 => ?_) (fun c4 => ?_)
    · have H := Ha c3
      refine j_iconst (v := 1) d_Mo_workers_67 (by decide) ?_
      refine j_iadd d_Mo_workers_68 ?_
      refine j_istore_n (L' := [some (.ref a0), some (.int p1), some (.int ((p2 + (1 : Int32)))), some (.int p3)]) d_Mo_workers_69 (by decide) rfl ?_
      refine j_iinc (v := (p3 + (1 : Int32))) (L' := [some (.ref a0), some (.int p1), some (.int ((p2 + (1 : Int32)))), some (.int ((p3 + (1 : Int32))))]) d_Mo_workers_70 rfl (by rw [show Int32.ofInt (1) = (1 : Int32) by decide]) (by decide) rfl ?_
      refine j_goto (tgt := 38) d_Mo_workers_73 (by decide) ?_
      exact H
    · have H := Hb c4
      refine j_iconst (v := 0) d_Mo_workers_63 (by decide) ?_
      refine j_goto (tgt := 68) d_Mo_workers_64 (by decide) ?_
      refine j_iadd d_Mo_workers_68 ?_
      refine j_istore_n (L' := [some (.ref a0), some (.int p1), some (.int ((p2 + (0 : Int32)))), some (.int p3)]) d_Mo_workers_69 (by decide) rfl ?_
      refine j_iinc (v := (p3 + (1 : Int32))) (L' := [some (.ref a0), some (.int p1), some (.int ((p2 + (0 : Int32)))), some (.int ((p3 + (1 : Int32))))]) d_Mo_workers_70 rfl (by rw [show Int32.ofInt (1) = (1 : Int32) by decide]) (by decide) rfl ?_
      refine j_goto (tgt := 38) d_Mo_workers_73 (by decide) ?_
      exact H
theorem wp_Mo_workers_85 {E : EV} {G : GH} {Post : Res → GH → Prop} (p2 : Int32) (H : Post (.inl (some (.int p2))) G) : J E 5 m_Mo_workers 85 [none, none, some (.int p2), none] [] G Post := by
  refine j_iload_n d_Mo_workers_85 rfl ?_
  exact j_iret rfl d_Mo_workers_86 H
theorem wp_Mo_watermark_0 {E : EV} {G : GH} {Post : Res → GH → Prop} (a0 : Nat) (H : gT G a0 = 11 ∧ Post (.inl (some (.int ((gI G 658 a0))))) (sI G 640 a0 ((0 : Int32)))) : J E 1 m_Mo_watermark 0 [some (.ref a0)] [] G Post := by
  refine j_aload_n d_Mo_watermark_0 rfl ?_
  refine j_iconst (v := 0) d_Mo_watermark_1 (by decide) ?_
  obtain ⟨t1, H⟩ := H
  refine j_putI (f := 640) fw_Mo_139 rfl rfl t1 d_Mo_watermark_2 ?_
  refine j_aload_n d_Mo_watermark_5 rfl ?_
  refine j_getI (f := 658) fe_Mo_58 rfl rfl t1 d_Mo_watermark_6 ?_
  exact j_iret rfl d_Mo_watermark_9 H
theorem wp_Mo_sourceWatermark_0 {E : EV} {G : GH} {Post : Res → GH → Prop} (a0 : Nat) (p1 : Int32) (H : (p1 < (0 : Int32) → gT G a0 = 11 ∧ Post (.inl (some (.int ((0 : Int32))))) (sI G 640 a0 ((1 : Int32)))) ∧ (¬ p1 < (0 : Int32) → ((2 : Int32) < p1 → gT G a0 = 11 ∧ Post (.inl (some (.int ((0 : Int32))))) (sI G 640 a0 ((1 : Int32)))) ∧ (¬ (2 : Int32) < p1 → gT G a0 = 11 ∧ ∃ b4, gR G 657 a0 = some b4 ∧ (gT G b4 = 20 ∨ gT G b4 = 25) ∧ ∃ n8, IX p1 n8 (gN G b4) ∧ (¬ (gA (sI G 640 a0 ((0 : Int32))) b4 n8) = (-1 : Int32) → ∃ b9, gR G 655 a0 = some b9 ∧ (gT G b9 = 20 ∨ gT G b9 = 25) ∧ ∃ n13, IX p1 n13 (gN G b9) ∧ ((-1 : Int32) ≤ ((gA (sI G 640 a0 ((0 : Int32))) b4 n8) - (gA (sI G 640 a0 ((0 : Int32))) b9 n13)) → Post (.inl (some (.int (((gA (sI G 640 a0 ((0 : Int32))) b4 n8) - (gA (sI G 640 a0 ((0 : Int32))) b9 n13)))))) (sI G 640 a0 ((0 : Int32)))) ∧ (¬ (-1 : Int32) ≤ ((gA (sI G 640 a0 ((0 : Int32))) b4 n8) - (gA (sI G 640 a0 ((0 : Int32))) b9 n13)) → Post (.inl (some (.int ((-1 : Int32))))) (sI G 640 a0 ((0 : Int32))))) ∧ ((gA (sI G 640 a0 ((0 : Int32))) b4 n8) = (-1 : Int32) → Post (.inl (some (.int ((-1 : Int32))))) (sI G 640 a0 ((0 : Int32))))))) : J E 3 m_Mo_sourceWatermark 0 [some (.ref a0), some (.int p1)] [] G Post := by
  refine j_aload_n d_Mo_sourceWatermark_0 rfl ?_
  refine j_iload_n d_Mo_sourceWatermark_1 rfl ?_
  refine j_callS (d' := 2) (As := [.int p1]) (rest := [.ref a0]) cs_Mo_156 me_Mo_isSource rfl (by decide) rfl rfl (Nat.le_of_ble_eq_true rfl) d_Mo_sourceWatermark_2 (by decide) rfl (j_enter (L := [some (.int p1)]) me_Mo_isSource (cat_c rfl cat_n) (Nat.le_of_ble_eq_true rfl) rfl ?_)
  refine j_iload_n d_Mo_isSource_0 rfl ?_
  refine j_iconst (v := 0) d_Mo_isSource_1 (by decide) ?_
  refine j_iconst (v := 2) d_Mo_isSource_2 (by decide) ?_
  refine j_callS (d' := 1) (As := [.int p1, .int ((0 : Int32)), .int ((2 : Int32))]) (rest := []) cs_Mo_142 me_Mo_isIn rfl (by decide) rfl rfl (Nat.le_of_ble_eq_true rfl) d_Mo_isSource_3 (by decide) rfl (j_enter (L := [some (.int p1), some (.int ((0 : Int32))), some (.int ((2 : Int32)))]) me_Mo_isIn (cat_c rfl (cat_c rfl (cat_c rfl cat_n))) (Nat.le_of_ble_eq_true rfl) rfl ?_)
  refine j_iload_n d_Mo_isIn_0 rfl ?_
  refine j_iload_n d_Mo_isIn_1 rfl ?_
  obtain ⟨Ha, Hb⟩ := H
  refine j_icmp_lt (tgt := 14) d_Mo_isIn_2 (by decide) (fun c20 => ?_) (fun c21 => ?_)
  · have H := Ha c20
    refine j_iconst (v := 0) d_Mo_isIn_14 (by decide) ?_
    refine j_zret rfl (by decide) d_Mo_isIn_15 ?_
    show J E 2 m_Mo_isSource 6 [some (.int p1)] [.int ((0 : Int32))] G (aft E 3 m_Mo_sourceWatermark 2 [some (.ref a0), some (.int p1)] [.ref a0] Post)
    refine j_zret rfl (by decide) d_Mo_isSource_6 ?_
    show J E 3 m_Mo_sourceWatermark 5 [some (.ref a0), some (.int p1)] [.int ((0 : Int32)), .ref a0] G Post
    refine j_if_eq (tgt := 12) d_Mo_sourceWatermark_5 (by decide) (fun _ => ?_) (fun c => absurd c (by decide))
    refine j_iconst (v := 1) d_Mo_sourceWatermark_12 (by decide) ?_
    obtain ⟨t1, H⟩ := H
    refine j_callV (d' := 1) (ci := 10) (As := [.int ((1 : Int32))]) (rest := []) (b := a0) cv_Mo_149 me_Mo_isFine rfl (by decide) rfl rfl t1 rfl rfl (Nat.le_of_ble_eq_true rfl) d_Mo_sourceWatermark_13 (by decide) rfl (j_enter (L := [some (.ref a0), some (.int ((1 : Int32)))]) me_Mo_isFine (cat_c rfl (cat_c rfl cat_n)) (Nat.le_of_ble_eq_true rfl) rfl ?_)
    refine j_aload_n d_Mo_isFine_0 rfl ?_
    refine j_iload_n d_Mo_isFine_1 rfl ?_
    refine j_putI (f := 640) fw_Mo_139 rfl rfl t1 d_Mo_isFine_2 ?_
    refine j_iload_n d_Mo_isFine_5 rfl ?_
    refine j_if_ne (tgt := 13) d_Mo_isFine_6 (by decide) (fun _ => ?_) (fun c => absurd c (by decide))
    refine j_iconst (v := 0) d_Mo_isFine_13 (by decide) ?_
    refine j_zret rfl (by decide) d_Mo_isFine_14 ?_
    show J E 3 m_Mo_sourceWatermark 16 [some (.ref a0), some (.int p1)] [.int ((0 : Int32))] (sI G 640 a0 ((1 : Int32))) Post
    refine j_if_eq (tgt := 27) d_Mo_sourceWatermark_16 (by decide) (fun _ => ?_) (fun c => absurd c (by decide))
    refine j_iconst (v := 0) d_Mo_sourceWatermark_27 (by decide) ?_
    exact j_iret rfl d_Mo_sourceWatermark_28 H
  · have H := Hb c21
    refine j_iload_n d_Mo_isIn_5 rfl ?_
    refine j_iload_n d_Mo_isIn_6 rfl ?_
    obtain ⟨Ha, Hb⟩ := H
    refine j_icmp_gt (tgt := 14) d_Mo_isIn_7 (by decide) (fun c18 => ?_) (fun c19 => ?_)
    · have H := Ha c18
      refine j_iconst (v := 0) d_Mo_isIn_14 (by decide) ?_
      refine j_zret rfl (by decide) d_Mo_isIn_15 ?_
      show J E 2 m_Mo_isSource 6 [some (.int p1)] [.int ((0 : Int32))] G (aft E 3 m_Mo_sourceWatermark 2 [some (.ref a0), some (.int p1)] [.ref a0] Post)
      refine j_zret rfl (by decide) d_Mo_isSource_6 ?_
      show J E 3 m_Mo_sourceWatermark 5 [some (.ref a0), some (.int p1)] [.int ((0 : Int32)), .ref a0] G Post
      refine j_if_eq (tgt := 12) d_Mo_sourceWatermark_5 (by decide) (fun _ => ?_) (fun c => absurd c (by decide))
      refine j_iconst (v := 1) d_Mo_sourceWatermark_12 (by decide) ?_
      obtain ⟨t2, H⟩ := H
      refine j_callV (d' := 1) (ci := 10) (As := [.int ((1 : Int32))]) (rest := []) (b := a0) cv_Mo_149 me_Mo_isFine rfl (by decide) rfl rfl t2 rfl rfl (Nat.le_of_ble_eq_true rfl) d_Mo_sourceWatermark_13 (by decide) rfl (j_enter (L := [some (.ref a0), some (.int ((1 : Int32)))]) me_Mo_isFine (cat_c rfl (cat_c rfl cat_n)) (Nat.le_of_ble_eq_true rfl) rfl ?_)
      refine j_aload_n d_Mo_isFine_0 rfl ?_
      refine j_iload_n d_Mo_isFine_1 rfl ?_
      refine j_putI (f := 640) fw_Mo_139 rfl rfl t2 d_Mo_isFine_2 ?_
      refine j_iload_n d_Mo_isFine_5 rfl ?_
      refine j_if_ne (tgt := 13) d_Mo_isFine_6 (by decide) (fun _ => ?_) (fun c => absurd c (by decide))
      refine j_iconst (v := 0) d_Mo_isFine_13 (by decide) ?_
      refine j_zret rfl (by decide) d_Mo_isFine_14 ?_
      show J E 3 m_Mo_sourceWatermark 16 [some (.ref a0), some (.int p1)] [.int ((0 : Int32))] (sI G 640 a0 ((1 : Int32))) Post
      refine j_if_eq (tgt := 27) d_Mo_sourceWatermark_16 (by decide) (fun _ => ?_) (fun c => absurd c (by decide))
      refine j_iconst (v := 0) d_Mo_sourceWatermark_27 (by decide) ?_
      exact j_iret rfl d_Mo_sourceWatermark_28 H
    · have H := Hb c19
      refine j_iconst (v := 1) d_Mo_isIn_10 (by decide) ?_
      refine j_goto (tgt := 15) d_Mo_isIn_11 (by decide) ?_
      refine j_zret rfl (by decide) d_Mo_isIn_15 ?_
      show J E 2 m_Mo_isSource 6 [some (.int p1)] [.int ((1 : Int32))] G (aft E 3 m_Mo_sourceWatermark 2 [some (.ref a0), some (.int p1)] [.ref a0] Post)
      refine j_zret rfl (by decide) d_Mo_isSource_6 ?_
      show J E 3 m_Mo_sourceWatermark 5 [some (.ref a0), some (.int p1)] [.int ((1 : Int32)), .ref a0] G Post
      refine j_if_eq (tgt := 12) d_Mo_sourceWatermark_5 (by decide) (fun c => absurd c (by decide)) (fun _ => ?_)
      refine j_iconst (v := 0) d_Mo_sourceWatermark_8 (by decide) ?_
      refine j_goto (tgt := 13) d_Mo_sourceWatermark_9 (by decide) ?_
      obtain ⟨t3, H⟩ := H
      refine j_callV (d' := 1) (ci := 10) (As := [.int ((0 : Int32))]) (rest := []) (b := a0) cv_Mo_149 me_Mo_isFine rfl (by decide) rfl rfl t3 rfl rfl (Nat.le_of_ble_eq_true rfl) d_Mo_sourceWatermark_13 (by decide) rfl (j_enter (L := [some (.ref a0), some (.int ((0 : Int32)))]) me_Mo_isFine (cat_c rfl (cat_c rfl cat_n)) (Nat.le_of_ble_eq_true rfl) rfl ?_)
      refine j_aload_n d_Mo_isFine_0 rfl ?_
      refine j_iload_n d_Mo_isFine_1 rfl ?_
      refine j_putI (f := 640) fw_Mo_139 rfl rfl t3 d_Mo_isFine_2 ?_
      refine j_iload_n d_Mo_isFine_5 rfl ?_
      refine j_if_ne (tgt := 13) d_Mo_isFine_6 (by decide) (fun c => absurd c (by decide)) (fun _ => ?_)
      refine j_iconst (v := 1) d_Mo_isFine_9 (by decide) ?_
      refine j_goto (tgt := 14) d_Mo_isFine_10 (by decide) ?_
      refine j_zret rfl (by decide) d_Mo_isFine_14 ?_
      show J E 3 m_Mo_sourceWatermark 16 [some (.ref a0), some (.int p1)] [.int ((1 : Int32))] (sI G 640 a0 ((0 : Int32))) Post
      refine j_if_eq (tgt := 27) d_Mo_sourceWatermark_16 (by decide) (fun c => absurd c (by decide)) (fun _ => ?_)
      refine j_aload_n d_Mo_sourceWatermark_19 rfl ?_
      refine j_iload_n d_Mo_sourceWatermark_20 rfl ?_
      refine j_callV (d' := 2) (ci := 10) (As := [.int p1]) (rest := []) (b := a0) cv_Mo_172 me_Mo_markOf rfl (by decide) rfl rfl t3 rfl rfl (Nat.le_of_ble_eq_true rfl) d_Mo_sourceWatermark_21 (by decide) rfl (j_enter (L := [some (.ref a0), some (.int p1)]) me_Mo_markOf (cat_c rfl (cat_c rfl cat_n)) (Nat.le_of_ble_eq_true rfl) rfl ?_)
      refine j_aload_n d_Mo_markOf_0 rfl ?_
      obtain ⟨b4, e5, H⟩ := H
      refine j_getR (f := 657) (b := b4) fe_Mo_55 rfl rfl t3 e5 d_Mo_markOf_1 ?_
      refine j_iload_n d_Mo_markOf_4 rfl ?_
      obtain ⟨t6, H⟩ := H
      obtain ⟨n8, x7, H⟩ := H
      refine j_iald (n := n8) t6 x7 d_Mo_markOf_5 ?_
      refine j_iconst (v := -1) d_Mo_markOf_6 (by decide) ?_
      obtain ⟨Ha, Hb⟩ := H
      refine j_icmp_ne (tgt := 14) d_Mo_markOf_7 (by decide) (fun c16 => ?_) (fun c17 => ?_)
      · have H := Ha c16
        refine j_iconst (v := -1) d_Mo_markOf_14 (by decide) ?_
        refine j_aload_n d_Mo_markOf_15 rfl ?_
        refine j_getR (f := 657) (b := b4) fe_Mo_55 rfl rfl t3 e5 d_Mo_markOf_16 ?_
        refine j_iload_n d_Mo_markOf_19 rfl ?_
        refine j_iald (n := n8) t6 x7 d_Mo_markOf_20 ?_
        refine j_aload_n d_Mo_markOf_21 rfl ?_
        obtain ⟨b9, e10, H⟩ := H
        refine j_getR (f := 655) (b := b9) fe_Mo_48 rfl rfl t3 e10 d_Mo_markOf_22 ?_
        refine j_iload_n d_Mo_markOf_25 rfl ?_
        obtain ⟨t11, H⟩ := H
        obtain ⟨n13, x12, H⟩ := H
        refine j_iald (n := n13) t11 x12 d_Mo_markOf_26 ?_
        refine j_isub d_Mo_markOf_27 ?_
        refine j_callS (d' := 1) (As := [.int ((-1 : Int32)), .int (((gA (sI G 640 a0 ((0 : Int32))) b4 n8) - (gA (sI G 640 a0 ((0 : Int32))) b9 n13)))]) (rest := []) cs_Mo_165 me_Mo_greater rfl (by decide) rfl rfl (Nat.le_of_ble_eq_true rfl) d_Mo_markOf_28 (by decide) rfl (j_enter (L := [some (.int ((-1 : Int32))), some (.int (((gA (sI G 640 a0 ((0 : Int32))) b4 n8) - (gA (sI G 640 a0 ((0 : Int32))) b9 n13))))]) me_Mo_greater (cat_c rfl (cat_c rfl cat_n)) (Nat.le_of_ble_eq_true rfl) rfl ?_)
        refine j_iload_n d_Mo_greater_0 rfl ?_
        refine j_iload_n d_Mo_greater_1 rfl ?_
        obtain ⟨Ha, Hb⟩ := H
        refine j_icmp_le (tgt := 9) d_Mo_greater_2 (by decide) (fun c14 => ?_) (fun c15 => ?_)
        · have H := Ha c14
          refine j_iload_n d_Mo_greater_9 rfl ?_
          refine j_iret rfl d_Mo_greater_10 ?_
          show J E 2 m_Mo_markOf 31 [some (.ref a0), some (.int p1)] [.int (((gA (sI G 640 a0 ((0 : Int32))) b4 n8) - (gA (sI G 640 a0 ((0 : Int32))) b9 n13)))] (sI G 640 a0 ((0 : Int32))) (aft E 3 m_Mo_sourceWatermark 21 [some (.ref a0), some (.int p1)] [] Post)
          refine j_iret rfl d_Mo_markOf_31 ?_
          show J E 3 m_Mo_sourceWatermark 24 [some (.ref a0), some (.int p1)] [.int (((gA (sI G 640 a0 ((0 : Int32))) b4 n8) - (gA (sI G 640 a0 ((0 : Int32))) b9 n13)))] (sI G 640 a0 ((0 : Int32))) Post
          refine j_goto (tgt := 28) d_Mo_sourceWatermark_24 (by decide) ?_
          exact j_iret rfl d_Mo_sourceWatermark_28 H
        · have H := Hb c15
          refine j_iload_n d_Mo_greater_5 rfl ?_
          refine j_goto (tgt := 10) d_Mo_greater_6 (by decide) ?_
          refine j_iret rfl d_Mo_greater_10 ?_
          show J E 2 m_Mo_markOf 31 [some (.ref a0), some (.int p1)] [.int ((-1 : Int32))] (sI G 640 a0 ((0 : Int32))) (aft E 3 m_Mo_sourceWatermark 21 [some (.ref a0), some (.int p1)] [] Post)
          refine j_iret rfl d_Mo_markOf_31 ?_
          show J E 3 m_Mo_sourceWatermark 24 [some (.ref a0), some (.int p1)] [.int ((-1 : Int32))] (sI G 640 a0 ((0 : Int32))) Post
          refine j_goto (tgt := 28) d_Mo_sourceWatermark_24 (by decide) ?_
          exact j_iret rfl d_Mo_sourceWatermark_28 H
      · have H := Hb c17
        refine j_iconst (v := -1) d_Mo_markOf_10 (by decide) ?_
        refine j_goto (tgt := 31) d_Mo_markOf_11 (by decide) ?_
        refine j_iret rfl d_Mo_markOf_31 ?_
        show J E 3 m_Mo_sourceWatermark 24 [some (.ref a0), some (.int p1)] [.int ((-1 : Int32))] (sI G 640 a0 ((0 : Int32))) Post
        refine j_goto (tgt := 28) d_Mo_sourceWatermark_24 (by decide) ?_
        exact j_iret rfl d_Mo_sourceWatermark_28 H
theorem wp_Mo_offset_0 {E : EV} {G : GH} {Post : Res → GH → Prop} (a0 : Nat) (p1 : Int32) (H : (p1 < (0 : Int32) → gT G a0 = 11 ∧ Post (.inl (some (.int ((0 : Int32))))) (sI G 640 a0 ((1 : Int32)))) ∧ (¬ p1 < (0 : Int32) → ((2 : Int32) < p1 → gT G a0 = 11 ∧ Post (.inl (some (.int ((0 : Int32))))) (sI G 640 a0 ((1 : Int32)))) ∧ (¬ (2 : Int32) < p1 → gT G a0 = 11 ∧ ∃ b4, gR G 653 a0 = some b4 ∧ (gT G b4 = 20 ∨ gT G b4 = 25) ∧ ∃ n8, IX p1 n8 (gN G b4) ∧ Post (.inl (some (.int ((gA (sI G 640 a0 ((0 : Int32))) b4 n8))))) (sI G 640 a0 ((0 : Int32)))))) : J E 3 m_Mo_offset 0 [some (.ref a0), some (.int p1)] [] G Post := by
  refine j_aload_n d_Mo_offset_0 rfl ?_
  refine j_iload_n d_Mo_offset_1 rfl ?_
  refine j_callS (d' := 2) (As := [.int p1]) (rest := [.ref a0]) cs_Mo_156 me_Mo_isSource rfl (by decide) rfl rfl (Nat.le_of_ble_eq_true rfl) d_Mo_offset_2 (by decide) rfl (j_enter (L := [some (.int p1)]) me_Mo_isSource (cat_c rfl cat_n) (Nat.le_of_ble_eq_true rfl) rfl ?_)
  refine j_iload_n d_Mo_isSource_0 rfl ?_
  refine j_iconst (v := 0) d_Mo_isSource_1 (by decide) ?_
  refine j_iconst (v := 2) d_Mo_isSource_2 (by decide) ?_
  refine j_callS (d' := 1) (As := [.int p1, .int ((0 : Int32)), .int ((2 : Int32))]) (rest := []) cs_Mo_142 me_Mo_isIn rfl (by decide) rfl rfl (Nat.le_of_ble_eq_true rfl) d_Mo_isSource_3 (by decide) rfl (j_enter (L := [some (.int p1), some (.int ((0 : Int32))), some (.int ((2 : Int32)))]) me_Mo_isIn (cat_c rfl (cat_c rfl (cat_c rfl cat_n))) (Nat.le_of_ble_eq_true rfl) rfl ?_)
  refine j_iload_n d_Mo_isIn_0 rfl ?_
  refine j_iload_n d_Mo_isIn_1 rfl ?_
  obtain ⟨Ha, Hb⟩ := H
  refine j_icmp_lt (tgt := 14) d_Mo_isIn_2 (by decide) (fun c11 => ?_) (fun c12 => ?_)
  · have H := Ha c11
    refine j_iconst (v := 0) d_Mo_isIn_14 (by decide) ?_
    refine j_zret rfl (by decide) d_Mo_isIn_15 ?_
    show J E 2 m_Mo_isSource 6 [some (.int p1)] [.int ((0 : Int32))] G (aft E 3 m_Mo_offset 2 [some (.ref a0), some (.int p1)] [.ref a0] Post)
    refine j_zret rfl (by decide) d_Mo_isSource_6 ?_
    show J E 3 m_Mo_offset 5 [some (.ref a0), some (.int p1)] [.int ((0 : Int32)), .ref a0] G Post
    refine j_if_eq (tgt := 12) d_Mo_offset_5 (by decide) (fun _ => ?_) (fun c => absurd c (by decide))
    refine j_iconst (v := 1) d_Mo_offset_12 (by decide) ?_
    obtain ⟨t1, H⟩ := H
    refine j_callV (d' := 1) (ci := 10) (As := [.int ((1 : Int32))]) (rest := []) (b := a0) cv_Mo_149 me_Mo_isFine rfl (by decide) rfl rfl t1 rfl rfl (Nat.le_of_ble_eq_true rfl) d_Mo_offset_13 (by decide) rfl (j_enter (L := [some (.ref a0), some (.int ((1 : Int32)))]) me_Mo_isFine (cat_c rfl (cat_c rfl cat_n)) (Nat.le_of_ble_eq_true rfl) rfl ?_)
    refine j_aload_n d_Mo_isFine_0 rfl ?_
    refine j_iload_n d_Mo_isFine_1 rfl ?_
    refine j_putI (f := 640) fw_Mo_139 rfl rfl t1 d_Mo_isFine_2 ?_
    refine j_iload_n d_Mo_isFine_5 rfl ?_
    refine j_if_ne (tgt := 13) d_Mo_isFine_6 (by decide) (fun _ => ?_) (fun c => absurd c (by decide))
    refine j_iconst (v := 0) d_Mo_isFine_13 (by decide) ?_
    refine j_zret rfl (by decide) d_Mo_isFine_14 ?_
    show J E 3 m_Mo_offset 16 [some (.ref a0), some (.int p1)] [.int ((0 : Int32))] (sI G 640 a0 ((1 : Int32))) Post
    refine j_if_eq (tgt := 28) d_Mo_offset_16 (by decide) (fun _ => ?_) (fun c => absurd c (by decide))
    refine j_iconst (v := 0) d_Mo_offset_28 (by decide) ?_
    exact j_iret rfl d_Mo_offset_29 H
  · have H := Hb c12
    refine j_iload_n d_Mo_isIn_5 rfl ?_
    refine j_iload_n d_Mo_isIn_6 rfl ?_
    obtain ⟨Ha, Hb⟩ := H
    refine j_icmp_gt (tgt := 14) d_Mo_isIn_7 (by decide) (fun c9 => ?_) (fun c10 => ?_)
    · have H := Ha c9
      refine j_iconst (v := 0) d_Mo_isIn_14 (by decide) ?_
      refine j_zret rfl (by decide) d_Mo_isIn_15 ?_
      show J E 2 m_Mo_isSource 6 [some (.int p1)] [.int ((0 : Int32))] G (aft E 3 m_Mo_offset 2 [some (.ref a0), some (.int p1)] [.ref a0] Post)
      refine j_zret rfl (by decide) d_Mo_isSource_6 ?_
      show J E 3 m_Mo_offset 5 [some (.ref a0), some (.int p1)] [.int ((0 : Int32)), .ref a0] G Post
      refine j_if_eq (tgt := 12) d_Mo_offset_5 (by decide) (fun _ => ?_) (fun c => absurd c (by decide))
      refine j_iconst (v := 1) d_Mo_offset_12 (by decide) ?_
      obtain ⟨t2, H⟩ := H
      refine j_callV (d' := 1) (ci := 10) (As := [.int ((1 : Int32))]) (rest := []) (b := a0) cv_Mo_149 me_Mo_isFine rfl (by decide) rfl rfl t2 rfl rfl (Nat.le_of_ble_eq_true rfl) d_Mo_offset_13 (by decide) rfl (j_enter (L := [some (.ref a0), some (.int ((1 : Int32)))]) me_Mo_isFine (cat_c rfl (cat_c rfl cat_n)) (Nat.le_of_ble_eq_true rfl) rfl ?_)
      refine j_aload_n d_Mo_isFine_0 rfl ?_
      refine j_iload_n d_Mo_isFine_1 rfl ?_
      refine j_putI (f := 640) fw_Mo_139 rfl rfl t2 d_Mo_isFine_2 ?_
      refine j_iload_n d_Mo_isFine_5 rfl ?_
      refine j_if_ne (tgt := 13) d_Mo_isFine_6 (by decide) (fun _ => ?_) (fun c => absurd c (by decide))
      refine j_iconst (v := 0) d_Mo_isFine_13 (by decide) ?_
      refine j_zret rfl (by decide) d_Mo_isFine_14 ?_
      show J E 3 m_Mo_offset 16 [some (.ref a0), some (.int p1)] [.int ((0 : Int32))] (sI G 640 a0 ((1 : Int32))) Post
      refine j_if_eq (tgt := 28) d_Mo_offset_16 (by decide) (fun _ => ?_) (fun c => absurd c (by decide))
      refine j_iconst (v := 0) d_Mo_offset_28 (by decide) ?_
      exact j_iret rfl d_Mo_offset_29 H
    · have H := Hb c10
      refine j_iconst (v := 1) d_Mo_isIn_10 (by decide) ?_
      refine j_goto (tgt := 15) d_Mo_isIn_11 (by decide) ?_
      refine j_zret rfl (by decide) d_Mo_isIn_15 ?_
      show J E 2 m_Mo_isSource 6 [some (.int p1)] [.int ((1 : Int32))] G (aft E 3 m_Mo_offset 2 [some (.ref a0), some (.int p1)] [.ref a0] Post)
      refine j_zret rfl (by decide) d_Mo_isSource_6 ?_
      show J E 3 m_Mo_offset 5 [some (.ref a0), some (.int p1)] [.int ((1 : Int32)), .ref a0] G Post
      refine j_if_eq (tgt := 12) d_Mo_offset_5 (by decide) (fun c => absurd c (by decide)) (fun _ => ?_)
      refine j_iconst (v := 0) d_Mo_offset_8 (by decide) ?_
      refine j_goto (tgt := 13) d_Mo_offset_9 (by decide) ?_
      obtain ⟨t3, H⟩ := H
      refine j_callV (d' := 1) (ci := 10) (As := [.int ((0 : Int32))]) (rest := []) (b := a0) cv_Mo_149 me_Mo_isFine rfl (by decide) rfl rfl t3 rfl rfl (Nat.le_of_ble_eq_true rfl) d_Mo_offset_13 (by decide) rfl (j_enter (L := [some (.ref a0), some (.int ((0 : Int32)))]) me_Mo_isFine (cat_c rfl (cat_c rfl cat_n)) (Nat.le_of_ble_eq_true rfl) rfl ?_)
      refine j_aload_n d_Mo_isFine_0 rfl ?_
      refine j_iload_n d_Mo_isFine_1 rfl ?_
      refine j_putI (f := 640) fw_Mo_139 rfl rfl t3 d_Mo_isFine_2 ?_
      refine j_iload_n d_Mo_isFine_5 rfl ?_
      refine j_if_ne (tgt := 13) d_Mo_isFine_6 (by decide) (fun c => absurd c (by decide)) (fun _ => ?_)
      refine j_iconst (v := 1) d_Mo_isFine_9 (by decide) ?_
      refine j_goto (tgt := 14) d_Mo_isFine_10 (by decide) ?_
      refine j_zret rfl (by decide) d_Mo_isFine_14 ?_
      show J E 3 m_Mo_offset 16 [some (.ref a0), some (.int p1)] [.int ((1 : Int32))] (sI G 640 a0 ((0 : Int32))) Post
      refine j_if_eq (tgt := 28) d_Mo_offset_16 (by decide) (fun c => absurd c (by decide)) (fun _ => ?_)
      refine j_aload_n d_Mo_offset_19 rfl ?_
      obtain ⟨b4, e5, H⟩ := H
      refine j_getR (f := 653) (b := b4) fe_Mo_42 rfl rfl t3 e5 d_Mo_offset_20 ?_
      refine j_iload_n d_Mo_offset_23 rfl ?_
      obtain ⟨t6, H⟩ := H
      obtain ⟨n8, x7, H⟩ := H
      refine j_iald (n := n8) t6 x7 d_Mo_offset_24 ?_
      refine j_goto (tgt := 29) d_Mo_offset_25 (by decide) ?_
      exact j_iret rfl d_Mo_offset_29 H
theorem wp_Mo_inChannel_0 {E : EV} {G : GH} {Post : Res → GH → Prop} (a0 : Nat) (p1 : Int32) (H : (p1 < (0 : Int32) → gT G a0 = 11 ∧ Post (.inl (some (.int ((0 : Int32))))) (sI G 640 a0 ((1 : Int32)))) ∧ (¬ p1 < (0 : Int32) → ((2 : Int32) < p1 → gT G a0 = 11 ∧ Post (.inl (some (.int ((0 : Int32))))) (sI G 640 a0 ((1 : Int32)))) ∧ (¬ (2 : Int32) < p1 → gT G a0 = 11 ∧ ∃ b4, gR G 653 a0 = some b4 ∧ (gT G b4 = 20 ∨ gT G b4 = 25) ∧ ∃ n8, IX p1 n8 (gN G b4) ∧ ∃ b9, gR G 654 a0 = some b9 ∧ (gT G b9 = 20 ∨ gT G b9 = 25) ∧ ∃ n13, IX p1 n13 (gN G b9) ∧ Post (.inl (some (.int (((gA (sI G 640 a0 ((0 : Int32))) b4 n8) - (gA (sI G 640 a0 ((0 : Int32))) b9 n13)))))) (sI G 640 a0 ((0 : Int32)))))) : J E 3 m_Mo_inChannel 0 [some (.ref a0), some (.int p1)] [] G Post := by
  refine j_aload_n d_Mo_inChannel_0 rfl ?_
  refine j_iload_n d_Mo_inChannel_1 rfl ?_
  refine j_callS (d' := 2) (As := [.int p1]) (rest := [.ref a0]) cs_Mo_156 me_Mo_isSource rfl (by decide) rfl rfl (Nat.le_of_ble_eq_true rfl) d_Mo_inChannel_2 (by decide) rfl (j_enter (L := [some (.int p1)]) me_Mo_isSource (cat_c rfl cat_n) (Nat.le_of_ble_eq_true rfl) rfl ?_)
  refine j_iload_n d_Mo_isSource_0 rfl ?_
  refine j_iconst (v := 0) d_Mo_isSource_1 (by decide) ?_
  refine j_iconst (v := 2) d_Mo_isSource_2 (by decide) ?_
  refine j_callS (d' := 1) (As := [.int p1, .int ((0 : Int32)), .int ((2 : Int32))]) (rest := []) cs_Mo_142 me_Mo_isIn rfl (by decide) rfl rfl (Nat.le_of_ble_eq_true rfl) d_Mo_isSource_3 (by decide) rfl (j_enter (L := [some (.int p1), some (.int ((0 : Int32))), some (.int ((2 : Int32)))]) me_Mo_isIn (cat_c rfl (cat_c rfl (cat_c rfl cat_n))) (Nat.le_of_ble_eq_true rfl) rfl ?_)
  refine j_iload_n d_Mo_isIn_0 rfl ?_
  refine j_iload_n d_Mo_isIn_1 rfl ?_
  obtain ⟨Ha, Hb⟩ := H
  refine j_icmp_lt (tgt := 14) d_Mo_isIn_2 (by decide) (fun c16 => ?_) (fun c17 => ?_)
  · have H := Ha c16
    refine j_iconst (v := 0) d_Mo_isIn_14 (by decide) ?_
    refine j_zret rfl (by decide) d_Mo_isIn_15 ?_
    show J E 2 m_Mo_isSource 6 [some (.int p1)] [.int ((0 : Int32))] G (aft E 3 m_Mo_inChannel 2 [some (.ref a0), some (.int p1)] [.ref a0] Post)
    refine j_zret rfl (by decide) d_Mo_isSource_6 ?_
    show J E 3 m_Mo_inChannel 5 [some (.ref a0), some (.int p1)] [.int ((0 : Int32)), .ref a0] G Post
    refine j_if_eq (tgt := 12) d_Mo_inChannel_5 (by decide) (fun _ => ?_) (fun c => absurd c (by decide))
    refine j_iconst (v := 1) d_Mo_inChannel_12 (by decide) ?_
    obtain ⟨t1, H⟩ := H
    refine j_callV (d' := 1) (ci := 10) (As := [.int ((1 : Int32))]) (rest := []) (b := a0) cv_Mo_149 me_Mo_isFine rfl (by decide) rfl rfl t1 rfl rfl (Nat.le_of_ble_eq_true rfl) d_Mo_inChannel_13 (by decide) rfl (j_enter (L := [some (.ref a0), some (.int ((1 : Int32)))]) me_Mo_isFine (cat_c rfl (cat_c rfl cat_n)) (Nat.le_of_ble_eq_true rfl) rfl ?_)
    refine j_aload_n d_Mo_isFine_0 rfl ?_
    refine j_iload_n d_Mo_isFine_1 rfl ?_
    refine j_putI (f := 640) fw_Mo_139 rfl rfl t1 d_Mo_isFine_2 ?_
    refine j_iload_n d_Mo_isFine_5 rfl ?_
    refine j_if_ne (tgt := 13) d_Mo_isFine_6 (by decide) (fun _ => ?_) (fun c => absurd c (by decide))
    refine j_iconst (v := 0) d_Mo_isFine_13 (by decide) ?_
    refine j_zret rfl (by decide) d_Mo_isFine_14 ?_
    show J E 3 m_Mo_inChannel 16 [some (.ref a0), some (.int p1)] [.int ((0 : Int32))] (sI G 640 a0 ((1 : Int32))) Post
    refine j_if_eq (tgt := 35) d_Mo_inChannel_16 (by decide) (fun _ => ?_) (fun c => absurd c (by decide))
    refine j_iconst (v := 0) d_Mo_inChannel_35 (by decide) ?_
    exact j_iret rfl d_Mo_inChannel_36 H
  · have H := Hb c17
    refine j_iload_n d_Mo_isIn_5 rfl ?_
    refine j_iload_n d_Mo_isIn_6 rfl ?_
    obtain ⟨Ha, Hb⟩ := H
    refine j_icmp_gt (tgt := 14) d_Mo_isIn_7 (by decide) (fun c14 => ?_) (fun c15 => ?_)
    · have H := Ha c14
      refine j_iconst (v := 0) d_Mo_isIn_14 (by decide) ?_
      refine j_zret rfl (by decide) d_Mo_isIn_15 ?_
      show J E 2 m_Mo_isSource 6 [some (.int p1)] [.int ((0 : Int32))] G (aft E 3 m_Mo_inChannel 2 [some (.ref a0), some (.int p1)] [.ref a0] Post)
      refine j_zret rfl (by decide) d_Mo_isSource_6 ?_
      show J E 3 m_Mo_inChannel 5 [some (.ref a0), some (.int p1)] [.int ((0 : Int32)), .ref a0] G Post
      refine j_if_eq (tgt := 12) d_Mo_inChannel_5 (by decide) (fun _ => ?_) (fun c => absurd c (by decide))
      refine j_iconst (v := 1) d_Mo_inChannel_12 (by decide) ?_
      obtain ⟨t2, H⟩ := H
      refine j_callV (d' := 1) (ci := 10) (As := [.int ((1 : Int32))]) (rest := []) (b := a0) cv_Mo_149 me_Mo_isFine rfl (by decide) rfl rfl t2 rfl rfl (Nat.le_of_ble_eq_true rfl) d_Mo_inChannel_13 (by decide) rfl (j_enter (L := [some (.ref a0), some (.int ((1 : Int32)))]) me_Mo_isFine (cat_c rfl (cat_c rfl cat_n)) (Nat.le_of_ble_eq_true rfl) rfl ?_)
      refine j_aload_n d_Mo_isFine_0 rfl ?_
      refine j_iload_n d_Mo_isFine_1 rfl ?_
      refine j_putI (f := 640) fw_Mo_139 rfl rfl t2 d_Mo_isFine_2 ?_
      refine j_iload_n d_Mo_isFine_5 rfl ?_
      refine j_if_ne (tgt := 13) d_Mo_isFine_6 (by decide) (fun _ => ?_) (fun c => absurd c (by decide))
      refine j_iconst (v := 0) d_Mo_isFine_13 (by decide) ?_
      refine j_zret rfl (by decide) d_Mo_isFine_14 ?_
      show J E 3 m_Mo_inChannel 16 [some (.ref a0), some (.int p1)] [.int ((0 : Int32))] (sI G 640 a0 ((1 : Int32))) Post
      refine j_if_eq (tgt := 35) d_Mo_inChannel_16 (by decide) (fun _ => ?_) (fun c => absurd c (by decide))
      refine j_iconst (v := 0) d_Mo_inChannel_35 (by decide) ?_
      exact j_iret rfl d_Mo_inChannel_36 H
    · have H := Hb c15
      refine j_iconst (v := 1) d_Mo_isIn_10 (by decide) ?_
      refine j_goto (tgt := 15) d_Mo_isIn_11 (by decide) ?_
      refine j_zret rfl (by decide) d_Mo_isIn_15 ?_
      show J E 2 m_Mo_isSource 6 [some (.int p1)] [.int ((1 : Int32))] G (aft E 3 m_Mo_inChannel 2 [some (.ref a0), some (.int p1)] [.ref a0] Post)
      refine j_zret rfl (by decide) d_Mo_isSource_6 ?_
      show J E 3 m_Mo_inChannel 5 [some (.ref a0), some (.int p1)] [.int ((1 : Int32)), .ref a0] G Post
      refine j_if_eq (tgt := 12) d_Mo_inChannel_5 (by decide) (fun c => absurd c (by decide)) (fun _ => ?_)
      refine j_iconst (v := 0) d_Mo_inChannel_8 (by decide) ?_
      refine j_goto (tgt := 13) d_Mo_inChannel_9 (by decide) ?_
      obtain ⟨t3, H⟩ := H
      refine j_callV (d' := 1) (ci := 10) (As := [.int ((0 : Int32))]) (rest := []) (b := a0) cv_Mo_149 me_Mo_isFine rfl (by decide) rfl rfl t3 rfl rfl (Nat.le_of_ble_eq_true rfl) d_Mo_inChannel_13 (by decide) rfl (j_enter (L := [some (.ref a0), some (.int ((0 : Int32)))]) me_Mo_isFine (cat_c rfl (cat_c rfl cat_n)) (Nat.le_of_ble_eq_true rfl) rfl ?_)
      refine j_aload_n d_Mo_isFine_0 rfl ?_
      refine j_iload_n d_Mo_isFine_1 rfl ?_
      refine j_putI (f := 640) fw_Mo_139 rfl rfl t3 d_Mo_isFine_2 ?_
      refine j_iload_n d_Mo_isFine_5 rfl ?_
      refine j_if_ne (tgt := 13) d_Mo_isFine_6 (by decide) (fun c => absurd c (by decide)) (fun _ => ?_)
      refine j_iconst (v := 1) d_Mo_isFine_9 (by decide) ?_
      refine j_goto (tgt := 14) d_Mo_isFine_10 (by decide) ?_
      refine j_zret rfl (by decide) d_Mo_isFine_14 ?_
      show J E 3 m_Mo_inChannel 16 [some (.ref a0), some (.int p1)] [.int ((1 : Int32))] (sI G 640 a0 ((0 : Int32))) Post
      refine j_if_eq (tgt := 35) d_Mo_inChannel_16 (by decide) (fun c => absurd c (by decide)) (fun _ => ?_)
      refine j_aload_n d_Mo_inChannel_19 rfl ?_
      obtain ⟨b4, e5, H⟩ := H
      refine j_getR (f := 653) (b := b4) fe_Mo_42 rfl rfl t3 e5 d_Mo_inChannel_20 ?_
      refine j_iload_n d_Mo_inChannel_23 rfl ?_
      obtain ⟨t6, H⟩ := H
      obtain ⟨n8, x7, H⟩ := H
      refine j_iald (n := n8) t6 x7 d_Mo_inChannel_24 ?_
      refine j_aload_n d_Mo_inChannel_25 rfl ?_
      obtain ⟨b9, e10, H⟩ := H
      refine j_getR (f := 654) (b := b9) fe_Mo_45 rfl rfl t3 e10 d_Mo_inChannel_26 ?_
      refine j_iload_n d_Mo_inChannel_29 rfl ?_
      obtain ⟨t11, H⟩ := H
      obtain ⟨n13, x12, H⟩ := H
      refine j_iald (n := n13) t11 x12 d_Mo_inChannel_30 ?_
      refine j_isub d_Mo_inChannel_31 ?_
      refine j_goto (tgt := 36) d_Mo_inChannel_32 (by decide) ?_
      exact j_iret rfl d_Mo_inChannel_36 H
theorem wp_Mo_open_0 {E : EV} {G : GH} {Post : Res → GH → Prop} (a0 : Nat) (p1 : Int32) (H : gT G a0 = 11 ∧ (p1 < (0 : Int32) → Post (.inl (some (.int ((0 : Int32))))) (sI G 640 a0 ((1 : Int32)))) ∧ (¬ p1 < (0 : Int32) → (((gI G 647 a0) - (1 : Int32)) < p1 → Post (.inl (some (.int ((0 : Int32))))) (sI G 640 a0 ((1 : Int32)))) ∧ (¬ ((gI G 647 a0) - (1 : Int32)) < p1 → J E 2 m_Mo_open 32 [some (.ref a0), some (.int p1), some (.int ((0 : Int32))), some (.int ((0 : Int32)))] [] (sI G 640 a0 ((0 : Int32))) Post))) : J E 2 m_Mo_open 0 [some (.ref a0), some (.int p1), none, none] [] G Post := by
  refine j_aload_n d_Mo_open_0 rfl ?_
  refine j_iload_n d_Mo_open_1 rfl ?_
  refine j_iconst (v := 0) d_Mo_open_2 (by decide) ?_
  refine j_aload_n d_Mo_open_3 rfl ?_
  obtain ⟨t1, H⟩ := H
  refine j_getI (f := 647) fe_Mo_26 rfl rfl t1 d_Mo_open_4 ?_
  refine j_iconst (v := 1) d_Mo_open_7 (by decide) ?_
  refine j_isub d_Mo_open_8 ?_
  refine j_callS (d' := 1) (As := [.int p1, .int ((0 : Int32)), .int (((gI G 647 a0) - (1 : Int32)))]) (rest := [.ref a0]) cs_Mo_142 me_Mo_isIn rfl (by decide) rfl rfl (Nat.le_of_ble_eq_true rfl) d_Mo_open_9 (by decide) rfl (j_enter (L := [some (.int p1), some (.int ((0 : Int32))), some (.int (((gI G 647 a0) - (1 : Int32))))]) me_Mo_isIn (cat_c rfl (cat_c rfl (cat_c rfl cat_n))) (Nat.le_of_ble_eq_true rfl) rfl ?_)
  refine j_iload_n d_Mo_isIn_0 rfl ?_
  refine j_iload_n d_Mo_isIn_1 rfl ?_
  obtain ⟨Ha, Hb⟩ := H
  refine j_icmp_lt (tgt := 14) d_Mo_isIn_2 (by decide) (fun c4 => ?_) (fun c5 => ?_)
  · have H := Ha c4
    refine j_iconst (v := 0) d_Mo_isIn_14 (by decide) ?_
    refine j_zret rfl (by decide) d_Mo_isIn_15 ?_
    show J E 2 m_Mo_open 12 [some (.ref a0), some (.int p1), none, none] [.int ((0 : Int32)), .ref a0] G Post
    refine j_if_eq (tgt := 19) d_Mo_open_12 (by decide) (fun _ => ?_) (fun c => absurd c (by decide))
    refine j_iconst (v := 1) d_Mo_open_19 (by decide) ?_
    refine j_callV (d' := 1) (ci := 10) (As := [.int ((1 : Int32))]) (rest := []) (b := a0) cv_Mo_149 me_Mo_isFine rfl (by decide) rfl rfl t1 rfl rfl (Nat.le_of_ble_eq_true rfl) d_Mo_open_20 (by decide) rfl (j_enter (L := [some (.ref a0), some (.int ((1 : Int32)))]) me_Mo_isFine (cat_c rfl (cat_c rfl cat_n)) (Nat.le_of_ble_eq_true rfl) rfl ?_)
    refine j_aload_n d_Mo_isFine_0 rfl ?_
    refine j_iload_n d_Mo_isFine_1 rfl ?_
    refine j_putI (f := 640) fw_Mo_139 rfl rfl t1 d_Mo_isFine_2 ?_
    refine j_iload_n d_Mo_isFine_5 rfl ?_
    refine j_if_ne (tgt := 13) d_Mo_isFine_6 (by decide) (fun _ => ?_) (fun c => absurd c (by decide))
    refine j_iconst (v := 0) d_Mo_isFine_13 (by decide) ?_
    refine j_zret rfl (by decide) d_Mo_isFine_14 ?_
    show J E 2 m_Mo_open 23 [some (.ref a0), some (.int p1), none, none] [.int ((0 : Int32))] (sI G 640 a0 ((1 : Int32))) Post
    refine j_if_ne (tgt := 28) d_Mo_open_23 (by decide) (fun c => absurd c (by decide)) (fun _ => ?_)
    refine j_iconst (v := 0) d_Mo_open_26 (by decide) ?_
    exact j_iret rfl d_Mo_open_27 H
  · have H := Hb c5
    refine j_iload_n d_Mo_isIn_5 rfl ?_
    refine j_iload_n d_Mo_isIn_6 rfl ?_
    obtain ⟨Ha, Hb⟩ := H
    refine j_icmp_gt (tgt := 14) d_Mo_isIn_7 (by decide) (fun c2 => ?_) (fun c3 => ?_)
    · have H := Ha c2
      refine j_iconst (v := 0) d_Mo_isIn_14 (by decide) ?_
      refine j_zret rfl (by decide) d_Mo_isIn_15 ?_
      show J E 2 m_Mo_open 12 [some (.ref a0), some (.int p1), none, none] [.int ((0 : Int32)), .ref a0] G Post
      refine j_if_eq (tgt := 19) d_Mo_open_12 (by decide) (fun _ => ?_) (fun c => absurd c (by decide))
      refine j_iconst (v := 1) d_Mo_open_19 (by decide) ?_
      refine j_callV (d' := 1) (ci := 10) (As := [.int ((1 : Int32))]) (rest := []) (b := a0) cv_Mo_149 me_Mo_isFine rfl (by decide) rfl rfl t1 rfl rfl (Nat.le_of_ble_eq_true rfl) d_Mo_open_20 (by decide) rfl (j_enter (L := [some (.ref a0), some (.int ((1 : Int32)))]) me_Mo_isFine (cat_c rfl (cat_c rfl cat_n)) (Nat.le_of_ble_eq_true rfl) rfl ?_)
      refine j_aload_n d_Mo_isFine_0 rfl ?_
      refine j_iload_n d_Mo_isFine_1 rfl ?_
      refine j_putI (f := 640) fw_Mo_139 rfl rfl t1 d_Mo_isFine_2 ?_
      refine j_iload_n d_Mo_isFine_5 rfl ?_
      refine j_if_ne (tgt := 13) d_Mo_isFine_6 (by decide) (fun _ => ?_) (fun c => absurd c (by decide))
      refine j_iconst (v := 0) d_Mo_isFine_13 (by decide) ?_
      refine j_zret rfl (by decide) d_Mo_isFine_14 ?_
      show J E 2 m_Mo_open 23 [some (.ref a0), some (.int p1), none, none] [.int ((0 : Int32))] (sI G 640 a0 ((1 : Int32))) Post
      refine j_if_ne (tgt := 28) d_Mo_open_23 (by decide) (fun c => absurd c (by decide)) (fun _ => ?_)
      refine j_iconst (v := 0) d_Mo_open_26 (by decide) ?_
      exact j_iret rfl d_Mo_open_27 H
    · have H := Hb c3
      refine j_iconst (v := 1) d_Mo_isIn_10 (by decide) ?_
      refine j_goto (tgt := 15) d_Mo_isIn_11 (by decide) ?_
      refine j_zret rfl (by decide) d_Mo_isIn_15 ?_
      show J E 2 m_Mo_open 12 [some (.ref a0), some (.int p1), none, none] [.int ((1 : Int32)), .ref a0] G Post
      refine j_if_eq (tgt := 19) d_Mo_open_12 (by decide) (fun c => absurd c (by decide)) (fun _ => ?_)
      refine j_iconst (v := 0) d_Mo_open_15 (by decide) ?_
      refine j_goto (tgt := 20) d_Mo_open_16 (by decide) ?_
      refine j_callV (d' := 1) (ci := 10) (As := [.int ((0 : Int32))]) (rest := []) (b := a0) cv_Mo_149 me_Mo_isFine rfl (by decide) rfl rfl t1 rfl rfl (Nat.le_of_ble_eq_true rfl) d_Mo_open_20 (by decide) rfl (j_enter (L := [some (.ref a0), some (.int ((0 : Int32)))]) me_Mo_isFine (cat_c rfl (cat_c rfl cat_n)) (Nat.le_of_ble_eq_true rfl) rfl ?_)
      refine j_aload_n d_Mo_isFine_0 rfl ?_
      refine j_iload_n d_Mo_isFine_1 rfl ?_
      refine j_putI (f := 640) fw_Mo_139 rfl rfl t1 d_Mo_isFine_2 ?_
      refine j_iload_n d_Mo_isFine_5 rfl ?_
      refine j_if_ne (tgt := 13) d_Mo_isFine_6 (by decide) (fun c => absurd c (by decide)) (fun _ => ?_)
      refine j_iconst (v := 1) d_Mo_isFine_9 (by decide) ?_
      refine j_goto (tgt := 14) d_Mo_isFine_10 (by decide) ?_
      refine j_zret rfl (by decide) d_Mo_isFine_14 ?_
      show J E 2 m_Mo_open 23 [some (.ref a0), some (.int p1), none, none] [.int ((1 : Int32))] (sI G 640 a0 ((0 : Int32))) Post
      refine j_if_ne (tgt := 28) d_Mo_open_23 (by decide) (fun _ => ?_) (fun c => absurd c (by decide))
      refine j_iconst (v := 0) d_Mo_open_28 (by decide) ?_
      refine j_istore_n (L' := [some (.ref a0), some (.int p1), some (.int ((0 : Int32))), none]) d_Mo_open_29 (by decide) rfl ?_
      refine j_iconst (v := 0) d_Mo_open_30 (by decide) ?_
      refine j_istore_n (L' := [some (.ref a0), some (.int p1), some (.int ((0 : Int32))), some (.int ((0 : Int32)))]) d_Mo_open_31 (by decide) rfl ?_
      exact H
theorem wp_Mo_open_32 {E : EV} {G : GH} {Post : Res → GH → Prop} (a0 : Nat) (p1 : Int32) (p2 : Int32) (p3 : Int32) (H : gT G a0 = 11 ∧ ((gI G 669 a0) ≤ p3 → Post (.inl (some (.int p2))) G) ∧ (¬ (gI G 669 a0) ≤ p3 → ∃ b2, gR G 665 a0 = some b2 ∧ (gT G b2 = 20 ∨ gT G b2 = 25) ∧ ∃ n6, IX p3 n6 (gN G b2) ∧ (¬ (gI G 641 a0) = (2 : Int32) → ((((gA G b2 n6) + (gI G 644 a0)) + (0 : Int32)) ≤ (gI G 658 a0) → J E 2 m_Mo_open 32 [some (.ref a0), some (.int p1), some (.int ((p2 + (0 : Int32)))), some (.int ((p3 + (1 : Int32))))] [] G Post) ∧ (¬ (((gA G b2 n6) + (gI G 644 a0)) + (0 : Int32)) ≤ (gI G 658 a0) → ∃ b7, gR G 663 a0 = some b7 ∧ (gT G b7 = 20 ∨ gT G b7 = 25) ∧ ∃ n11, IX p3 n11 (gN G b7) ∧ (¬ (((gA G b7 n11) * (gI G 647 a0)) / (6 : Int32)) = p1 → J E 2 m_Mo_open 32 [some (.ref a0), some (.int p1), some (.int ((p2 + (0 : Int32)))), some (.int ((p3 + (1 : Int32))))] [] G Post) ∧ ((((gA G b7 n11) * (gI G 647 a0)) / (6 : Int32)) = p1 → J E 2 m_Mo_open 32 [some (.ref a0), some (.int p1), some (.int ((p2 + (1 : Int32)))), some (.int ((p3 + (1 : Int32))))] [] G Post))) ∧ ((gI G 641 a0) = (2 : Int32) → ((((gA G b2 n6) + (gI G 644 a0)) + (gI G 642 a0)) ≤ (gI G 658 a0) → J E 2 m_Mo_open 32 [some (.ref a0), some (.int p1), some (.int ((p2 + (0 : Int32)))), some (.int ((p3 + (1 : Int32))))] [] G Post) ∧ (¬ (((gA G b2 n6) + (gI G 644 a0)) + (gI G 642 a0)) ≤ (gI G 658 a0) → ∃ b16, gR G 663 a0 = some b16 ∧ (gT G b16 = 20 ∨ gT G b16 = 25) ∧ ∃ n20, IX p3 n20 (gN G b16) ∧ (¬ (((gA G b16 n20) * (gI G 647 a0)) / (6 : Int32)) = p1 → J E 2 m_Mo_open 32 [some (.ref a0), some (.int p1), some (.int ((p2 + (0 : Int32)))), some (.int ((p3 + (1 : Int32))))] [] G Post) ∧ ((((gA G b16 n20) * (gI G 647 a0)) / (6 : Int32)) = p1 → J E 2 m_Mo_open 32 [some (.ref a0), some (.int p1), some (.int ((p2 + (1 : Int32)))), some (.int ((p3 + (1 : Int32))))] [] G Post))))) : J E 2 m_Mo_open 32 [some (.ref a0), some (.int p1), some (.int p2), some (.int p3)] [] G Post := by
  refine j_iload_n d_Mo_open_32 rfl ?_
  refine j_aload_n d_Mo_open_33 rfl ?_
  obtain ⟨t1, H⟩ := H
  refine j_getI (f := 669) fe_Mo_184 rfl rfl t1 d_Mo_open_34 ?_
  obtain ⟨Ha, Hb⟩ := H
  refine j_icmp_ge (tgt := 80) d_Mo_open_37 (by decide) (fun c27 => ?_) (fun c28 => ?_)
  · have H := Ha c27
    refine j_iload_n d_Mo_open_80 rfl ?_
    exact j_iret rfl d_Mo_open_81 H
  · have H := Hb c28
    refine j_iload_n d_Mo_open_40 rfl ?_
    refine j_aload_n d_Mo_open_41 rfl ?_
    refine j_iload_n d_Mo_open_42 rfl ?_
    refine j_callV (d' := 1) (ci := 10) (As := [.int p3]) (rest := [.int p2]) (b := a0) cv_Mo_263 me_Mo_isOpen rfl (by decide) rfl rfl t1 rfl rfl (Nat.le_of_ble_eq_true rfl) d_Mo_open_43 (by decide) rfl (j_enter (L := [some (.ref a0), some (.int p3)]) me_Mo_isOpen (cat_c rfl (cat_c rfl cat_n)) (Nat.le_of_ble_eq_true rfl) rfl ?_)
    refine j_aload_n d_Mo_isOpen_0 rfl ?_
    refine j_getI (f := 658) fe_Mo_58 rfl rfl t1 d_Mo_isOpen_1 ?_
    refine j_aload_n d_Mo_isOpen_4 rfl ?_
    obtain ⟨b2, e3, H⟩ := H
    refine j_getR (f := 665) (b := b2) fe_Mo_73 rfl rfl t1 e3 d_Mo_isOpen_5 ?_
    refine j_iload_n d_Mo_isOpen_8 rfl ?_
    obtain ⟨t4, H⟩ := H
    obtain ⟨n6, x5, H⟩ := H
    refine j_iald (n := n6) t4 x5 d_Mo_isOpen_9 ?_
    refine j_aload_n d_Mo_isOpen_10 rfl ?_
    refine j_getI (f := 644) fe_Mo_153 rfl rfl t1 d_Mo_isOpen_11 ?_
    refine j_iadd d_Mo_isOpen_14 ?_
    refine j_aload_n d_Mo_isOpen_15 rfl ?_
    refine j_getI (f := 641) fe_Mo_9 rfl rfl t1 d_Mo_isOpen_16 ?_
    refine j_iconst (v := 2) d_Mo_isOpen_19 (by decide) ?_
    obtain ⟨Ha, Hb⟩ := H
    refine j_icmp_ne (tgt := 30) d_Mo_isOpen_20 (by decide) (fun c25 => ?_) (fun c26 => ?_)
    · have H := Ha c25
      refine j_iconst (v := 0) d_Mo_isOpen_30 (by decide) ?_
      refine j_iadd d_Mo_isOpen_31 ?_
      obtain ⟨Ha, Hb⟩ := H
      refine j_icmp_ge (tgt := 39) d_Mo_isOpen_32 (by decide) (fun c14 => ?_) (fun c15 => ?_)
      · have H := Ha c14
        refine j_iconst (v := 0) d_Mo_isOpen_39 (by decide) ?_
        refine j_zret rfl (by decide) d_Mo_isOpen_40 ?_
        show J E 2 m_Mo_open 46 [some (.ref a0), some (.int p1), some (.int p2), some (.int p3)] [.int ((0 : Int32)), .int p2] G Post
        refine j_if_eq (tgt := 71) d_Mo_open_46 (by decide) (fun _ => ?_) (fun c => absurd c (by decide))
        refine j_iconst (v := 0) d_Mo_open_71 (by decide) ?_
        refine j_iadd d_Mo_open_72 ?_
        refine j_istore_n (L' := [some (.ref a0), some (.int p1), some (.int ((p2 + (0 : Int32)))), some (.int p3)]) d_Mo_open_73 (by decide) rfl ?_
        refine j_iinc (v := (p3 + (1 : Int32))) (L' := [some (.ref a0), some (.int p1), some (.int ((p2 + (0 : Int32)))), some (.int ((p3 + (1 : Int32))))]) d_Mo_open_74 rfl (by rw [show Int32.ofInt (1) = (1 : Int32) by decide]) (by decide) rfl ?_
        refine j_goto (tgt := 32) d_Mo_open_77 (by decide) ?_
        exact H
      · have H := Hb c15
        refine j_iconst (v := 1) d_Mo_isOpen_35 (by decide) ?_
        refine j_goto (tgt := 40) d_Mo_isOpen_36 (by decide) ?_
        refine j_zret rfl (by decide) d_Mo_isOpen_40 ?_
        show J E 2 m_Mo_open 46 [some (.ref a0), some (.int p1), some (.int p2), some (.int p3)] [.int ((1 : Int32)), .int p2] G Post
        refine j_if_eq (tgt := 71) d_Mo_open_46 (by decide) (fun c => absurd c (by decide)) (fun _ => ?_)
        refine j_aload_n d_Mo_open_49 rfl ?_
        obtain ⟨b7, e8, H⟩ := H
        refine j_getR (f := 663) (b := b7) fe_Mo_67 rfl rfl t1 e8 d_Mo_open_50 ?_
        refine j_iload_n d_Mo_open_53 rfl ?_
        obtain ⟨t9, H⟩ := H
        obtain ⟨n11, x10, H⟩ := H
        refine j_iald (n := n11) t9 x10 d_Mo_open_54 ?_
        refine j_aload_n d_Mo_open_55 rfl ?_
        refine j_getI (f := 647) fe_Mo_26 rfl rfl t1 d_Mo_open_56 ?_
        refine j_imul d_Mo_open_59 ?_
        refine j_bipush (v := 6) d_Mo_open_60 (by decide) ?_
        refine j_idiv d_Mo_open_62 (by decide) ?_
        refine j_iload_n d_Mo_open_63 rfl ?_
        obtain ⟨Ha, Hb⟩ := H
        refine j_icmp_ne (tgt := 71) d_Mo_open_64 (by decide) (fun c12 => ?_) (fun c13 => ?_)
        · have H := Ha c12
          refine j_iconst (v := 0) d_Mo_open_71 (by decide) ?_
          refine j_iadd d_Mo_open_72 ?_
          refine j_istore_n (L' := [some (.ref a0), some (.int p1), some (.int ((p2 + (0 : Int32)))), some (.int p3)]) d_Mo_open_73 (by decide) rfl ?_
          refine j_iinc (v := (p3 + (1 : Int32))) (L' := [some (.ref a0), some (.int p1), some (.int ((p2 + (0 : Int32)))), some (.int ((p3 + (1 : Int32))))]) d_Mo_open_74 rfl (by rw [show Int32.ofInt (1) = (1 : Int32) by decide]) (by decide) rfl ?_
          refine j_goto (tgt := 32) d_Mo_open_77 (by decide) ?_
          exact H
        · have H := Hb c13
          refine j_iconst (v := 1) d_Mo_open_67 (by decide) ?_
          refine j_goto (tgt := 72) d_Mo_open_68 (by decide) ?_
          refine j_iadd d_Mo_open_72 ?_
          refine j_istore_n (L' := [some (.ref a0), some (.int p1), some (.int ((p2 + (1 : Int32)))), some (.int p3)]) d_Mo_open_73 (by decide) rfl ?_
          refine j_iinc (v := (p3 + (1 : Int32))) (L' := [some (.ref a0), some (.int p1), some (.int ((p2 + (1 : Int32)))), some (.int ((p3 + (1 : Int32))))]) d_Mo_open_74 rfl (by rw [show Int32.ofInt (1) = (1 : Int32) by decide]) (by decide) rfl ?_
          refine j_goto (tgt := 32) d_Mo_open_77 (by decide) ?_
          exact H
    · have H := Hb c26
      refine j_aload_n d_Mo_isOpen_23 rfl ?_
      refine j_getI (f := 642) fe_Mo_13 rfl rfl t1 d_Mo_isOpen_24 ?_
      refine j_goto (tgt := 31) d_Mo_isOpen_27 (by decide) ?_
      refine j_iadd d_Mo_isOpen_31 ?_
      obtain ⟨Ha, Hb⟩ := H
      refine j_icmp_ge (tgt := 39) d_Mo_isOpen_32 (by decide) (fun c23 => ?_) (fun c24 => ?_)
      · have H := Ha c23
        refine j_iconst (v := 0) d_Mo_isOpen_39 (by decide) ?_
        refine j_zret rfl (by decide) d_Mo_isOpen_40 ?_
        show J E 2 m_Mo_open 46 [some (.ref a0), some (.int p1), some (.int p2), some (.int p3)] [.int ((0 : Int32)), .int p2] G Post
        refine j_if_eq (tgt := 71) d_Mo_open_46 (by decide) (fun _ => ?_) (fun c => absurd c (by decide))
        refine j_iconst (v := 0) d_Mo_open_71 (by decide) ?_
        refine j_iadd d_Mo_open_72 ?_
        refine j_istore_n (L' := [some (.ref a0), some (.int p1), some (.int ((p2 + (0 : Int32)))), some (.int p3)]) d_Mo_open_73 (by decide) rfl ?_
        refine j_iinc (v := (p3 + (1 : Int32))) (L' := [some (.ref a0), some (.int p1), some (.int ((p2 + (0 : Int32)))), some (.int ((p3 + (1 : Int32))))]) d_Mo_open_74 rfl (by rw [show Int32.ofInt (1) = (1 : Int32) by decide]) (by decide) rfl ?_
        refine j_goto (tgt := 32) d_Mo_open_77 (by decide) ?_
        exact H
      · have H := Hb c24
        refine j_iconst (v := 1) d_Mo_isOpen_35 (by decide) ?_
        refine j_goto (tgt := 40) d_Mo_isOpen_36 (by decide) ?_
        refine j_zret rfl (by decide) d_Mo_isOpen_40 ?_
        show J E 2 m_Mo_open 46 [some (.ref a0), some (.int p1), some (.int p2), some (.int p3)] [.int ((1 : Int32)), .int p2] G Post
        refine j_if_eq (tgt := 71) d_Mo_open_46 (by decide) (fun c => absurd c (by decide)) (fun _ => ?_)
        refine j_aload_n d_Mo_open_49 rfl ?_
        obtain ⟨b16, e17, H⟩ := H
        refine j_getR (f := 663) (b := b16) fe_Mo_67 rfl rfl t1 e17 d_Mo_open_50 ?_
        refine j_iload_n d_Mo_open_53 rfl ?_
        obtain ⟨t18, H⟩ := H
        obtain ⟨n20, x19, H⟩ := H
        refine j_iald (n := n20) t18 x19 d_Mo_open_54 ?_
        refine j_aload_n d_Mo_open_55 rfl ?_
        refine j_getI (f := 647) fe_Mo_26 rfl rfl t1 d_Mo_open_56 ?_
        refine j_imul d_Mo_open_59 ?_
        refine j_bipush (v := 6) d_Mo_open_60 (by decide) ?_
        refine j_idiv d_Mo_open_62 (by decide) ?_
        refine j_iload_n d_Mo_open_63 rfl ?_
        obtain ⟨Ha, Hb⟩ := H
        refine j_icmp_ne (tgt := 71) d_Mo_open_64 (by decide) (fun c21 => ?_) (fun c22 => ?_)
        · have H := Ha c21
          refine j_iconst (v := 0) d_Mo_open_71 (by decide) ?_
          refine j_iadd d_Mo_open_72 ?_
          refine j_istore_n (L' := [some (.ref a0), some (.int p1), some (.int ((p2 + (0 : Int32)))), some (.int p3)]) d_Mo_open_73 (by decide) rfl ?_
          refine j_iinc (v := (p3 + (1 : Int32))) (L' := [some (.ref a0), some (.int p1), some (.int ((p2 + (0 : Int32)))), some (.int ((p3 + (1 : Int32))))]) d_Mo_open_74 rfl (by rw [show Int32.ofInt (1) = (1 : Int32) by decide]) (by decide) rfl ?_
          refine j_goto (tgt := 32) d_Mo_open_77 (by decide) ?_
          exact H
        · have H := Hb c22
          refine j_iconst (v := 1) d_Mo_open_67 (by decide) ?_
          refine j_goto (tgt := 72) d_Mo_open_68 (by decide) ?_
          refine j_iadd d_Mo_open_72 ?_
          refine j_istore_n (L' := [some (.ref a0), some (.int p1), some (.int ((p2 + (1 : Int32)))), some (.int p3)]) d_Mo_open_73 (by decide) rfl ?_
          refine j_iinc (v := (p3 + (1 : Int32))) (L' := [some (.ref a0), some (.int p1), some (.int ((p2 + (1 : Int32)))), some (.int ((p3 + (1 : Int32))))]) d_Mo_open_74 rfl (by rw [show Int32.ofInt (1) = (1 : Int32) by decide]) (by decide) rfl ?_
          refine j_goto (tgt := 32) d_Mo_open_77 (by decide) ?_
          exact H
theorem wp_Mo_sumAt_0 {E : EV} {G : GH} {Post : Res → GH → Prop} (a0 : Nat) (p1 : Int32) (p2 : Int32) (H : (p1 < (0 : Int32) → gT G a0 = 11 ∧ Post (.inl (some (.int ((0 : Int32))))) (sI G 640 a0 ((1 : Int32)))) ∧ (¬ p1 < (0 : Int32) → ((5 : Int32) < p1 → gT G a0 = 11 ∧ Post (.inl (some (.int ((0 : Int32))))) (sI G 640 a0 ((1 : Int32)))) ∧ (¬ (5 : Int32) < p1 → (p2 < (0 : Int32) → gT G a0 = 11 ∧ Post (.inl (some (.int ((0 : Int32))))) (sI G 640 a0 ((2 : Int32)))) ∧ (¬ p2 < (0 : Int32) → ((1200 : Int32) < p2 → gT G a0 = 11 ∧ Post (.inl (some (.int ((0 : Int32))))) (sI G 640 a0 ((2 : Int32)))) ∧ (¬ (1200 : Int32) < p2 → gT G a0 = 11 ∧ J E 3 m_Mo_sumAt 41 [some (.ref a0), some (.int p1), some (.int p2), some (.int ((-1 : Int32))), some (.int ((0 : Int32))), none] [] (sI G 640 a0 ((0 : Int32))) Post))))) : J E 3 m_Mo_sumAt 0 [some (.ref a0), some (.int p1), some (.int p2), none, none, none] [] G Post := by
  refine j_aload_n d_Mo_sumAt_0 rfl ?_
  refine j_iload_n d_Mo_sumAt_1 rfl ?_
  refine j_callS (d' := 2) (As := [.int p1]) (rest := [.ref a0]) cs_Mo_159 me_Mo_isKey rfl (by decide) rfl rfl (Nat.le_of_ble_eq_true rfl) d_Mo_sumAt_2 (by decide) rfl (j_enter (L := [some (.int p1)]) me_Mo_isKey (cat_c rfl cat_n) (Nat.le_of_ble_eq_true rfl) rfl ?_)
  refine j_iload_n d_Mo_isKey_0 rfl ?_
  refine j_iconst (v := 0) d_Mo_isKey_1 (by decide) ?_
  refine j_iconst (v := 5) d_Mo_isKey_2 (by decide) ?_
  refine j_callS (d' := 1) (As := [.int p1, .int ((0 : Int32)), .int ((5 : Int32))]) (rest := []) cs_Mo_142 me_Mo_isIn rfl (by decide) rfl rfl (Nat.le_of_ble_eq_true rfl) d_Mo_isKey_3 (by decide) rfl (j_enter (L := [some (.int p1), some (.int ((0 : Int32))), some (.int ((5 : Int32)))]) me_Mo_isIn (cat_c rfl (cat_c rfl (cat_c rfl cat_n))) (Nat.le_of_ble_eq_true rfl) rfl ?_)
  refine j_iload_n d_Mo_isIn_0 rfl ?_
  refine j_iload_n d_Mo_isIn_1 rfl ?_
  obtain ⟨Ha, Hb⟩ := H
  refine j_icmp_lt (tgt := 14) d_Mo_isIn_2 (by decide) (fun c12 => ?_) (fun c13 => ?_)
  · have H := Ha c12
    refine j_iconst (v := 0) d_Mo_isIn_14 (by decide) ?_
    refine j_zret rfl (by decide) d_Mo_isIn_15 ?_
    show J E 2 m_Mo_isKey 6 [some (.int p1)] [.int ((0 : Int32))] G (aft E 3 m_Mo_sumAt 2 [some (.ref a0), some (.int p1), some (.int p2), none, none, none] [.ref a0] Post)
    refine j_zret rfl (by decide) d_Mo_isKey_6 ?_
    show J E 3 m_Mo_sumAt 5 [some (.ref a0), some (.int p1), some (.int p2), none, none, none] [.int ((0 : Int32)), .ref a0] G Post
    refine j_if_ne (tgt := 12) d_Mo_sumAt_5 (by decide) (fun c => absurd c (by decide)) (fun _ => ?_)
    refine j_iconst (v := 1) d_Mo_sumAt_8 (by decide) ?_
    refine j_goto (tgt := 28) d_Mo_sumAt_9 (by decide) ?_
    obtain ⟨t1, H⟩ := H
    refine j_callV (d' := 1) (ci := 10) (As := [.int ((1 : Int32))]) (rest := []) (b := a0) cv_Mo_149 me_Mo_isFine rfl (by decide) rfl rfl t1 rfl rfl (Nat.le_of_ble_eq_true rfl) d_Mo_sumAt_28 (by decide) rfl (j_enter (L := [some (.ref a0), some (.int ((1 : Int32)))]) me_Mo_isFine (cat_c rfl (cat_c rfl cat_n)) (Nat.le_of_ble_eq_true rfl) rfl ?_)
    refine j_aload_n d_Mo_isFine_0 rfl ?_
    refine j_iload_n d_Mo_isFine_1 rfl ?_
    refine j_putI (f := 640) fw_Mo_139 rfl rfl t1 d_Mo_isFine_2 ?_
    refine j_iload_n d_Mo_isFine_5 rfl ?_
    refine j_if_ne (tgt := 13) d_Mo_isFine_6 (by decide) (fun _ => ?_) (fun c => absurd c (by decide))
    refine j_iconst (v := 0) d_Mo_isFine_13 (by decide) ?_
    refine j_zret rfl (by decide) d_Mo_isFine_14 ?_
    show J E 3 m_Mo_sumAt 31 [some (.ref a0), some (.int p1), some (.int p2), none, none, none] [.int ((0 : Int32))] (sI G 640 a0 ((1 : Int32))) Post
    refine j_if_ne (tgt := 36) d_Mo_sumAt_31 (by decide) (fun c => absurd c (by decide)) (fun _ => ?_)
    refine j_iconst (v := 0) d_Mo_sumAt_34 (by decide) ?_
    exact j_iret rfl d_Mo_sumAt_35 H
  · have H := Hb c13
    refine j_iload_n d_Mo_isIn_5 rfl ?_
    refine j_iload_n d_Mo_isIn_6 rfl ?_
    obtain ⟨Ha, Hb⟩ := H
    refine j_icmp_gt (tgt := 14) d_Mo_isIn_7 (by decide) (fun c10 => ?_) (fun c11 => ?_)
    · have H := Ha c10
      refine j_iconst (v := 0) d_Mo_isIn_14 (by decide) ?_
      refine j_zret rfl (by decide) d_Mo_isIn_15 ?_
      show J E 2 m_Mo_isKey 6 [some (.int p1)] [.int ((0 : Int32))] G (aft E 3 m_Mo_sumAt 2 [some (.ref a0), some (.int p1), some (.int p2), none, none, none] [.ref a0] Post)
      refine j_zret rfl (by decide) d_Mo_isKey_6 ?_
      show J E 3 m_Mo_sumAt 5 [some (.ref a0), some (.int p1), some (.int p2), none, none, none] [.int ((0 : Int32)), .ref a0] G Post
      refine j_if_ne (tgt := 12) d_Mo_sumAt_5 (by decide) (fun c => absurd c (by decide)) (fun _ => ?_)
      refine j_iconst (v := 1) d_Mo_sumAt_8 (by decide) ?_
      refine j_goto (tgt := 28) d_Mo_sumAt_9 (by decide) ?_
      obtain ⟨t2, H⟩ := H
      refine j_callV (d' := 1) (ci := 10) (As := [.int ((1 : Int32))]) (rest := []) (b := a0) cv_Mo_149 me_Mo_isFine rfl (by decide) rfl rfl t2 rfl rfl (Nat.le_of_ble_eq_true rfl) d_Mo_sumAt_28 (by decide) rfl (j_enter (L := [some (.ref a0), some (.int ((1 : Int32)))]) me_Mo_isFine (cat_c rfl (cat_c rfl cat_n)) (Nat.le_of_ble_eq_true rfl) rfl ?_)
      refine j_aload_n d_Mo_isFine_0 rfl ?_
      refine j_iload_n d_Mo_isFine_1 rfl ?_
      refine j_putI (f := 640) fw_Mo_139 rfl rfl t2 d_Mo_isFine_2 ?_
      refine j_iload_n d_Mo_isFine_5 rfl ?_
      refine j_if_ne (tgt := 13) d_Mo_isFine_6 (by decide) (fun _ => ?_) (fun c => absurd c (by decide))
      refine j_iconst (v := 0) d_Mo_isFine_13 (by decide) ?_
      refine j_zret rfl (by decide) d_Mo_isFine_14 ?_
      show J E 3 m_Mo_sumAt 31 [some (.ref a0), some (.int p1), some (.int p2), none, none, none] [.int ((0 : Int32))] (sI G 640 a0 ((1 : Int32))) Post
      refine j_if_ne (tgt := 36) d_Mo_sumAt_31 (by decide) (fun c => absurd c (by decide)) (fun _ => ?_)
      refine j_iconst (v := 0) d_Mo_sumAt_34 (by decide) ?_
      exact j_iret rfl d_Mo_sumAt_35 H
    · have H := Hb c11
      refine j_iconst (v := 1) d_Mo_isIn_10 (by decide) ?_
      refine j_goto (tgt := 15) d_Mo_isIn_11 (by decide) ?_
      refine j_zret rfl (by decide) d_Mo_isIn_15 ?_
      show J E 2 m_Mo_isKey 6 [some (.int p1)] [.int ((1 : Int32))] G (aft E 3 m_Mo_sumAt 2 [some (.ref a0), some (.int p1), some (.int p2), none, none, none] [.ref a0] Post)
      refine j_zret rfl (by decide) d_Mo_isKey_6 ?_
      show J E 3 m_Mo_sumAt 5 [some (.ref a0), some (.int p1), some (.int p2), none, none, none] [.int ((1 : Int32)), .ref a0] G Post
      refine j_if_ne (tgt := 12) d_Mo_sumAt_5 (by decide) (fun _ => ?_) (fun c => absurd c (by decide))
      refine j_iload_n d_Mo_sumAt_12 rfl ?_
      refine j_iconst (v := 0) d_Mo_sumAt_13 (by decide) ?_
      refine j_sipush (v := 1200) d_Mo_sumAt_14 (by decide) ?_
      refine j_callS (d' := 1) (As := [.int p2, .int ((0 : Int32)), .int ((1200 : Int32))]) (rest := [.ref a0]) cs_Mo_142 me_Mo_isIn rfl (by decide) rfl rfl (Nat.le_of_ble_eq_true rfl) d_Mo_sumAt_17 (by decide) rfl (j_enter (L := [some (.int p2), some (.int ((0 : Int32))), some (.int ((1200 : Int32)))]) me_Mo_isIn (cat_c rfl (cat_c rfl (cat_c rfl cat_n))) (Nat.le_of_ble_eq_true rfl) rfl ?_)
      refine j_iload_n d_Mo_isIn_0 rfl ?_
      refine j_iload_n d_Mo_isIn_1 rfl ?_
      obtain ⟨Ha, Hb⟩ := H
      refine j_icmp_lt (tgt := 14) d_Mo_isIn_2 (by decide) (fun c8 => ?_) (fun c9 => ?_)
      · have H := Ha c8
        refine j_iconst (v := 0) d_Mo_isIn_14 (by decide) ?_
        refine j_zret rfl (by decide) d_Mo_isIn_15 ?_
        show J E 3 m_Mo_sumAt 20 [some (.ref a0), some (.int p1), some (.int p2), none, none, none] [.int ((0 : Int32)), .ref a0] G Post
        refine j_if_ne (tgt := 27) d_Mo_sumAt_20 (by decide) (fun c => absurd c (by decide)) (fun _ => ?_)
        refine j_iconst (v := 2) d_Mo_sumAt_23 (by decide) ?_
        refine j_goto (tgt := 28) d_Mo_sumAt_24 (by decide) ?_
        obtain ⟨t3, H⟩ := H
        refine j_callV (d' := 1) (ci := 10) (As := [.int ((2 : Int32))]) (rest := []) (b := a0) cv_Mo_149 me_Mo_isFine rfl (by decide) rfl rfl t3 rfl rfl (Nat.le_of_ble_eq_true rfl) d_Mo_sumAt_28 (by decide) rfl (j_enter (L := [some (.ref a0), some (.int ((2 : Int32)))]) me_Mo_isFine (cat_c rfl (cat_c rfl cat_n)) (Nat.le_of_ble_eq_true rfl) rfl ?_)
        refine j_aload_n d_Mo_isFine_0 rfl ?_
        refine j_iload_n d_Mo_isFine_1 rfl ?_
        refine j_putI (f := 640) fw_Mo_139 rfl rfl t3 d_Mo_isFine_2 ?_
        refine j_iload_n d_Mo_isFine_5 rfl ?_
        refine j_if_ne (tgt := 13) d_Mo_isFine_6 (by decide) (fun _ => ?_) (fun c => absurd c (by decide))
        refine j_iconst (v := 0) d_Mo_isFine_13 (by decide) ?_
        refine j_zret rfl (by decide) d_Mo_isFine_14 ?_
        show J E 3 m_Mo_sumAt 31 [some (.ref a0), some (.int p1), some (.int p2), none, none, none] [.int ((0 : Int32))] (sI G 640 a0 ((2 : Int32))) Post
        refine j_if_ne (tgt := 36) d_Mo_sumAt_31 (by decide) (fun c => absurd c (by decide)) (fun _ => ?_)
        refine j_iconst (v := 0) d_Mo_sumAt_34 (by decide) ?_
        exact j_iret rfl d_Mo_sumAt_35 H
      · have H := Hb c9
        refine j_iload_n d_Mo_isIn_5 rfl ?_
        refine j_iload_n d_Mo_isIn_6 rfl ?_
        obtain ⟨Ha, Hb⟩ := H
        refine j_icmp_gt (tgt := 14) d_Mo_isIn_7 (by decide) (fun c6 => ?_) (fun c7 => ?_)
        · have H := Ha c6
          refine j_iconst (v := 0) d_Mo_isIn_14 (by decide) ?_
          refine j_zret rfl (by decide) d_Mo_isIn_15 ?_
          show J E 3 m_Mo_sumAt 20 [some (.ref a0), some (.int p1), some (.int p2), none, none, none] [.int ((0 : Int32)), .ref a0] G Post
          refine j_if_ne (tgt := 27) d_Mo_sumAt_20 (by decide) (fun c => absurd c (by decide)) (fun _ => ?_)
          refine j_iconst (v := 2) d_Mo_sumAt_23 (by decide) ?_
          refine j_goto (tgt := 28) d_Mo_sumAt_24 (by decide) ?_
          obtain ⟨t4, H⟩ := H
          refine j_callV (d' := 1) (ci := 10) (As := [.int ((2 : Int32))]) (rest := []) (b := a0) cv_Mo_149 me_Mo_isFine rfl (by decide) rfl rfl t4 rfl rfl (Nat.le_of_ble_eq_true rfl) d_Mo_sumAt_28 (by decide) rfl (j_enter (L := [some (.ref a0), some (.int ((2 : Int32)))]) me_Mo_isFine (cat_c rfl (cat_c rfl cat_n)) (Nat.le_of_ble_eq_true rfl) rfl ?_)
          refine j_aload_n d_Mo_isFine_0 rfl ?_
          refine j_iload_n d_Mo_isFine_1 rfl ?_
          refine j_putI (f := 640) fw_Mo_139 rfl rfl t4 d_Mo_isFine_2 ?_
          refine j_iload_n d_Mo_isFine_5 rfl ?_
          refine j_if_ne (tgt := 13) d_Mo_isFine_6 (by decide) (fun _ => ?_) (fun c => absurd c (by decide))
          refine j_iconst (v := 0) d_Mo_isFine_13 (by decide) ?_
          refine j_zret rfl (by decide) d_Mo_isFine_14 ?_
          show J E 3 m_Mo_sumAt 31 [some (.ref a0), some (.int p1), some (.int p2), none, none, none] [.int ((0 : Int32))] (sI G 640 a0 ((2 : Int32))) Post
          refine j_if_ne (tgt := 36) d_Mo_sumAt_31 (by decide) (fun c => absurd c (by decide)) (fun _ => ?_)
          refine j_iconst (v := 0) d_Mo_sumAt_34 (by decide) ?_
          exact j_iret rfl d_Mo_sumAt_35 H
        · have H := Hb c7
          refine j_iconst (v := 1) d_Mo_isIn_10 (by decide) ?_
          refine j_goto (tgt := 15) d_Mo_isIn_11 (by decide) ?_
          refine j_zret rfl (by decide) d_Mo_isIn_15 ?_
          show J E 3 m_Mo_sumAt 20 [some (.ref a0), some (.int p1), some (.int p2), none, none, none] [.int ((1 : Int32)), .ref a0] G Post
          refine j_if_ne (tgt := 27) d_Mo_sumAt_20 (by decide) (fun _ => ?_) (fun c => absurd c (by decide))
          refine j_iconst (v := 0) d_Mo_sumAt_27 (by decide) ?_
          obtain ⟨t5, H⟩ := H
          refine j_callV (d' := 1) (ci := 10) (As := [.int ((0 : Int32))]) (rest := []) (b := a0) cv_Mo_149 me_Mo_isFine rfl (by decide) rfl rfl t5 rfl rfl (Nat.le_of_ble_eq_true rfl) d_Mo_sumAt_28 (by decide) rfl (j_enter (L := [some (.ref a0), some (.int ((0 : Int32)))]) me_Mo_isFine (cat_c rfl (cat_c rfl cat_n)) (Nat.le_of_ble_eq_true rfl) rfl ?_)
          refine j_aload_n d_Mo_isFine_0 rfl ?_
          refine j_iload_n d_Mo_isFine_1 rfl ?_
          refine j_putI (f := 640) fw_Mo_139 rfl rfl t5 d_Mo_isFine_2 ?_
          refine j_iload_n d_Mo_isFine_5 rfl ?_
          refine j_if_ne (tgt := 13) d_Mo_isFine_6 (by decide) (fun c => absurd c (by decide)) (fun _ => ?_)
          refine j_iconst (v := 1) d_Mo_isFine_9 (by decide) ?_
          refine j_goto (tgt := 14) d_Mo_isFine_10 (by decide) ?_
          refine j_zret rfl (by decide) d_Mo_isFine_14 ?_
          show J E 3 m_Mo_sumAt 31 [some (.ref a0), some (.int p1), some (.int p2), none, none, none] [.int ((1 : Int32))] (sI G 640 a0 ((0 : Int32))) Post
          refine j_if_ne (tgt := 36) d_Mo_sumAt_31 (by decide) (fun _ => ?_) (fun c => absurd c (by decide))
          refine j_iconst (v := -1) d_Mo_sumAt_36 (by decide) ?_
          refine j_istore_n (L' := [some (.ref a0), some (.int p1), some (.int p2), some (.int ((-1 : Int32))), none, none]) d_Mo_sumAt_37 (by decide) rfl ?_
          refine j_iconst (v := 0) d_Mo_sumAt_38 (by decide) ?_
          refine j_istore (L' := [some (.ref a0), some (.int p1), some (.int p2), some (.int ((-1 : Int32))), some (.int ((0 : Int32))), none]) d_Mo_sumAt_39 (by decide) rfl ?_
          exact H
theorem wp_Mo_sumAt_41 {E : EV} {G : GH} {Post : Res → GH → Prop} (a0 : Nat) (p1 : Int32) (p2 : Int32) (p3 : Int32) (p4 : Int32) (H : gT G a0 = 11 ∧ ((gI G 669 a0) ≤ p4 → (¬ p3 = (-1 : Int32) → ∃ b2, gR G 667 a0 = some b2 ∧ (gT G b2 = 20 ∨ gT G b2 = 25) ∧ ∃ n6, IX p3 n6 (gN G b2) ∧ Post (.inl (some (.int ((gA G b2 n6))))) G) ∧ (p3 = (-1 : Int32) → Post (.inl (some (.int ((-1000000 : Int32))))) G)) ∧ (¬ (gI G 669 a0) ≤ p4 → ∃ b9, gR G 665 a0 = some b9 ∧ (gT G b9 = 20 ∨ gT G b9 = 25) ∧ ∃ n13, IX p4 n13 (gN G b9) ∧ (¬ (gI G 641 a0) = (2 : Int32) → ((((gA G b9 n13) + (gI G 644 a0)) + (0 : Int32)) ≤ (gI G 658 a0) → J E 3 m_Mo_sumAt 41 [some (.ref a0), some (.int p1), some (.int p2), some (.int p3), some (.int ((p4 + (1 : Int32)))), none] [] G Post) ∧ (¬ (((gA G b9 n13) + (gI G 644 a0)) + (0 : Int32)) ≤ (gI G 658 a0) → ∃ b14, gR G 663 a0 = some b14 ∧ (gT G b14 = 20 ∨ gT G b14 = 25) ∧ ∃ n18, IX p4 n18 (gN G b14) ∧ (¬ (gA G b14 n18) = p1 → J E 3 m_Mo_sumAt 41 [some (.ref a0), some (.int p1), some (.int p2), some (.int p3), some (.int ((p4 + (1 : Int32)))), none] [] G Post) ∧ ((gA G b14 n18) = p1 → ∃ b19, gR G 664 a0 = some b19 ∧ (gT G b19 = 20 ∨ gT G b19 = 25) ∧ ∃ n23, IX p4 n23 (gN G b19) ∧ (p2 < (gA G b19 n23) → J E 3 m_Mo_sumAt 41 [some (.ref a0), some (.int p1), some (.int p2), some (.int p3), some (.int ((p4 + (1 : Int32)))), none] [] G Post) ∧ (¬ p2 < (gA G b19 n23) → ((gA G b9 n13) ≤ p2 → J E 3 m_Mo_sumAt 41 [some (.ref a0), some (.int p1), some (.int p2), some (.int p3), some (.int ((p4 + (1 : Int32)))), none] [] G Post) ∧ (¬ (gA G b9 n13) ≤ p2 → (p3 = (-1 : Int32) → J E 3 m_Mo_sumAt 41 [some (.ref a0), some (.int p1), some (.int p2), some (.int p4), some (.int ((p4 + (1 : Int32)))), none] [] G Post) ∧ (¬ p3 = (-1 : Int32) → ∃ n25, IX p3 n25 (gN G b19) ∧ ((gA G b19 n25) ≤ (gA G b19 n23) → J E 3 m_Mo_sumAt 41 [some (.ref a0), some (.int p1), some (.int p2), some (.int p3), some (.int ((p4 + (1 : Int32)))), none] [] G Post) ∧ (¬ (gA G b19 n25) ≤ (gA G b19 n23) → J E 3 m_Mo_sumAt 41 [some (.ref a0), some (.int p1), some (.int p2), some (.int p4), some (.int ((p4 + (1 : Int32)))), none] [] G Post))))))) ∧ ((gI G 641 a0) = (2 : Int32) → ((((gA G b9 n13) + (gI G 644 a0)) + (gI G 642 a0)) ≤ (gI G 658 a0) → J E 3 m_Mo_sumAt 41 [some (.ref a0), some (.int p1), some (.int p2), some (.int p3), some (.int ((p4 + (1 : Int32)))), none] [] G Post) ∧ (¬ (((gA G b9 n13) + (gI G 644 a0)) + (gI G 642 a0)) ≤ (gI G 658 a0) → ∃ b38, gR G 663 a0 = some b38 ∧ (gT G b38 = 20 ∨ gT G b38 = 25) ∧ ∃ n42, IX p4 n42 (gN G b38) ∧ (¬ (gA G b38 n42) = p1 → J E 3 m_Mo_sumAt 41 [some (.ref a0), some (.int p1), some (.int p2), some (.int p3), some (.int ((p4 + (1 : Int32)))), none] [] G Post) ∧ ((gA G b38 n42) = p1 → ∃ b43, gR G 664 a0 = some b43 ∧ (gT G b43 = 20 ∨ gT G b43 = 25) ∧ ∃ n47, IX p4 n47 (gN G b43) ∧ (p2 < (gA G b43 n47) → J E 3 m_Mo_sumAt 41 [some (.ref a0), some (.int p1), some (.int p2), some (.int p3), some (.int ((p4 + (1 : Int32)))), none] [] G Post) ∧ (¬ p2 < (gA G b43 n47) → ((gA G b9 n13) ≤ p2 → J E 3 m_Mo_sumAt 41 [some (.ref a0), some (.int p1), some (.int p2), some (.int p3), some (.int ((p4 + (1 : Int32)))), none] [] G Post) ∧ (¬ (gA G b9 n13) ≤ p2 → (p3 = (-1 : Int32) → J E 3 m_Mo_sumAt 41 [some (.ref a0), some (.int p1), some (.int p2), some (.int p4), some (.int ((p4 + (1 : Int32)))), none] [] G Post) ∧ (¬ p3 = (-1 : Int32) → ∃ n49, IX p3 n49 (gN G b43) ∧ ((gA G b43 n49) ≤ (gA G b43 n47) → J E 3 m_Mo_sumAt 41 [some (.ref a0), some (.int p1), some (.int p2), some (.int p3), some (.int ((p4 + (1 : Int32)))), none] [] G Post) ∧ (¬ (gA G b43 n49) ≤ (gA G b43 n47) → J E 3 m_Mo_sumAt 41 [some (.ref a0), some (.int p1), some (.int p2), some (.int p4), some (.int ((p4 + (1 : Int32)))), none] [] G Post))))))))) : J E 3 m_Mo_sumAt 41 [some (.ref a0), some (.int p1), some (.int p2), some (.int p3), some (.int p4), none] [] G Post := by
  refine j_iload d_Mo_sumAt_41 rfl ?_
  refine j_aload_n d_Mo_sumAt_43 rfl ?_
  obtain ⟨t1, H⟩ := H
  refine j_getI (f := 669) fe_Mo_184 rfl rfl t1 d_Mo_sumAt_44 ?_
  obtain ⟨Ha, Hb⟩ := H
  refine j_icmp_ge (tgt := 138) d_Mo_sumAt_47 (by decide) (fun c64 => ?_) (fun c65 => ?_)
  · have H := Ha c64
    refine j_iload_n d_Mo_sumAt_138 rfl ?_
    refine j_iconst (v := -1) d_Mo_sumAt_139 (by decide) ?_
    obtain ⟨Ha, Hb⟩ := H
    refine j_icmp_ne (tgt := 149) d_Mo_sumAt_140 (by decide) (fun c7 => ?_) (fun c8 => ?_)
    · have H := Ha c7
      refine j_aload_n d_Mo_sumAt_149 rfl ?_
      obtain ⟨b2, e3, H⟩ := H
      refine j_getR (f := 667) (b := b2) fe_Mo_79 rfl rfl t1 e3 d_Mo_sumAt_150 ?_
      refine j_iload_n d_Mo_sumAt_153 rfl ?_
      obtain ⟨t4, H⟩ := H
      obtain ⟨n6, x5, H⟩ := H
      refine j_iald (n := n6) t4 x5 d_Mo_sumAt_154 ?_
      exact j_iret rfl d_Mo_sumAt_155 H
    · have H := Hb c8
      refine j_ldcw kc_Mo_266 d_Mo_sumAt_143 ?_
      refine j_goto (tgt := 155) d_Mo_sumAt_146 (by decide) ?_
      exact j_iret rfl d_Mo_sumAt_155 H
  · have H := Hb c65
    refine j_aload_n d_Mo_sumAt_50 rfl ?_
    refine j_iload d_Mo_sumAt_51 rfl ?_
    refine j_callV (d' := 1) (ci := 10) (As := [.int p4]) (rest := []) (b := a0) cv_Mo_263 me_Mo_isOpen rfl (by decide) rfl rfl t1 rfl rfl (Nat.le_of_ble_eq_true rfl) d_Mo_sumAt_53 (by decide) rfl (j_enter (L := [some (.ref a0), some (.int p4)]) me_Mo_isOpen (cat_c rfl (cat_c rfl cat_n)) (Nat.le_of_ble_eq_true rfl) rfl ?_)
    refine j_aload_n d_Mo_isOpen_0 rfl ?_
    refine j_getI (f := 658) fe_Mo_58 rfl rfl t1 d_Mo_isOpen_1 ?_
    refine j_aload_n d_Mo_isOpen_4 rfl ?_
    obtain ⟨b9, e10, H⟩ := H
    refine j_getR (f := 665) (b := b9) fe_Mo_73 rfl rfl t1 e10 d_Mo_isOpen_5 ?_
    refine j_iload_n d_Mo_isOpen_8 rfl ?_
    obtain ⟨t11, H⟩ := H
    obtain ⟨n13, x12, H⟩ := H
    refine j_iald (n := n13) t11 x12 d_Mo_isOpen_9 ?_
    refine j_aload_n d_Mo_isOpen_10 rfl ?_
    refine j_getI (f := 644) fe_Mo_153 rfl rfl t1 d_Mo_isOpen_11 ?_
    refine j_iadd d_Mo_isOpen_14 ?_
    refine j_aload_n d_Mo_isOpen_15 rfl ?_
    refine j_getI (f := 641) fe_Mo_9 rfl rfl t1 d_Mo_isOpen_16 ?_
    refine j_iconst (v := 2) d_Mo_isOpen_19 (by decide) ?_
    obtain ⟨Ha, Hb⟩ := H
    refine j_icmp_ne (tgt := 30) d_Mo_isOpen_20 (by decide) (fun c62 => ?_) (fun c63 => ?_)
    · have H := Ha c62
      refine j_iconst (v := 0) d_Mo_isOpen_30 (by decide) ?_
      refine j_iadd d_Mo_isOpen_31 ?_
      obtain ⟨Ha, Hb⟩ := H
      refine j_icmp_ge (tgt := 39) d_Mo_isOpen_32 (by decide) (fun c36 => ?_) (fun c37 => ?_)
      · have H := Ha c36
        refine j_iconst (v := 0) d_Mo_isOpen_39 (by decide) ?_
        refine j_zret rfl (by decide) d_Mo_isOpen_40 ?_
        show J E 3 m_Mo_sumAt 56 [some (.ref a0), some (.int p1), some (.int p2), some (.int p3), some (.int p4), none] [.int ((0 : Int32))] G Post
        refine j_if_eq (tgt := 96) d_Mo_sumAt_56 (by decide) (fun _ => ?_) (fun c => absurd c (by decide))
        refine j_iconst (v := 0) d_Mo_sumAt_96 (by decide) ?_
        refine j_istore (L' := [some (.ref a0), some (.int p1), some (.int p2), some (.int p3), some (.int p4), some (.int ((0 : Int32)))]) d_Mo_sumAt_97 (by decide) rfl ?_
        refine j_iload d_Mo_sumAt_99 rfl ?_
        refine j_if_eq (tgt := 130) d_Mo_sumAt_101 (by decide) (fun _ => ?_) (fun c => absurd c (by decide))
        refine j_iload_n d_Mo_sumAt_130 rfl ?_
        refine j_istore_n (L' := [some (.ref a0), some (.int p1), some (.int p2), some (.int p3), some (.int p4), some (.int ((0 : Int32)))]) d_Mo_sumAt_131 (by decide) rfl ?_
        refine j_iinc (v := (p4 + (1 : Int32))) (L' := [some (.ref a0), some (.int p1), some (.int p2), some (.int p3), some (.int ((p4 + (1 : Int32)))), some (.int ((0 : Int32)))]) d_Mo_sumAt_132 rfl (by rw [show Int32.ofInt (1) = (1 : Int32) by decide]) (by decide) rfl ?_
        refine j_goto (tgt := 41) d_Mo_sumAt_135 (by decide) ?_
        refine j_forget (L' := [some (.ref a0), some (.int p1), some (.int p2), some (.int p3), some (.int ((p4 + (1 : Int32)))), none]) ⟨Or.inr rfl, Or.inr rfl, Or.inr rfl, Or.inr rfl, Or.inr rfl, Or.inl rfl, trivial⟩ ?_
        exact H
      · have H := Hb c37
        refine j_iconst (v := 1) d_Mo_isOpen_35 (by decide) ?_
        refine j_goto (tgt := 40) d_Mo_isOpen_36 (by decide) ?_
        refine j_zret rfl (by decide) d_Mo_isOpen_40 ?_
        show J E 3 m_Mo_sumAt 56 [some (.ref a0), some (.int p1), some (.int p2), some (.int p3), some (.int p4), none] [.int ((1 : Int32))] G Post
        refine j_if_eq (tgt := 96) d_Mo_sumAt_56 (by decide) (fun c => absurd c (by decide)) (fun _ => ?_)
        refine j_aload_n d_Mo_sumAt_59 rfl ?_
        obtain ⟨b14, e15, H⟩ := H
        refine j_getR (f := 663) (b := b14) fe_Mo_67 rfl rfl t1 e15 d_Mo_sumAt_60 ?_
        refine j_iload d_Mo_sumAt_63 rfl ?_
        obtain ⟨t16, H⟩ := H
        obtain ⟨n18, x17, H⟩ := H
        refine j_iald (n := n18) t16 x17 d_Mo_sumAt_65 ?_
        refine j_iload_n d_Mo_sumAt_66 rfl ?_
        obtain ⟨Ha, Hb⟩ := H
        refine j_icmp_ne (tgt := 96) d_Mo_sumAt_67 (by decide) (fun c34 => ?_) (fun c35 => ?_)
        · have H := Ha c34
          refine j_iconst (v := 0) d_Mo_sumAt_96 (by decide) ?_
          refine j_istore (L' := [some (.ref a0), some (.int p1), some (.int p2), some (.int p3), some (.int p4), some (.int ((0 : Int32)))]) d_Mo_sumAt_97 (by decide) rfl ?_
          refine j_iload d_Mo_sumAt_99 rfl ?_
          refine j_if_eq (tgt := 130) d_Mo_sumAt_101 (by decide) (fun _ => ?_) (fun c => absurd c (by decide))
          refine j_iload_n d_Mo_sumAt_130 rfl ?_
          refine j_istore_n (L' := [some (.ref a0), some (.int p1), some (.int p2), some (.int p3), some (.int p4), some (.int ((0 : Int32)))]) d_Mo_sumAt_131 (by decide) rfl ?_
          refine j_iinc (v := (p4 + (1 : Int32))) (L' := [some (.ref a0), some (.int p1), some (.int p2), some (.int p3), some (.int ((p4 + (1 : Int32)))), some (.int ((0 : Int32)))]) d_Mo_sumAt_132 rfl (by rw [show Int32.ofInt (1) = (1 : Int32) by decide]) (by decide) rfl ?_
          refine j_goto (tgt := 41) d_Mo_sumAt_135 (by decide) ?_
          refine j_forget (L' := [some (.ref a0), some (.int p1), some (.int p2), some (.int p3), some (.int ((p4 + (1 : Int32)))), none]) ⟨Or.inr rfl, Or.inr rfl, Or.inr rfl, Or.inr rfl, Or.inr rfl, Or.inl rfl, trivial⟩ ?_
          exact H
        · have H := Hb c35
          refine j_aload_n d_Mo_sumAt_70 rfl ?_
          obtain ⟨b19, e20, H⟩ := H
          refine j_getR (f := 664) (b := b19) fe_Mo_70 rfl rfl t1 e20 d_Mo_sumAt_71 ?_
          refine j_iload d_Mo_sumAt_74 rfl ?_
          obtain ⟨t21, H⟩ := H
          obtain ⟨n23, x22, H⟩ := H
          refine j_iald (n := n23) t21 x22 d_Mo_sumAt_76 ?_
          refine j_iload_n d_Mo_sumAt_77 rfl ?_
          obtain ⟨Ha, Hb⟩ := H
          refine j_icmp_gt (tgt := 96) d_Mo_sumAt_78 (by decide) (fun c32 => ?_) (fun c33 => ?_)
          · have H := Ha c32
            refine j_iconst (v := 0) d_Mo_sumAt_96 (by decide) ?_
            refine j_istore (L' := [some (.ref a0), some (.int p1), some (.int p2), some (.int p3), some (.int p4), some (.int ((0 : Int32)))]) d_Mo_sumAt_97 (by decide) rfl ?_
            refine j_iload d_Mo_sumAt_99 rfl ?_
            refine j_if_eq (tgt := 130) d_Mo_sumAt_101 (by decide) (fun _ => ?_) (fun c => absurd c (by decide))
            refine j_iload_n d_Mo_sumAt_130 rfl ?_
            refine j_istore_n (L' := [some (.ref a0), some (.int p1), some (.int p2), some (.int p3), some (.int p4), some (.int ((0 : Int32)))]) d_Mo_sumAt_131 (by decide) rfl ?_
            refine j_iinc (v := (p4 + (1 : Int32))) (L' := [some (.ref a0), some (.int p1), some (.int p2), some (.int p3), some (.int ((p4 + (1 : Int32)))), some (.int ((0 : Int32)))]) d_Mo_sumAt_132 rfl (by rw [show Int32.ofInt (1) = (1 : Int32) by decide]) (by decide) rfl ?_
            refine j_goto (tgt := 41) d_Mo_sumAt_135 (by decide) ?_
            refine j_forget (L' := [some (.ref a0), some (.int p1), some (.int p2), some (.int p3), some (.int ((p4 + (1 : Int32)))), none]) ⟨Or.inr rfl, Or.inr rfl, Or.inr rfl, Or.inr rfl, Or.inr rfl, Or.inl rfl, trivial⟩ ?_
            exact H
          · have H := Hb c33
            refine j_iload_n d_Mo_sumAt_81 rfl ?_
            refine j_aload_n d_Mo_sumAt_82 rfl ?_
            refine j_getR (f := 665) (b := b9) fe_Mo_73 rfl rfl t1 e10 d_Mo_sumAt_83 ?_
            refine j_iload d_Mo_sumAt_86 rfl ?_
            refine j_iald (n := n13) t11 x12 d_Mo_sumAt_88 ?_
            obtain ⟨Ha, Hb⟩ := H
            refine j_icmp_ge (tgt := 96) d_Mo_sumAt_89 (by decide) (fun c30 => ?_) (fun c31 => ?_)
            · have H := Ha c30
              refine j_iconst (v := 0) d_Mo_sumAt_96 (by decide) ?_
              refine j_istore (L' := [some (.ref a0), some (.int p1), some (.int p2), some (.int p3), some (.int p4), some (.int ((0 : Int32)))]) d_Mo_sumAt_97 (by decide) rfl ?_
              refine j_iload d_Mo_sumAt_99 rfl ?_
              refine j_if_eq (tgt := 130) d_Mo_sumAt_101 (by decide) (fun _ => ?_) (fun c => absurd c (by decide))
              refine j_iload_n d_Mo_sumAt_130 rfl ?_
              refine j_istore_n (L' := [some (.ref a0), some (.int p1), some (.int p2), some (.int p3), some (.int p4), some (.int ((0 : Int32)))]) d_Mo_sumAt_131 (by decide) rfl ?_
              refine j_iinc (v := (p4 + (1 : Int32))) (L' := [some (.ref a0), some (.int p1), some (.int p2), some (.int p3), some (.int ((p4 + (1 : Int32)))), some (.int ((0 : Int32)))]) d_Mo_sumAt_132 rfl (by rw [show Int32.ofInt (1) = (1 : Int32) by decide]) (by decide) rfl ?_
              refine j_goto (tgt := 41) d_Mo_sumAt_135 (by decide) ?_
              refine j_forget (L' := [some (.ref a0), some (.int p1), some (.int p2), some (.int p3), some (.int ((p4 + (1 : Int32)))), none]) ⟨Or.inr rfl, Or.inr rfl, Or.inr rfl, Or.inr rfl, Or.inr rfl, Or.inl rfl, trivial⟩ ?_
              exact H
            · have H := Hb c31
              refine j_iconst (v := 1) d_Mo_sumAt_92 (by decide) ?_
              refine j_goto (tgt := 97) d_Mo_sumAt_93 (by decide) ?_
              refine j_istore (L' := [some (.ref a0), some (.int p1), some (.int p2), some (.int p3), some (.int p4), some (.int ((1 : Int32)))]) d_Mo_sumAt_97 (by decide) rfl ?_
              refine j_iload d_Mo_sumAt_99 rfl ?_
              refine j_if_eq (tgt := 130) d_Mo_sumAt_101 (by decide) (fun c => absurd c (by decide)) (fun _ => ?_)
              refine j_iload_n d_Mo_sumAt_104 rfl ?_
              refine j_iconst (v := -1) d_Mo_sumAt_105 (by decide) ?_
              obtain ⟨Ha, Hb⟩ := H
              refine j_icmp_eq (tgt := 125) d_Mo_sumAt_106 (by decide) (fun c28 => ?_) (fun c29 => ?_)
              · have H := Ha c28
                refine j_iload d_Mo_sumAt_125 rfl ?_
                refine j_goto (tgt := 131) d_Mo_sumAt_127 (by decide) ?_
                refine j_istore_n (L' := [some (.ref a0), some (.int p1), some (.int p2), some (.int p4), some (.int p4), some (.int ((1 : Int32)))]) d_Mo_sumAt_131 (by decide) rfl ?_
                refine j_iinc (v := (p4 + (1 : Int32))) (L' := [some (.ref a0), some (.int p1), some (.int p2), some (.int p4), some (.int ((p4 + (1 : Int32)))), some (.int ((1 : Int32)))]) d_Mo_sumAt_132 rfl (by rw [show Int32.ofInt (1) = (1 : Int32) by decide]) (by decide) rfl ?_
                refine j_goto (tgt := 41) d_Mo_sumAt_135 (by decide) ?_
                refine j_forget (L' := [some (.ref a0), some (.int p1), some (.int p2), some (.int p4), some (.int ((p4 + (1 : Int32)))), none]) ⟨Or.inr rfl, Or.inr rfl, Or.inr rfl, Or.inr rfl, Or.inr rfl, Or.inl rfl, trivial⟩ ?_
                exact H
              · have H := Hb c29
                refine j_aload_n d_Mo_sumAt_109 rfl ?_
                refine j_getR (f := 664) (b := b19) fe_Mo_70 rfl rfl t1 e20 d_Mo_sumAt_110 ?_
                refine j_iload d_Mo_sumAt_113 rfl ?_
                refine j_iald (n := n23) t21 x22 d_Mo_sumAt_115 ?_
                refine j_aload_n d_Mo_sumAt_116 rfl ?_
                refine j_getR (f := 664) (b := b19) fe_Mo_70 rfl rfl t1 e20 d_Mo_sumAt_117 ?_
                refine j_iload_n d_Mo_sumAt_120 rfl ?_
                obtain ⟨n25, x24, H⟩ := H
                refine j_iald (n := n25) t21 x24 d_Mo_sumAt_121 ?_
                obtain ⟨Ha, Hb⟩ := H
                refine j_icmp_ge (tgt := 130) d_Mo_sumAt_122 (by decide) (fun c26 => ?_) (fun c27 => ?_)
                · have H := Ha c26
                  refine j_iload_n d_Mo_sumAt_130 rfl ?_
                  refine j_istore_n (L' := [some (.ref a0), some (.int p1), some (.int p2), some (.int p3), some (.int p4), some (.int ((1 : Int32)))]) d_Mo_sumAt_131 (by decide) rfl ?_
                  refine j_iinc (v := (p4 + (1 : Int32))) (L' := [some (.ref a0), some (.int p1), some (.int p2), some (.int p3), some (.int ((p4 + (1 : Int32)))), some (.int ((1 : Int32)))]) d_Mo_sumAt_132 rfl (by rw [show Int32.ofInt (1) = (1 : Int32) by decide]) (by decide) rfl ?_
                  refine j_goto (tgt := 41) d_Mo_sumAt_135 (by decide) ?_
                  refine j_forget (L' := [some (.ref a0), some (.int p1), some (.int p2), some (.int p3), some (.int ((p4 + (1 : Int32)))), none]) ⟨Or.inr rfl, Or.inr rfl, Or.inr rfl, Or.inr rfl, Or.inr rfl, Or.inl rfl, trivial⟩ ?_
                  exact H
                · have H := Hb c27
                  refine j_iload d_Mo_sumAt_125 rfl ?_
                  refine j_goto (tgt := 131) d_Mo_sumAt_127 (by decide) ?_
                  refine j_istore_n (L' := [some (.ref a0), some (.int p1), some (.int p2), some (.int p4), some (.int p4), some (.int ((1 : Int32)))]) d_Mo_sumAt_131 (by decide) rfl ?_
                  refine j_iinc (v := (p4 + (1 : Int32))) (L' := [some (.ref a0), some (.int p1), some (.int p2), some (.int p4), some (.int ((p4 + (1 : Int32)))), some (.int ((1 : Int32)))]) d_Mo_sumAt_132 rfl (by rw [show Int32.ofInt (1) = (1 : Int32) by decide]) (by decide) rfl ?_
                  refine j_goto (tgt := 41) d_Mo_sumAt_135 (by decide) ?_
                  refine j_forget (L' := [some (.ref a0), some (.int p1), some (.int p2), some (.int p4), some (.int ((p4 + (1 : Int32)))), none]) ⟨Or.inr rfl, Or.inr rfl, Or.inr rfl, Or.inr rfl, Or.inr rfl, Or.inl rfl, trivial⟩ ?_
                  exact H
    · have H := Hb c63
      refine j_aload_n d_Mo_isOpen_23 rfl ?_
      refine j_getI (f := 642) fe_Mo_13 rfl rfl t1 d_Mo_isOpen_24 ?_
      refine j_goto (tgt := 31) d_Mo_isOpen_27 (by decide) ?_
      refine j_iadd d_Mo_isOpen_31 ?_
      obtain ⟨Ha, Hb⟩ := H
      refine j_icmp_ge (tgt := 39) d_Mo_isOpen_32 (by decide) (fun c60 => ?_) (fun c61 => ?_)
      · have H := Ha c60
        refine j_iconst (v := 0) d_Mo_isOpen_39 (by decide) ?_
        refine j_zret rfl (by decide) d_Mo_isOpen_40 ?_
        show J E 3 m_Mo_sumAt 56 [some (.ref a0), some (.int p1), some (.int p2), some (.int p3), some (.int p4), none] [.int ((0 : Int32))] G Post
        refine j_if_eq (tgt := 96) d_Mo_sumAt_56 (by decide) (fun _ => ?_) (fun c => absurd c (by decide))
        refine j_iconst (v := 0) d_Mo_sumAt_96 (by decide) ?_
        refine j_istore (L' := [some (.ref a0), some (.int p1), some (.int p2), some (.int p3), some (.int p4), some (.int ((0 : Int32)))]) d_Mo_sumAt_97 (by decide) rfl ?_
        refine j_iload d_Mo_sumAt_99 rfl ?_
        refine j_if_eq (tgt := 130) d_Mo_sumAt_101 (by decide) (fun _ => ?_) (fun c => absurd c (by decide))
        refine j_iload_n d_Mo_sumAt_130 rfl ?_
        refine j_istore_n (L' := [some (.ref a0), some (.int p1), some (.int p2), some (.int p3), some (.int p4), some (.int ((0 : Int32)))]) d_Mo_sumAt_131 (by decide) rfl ?_
        refine j_iinc (v := (p4 + (1 : Int32))) (L' := [some (.ref a0), some (.int p1), some (.int p2), some (.int p3), some (.int ((p4 + (1 : Int32)))), some (.int ((0 : Int32)))]) d_Mo_sumAt_132 rfl (by rw [show Int32.ofInt (1) = (1 : Int32) by decide]) (by decide) rfl ?_
        refine j_goto (tgt := 41) d_Mo_sumAt_135 (by decide) ?_
        refine j_forget (L' := [some (.ref a0), some (.int p1), some (.int p2), some (.int p3), some (.int ((p4 + (1 : Int32)))), none]) ⟨Or.inr rfl, Or.inr rfl, Or.inr rfl, Or.inr rfl, Or.inr rfl, Or.inl rfl, trivial⟩ ?_
        exact H
      · have H := Hb c61
        refine j_iconst (v := 1) d_Mo_isOpen_35 (by decide) ?_
        refine j_goto (tgt := 40) d_Mo_isOpen_36 (by decide) ?_
        refine j_zret rfl (by decide) d_Mo_isOpen_40 ?_
        show J E 3 m_Mo_sumAt 56 [some (.ref a0), some (.int p1), some (.int p2), some (.int p3), some (.int p4), none] [.int ((1 : Int32))] G Post
        refine j_if_eq (tgt := 96) d_Mo_sumAt_56 (by decide) (fun c => absurd c (by decide)) (fun _ => ?_)
        refine j_aload_n d_Mo_sumAt_59 rfl ?_
        obtain ⟨b38, e39, H⟩ := H
        refine j_getR (f := 663) (b := b38) fe_Mo_67 rfl rfl t1 e39 d_Mo_sumAt_60 ?_
        refine j_iload d_Mo_sumAt_63 rfl ?_
        obtain ⟨t40, H⟩ := H
        obtain ⟨n42, x41, H⟩ := H
        refine j_iald (n := n42) t40 x41 d_Mo_sumAt_65 ?_
        refine j_iload_n d_Mo_sumAt_66 rfl ?_
        obtain ⟨Ha, Hb⟩ := H
        refine j_icmp_ne (tgt := 96) d_Mo_sumAt_67 (by decide) (fun c58 => ?_) (fun c59 => ?_)
        · have H := Ha c58
          refine j_iconst (v := 0) d_Mo_sumAt_96 (by decide) ?_
          refine j_istore (L' := [some (.ref a0), some (.int p1), some (.int p2), some (.int p3), some (.int p4), some (.int ((0 : Int32)))]) d_Mo_sumAt_97 (by decide) rfl ?_
          refine j_iload d_Mo_sumAt_99 rfl ?_
          refine j_if_eq (tgt := 130) d_Mo_sumAt_101 (by decide) (fun _ => ?_) (fun c => absurd c (by decide))
          refine j_iload_n d_Mo_sumAt_130 rfl ?_
          refine j_istore_n (L' := [some (.ref a0), some (.int p1), some (.int p2), some (.int p3), some (.int p4), some (.int ((0 : Int32)))]) d_Mo_sumAt_131 (by decide) rfl ?_
          refine j_iinc (v := (p4 + (1 : Int32))) (L' := [some (.ref a0), some (.int p1), some (.int p2), some (.int p3), some (.int ((p4 + (1 : Int32)))), some (.int ((0 : Int32)))]) d_Mo_sumAt_132 rfl (by rw [show Int32.ofInt (1) = (1 : Int32) by decide]) (by decide) rfl ?_
          refine j_goto (tgt := 41) d_Mo_sumAt_135 (by decide) ?_
          refine j_forget (L' := [some (.ref a0), some (.int p1), some (.int p2), some (.int p3), some (.int ((p4 + (1 : Int32)))), none]) ⟨Or.inr rfl, Or.inr rfl, Or.inr rfl, Or.inr rfl, Or.inr rfl, Or.inl rfl, trivial⟩ ?_
          exact H
        · have H := Hb c59
          refine j_aload_n d_Mo_sumAt_70 rfl ?_
          obtain ⟨b43, e44, H⟩ := H
          refine j_getR (f := 664) (b := b43) fe_Mo_70 rfl rfl t1 e44 d_Mo_sumAt_71 ?_
          refine j_iload d_Mo_sumAt_74 rfl ?_
          obtain ⟨t45, H⟩ := H
          obtain ⟨n47, x46, H⟩ := H
          refine j_iald (n := n47) t45 x46 d_Mo_sumAt_76 ?_
          refine j_iload_n d_Mo_sumAt_77 rfl ?_
          obtain ⟨Ha, Hb⟩ := H
          refine j_icmp_gt (tgt := 96) d_Mo_sumAt_78 (by decide) (fun c56 => ?_) (fun c57 => ?_)
          · have H := Ha c56
            refine j_iconst (v := 0) d_Mo_sumAt_96 (by decide) ?_
            refine j_istore (L' := [some (.ref a0), some (.int p1), some (.int p2), some (.int p3), some (.int p4), some (.int ((0 : Int32)))]) d_Mo_sumAt_97 (by decide) rfl ?_
            refine j_iload d_Mo_sumAt_99 rfl ?_
            refine j_if_eq (tgt := 130) d_Mo_sumAt_101 (by decide) (fun _ => ?_) (fun c => absurd c (by decide))
            refine j_iload_n d_Mo_sumAt_130 rfl ?_
            refine j_istore_n (L' := [some (.ref a0), some (.int p1), some (.int p2), some (.int p3), some (.int p4), some (.int ((0 : Int32)))]) d_Mo_sumAt_131 (by decide) rfl ?_
            refine j_iinc (v := (p4 + (1 : Int32))) (L' := [some (.ref a0), some (.int p1), some (.int p2), some (.int p3), some (.int ((p4 + (1 : Int32)))), some (.int ((0 : Int32)))]) d_Mo_sumAt_132 rfl (by rw [show Int32.ofInt (1) = (1 : Int32) by decide]) (by decide) rfl ?_
            refine j_goto (tgt := 41) d_Mo_sumAt_135 (by decide) ?_
            refine j_forget (L' := [some (.ref a0), some (.int p1), some (.int p2), some (.int p3), some (.int ((p4 + (1 : Int32)))), none]) ⟨Or.inr rfl, Or.inr rfl, Or.inr rfl, Or.inr rfl, Or.inr rfl, Or.inl rfl, trivial⟩ ?_
            exact H
          · have H := Hb c57
            refine j_iload_n d_Mo_sumAt_81 rfl ?_
            refine j_aload_n d_Mo_sumAt_82 rfl ?_
            refine j_getR (f := 665) (b := b9) fe_Mo_73 rfl rfl t1 e10 d_Mo_sumAt_83 ?_
            refine j_iload d_Mo_sumAt_86 rfl ?_
            refine j_iald (n := n13) t11 x12 d_Mo_sumAt_88 ?_
            obtain ⟨Ha, Hb⟩ := H
            refine j_icmp_ge (tgt := 96) d_Mo_sumAt_89 (by decide) (fun c54 => ?_) (fun c55 => ?_)
            · have H := Ha c54
              refine j_iconst (v := 0) d_Mo_sumAt_96 (by decide) ?_
              refine j_istore (L' := [some (.ref a0), some (.int p1), some (.int p2), some (.int p3), some (.int p4), some (.int ((0 : Int32)))]) d_Mo_sumAt_97 (by decide) rfl ?_
              refine j_iload d_Mo_sumAt_99 rfl ?_
              refine j_if_eq (tgt := 130) d_Mo_sumAt_101 (by decide) (fun _ => ?_) (fun c => absurd c (by decide))
              refine j_iload_n d_Mo_sumAt_130 rfl ?_
              refine j_istore_n (L' := [some (.ref a0), some (.int p1), some (.int p2), some (.int p3), some (.int p4), some (.int ((0 : Int32)))]) d_Mo_sumAt_131 (by decide) rfl ?_
              refine j_iinc (v := (p4 + (1 : Int32))) (L' := [some (.ref a0), some (.int p1), some (.int p2), some (.int p3), some (.int ((p4 + (1 : Int32)))), some (.int ((0 : Int32)))]) d_Mo_sumAt_132 rfl (by rw [show Int32.ofInt (1) = (1 : Int32) by decide]) (by decide) rfl ?_
              refine j_goto (tgt := 41) d_Mo_sumAt_135 (by decide) ?_
              refine j_forget (L' := [some (.ref a0), some (.int p1), some (.int p2), some (.int p3), some (.int ((p4 + (1 : Int32)))), none]) ⟨Or.inr rfl, Or.inr rfl, Or.inr rfl, Or.inr rfl, Or.inr rfl, Or.inl rfl, trivial⟩ ?_
              exact H
            · have H := Hb c55
              refine j_iconst (v := 1) d_Mo_sumAt_92 (by decide) ?_
              refine j_goto (tgt := 97) d_Mo_sumAt_93 (by decide) ?_
              refine j_istore (L' := [some (.ref a0), some (.int p1), some (.int p2), some (.int p3), some (.int p4), some (.int ((1 : Int32)))]) d_Mo_sumAt_97 (by decide) rfl ?_
              refine j_iload d_Mo_sumAt_99 rfl ?_
              refine j_if_eq (tgt := 130) d_Mo_sumAt_101 (by decide) (fun c => absurd c (by decide)) (fun _ => ?_)
              refine j_iload_n d_Mo_sumAt_104 rfl ?_
              refine j_iconst (v := -1) d_Mo_sumAt_105 (by decide) ?_
              obtain ⟨Ha, Hb⟩ := H
              refine j_icmp_eq (tgt := 125) d_Mo_sumAt_106 (by decide) (fun c52 => ?_) (fun c53 => ?_)
              · have H := Ha c52
                refine j_iload d_Mo_sumAt_125 rfl ?_
                refine j_goto (tgt := 131) d_Mo_sumAt_127 (by decide) ?_
                refine j_istore_n (L' := [some (.ref a0), some (.int p1), some (.int p2), some (.int p4), some (.int p4), some (.int ((1 : Int32)))]) d_Mo_sumAt_131 (by decide) rfl ?_
                refine j_iinc (v := (p4 + (1 : Int32))) (L' := [some (.ref a0), some (.int p1), some (.int p2), some (.int p4), some (.int ((p4 + (1 : Int32)))), some (.int ((1 : Int32)))]) d_Mo_sumAt_132 rfl (by rw [show Int32.ofInt (1) = (1 : Int32) by decide]) (by decide) rfl ?_
                refine j_goto (tgt := 41) d_Mo_sumAt_135 (by decide) ?_
                refine j_forget (L' := [some (.ref a0), some (.int p1), some (.int p2), some (.int p4), some (.int ((p4 + (1 : Int32)))), none]) ⟨Or.inr rfl, Or.inr rfl, Or.inr rfl, Or.inr rfl, Or.inr rfl, Or.inl rfl, trivial⟩ ?_
                exact H
              · have H := Hb c53
                refine j_aload_n d_Mo_sumAt_109 rfl ?_
                refine j_getR (f := 664) (b := b43) fe_Mo_70 rfl rfl t1 e44 d_Mo_sumAt_110 ?_
                refine j_iload d_Mo_sumAt_113 rfl ?_
                refine j_iald (n := n47) t45 x46 d_Mo_sumAt_115 ?_
                refine j_aload_n d_Mo_sumAt_116 rfl ?_
                refine j_getR (f := 664) (b := b43) fe_Mo_70 rfl rfl t1 e44 d_Mo_sumAt_117 ?_
                refine j_iload_n d_Mo_sumAt_120 rfl ?_
                obtain ⟨n49, x48, H⟩ := H
                refine j_iald (n := n49) t45 x48 d_Mo_sumAt_121 ?_
                obtain ⟨Ha, Hb⟩ := H
                refine j_icmp_ge (tgt := 130) d_Mo_sumAt_122 (by decide) (fun c50 => ?_) (fun c51 => ?_)
                · have H := Ha c50
                  refine j_iload_n d_Mo_sumAt_130 rfl ?_
                  refine j_istore_n (L' := [some (.ref a0), some (.int p1), some (.int p2), some (.int p3), some (.int p4), some (.int ((1 : Int32)))]) d_Mo_sumAt_131 (by decide) rfl ?_
                  refine j_iinc (v := (p4 + (1 : Int32))) (L' := [some (.ref a0), some (.int p1), some (.int p2), some (.int p3), some (.int ((p4 + (1 : Int32)))), some (.int ((1 : Int32)))]) d_Mo_sumAt_132 rfl (by rw [show Int32.ofInt (1) = (1 : Int32) by decide]) (by decide) rfl ?_
                  refine j_goto (tgt := 41) d_Mo_sumAt_135 (by decide) ?_
                  refine j_forget (L' := [some (.ref a0), some (.int p1), some (.int p2), some (.int p3), some (.int ((p4 + (1 : Int32)))), none]) ⟨Or.inr rfl, Or.inr rfl, Or.inr rfl, Or.inr rfl, Or.inr rfl, Or.inl rfl, trivial⟩ ?_
                  exact H
                · have H := Hb c51
                  refine j_iload d_Mo_sumAt_125 rfl ?_
                  refine j_goto (tgt := 131) d_Mo_sumAt_127 (by decide) ?_
                  refine j_istore_n (L' := [some (.ref a0), some (.int p1), some (.int p2), some (.int p4), some (.int p4), some (.int ((1 : Int32)))]) d_Mo_sumAt_131 (by decide) rfl ?_
                  refine j_iinc (v := (p4 + (1 : Int32))) (L' := [some (.ref a0), some (.int p1), some (.int p2), some (.int p4), some (.int ((p4 + (1 : Int32)))), some (.int ((1 : Int32)))]) d_Mo_sumAt_132 rfl (by rw [show Int32.ofInt (1) = (1 : Int32) by decide]) (by decide) rfl ?_
                  refine j_goto (tgt := 41) d_Mo_sumAt_135 (by decide) ?_
                  refine j_forget (L' := [some (.ref a0), some (.int p1), some (.int p2), some (.int p4), some (.int ((p4 + (1 : Int32)))), none]) ⟨Or.inr rfl, Or.inr rfl, Or.inr rfl, Or.inr rfl, Or.inr rfl, Or.inl rfl, trivial⟩ ?_
                  exact H
theorem wp_Mo_dropped_0 {E : EV} {G : GH} {Post : Res → GH → Prop} (a0 : Nat) (H : gT G a0 = 11 ∧ Post (.inl (some (.int ((gI G 659 a0))))) (sI G 640 a0 ((0 : Int32)))) : J E 1 m_Mo_dropped 0 [some (.ref a0)] [] G Post := by
  refine j_aload_n d_Mo_dropped_0 rfl ?_
  refine j_iconst (v := 0) d_Mo_dropped_1 (by decide) ?_
  obtain ⟨t1, H⟩ := H
  refine j_putI (f := 640) fw_Mo_139 rfl rfl t1 d_Mo_dropped_2 ?_
  refine j_aload_n d_Mo_dropped_5 rfl ?_
  refine j_getI (f := 659) fe_Mo_214 rfl rfl t1 d_Mo_dropped_6 ?_
  exact j_iret rfl d_Mo_dropped_9 H
theorem wp_Mo_pairsOf_0 {E : EV} {G : GH} {Post : Res → GH → Prop} (a0 : Nat) (H : J E 1 m_Mo_pairsOf 4 [some (.ref a0), some (.int ((0 : Int32))), some (.int ((0 : Int32))), none, none, none] [] G Post) : J E 1 m_Mo_pairsOf 0 [some (.ref a0), none, none, none, none, none] [] G Post := by
  refine j_iconst (v := 0) d_Mo_pairsOf_0 (by decide) ?_
  refine j_istore_n (L' := [some (.ref a0), some (.int ((0 : Int32))), none, none, none, none]) d_Mo_pairsOf_1 (by decide) rfl ?_
  refine j_iconst (v := 0) d_Mo_pairsOf_2 (by decide) ?_
  refine j_istore_n (L' := [some (.ref a0), some (.int ((0 : Int32))), some (.int ((0 : Int32))), none, none, none]) d_Mo_pairsOf_3 (by decide) rfl ?_
  exact H
theorem wp_Mo_pairsOf_4 {E : EV} {G : GH} {Post : Res → GH → Prop} (a0 : Nat) (p1 : Int32) (p2 : Int32) (H : gT G a0 = 11 ∧ ((gI G 673 a0) ≤ p2 → Post (.inl (some (.int p1))) G) ∧ (¬ (gI G 673 a0) ≤ p2 → J E 1 m_Mo_pairsOf 14 [some (.ref a0), some (.int p1), some (.int p2), some (.int ((0 : Int32))), none, none] [] G Post)) : J E 1 m_Mo_pairsOf 4 [some (.ref a0), some (.int p1), some (.int p2), none, none, none] [] G Post := by
  refine j_iload_n d_Mo_pairsOf_4 rfl ?_
  refine j_aload_n d_Mo_pairsOf_5 rfl ?_
  obtain ⟨t1, H⟩ := H
  refine j_getI (f := 673) fe_Mo_217 rfl rfl t1 d_Mo_pairsOf_6 ?_
  obtain ⟨Ha, Hb⟩ := H
  refine j_icmp_ge (tgt := 145) d_Mo_pairsOf_9 (by decide) (fun c2 => ?_) (fun c3 => ?_)
  · have H := Ha c2
    refine j_iload_n d_Mo_pairsOf_145 rfl ?_
    exact j_iret rfl d_Mo_pairsOf_146 H
  · have H := Hb c3
    refine j_iconst (v := 0) d_Mo_pairsOf_12 (by decide) ?_
    refine j_istore_n (L' := [some (.ref a0), some (.int p1), some (.int p2), some (.int ((0 : Int32))), none, none]) d_Mo_pairsOf_13 (by decide) rfl ?_
    exact H
theorem wp_Mo_pairsOf_14 {E : EV} {G : GH} {Post : Res → GH → Prop} (a0 : Nat) (p1 : Int32) (p2 : Int32) (p3 : Int32) (H : gT G a0 = 11 ∧ ((gI G 673 a0) ≤ p3 → J E 1 m_Mo_pairsOf 4 [some (.ref a0), some (.int p1), some (.int ((p2 + (1 : Int32)))), none, none, none] [] G Post) ∧ (¬ (gI G 673 a0) ≤ p3 → ∃ b2, gR G 649 a0 = some b2 ∧ ∃ b4, gR G 672 a0 = some b4 ∧ (gT G b4 = 20 ∨ gT G b4 = 25) ∧ ∃ n8, IX p2 n8 (gN G b4) ∧ (gT G b2 = 20 ∨ gT G b2 = 25) ∧ ∃ n11, IX ((gA G b4 n8)) n11 (gN G b2) ∧ ∃ n13, IX p3 n13 (gN G b4) ∧ ∃ n15, IX ((gA G b4 n13)) n15 (gN G b2) ∧ ((40 : Int32) ≤ (gA G b4 n8) → J E 1 m_Mo_pairsOf 14 [some (.ref a0), some (.int ((p1 + (0 : Int32)))), some (.int p2), some (.int ((p3 + (1 : Int32)))), none, none] [] G Post) ∧ (¬ (40 : Int32) ≤ (gA G b4 n8) → ((gA G b4 n13) < (40 : Int32) → J E 1 m_Mo_pairsOf 14 [some (.ref a0), some (.int ((p1 + (0 : Int32)))), some (.int p2), some (.int ((p3 + (1 : Int32)))), none, none] [] G Post) ∧ (¬ (gA G b4 n13) < (40 : Int32) → ∃ b16, gR G 650 a0 = some b16 ∧ (gT G b16 = 20 ∨ gT G b16 = 25) ∧ ∃ n20, IX ((gA G b4 n8)) n20 (gN G b16) ∧ ∃ n22, IX ((gA G b4 n13)) n22 (gN G b16) ∧ (¬ (gA G b16 n20) = (gA G b16 n22) → J E 1 m_Mo_pairsOf 14 [some (.ref a0), some (.int ((p1 + (0 : Int32)))), some (.int p2), some (.int ((p3 + (1 : Int32)))), none, none] [] G Post) ∧ ((gA G b16 n20) = (gA G b16 n22) → ((gI G 645 a0) < ((gA G b2 n11) - (gA G b2 n15)) → J E 1 m_Mo_pairsOf 14 [some (.ref a0), some (.int ((p1 + (0 : Int32)))), some (.int p2), some (.int ((p3 + (1 : Int32)))), none, none] [] G Post) ∧ (¬ (gI G 645 a0) < ((gA G b2 n11) - (gA G b2 n15)) → ((gI G 645 a0) < (-((gA G b2 n11) - (gA G b2 n15))) → J E 1 m_Mo_pairsOf 14 [some (.ref a0), some (.int ((p1 + (0 : Int32)))), some (.int p2), some (.int ((p3 + (1 : Int32)))), none, none] [] G Post) ∧ (¬ (gI G 645 a0) < (-((gA G b2 n11) - (gA G b2 n15))) → J E 1 m_Mo_pairsOf 14 [some (.ref a0), some (.int ((p1 + (1 : Int32)))), some (.int p2), some (.int ((p3 + (1 : Int32)))), none, none] [] G Post))))))) : J E 1 m_Mo_pairsOf 14 [some (.ref a0), some (.int p1), some (.int p2), some (.int p3), none, none] [] G Post := by
  refine j_iload_n d_Mo_pairsOf_14 rfl ?_
  refine j_aload_n d_Mo_pairsOf_15 rfl ?_
  obtain ⟨t1, H⟩ := H
  refine j_getI (f := 673) fe_Mo_217 rfl rfl t1 d_Mo_pairsOf_16 ?_
  obtain ⟨Ha, Hb⟩ := H
  refine j_icmp_ge (tgt := 139) d_Mo_pairsOf_19 (by decide) (fun c33 => ?_) (fun c34 => ?_)
  · have H := Ha c33
    refine j_iinc (v := (p2 + (1 : Int32))) (L' := [some (.ref a0), some (.int p1), some (.int ((p2 + (1 : Int32)))), some (.int p3), none, none]) d_Mo_pairsOf_139 rfl (by rw [show Int32.ofInt (1) = (1 : Int32) by decide]) (by decide) rfl ?_
    refine j_goto (tgt := 4) d_Mo_pairsOf_142 (by decide) ?_
    refine j_forget (L' := [some (.ref a0), some (.int p1), some (.int ((p2 + (1 : Int32)))), none, none, none]) ⟨Or.inr rfl, Or.inr rfl, Or.inr rfl, Or.inl rfl, Or.inl rfl, Or.inl rfl, trivial⟩ ?_
    exact H
  · have H := Hb c34
    refine j_aload_n d_Mo_pairsOf_22 rfl ?_
    obtain ⟨b2, e3, H⟩ := H
    refine j_getR (f := 649) (b := b2) fe_Mo_29 rfl rfl t1 e3 d_Mo_pairsOf_23 ?_
    refine j_aload_n d_Mo_pairsOf_26 rfl ?_
    obtain ⟨b4, e5, H⟩ := H
    refine j_getR (f := 672) (b := b4) fe_Mo_88 rfl rfl t1 e5 d_Mo_pairsOf_27 ?_
    refine j_iload_n d_Mo_pairsOf_30 rfl ?_
    obtain ⟨t6, H⟩ := H
    obtain ⟨n8, x7, H⟩ := H
    refine j_iald (n := n8) t6 x7 d_Mo_pairsOf_31 ?_
    obtain ⟨t9, H⟩ := H
    obtain ⟨n11, x10, H⟩ := H
    refine j_iald (n := n11) t9 x10 d_Mo_pairsOf_32 ?_
    refine j_aload_n d_Mo_pairsOf_33 rfl ?_
    refine j_getR (f := 649) (b := b2) fe_Mo_29 rfl rfl t1 e3 d_Mo_pairsOf_34 ?_
    refine j_aload_n d_Mo_pairsOf_37 rfl ?_
    refine j_getR (f := 672) (b := b4) fe_Mo_88 rfl rfl t1 e5 d_Mo_pairsOf_38 ?_
    refine j_iload_n d_Mo_pairsOf_41 rfl ?_
    obtain ⟨n13, x12, H⟩ := H
    refine j_iald (n := n13) t6 x12 d_Mo_pairsOf_42 ?_
    obtain ⟨n15, x14, H⟩ := H
    refine j_iald (n := n15) t9 x14 d_Mo_pairsOf_43 ?_
    refine j_isub d_Mo_pairsOf_44 ?_
    refine j_istore (L' := [some (.ref a0), some (.int p1), some (.int p2), some (.int p3), some (.int (((gA G b2 n11) - (gA G b2 n15)))), none]) d_Mo_pairsOf_45 (by decide) rfl ?_
    refine j_aload_n d_Mo_pairsOf_47 rfl ?_
    refine j_getR (f := 672) (b := b4) fe_Mo_88 rfl rfl t1 e5 d_Mo_pairsOf_48 ?_
    refine j_iload_n d_Mo_pairsOf_51 rfl ?_
    refine j_iald (n := n8) t6 x7 d_Mo_pairsOf_52 ?_
    refine j_bipush (v := 40) d_Mo_pairsOf_53 (by decide) ?_
    obtain ⟨Ha, Hb⟩ := H
    refine j_icmp_ge (tgt := 98) d_Mo_pairsOf_55 (by decide) (fun c31 => ?_) (fun c32 => ?_)
    · have H := Ha c31
      refine j_iconst (v := 0) d_Mo_pairsOf_98 (by decide) ?_
      refine j_istore (L' := [some (.ref a0), some (.int p1), some (.int p2), some (.int p3), some (.int (((gA G b2 n11) - (gA G b2 n15)))), some (.int ((0 : Int32)))]) d_Mo_pairsOf_99 (by decide) rfl ?_
      refine j_iload_n d_Mo_pairsOf_101 rfl ?_
      refine j_iload d_Mo_pairsOf_102 rfl ?_
      refine j_if_eq (tgt := 130) d_Mo_pairsOf_104 (by decide) (fun _ => ?_) (fun c => absurd c (by decide))
      refine j_iconst (v := 0) d_Mo_pairsOf_130 (by decide) ?_
      refine j_iadd d_Mo_pairsOf_131 ?_
      refine j_istore_n (L' := [some (.ref a0), some (.int ((p1 + (0 : Int32)))), some (.int p2), some (.int p3), some (.int (((gA G b2 n11) - (gA G b2 n15)))), some (.int ((0 : Int32)))]) d_Mo_pairsOf_132 (by decide) rfl ?_
      refine j_iinc (v := (p3 + (1 : Int32))) (L' := [some (.ref a0), some (.int ((p1 + (0 : Int32)))), some (.int p2), some (.int ((p3 + (1 : Int32)))), some (.int (((gA G b2 n11) - (gA G b2 n15)))), some (.int ((0 : Int32)))]) d_Mo_pairsOf_133 rfl (by rw [show Int32.ofInt (1) = (1 : Int32) by decide]) (by decide) rfl ?_
      refine j_goto (tgt := 14) d_Mo_pairsOf_136 (by decide) ?_
      refine j_forget (L' := [some (.ref a0), some (.int ((p1 + (0 : Int32)))), some (.int p2), some (.int ((p3 + (1 : Int32)))), none, none]) ⟨Or.inr rfl, Or.inr rfl, Or.inr rfl, Or.inr rfl, Or.inl rfl, Or.inl rfl, trivial⟩ ?_
      exact H
    · have H := Hb c32
      refine j_aload_n d_Mo_pairsOf_58 rfl ?_
      refine j_getR (f := 672) (b := b4) fe_Mo_88 rfl rfl t1 e5 d_Mo_pairsOf_59 ?_
      refine j_iload_n d_Mo_pairsOf_62 rfl ?_
      refine j_iald (n := n13) t6 x12 d_Mo_pairsOf_63 ?_
      refine j_bipush (v := 40) d_Mo_pairsOf_64 (by decide) ?_
      obtain ⟨Ha, Hb⟩ := H
      refine j_icmp_lt (tgt := 98) d_Mo_pairsOf_66 (by decide) (fun c29 => ?_) (fun c30 => ?_)
      · have H := Ha c29
        refine j_iconst (v := 0) d_Mo_pairsOf_98 (by decide) ?_
        refine j_istore (L' := [some (.ref a0), some (.int p1), some (.int p2), some (.int p3), some (.int (((gA G b2 n11) - (gA G b2 n15)))), some (.int ((0 : Int32)))]) d_Mo_pairsOf_99 (by decide) rfl ?_
        refine j_iload_n d_Mo_pairsOf_101 rfl ?_
        refine j_iload d_Mo_pairsOf_102 rfl ?_
        refine j_if_eq (tgt := 130) d_Mo_pairsOf_104 (by decide) (fun _ => ?_) (fun c => absurd c (by decide))
        refine j_iconst (v := 0) d_Mo_pairsOf_130 (by decide) ?_
        refine j_iadd d_Mo_pairsOf_131 ?_
        refine j_istore_n (L' := [some (.ref a0), some (.int ((p1 + (0 : Int32)))), some (.int p2), some (.int p3), some (.int (((gA G b2 n11) - (gA G b2 n15)))), some (.int ((0 : Int32)))]) d_Mo_pairsOf_132 (by decide) rfl ?_
        refine j_iinc (v := (p3 + (1 : Int32))) (L' := [some (.ref a0), some (.int ((p1 + (0 : Int32)))), some (.int p2), some (.int ((p3 + (1 : Int32)))), some (.int (((gA G b2 n11) - (gA G b2 n15)))), some (.int ((0 : Int32)))]) d_Mo_pairsOf_133 rfl (by rw [show Int32.ofInt (1) = (1 : Int32) by decide]) (by decide) rfl ?_
        refine j_goto (tgt := 14) d_Mo_pairsOf_136 (by decide) ?_
        refine j_forget (L' := [some (.ref a0), some (.int ((p1 + (0 : Int32)))), some (.int p2), some (.int ((p3 + (1 : Int32)))), none, none]) ⟨Or.inr rfl, Or.inr rfl, Or.inr rfl, Or.inr rfl, Or.inl rfl, Or.inl rfl, trivial⟩ ?_
        exact H
      · have H := Hb c30
        refine j_aload_n d_Mo_pairsOf_69 rfl ?_
        obtain ⟨b16, e17, H⟩ := H
        refine j_getR (f := 650) (b := b16) fe_Mo_33 rfl rfl t1 e17 d_Mo_pairsOf_70 ?_
        refine j_aload_n d_Mo_pairsOf_73 rfl ?_
        refine j_getR (f := 672) (b := b4) fe_Mo_88 rfl rfl t1 e5 d_Mo_pairsOf_74 ?_
        refine j_iload_n d_Mo_pairsOf_77 rfl ?_
        refine j_iald (n := n8) t6 x7 d_Mo_pairsOf_78 ?_
        obtain ⟨t18, H⟩ := H
        obtain ⟨n20, x19, H⟩ := H
        refine j_iald (n := n20) t18 x19 d_Mo_pairsOf_79 ?_
        refine j_aload_n d_Mo_pairsOf_80 rfl ?_
        refine j_getR (f := 650) (b := b16) fe_Mo_33 rfl rfl t1 e17 d_Mo_pairsOf_81 ?_
        refine j_aload_n d_Mo_pairsOf_84 rfl ?_
        refine j_getR (f := 672) (b := b4) fe_Mo_88 rfl rfl t1 e5 d_Mo_pairsOf_85 ?_
        refine j_iload_n d_Mo_pairsOf_88 rfl ?_
        refine j_iald (n := n13) t6 x12 d_Mo_pairsOf_89 ?_
        obtain ⟨n22, x21, H⟩ := H
        refine j_iald (n := n22) t18 x21 d_Mo_pairsOf_90 ?_
        obtain ⟨Ha, Hb⟩ := H
        refine j_icmp_ne (tgt := 98) d_Mo_pairsOf_91 (by decide) (fun c27 => ?_) (fun c28 => ?_)
        · have H := Ha c27
          refine j_iconst (v := 0) d_Mo_pairsOf_98 (by decide) ?_
          refine j_istore (L' := [some (.ref a0), some (.int p1), some (.int p2), some (.int p3), some (.int (((gA G b2 n11) - (gA G b2 n15)))), some (.int ((0 : Int32)))]) d_Mo_pairsOf_99 (by decide) rfl ?_
          refine j_iload_n d_Mo_pairsOf_101 rfl ?_
          refine j_iload d_Mo_pairsOf_102 rfl ?_
          refine j_if_eq (tgt := 130) d_Mo_pairsOf_104 (by decide) (fun _ => ?_) (fun c => absurd c (by decide))
          refine j_iconst (v := 0) d_Mo_pairsOf_130 (by decide) ?_
          refine j_iadd d_Mo_pairsOf_131 ?_
          refine j_istore_n (L' := [some (.ref a0), some (.int ((p1 + (0 : Int32)))), some (.int p2), some (.int p3), some (.int (((gA G b2 n11) - (gA G b2 n15)))), some (.int ((0 : Int32)))]) d_Mo_pairsOf_132 (by decide) rfl ?_
          refine j_iinc (v := (p3 + (1 : Int32))) (L' := [some (.ref a0), some (.int ((p1 + (0 : Int32)))), some (.int p2), some (.int ((p3 + (1 : Int32)))), some (.int (((gA G b2 n11) - (gA G b2 n15)))), some (.int ((0 : Int32)))]) d_Mo_pairsOf_133 rfl (by rw [show Int32.ofInt (1) = (1 : Int32) by decide]) (by decide) rfl ?_
          refine j_goto (tgt := 14) d_Mo_pairsOf_136 (by decide) ?_
          refine j_forget (L' := [some (.ref a0), some (.int ((p1 + (0 : Int32)))), some (.int p2), some (.int ((p3 + (1 : Int32)))), none, none]) ⟨Or.inr rfl, Or.inr rfl, Or.inr rfl, Or.inr rfl, Or.inl rfl, Or.inl rfl, trivial⟩ ?_
          exact H
        · have H := Hb c28
          refine j_iconst (v := 1) d_Mo_pairsOf_94 (by decide) ?_
          refine j_goto (tgt := 99) d_Mo_pairsOf_95 (by decide) ?_
          refine j_istore (L' := [some (.ref a0), some (.int p1), some (.int p2), some (.int p3), some (.int (((gA G b2 n11) - (gA G b2 n15)))), some (.int ((1 : Int32)))]) d_Mo_pairsOf_99 (by decide) rfl ?_
          refine j_iload_n d_Mo_pairsOf_101 rfl ?_
          refine j_iload d_Mo_pairsOf_102 rfl ?_
          refine j_if_eq (tgt := 130) d_Mo_pairsOf_104 (by decide) (fun c => absurd c (by decide)) (fun _ => ?_)
          refine j_iload d_Mo_pairsOf_107 rfl ?_
          refine j_aload_n d_Mo_pairsOf_109 rfl ?_
          refine j_getI (f := 645) fe_Mo_19 rfl rfl t1 d_Mo_pairsOf_110 ?_
          obtain ⟨Ha, Hb⟩ := H
          refine j_icmp_gt (tgt := 130) d_Mo_pairsOf_113 (by decide) (fun c25 => ?_) (fun c26 => ?_)
          · have H := Ha c25
            refine j_iconst (v := 0) d_Mo_pairsOf_130 (by decide) ?_
            refine j_iadd d_Mo_pairsOf_131 ?_
            refine j_istore_n (L' := [some (.ref a0), some (.int ((p1 + (0 : Int32)))), some (.int p2), some (.int p3), some (.int (((gA G b2 n11) - (gA G b2 n15)))), some (.int ((1 : Int32)))]) d_Mo_pairsOf_132 (by decide) rfl ?_
            refine j_iinc (v := (p3 + (1 : Int32))) (L' := [some (.ref a0), some (.int ((p1 + (0 : Int32)))), some (.int p2), some (.int ((p3 + (1 : Int32)))), some (.int (((gA G b2 n11) - (gA G b2 n15)))), some (.int ((1 : Int32)))]) d_Mo_pairsOf_133 rfl (by rw [show Int32.ofInt (1) = (1 : Int32) by decide]) (by decide) rfl ?_
            refine j_goto (tgt := 14) d_Mo_pairsOf_136 (by decide) ?_
            refine j_forget (L' := [some (.ref a0), some (.int ((p1 + (0 : Int32)))), some (.int p2), some (.int ((p3 + (1 : Int32)))), none, none]) ⟨Or.inr rfl, Or.inr rfl, Or.inr rfl, Or.inr rfl, Or.inl rfl, Or.inl rfl, trivial⟩ ?_
            exact H
          · have H := Hb c26
            refine j_iload d_Mo_pairsOf_116 rfl ?_
            refine j_ineg d_Mo_pairsOf_118 ?_
            refine j_aload_n d_Mo_pairsOf_119 rfl ?_
            refine j_getI (f := 645) fe_Mo_19 rfl rfl t1 d_Mo_pairsOf_120 ?_
            obtain ⟨Ha, Hb⟩ := H
            refine j_icmp_gt (tgt := 130) d_Mo_pairsOf_123 (by decide) (fun c23 => ?_) (fun c24 => ?_)
            · have H := Ha c23
              refine j_iconst (v := 0) d_Mo_pairsOf_130 (by decide) ?_
              refine j_iadd d_Mo_pairsOf_131 ?_
              refine j_istore_n (L' := [some (.ref a0), some (.int ((p1 + (0 : Int32)))), some (.int p2), some (.int p3), some (.int (((gA G b2 n11) - (gA G b2 n15)))), some (.int ((1 : Int32)))]) d_Mo_pairsOf_132 (by decide) rfl ?_
              refine j_iinc (v := (p3 + (1 : Int32))) (L' := [some (.ref a0), some (.int ((p1 + (0 : Int32)))), some (.int p2), some (.int ((p3 + (1 : Int32)))), some (.int (((gA G b2 n11) - (gA G b2 n15)))), some (.int ((1 : Int32)))]) d_Mo_pairsOf_133 rfl (by rw [show Int32.ofInt (1) = (1 : Int32) by decide]) (by decide) rfl ?_
              refine j_goto (tgt := 14) d_Mo_pairsOf_136 (by decide) ?_
              refine j_forget (L' := [some (.ref a0), some (.int ((p1 + (0 : Int32)))), some (.int p2), some (.int ((p3 + (1 : Int32)))), none, none]) ⟨Or.inr rfl, Or.inr rfl, Or.inr rfl, Or.inr rfl, Or.inl rfl, Or.inl rfl, trivial⟩ ?_
              exact H
            · have H := Hb c24
              refine j_iconst (v := 1) d_Mo_pairsOf_126 (by decide) ?_
              refine j_goto (tgt := 131) d_Mo_pairsOf_127 (by decide) ?_
              refine j_iadd d_Mo_pairsOf_131 ?_
              refine j_istore_n (L' := [some (.ref a0), some (.int ((p1 + (1 : Int32)))), some (.int p2), some (.int p3), some (.int (((gA G b2 n11) - (gA G b2 n15)))), some (.int ((1 : Int32)))]) d_Mo_pairsOf_132 (by decide) rfl ?_
              refine j_iinc (v := (p3 + (1 : Int32))) (L' := [some (.ref a0), some (.int ((p1 + (1 : Int32)))), some (.int p2), some (.int ((p3 + (1 : Int32)))), some (.int (((gA G b2 n11) - (gA G b2 n15)))), some (.int ((1 : Int32)))]) d_Mo_pairsOf_133 rfl (by rw [show Int32.ofInt (1) = (1 : Int32) by decide]) (by decide) rfl ?_
              refine j_goto (tgt := 14) d_Mo_pairsOf_136 (by decide) ?_
              refine j_forget (L' := [some (.ref a0), some (.int ((p1 + (1 : Int32)))), some (.int p2), some (.int ((p3 + (1 : Int32)))), none, none]) ⟨Or.inr rfl, Or.inr rfl, Or.inr rfl, Or.inr rfl, Or.inl rfl, Or.inl rfl, trivial⟩ ?_
              exact H
theorem wp_Mo_pairs_0 {E : EV} {G : GH} {Post : Res → GH → Prop} (a0 : Nat) (H : gT G a0 = 11 ∧ Cl E 1 m_Mo_pairsOf [.ref a0] (sI G 640 a0 ((0 : Int32))) (aft E 2 m_Mo_pairs 6 [none] [] Post)) : J E 2 m_Mo_pairs 0 [some (.ref a0)] [] G Post := by
  refine j_aload_n d_Mo_pairs_0 rfl ?_
  refine j_iconst (v := 0) d_Mo_pairs_1 (by decide) ?_
  obtain ⟨t1, H⟩ := H
  refine j_putI (f := 640) fw_Mo_139 rfl rfl t1 d_Mo_pairs_2 ?_
  refine j_aload_n d_Mo_pairs_5 rfl ?_
  refine j_forget (L' := [none]) ⟨Or.inl rfl, trivial⟩ ?_
  exact j_callV (d' := 1) (ci := 10) (As := []) (rest := []) (b := a0) cv_Mo_267 me_Mo_pairsOf rfl (by decide) rfl rfl t1 rfl rfl (Nat.le_of_ble_eq_true rfl) d_Mo_pairs_6 (by decide) rfl H
theorem wp_Mo_pairs_9 {E : EV} {G : GH} {Post : Res → GH → Prop} (s0 : Int32) (H : Post (.inl (some (.int s0))) G) : J E 2 m_Mo_pairs 9 [none] [.int s0] G Post := by
  exact j_iret rfl d_Mo_pairs_9 H
theorem wp_Mo_pairsAnew_0 {E : EV} {G : GH} {Post : Res → GH → Prop} (a0 : Nat) (H : gT G a0 = 11 ∧ Cl E 1 m_Mo_pairsOf [.ref a0] (sI G 640 a0 ((0 : Int32))) (aft E 2 m_Mo_pairsAnew 6 [none] [] Post)) : J E 2 m_Mo_pairsAnew 0 [some (.ref a0)] [] G Post := by
  refine j_aload_n d_Mo_pairsAnew_0 rfl ?_
  refine j_iconst (v := 0) d_Mo_pairsAnew_1 (by decide) ?_
  obtain ⟨t1, H⟩ := H
  refine j_putI (f := 640) fw_Mo_139 rfl rfl t1 d_Mo_pairsAnew_2 ?_
  refine j_aload_n d_Mo_pairsAnew_5 rfl ?_
  refine j_forget (L' := [none]) ⟨Or.inl rfl, trivial⟩ ?_
  exact j_callV (d' := 1) (ci := 10) (As := []) (rest := []) (b := a0) cv_Mo_267 me_Mo_pairsOf rfl (by decide) rfl rfl t1 rfl rfl (Nat.le_of_ble_eq_true rfl) d_Mo_pairsAnew_6 (by decide) rfl H
theorem wp_Mo_pairsAnew_9 {E : EV} {G : GH} {Post : Res → GH → Prop} (s0 : Int32) (H : Post (.inl (some (.int s0))) G) : J E 2 m_Mo_pairsAnew 9 [none] [.int s0] G Post := by
  exact j_iret rfl d_Mo_pairsAnew_9 H
theorem wp_Mo_uncommitted_0 {E : EV} {G : GH} {Post : Res → GH → Prop} (a0 : Nat) (H : gT G a0 = 11 ∧ Post (.inl (some (.int (((gI G 680 a0) - (gI G 682 a0)))))) (sI G 640 a0 ((0 : Int32)))) : J E 1 m_Mo_uncommitted 0 [some (.ref a0)] [] G Post := by
  refine j_aload_n d_Mo_uncommitted_0 rfl ?_
  refine j_iconst (v := 0) d_Mo_uncommitted_1 (by decide) ?_
  obtain ⟨t1, H⟩ := H
  refine j_putI (f := 640) fw_Mo_139 rfl rfl t1 d_Mo_uncommitted_2 ?_
  refine j_aload_n d_Mo_uncommitted_5 rfl ?_
  refine j_getI (f := 680) fe_Mo_169 rfl rfl t1 d_Mo_uncommitted_6 ?_
  refine j_aload_n d_Mo_uncommitted_9 rfl ?_
  refine j_getI (f := 682) fe_Mo_257 rfl rfl t1 d_Mo_uncommitted_10 ?_
  refine j_isub d_Mo_uncommitted_13 ?_
  exact j_iret rfl d_Mo_uncommitted_14 H
theorem wp_Mo_told_0 {E : EV} {G : GH} {Post : Res → GH → Prop} (a0 : Nat) (p1 : Int32) (p2 : Int32) (p3 : Int32) (H : J E 1 m_Mo_told 6 [some (.ref a0), some (.int p1), some (.int p2), some (.int p3), some (.int ((-1 : Int32))), some (.int ((0 : Int32))), none] [] G Post) : J E 1 m_Mo_told 0 [some (.ref a0), some (.int p1), some (.int p2), some (.int p3), none, none, none] [] G Post := by
  refine j_iconst (v := -1) d_Mo_told_0 (by decide) ?_
  refine j_istore (L' := [some (.ref a0), some (.int p1), some (.int p2), some (.int p3), some (.int ((-1 : Int32))), none, none]) d_Mo_told_1 (by decide) rfl ?_
  refine j_iconst (v := 0) d_Mo_told_3 (by decide) ?_
  refine j_istore (L' := [some (.ref a0), some (.int p1), some (.int p2), some (.int p3), some (.int ((-1 : Int32))), some (.int ((0 : Int32))), none]) d_Mo_told_4 (by decide) rfl ?_
  exact H
theorem wp_Mo_told_6 {E : EV} {G : GH} {Post : Res → GH → Prop} (a0 : Nat) (p1 : Int32) (p2 : Int32) (p3 : Int32) (p4 : Int32) (p5 : Int32) (H : gT G a0 = 11 ∧ ((gI G 682 a0) ≤ p5 → (¬ p4 = (-1 : Int32) → (¬ p3 = 0 → (¬ p3 = (1 : Int32) → ∃ b2, gR G 676 a0 = some b2 ∧ (gT G b2 = 20 ∨ gT G b2 = 25) ∧ ∃ n6, IX p4 n6 (gN G b2) ∧ Post (.inl (some (.int ((gA G b2 n6))))) G) ∧ (p3 = (1 : Int32) → ∃ b7, gR G 678 a0 = some b7 ∧ (gT G b7 = 20 ∨ gT G b7 = 25) ∧ ∃ n11, IX p4 n11 (gN G b7) ∧ Post (.inl (some (.int ((gA G b7 n11))))) G)) ∧ (p3 = 0 → ∃ b14, gR G 677 a0 = some b14 ∧ (gT G b14 = 20 ∨ gT G b14 = 25) ∧ ∃ n18, IX p4 n18 (gN G b14) ∧ Post (.inl (some (.int ((gA G b14 n18))))) G)) ∧ (p4 = (-1 : Int32) → Post (.inl (some (.int ((-1000000 : Int32))))) G)) ∧ (¬ (gI G 682 a0) ≤ p5 → ∃ b23, gR G 674 a0 = some b23 ∧ (gT G b23 = 20 ∨ gT G b23 = 25) ∧ ∃ n27, IX p5 n27 (gN G b23) ∧ (¬ (gA G b23 n27) = p1 → J E 1 m_Mo_told 6 [some (.ref a0), some (.int p1), some (.int p2), some (.int p3), some (.int p4), some (.int ((p5 + (1 : Int32)))), none] [] G Post) ∧ ((gA G b23 n27) = p1 → ∃ b28, gR G 675 a0 = some b28 ∧ (gT G b28 = 20 ∨ gT G b28 = 25) ∧ ∃ n32, IX p5 n32 (gN G b28) ∧ (¬ (gA G b28 n32) = p2 → J E 1 m_Mo_told 6 [some (.ref a0), some (.int p1), some (.int p2), some (.int p3), some (.int p4), some (.int ((p5 + (1 : Int32)))), none] [] G Post) ∧ ((gA G b28 n32) = p2 → ∃ b33, gR G 679 a0 = some b33 ∧ gT G b33 = 21 ∧ ∃ n37, IX p5 n37 (gN G b33) ∧ ((gA G b33 n37) = 0 → J E 1 m_Mo_told 6 [some (.ref a0), some (.int p1), some (.int p2), some (.int p3), some (.int p5), some (.int ((p5 + (1 : Int32)))), none] [] G Post) ∧ (¬ (gA G b33 n37) = 0 → J E 1 m_Mo_told 6 [some (.ref a0), some (.int p1), some (.int p2), some (.int p3), some (.int ((-1 : Int32))), some (.int ((p5 + (1 : Int32)))), none] [] G Post))))) : J E 1 m_Mo_told 6 [some (.ref a0), some (.int p1), some (.int p2), some (.int p3), some (.int p4), some (.int p5), none] [] G Post := by
  refine j_iload d_Mo_told_6 rfl ?_
  refine j_aload_n d_Mo_told_8 rfl ?_
  obtain ⟨t1, H⟩ := H
  refine j_getI (f := 682) fe_Mo_257 rfl rfl t1 d_Mo_told_9 ?_
  obtain ⟨Ha, Hb⟩ := H
  refine j_icmp_ge (tgt := 78) d_Mo_told_12 (by decide) (fun c44 => ?_) (fun c45 => ?_)
  · have H := Ha c44
    refine j_iload d_Mo_told_78 rfl ?_
    refine j_iconst (v := -1) d_Mo_told_80 (by decide) ?_
    obtain ⟨Ha, Hb⟩ := H
    refine j_icmp_ne (tgt := 90) d_Mo_told_81 (by decide) (fun c21 => ?_) (fun c22 => ?_)
    · have H := Ha c21
      refine j_iload_n d_Mo_told_90 rfl ?_
      obtain ⟨Ha, Hb⟩ := H
      refine j_if_ne (tgt := 104) d_Mo_told_91 (by decide) (fun c19 => ?_) (fun c20 => ?_)
      · have H := Ha c19
        refine j_iload_n d_Mo_told_104 rfl ?_
        refine j_iconst (v := 1) d_Mo_told_105 (by decide) ?_
        obtain ⟨Ha, Hb⟩ := H
        refine j_icmp_ne (tgt := 119) d_Mo_told_106 (by decide) (fun c12 => ?_) (fun c13 => ?_)
        · have H := Ha c12
          refine j_aload_n d_Mo_told_119 rfl ?_
          obtain ⟨b2, e3, H⟩ := H
          refine j_getR (f := 676) (b := b2) fe_Mo_97 rfl rfl t1 e3 d_Mo_told_120 ?_
          refine j_iload d_Mo_told_123 rfl ?_
          obtain ⟨t4, H⟩ := H
          obtain ⟨n6, x5, H⟩ := H
          refine j_iald (n := n6) t4 x5 d_Mo_told_125 ?_
          exact j_iret rfl d_Mo_told_126 H
        · have H := Hb c13
          refine j_aload_n d_Mo_told_109 rfl ?_
          obtain ⟨b7, e8, H⟩ := H
          refine j_getR (f := 678) (b := b7) fe_Mo_103 rfl rfl t1 e8 d_Mo_told_110 ?_
          refine j_iload d_Mo_told_113 rfl ?_
          obtain ⟨t9, H⟩ := H
          obtain ⟨n11, x10, H⟩ := H
          refine j_iald (n := n11) t9 x10 d_Mo_told_115 ?_
          refine j_goto (tgt := 126) d_Mo_told_116 (by decide) ?_
          exact j_iret rfl d_Mo_told_126 H
      · have H := Hb c20
        refine j_aload_n d_Mo_told_94 rfl ?_
        obtain ⟨b14, e15, H⟩ := H
        refine j_getR (f := 677) (b := b14) fe_Mo_100 rfl rfl t1 e15 d_Mo_told_95 ?_
        refine j_iload d_Mo_told_98 rfl ?_
        obtain ⟨t16, H⟩ := H
        obtain ⟨n18, x17, H⟩ := H
        refine j_iald (n := n18) t16 x17 d_Mo_told_100 ?_
        refine j_goto (tgt := 126) d_Mo_told_101 (by decide) ?_
        exact j_iret rfl d_Mo_told_126 H
    · have H := Hb c22
      refine j_ldcw kc_Mo_266 d_Mo_told_84 ?_
      refine j_goto (tgt := 126) d_Mo_told_87 (by decide) ?_
      exact j_iret rfl d_Mo_told_126 H
  · have H := Hb c45
    refine j_aload_n d_Mo_told_15 rfl ?_
    obtain ⟨b23, e24, H⟩ := H
    refine j_getR (f := 674) (b := b23) fe_Mo_91 rfl rfl t1 e24 d_Mo_told_16 ?_
    refine j_iload d_Mo_told_19 rfl ?_
    obtain ⟨t25, H⟩ := H
    obtain ⟨n27, x26, H⟩ := H
    refine j_iald (n := n27) t25 x26 d_Mo_told_21 ?_
    refine j_iload_n d_Mo_told_22 rfl ?_
    obtain ⟨Ha, Hb⟩ := H
    refine j_icmp_ne (tgt := 41) d_Mo_told_23 (by decide) (fun c42 => ?_) (fun c43 => ?_)
    · have H := Ha c42
      refine j_iconst (v := 0) d_Mo_told_41 (by decide) ?_
      refine j_istore (L' := [some (.ref a0), some (.int p1), some (.int p2), some (.int p3), some (.int p4), some (.int p5), some (.int ((0 : Int32)))]) d_Mo_told_42 (by decide) rfl ?_
      refine j_iload d_Mo_told_44 rfl ?_
      refine j_if_ne (tgt := 54) d_Mo_told_46 (by decide) (fun c => absurd c (by decide)) (fun _ => ?_)
      refine j_iload d_Mo_told_49 rfl ?_
      refine j_goto (tgt := 70) d_Mo_told_51 (by decide) ?_
      refine j_istore (L' := [some (.ref a0), some (.int p1), some (.int p2), some (.int p3), some (.int p4), some (.int p5), some (.int ((0 : Int32)))]) d_Mo_told_70 (by decide) rfl ?_
      refine j_iinc (v := (p5 + (1 : Int32))) (L' := [some (.ref a0), some (.int p1), some (.int p2), some (.int p3), some (.int p4), some (.int ((p5 + (1 : Int32)))), some (.int ((0 : Int32)))]) d_Mo_told_72 rfl (by rw [show Int32.ofInt (1) = (1 : Int32) by decide]) (by decide) rfl ?_
      refine j_goto (tgt := 6) d_Mo_told_75 (by decide) ?_
      refine j_forget (L' := [some (.ref a0), some (.int p1), some (.int p2), some (.int p3), some (.int p4), some (.int ((p5 + (1 : Int32)))), none]) ⟨Or.inr rfl, Or.inr rfl, Or.inr rfl, Or.inr rfl, Or.inr rfl, Or.inr rfl, Or.inl rfl, trivial⟩ ?_
      exact H
    · have H := Hb c43
      refine j_aload_n d_Mo_told_26 rfl ?_
      obtain ⟨b28, e29, H⟩ := H
      refine j_getR (f := 675) (b := b28) fe_Mo_94 rfl rfl t1 e29 d_Mo_told_27 ?_
      refine j_iload d_Mo_told_30 rfl ?_
      obtain ⟨t30, H⟩ := H
      obtain ⟨n32, x31, H⟩ := H
      refine j_iald (n := n32) t30 x31 d_Mo_told_32 ?_
      refine j_iload_n d_Mo_told_33 rfl ?_
      obtain ⟨Ha, Hb⟩ := H
      refine j_icmp_ne (tgt := 41) d_Mo_told_34 (by decide) (fun c40 => ?_) (fun c41 => ?_)
      · have H := Ha c40
        refine j_iconst (v := 0) d_Mo_told_41 (by decide) ?_
        refine j_istore (L' := [some (.ref a0), some (.int p1), some (.int p2), some (.int p3), some (.int p4), some (.int p5), some (.int ((0 : Int32)))]) d_Mo_told_42 (by decide) rfl ?_
        refine j_iload d_Mo_told_44 rfl ?_
        refine j_if_ne (tgt := 54) d_Mo_told_46 (by decide) (fun c => absurd c (by decide)) (fun _ => ?_)
        refine j_iload d_Mo_told_49 rfl ?_
        refine j_goto (tgt := 70) d_Mo_told_51 (by decide) ?_
        refine j_istore (L' := [some (.ref a0), some (.int p1), some (.int p2), some (.int p3), some (.int p4), some (.int p5), some (.int ((0 : Int32)))]) d_Mo_told_70 (by decide) rfl ?_
        refine j_iinc (v := (p5 + (1 : Int32))) (L' := [some (.ref a0), some (.int p1), some (.int p2), some (.int p3), some (.int p4), some (.int ((p5 + (1 : Int32)))), some (.int ((0 : Int32)))]) d_Mo_told_72 rfl (by rw [show Int32.ofInt (1) = (1 : Int32) by decide]) (by decide) rfl ?_
        refine j_goto (tgt := 6) d_Mo_told_75 (by decide) ?_
        refine j_forget (L' := [some (.ref a0), some (.int p1), some (.int p2), some (.int p3), some (.int p4), some (.int ((p5 + (1 : Int32)))), none]) ⟨Or.inr rfl, Or.inr rfl, Or.inr rfl, Or.inr rfl, Or.inr rfl, Or.inr rfl, Or.inl rfl, trivial⟩ ?_
        exact H
      · have H := Hb c41
        refine j_iconst (v := 1) d_Mo_told_37 (by decide) ?_
        refine j_goto (tgt := 42) d_Mo_told_38 (by decide) ?_
        refine j_istore (L' := [some (.ref a0), some (.int p1), some (.int p2), some (.int p3), some (.int p4), some (.int p5), some (.int ((1 : Int32)))]) d_Mo_told_42 (by decide) rfl ?_
        refine j_iload d_Mo_told_44 rfl ?_
        refine j_if_ne (tgt := 54) d_Mo_told_46 (by decide) (fun _ => ?_) (fun c => absurd c (by decide))
        refine j_aload_n d_Mo_told_54 rfl ?_
        obtain ⟨b33, e34, H⟩ := H
        refine j_getR (f := 679) (b := b33) fe_Mo_106 rfl rfl t1 e34 d_Mo_told_55 ?_
        refine j_iload d_Mo_told_58 rfl ?_
        obtain ⟨t35, H⟩ := H
        obtain ⟨n37, x36, H⟩ := H
        refine j_zald (n := n37) t35 x36 d_Mo_told_60 ?_
        obtain ⟨Ha, Hb⟩ := H
        refine j_if_eq (tgt := 68) d_Mo_told_61 (by decide) (fun c38 => ?_) (fun c39 => ?_)
        · have H := Ha c38
          refine j_iload d_Mo_told_68 rfl ?_
          refine j_istore (L' := [some (.ref a0), some (.int p1), some (.int p2), some (.int p3), some (.int p5), some (.int p5), some (.int ((1 : Int32)))]) d_Mo_told_70 (by decide) rfl ?_
          refine j_iinc (v := (p5 + (1 : Int32))) (L' := [some (.ref a0), some (.int p1), some (.int p2), some (.int p3), some (.int p5), some (.int ((p5 + (1 : Int32)))), some (.int ((1 : Int32)))]) d_Mo_told_72 rfl (by rw [show Int32.ofInt (1) = (1 : Int32) by decide]) (by decide) rfl ?_
          refine j_goto (tgt := 6) d_Mo_told_75 (by decide) ?_
          refine j_forget (L' := [some (.ref a0), some (.int p1), some (.int p2), some (.int p3), some (.int p5), some (.int ((p5 + (1 : Int32)))), none]) ⟨Or.inr rfl, Or.inr rfl, Or.inr rfl, Or.inr rfl, Or.inr rfl, Or.inr rfl, Or.inl rfl, trivial⟩ ?_
          exact H
        · have H := Hb c39
          refine j_iconst (v := -1) d_Mo_told_64 (by decide) ?_
          refine j_goto (tgt := 70) d_Mo_told_65 (by decide) ?_
          refine j_istore (L' := [some (.ref a0), some (.int p1), some (.int p2), some (.int p3), some (.int ((-1 : Int32))), some (.int p5), some (.int ((1 : Int32)))]) d_Mo_told_70 (by decide) rfl ?_
          refine j_iinc (v := (p5 + (1 : Int32))) (L' := [some (.ref a0), some (.int p1), some (.int p2), some (.int p3), some (.int ((-1 : Int32))), some (.int ((p5 + (1 : Int32)))), some (.int ((1 : Int32)))]) d_Mo_told_72 rfl (by rw [show Int32.ofInt (1) = (1 : Int32) by decide]) (by decide) rfl ?_
          refine j_goto (tgt := 6) d_Mo_told_75 (by decide) ?_
          refine j_forget (L' := [some (.ref a0), some (.int p1), some (.int p2), some (.int p3), some (.int ((-1 : Int32))), some (.int ((p5 + (1 : Int32)))), none]) ⟨Or.inr rfl, Or.inr rfl, Or.inr rfl, Or.inr rfl, Or.inr rfl, Or.inr rfl, Or.inl rfl, trivial⟩ ?_
          exact H
theorem wp_Mo_result_0 {E : EV} {G : GH} {Post : Res → GH → Prop} (a0 : Nat) (p1 : Int32) (p2 : Int32) (p3 : Int32) (H : (p1 < (0 : Int32) → gT G a0 = 11 ∧ Post (.inl (some (.int ((0 : Int32))))) (sI G 640 a0 ((1 : Int32)))) ∧ (¬ p1 < (0 : Int32) → ((5 : Int32) < p1 → gT G a0 = 11 ∧ Post (.inl (some (.int ((0 : Int32))))) (sI G 640 a0 ((1 : Int32)))) ∧ (¬ (5 : Int32) < p1 → gT G a0 = 11 ∧ (p2 < (0 : Int32) → Post (.inl (some (.int ((0 : Int32))))) (sI G 640 a0 ((2 : Int32)))) ∧ (¬ p2 < (0 : Int32) → ((999 : Int32) < p2 → Post (.inl (some (.int ((0 : Int32))))) (sI G 640 a0 ((2 : Int32)))) ∧ (¬ (999 : Int32) < p2 → (p3 < (0 : Int32) → Post (.inl (some (.int ((0 : Int32))))) (sI G 640 a0 ((2 : Int32)))) ∧ (¬ p3 < (0 : Int32) → ((2 : Int32) < p3 → Post (.inl (some (.int ((0 : Int32))))) (sI G 640 a0 ((2 : Int32)))) ∧ (¬ (2 : Int32) < p3 → Cl E 1 m_Mo_told [.ref a0, .int p1, .int p2, .int p3] (sI G 640 a0 ((0 : Int32))) (aft E 3 m_Mo_result 36 [none, none, none, none] [] Post)))))))) : J E 3 m_Mo_result 0 [some (.ref a0), some (.int p1), some (.int p2), some (.int p3)] [] G Post := by
  refine j_aload_n d_Mo_result_0 rfl ?_
  refine j_iload_n d_Mo_result_1 rfl ?_
  refine j_callS (d' := 2) (As := [.int p1]) (rest := [.ref a0]) cs_Mo_159 me_Mo_isKey rfl (by decide) rfl rfl (Nat.le_of_ble_eq_true rfl) d_Mo_result_2 (by decide) rfl (j_enter (L := [some (.int p1)]) me_Mo_isKey (cat_c rfl cat_n) (Nat.le_of_ble_eq_true rfl) rfl ?_)
  refine j_iload_n d_Mo_isKey_0 rfl ?_
  refine j_iconst (v := 0) d_Mo_isKey_1 (by decide) ?_
  refine j_iconst (v := 5) d_Mo_isKey_2 (by decide) ?_
  refine j_callS (d' := 1) (As := [.int p1, .int ((0 : Int32)), .int ((5 : Int32))]) (rest := []) cs_Mo_142 me_Mo_isIn rfl (by decide) rfl rfl (Nat.le_of_ble_eq_true rfl) d_Mo_isKey_3 (by decide) rfl (j_enter (L := [some (.int p1), some (.int ((0 : Int32))), some (.int ((5 : Int32)))]) me_Mo_isIn (cat_c rfl (cat_c rfl (cat_c rfl cat_n))) (Nat.le_of_ble_eq_true rfl) rfl ?_)
  refine j_iload_n d_Mo_isIn_0 rfl ?_
  refine j_iload_n d_Mo_isIn_1 rfl ?_
  obtain ⟨Ha, Hb⟩ := H
  refine j_icmp_lt (tgt := 14) d_Mo_isIn_2 (by decide) (fun c14 => ?_) (fun c15 => ?_)
  · have H := Ha c14
    refine j_iconst (v := 0) d_Mo_isIn_14 (by decide) ?_
    refine j_zret rfl (by decide) d_Mo_isIn_15 ?_
    show J E 2 m_Mo_isKey 6 [some (.int p1)] [.int ((0 : Int32))] G (aft E 3 m_Mo_result 2 [some (.ref a0), some (.int p1), some (.int p2), some (.int p3)] [.ref a0] Post)
    refine j_zret rfl (by decide) d_Mo_isKey_6 ?_
    show J E 3 m_Mo_result 5 [some (.ref a0), some (.int p1), some (.int p2), some (.int p3)] [.int ((0 : Int32)), .ref a0] G Post
    refine j_if_ne (tgt := 12) d_Mo_result_5 (by decide) (fun c => absurd c (by decide)) (fun _ => ?_)
    refine j_iconst (v := 1) d_Mo_result_8 (by decide) ?_
    refine j_goto (tgt := 26) d_Mo_result_9 (by decide) ?_
    obtain ⟨t1, H⟩ := H
    refine j_callV (d' := 1) (ci := 10) (As := [.int ((1 : Int32))]) (rest := []) (b := a0) cv_Mo_149 me_Mo_isFine rfl (by decide) rfl rfl t1 rfl rfl (Nat.le_of_ble_eq_true rfl) d_Mo_result_26 (by decide) rfl (j_enter (L := [some (.ref a0), some (.int ((1 : Int32)))]) me_Mo_isFine (cat_c rfl (cat_c rfl cat_n)) (Nat.le_of_ble_eq_true rfl) rfl ?_)
    refine j_aload_n d_Mo_isFine_0 rfl ?_
    refine j_iload_n d_Mo_isFine_1 rfl ?_
    refine j_putI (f := 640) fw_Mo_139 rfl rfl t1 d_Mo_isFine_2 ?_
    refine j_iload_n d_Mo_isFine_5 rfl ?_
    refine j_if_ne (tgt := 13) d_Mo_isFine_6 (by decide) (fun _ => ?_) (fun c => absurd c (by decide))
    refine j_iconst (v := 0) d_Mo_isFine_13 (by decide) ?_
    refine j_zret rfl (by decide) d_Mo_isFine_14 ?_
    show J E 3 m_Mo_result 29 [some (.ref a0), some (.int p1), some (.int p2), some (.int p3)] [.int ((0 : Int32))] (sI G 640 a0 ((1 : Int32))) Post
    refine j_if_eq (tgt := 42) d_Mo_result_29 (by decide) (fun _ => ?_) (fun c => absurd c (by decide))
    refine j_iconst (v := 0) d_Mo_result_42 (by decide) ?_
    exact j_iret rfl d_Mo_result_43 H
  · have H := Hb c15
    refine j_iload_n d_Mo_isIn_5 rfl ?_
    refine j_iload_n d_Mo_isIn_6 rfl ?_
    obtain ⟨Ha, Hb⟩ := H
    refine j_icmp_gt (tgt := 14) d_Mo_isIn_7 (by decide) (fun c12 => ?_) (fun c13 => ?_)
    · have H := Ha c12
      refine j_iconst (v := 0) d_Mo_isIn_14 (by decide) ?_
      refine j_zret rfl (by decide) d_Mo_isIn_15 ?_
      show J E 2 m_Mo_isKey 6 [some (.int p1)] [.int ((0 : Int32))] G (aft E 3 m_Mo_result 2 [some (.ref a0), some (.int p1), some (.int p2), some (.int p3)] [.ref a0] Post)
      refine j_zret rfl (by decide) d_Mo_isKey_6 ?_
      show J E 3 m_Mo_result 5 [some (.ref a0), some (.int p1), some (.int p2), some (.int p3)] [.int ((0 : Int32)), .ref a0] G Post
      refine j_if_ne (tgt := 12) d_Mo_result_5 (by decide) (fun c => absurd c (by decide)) (fun _ => ?_)
      refine j_iconst (v := 1) d_Mo_result_8 (by decide) ?_
      refine j_goto (tgt := 26) d_Mo_result_9 (by decide) ?_
      obtain ⟨t2, H⟩ := H
      refine j_callV (d' := 1) (ci := 10) (As := [.int ((1 : Int32))]) (rest := []) (b := a0) cv_Mo_149 me_Mo_isFine rfl (by decide) rfl rfl t2 rfl rfl (Nat.le_of_ble_eq_true rfl) d_Mo_result_26 (by decide) rfl (j_enter (L := [some (.ref a0), some (.int ((1 : Int32)))]) me_Mo_isFine (cat_c rfl (cat_c rfl cat_n)) (Nat.le_of_ble_eq_true rfl) rfl ?_)
      refine j_aload_n d_Mo_isFine_0 rfl ?_
      refine j_iload_n d_Mo_isFine_1 rfl ?_
      refine j_putI (f := 640) fw_Mo_139 rfl rfl t2 d_Mo_isFine_2 ?_
      refine j_iload_n d_Mo_isFine_5 rfl ?_
      refine j_if_ne (tgt := 13) d_Mo_isFine_6 (by decide) (fun _ => ?_) (fun c => absurd c (by decide))
      refine j_iconst (v := 0) d_Mo_isFine_13 (by decide) ?_
      refine j_zret rfl (by decide) d_Mo_isFine_14 ?_
      show J E 3 m_Mo_result 29 [some (.ref a0), some (.int p1), some (.int p2), some (.int p3)] [.int ((0 : Int32))] (sI G 640 a0 ((1 : Int32))) Post
      refine j_if_eq (tgt := 42) d_Mo_result_29 (by decide) (fun _ => ?_) (fun c => absurd c (by decide))
      refine j_iconst (v := 0) d_Mo_result_42 (by decide) ?_
      exact j_iret rfl d_Mo_result_43 H
    · have H := Hb c13
      refine j_iconst (v := 1) d_Mo_isIn_10 (by decide) ?_
      refine j_goto (tgt := 15) d_Mo_isIn_11 (by decide) ?_
      refine j_zret rfl (by decide) d_Mo_isIn_15 ?_
      show J E 2 m_Mo_isKey 6 [some (.int p1)] [.int ((1 : Int32))] G (aft E 3 m_Mo_result 2 [some (.ref a0), some (.int p1), some (.int p2), some (.int p3)] [.ref a0] Post)
      refine j_zret rfl (by decide) d_Mo_isKey_6 ?_
      show J E 3 m_Mo_result 5 [some (.ref a0), some (.int p1), some (.int p2), some (.int p3)] [.int ((1 : Int32)), .ref a0] G Post
      refine j_if_ne (tgt := 12) d_Mo_result_5 (by decide) (fun _ => ?_) (fun c => absurd c (by decide))
      refine j_aload_n d_Mo_result_12 rfl ?_
      refine j_iload_n d_Mo_result_13 rfl ?_
      refine j_iload_n d_Mo_result_14 rfl ?_
      obtain ⟨t3, H⟩ := H
      refine j_callV (d' := 2) (ci := 10) (As := [.int p2, .int p3]) (rest := [.ref a0]) (b := a0) cv_Mo_270 me_Mo_isAsked rfl (by decide) rfl rfl t3 rfl rfl (Nat.le_of_ble_eq_true rfl) d_Mo_result_15 (by decide) rfl (j_enter (L := [some (.ref a0), some (.int p2), some (.int p3)]) me_Mo_isAsked (cat_c rfl (cat_c rfl (cat_c rfl cat_n))) (Nat.le_of_ble_eq_true rfl) rfl ?_)
      refine j_iload_n d_Mo_isAsked_0 rfl ?_
      refine j_iconst (v := 0) d_Mo_isAsked_1 (by decide) ?_
      refine j_sipush (v := 999) d_Mo_isAsked_2 (by decide) ?_
      refine j_callS (d' := 1) (As := [.int p2, .int ((0 : Int32)), .int ((999 : Int32))]) (rest := []) cs_Mo_142 me_Mo_isIn rfl (by decide) rfl rfl (Nat.le_of_ble_eq_true rfl) d_Mo_isAsked_5 (by decide) rfl (j_enter (L := [some (.int p2), some (.int ((0 : Int32))), some (.int ((999 : Int32)))]) me_Mo_isIn (cat_c rfl (cat_c rfl (cat_c rfl cat_n))) (Nat.le_of_ble_eq_true rfl) rfl ?_)
      refine j_iload_n d_Mo_isIn_0 rfl ?_
      refine j_iload_n d_Mo_isIn_1 rfl ?_
      obtain ⟨Ha, Hb⟩ := H
      refine j_icmp_lt (tgt := 14) d_Mo_isIn_2 (by decide) (fun c10 => ?_) (fun c11 => ?_)
      · have H := Ha c10
        refine j_iconst (v := 0) d_Mo_isIn_14 (by decide) ?_
        refine j_zret rfl (by decide) d_Mo_isIn_15 ?_
        show J E 2 m_Mo_isAsked 8 [some (.ref a0), some (.int p2), some (.int p3)] [.int ((0 : Int32))] G (aft E 3 m_Mo_result 15 [some (.ref a0), some (.int p1), some (.int p2), some (.int p3)] [.ref a0] Post)
        refine j_if_eq (tgt := 24) d_Mo_isAsked_8 (by decide) (fun _ => ?_) (fun c => absurd c (by decide))
        refine j_iconst (v := 0) d_Mo_isAsked_24 (by decide) ?_
        refine j_zret rfl (by decide) d_Mo_isAsked_25 ?_
        show J E 3 m_Mo_result 18 [some (.ref a0), some (.int p1), some (.int p2), some (.int p3)] [.int ((0 : Int32)), .ref a0] G Post
        refine j_if_ne (tgt := 25) d_Mo_result_18 (by decide) (fun c => absurd c (by decide)) (fun _ => ?_)
        refine j_iconst (v := 2) d_Mo_result_21 (by decide) ?_
        refine j_goto (tgt := 26) d_Mo_result_22 (by decide) ?_
        refine j_callV (d' := 1) (ci := 10) (As := [.int ((2 : Int32))]) (rest := []) (b := a0) cv_Mo_149 me_Mo_isFine rfl (by decide) rfl rfl t3 rfl rfl (Nat.le_of_ble_eq_true rfl) d_Mo_result_26 (by decide) rfl (j_enter (L := [some (.ref a0), some (.int ((2 : Int32)))]) me_Mo_isFine (cat_c rfl (cat_c rfl cat_n)) (Nat.le_of_ble_eq_true rfl) rfl ?_)
        refine j_aload_n d_Mo_isFine_0 rfl ?_
        refine j_iload_n d_Mo_isFine_1 rfl ?_
        refine j_putI (f := 640) fw_Mo_139 rfl rfl t3 d_Mo_isFine_2 ?_
        refine j_iload_n d_Mo_isFine_5 rfl ?_
        refine j_if_ne (tgt := 13) d_Mo_isFine_6 (by decide) (fun _ => ?_) (fun c => absurd c (by decide))
        refine j_iconst (v := 0) d_Mo_isFine_13 (by decide) ?_
        refine j_zret rfl (by decide) d_Mo_isFine_14 ?_
        show J E 3 m_Mo_result 29 [some (.ref a0), some (.int p1), some (.int p2), some (.int p3)] [.int ((0 : Int32))] (sI G 640 a0 ((2 : Int32))) Post
        refine j_if_eq (tgt := 42) d_Mo_result_29 (by decide) (fun _ => ?_) (fun c => absurd c (by decide))
        refine j_iconst (v := 0) d_Mo_result_42 (by decide) ?_
        exact j_iret rfl d_Mo_result_43 H
      · have H := Hb c11
        refine j_iload_n d_Mo_isIn_5 rfl ?_
        refine j_iload_n d_Mo_isIn_6 rfl ?_
        obtain ⟨Ha, Hb⟩ := H
        refine j_icmp_gt (tgt := 14) d_Mo_isIn_7 (by decide) (fun c8 => ?_) (fun c9 => ?_)
        · have H := Ha c8
          refine j_iconst (v := 0) d_Mo_isIn_14 (by decide) ?_
          refine j_zret rfl (by decide) d_Mo_isIn_15 ?_
          show J E 2 m_Mo_isAsked 8 [some (.ref a0), some (.int p2), some (.int p3)] [.int ((0 : Int32))] G (aft E 3 m_Mo_result 15 [some (.ref a0), some (.int p1), some (.int p2), some (.int p3)] [.ref a0] Post)
          refine j_if_eq (tgt := 24) d_Mo_isAsked_8 (by decide) (fun _ => ?_) (fun c => absurd c (by decide))
          refine j_iconst (v := 0) d_Mo_isAsked_24 (by decide) ?_
          refine j_zret rfl (by decide) d_Mo_isAsked_25 ?_
          show J E 3 m_Mo_result 18 [some (.ref a0), some (.int p1), some (.int p2), some (.int p3)] [.int ((0 : Int32)), .ref a0] G Post
          refine j_if_ne (tgt := 25) d_Mo_result_18 (by decide) (fun c => absurd c (by decide)) (fun _ => ?_)
          refine j_iconst (v := 2) d_Mo_result_21 (by decide) ?_
          refine j_goto (tgt := 26) d_Mo_result_22 (by decide) ?_
          refine j_callV (d' := 1) (ci := 10) (As := [.int ((2 : Int32))]) (rest := []) (b := a0) cv_Mo_149 me_Mo_isFine rfl (by decide) rfl rfl t3 rfl rfl (Nat.le_of_ble_eq_true rfl) d_Mo_result_26 (by decide) rfl (j_enter (L := [some (.ref a0), some (.int ((2 : Int32)))]) me_Mo_isFine (cat_c rfl (cat_c rfl cat_n)) (Nat.le_of_ble_eq_true rfl) rfl ?_)
          refine j_aload_n d_Mo_isFine_0 rfl ?_
          refine j_iload_n d_Mo_isFine_1 rfl ?_
          refine j_putI (f := 640) fw_Mo_139 rfl rfl t3 d_Mo_isFine_2 ?_
          refine j_iload_n d_Mo_isFine_5 rfl ?_
          refine j_if_ne (tgt := 13) d_Mo_isFine_6 (by decide) (fun _ => ?_) (fun c => absurd c (by decide))
          refine j_iconst (v := 0) d_Mo_isFine_13 (by decide) ?_
          refine j_zret rfl (by decide) d_Mo_isFine_14 ?_
          show J E 3 m_Mo_result 29 [some (.ref a0), some (.int p1), some (.int p2), some (.int p3)] [.int ((0 : Int32))] (sI G 640 a0 ((2 : Int32))) Post
          refine j_if_eq (tgt := 42) d_Mo_result_29 (by decide) (fun _ => ?_) (fun c => absurd c (by decide))
          refine j_iconst (v := 0) d_Mo_result_42 (by decide) ?_
          exact j_iret rfl d_Mo_result_43 H
        · have H := Hb c9
          refine j_iconst (v := 1) d_Mo_isIn_10 (by decide) ?_
          refine j_goto (tgt := 15) d_Mo_isIn_11 (by decide) ?_
          refine j_zret rfl (by decide) d_Mo_isIn_15 ?_
          show J E 2 m_Mo_isAsked 8 [some (.ref a0), some (.int p2), some (.int p3)] [.int ((1 : Int32))] G (aft E 3 m_Mo_result 15 [some (.ref a0), some (.int p1), some (.int p2), some (.int p3)] [.ref a0] Post)
          refine j_if_eq (tgt := 24) d_Mo_isAsked_8 (by decide) (fun c => absurd c (by decide)) (fun _ => ?_)
          refine j_iload_n d_Mo_isAsked_11 rfl ?_
          refine j_iconst (v := 0) d_Mo_isAsked_12 (by decide) ?_
          refine j_iconst (v := 2) d_Mo_isAsked_13 (by decide) ?_
          refine j_callS (d' := 1) (As := [.int p3, .int ((0 : Int32)), .int ((2 : Int32))]) (rest := []) cs_Mo_142 me_Mo_isIn rfl (by decide) rfl rfl (Nat.le_of_ble_eq_true rfl) d_Mo_isAsked_14 (by decide) rfl (j_enter (L := [some (.int p3), some (.int ((0 : Int32))), some (.int ((2 : Int32)))]) me_Mo_isIn (cat_c rfl (cat_c rfl (cat_c rfl cat_n))) (Nat.le_of_ble_eq_true rfl) rfl ?_)
          refine j_iload_n d_Mo_isIn_0 rfl ?_
          refine j_iload_n d_Mo_isIn_1 rfl ?_
          obtain ⟨Ha, Hb⟩ := H
          refine j_icmp_lt (tgt := 14) d_Mo_isIn_2 (by decide) (fun c6 => ?_) (fun c7 => ?_)
          · have H := Ha c6
            refine j_iconst (v := 0) d_Mo_isIn_14 (by decide) ?_
            refine j_zret rfl (by decide) d_Mo_isIn_15 ?_
            show J E 2 m_Mo_isAsked 17 [some (.ref a0), some (.int p2), some (.int p3)] [.int ((0 : Int32))] G (aft E 3 m_Mo_result 15 [some (.ref a0), some (.int p1), some (.int p2), some (.int p3)] [.ref a0] Post)
            refine j_if_eq (tgt := 24) d_Mo_isAsked_17 (by decide) (fun _ => ?_) (fun c => absurd c (by decide))
            refine j_iconst (v := 0) d_Mo_isAsked_24 (by decide) ?_
            refine j_zret rfl (by decide) d_Mo_isAsked_25 ?_
            show J E 3 m_Mo_result 18 [some (.ref a0), some (.int p1), some (.int p2), some (.int p3)] [.int ((0 : Int32)), .ref a0] G Post
            refine j_if_ne (tgt := 25) d_Mo_result_18 (by decide) (fun c => absurd c (by decide)) (fun _ => ?_)
            refine j_iconst (v := 2) d_Mo_result_21 (by decide) ?_
            refine j_goto (tgt := 26) d_Mo_result_22 (by decide) ?_
            refine j_callV (d' := 1) (ci := 10) (As := [.int ((2 : Int32))]) (rest := []) (b := a0) cv_Mo_149 me_Mo_isFine rfl (by decide) rfl rfl t3 rfl rfl (Nat.le_of_ble_eq_true rfl) d_Mo_result_26 (by decide) rfl (j_enter (L := [some (.ref a0), some (.int ((2 : Int32)))]) me_Mo_isFine (cat_c rfl (cat_c rfl cat_n)) (Nat.le_of_ble_eq_true rfl) rfl ?_)
            refine j_aload_n d_Mo_isFine_0 rfl ?_
            refine j_iload_n d_Mo_isFine_1 rfl ?_
            refine j_putI (f := 640) fw_Mo_139 rfl rfl t3 d_Mo_isFine_2 ?_
            refine j_iload_n d_Mo_isFine_5 rfl ?_
            refine j_if_ne (tgt := 13) d_Mo_isFine_6 (by decide) (fun _ => ?_) (fun c => absurd c (by decide))
            refine j_iconst (v := 0) d_Mo_isFine_13 (by decide) ?_
            refine j_zret rfl (by decide) d_Mo_isFine_14 ?_
            show J E 3 m_Mo_result 29 [some (.ref a0), some (.int p1), some (.int p2), some (.int p3)] [.int ((0 : Int32))] (sI G 640 a0 ((2 : Int32))) Post
            refine j_if_eq (tgt := 42) d_Mo_result_29 (by decide) (fun _ => ?_) (fun c => absurd c (by decide))
            refine j_iconst (v := 0) d_Mo_result_42 (by decide) ?_
            exact j_iret rfl d_Mo_result_43 H
          · have H := Hb c7
            refine j_iload_n d_Mo_isIn_5 rfl ?_
            refine j_iload_n d_Mo_isIn_6 rfl ?_
            obtain ⟨Ha, Hb⟩ := H
            refine j_icmp_gt (tgt := 14) d_Mo_isIn_7 (by decide) (fun c4 => ?_) (fun c5 => ?_)
            · have H := Ha c4
              refine j_iconst (v := 0) d_Mo_isIn_14 (by decide) ?_
              refine j_zret rfl (by decide) d_Mo_isIn_15 ?_
              show J E 2 m_Mo_isAsked 17 [some (.ref a0), some (.int p2), some (.int p3)] [.int ((0 : Int32))] G (aft E 3 m_Mo_result 15 [some (.ref a0), some (.int p1), some (.int p2), some (.int p3)] [.ref a0] Post)
              refine j_if_eq (tgt := 24) d_Mo_isAsked_17 (by decide) (fun _ => ?_) (fun c => absurd c (by decide))
              refine j_iconst (v := 0) d_Mo_isAsked_24 (by decide) ?_
              refine j_zret rfl (by decide) d_Mo_isAsked_25 ?_
              show J E 3 m_Mo_result 18 [some (.ref a0), some (.int p1), some (.int p2), some (.int p3)] [.int ((0 : Int32)), .ref a0] G Post
              refine j_if_ne (tgt := 25) d_Mo_result_18 (by decide) (fun c => absurd c (by decide)) (fun _ => ?_)
              refine j_iconst (v := 2) d_Mo_result_21 (by decide) ?_
              refine j_goto (tgt := 26) d_Mo_result_22 (by decide) ?_
              refine j_callV (d' := 1) (ci := 10) (As := [.int ((2 : Int32))]) (rest := []) (b := a0) cv_Mo_149 me_Mo_isFine rfl (by decide) rfl rfl t3 rfl rfl (Nat.le_of_ble_eq_true rfl) d_Mo_result_26 (by decide) rfl (j_enter (L := [some (.ref a0), some (.int ((2 : Int32)))]) me_Mo_isFine (cat_c rfl (cat_c rfl cat_n)) (Nat.le_of_ble_eq_true rfl) rfl ?_)
              refine j_aload_n d_Mo_isFine_0 rfl ?_
              refine j_iload_n d_Mo_isFine_1 rfl ?_
              refine j_putI (f := 640) fw_Mo_139 rfl rfl t3 d_Mo_isFine_2 ?_
              refine j_iload_n d_Mo_isFine_5 rfl ?_
              refine j_if_ne (tgt := 13) d_Mo_isFine_6 (by decide) (fun _ => ?_) (fun c => absurd c (by decide))
              refine j_iconst (v := 0) d_Mo_isFine_13 (by decide) ?_
              refine j_zret rfl (by decide) d_Mo_isFine_14 ?_
              show J E 3 m_Mo_result 29 [some (.ref a0), some (.int p1), some (.int p2), some (.int p3)] [.int ((0 : Int32))] (sI G 640 a0 ((2 : Int32))) Post
              refine j_if_eq (tgt := 42) d_Mo_result_29 (by decide) (fun _ => ?_) (fun c => absurd c (by decide))
              refine j_iconst (v := 0) d_Mo_result_42 (by decide) ?_
              exact j_iret rfl d_Mo_result_43 H
            · have H := Hb c5
              refine j_iconst (v := 1) d_Mo_isIn_10 (by decide) ?_
              refine j_goto (tgt := 15) d_Mo_isIn_11 (by decide) ?_
              refine j_zret rfl (by decide) d_Mo_isIn_15 ?_
              show J E 2 m_Mo_isAsked 17 [some (.ref a0), some (.int p2), some (.int p3)] [.int ((1 : Int32))] G (aft E 3 m_Mo_result 15 [some (.ref a0), some (.int p1), some (.int p2), some (.int p3)] [.ref a0] Post)
              refine j_if_eq (tgt := 24) d_Mo_isAsked_17 (by decide) (fun c => absurd c (by decide)) (fun _ => ?_)
              refine j_iconst (v := 1) d_Mo_isAsked_20 (by decide) ?_
              refine j_goto (tgt := 25) d_Mo_isAsked_21 (by decide) ?_
              refine j_zret rfl (by decide) d_Mo_isAsked_25 ?_
              show J E 3 m_Mo_result 18 [some (.ref a0), some (.int p1), some (.int p2), some (.int p3)] [.int ((1 : Int32)), .ref a0] G Post
              refine j_if_ne (tgt := 25) d_Mo_result_18 (by decide) (fun _ => ?_) (fun c => absurd c (by decide))
              refine j_iconst (v := 0) d_Mo_result_25 (by decide) ?_
              refine j_callV (d' := 1) (ci := 10) (As := [.int ((0 : Int32))]) (rest := []) (b := a0) cv_Mo_149 me_Mo_isFine rfl (by decide) rfl rfl t3 rfl rfl (Nat.le_of_ble_eq_true rfl) d_Mo_result_26 (by decide) rfl (j_enter (L := [some (.ref a0), some (.int ((0 : Int32)))]) me_Mo_isFine (cat_c rfl (cat_c rfl cat_n)) (Nat.le_of_ble_eq_true rfl) rfl ?_)
              refine j_aload_n d_Mo_isFine_0 rfl ?_
              refine j_iload_n d_Mo_isFine_1 rfl ?_
              refine j_putI (f := 640) fw_Mo_139 rfl rfl t3 d_Mo_isFine_2 ?_
              refine j_iload_n d_Mo_isFine_5 rfl ?_
              refine j_if_ne (tgt := 13) d_Mo_isFine_6 (by decide) (fun c => absurd c (by decide)) (fun _ => ?_)
              refine j_iconst (v := 1) d_Mo_isFine_9 (by decide) ?_
              refine j_goto (tgt := 14) d_Mo_isFine_10 (by decide) ?_
              refine j_zret rfl (by decide) d_Mo_isFine_14 ?_
              show J E 3 m_Mo_result 29 [some (.ref a0), some (.int p1), some (.int p2), some (.int p3)] [.int ((1 : Int32))] (sI G 640 a0 ((0 : Int32))) Post
              refine j_if_eq (tgt := 42) d_Mo_result_29 (by decide) (fun c => absurd c (by decide)) (fun _ => ?_)
              refine j_aload_n d_Mo_result_32 rfl ?_
              refine j_iload_n d_Mo_result_33 rfl ?_
              refine j_iload_n d_Mo_result_34 rfl ?_
              refine j_iload_n d_Mo_result_35 rfl ?_
              refine j_forget (L' := [none, none, none, none]) ⟨Or.inl rfl, Or.inl rfl, Or.inl rfl, Or.inl rfl, trivial⟩ ?_
              exact j_callV (d' := 1) (ci := 10) (As := [.int p1, .int p2, .int p3]) (rest := []) (b := a0) cv_Mo_273 me_Mo_told rfl (by decide) rfl rfl t3 rfl rfl (Nat.le_of_ble_eq_true rfl) d_Mo_result_36 (by decide) rfl H
theorem wp_Mo_result_39 {E : EV} {G : GH} {Post : Res → GH → Prop} (s0 : Int32) (H : Post (.inl (some (.int s0))) G) : J E 3 m_Mo_result 39 [none, none, none, none] [.int s0] G Post := by
  refine j_goto (tgt := 43) d_Mo_result_39 (by decide) ?_
  exact j_iret rfl d_Mo_result_43 H
theorem wp_Mo_resultAnew_0 {E : EV} {G : GH} {Post : Res → GH → Prop} (a0 : Nat) (p1 : Int32) (p2 : Int32) (p3 : Int32) (H : (p1 < (0 : Int32) → gT G a0 = 11 ∧ Post (.inl (some (.int ((0 : Int32))))) (sI G 640 a0 ((1 : Int32)))) ∧ (¬ p1 < (0 : Int32) → ((5 : Int32) < p1 → gT G a0 = 11 ∧ Post (.inl (some (.int ((0 : Int32))))) (sI G 640 a0 ((1 : Int32)))) ∧ (¬ (5 : Int32) < p1 → gT G a0 = 11 ∧ (p2 < (0 : Int32) → Post (.inl (some (.int ((0 : Int32))))) (sI G 640 a0 ((2 : Int32)))) ∧ (¬ p2 < (0 : Int32) → ((999 : Int32) < p2 → Post (.inl (some (.int ((0 : Int32))))) (sI G 640 a0 ((2 : Int32)))) ∧ (¬ (999 : Int32) < p2 → (p3 < (0 : Int32) → Post (.inl (some (.int ((0 : Int32))))) (sI G 640 a0 ((2 : Int32)))) ∧ (¬ p3 < (0 : Int32) → ((2 : Int32) < p3 → Post (.inl (some (.int ((0 : Int32))))) (sI G 640 a0 ((2 : Int32)))) ∧ (¬ (2 : Int32) < p3 → Cl E 1 m_Mo_told [.ref a0, .int p1, .int p2, .int p3] (sI G 640 a0 ((0 : Int32))) (aft E 3 m_Mo_resultAnew 36 [none, none, none, none] [] Post)))))))) : J E 3 m_Mo_resultAnew 0 [some (.ref a0), some (.int p1), some (.int p2), some (.int p3)] [] G Post := by
  refine j_aload_n d_Mo_resultAnew_0 rfl ?_
  refine j_iload_n d_Mo_resultAnew_1 rfl ?_
  refine j_callS (d' := 2) (As := [.int p1]) (rest := [.ref a0]) cs_Mo_159 me_Mo_isKey rfl (by decide) rfl rfl (Nat.le_of_ble_eq_true rfl) d_Mo_resultAnew_2 (by decide) rfl (j_enter (L := [some (.int p1)]) me_Mo_isKey (cat_c rfl cat_n) (Nat.le_of_ble_eq_true rfl) rfl ?_)
  refine j_iload_n d_Mo_isKey_0 rfl ?_
  refine j_iconst (v := 0) d_Mo_isKey_1 (by decide) ?_
  refine j_iconst (v := 5) d_Mo_isKey_2 (by decide) ?_
  refine j_callS (d' := 1) (As := [.int p1, .int ((0 : Int32)), .int ((5 : Int32))]) (rest := []) cs_Mo_142 me_Mo_isIn rfl (by decide) rfl rfl (Nat.le_of_ble_eq_true rfl) d_Mo_isKey_3 (by decide) rfl (j_enter (L := [some (.int p1), some (.int ((0 : Int32))), some (.int ((5 : Int32)))]) me_Mo_isIn (cat_c rfl (cat_c rfl (cat_c rfl cat_n))) (Nat.le_of_ble_eq_true rfl) rfl ?_)
  refine j_iload_n d_Mo_isIn_0 rfl ?_
  refine j_iload_n d_Mo_isIn_1 rfl ?_
  obtain ⟨Ha, Hb⟩ := H
  refine j_icmp_lt (tgt := 14) d_Mo_isIn_2 (by decide) (fun c14 => ?_) (fun c15 => ?_)
  · have H := Ha c14
    refine j_iconst (v := 0) d_Mo_isIn_14 (by decide) ?_
    refine j_zret rfl (by decide) d_Mo_isIn_15 ?_
    show J E 2 m_Mo_isKey 6 [some (.int p1)] [.int ((0 : Int32))] G (aft E 3 m_Mo_resultAnew 2 [some (.ref a0), some (.int p1), some (.int p2), some (.int p3)] [.ref a0] Post)
    refine j_zret rfl (by decide) d_Mo_isKey_6 ?_
    show J E 3 m_Mo_resultAnew 5 [some (.ref a0), some (.int p1), some (.int p2), some (.int p3)] [.int ((0 : Int32)), .ref a0] G Post
    refine j_if_ne (tgt := 12) d_Mo_resultAnew_5 (by decide) (fun c => absurd c (by decide)) (fun _ => ?_)
    refine j_iconst (v := 1) d_Mo_resultAnew_8 (by decide) ?_
    refine j_goto (tgt := 26) d_Mo_resultAnew_9 (by decide) ?_
    obtain ⟨t1, H⟩ := H
    refine j_callV (d' := 1) (ci := 10) (As := [.int ((1 : Int32))]) (rest := []) (b := a0) cv_Mo_149 me_Mo_isFine rfl (by decide) rfl rfl t1 rfl rfl (Nat.le_of_ble_eq_true rfl) d_Mo_resultAnew_26 (by decide) rfl (j_enter (L := [some (.ref a0), some (.int ((1 : Int32)))]) me_Mo_isFine (cat_c rfl (cat_c rfl cat_n)) (Nat.le_of_ble_eq_true rfl) rfl ?_)
    refine j_aload_n d_Mo_isFine_0 rfl ?_
    refine j_iload_n d_Mo_isFine_1 rfl ?_
    refine j_putI (f := 640) fw_Mo_139 rfl rfl t1 d_Mo_isFine_2 ?_
    refine j_iload_n d_Mo_isFine_5 rfl ?_
    refine j_if_ne (tgt := 13) d_Mo_isFine_6 (by decide) (fun _ => ?_) (fun c => absurd c (by decide))
    refine j_iconst (v := 0) d_Mo_isFine_13 (by decide) ?_
    refine j_zret rfl (by decide) d_Mo_isFine_14 ?_
    show J E 3 m_Mo_resultAnew 29 [some (.ref a0), some (.int p1), some (.int p2), some (.int p3)] [.int ((0 : Int32))] (sI G 640 a0 ((1 : Int32))) Post
    refine j_if_eq (tgt := 42) d_Mo_resultAnew_29 (by decide) (fun _ => ?_) (fun c => absurd c (by decide))
    refine j_iconst (v := 0) d_Mo_resultAnew_42 (by decide) ?_
    exact j_iret rfl d_Mo_resultAnew_43 H
  · have H := Hb c15
    refine j_iload_n d_Mo_isIn_5 rfl ?_
    refine j_iload_n d_Mo_isIn_6 rfl ?_
    obtain ⟨Ha, Hb⟩ := H
    refine j_icmp_gt (tgt := 14) d_Mo_isIn_7 (by decide) (fun c12 => ?_) (fun c13 => ?_)
    · have H := Ha c12
      refine j_iconst (v := 0) d_Mo_isIn_14 (by decide) ?_
      refine j_zret rfl (by decide) d_Mo_isIn_15 ?_
      show J E 2 m_Mo_isKey 6 [some (.int p1)] [.int ((0 : Int32))] G (aft E 3 m_Mo_resultAnew 2 [some (.ref a0), some (.int p1), some (.int p2), some (.int p3)] [.ref a0] Post)
      refine j_zret rfl (by decide) d_Mo_isKey_6 ?_
      show J E 3 m_Mo_resultAnew 5 [some (.ref a0), some (.int p1), some (.int p2), some (.int p3)] [.int ((0 : Int32)), .ref a0] G Post
      refine j_if_ne (tgt := 12) d_Mo_resultAnew_5 (by decide) (fun c => absurd c (by decide)) (fun _ => ?_)
      refine j_iconst (v := 1) d_Mo_resultAnew_8 (by decide) ?_
      refine j_goto (tgt := 26) d_Mo_resultAnew_9 (by decide) ?_
      obtain ⟨t2, H⟩ := H
      refine j_callV (d' := 1) (ci := 10) (As := [.int ((1 : Int32))]) (rest := []) (b := a0) cv_Mo_149 me_Mo_isFine rfl (by decide) rfl rfl t2 rfl rfl (Nat.le_of_ble_eq_true rfl) d_Mo_resultAnew_26 (by decide) rfl (j_enter (L := [some (.ref a0), some (.int ((1 : Int32)))]) me_Mo_isFine (cat_c rfl (cat_c rfl cat_n)) (Nat.le_of_ble_eq_true rfl) rfl ?_)
      refine j_aload_n d_Mo_isFine_0 rfl ?_
      refine j_iload_n d_Mo_isFine_1 rfl ?_
      refine j_putI (f := 640) fw_Mo_139 rfl rfl t2 d_Mo_isFine_2 ?_
      refine j_iload_n d_Mo_isFine_5 rfl ?_
      refine j_if_ne (tgt := 13) d_Mo_isFine_6 (by decide) (fun _ => ?_) (fun c => absurd c (by decide))
      refine j_iconst (v := 0) d_Mo_isFine_13 (by decide) ?_
      refine j_zret rfl (by decide) d_Mo_isFine_14 ?_
      show J E 3 m_Mo_resultAnew 29 [some (.ref a0), some (.int p1), some (.int p2), some (.int p3)] [.int ((0 : Int32))] (sI G 640 a0 ((1 : Int32))) Post
      refine j_if_eq (tgt := 42) d_Mo_resultAnew_29 (by decide) (fun _ => ?_) (fun c => absurd c (by decide))
      refine j_iconst (v := 0) d_Mo_resultAnew_42 (by decide) ?_
      exact j_iret rfl d_Mo_resultAnew_43 H
    · have H := Hb c13
      refine j_iconst (v := 1) d_Mo_isIn_10 (by decide) ?_
      refine j_goto (tgt := 15) d_Mo_isIn_11 (by decide) ?_
      refine j_zret rfl (by decide) d_Mo_isIn_15 ?_
      show J E 2 m_Mo_isKey 6 [some (.int p1)] [.int ((1 : Int32))] G (aft E 3 m_Mo_resultAnew 2 [some (.ref a0), some (.int p1), some (.int p2), some (.int p3)] [.ref a0] Post)
      refine j_zret rfl (by decide) d_Mo_isKey_6 ?_
      show J E 3 m_Mo_resultAnew 5 [some (.ref a0), some (.int p1), some (.int p2), some (.int p3)] [.int ((1 : Int32)), .ref a0] G Post
      refine j_if_ne (tgt := 12) d_Mo_resultAnew_5 (by decide) (fun _ => ?_) (fun c => absurd c (by decide))
      refine j_aload_n d_Mo_resultAnew_12 rfl ?_
      refine j_iload_n d_Mo_resultAnew_13 rfl ?_
      refine j_iload_n d_Mo_resultAnew_14 rfl ?_
      obtain ⟨t3, H⟩ := H
      refine j_callV (d' := 2) (ci := 10) (As := [.int p2, .int p3]) (rest := [.ref a0]) (b := a0) cv_Mo_270 me_Mo_isAsked rfl (by decide) rfl rfl t3 rfl rfl (Nat.le_of_ble_eq_true rfl) d_Mo_resultAnew_15 (by decide) rfl (j_enter (L := [some (.ref a0), some (.int p2), some (.int p3)]) me_Mo_isAsked (cat_c rfl (cat_c rfl (cat_c rfl cat_n))) (Nat.le_of_ble_eq_true rfl) rfl ?_)
      refine j_iload_n d_Mo_isAsked_0 rfl ?_
      refine j_iconst (v := 0) d_Mo_isAsked_1 (by decide) ?_
      refine j_sipush (v := 999) d_Mo_isAsked_2 (by decide) ?_
      refine j_callS (d' := 1) (As := [.int p2, .int ((0 : Int32)), .int ((999 : Int32))]) (rest := []) cs_Mo_142 me_Mo_isIn rfl (by decide) rfl rfl (Nat.le_of_ble_eq_true rfl) d_Mo_isAsked_5 (by decide) rfl (j_enter (L := [some (.int p2), some (.int ((0 : Int32))), some (.int ((999 : Int32)))]) me_Mo_isIn (cat_c rfl (cat_c rfl (cat_c rfl cat_n))) (Nat.le_of_ble_eq_true rfl) rfl ?_)
      refine j_iload_n d_Mo_isIn_0 rfl ?_
      refine j_iload_n d_Mo_isIn_1 rfl ?_
      obtain ⟨Ha, Hb⟩ := H
      refine j_icmp_lt (tgt := 14) d_Mo_isIn_2 (by decide) (fun c10 => ?_) (fun c11 => ?_)
      · have H := Ha c10
        refine j_iconst (v := 0) d_Mo_isIn_14 (by decide) ?_
        refine j_zret rfl (by decide) d_Mo_isIn_15 ?_
        show J E 2 m_Mo_isAsked 8 [some (.ref a0), some (.int p2), some (.int p3)] [.int ((0 : Int32))] G (aft E 3 m_Mo_resultAnew 15 [some (.ref a0), some (.int p1), some (.int p2), some (.int p3)] [.ref a0] Post)
        refine j_if_eq (tgt := 24) d_Mo_isAsked_8 (by decide) (fun _ => ?_) (fun c => absurd c (by decide))
        refine j_iconst (v := 0) d_Mo_isAsked_24 (by decide) ?_
        refine j_zret rfl (by decide) d_Mo_isAsked_25 ?_
        show J E 3 m_Mo_resultAnew 18 [some (.ref a0), some (.int p1), some (.int p2), some (.int p3)] [.int ((0 : Int32)), .ref a0] G Post
        refine j_if_ne (tgt := 25) d_Mo_resultAnew_18 (by decide) (fun c => absurd c (by decide)) (fun _ => ?_)
        refine j_iconst (v := 2) d_Mo_resultAnew_21 (by decide) ?_
        refine j_goto (tgt := 26) d_Mo_resultAnew_22 (by decide) ?_
        refine j_callV (d' := 1) (ci := 10) (As := [.int ((2 : Int32))]) (rest := []) (b := a0) cv_Mo_149 me_Mo_isFine rfl (by decide) rfl rfl t3 rfl rfl (Nat.le_of_ble_eq_true rfl) d_Mo_resultAnew_26 (by decide) rfl (j_enter (L := [some (.ref a0), some (.int ((2 : Int32)))]) me_Mo_isFine (cat_c rfl (cat_c rfl cat_n)) (Nat.le_of_ble_eq_true rfl) rfl ?_)
        refine j_aload_n d_Mo_isFine_0 rfl ?_
        refine j_iload_n d_Mo_isFine_1 rfl ?_
        refine j_putI (f := 640) fw_Mo_139 rfl rfl t3 d_Mo_isFine_2 ?_
        refine j_iload_n d_Mo_isFine_5 rfl ?_
        refine j_if_ne (tgt := 13) d_Mo_isFine_6 (by decide) (fun _ => ?_) (fun c => absurd c (by decide))
        refine j_iconst (v := 0) d_Mo_isFine_13 (by decide) ?_
        refine j_zret rfl (by decide) d_Mo_isFine_14 ?_
        show J E 3 m_Mo_resultAnew 29 [some (.ref a0), some (.int p1), some (.int p2), some (.int p3)] [.int ((0 : Int32))] (sI G 640 a0 ((2 : Int32))) Post
        refine j_if_eq (tgt := 42) d_Mo_resultAnew_29 (by decide) (fun _ => ?_) (fun c => absurd c (by decide))
        refine j_iconst (v := 0) d_Mo_resultAnew_42 (by decide) ?_
        exact j_iret rfl d_Mo_resultAnew_43 H
      · have H := Hb c11
        refine j_iload_n d_Mo_isIn_5 rfl ?_
        refine j_iload_n d_Mo_isIn_6 rfl ?_
        obtain ⟨Ha, Hb⟩ := H
        refine j_icmp_gt (tgt := 14) d_Mo_isIn_7 (by decide) (fun c8 => ?_) (fun c9 => ?_)
        · have H := Ha c8
          refine j_iconst (v := 0) d_Mo_isIn_14 (by decide) ?_
          refine j_zret rfl (by decide) d_Mo_isIn_15 ?_
          show J E 2 m_Mo_isAsked 8 [some (.ref a0), some (.int p2), some (.int p3)] [.int ((0 : Int32))] G (aft E 3 m_Mo_resultAnew 15 [some (.ref a0), some (.int p1), some (.int p2), some (.int p3)] [.ref a0] Post)
          refine j_if_eq (tgt := 24) d_Mo_isAsked_8 (by decide) (fun _ => ?_) (fun c => absurd c (by decide))
          refine j_iconst (v := 0) d_Mo_isAsked_24 (by decide) ?_
          refine j_zret rfl (by decide) d_Mo_isAsked_25 ?_
          show J E 3 m_Mo_resultAnew 18 [some (.ref a0), some (.int p1), some (.int p2), some (.int p3)] [.int ((0 : Int32)), .ref a0] G Post
          refine j_if_ne (tgt := 25) d_Mo_resultAnew_18 (by decide) (fun c => absurd c (by decide)) (fun _ => ?_)
          refine j_iconst (v := 2) d_Mo_resultAnew_21 (by decide) ?_
          refine j_goto (tgt := 26) d_Mo_resultAnew_22 (by decide) ?_
          refine j_callV (d' := 1) (ci := 10) (As := [.int ((2 : Int32))]) (rest := []) (b := a0) cv_Mo_149 me_Mo_isFine rfl (by decide) rfl rfl t3 rfl rfl (Nat.le_of_ble_eq_true rfl) d_Mo_resultAnew_26 (by decide) rfl (j_enter (L := [some (.ref a0), some (.int ((2 : Int32)))]) me_Mo_isFine (cat_c rfl (cat_c rfl cat_n)) (Nat.le_of_ble_eq_true rfl) rfl ?_)
          refine j_aload_n d_Mo_isFine_0 rfl ?_
          refine j_iload_n d_Mo_isFine_1 rfl ?_
          refine j_putI (f := 640) fw_Mo_139 rfl rfl t3 d_Mo_isFine_2 ?_
          refine j_iload_n d_Mo_isFine_5 rfl ?_
          refine j_if_ne (tgt := 13) d_Mo_isFine_6 (by decide) (fun _ => ?_) (fun c => absurd c (by decide))
          refine j_iconst (v := 0) d_Mo_isFine_13 (by decide) ?_
          refine j_zret rfl (by decide) d_Mo_isFine_14 ?_
          show J E 3 m_Mo_resultAnew 29 [some (.ref a0), some (.int p1), some (.int p2), some (.int p3)] [.int ((0 : Int32))] (sI G 640 a0 ((2 : Int32))) Post
          refine j_if_eq (tgt := 42) d_Mo_resultAnew_29 (by decide) (fun _ => ?_) (fun c => absurd c (by decide))
          refine j_iconst (v := 0) d_Mo_resultAnew_42 (by decide) ?_
          exact j_iret rfl d_Mo_resultAnew_43 H
        · have H := Hb c9
          refine j_iconst (v := 1) d_Mo_isIn_10 (by decide) ?_
          refine j_goto (tgt := 15) d_Mo_isIn_11 (by decide) ?_
          refine j_zret rfl (by decide) d_Mo_isIn_15 ?_
          show J E 2 m_Mo_isAsked 8 [some (.ref a0), some (.int p2), some (.int p3)] [.int ((1 : Int32))] G (aft E 3 m_Mo_resultAnew 15 [some (.ref a0), some (.int p1), some (.int p2), some (.int p3)] [.ref a0] Post)
          refine j_if_eq (tgt := 24) d_Mo_isAsked_8 (by decide) (fun c => absurd c (by decide)) (fun _ => ?_)
          refine j_iload_n d_Mo_isAsked_11 rfl ?_
          refine j_iconst (v := 0) d_Mo_isAsked_12 (by decide) ?_
          refine j_iconst (v := 2) d_Mo_isAsked_13 (by decide) ?_
          refine j_callS (d' := 1) (As := [.int p3, .int ((0 : Int32)), .int ((2 : Int32))]) (rest := []) cs_Mo_142 me_Mo_isIn rfl (by decide) rfl rfl (Nat.le_of_ble_eq_true rfl) d_Mo_isAsked_14 (by decide) rfl (j_enter (L := [some (.int p3), some (.int ((0 : Int32))), some (.int ((2 : Int32)))]) me_Mo_isIn (cat_c rfl (cat_c rfl (cat_c rfl cat_n))) (Nat.le_of_ble_eq_true rfl) rfl ?_)
          refine j_iload_n d_Mo_isIn_0 rfl ?_
          refine j_iload_n d_Mo_isIn_1 rfl ?_
          obtain ⟨Ha, Hb⟩ := H
          refine j_icmp_lt (tgt := 14) d_Mo_isIn_2 (by decide) (fun c6 => ?_) (fun c7 => ?_)
          · have H := Ha c6
            refine j_iconst (v := 0) d_Mo_isIn_14 (by decide) ?_
            refine j_zret rfl (by decide) d_Mo_isIn_15 ?_
            show J E 2 m_Mo_isAsked 17 [some (.ref a0), some (.int p2), some (.int p3)] [.int ((0 : Int32))] G (aft E 3 m_Mo_resultAnew 15 [some (.ref a0), some (.int p1), some (.int p2), some (.int p3)] [.ref a0] Post)
            refine j_if_eq (tgt := 24) d_Mo_isAsked_17 (by decide) (fun _ => ?_) (fun c => absurd c (by decide))
            refine j_iconst (v := 0) d_Mo_isAsked_24 (by decide) ?_
            refine j_zret rfl (by decide) d_Mo_isAsked_25 ?_
            show J E 3 m_Mo_resultAnew 18 [some (.ref a0), some (.int p1), some (.int p2), some (.int p3)] [.int ((0 : Int32)), .ref a0] G Post
            refine j_if_ne (tgt := 25) d_Mo_resultAnew_18 (by decide) (fun c => absurd c (by decide)) (fun _ => ?_)
            refine j_iconst (v := 2) d_Mo_resultAnew_21 (by decide) ?_
            refine j_goto (tgt := 26) d_Mo_resultAnew_22 (by decide) ?_
            refine j_callV (d' := 1) (ci := 10) (As := [.int ((2 : Int32))]) (rest := []) (b := a0) cv_Mo_149 me_Mo_isFine rfl (by decide) rfl rfl t3 rfl rfl (Nat.le_of_ble_eq_true rfl) d_Mo_resultAnew_26 (by decide) rfl (j_enter (L := [some (.ref a0), some (.int ((2 : Int32)))]) me_Mo_isFine (cat_c rfl (cat_c rfl cat_n)) (Nat.le_of_ble_eq_true rfl) rfl ?_)
            refine j_aload_n d_Mo_isFine_0 rfl ?_
            refine j_iload_n d_Mo_isFine_1 rfl ?_
            refine j_putI (f := 640) fw_Mo_139 rfl rfl t3 d_Mo_isFine_2 ?_
            refine j_iload_n d_Mo_isFine_5 rfl ?_
            refine j_if_ne (tgt := 13) d_Mo_isFine_6 (by decide) (fun _ => ?_) (fun c => absurd c (by decide))
            refine j_iconst (v := 0) d_Mo_isFine_13 (by decide) ?_
            refine j_zret rfl (by decide) d_Mo_isFine_14 ?_
            show J E 3 m_Mo_resultAnew 29 [some (.ref a0), some (.int p1), some (.int p2), some (.int p3)] [.int ((0 : Int32))] (sI G 640 a0 ((2 : Int32))) Post
            refine j_if_eq (tgt := 42) d_Mo_resultAnew_29 (by decide) (fun _ => ?_) (fun c => absurd c (by decide))
            refine j_iconst (v := 0) d_Mo_resultAnew_42 (by decide) ?_
            exact j_iret rfl d_Mo_resultAnew_43 H
          · have H := Hb c7
            refine j_iload_n d_Mo_isIn_5 rfl ?_
            refine j_iload_n d_Mo_isIn_6 rfl ?_
            obtain ⟨Ha, Hb⟩ := H
            refine j_icmp_gt (tgt := 14) d_Mo_isIn_7 (by decide) (fun c4 => ?_) (fun c5 => ?_)
            · have H := Ha c4
              refine j_iconst (v := 0) d_Mo_isIn_14 (by decide) ?_
              refine j_zret rfl (by decide) d_Mo_isIn_15 ?_
              show J E 2 m_Mo_isAsked 17 [some (.ref a0), some (.int p2), some (.int p3)] [.int ((0 : Int32))] G (aft E 3 m_Mo_resultAnew 15 [some (.ref a0), some (.int p1), some (.int p2), some (.int p3)] [.ref a0] Post)
              refine j_if_eq (tgt := 24) d_Mo_isAsked_17 (by decide) (fun _ => ?_) (fun c => absurd c (by decide))
              refine j_iconst (v := 0) d_Mo_isAsked_24 (by decide) ?_
              refine j_zret rfl (by decide) d_Mo_isAsked_25 ?_
              show J E 3 m_Mo_resultAnew 18 [some (.ref a0), some (.int p1), some (.int p2), some (.int p3)] [.int ((0 : Int32)), .ref a0] G Post
              refine j_if_ne (tgt := 25) d_Mo_resultAnew_18 (by decide) (fun c => absurd c (by decide)) (fun _ => ?_)
              refine j_iconst (v := 2) d_Mo_resultAnew_21 (by decide) ?_
              refine j_goto (tgt := 26) d_Mo_resultAnew_22 (by decide) ?_
              refine j_callV (d' := 1) (ci := 10) (As := [.int ((2 : Int32))]) (rest := []) (b := a0) cv_Mo_149 me_Mo_isFine rfl (by decide) rfl rfl t3 rfl rfl (Nat.le_of_ble_eq_true rfl) d_Mo_resultAnew_26 (by decide) rfl (j_enter (L := [some (.ref a0), some (.int ((2 : Int32)))]) me_Mo_isFine (cat_c rfl (cat_c rfl cat_n)) (Nat.le_of_ble_eq_true rfl) rfl ?_)
              refine j_aload_n d_Mo_isFine_0 rfl ?_
              refine j_iload_n d_Mo_isFine_1 rfl ?_
              refine j_putI (f := 640) fw_Mo_139 rfl rfl t3 d_Mo_isFine_2 ?_
              refine j_iload_n d_Mo_isFine_5 rfl ?_
              refine j_if_ne (tgt := 13) d_Mo_isFine_6 (by decide) (fun _ => ?_) (fun c => absurd c (by decide))
              refine j_iconst (v := 0) d_Mo_isFine_13 (by decide) ?_
              refine j_zret rfl (by decide) d_Mo_isFine_14 ?_
              show J E 3 m_Mo_resultAnew 29 [some (.ref a0), some (.int p1), some (.int p2), some (.int p3)] [.int ((0 : Int32))] (sI G 640 a0 ((2 : Int32))) Post
              refine j_if_eq (tgt := 42) d_Mo_resultAnew_29 (by decide) (fun _ => ?_) (fun c => absurd c (by decide))
              refine j_iconst (v := 0) d_Mo_resultAnew_42 (by decide) ?_
              exact j_iret rfl d_Mo_resultAnew_43 H
            · have H := Hb c5
              refine j_iconst (v := 1) d_Mo_isIn_10 (by decide) ?_
              refine j_goto (tgt := 15) d_Mo_isIn_11 (by decide) ?_
              refine j_zret rfl (by decide) d_Mo_isIn_15 ?_
              show J E 2 m_Mo_isAsked 17 [some (.ref a0), some (.int p2), some (.int p3)] [.int ((1 : Int32))] G (aft E 3 m_Mo_resultAnew 15 [some (.ref a0), some (.int p1), some (.int p2), some (.int p3)] [.ref a0] Post)
              refine j_if_eq (tgt := 24) d_Mo_isAsked_17 (by decide) (fun c => absurd c (by decide)) (fun _ => ?_)
              refine j_iconst (v := 1) d_Mo_isAsked_20 (by decide) ?_
              refine j_goto (tgt := 25) d_Mo_isAsked_21 (by decide) ?_
              refine j_zret rfl (by decide) d_Mo_isAsked_25 ?_
              show J E 3 m_Mo_resultAnew 18 [some (.ref a0), some (.int p1), some (.int p2), some (.int p3)] [.int ((1 : Int32)), .ref a0] G Post
              refine j_if_ne (tgt := 25) d_Mo_resultAnew_18 (by decide) (fun _ => ?_) (fun c => absurd c (by decide))
              refine j_iconst (v := 0) d_Mo_resultAnew_25 (by decide) ?_
              refine j_callV (d' := 1) (ci := 10) (As := [.int ((0 : Int32))]) (rest := []) (b := a0) cv_Mo_149 me_Mo_isFine rfl (by decide) rfl rfl t3 rfl rfl (Nat.le_of_ble_eq_true rfl) d_Mo_resultAnew_26 (by decide) rfl (j_enter (L := [some (.ref a0), some (.int ((0 : Int32)))]) me_Mo_isFine (cat_c rfl (cat_c rfl cat_n)) (Nat.le_of_ble_eq_true rfl) rfl ?_)
              refine j_aload_n d_Mo_isFine_0 rfl ?_
              refine j_iload_n d_Mo_isFine_1 rfl ?_
              refine j_putI (f := 640) fw_Mo_139 rfl rfl t3 d_Mo_isFine_2 ?_
              refine j_iload_n d_Mo_isFine_5 rfl ?_
              refine j_if_ne (tgt := 13) d_Mo_isFine_6 (by decide) (fun c => absurd c (by decide)) (fun _ => ?_)
              refine j_iconst (v := 1) d_Mo_isFine_9 (by decide) ?_
              refine j_goto (tgt := 14) d_Mo_isFine_10 (by decide) ?_
              refine j_zret rfl (by decide) d_Mo_isFine_14 ?_
              show J E 3 m_Mo_resultAnew 29 [some (.ref a0), some (.int p1), some (.int p2), some (.int p3)] [.int ((1 : Int32))] (sI G 640 a0 ((0 : Int32))) Post
              refine j_if_eq (tgt := 42) d_Mo_resultAnew_29 (by decide) (fun c => absurd c (by decide)) (fun _ => ?_)
              refine j_aload_n d_Mo_resultAnew_32 rfl ?_
              refine j_iload_n d_Mo_resultAnew_33 rfl ?_
              refine j_iload_n d_Mo_resultAnew_34 rfl ?_
              refine j_iload_n d_Mo_resultAnew_35 rfl ?_
              refine j_forget (L' := [none, none, none, none]) ⟨Or.inl rfl, Or.inl rfl, Or.inl rfl, Or.inl rfl, trivial⟩ ?_
              exact j_callV (d' := 1) (ci := 10) (As := [.int p1, .int p2, .int p3]) (rest := []) (b := a0) cv_Mo_273 me_Mo_told rfl (by decide) rfl rfl t3 rfl rfl (Nat.le_of_ble_eq_true rfl) d_Mo_resultAnew_36 (by decide) rfl H
theorem wp_Mo_resultAnew_39 {E : EV} {G : GH} {Post : Res → GH → Prop} (s0 : Int32) (H : Post (.inl (some (.int s0))) G) : J E 3 m_Mo_resultAnew 39 [none, none, none, none] [.int s0] G Post := by
  refine j_goto (tgt := 43) d_Mo_resultAnew_39 (by decide) ?_
  exact j_iret rfl d_Mo_resultAnew_43 H
