/-! walks of the library methods; printed by wip/gen/wps.py -/
theorem wp_AL_init_0 {E : EV} {G : GH} {Post : Res → GH → Prop} (a0 : Nat) (H : gT G a0 = 12 ∧ Post (.inl none) (sR (sI G 704 a0 ((0 : Int32))) 705 a0 (some ((eC E))))) : J E 3 m_AL_init 0 [some (.ref a0)] [] G Post := by
  refine j_aload_n d_AL_init_0 rfl ?_
  refine j_callI (d' := 2) (As := []) (rest := []) (b := a0) ci_AL_1 me_AbL_init rfl rfl (by decide) rfl rfl (Nat.le_of_ble_eq_true rfl) d_AL_init_1 (by decide) rfl (j_enter (L := [some (.ref a0)]) me_AbL_init (cat_c rfl cat_n) (Nat.le_of_ble_eq_true rfl) rfl ?_)
  refine j_aload_n d_AbL_init_0 rfl ?_
  refine j_callI (d' := 1) (As := []) (rest := []) (b := a0) ci_AbL_1 me_AbC_init rfl rfl (by decide) rfl rfl (Nat.le_of_ble_eq_true rfl) d_AbL_init_1 (by decide) rfl (j_enter (L := [some (.ref a0)]) me_AbC_init (cat_c rfl cat_n) (Nat.le_of_ble_eq_true rfl) rfl ?_)
  refine j_aload_n d_AbC_init_0 rfl ?_
  refine j_objInit co_AbC_1 ob1 ob2 (Nat.le_of_ble_eq_true rfl) d_AbC_init_1 ?_
  refine j_vret rfl d_AbC_init_4 ?_
  show J E 2 m_AbL_init 4 [some (.ref a0)] [] G (aft E 3 m_AL_init 1 [some (.ref a0)] [] Post)
  refine j_aload_n d_AbL_init_4 rfl ?_
  refine j_iconst (v := 0) d_AbL_init_5 (by decide) ?_
  obtain ⟨t1, H⟩ := H
  refine j_putI (f := 704) fw_AbL_7 rfl rfl t1 d_AbL_init_6 ?_
  refine j_vret rfl d_AbL_init_9 ?_
  show J E 3 m_AL_init 4 [some (.ref a0)] [] (sI G 704 a0 ((0 : Int32))) Post
  refine j_aload_n d_AL_init_4 rfl ?_
  refine j_dcap gd_AL_39 d_AL_init_5 ?_
  refine j_putR (r := (some ((eC E)))) (f := 705) rfl fw_AL_9 rfl rfl t1 d_AL_init_8 ?_
  exact j_vret rfl d_AL_init_11 H
theorem wp_AL_grow1_0 {E : EV} {G : GH} {Post : Res → GH → Prop} (a0 : Nat) (p1 : Int32) (H : gT G a0 = 12 ∧ ∃ b2, gR G 705 a0 = some b2 ∧ (20 ≤ gT G b2 ∧ gT G b2 ≤ 26) ∧ (0 < (nI (gN G b2)) → (((nI (gN G b2)) + (if (p1 - (nI (gN G b2))) < ((nI (gN G b2)) >>> ((1 : Int32) &&& 31)) then ((nI (gN G b2)) >>> ((1 : Int32) &&& 31)) else (p1 - (nI (gN G b2))))) ≤ (0 : Int32) → False) ∧ (¬ ((nI (gN G b2)) + (if (p1 - (nI (gN G b2))) < ((nI (gN G b2)) >>> ((1 : Int32) &&& 31)) then ((nI (gN G b2)) >>> ((1 : Int32) &&& 31)) else (p1 - (nI (gN G b2))))) ≤ (0 : Int32) → ((2147483639 : Int32) < ((nI (gN G b2)) + (if (p1 - (nI (gN G b2))) < ((nI (gN G b2)) >>> ((1 : Int32) &&& 31)) then ((nI (gN G b2)) >>> ((1 : Int32) &&& 31)) else (p1 - (nI (gN G b2))))) → False) ∧ (¬ (2147483639 : Int32) < ((nI (gN G b2)) + (if (p1 - (nI (gN G b2))) < ((nI (gN G b2)) >>> ((1 : Int32) &&& 31)) then ((nI (gN G b2)) >>> ((1 : Int32) &&& 31)) else (p1 - (nI (gN G b2))))) → Cl E 2 m_Ar_copyOf [.ref b2, .int (((nI (gN G b2)) + (if (p1 - (nI (gN G b2))) < ((nI (gN G b2)) >>> ((1 : Int32) &&& 31)) then ((nI (gN G b2)) >>> ((1 : Int32) &&& 31)) else (p1 - (nI (gN G b2))))))] G (aft E 3 m_AL_grow1 37 [none, none, none, none] [.ref a0] Post)))) ∧ (¬ 0 < (nI (gN G b2)) → (b2 = (eC E) → ∃ n9, (¬ (if (10 : Int32) < p1 then p1 else (10 : Int32)) < 0 ∧ ((if (10 : Int32) < p1 then p1 else (10 : Int32))).toNatClampNeg = n9 ∧ n9 ≤ 100000) ∧ ∀ G11, G11 = al G 23 n9 → gT G11 a0 = 12 ∧ Post (.inl (some (.ref ((gz G))))) (sR G11 705 a0 (some ((gz G))))) ∧ (¬ b2 = (eC E) → (((nI (gN G b2)) + (if (p1 - (nI (gN G b2))) < ((nI (gN G b2)) >>> ((1 : Int32) &&& 31)) then ((nI (gN G b2)) >>> ((1 : Int32) &&& 31)) else (p1 - (nI (gN G b2))))) ≤ (0 : Int32) → False) ∧ (¬ ((nI (gN G b2)) + (if (p1 - (nI (gN G b2))) < ((nI (gN G b2)) >>> ((1 : Int32) &&& 31)) then ((nI (gN G b2)) >>> ((1 : Int32) &&& 31)) else (p1 - (nI (gN G b2))))) ≤ (0 : Int32) → ((2147483639 : Int32) < ((nI (gN G b2)) + (if (p1 - (nI (gN G b2))) < ((nI (gN G b2)) >>> ((1 : Int32) &&& 31)) then ((nI (gN G b2)) >>> ((1 : Int32) &&& 31)) else (p1 - (nI (gN G b2))))) → False) ∧ (¬ (2147483639 : Int32) < ((nI (gN G b2)) + (if (p1 - (nI (gN G b2))) < ((nI (gN G b2)) >>> ((1 : Int32) &&& 31)) then ((nI (gN G b2)) >>> ((1 : Int32) &&& 31)) else (p1 - (nI (gN G b2))))) → Cl E 2 m_Ar_copyOf [.ref b2, .int (((nI (gN G b2)) + (if (p1 - (nI (gN G b2))) < ((nI (gN G b2)) >>> ((1 : Int32) &&& 31)) then ((nI (gN G b2)) >>> ((1 : Int32) &&& 31)) else (p1 - (nI (gN G b2))))))] G (aft E 3 m_AL_grow1 37 [none, none, none, none] [.ref a0] Post)))))) : J E 3 m_AL_grow1 0 [some (.ref a0), some (.int p1), none, none] [] G Post := by
  refine j_aload_n d_AL_grow1_0 rfl ?_
  obtain ⟨t1, H⟩ := H
  obtain ⟨b2, e3, H⟩ := H
  refine j_getR (f := 705) (b := b2) fe_AL_9 rfl rfl t1 e3 d_AL_grow1_1 ?_
  obtain ⟨t4, H⟩ := H
  refine j_alen t4 d_AL_grow1_4 ?_
  refine j_istore_n (L' := [some (.ref a0), some (.int p1), some (.int ((nI (gN G b2)))), none]) d_AL_grow1_5 (by decide) rfl ?_
  refine j_iload_n d_AL_grow1_6 rfl ?_
  obtain ⟨Ha, Hb⟩ := H
  refine j_if_gt (tgt := 20) d_AL_grow1_7 (by decide) (fun c20 => ?_) (fun c21 => ?_)
  · have H := Ha c20
    refine j_iload_n d_AL_grow1_20 rfl ?_
    refine j_iload_n d_AL_grow1_21 rfl ?_
    refine j_iload_n d_AL_grow1_22 rfl ?_
    refine j_isub d_AL_grow1_23 ?_
    refine j_iload_n d_AL_grow1_24 rfl ?_
    refine j_iconst (v := 1) d_AL_grow1_25 (by decide) ?_
    refine j_ishr d_AL_grow1_26 ?_
    refine j_callS (d' := 1) (As := [.int ((nI (gN G b2))), .int ((p1 - (nI (gN G b2)))), .int (((nI (gN G b2)) >>> ((1 : Int32) &&& 31)))]) (rest := []) cs_AL_73 me_AS_newLength rfl (by decide) rfl rfl (Nat.le_of_ble_eq_true rfl) d_AL_grow1_27 (by decide) rfl (j_enter (L := [some (.int ((nI (gN G b2)))), some (.int ((p1 - (nI (gN G b2))))), some (.int (((nI (gN G b2)) >>> ((1 : Int32) &&& 31)))), none]) me_AS_newLength (cat_c rfl (cat_c rfl (cat_c rfl cat_n))) (Nat.le_of_ble_eq_true rfl) rfl ?_)
    refine j_iload_n d_AS_newLength_0 rfl ?_
    refine j_iload_n d_AS_newLength_1 rfl ?_
    refine j_iload_n d_AS_newLength_2 rfl ?_
    refine j_max cm_AS_194 wm_max1 wm_ini wm_max2 (Nat.le_of_ble_eq_true rfl) d_AS_newLength_3 ?_
    refine j_iadd d_AS_newLength_6 ?_
    refine j_istore_n (L' := [some (.int ((nI (gN G b2)))), some (.int ((p1 - (nI (gN G b2))))), some (.int (((nI (gN G b2)) >>> ((1 : Int32) &&& 31)))), some (.int (((nI (gN G b2)) + (if (p1 - (nI (gN G b2))) < ((nI (gN G b2)) >>> ((1 : Int32) &&& 31)) then ((nI (gN G b2)) >>> ((1 : Int32) &&& 31)) else (p1 - (nI (gN G b2)))))))]) d_AS_newLength_7 (by decide) rfl ?_
    refine j_iconst (v := 0) d_AS_newLength_8 (by decide) ?_
    refine j_iload_n d_AS_newLength_9 rfl ?_
    obtain ⟨Ha, Hb⟩ := H
    refine j_icmp_ge (tgt := 21) d_AS_newLength_10 (by decide) (fun c7 => ?_) (fun c8 => ?_)
    · have H := Ha c7
      refine j_iload_n d_AS_newLength_21 rfl ?_
      refine j_iload_n d_AS_newLength_22 rfl ?_
      exact H.elim
    · have H := Hb c8
      refine j_iload_n d_AS_newLength_13 rfl ?_
      refine j_ldc kc_AS_200 d_AS_newLength_14 ?_
      obtain ⟨Ha, Hb⟩ := H
      refine j_icmp_gt (tgt := 21) d_AS_newLength_16 (by decide) (fun c5 => ?_) (fun c6 => ?_)
      · have H := Ha c5
        refine j_iload_n d_AS_newLength_21 rfl ?_
        refine j_iload_n d_AS_newLength_22 rfl ?_
        exact H.elim
      · have H := Hb c6
        refine j_iload_n d_AS_newLength_19 rfl ?_
        refine j_iret rfl d_AS_newLength_20 ?_
        show J E 3 m_AL_grow1 30 [some (.ref a0), some (.int p1), some (.int ((nI (gN G b2)))), none] [.int (((nI (gN G b2)) + (if (p1 - (nI (gN G b2))) < ((nI (gN G b2)) >>> ((1 : Int32) &&& 31)) then ((nI (gN G b2)) >>> ((1 : Int32) &&& 31)) else (p1 - (nI (gN G b2))))))] G Post
        refine j_istore_n (L' := [some (.ref a0), some (.int p1), some (.int ((nI (gN G b2)))), some (.int (((nI (gN G b2)) + (if (p1 - (nI (gN G b2))) < ((nI (gN G b2)) >>> ((1 : Int32) &&& 31)) then ((nI (gN G b2)) >>> ((1 : Int32) &&& 31)) else (p1 - (nI (gN G b2)))))))]) d_AL_grow1_30 (by decide) rfl ?_
        refine j_aload_n d_AL_grow1_31 rfl ?_
        refine j_aload_n d_AL_grow1_32 rfl ?_
        refine j_getR (f := 705) (b := b2) fe_AL_9 rfl rfl t1 e3 d_AL_grow1_33 ?_
        refine j_iload_n d_AL_grow1_36 rfl ?_
        refine j_forget (L' := [none, none, none, none]) ⟨Or.inl rfl, Or.inl rfl, Or.inl rfl, Or.inl rfl, trivial⟩ ?_
        exact j_callS (d' := 2) (As := [.ref b2, .int (((nI (gN G b2)) + (if (p1 - (nI (gN G b2))) < ((nI (gN G b2)) >>> ((1 : Int32) &&& 31)) then ((nI (gN G b2)) >>> ((1 : Int32) &&& 31)) else (p1 - (nI (gN G b2))))))]) (rest := [.ref a0]) cs_AL_66 me_Ar_copyOf rfl (by decide) rfl rfl (Nat.le_of_ble_eq_true rfl) d_AL_grow1_37 (by decide) rfl H
  · have H := Hb c21
    refine j_aload_n d_AL_grow1_10 rfl ?_
    refine j_getR (f := 705) (b := b2) fe_AL_9 rfl rfl t1 e3 d_AL_grow1_11 ?_
    refine j_dcap gd_AL_39 d_AL_grow1_14 ?_
    obtain ⟨Ha, Hb⟩ := H
    refine j_acmp_eq (tgt := 45) d_AL_grow1_17 (by decide) (fun c18 => ?_) (fun c19 => ?_)
    · have H := Ha c18
      refine j_aload_n d_AL_grow1_45 rfl ?_
      refine j_bipush (v := 10) d_AL_grow1_46 (by decide) ?_
      refine j_iload_n d_AL_grow1_48 rfl ?_
      refine j_max cm_AL_79 wm_max1 wm_ini wm_max2 (Nat.le_of_ble_eq_true rfl) d_AL_grow1_49 ?_
      obtain ⟨n9, h10, H⟩ := H
      refine j_newQ (n := n9) (t := 23) (by decide) h10.1 h10.2.1 h10.2.2 kl_AL_7 d_AL_grow1_52 ?_
      show J E 3 m_AL_grow1 55 [some (.ref a0), some (.int p1), some (.int ((nI (gN G b2)))), none] [.ref ((gz G)), .ref a0] (al G 23 n9) Post
      generalize e12 : al G 23 n9 = G11
      have e12 := e12.symm
      have H := H G11 e12
      refine j_dup_x1 d_AL_grow1_55 rfl rfl ?_
      obtain ⟨t13, H⟩ := H
      refine j_putR (r := (some ((gz G)))) (f := 705) rfl fw_AL_9 rfl rfl t13 d_AL_grow1_56 ?_
      exact j_aret (x := (some ((gz G)))) rfl rfl (Or.inr ⟨_, rfl⟩) d_AL_grow1_59 H
    · have H := Hb c19
      refine j_iload_n d_AL_grow1_20 rfl ?_
      refine j_iload_n d_AL_grow1_21 rfl ?_
      refine j_iload_n d_AL_grow1_22 rfl ?_
      refine j_isub d_AL_grow1_23 ?_
      refine j_iload_n d_AL_grow1_24 rfl ?_
      refine j_iconst (v := 1) d_AL_grow1_25 (by decide) ?_
      refine j_ishr d_AL_grow1_26 ?_
      refine j_callS (d' := 1) (As := [.int ((nI (gN G b2))), .int ((p1 - (nI (gN G b2)))), .int (((nI (gN G b2)) >>> ((1 : Int32) &&& 31)))]) (rest := []) cs_AL_73 me_AS_newLength rfl (by decide) rfl rfl (Nat.le_of_ble_eq_true rfl) d_AL_grow1_27 (by decide) rfl (j_enter (L := [some (.int ((nI (gN G b2)))), some (.int ((p1 - (nI (gN G b2))))), some (.int (((nI (gN G b2)) >>> ((1 : Int32) &&& 31)))), none]) me_AS_newLength (cat_c rfl (cat_c rfl (cat_c rfl cat_n))) (Nat.le_of_ble_eq_true rfl) rfl ?_)
      refine j_iload_n d_AS_newLength_0 rfl ?_
      refine j_iload_n d_AS_newLength_1 rfl ?_
      refine j_iload_n d_AS_newLength_2 rfl ?_
      refine j_max cm_AS_194 wm_max1 wm_ini wm_max2 (Nat.le_of_ble_eq_true rfl) d_AS_newLength_3 ?_
      refine j_iadd d_AS_newLength_6 ?_
      refine j_istore_n (L' := [some (.int ((nI (gN G b2)))), some (.int ((p1 - (nI (gN G b2))))), some (.int (((nI (gN G b2)) >>> ((1 : Int32) &&& 31)))), some (.int (((nI (gN G b2)) + (if (p1 - (nI (gN G b2))) < ((nI (gN G b2)) >>> ((1 : Int32) &&& 31)) then ((nI (gN G b2)) >>> ((1 : Int32) &&& 31)) else (p1 - (nI (gN G b2)))))))]) d_AS_newLength_7 (by decide) rfl ?_
      refine j_iconst (v := 0) d_AS_newLength_8 (by decide) ?_
      refine j_iload_n d_AS_newLength_9 rfl ?_
      obtain ⟨Ha, Hb⟩ := H
      refine j_icmp_ge (tgt := 21) d_AS_newLength_10 (by decide) (fun c16 => ?_) (fun c17 => ?_)
      · have H := Ha c16
        refine j_iload_n d_AS_newLength_21 rfl ?_
        refine j_iload_n d_AS_newLength_22 rfl ?_
        exact H.elim
      · have H := Hb c17
        refine j_iload_n d_AS_newLength_13 rfl ?_
        refine j_ldc kc_AS_200 d_AS_newLength_14 ?_
        obtain ⟨Ha, Hb⟩ := H
        refine j_icmp_gt (tgt := 21) d_AS_newLength_16 (by decide) (fun c14 => ?_) (fun c15 => ?_)
        · have H := Ha c14
          refine j_iload_n d_AS_newLength_21 rfl ?_
          refine j_iload_n d_AS_newLength_22 rfl ?_
          exact H.elim
        · have H := Hb c15
          refine j_iload_n d_AS_newLength_19 rfl ?_
          refine j_iret rfl d_AS_newLength_20 ?_
          show J E 3 m_AL_grow1 30 [some (.ref a0), some (.int p1), some (.int ((nI (gN G b2)))), none] [.int (((nI (gN G b2)) + (if (p1 - (nI (gN G b2))) < ((nI (gN G b2)) >>> ((1 : Int32) &&& 31)) then ((nI (gN G b2)) >>> ((1 : Int32) &&& 31)) else (p1 - (nI (gN G b2))))))] G Post
          refine j_istore_n (L' := [some (.ref a0), some (.int p1), some (.int ((nI (gN G b2)))), some (.int (((nI (gN G b2)) + (if (p1 - (nI (gN G b2))) < ((nI (gN G b2)) >>> ((1 : Int32) &&& 31)) then ((nI (gN G b2)) >>> ((1 : Int32) &&& 31)) else (p1 - (nI (gN G b2)))))))]) d_AL_grow1_30 (by decide) rfl ?_
          refine j_aload_n d_AL_grow1_31 rfl ?_
          refine j_aload_n d_AL_grow1_32 rfl ?_
          refine j_getR (f := 705) (b := b2) fe_AL_9 rfl rfl t1 e3 d_AL_grow1_33 ?_
          refine j_iload_n d_AL_grow1_36 rfl ?_
          refine j_forget (L' := [none, none, none, none]) ⟨Or.inl rfl, Or.inl rfl, Or.inl rfl, Or.inl rfl, trivial⟩ ?_
          exact j_callS (d' := 2) (As := [.ref b2, .int (((nI (gN G b2)) + (if (p1 - (nI (gN G b2))) < ((nI (gN G b2)) >>> ((1 : Int32) &&& 31)) then ((nI (gN G b2)) >>> ((1 : Int32) &&& 31)) else (p1 - (nI (gN G b2))))))]) (rest := [.ref a0]) cs_AL_66 me_Ar_copyOf rfl (by decide) rfl rfl (Nat.le_of_ble_eq_true rfl) d_AL_grow1_37 (by decide) rfl H
theorem wp_AL_grow1_40 {E : EV} {G : GH} {Post : Res → GH → Prop} (u0 : Nat) (u1 : Nat) (H : gT G u0 = 12 ∧ Post (.inl (some (.ref u1))) (sR G 705 u0 (some u1))) : J E 3 m_AL_grow1 40 [none, none, none, none] [.ref u1, .ref u0] G Post := by
  refine j_dup_x1 d_AL_grow1_40 rfl rfl ?_
  obtain ⟨t1, H⟩ := H
  refine j_putR (r := (some u1)) (f := 705) rfl fw_AL_9 rfl rfl t1 d_AL_grow1_41 ?_
  exact j_aret (x := (some u1)) rfl rfl (Or.inr ⟨_, rfl⟩) d_AL_grow1_44 H
theorem wp_AL_grow_0 {E : EV} {G : GH} {Post : Res → GH → Prop} (a0 : Nat) (H : gT G a0 = 12 ∧ Cl E 3 m_AL_grow1 [.ref a0, .int (((gI G 706 a0) + (1 : Int32)))] G (aft E 4 m_AL_grow 7 [none] [] Post)) : J E 4 m_AL_grow 0 [some (.ref a0)] [] G Post := by
  refine j_aload_n d_AL_grow_0 rfl ?_
  refine j_aload_n d_AL_grow_1 rfl ?_
  obtain ⟨t1, H⟩ := H
  refine j_getI (f := 706) fe_AL_48 rfl rfl t1 d_AL_grow_2 ?_
  refine j_iconst (v := 1) d_AL_grow_5 (by decide) ?_
  refine j_iadd d_AL_grow_6 ?_
  refine j_forget (L' := [none]) ⟨Or.inl rfl, trivial⟩ ?_
  exact j_callV (d' := 3) (ci := 11) (As := [.int (((gI G 706 a0) + (1 : Int32)))]) (rest := []) (b := a0) cv_AL_69 me_AL_grow1 rfl (by decide) rfl rfl t1 rfl rfl (Nat.le_of_ble_eq_true rfl) d_AL_grow_7 (by decide) rfl H
theorem wp_AL_grow_10 {E : EV} {G : GH} {Post : Res → GH → Prop} (u0 : Nat) (H : Post (.inl (some (.ref u0))) G) : J E 4 m_AL_grow 10 [none] [.ref u0] G Post := by
  exact j_aret (x := (some u0)) rfl rfl (Or.inr ⟨_, rfl⟩) d_AL_grow_10 H
theorem wp_AL_get_0 {E : EV} {G : GH} {Post : Res → GH → Prop} (a0 : Nat) (p1 : Int32) (H : gT G a0 = 12 ∧ (p1 < 0 → False) ∧ (¬ p1 < 0 → (p1 < (gI G 706 a0) → ∃ b2, gR G 705 a0 = some b2 ∧ (gT G b2 = 23 ∨ gT G b2 = 24) ∧ ∃ n6, IX p1 n6 (gN G b2) ∧ ∃ b7, gO G b2 n6 = some b7 ∧ Post (.inl (some (.ref b7))) G) ∧ (¬ p1 < (gI G 706 a0) → False))) : J E 3 m_AL_get 0 [some (.ref a0), some (.int p1)] [] G Post := by
  refine j_iload_n d_AL_get_0 rfl ?_
  refine j_aload_n d_AL_get_1 rfl ?_
  obtain ⟨t1, H⟩ := H
  refine j_getI (f := 706) fe_AL_48 rfl rfl t1 d_AL_get_2 ?_
  refine j_callS (d' := 2) (As := [.int p1, .int ((gI G 706 a0))]) (rest := []) cs_AL_118 me_Ob_checkIndex rfl (by decide) rfl rfl (Nat.le_of_ble_eq_true rfl) d_AL_get_5 (by decide) rfl (j_enter (L := [some (.int p1), some (.int ((gI G 706 a0)))]) me_Ob_checkIndex (cat_c rfl (cat_c rfl cat_n)) (Nat.le_of_ble_eq_true rfl) rfl ?_)
  refine j_iload_n d_Ob_checkIndex_0 rfl ?_
  refine j_iload_n d_Ob_checkIndex_1 rfl ?_
  refine j_null d_Ob_checkIndex_2 ?_
  refine j_callS (d' := 1) (As := [.int p1, .int ((gI G 706 a0)), .null]) (rest := []) cs_Ob_105 me_Pc_checkIndex rfl (by decide) rfl rfl (Nat.le_of_ble_eq_true rfl) d_Ob_checkIndex_3 (by decide) rfl (j_enter (L := [some (.int p1), some (.int ((gI G 706 a0))), some (.null)]) me_Pc_checkIndex (cat_c rfl (cat_c rfl (cat_c rfl cat_n))) (Nat.le_of_ble_eq_true rfl) rfl ?_)
  refine j_iload_n d_Pc_checkIndex_0 rfl ?_
  obtain ⟨Ha, Hb⟩ := H
  refine j_if_lt (tgt := 9) d_Pc_checkIndex_1 (by decide) (fun c11 => ?_) (fun c12 => ?_)
  · have H := Ha c11
    refine j_aload_nq (x := none) d_Pc_checkIndex_9 rfl ?_
    refine j_iload_n d_Pc_checkIndex_10 rfl ?_
    refine j_iload_n d_Pc_checkIndex_11 rfl ?_
    exact H.elim
  · have H := Hb c12
    refine j_iload_n d_Pc_checkIndex_4 rfl ?_
    refine j_iload_n d_Pc_checkIndex_5 rfl ?_
    obtain ⟨Ha, Hb⟩ := H
    refine j_icmp_lt (tgt := 16) d_Pc_checkIndex_6 (by decide) (fun c9 => ?_) (fun c10 => ?_)
    · have H := Ha c9
      refine j_iload_n d_Pc_checkIndex_16 rfl ?_
      refine j_iret rfl d_Pc_checkIndex_17 ?_
      show J E 2 m_Ob_checkIndex 6 [some (.int p1), some (.int ((gI G 706 a0)))] [.int p1] G (aft E 3 m_AL_get 5 [some (.ref a0), some (.int p1)] [] Post)
      refine j_iret rfl d_Ob_checkIndex_6 ?_
      show J E 3 m_AL_get 8 [some (.ref a0), some (.int p1)] [.int p1] G Post
      refine j_pop d_AL_get_8 rfl ?_
      refine j_aload_n d_AL_get_9 rfl ?_
      refine j_iload_n d_AL_get_10 rfl ?_
      refine j_callV (d' := 1) (ci := 11) (As := [.int p1]) (rest := []) (b := a0) cv_AL_123 me_AL_elementData rfl (by decide) rfl rfl t1 rfl rfl (Nat.le_of_ble_eq_true rfl) d_AL_get_11 (by decide) rfl (j_enter (L := [some (.ref a0), some (.int p1)]) me_AL_elementData (cat_c rfl (cat_c rfl cat_n)) (Nat.le_of_ble_eq_true rfl) rfl ?_)
      refine j_aload_n d_AL_elementData_0 rfl ?_
      obtain ⟨b2, e3, H⟩ := H
      refine j_getR (f := 705) (b := b2) fe_AL_9 rfl rfl t1 e3 d_AL_elementData_1 ?_
      refine j_iload_n d_AL_elementData_4 rfl ?_
      obtain ⟨t4, H⟩ := H
      obtain ⟨n6, x5, H⟩ := H
      obtain ⟨b7, e8, H⟩ := H
      refine j_aaldR (n := n6) (b := b7) t4 x5 e8 d_AL_elementData_5 ?_
      refine j_aret (x := (some b7)) rfl rfl (Or.inl ⟨_, rfl⟩) d_AL_elementData_6 ?_
      show J E 3 m_AL_get 14 [some (.ref a0), some (.int p1)] [.ref b7] G Post
      exact j_aret (x := (some b7)) rfl rfl (Or.inl ⟨_, rfl⟩) d_AL_get_14 H
    · have H := Hb c10
      refine j_aload_nq (x := none) d_Pc_checkIndex_9 rfl ?_
      refine j_iload_n d_Pc_checkIndex_10 rfl ?_
      refine j_iload_n d_Pc_checkIndex_11 rfl ?_
      exact H.elim
theorem wp_AL_add3_0 {E : EV} {G : GH} {Post : Res → GH → Prop} (a0 : Nat) (a1 : Nat) (a2 : Nat) (p3 : Int32) (H : (20 ≤ gT G a2 ∧ gT G a2 ≤ 26) ∧ (¬ p3 = (nI (gN G a2)) → gT G a2 = 23 ∧ ∃ n4, IX p3 n4 (gN G a2) ∧ OB G a1 ∧ gT G a0 = 12 ∧ Post (.inl none) (sI (sO G a2 n4 (some a1)) 706 a0 ((p3 + (1 : Int32))))) ∧ (p3 = (nI (gN G a2)) → gT G a0 = 12 ∧ Cl E 4 m_AL_grow [.ref a0] G (aft E 5 m_AL_add3 7 [some (.ref a0), some (.ref a1), none, some (.int p3)] [] Post))) : J E 5 m_AL_add3 0 [some (.ref a0), some (.ref a1), some (.ref a2), some (.int p3)] [] G Post := by
  refine j_iload_n d_AL_add3_0 rfl ?_
  refine j_aload_n d_AL_add3_1 rfl ?_
  obtain ⟨t1, H⟩ := H
  refine j_alen t1 d_AL_add3_2 ?_
  obtain ⟨Ha, Hb⟩ := H
  refine j_icmp_ne (tgt := 11) d_AL_add3_3 (by decide) (fun c8 => ?_) (fun c9 => ?_)
  · have H := Ha c8
    refine j_aload_n d_AL_add3_11 rfl ?_
    refine j_iload_n d_AL_add3_12 rfl ?_
    refine j_aload_n d_AL_add3_13 rfl ?_
    obtain ⟨t2, H⟩ := H
    obtain ⟨n4, x3, H⟩ := H
    obtain ⟨o5, H⟩ := H
    refine j_aastOB (n := n4) t2 x3 o5 d_AL_add3_14 ?_
    refine j_aload_n d_AL_add3_15 rfl ?_
    refine j_iload_n d_AL_add3_16 rfl ?_
    refine j_iconst (v := 1) d_AL_add3_17 (by decide) ?_
    refine j_iadd d_AL_add3_18 ?_
    obtain ⟨t6, H⟩ := H
    refine j_putI (f := 706) fw_AL_48 rfl rfl t6 d_AL_add3_19 ?_
    exact j_vret rfl d_AL_add3_22 H
  · have H := Hb c9
    refine j_aload_n d_AL_add3_6 rfl ?_
    obtain ⟨t7, H⟩ := H
    refine j_forget (L' := [some (.ref a0), some (.ref a1), none, some (.int p3)]) ⟨Or.inr rfl, Or.inr rfl, Or.inl rfl, Or.inr rfl, trivial⟩ ?_
    exact j_callV (d' := 4) (ci := 11) (As := []) (rest := []) (b := a0) cv_AL_129 me_AL_grow rfl (by decide) rfl rfl t7 rfl rfl (Nat.le_of_ble_eq_true rfl) d_AL_add3_7 (by decide) rfl H
theorem wp_AL_add3_10 {E : EV} {G : GH} {Post : Res → GH → Prop} (a0 : Nat) (a1 : Nat) (p3 : Int32) (u0 : Nat) (H : gT G u0 = 23 ∧ ∃ n3, IX p3 n3 (gN G u0) ∧ OB G a1 ∧ gT G a0 = 12 ∧ Post (.inl none) (sI (sO G u0 n3 (some a1)) 706 a0 ((p3 + (1 : Int32))))) : J E 5 m_AL_add3 10 [some (.ref a0), some (.ref a1), none, some (.int p3)] [.ref u0] G Post := by
  refine j_astore_n (x := (some u0)) (L' := [some (.ref a0), some (.ref a1), some (.ref u0), some (.int p3)]) rfl d_AL_add3_10 (by decide) rfl ?_
  refine j_aload_n d_AL_add3_11 rfl ?_
  refine j_iload_n d_AL_add3_12 rfl ?_
  refine j_aload_n d_AL_add3_13 rfl ?_
  obtain ⟨t1, H⟩ := H
  obtain ⟨n3, x2, H⟩ := H
  obtain ⟨o4, H⟩ := H
  refine j_aastOB (n := n3) t1 x2 o4 d_AL_add3_14 ?_
  refine j_aload_n d_AL_add3_15 rfl ?_
  refine j_iload_n d_AL_add3_16 rfl ?_
  refine j_iconst (v := 1) d_AL_add3_17 (by decide) ?_
  refine j_iadd d_AL_add3_18 ?_
  obtain ⟨t5, H⟩ := H
  refine j_putI (f := 706) fw_AL_48 rfl rfl t5 d_AL_add3_19 ?_
  exact j_vret rfl d_AL_add3_22 H
theorem wp_AL_add_0 {E : EV} {G : GH} {Post : Res → GH → Prop} (a0 : Nat) (a1 : Nat) (H : gT G a0 = 12 ∧ ∃ b2, gR G 705 a0 = some b2 ∧ Cl E 5 m_AL_add3 [.ref a0, .ref a1, .ref b2, .int ((gI G 706 a0))] (sI G 704 a0 (((gI G 704 a0) + (1 : Int32)))) (aft E 6 m_AL_add 20 [none, none] [] Post)) : J E 6 m_AL_add 0 [some (.ref a0), some (.ref a1)] [] G Post := by
  refine j_aload_n d_AL_add_0 rfl ?_
  refine j_dup d_AL_add_1 rfl ?_
  obtain ⟨t1, H⟩ := H
  refine j_getI (f := 704) fe_AL_63 rfl rfl t1 d_AL_add_2 ?_
  refine j_iconst (v := 1) d_AL_add_5 (by decide) ?_
  refine j_iadd d_AL_add_6 ?_
  refine j_putI (f := 704) fw_AL_63 rfl rfl t1 d_AL_add_7 ?_
  refine j_aload_n d_AL_add_10 rfl ?_
  refine j_aload_n d_AL_add_11 rfl ?_
  refine j_aload_n d_AL_add_12 rfl ?_
  obtain ⟨b2, e3, H⟩ := H
  refine j_getR (f := 705) (b := b2) fe_AL_9 rfl rfl t1 e3 d_AL_add_13 ?_
  refine j_aload_n d_AL_add_16 rfl ?_
  refine j_getI (f := 706) fe_AL_48 rfl rfl t1 d_AL_add_17 ?_
  refine j_forget (L' := [none, none]) ⟨Or.inl rfl, Or.inl rfl, trivial⟩ ?_
  exact j_callV (d' := 5) (ci := 11) (As := [.ref a1, .ref b2, .int ((gI G 706 a0))]) (rest := []) (b := a0) cv_AL_131 me_AL_add3 rfl (by decide) rfl rfl t1 rfl rfl (Nat.le_of_ble_eq_true rfl) d_AL_add_20 (by decide) rfl H
theorem wp_AL_add_23 {E : EV} {G : GH} {Post : Res → GH → Prop}  (H : Post (.inl (some (.int ((1 : Int32))))) G) : J E 6 m_AL_add 23 [none, none] [] G Post := by
  refine j_iconst (v := 1) d_AL_add_23 (by decide) ?_
  exact j_zret rfl (by decide) d_AL_add_24 H
theorem wp_AL_addAt_0 {E : EV} {G : GH} {Post : Res → GH → Prop} (a0 : Nat) (p1 : Int32) (a2 : Nat) (H : gT G a0 = 12 ∧ ((gI G 706 a0) < p1 → False) ∧ (¬ (gI G 706 a0) < p1 → (0 ≤ p1 → ∃ b2, gR G 705 a0 = some b2 ∧ (20 ≤ gT G b2 ∧ gT G b2 ≤ 26) ∧ (¬ (gI G 706 a0) = (nI (gN (sI G 704 a0 (((gI G 704 a0) + (1 : Int32)))) b2)) → ((gT G b2 = 23 ∨ gT G b2 = 26) ∧ gT G b2 = 23 ∧ ¬ p1 < 0 ∧ ¬ (p1 + (1 : Int32)) < 0 ∧ ¬ ((gI G 706 a0) - p1) < 0 ∧ p1.toNatClampNeg + (((gI G 706 a0) - p1)).toNatClampNeg ≤ gN G b2 ∧ ((p1 + (1 : Int32))).toNatClampNeg + (((gI G 706 a0) - p1)).toNatClampNeg ≤ gN G b2 ∧ (∀ i : Nat, i < (((gI G 706 a0) - p1)).toNatClampNeg → ∀ v : Nat, gO G b2 (p1.toNatClampNeg + i) = some v → OB G v)) ∧ gT G b2 = 23 ∧ ∃ n8, IX p1 n8 (gN G b2) ∧ OB G a2 ∧ ∀ G10, G10 = sI (sO (sW (sI G 704 a0 (((gI G 704 a0) + (1 : Int32)))) b2 (va_cpy (gO G b2) (gO G b2) p1.toNatClampNeg ((p1 + (1 : Int32))).toNatClampNeg (((gI G 706 a0) - p1)).toNatClampNeg)) b2 n8 (some a2)) 706 a0 (((gI G 706 a0) + (1 : Int32))) → Post (.inl none) G10) ∧ ((gI G 706 a0) = (nI (gN (sI G 704 a0 (((gI G 704 a0) + (1 : Int32)))) b2)) → Cl E 4 m_AL_grow [.ref a0] (sI G 704 a0 (((gI G 704 a0) + (1 : Int32)))) (aft E 5 m_AL_addAt 33 [some (.ref a0), some (.int p1), some (.ref a2), some (.int ((gI G 706 a0))), none] [] Post))) ∧ (¬ 0 ≤ p1 → False))) : J E 5 m_AL_addAt 0 [some (.ref a0), some (.int p1), some (.ref a2), none, none] [] G Post := by
  refine j_aload_n d_AL_addAt_0 rfl ?_
  refine j_iload_n d_AL_addAt_1 rfl ?_
  obtain ⟨t1, H⟩ := H
  refine j_callV (d' := 1) (ci := 11) (As := [.int p1]) (rest := []) (b := a0) cv_AL_135 me_AL_rangeCheckForAdd rfl (by decide) rfl rfl t1 rfl rfl (Nat.le_of_ble_eq_true rfl) d_AL_addAt_2 (by decide) rfl (j_enter (L := [some (.ref a0), some (.int p1)]) me_AL_rangeCheckForAdd (cat_c rfl (cat_c rfl cat_n)) (Nat.le_of_ble_eq_true rfl) rfl ?_)
  refine j_iload_n d_AL_rangeCheckForAdd_0 rfl ?_
  refine j_aload_n d_AL_rangeCheckForAdd_1 rfl ?_
  refine j_getI (f := 706) fe_AL_48 rfl rfl t1 d_AL_rangeCheckForAdd_2 ?_
  obtain ⟨Ha, Hb⟩ := H
  refine j_icmp_gt (tgt := 12) d_AL_rangeCheckForAdd_5 (by decide) (fun c16 => ?_) (fun c17 => ?_)
  · have H := Ha c16
    exact H.elim
  · have H := Hb c17
    refine j_iload_n d_AL_rangeCheckForAdd_8 rfl ?_
    obtain ⟨Ha, Hb⟩ := H
    refine j_if_ge (tgt := 25) d_AL_rangeCheckForAdd_9 (by decide) (fun c14 => ?_) (fun c15 => ?_)
    · have H := Ha c14
      refine j_vret rfl d_AL_rangeCheckForAdd_25 ?_
      show J E 5 m_AL_addAt 5 [some (.ref a0), some (.int p1), some (.ref a2), none, none] [] G Post
      refine j_aload_n d_AL_addAt_5 rfl ?_
      refine j_dup d_AL_addAt_6 rfl ?_
      refine j_getI (f := 704) fe_AL_63 rfl rfl t1 d_AL_addAt_7 ?_
      refine j_iconst (v := 1) d_AL_addAt_10 (by decide) ?_
      refine j_iadd d_AL_addAt_11 ?_
      refine j_putI (f := 704) fw_AL_63 rfl rfl t1 d_AL_addAt_12 ?_
      refine j_aload_n d_AL_addAt_15 rfl ?_
      refine j_getI (f := 706) fe_AL_48 rfl rfl t1 d_AL_addAt_16 ?_
      refine j_dup d_AL_addAt_19 rfl ?_
      refine j_istore_n (L' := [some (.ref a0), some (.int p1), some (.ref a2), some (.int ((gI G 706 a0))), none]) d_AL_addAt_20 (by decide) rfl ?_
      refine j_aload_n d_AL_addAt_21 rfl ?_
      obtain ⟨b2, e3, H⟩ := H
      refine j_getR (f := 705) (b := b2) fe_AL_9 rfl rfl t1 e3 d_AL_addAt_22 ?_
      refine j_dup d_AL_addAt_25 rfl ?_
      refine j_astore (x := (some b2)) (L' := [some (.ref a0), some (.int p1), some (.ref a2), some (.int ((gI G 706 a0))), some (.ref b2)]) rfl d_AL_addAt_26 (by decide) rfl ?_
      obtain ⟨t4, H⟩ := H
      refine j_alen t4 d_AL_addAt_28 ?_
      obtain ⟨Ha, Hb⟩ := H
      refine j_icmp_ne (tgt := 38) d_AL_addAt_29 (by decide) (fun c12 => ?_) (fun c13 => ?_)
      · have H := Ha c12
        refine j_aload d_AL_addAt_38 rfl ?_
        refine j_iload_n d_AL_addAt_40 rfl ?_
        refine j_aload d_AL_addAt_41 rfl ?_
        refine j_iload_n d_AL_addAt_43 rfl ?_
        refine j_iconst (v := 1) d_AL_addAt_44 (by decide) ?_
        refine j_iadd d_AL_addAt_45 ?_
        refine j_iload_n d_AL_addAt_46 rfl ?_
        refine j_iload_n d_AL_addAt_47 rfl ?_
        refine j_isub d_AL_addAt_48 ?_
        obtain ⟨y5, H⟩ := H
        refine j_copy y5.1 y5.2.1 y5.2.2.1 y5.2.2.2.1 y5.2.2.2.2.1 y5.2.2.2.2.2.1 y5.2.2.2.2.2.2.1 y5.2.2.2.2.2.2.2 cy_AL_112 wy1 wy2 wy3 (Nat.le_of_ble_eq_true rfl) d_AL_addAt_49 ?_
        refine j_aload d_AL_addAt_52 rfl ?_
        refine j_iload_n d_AL_addAt_54 rfl ?_
        refine j_aload_n d_AL_addAt_55 rfl ?_
        obtain ⟨t6, H⟩ := H
        obtain ⟨n8, x7, H⟩ := H
        obtain ⟨o9, H⟩ := H
        refine j_aastOB (n := n8) t6 x7 o9 d_AL_addAt_56 ?_
        refine j_aload_n d_AL_addAt_57 rfl ?_
        refine j_iload_n d_AL_addAt_58 rfl ?_
        refine j_iconst (v := 1) d_AL_addAt_59 (by decide) ?_
        refine j_iadd d_AL_addAt_60 ?_
        refine j_putI (f := 706) fw_AL_48 rfl rfl t1 d_AL_addAt_61 ?_
        show J E 5 m_AL_addAt 64 [some (.ref a0), some (.int p1), some (.ref a2), some (.int ((gI G 706 a0))), some (.ref b2)] [] (sI (sO (sW (sI G 704 a0 (((gI G 704 a0) + (1 : Int32)))) b2 (va_cpy (gO G b2) (gO G b2) p1.toNatClampNeg ((p1 + (1 : Int32))).toNatClampNeg (((gI G 706 a0) - p1)).toNatClampNeg)) b2 n8 (some a2)) 706 a0 (((gI G 706 a0) + (1 : Int32)))) Post
        generalize e11 : sI (sO (sW (sI G 704 a0 (((gI G 704 a0) + (1 : Int32)))) b2 (va_cpy (gO G b2) (gO G b2) p1.toNatClampNeg ((p1 + (1 : Int32))).toNatClampNeg (((gI G 706 a0) - p1)).toNatClampNeg)) b2 n8 (some a2)) 706 a0 (((gI G 706 a0) + (1 : Int32))) = G10
        have e11 := e11.symm
        have H := H G10 e11
        exact j_vret rfl d_AL_addAt_64 H
      · have H := Hb c13
        refine j_aload_n d_AL_addAt_32 rfl ?_
        refine j_forget (L' := [some (.ref a0), some (.int p1), some (.ref a2), some (.int ((gI G 706 a0))), none]) ⟨Or.inr rfl, Or.inr rfl, Or.inr rfl, Or.inr rfl, Or.inl rfl, trivial⟩ ?_
        exact j_callV (d' := 4) (ci := 11) (As := []) (rest := []) (b := a0) cv_AL_129 me_AL_grow rfl (by decide) rfl rfl t1 rfl rfl (Nat.le_of_ble_eq_true rfl) d_AL_addAt_33 (by decide) rfl H
    · have H := Hb c15
      exact H.elim
theorem wp_AL_addAt_36 {E : EV} {G : GH} {Post : Res → GH → Prop} (a0 : Nat) (p1 : Int32) (a2 : Nat) (p3 : Int32) (u0 : Nat) (H : ((gT G u0 = 23 ∨ gT G u0 = 26) ∧ gT G u0 = 23 ∧ ¬ p1 < 0 ∧ ¬ (p1 + (1 : Int32)) < 0 ∧ ¬ (p3 - p1) < 0 ∧ p1.toNatClampNeg + ((p3 - p1)).toNatClampNeg ≤ gN G u0 ∧ ((p1 + (1 : Int32))).toNatClampNeg + ((p3 - p1)).toNatClampNeg ≤ gN G u0 ∧ (∀ i : Nat, i < ((p3 - p1)).toNatClampNeg → ∀ v : Nat, gO G u0 (p1.toNatClampNeg + i) = some v → OB G v)) ∧ gT G u0 = 23 ∧ ∃ n4, IX p1 n4 (gN G u0) ∧ OB G a2 ∧ gT G a0 = 12 ∧ ∀ G7, G7 = sI (sO (sW G u0 (va_cpy (gO G u0) (gO G u0) p1.toNatClampNeg ((p1 + (1 : Int32))).toNatClampNeg ((p3 - p1)).toNatClampNeg)) u0 n4 (some a2)) 706 a0 ((p3 + (1 : Int32))) → Post (.inl none) G7) : J E 5 m_AL_addAt 36 [some (.ref a0), some (.int p1), some (.ref a2), some (.int p3), none] [.ref u0] G Post := by
  refine j_astore (x := (some u0)) (L' := [some (.ref a0), some (.int p1), some (.ref a2), some (.int p3), some (.ref u0)]) rfl d_AL_addAt_36 (by decide) rfl ?_
  refine j_aload d_AL_addAt_38 rfl ?_
  refine j_iload_n d_AL_addAt_40 rfl ?_
  refine j_aload d_AL_addAt_41 rfl ?_
  refine j_iload_n d_AL_addAt_43 rfl ?_
  refine j_iconst (v := 1) d_AL_addAt_44 (by decide) ?_
  refine j_iadd d_AL_addAt_45 ?_
  refine j_iload_n d_AL_addAt_46 rfl ?_
  refine j_iload_n d_AL_addAt_47 rfl ?_
  refine j_isub d_AL_addAt_48 ?_
  obtain ⟨y1, H⟩ := H
  refine j_copy y1.1 y1.2.1 y1.2.2.1 y1.2.2.2.1 y1.2.2.2.2.1 y1.2.2.2.2.2.1 y1.2.2.2.2.2.2.1 y1.2.2.2.2.2.2.2 cy_AL_112 wy1 wy2 wy3 (Nat.le_of_ble_eq_true rfl) d_AL_addAt_49 ?_
  refine j_aload d_AL_addAt_52 rfl ?_
  refine j_iload_n d_AL_addAt_54 rfl ?_
  refine j_aload_n d_AL_addAt_55 rfl ?_
  obtain ⟨t2, H⟩ := H
  obtain ⟨n4, x3, H⟩ := H
  obtain ⟨o5, H⟩ := H
  refine j_aastOB (n := n4) t2 x3 o5 d_AL_addAt_56 ?_
  refine j_aload_n d_AL_addAt_57 rfl ?_
  refine j_iload_n d_AL_addAt_58 rfl ?_
  refine j_iconst (v := 1) d_AL_addAt_59 (by decide) ?_
  refine j_iadd d_AL_addAt_60 ?_
  obtain ⟨t6, H⟩ := H
  refine j_putI (f := 706) fw_AL_48 rfl rfl t6 d_AL_addAt_61 ?_
  show J E 5 m_AL_addAt 64 [some (.ref a0), some (.int p1), some (.ref a2), some (.int p3), some (.ref u0)] [] (sI (sO (sW G u0 (va_cpy (gO G u0) (gO G u0) p1.toNatClampNeg ((p1 + (1 : Int32))).toNatClampNeg ((p3 - p1)).toNatClampNeg)) u0 n4 (some a2)) 706 a0 ((p3 + (1 : Int32)))) Post
  generalize e8 : sI (sO (sW G u0 (va_cpy (gO G u0) (gO G u0) p1.toNatClampNeg ((p1 + (1 : Int32))).toNatClampNeg ((p3 - p1)).toNatClampNeg)) u0 n4 (some a2)) 706 a0 ((p3 + (1 : Int32))) = G7
  have e8 := e8.symm
  have H := H G7 e8
  exact j_vret rfl d_AL_addAt_64 H
theorem wp_AL_remove_0 {E : EV} {G : GH} {Post : Res → GH → Prop} (a0 : Nat) (p1 : Int32) (H : gT G a0 = 12 ∧ (p1 < 0 → False) ∧ (¬ p1 < 0 → (p1 < (gI G 706 a0) → ∃ b2, gR G 705 a0 = some b2 ∧ (gT G b2 = 23 ∨ gT G b2 = 24) ∧ ∃ n6, IX p1 n6 (gN G b2) ∧ ∃ b7, gO G b2 n6 = some b7 ∧ Cl E 1 m_AL_fastRemove [.ref a0, .ref b2, .int p1] G (aft E 3 m_AL_remove 21 [none, none, none, some (.ref b7)] [] Post)) ∧ (¬ p1 < (gI G 706 a0) → False))) : J E 3 m_AL_remove 0 [some (.ref a0), some (.int p1), none, none] [] G Post := by
  refine j_iload_n d_AL_remove_0 rfl ?_
  refine j_aload_n d_AL_remove_1 rfl ?_
  obtain ⟨t1, H⟩ := H
  refine j_getI (f := 706) fe_AL_48 rfl rfl t1 d_AL_remove_2 ?_
  refine j_callS (d' := 2) (As := [.int p1, .int ((gI G 706 a0))]) (rest := []) cs_AL_118 me_Ob_checkIndex rfl (by decide) rfl rfl (Nat.le_of_ble_eq_true rfl) d_AL_remove_5 (by decide) rfl (j_enter (L := [some (.int p1), some (.int ((gI G 706 a0)))]) me_Ob_checkIndex (cat_c rfl (cat_c rfl cat_n)) (Nat.le_of_ble_eq_true rfl) rfl ?_)
  refine j_iload_n d_Ob_checkIndex_0 rfl ?_
  refine j_iload_n d_Ob_checkIndex_1 rfl ?_
  refine j_null d_Ob_checkIndex_2 ?_
  refine j_callS (d' := 1) (As := [.int p1, .int ((gI G 706 a0)), .null]) (rest := []) cs_Ob_105 me_Pc_checkIndex rfl (by decide) rfl rfl (Nat.le_of_ble_eq_true rfl) d_Ob_checkIndex_3 (by decide) rfl (j_enter (L := [some (.int p1), some (.int ((gI G 706 a0))), some (.null)]) me_Pc_checkIndex (cat_c rfl (cat_c rfl (cat_c rfl cat_n))) (Nat.le_of_ble_eq_true rfl) rfl ?_)
  refine j_iload_n d_Pc_checkIndex_0 rfl ?_
  obtain ⟨Ha, Hb⟩ := H
  refine j_if_lt (tgt := 9) d_Pc_checkIndex_1 (by decide) (fun c11 => ?_) (fun c12 => ?_)
  · have H := Ha c11
    refine j_aload_nq (x := none) d_Pc_checkIndex_9 rfl ?_
    refine j_iload_n d_Pc_checkIndex_10 rfl ?_
    refine j_iload_n d_Pc_checkIndex_11 rfl ?_
    exact H.elim
  · have H := Hb c12
    refine j_iload_n d_Pc_checkIndex_4 rfl ?_
    refine j_iload_n d_Pc_checkIndex_5 rfl ?_
    obtain ⟨Ha, Hb⟩ := H
    refine j_icmp_lt (tgt := 16) d_Pc_checkIndex_6 (by decide) (fun c9 => ?_) (fun c10 => ?_)
    · have H := Ha c9
      refine j_iload_n d_Pc_checkIndex_16 rfl ?_
      refine j_iret rfl d_Pc_checkIndex_17 ?_
      show J E 2 m_Ob_checkIndex 6 [some (.int p1), some (.int ((gI G 706 a0)))] [.int p1] G (aft E 3 m_AL_remove 5 [some (.ref a0), some (.int p1), none, none] [] Post)
      refine j_iret rfl d_Ob_checkIndex_6 ?_
      show J E 3 m_AL_remove 8 [some (.ref a0), some (.int p1), none, none] [.int p1] G Post
      refine j_pop d_AL_remove_8 rfl ?_
      refine j_aload_n d_AL_remove_9 rfl ?_
      obtain ⟨b2, e3, H⟩ := H
      refine j_getR (f := 705) (b := b2) fe_AL_9 rfl rfl t1 e3 d_AL_remove_10 ?_
      refine j_astore_n (x := (some b2)) (L' := [some (.ref a0), some (.int p1), some (.ref b2), none]) rfl d_AL_remove_13 (by decide) rfl ?_
      refine j_aload_n d_AL_remove_14 rfl ?_
      refine j_iload_n d_AL_remove_15 rfl ?_
      obtain ⟨t4, H⟩ := H
      obtain ⟨n6, x5, H⟩ := H
      obtain ⟨b7, e8, H⟩ := H
      refine j_aaldR (n := n6) (b := b7) t4 x5 e8 d_AL_remove_16 ?_
      refine j_astore_n (x := (some b7)) (L' := [some (.ref a0), some (.int p1), some (.ref b2), some (.ref b7)]) rfl d_AL_remove_17 (by decide) rfl ?_
      refine j_aload_n d_AL_remove_18 rfl ?_
      refine j_aload_n d_AL_remove_19 rfl ?_
      refine j_iload_n d_AL_remove_20 rfl ?_
      refine j_forget (L' := [none, none, none, some (.ref b7)]) ⟨Or.inl rfl, Or.inl rfl, Or.inl rfl, Or.inr rfl, trivial⟩ ?_
      exact j_callV (d' := 1) (ci := 11) (As := [.ref b2, .int p1]) (rest := []) (b := a0) cv_AL_144 me_AL_fastRemove rfl (by decide) rfl rfl t1 rfl rfl (Nat.le_of_ble_eq_true rfl) d_AL_remove_21 (by decide) rfl H
    · have H := Hb c10
      refine j_aload_nq (x := none) d_Pc_checkIndex_9 rfl ?_
      refine j_iload_n d_Pc_checkIndex_10 rfl ?_
      refine j_iload_n d_Pc_checkIndex_11 rfl ?_
      exact H.elim
theorem wp_AL_remove_24 {E : EV} {G : GH} {Post : Res → GH → Prop} (a3 : Nat) (H : Post (.inl (some (.ref a3))) G) : J E 3 m_AL_remove 24 [none, none, none, some (.ref a3)] [] G Post := by
  refine j_aload_n d_AL_remove_24 rfl ?_
  exact j_aret (x := (some a3)) rfl rfl (Or.inl ⟨_, rfl⟩) d_AL_remove_25 H
theorem wp_AL_fastRemove_0 {E : EV} {G : GH} {Post : Res → GH → Prop} (a0 : Nat) (a1 : Nat) (p2 : Int32) (H : gT G a0 = 12 ∧ (((gI G 706 a0) - (1 : Int32)) ≤ p2 → gT G a1 = 23 ∧ ∃ n4, IX (((gI G 706 a0) - (1 : Int32))) n4 (gN G a1) ∧ Post (.inl none) (sO (sI (sI G 704 a0 (((gI G 704 a0) + (1 : Int32)))) 706 a0 (((gI G 706 a0) - (1 : Int32)))) a1 n4 none)) ∧ (¬ ((gI G 706 a0) - (1 : Int32)) ≤ p2 → ((gT G a1 = 23 ∨ gT G a1 = 26) ∧ gT G a1 = 23 ∧ ¬ (p2 + (1 : Int32)) < 0 ∧ ¬ p2 < 0 ∧ ¬ (((gI G 706 a0) - (1 : Int32)) - p2) < 0 ∧ ((p2 + (1 : Int32))).toNatClampNeg + ((((gI G 706 a0) - (1 : Int32)) - p2)).toNatClampNeg ≤ gN G a1 ∧ p2.toNatClampNeg + ((((gI G 706 a0) - (1 : Int32)) - p2)).toNatClampNeg ≤ gN G a1 ∧ (∀ i : Nat, i < ((((gI G 706 a0) - (1 : Int32)) - p2)).toNatClampNeg → ∀ v : Nat, gO G a1 (((p2 + (1 : Int32))).toNatClampNeg + i) = some v → OB G v)) ∧ ∀ G6, G6 = sI (sW (sI G 704 a0 (((gI G 704 a0) + (1 : Int32)))) a1 (va_cpy (gO G a1) (gO G a1) ((p2 + (1 : Int32))).toNatClampNeg p2.toNatClampNeg ((((gI G 706 a0) - (1 : Int32)) - p2)).toNatClampNeg)) 706 a0 (((gI G 706 a0) - (1 : Int32))) → gT G a1 = 23 ∧ ∃ n10, IX (((gI G 706 a0) - (1 : Int32))) n10 (gN G a1) ∧ Post (.inl none) (sO G6 a1 n10 none))) : J E 1 m_AL_fastRemove 0 [some (.ref a0), some (.ref a1), some (.int p2), none] [] G Post := by
  refine j_aload_n d_AL_fastRemove_0 rfl ?_
  refine j_dup d_AL_fastRemove_1 rfl ?_
  obtain ⟨t1, H⟩ := H
  refine j_getI (f := 704) fe_AL_63 rfl rfl t1 d_AL_fastRemove_2 ?_
  refine j_iconst (v := 1) d_AL_fastRemove_5 (by decide) ?_
  refine j_iadd d_AL_fastRemove_6 ?_
  refine j_putI (f := 704) fw_AL_63 rfl rfl t1 d_AL_fastRemove_7 ?_
  refine j_aload_n d_AL_fastRemove_10 rfl ?_
  refine j_getI (f := 706) fe_AL_48 rfl rfl t1 d_AL_fastRemove_11 ?_
  refine j_iconst (v := 1) d_AL_fastRemove_14 (by decide) ?_
  refine j_isub d_AL_fastRemove_15 ?_
  refine j_dup d_AL_fastRemove_16 rfl ?_
  refine j_istore_n (L' := [some (.ref a0), some (.ref a1), some (.int p2), some (.int (((gI G 706 a0) - (1 : Int32))))]) d_AL_fastRemove_17 (by decide) rfl ?_
  refine j_iload_n d_AL_fastRemove_18 rfl ?_
  obtain ⟨Ha, Hb⟩ := H
  refine j_icmp_le (tgt := 34) d_AL_fastRemove_19 (by decide) (fun c11 => ?_) (fun c12 => ?_)
  · have H := Ha c11
    refine j_aload_n d_AL_fastRemove_34 rfl ?_
    refine j_aload_n d_AL_fastRemove_35 rfl ?_
    refine j_iload_n d_AL_fastRemove_36 rfl ?_
    refine j_dup_x1 d_AL_fastRemove_37 rfl rfl ?_
    refine j_putI (f := 706) fw_AL_48 rfl rfl t1 d_AL_fastRemove_38 ?_
    refine j_null d_AL_fastRemove_41 ?_
    obtain ⟨t2, H⟩ := H
    obtain ⟨n4, x3, H⟩ := H
    refine j_aastN (n := n4) t2 x3 d_AL_fastRemove_42 ?_
    exact j_vret rfl d_AL_fastRemove_43 H
  · have H := Hb c12
    refine j_aload_n d_AL_fastRemove_22 rfl ?_
    refine j_iload_n d_AL_fastRemove_23 rfl ?_
    refine j_iconst (v := 1) d_AL_fastRemove_24 (by decide) ?_
    refine j_iadd d_AL_fastRemove_25 ?_
    refine j_aload_n d_AL_fastRemove_26 rfl ?_
    refine j_iload_n d_AL_fastRemove_27 rfl ?_
    refine j_iload_n d_AL_fastRemove_28 rfl ?_
    refine j_iload_n d_AL_fastRemove_29 rfl ?_
    refine j_isub d_AL_fastRemove_30 ?_
    obtain ⟨y5, H⟩ := H
    refine j_copy y5.1 y5.2.1 y5.2.2.1 y5.2.2.2.1 y5.2.2.2.2.1 y5.2.2.2.2.2.1 y5.2.2.2.2.2.2.1 y5.2.2.2.2.2.2.2 cy_AL_112 wy1 wy2 wy3 (Nat.le_of_ble_eq_true rfl) d_AL_fastRemove_31 ?_
    refine j_aload_n d_AL_fastRemove_34 rfl ?_
    refine j_aload_n d_AL_fastRemove_35 rfl ?_
    refine j_iload_n d_AL_fastRemove_36 rfl ?_
    refine j_dup_x1 d_AL_fastRemove_37 rfl rfl ?_
    refine j_putI (f := 706) fw_AL_48 rfl rfl t1 d_AL_fastRemove_38 ?_
    show J E 1 m_AL_fastRemove 41 [some (.ref a0), some (.ref a1), some (.int p2), some (.int (((gI G 706 a0) - (1 : Int32))))] [.int (((gI G 706 a0) - (1 : Int32))), .ref a1] (sI (sW (sI G 704 a0 (((gI G 704 a0) + (1 : Int32)))) a1 (va_cpy (gO G a1) (gO G a1) ((p2 + (1 : Int32))).toNatClampNeg p2.toNatClampNeg ((((gI G 706 a0) - (1 : Int32)) - p2)).toNatClampNeg)) 706 a0 (((gI G 706 a0) - (1 : Int32)))) Post
    generalize e7 : sI (sW (sI G 704 a0 (((gI G 704 a0) + (1 : Int32)))) a1 (va_cpy (gO G a1) (gO G a1) ((p2 + (1 : Int32))).toNatClampNeg p2.toNatClampNeg ((((gI G 706 a0) - (1 : Int32)) - p2)).toNatClampNeg)) 706 a0 (((gI G 706 a0) - (1 : Int32))) = G6
    have e7 := e7.symm
    have H := H G6 e7
    refine j_null d_AL_fastRemove_41 ?_
    obtain ⟨t8, H⟩ := H
    obtain ⟨n10, x9, H⟩ := H
    refine j_aastN (n := n10) (by rw [e7]; exact t8) (IX_n (by first | (rw [e7]; done) | (rw [e7]; rfl)) x9) d_AL_fastRemove_42 ?_
    exact j_vret rfl d_AL_fastRemove_43 H
theorem wp_Ar_copyOf_0 {E : EV} {G : GH} {Post : Res → GH → Prop} (a0 : Nat) (p1 : Int32) (H : (gT G a0 = 23 ∨ gT G a0 = 26) ∧ Cl E 1 m_Ar_copyOf3 [.ref a0, .int p1, .ref ((eM E))] G (aft E 2 m_Ar_copyOf 6 [none, none] [] Post)) : J E 2 m_Ar_copyOf 0 [some (.ref a0), some (.int p1)] [] G Post := by
  refine j_aload_n d_Ar_copyOf_0 rfl ?_
  refine j_iload_n d_Ar_copyOf_1 rfl ?_
  refine j_aload_n d_Ar_copyOf_2 rfl ?_
  obtain ⟨t1, H⟩ := H
  refine j_getC t1 cg_Ar_86 wg1 wg2 wg3 wg4 (Nat.le_of_ble_eq_true rfl) d_Ar_copyOf_3 ?_
  refine j_forget (L' := [none, none]) ⟨Or.inl rfl, Or.inl rfl, trivial⟩ ?_
  exact j_callS (d' := 1) (As := [.ref a0, .int p1, .ref ((eM E))]) (rest := []) cs_Ar_300 me_Ar_copyOf3 rfl (by decide) rfl rfl (Nat.le_of_ble_eq_true rfl) d_Ar_copyOf_6 (by decide) rfl H
theorem wp_Ar_copyOf_9 {E : EV} {G : GH} {Post : Res → GH → Prop} (u0 : Nat) (H : Post (.inl (some (.ref u0))) G) : J E 2 m_Ar_copyOf 9 [none, none] [.ref u0] G Post := by
  exact j_aret (x := (some u0)) rfl rfl (Or.inr ⟨_, rfl⟩) d_Ar_copyOf_9 H
theorem wp_Ar_copyOf3_0 {E : EV} {G : GH} {Post : Res → GH → Prop} (a0 : Nat) (p1 : Int32) (a2 : Nat) (H : (¬ a2 = (eM E) → False) ∧ (a2 = (eM E) → ∃ n1, (¬ p1 < 0 ∧ (p1).toNatClampNeg = n1 ∧ n1 ≤ 100000) ∧ ∀ G3, G3 = al G 23 n1 → (20 ≤ gT G3 a0 ∧ gT G3 a0 ≤ 26) ∧ ((gT G3 a0 = 23 ∨ gT G3 a0 = 26) ∧ gT G3 ((gz G)) = 23 ∧ ¬ (0 : Int32) < 0 ∧ ¬ (0 : Int32) < 0 ∧ ¬ (if p1 < (nI (gN G3 a0)) then p1 else (nI (gN G3 a0))) < 0 ∧ ((0 : Int32)).toNatClampNeg + ((if p1 < (nI (gN G3 a0)) then p1 else (nI (gN G3 a0)))).toNatClampNeg ≤ gN G3 a0 ∧ ((0 : Int32)).toNatClampNeg + ((if p1 < (nI (gN G3 a0)) then p1 else (nI (gN G3 a0)))).toNatClampNeg ≤ gN G3 ((gz G)) ∧ (∀ i : Nat, i < ((if p1 < (nI (gN G3 a0)) then p1 else (nI (gN G3 a0)))).toNatClampNeg → ∀ v : Nat, gO G3 a0 (((0 : Int32)).toNatClampNeg + i) = some v → OB G3 v)) ∧ Post (.inl (some (.ref ((gz G))))) (sW G3 ((gz G)) (va_cpy (gO G3 a0) (gO G3 ((gz G))) ((0 : Int32)).toNatClampNeg ((0 : Int32)).toNatClampNeg ((if p1 < (nI (gN G3 a0)) then p1 else (nI (gN G3 a0)))).toNatClampNeg)))) : J E 1 m_Ar_copyOf3 0 [some (.ref a0), some (.int p1), some (.ref a2), none] [] G Post := by
  refine j_aload_n d_Ar_copyOf3_0 rfl ?_
  refine j_ldcM kl_Ar_110 d_Ar_copyOf3_1 ?_
  obtain ⟨Ha, Hb⟩ := H
  refine j_acmp_ne (tgt := 13) d_Ar_copyOf3_3 (by decide) (fun c7 => ?_) (fun c8 => ?_)
  · have H := Ha c7
    refine j_aload_n d_Ar_copyOf3_13 rfl ?_
    exact H.elim
  · have H := Hb c8
    refine j_iload_n d_Ar_copyOf3_6 rfl ?_
    obtain ⟨n1, h2, H⟩ := H
    refine j_newQ (n := n1) (t := 23) (by decide) h2.1 h2.2.1 h2.2.2 kl_Ar_2 d_Ar_copyOf3_7 ?_
    show J E 1 m_Ar_copyOf3 10 [some (.ref a0), some (.int p1), some (.ref a2), none] [.ref ((gz G))] (al G 23 n1) Post
    generalize e4 : al G 23 n1 = G3
    have e4 := e4.symm
    have H := H G3 e4
    refine j_goto (tgt := 24) d_Ar_copyOf3_10 (by decide) ?_
    refine j_astore_n (x := (some ((gz G)))) (L' := [some (.ref a0), some (.int p1), some (.ref a2), some (.ref ((gz G)))]) rfl d_Ar_copyOf3_24 (by decide) rfl ?_
    refine j_aload_n d_Ar_copyOf3_25 rfl ?_
    refine j_iconst (v := 0) d_Ar_copyOf3_26 (by decide) ?_
    refine j_aload_n d_Ar_copyOf3_27 rfl ?_
    refine j_iconst (v := 0) d_Ar_copyOf3_28 (by decide) ?_
    refine j_aload_n d_Ar_copyOf3_29 rfl ?_
    obtain ⟨t5, H⟩ := H
    refine j_alen t5 d_Ar_copyOf3_30 ?_
    refine j_iload_n d_Ar_copyOf3_31 rfl ?_
    refine j_min cm_Ar_304 wm_min1 wm_ini wm_min2 (Nat.le_of_ble_eq_true rfl) d_Ar_copyOf3_32 ?_
    obtain ⟨y6, H⟩ := H
    refine j_copy y6.1 y6.2.1 y6.2.2.1 y6.2.2.2.1 y6.2.2.2.2.1 y6.2.2.2.2.2.1 y6.2.2.2.2.2.2.1 y6.2.2.2.2.2.2.2 cy_Ar_150 wy1 wy2 wy3 (Nat.le_of_ble_eq_true rfl) d_Ar_copyOf3_35 ?_
    refine j_aload_n d_Ar_copyOf3_38 rfl ?_
    exact j_aret (x := (some ((gz G)))) rfl rfl (Or.inr ⟨_, rfl⟩) d_Ar_copyOf3_39 H
