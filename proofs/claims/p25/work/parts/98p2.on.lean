/-! walks of the law; printed by wip/gen/law25.py -/
theorem kh_La_IO : Cond.classLink "SnowmeltStreamsLaw" 39 "java/lang/IndexOutOfBoundsException" ∈ gw := (gw_t3 137 (by decide +kernel) rfl)
theorem kh_La_IA : Cond.classLink "SnowmeltStreamsLaw" 41 "java/lang/IllegalArgumentException" ∈ gw := (gw_t3 138 (by decide +kernel) rfl)
theorem kh_La_IS : Cond.classLink "SnowmeltStreamsLaw" 43 "java/lang/IllegalStateException" ∈ gw := (gw_t3 139 (by decide +kernel) rfl)
theorem wp_La_on_0 {E : EV} {G : GH} {Post : Res → GH → Prop} (a0 : Nat) (p1 : Int32) (p2 : Int32) (p3 : Int32) (p4 : Int32) (p5 : Int32) (H : Cl E 13 m_La_asks [.ref a0, .int p1, .int p2, .int p3, .int p4, .int p5] G (aftH2 E 14 m_La_on 8 [none, none, none, none, none, none, none] [] Post)) : J E 14 m_La_on 0 [some (.ref a0), some (.int p1), some (.int p2), some (.int p3), some (.int p4), some (.int p5), none] [] G Post := by
  refine j_aload_n d_La_on_0 rfl ?_
  refine j_iload_n d_La_on_1 rfl ?_
  refine j_iload_n d_La_on_2 rfl ?_
  refine j_iload_n d_La_on_3 rfl ?_
  refine j_iload d_La_on_4 rfl ?_
  refine j_iload d_La_on_6 rfl ?_
  refine j_forget (L' := [none, none, none, none, none, none, none]) ⟨Or.inl rfl, Or.inl rfl, Or.inl rfl, Or.inl rfl, Or.inl rfl, Or.inl rfl, Or.inl rfl, trivial⟩ ?_
  exact j_callSH (d' := 13) (As := [.ref a0, .int p1, .int p2, .int p3, .int p4, .int p5]) (rest := []) rfl cs_La_33 me_La_asks rfl (by decide) rfl rfl (Nat.le_of_ble_eq_true rfl) d_La_on_8 (by decide) H
theorem wp_La_on_11 {E : EV} {G : GH} {Post : Res → GH → Prop} (s0 : Int32) (H : Post (.inl (some (.int s0))) G) : J E 14 m_La_on 11 [none, none, none, none, none, none, none] [.int s0] G Post := by
  exact j_iret rfl d_La_on_11 H
