/-! a pool entry more, printed by wip/gen/evid.py -/
theorem fe_AbL_7 : FE "java/util/AbstractList" 7 11 0 := ⟨_, _, _, "java/util/AbstractList", rfl, by decide, (gw_t1 98 (by decide +kernel) rfl), Or.inl rfl⟩
theorem fw_AbL_7 : FW "java/util/AbstractList" 7 11 0 := ⟨_, _, _, "java/util/AbstractList", rfl, by decide, (gw_t1 98 (by decide +kernel) rfl), Or.inl rfl, rfl⟩
