theorem c_frontOf {E : EV} {G : GH} {Post : Res → GH → Prop} {o : Nat → Nat} {x sr pn tk ao sc le c s t f : Nat} {evs : List Nat} (hx : gT G x = 10) (h578 : gR G 578 x = some pn) (hpn : gT G pn = 5) (h257 : gR G 257 pn = some tk) (htk : A3 G o pn tk) (h577 : gR G 577 x = some sr) (hsr : gT G sr = 24) (hsn : gN G sr = 3) (hs : s < 3) (hso : gO G sr s = some sc) (hsc : gT G sc = 7) (h384 : gR G 384 sc = some le) (h256 : gR G 256 pn = some ao) (hao : A3 G o pn ao) (hle : LA E G o le evs c) (hev : ∀ e ∈ evs, gT G e = 2) (ht : gA G tk s = nI t) (hf : gA G ao s = nI f) (htb : t ≤ 1000) (hfb : f ≤ evs.length)
    (k1 : t < f → ∀ b, evs[t]? = some b → gT G b = 2 → Post (.inl (some (va_rf (some b)))) G) (k2 : f ≤ t → Post (.inl (some (va_rf none))) G) : Cl E 4 m_St_frontOf [.ref x, .int (nI s)] G Post := by
  have hc := hle.le
  refine j_enter (L := [some (.ref x), some (.int (nI s)), none, none]) me_St_frontOf (cat_c rfl (cat_c rfl cat_n)) (Nat.le_of_ble_eq_true rfl) rfl (wp_St_frontOf_0 x (nI s) ⟨hx, pn, h578, hpn, tk, h257, Or.inl htk.1, s, IX.nI (by rw [htk.2.1]; exact hs) (by rw [htk.2.1]; omega), sr, h577, Or.inr hsr, s, IX.nI (by rw [hsn]; exact hs) (by rw [hsn]; omega), sc, hso, hsc, le, h384, ?_⟩)
  rw [ht]
  refine ⟨fun z => absurd z (nI_pos (by omega)), fun _ => ⟨ao, h256, Or.inl hao.1, s, IX.nI (by rw [hao.2.1]; exact hs) (by rw [hao.2.1]; omega), ?_⟩⟩
  rw [hf, nI_leI (by omega) (by omega)]
  refine ⟨k2, fun hlt => ⟨hle.tg, ?_⟩⟩
  rw [hle.sz, nI_leI (by omega) (by omega)]
  obtain ⟨b, hb⟩ : ∃ b, evs[t]? = some b := ⟨_, List.getElem?_eq_getElem (by omega)⟩
  have tb := hev b (List.mem_of_getElem? hb)
  exact ⟨fun z => absurd z (by omega), fun _ => ⟨b, hle.lg hb, tb, k1 (by omega) b hb tb⟩⟩
