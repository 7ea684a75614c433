section MOINIT2
variable {E : EV} {Post : Res → GH → Prop}
theorem IM.two {G0 G : GH} {o0 : Nat → Nat} {m n g : Nat} {F : Nat → Int32} (h : IM G0 o0 m G n F g) {pc k k2 t l t2 l2 : Nat} (hk : k < 58) (ha : aK k = true) (hp : pK k = n) (ht : aG k = t) (hl : aN k = l) (hk2 : k2 < 58) (ha2 : aK k2 = true) (hp2 : pK k2 = n + 1) (ht2 : aG k2 = t2) (hl2 : aN k2 = l2)
    (K : ∀ G', IM G0 o0 m G' (n + 2) F (g + l + l2) → J E 1 m_Mo_init pc [some (.ref m), none] [] G' Post) : ∀ G1, G1 = al G t l → gT G1 m = 11 ∧ ∀ G4, G4 = al (sR G1 (640 + k) m (some (gz G))) t2 l2 → gT G4 m = 11 ∧ J E 1 m_Mo_init pc [some (.ref m), none] [] (sR G4 (640 + k2) m (some (gz G1))) Post := by
  intro G1 h1
  have hm : m ≠ gz G := by have := h.2.2.1; omega
  subst h1
  refine ⟨by rw [gT_al, if_neg hm]; exact h.tg, fun G4 h4 => ?_⟩
  have y := h.row hk ha hp ht hl
  subst h4
  have z := y.row hk2 ha2 hp2 ht2 hl2
  refine ⟨z.tg, K _ z⟩
theorem IM.one {G0 G : GH} {o0 : Nat → Nat} {m n g : Nat} {F : Nat → Int32} (h : IM G0 o0 m G n F g) {pc k t l f : Nat} {v : Int32} (hk : k < 58) (ha : aK k = true) (hp : pK k = n) (ht : aG k = t) (hl : aN k = l)
    (K : ∀ G', IM G0 o0 m G' (n + 1) (up1 F f v) (g + l) → J E 1 m_Mo_init pc [some (.ref m), none] [] G' Post) : ∀ G1, G1 = al G t l → gT G1 m = 11 ∧ J E 1 m_Mo_init pc [some (.ref m), none] [] (sI (sR G1 (640 + k) m (some (gz G))) (640 + f) m v) Post := by
  intro G1 h1
  have hm : m ≠ gz G := by have := h.2.2.1; omega
  subst h1
  exact ⟨by rw [gT_al, if_neg hm]; exact h.tg, K _ ((h.row hk ha hp ht hl).wI f v)⟩
theorem mo_rows {G0 G : GH} {o0 : Nat → Nat} {m g : Nat} {F : Nat → Int32} (h : IM G0 o0 m G 0 F g) (K : ∀ G', IM G0 o0 m G' 34 (up1 (up1 F 18 (-1)) 55 (-1)) (g + 36673) → J E 1 m_Mo_init 326 [some (.ref m), none] [] G' Post) : J E 1 m_Mo_init 36 [some (.ref m), none] [] G Post := by
  refine wp_Mo_init_36 m (IM.two (k := 9) (k2 := 10) h (by decide) rfl rfl rfl rfl (by decide) rfl rfl rfl rfl (fun G36 h36 => ?_))
  refine wp_Mo_init_52 m (IM.two (k := 11) (k2 := 12) h36 (by decide) rfl rfl rfl rfl (by decide) rfl rfl rfl rfl (fun G52 h52 => ?_))
  refine wp_Mo_init_67 m (IM.two (k := 13) (k2 := 14) h52 (by decide) rfl rfl rfl rfl (by decide) rfl rfl rfl rfl (fun G67 h67 => ?_))
  refine wp_Mo_init_81 m (IM.two (k := 15) (k2 := 16) h67 (by decide) rfl rfl rfl rfl (by decide) rfl rfl rfl rfl (fun G81 h81 => ?_))
  refine wp_Mo_init_95 m (IM.one (k := 17) (f := 18) (v := -1) h81 (by decide) rfl rfl rfl rfl (fun G95 h95 => ?_))
  refine wp_Mo_init_107 m (IM.two (k := 21) (k2 := 22) h95 (by decide) rfl rfl rfl rfl (by decide) rfl rfl rfl rfl (fun G107 h107 => ?_))
  refine wp_Mo_init_121 m (IM.two (k := 23) (k2 := 24) h107 (by decide) rfl rfl rfl rfl (by decide) rfl rfl rfl rfl (fun G121 h121 => ?_))
  refine wp_Mo_init_139 m (IM.two (k := 25) (k2 := 26) h121 (by decide) rfl rfl rfl rfl (by decide) rfl rfl rfl rfl (fun G139 h139 => ?_))
  refine wp_Mo_init_157 m (IM.two (k := 27) (k2 := 28) h139 (by decide) rfl rfl rfl rfl (by decide) rfl rfl rfl rfl (fun G157 h157 => ?_))
  refine wp_Mo_init_175 m (IM.two (k := 30) (k2 := 32) h157 (by decide) rfl rfl rfl rfl (by decide) rfl rfl rfl rfl (fun G175 h175 => ?_))
  refine wp_Mo_init_192 m (IM.two (k := 34) (k2 := 35) h175 (by decide) rfl rfl rfl rfl (by decide) rfl rfl rfl rfl (fun G192 h192 => ?_))
  refine wp_Mo_init_210 m (IM.two (k := 36) (k2 := 37) h192 (by decide) rfl rfl rfl rfl (by decide) rfl rfl rfl rfl (fun G210 h210 => ?_))
  refine wp_Mo_init_228 m (IM.two (k := 38) (k2 := 39) h210 (by decide) rfl rfl rfl rfl (by decide) rfl rfl rfl rfl (fun G228 h228 => ?_))
  refine wp_Mo_init_246 m (IM.two (k := 45) (k2 := 46) h228 (by decide) rfl rfl rfl rfl (by decide) rfl rfl rfl rfl (fun G246 h246 => ?_))
  refine wp_Mo_init_264 m (IM.two (k := 47) (k2 := 48) h246 (by decide) rfl rfl rfl rfl (by decide) rfl rfl rfl rfl (fun G264 h264 => ?_))
  refine wp_Mo_init_282 m (IM.two (k := 49) (k2 := 50) h264 (by decide) rfl rfl rfl rfl (by decide) rfl rfl rfl rfl (fun G282 h282 => ?_))
  refine wp_Mo_init_300 m (IM.two (k := 52) (k2 := 53) h282 (by decide) rfl rfl rfl rfl (by decide) rfl rfl rfl rfl (fun G300 h300 => ?_))
  refine wp_Mo_init_314 m (IM.one (k := 54) (f := 55) (v := -1) h300 (by decide) rfl rfl rfl rfl (fun G314 h314 => ?_))
  exact K _ (by have e : g + 120 + 120 + 120 + 3 + 3 + 3 + 3 + 3 + 3 + 3 + 3 + 1000 + 1000 + 1000 + 1000 + 1000 + 1000 + 200 + 80 + 4000 + 4000 + 4000 + 4000 + 4000 + 4000 + 1000 + 1000 + 1000 + 1000 + 1000 + 1000 + 3 + 3 + 3 = g + 36673 := by omega
                rw [← e]; exact h314)
def F0M : Nat → Int32 := up1 (up1 (up1 (up1 (up1 (up1 (up1 (up1 (fun _ => 0) 1 0) 2 10) 3 10) 5 5) 6 1) 7 1) 18 (-1)) 55 (-1)
/-- a new reference -/
theorem c_Mo_init {G0 G : GH} {o0 : Nat → Nat} {m g : Nat} (h : IM G0 o0 m G 0 (fun _ => 0) g)
    (K : ∀ G' o', MS G' m (bM m) 0 X0 [] 0 → Stq [m] G0 o0 G' o' → (∀ q, m ≤ q → q < gz G' → o' q = m) → gz G' = m + 35 → gs G' = g + 36673 → Post (.inl none) G') : Cl E 1 m_Mo_init [.ref m] G Post := by
  refine j_enter (L := [some (.ref m), none]) me_Mo_init (cat_c rfl cat_n) (Nat.le_of_ble_eq_true rfl) rfl (wp_Mo_init_0 m ⟨h.tg, wp_Mo_init_15 m ⟨h.tg, wp_Mo_init_26 m ⟨h.tg, ?_⟩⟩⟩)
  refine mo_rows ((((((h.wI 1 0).wI 2 10).wI 3 10).wI 5 5).wI 6 1).wI 7 1) (fun G1 h1 => wp_Mo_init_326 m ?_)
  have hB := injM m
  have hB' : ∀ (G2 : GH) (d q : Nat) (T : Nat → Nat → Int32), d + q = 3 → MoS G2 m (bM m) F0M T → MSt G1 m (bM m) G2 → (∀ k i, ¬ (k = 17 ∨ k = 54) → T k i = 0) → (∀ i, i < q → T 17 i = -1 ∧ T 54 i = -1) → J E 1 m_Mo_init 328 [some (.ref m), some (.int (nI q))] [] G2 Post := by
    intro G2 d
    induction d generalizing G2 with
    | zero =>
      intro q T hq y1 y2 y3 y4
      have e : q = 3 := by omega
      subst e
      refine wp_Mo_init_328 m 3 ⟨fun _ => ?_, fun z => absurd (by decide +kernel) z⟩
      obtain ⟨⟨o, s, ho⟩, t, z, qq, r, f⟩ := h1
      have own : ∀ q', q' < gz G1 → Stq [m] G1 o G2 o := fun _ _ => ?_
      · have sg := own m (by omega)
        refine K G2 o ⟨F0M, T, y1, rfl, ⟨rfl, rfl, rfl, rfl, rfl, rfl⟩, ⟨rfl, rfl, rfl, rfl⟩, fun s hs => ⟨y3 12 s (by decide), Nat.zero_le _, y3 15 s (by decide), y3 16 s (by decide), fun i v hv => absurd hv (by simp [sEv, X0, cS, sc0])⟩, fun s hs => ⟨y3 13 s (by decide), y3 14 s (by decide), (y4 s hs).1⟩, rfl, rfl, ⟨rfl, by decide, fun i w hw => absurd hw (by simp [gWi, X0, cN, P0])⟩, ⟨rfl, by decide, fun i w hw => absurd hw (by simp)⟩, fun s hs => ⟨y3 52 s (by decide), y3 53 s (by decide), (y4 s hs).2⟩, rfl, rfl, ⟨rfl, by decide, fun i w hw => absurd hw (by simp [gWi, X0, cP, P0])⟩, rfl, ⟨rfl, by decide, fun i w hw => absurd hw (by simp [kL, X0, cK])⟩, rfl, rfl, rfl, fun s hs => ⟨y3 21 s (by decide), y3 22 s (by decide)⟩⟩ (s.tr sg) (fun q h1 h2 => ho q h1 (by rw [y2.1] at h2; exact h2)) (by rw [y2.1, z]) (by rw [y2.2.1, qq])
      · refine ⟨fun q hq => ?_, Nat.le_of_eq y2.1.symm, fun q hq => ⟨⟨rfl, y2.2.2.1 q, y2.2.2.2.1 q⟩, fun hn => y2.2.2.2.2.2 q (fun c => ?_) (fun k hk c => ?_)⟩⟩
        · rw [y2.1]; exact s.wf q (by rw [← y2.2.2.1 q]; exact hq)
        · rw [c, ho m (Nat.le_refl _) (by omega)] at hn; exact hn in1
        · have := (pK_lt k (aK_lt hk) hk).1
          rw [c, ho (bM m k) (by unfold bM; omega) (by unfold bM; omega)] at hn; exact hn in1
    | succ d ih =>
      intro q T hq y1 y2 y3 y4
      have hq3 : q < 3 := by omega
      refine wp_Mo_init_328 m (nI q) ⟨fun z => absurd z (show ¬ (3 : Int32) ≤ nI q from nI_ge (b := 3) (by omega) (by omega)), fun _ => ⟨y1.tg, bM m 17, y1.rf 17 rfl, y1.at' 17 rfl, q, y1.ix 17 rfl hq3, bM m 54, y1.rf 54 rfl, y1.at' 54 rfl, q, y1.ix 54 rfl hq3, ?_⟩⟩
      rw [nI_1 q]
      refine ih _ (q + 1) _ (by omega) ((y1.wA hB 17 q (-1) rfl).wA hB 54 q (-1) rfl) ((y2.wA rfl).wA rfl) (fun k i hk => ?_) (fun i hi => ?_)
      · show up2 (up2 T 17 q (-1)) 54 q (-1) k i = 0
        unfold up2
        rw [if_neg (by omega), if_neg (by omega)]
        exact y3 k i hk
      · by_cases c : i = q
        · rw [c]; exact ⟨u2, u2⟩
        · obtain ⟨a1, a2⟩ := y4 i (by omega)
          exact ⟨(u2n c).trans a1, (u2n c).trans a2⟩
  refine hB' G1 3 0 (fun _ _ => 0) rfl ⟨⟨h1.2.1, fun k hk => ?_⟩, fun k hk _ => h1.2.2.2.2.2 k hk, fun k hk i => ?_⟩ MSt.rf (fun _ _ _ => rfl) (fun i hi => absurd hi (Nat.not_lt_zero _))
  · have p := pK_lt k (aK_lt hk) hk
    obtain ⟨a1, a2, a3, -⟩ := h1.2.2.2.2.1 k (aK_lt hk) hk p.1
    exact ⟨a1, a2, a3⟩
  · have p := pK_lt k (aK_lt hk) hk
    exact (h1.2.2.2.2.1 k (aK_lt hk) hk p.1).2.2.2 i
end MOINIT2
