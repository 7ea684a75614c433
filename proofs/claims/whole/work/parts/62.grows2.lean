theorem i32_antisymm {a b : Int32} (h : a ≤ b) (h' : ¬ a < b) : a = b := by
  rcases i32_tri a b with z | z | z
  · exact absurd z h'
  · exact z
  · exact absurd h (Int32.not_le.mpr z)
section GROWS2
variable {E : EV} {G : GH} {Post : Res → GH → Prop} {m : Nat} {B : Nat → Nat} {F : Nat → Int32} {T : Nat → Nat → Int32} {th : Int32} {y : XS} {Jd : List Nat} {JK : Nat}
/-- the watermark behind the look, and what becomes of the windows -/
def grX (y : XS) (R : List WT) : XS := setWn (setLk (setMk y (lkM y)) (kL (cK y) ++ R)) ((gWi (cN y)).map (emF (lkM y)))
def grR (y : XS) : List WT := ((gWi (cN y)).filter (fun w => decide (due (lkM y) w))).map (fun w => setO w 1)
theorem c_grows (hB : InjB m B) (h : MoS G m B F T) (ha : AB F T th y Jd JK) (hL : (kL (cK y)).length + (gWi (cN y)).length ≤ 3900) (hsl : ∀ s, s < 3 → gGr (cN y) s = -1 → mkfP (cN y) (cS y) s = -1)
    (k : ∀ G' R, MS G' m B th (grX y R) Jd JK → R.Perm (grR y) → MSt G m B G' → Post (.inl none) G') : Cl E 3 m_Mo_grows [.ref m] G Post := by
  obtain ⟨x1, x2, x3, x4, x5, x6, x7, x8, x9, x10, x11, x12, x13, x14, x15, x16, x17, x18⟩ := id ha
  have e18 : gI G 658 m = gMk (cN y) := (h.int 18 (by decide) (by decide)).trans x6
  have ri : ∀ s, s < 3 → gA G (B 16) s = sId (cS y) s := fun s hs => (h.rd 16 rfl s).trans (x4 s hs).2.2.2.1
  have rg : ∀ s, s < 3 → gA G (B 17) s = gGr (cN y) s := fun s hs => (h.rd 17 rfl s).trans (x5 s hs).2.2
  have rs : ∀ s, s < 3 → gA G (B 15) s = sSl (cS y) s := fun s hs => (h.rd 15 rfl s).trans (x4 s hs).2.2.1
  have ix : ∀ j, 12 ≤ j → j ≤ 17 → ∀ s, s < 3 → IX (nI s) s (gN G (B j)) := fun j h1 h2 s hs => h.ix j (by unfold aK; simp; omega) (by unfold aN; rw [if_neg (by omega), if_pos (by omega)]; exact hs)
  have m1 : ∀ s, s < 3 → -1 ≤ gGr (cN y) s - sSl (cS y) s → mkfP (cN y) (cS y) s = gGr (cN y) s - sSl (cS y) s := fun s _ hc => by
    unfold mkfP
    by_cases c : (-1 : Int32) < gGr (cN y) s - sSl (cS y) s
    · rw [if_pos c]
    · rw [if_neg c]; exact i32_antisymm hc c
  have m2 : ∀ s, s < 3 → ¬ -1 ≤ gGr (cN y) s - sSl (cS y) s → mkfP (cN y) (cS y) s = -1 := fun s _ hc => by
    unfold mkfP
    rw [if_neg (fun z => hc (Int32.le_of_lt z))]
  -- behind the look
  have fin : ∀ v, v = lkM y → Cl E 2 m_Mo_first [.ref m] (sI G 658 m v) (aft E 3 m_Mo_grows 85 [some (.ref m), none, none] [] Post) := by
    intro v hv
    have h2 := h.wI 18 v
    have ha2 : AB (up1 F 18 v) T th (setWn (setLk (setMk y v) (kL (cK y) ++ [])) (gWi (cN y))) Jd JK := by
      rw [List.append_nil]
      exact ⟨x1, x2, x3, x4, x5, rfl, x7, x8, x9, x10, x11, x12, x13, x14, x15, x16, x17, x18⟩
    have loop := grows_loop (E := E) (Post := Post) (G0 := G) (mk := v) (th := th) (y := y) (Jd := Jd) (JK := JK) (L0 := kL (cK y)) (W := gWi (cN y)) hB hL (fun G' R y1 y2 y3 => k G' R (by unfold grX; rw [← hv]; exact y1) (by unfold grR; rw [← hv]; exact y2) y3) _ (gWi (cN y)) [] (sI G 658 m v) _ T rfl h2 ha2 MSt.rf.wI rfl (List.Perm.refl _) (by simp [List.length_filter_le])
    exact c_first h2 (show up1 F 18 v 18 = v from rfl) x8 (fun z => wp_Mo_grows_88 m (-1) (loop (-1) (Or.inl ⟨rfl, z⟩))) (fun j w' hj hd' => wp_Mo_grows_88 m (nI j) (loop (nI j) (Or.inr ⟨j, w', rfl, hj, hd'⟩)))
  have loop : ∀ (d i : Nat) (p a l : Int32), d + i = 3 → ((p = -1 ∧ a = 0) ∨ ∃ f, p = nI f ∧ f < 3 ∧ a = 1 ∧ l = mkfP (cN y) (cS y) f) → lwA (sId (cS y)) (mkfP (cN y) (cS y)) d i a l = lwA (sId (cS y)) (mkfP (cN y) (cS y)) 3 0 0 (-1) → J E 3 m_Mo_grows 4 [some (.ref m), some (.int p), some (.int (nI i))] [] G Post := by
    intro d
    induction d with
    | zero =>
      intro i p a l hdi hp hl
      have ei : i = 3 := by omega
      subst ei
      refine wp_Mo_grows_4 m p 3 ⟨fun _ => ⟨fun hne => ?_, fun he => ⟨h.tg, ?_⟩⟩, fun z => absurd (by decide +kernel) z⟩
      · obtain ⟨f, e, hf, ea, el⟩ : ∃ f, p = nI f ∧ f < 3 ∧ a = 1 ∧ l = mkfP (cN y) (cS y) f := by
          rcases hp with z | z
          · exact absurd z.1 hne
          · exact z
        subst e
        have ev : lkM y = if gMk (cN y) < mkfP (cN y) (cS y) f then mkfP (cN y) (cS y) f else gMk (cN y) := by
          unfold lkM
          rw [← hl, ea, el]
          exact if_neg (show ¬ (1 : Int32) = 0 by decide +kernel)
        have leaf : ∀ v, mkfP (cN y) (cS y) f = v → (gMk (cN y) ≤ v → Cl E 2 m_Mo_first [.ref m] (sI G 658 m v) (aft E 3 m_Mo_grows 85 [some (.ref m), none, none] [] Post)) ∧ (¬ gMk (cN y) ≤ v → Cl E 2 m_Mo_first [.ref m] (sI G 658 m (gMk (cN y))) (aft E 3 m_Mo_grows 85 [some (.ref m), none, none] [] Post)) := by
          intro v hv
          rw [hv] at ev
          refine ⟨fun z => fin v ?_, fun z => fin _ ?_⟩
          · rw [ev]
            by_cases c : gMk (cN y) < v
            · rw [if_pos c]
            · rw [if_neg c]; exact (i32_antisymm z c).symm
          · rw [ev, if_neg (fun c => z (Int32.le_of_lt c))]
        refine ⟨h.tg, B 17, h.rf 17 rfl, Or.inl (h.at' 17 rfl), f, ix 17 (by decide) (by decide) f hf, ?_⟩
        rw [rg f hf, e18]
        refine ⟨fun c => ⟨B 15, h.rf 15 rfl, Or.inl (h.at' 15 rfl), f, ix 15 (by decide) (by decide) f hf, ?_⟩, fun c => leaf (-1) (hsl f hf c)⟩
        rw [rs f hf]
        exact ⟨fun c2 => leaf _ (m1 f hf c2), fun c2 => leaf _ (m2 f hf c2)⟩
      · have ea : a = 0 := by
          rcases hp with z | ⟨f, e, hf, -⟩
          · exact z.2
          · rw [e] at he; exact absurd he (nI_ne1 (by omega))
        rw [e18]
        refine fin _ ?_
        unfold lkM
        rw [← hl, ea]
        exact (if_pos rfl).symm
    | succ d ih =>
      intro i p a l hdi hp hl
      have hi : i < 3 := by omega
      have hl' : (if sId (cS y) i = 0 then lwA (sId (cS y)) (mkfP (cN y) (cS y)) d (i + 1) 1 (if a = 0 then mkfP (cN y) (cS y) i else if mkfP (cN y) (cS y) i < l then mkfP (cN y) (cS y) i else l) else lwA (sId (cS y)) (mkfP (cN y) (cS y)) d (i + 1) a l) = lwA (sId (cS y)) (mkfP (cN y) (cS y)) 3 0 0 (-1) := hl
      refine wp_Mo_grows_4 m p (nI i) ⟨fun z => absurd z (show ¬ (3 : Int32) ≤ nI i from nI_ge (b := 3) (by omega) (by omega)), fun _ => ⟨h.tg, B 16, h.rf 16 rfl, h.at' 16 rfl, i, ix 16 (by decide) (by decide) i hi, ?_⟩⟩
      rw [ri i hi, nI_1]
      refine ⟨fun hc => ?_, fun hc => ?_⟩
      · rw [if_pos hc] at hl'
        have new : (p = -1 ∨ ∃ f, p = nI f ∧ f < 3 ∧ ¬ mkfP (cN y) (cS y) f ≤ mkfP (cN y) (cS y) i) → J E 3 m_Mo_grows 4 [some (.ref m), some (.int (nI i)), some (.int (nI (i + 1)))] [] G Post := by
          intro hn
          refine ih (i + 1) (nI i) 1 (if a = 0 then mkfP (cN y) (cS y) i else if mkfP (cN y) (cS y) i < l then mkfP (cN y) (cS y) i else l) (by omega) (Or.inr ⟨i, rfl, hi, rfl, ?_⟩) hl'
          rcases hp with ⟨e, ea⟩ | ⟨f, e, hf, ea, el⟩
          · rw [if_pos ea]
          · rcases hn with hn | ⟨g, eg, hg, hn⟩
            · rw [hn] at e; exact absurd e.symm (nI_ne1 (by omega))
            · rw [e, nI_eq (by omega) (by omega)] at eg
              rw [← eg] at hn
              rw [ea, if_neg (by decide +kernel), el, if_pos (Int32.not_le.mp hn)]
        refine ⟨fun hne => ?_, fun he => new (Or.inl he)⟩
        obtain ⟨f, e, hf, ea, el⟩ : ∃ f, p = nI f ∧ f < 3 ∧ a = 1 ∧ l = mkfP (cN y) (cS y) f := by
          rcases hp with z | z
          · exact absurd z.1 hne
          · exact z
        subst e
        have keep : mkfP (cN y) (cS y) f ≤ mkfP (cN y) (cS y) i → J E 3 m_Mo_grows 4 [some (.ref m), some (.int (nI f)), some (.int (nI (i + 1)))] [] G Post := by
          intro hk
          refine ih (i + 1) (nI f) 1 (if a = 0 then mkfP (cN y) (cS y) i else if mkfP (cN y) (cS y) i < l then mkfP (cN y) (cS y) i else l) (by omega) (Or.inr ⟨f, rfl, hf, rfl, ?_⟩) hl'
          rw [ea, if_neg (by decide +kernel), el, if_neg (Int32.not_lt.mpr hk)]
        have leaf : ∀ vf vi, mkfP (cN y) (cS y) f = vf → mkfP (cN y) (cS y) i = vi → (vf ≤ vi → J E 3 m_Mo_grows 4 [some (.ref m), some (.int (nI f)), some (.int (nI (i + 1)))] [] G Post) ∧ (¬ vf ≤ vi → J E 3 m_Mo_grows 4 [some (.ref m), some (.int (nI i)), some (.int (nI (i + 1)))] [] G Post) := by
          intro vf vi h1 h2
          rw [← h1, ← h2]
          exact ⟨keep, fun z => new (Or.inr ⟨f, rfl, hf, z⟩)⟩
        have low : mkfP (cN y) (cS y) f = -1 → mkfP (cN y) (cS y) i = -1 → J E 3 m_Mo_grows 4 [some (.ref m), some (.int (nI f)), some (.int (nI (i + 1)))] [] G Post := fun h1 h2 => keep (by rw [h1, h2]; exact Int32.le_refl _)
        refine ⟨B 17, h.rf 17 rfl, Or.inl (h.at' 17 rfl), i, ix 17 (by decide) (by decide) i hi, ?_⟩
        rw [rg i hi]
        refine ⟨fun g1 => ⟨B 15, h.rf 15 rfl, Or.inl (h.at' 15 rfl), i, ix 15 (by decide) (by decide) i hi, ?_⟩, fun g1 => ⟨f, ix 17 (by decide) (by decide) f hf, ?_⟩⟩
        · rw [rs i hi]
          refine ⟨fun d1 => ⟨f, ix 17 (by decide) (by decide) f hf, ?_⟩, fun d1 => ⟨f, ix 17 (by decide) (by decide) f hf, ?_⟩⟩
          · rw [rg f hf]
            refine ⟨fun g2 => ⟨f, ix 15 (by decide) (by decide) f hf, ?_⟩, fun g2 => leaf _ _ (hsl f hf g2) (m1 i hi d1)⟩
            rw [rs f hf]
            exact ⟨fun d2 => leaf _ _ (m1 f hf d2) (m1 i hi d1), fun d2 => leaf _ _ (m2 f hf d2) (m1 i hi d1)⟩
          · rw [rg f hf]
            refine ⟨fun g2 => ⟨f, ix 15 (by decide) (by decide) f hf, ?_⟩, fun g2 => low (hsl f hf g2) (m2 i hi d1)⟩
            rw [rs f hf]
            exact ⟨fun d2 => leaf _ _ (m1 f hf d2) (m2 i hi d1), fun d2 => low (m2 f hf d2) (m2 i hi d1)⟩
        · rw [rg f hf]
          refine ⟨fun g2 => ⟨B 15, h.rf 15 rfl, Or.inl (h.at' 15 rfl), f, ix 15 (by decide) (by decide) f hf, ?_⟩, fun g2 => low (hsl f hf g2) (hsl i hi g1)⟩
          rw [rs f hf]
          exact ⟨fun d2 => leaf _ _ (m1 f hf d2) (hsl i hi g1), fun d2 => low (m2 f hf d2) (hsl i hi g1)⟩
      · rw [if_neg hc] at hl'
        exact ih (i + 1) p a l (by omega) hp hl'
  refine j_enter (L := [some (.ref m), none, none]) me_Mo_grows (cat_c rfl cat_n) (Nat.le_of_ble_eq_true rfl) rfl (wp_Mo_grows_0 m ?_)
  exact loop 3 0 (-1) 0 (-1) rfl (Or.inl ⟨rfl, rfl⟩) rfl
end GROWS2
