section COMES3
variable {E : EV} {G : GH} {Post : Res → GH → Prop} {m : Nat} {B : Nat → Nat} {F : Nat → Int32} {T : Nat → Nat → Int32} {th : Int32} {y : XS} {Jd : List Nat} {JK : Nat}
theorem take_snoc {α : Type} {L : List α} {i : Nat} {b : α} (h : L[i]? = some b) : L.take (i + 1) = L.take i ++ [b] := by
  rw [List.take_add_one, h]; rfl
theorem nodup_take {α : Type} {L : List α} {i : Nat} {b : α} (hn : L.Nodup) (h : L[i]? = some b) : b ∉ L.take i := fun z => by
  obtain ⟨j, hj, he⟩ := List.getElem_of_mem z
  have il := (List.getElem?_eq_some_iff.mp h).1
  rw [List.length_take] at hj
  rw [List.getElem_take] at he
  have e1 : L[j]? = some b := by rw [List.getElem?_eq_getElem (by omega), he]
  have := (List.getElem?_inj (by omega) hn).mp (e1.trans h.symm)
  omega
/-- hits: the windows of the beginnings ss -/
def HM (key : Int32) (W1 : List WT) (ss : List Int32) (H : List Nat) : Prop := H.length = ss.length ∧ ∀ (j i : Nat) (s : Int32), H[j]? = some i → ss[j]? = some s → ∃ w, W1[i]? = some w ∧ isW key s w
theorem addV_O {w : WT} {v : Int32} : wO (addV w v) = wO w := rfl
theorem aW.addV {n : Int32} {W : List WT} {i : Nat} {w : WT} {v a b : Int32} (h : aW n T 23 W) (hi : W[i]? = some w) (ha : a = wC w + 1) (hb : b = wM w + v) : aW n (up2 (up2 T 26 i a) 27 i b) 23 (W.set i (addV w v)) := by
  refine ⟨by rw [List.length_set]; exact h.1, by rw [List.length_set]; exact h.2.1, fun j u hu => ?_⟩
  rw [List.getElem?_set] at hu
  have il := (List.getElem?_eq_some_iff.mp hi).1
  by_cases c : i = j
  · rw [if_pos c, if_pos (by omega)] at hu
    cases hu
    obtain ⟨q1, q2, q3, q4, q5, q6, q7⟩ := h.2.2 i w hi
    rw [← c]
    exact ⟨q1, q2, q3, u2.trans ha, u2.trans hb, q6, q7⟩
  · rw [if_neg c] at hu
    obtain ⟨q1, q2, q3, q4, q5, q6, q7⟩ := h.2.2 j u hu
    exact ⟨q1, q2, q3, (u2n (fun z => c z.symm)).trans q4, (u2n (fun z => c z.symm)).trans q5, q6, q7⟩
/-- the third loop: values are added, results emitted again -/
theorem comes_3 {key v : Int32} {W1 : List WT} {ss : List Int32} {H : List Nat} {L : List WT} {e : Nat} {G0 : GH} (hB : InjB m B) (hu : UQ W1) (hnd : ss.Nodup) (hH : HM key W1 ss H) (he : e < 120) (hs8 : ss.length ≤ 8) (hL : L.length + 8 ≤ 3890) (hl : W1.length ≤ 990)
    (k : ∀ G', MS G' m B th (setWn (setLk y (L ++ cmR2 key v W1 ss)) (cmW key v W1 ss)) Jd JK → MSt G0 m B G' → Post (.inl (some (.int (nI ss.length)))) G') :
    ∀ (d i : Nat) (G : GH) (F : Nat → Int32) (T : Nat → Nat → Int32), d + i = ss.length → MoS G m B F T → AB F T th (setWn (setLk y (L ++ cmR2 key v W1 (ss.take i))) (cmW key v W1 (ss.take i))) Jd JK → HT F T H → T 11 e = v → MSt G0 m B G → (cmR2 key v W1 (ss.take i)).length ≤ i → J E 2 m_Mo_comes 182 [some (.ref m), some (.int (nI e)), none, none, some (.int (nI i))] [] G Post := by
  intro d
  induction d with
  | zero =>
    intro i G F T hdi h ha ht hv hst hlen
    have ei : i = ss.length := by omega
    refine wp_Mo_comes_182 m (nI e) (nI i) ⟨h.tg, ?_⟩
    rw [show gI G 671 m = nI H.length from (h.int 31 (by decide) (by decide)).trans ht.1, hH.1, nI_leI (by omega) (by omega)]
    refine ⟨fun _ => k G ?_ hst, fun z => absurd (by omega) z⟩
    rw [ei, List.take_length] at ha
    exact ⟨F, T, h, ha⟩
  | succ d ih =>
    intro i G F T hdi h ha ht hv hst hlen
    obtain ⟨s, hs⟩ : ∃ s, ss[i]? = some s := ⟨_, List.getElem?_eq_getElem (by omega)⟩
    obtain ⟨a, hi⟩ : ∃ a, H[i]? = some a := ⟨_, List.getElem?_eq_getElem (by have := hH.1; omega)⟩
    obtain ⟨w, hw, hk⟩ := hH.2 i a s hi hs
    have nt := nodup_take hnd hs
    obtain ⟨c1, c2⟩ := cmW_step (v := v) hu hw hk nt
    have il := (List.getElem?_eq_some_iff.mp hw).1
    have hW : aW (F 29) T 23 (cmW key v W1 (ss.take i)) := ha.2.2.2.2.2.2.2.1
    obtain ⟨q1, q2, q3, q4, q5, q6, q7⟩ := hW.2.2 a w c1
    have ix : ∀ j, 23 ≤ j → j ≤ 28 → IX (nI a) a (gN G (B j)) := fun j h1 h2 => h.ix j (by unfold aK; simp; omega) (by unfold aN; rw [if_neg (by omega), if_neg (by omega), if_pos (by omega)]; omega)
    have ih8 : IX (nI i) i (gN G (B 30)) := h.ix 30 rfl (by unfold aN; simp; omega)
    have e30 : gA G (B 30) i = nI a := (h.rd 30 rfl i).trans (ht.2 i a hi)
    refine wp_Mo_comes_182 m (nI e) (nI i) ⟨h.tg, ?_⟩
    rw [show gI G 671 m = nI H.length from (h.int 31 (by decide) (by decide)).trans ht.1, hH.1, nI_leI (by omega) (by omega), nI_1 i]
    refine ⟨fun z => absurd z (by omega), fun _ => ⟨B 26, h.rf 26 rfl, B 30, h.rf 30 rfl, Or.inl (h.at' 30 rfl), i, ih8, Or.inl (h.at' 26 rfl), ?_⟩⟩
    rw [e30]
    have e26 : gA G (B 26) a = wC w := (h.rd 26 rfl a).trans q4
    have h1 := h.wA hB 26 a (wC w + 1) rfl
    have e30' : gA (sA G (B 26) a (wC w + 1)) (B 30) i = nI a := (h1.rd 30 rfl i).trans (ht.2 i a hi)
    refine ⟨a, ix 26 (by decide) (by decide), h.at' 26 rfl, B 27, h.rf 27 rfl, Or.inl (h.at' 27 rfl), ?_⟩
    rw [e26, e30']
    have e27 : gA (sA G (B 26) a (wC w + 1)) (B 27) a = wM w := (h1.rd 27 rfl a).trans q5
    have e11 : gA (sA G (B 26) a (wC w + 1)) (B 11) e = v := (h1.rd 11 rfl e).trans hv
    refine ⟨a, ix 27 (by decide) (by decide), B 11, h.rf 11 rfl, Or.inl (h.at' 11 rfl), e, h.ix 11 rfl (by unfold aN; simp; omega), h.at' 27 rfl, ?_⟩
    rw [e27, e11]
    intro G24 hG24
    have h2 : MoS G24 m B F (up2 (up2 T 26 a (wC w + 1)) 27 a (wM w + v)) := hG24 ▸ h1.wA hB 27 a (wM w + v) rfl
    have s2 : MSt G0 m B G24 := hG24 ▸ ((hst.wA rfl).wA rfl)
    clear hG24
    have hW2 : aW (F 29) (up2 (up2 T 26 a (wC w + 1)) 27 a (wM w + v)) 23 (cmW key v W1 (ss.take (i + 1))) := by
      rw [take_snoc hs, c2]
      exact hW.addV c1 rfl rfl
    obtain ⟨x1, x2, x3, x4, x5, x6, x7, x8, x9, x10, x11, x12, x13, x14, x15, x16, x17, x18⟩ := ha
    have ha2 : AB F (up2 (up2 T 26 a (wC w + 1)) 27 a (wM w + v)) th (setWn (setLk y (L ++ cmR2 key v W1 (ss.take i))) (cmW key v W1 (ss.take (i + 1)))) Jd JK :=
      ⟨x1, x2, x3, x4, x5, x6, x7, hW2, x9, x10, x11, x12, x13, x14, x15, x16, x17, x18⟩
    have ht2 : HT F (up2 (up2 T 26 a (wC w + 1)) 27 a (wM w + v)) H := ht
    have hv2 : up2 (up2 T 26 a (wC w + 1)) 27 a (wM w + v) 11 e = v := hv
    generalize up2 (up2 T 26 a (wC w + 1)) 27 a (wM w + v) = T2 at *
    have f1 := filt_one hu (List.mem_of_getElem? hw) hk
    have r2 : cmR2 key v W1 (ss.take (i + 1)) = cmR2 key v W1 (ss.take i) ++ (if wO w = 0 then [] else [setO (addV w v) 1]) := by
      rw [take_snoc hs]
      unfold cmR2
      rw [List.flatMap_append, List.flatMap_singleton, f1, List.flatMap_singleton]
    have cw : (cmW key v W1 (ss.take (i + 1)))[a]? = some (addV w v) := by
      rw [take_snoc hs, c2, List.getElem?_set_self]
      exact (List.getElem?_eq_some_iff.mp c1).1
    obtain ⟨p1, p2, p3, p4, p5, p6, p7⟩ := hW2.2.2 a _ cw
    have p6 : T2 28 a = wO w := p6
    refine ⟨B 28, h2.rf 28 rfl |> fun z => (hst.2.2.2.2.1 _ _ ▸ h.rf 28 rfl), h.at' 28 rfl, ?_⟩
    rw [show gA G24 (B 30) i = nI a from (h2.rd 30 rfl i).trans (ht2.2 i a hi)]
    refine ⟨a, ix 28 (by decide) (by decide), ?_⟩
    rw [show gA G24 (B 28) a = wO w from (h2.rd 28 rfl a).trans p6]
    refine ⟨fun z => ?_, fun z => ?_⟩
    · rw [if_pos z, List.append_nil] at r2
      refine ih (i + 1) G24 F T2 (by omega) h2 (by rw [r2]; exact ha2) ht2 hv2 s2 (by rw [r2]; omega)
    · rw [if_neg z] at r2
      refine c_sends hB h2 ha2 (by omega) ⟨p1, p2, p3, p4, p5⟩ (Or.inl rfl) ?_ (fun G3 F3 T3 h3 s3 a3 t3 f3 => wp_Mo_comes_255 m (nI e) (nI i) ?_)
      · show (L ++ cmR2 key v W1 (ss.take i)).length < 3900
        rw [List.length_append]; omega
      rw [nI_1 i]
      refine ih (i + 1) G3 F3 T3 (by omega) h3 ?_ ⟨(f3 31 (by decide)).trans ht2.1, fun j q hq => (congrFun (t3 30 (by decide)) j).trans (ht2.2 j q hq)⟩ ((congrFun (t3 11 (by decide)) e).trans hv2) (s2.tr s3) (by rw [r2, List.length_append]; simp; omega)
      rw [r2, ← List.append_assoc]
      exact a3
/-- the second loop: what was emitted is taken back -/
theorem comes_2 {key v : Int32} {W1 : List WT} {ss : List Int32} {H : List Nat} {L : List WT} {e : Nat} {G0 : GH} (hB : InjB m B) (hu : UQ W1) (hnd : ss.Nodup) (hH : HM key W1 ss H) (he : e < 120) (hs8 : ss.length ≤ 8) (hL : L.length + 16 ≤ 3890) (hl : W1.length ≤ 990)
    (k : ∀ G', MS G' m B th (setWn (setLk y ((L ++ cmR1 key W1 ss) ++ cmR2 key v W1 ss)) (cmW key v W1 ss)) Jd JK → MSt G0 m B G' → Post (.inl (some (.int (nI ss.length)))) G') :
    ∀ (d i : Nat) (G : GH) (F : Nat → Int32) (T : Nat → Nat → Int32), d + i = ss.length → MoS G m B F T → AB F T th (setWn (setLk y (L ++ cmR1 key W1 (ss.take i))) W1) Jd JK → HT F T H → T 11 e = v → MSt G0 m B G → (cmR1 key W1 (ss.take i)).length ≤ i → J E 2 m_Mo_comes 137 [some (.ref m), some (.int (nI e)), none, none, some (.int (nI i))] [] G Post := by
  intro d
  induction d with
  | zero =>
    intro i G F T hdi h ha ht hv hst hlen
    have ei : i = ss.length := by omega
    refine wp_Mo_comes_137 m (nI e) (nI i) ⟨h.tg, ?_⟩
    rw [show gI G 671 m = nI H.length from (h.int 31 (by decide) (by decide)).trans ht.1, hH.1, nI_leI (by omega) (by omega)]
    refine ⟨fun _ => ?_, fun z => absurd (by omega) z⟩
    rw [ei, List.take_length] at ha hlen
    refine comes_3 (L := L ++ cmR1 key W1 ss) hB hu hnd hH he hs8 (by rw [List.length_append]; omega) hl k ss.length 0 G F T rfl h ?_ ht hv hst (Nat.le_refl 0)
    have e1 : cmR2 key v W1 (ss.take 0) = [] := rfl
    have e2 : cmW key v W1 (ss.take 0) = W1 := by
      unfold cmW
      conv => rhs; rw [← List.map_id W1]
      exact List.map_congr_left (fun w _ => if_neg (fun z => absurd z.2 List.not_mem_nil))
    rw [e1, e2, List.append_nil]
    exact ha
  | succ d ih =>
    intro i G F T hdi h ha ht hv hst hlen
    obtain ⟨s, hs⟩ : ∃ s, ss[i]? = some s := ⟨_, List.getElem?_eq_getElem (by omega)⟩
    obtain ⟨a, hi⟩ : ∃ a, H[i]? = some a := ⟨_, List.getElem?_eq_getElem (by have := hH.1; omega)⟩
    obtain ⟨w, hw, hk⟩ := hH.2 i a s hi hs
    have il := (List.getElem?_eq_some_iff.mp hw).1
    have hW : aW (F 29) T 23 W1 := ha.2.2.2.2.2.2.2.1
    obtain ⟨q1, q2, q3, q4, q5, q6, q7⟩ := hW.2.2 a w hw
    have e30 : gA G (B 30) i = nI a := (h.rd 30 rfl i).trans (ht.2 i a hi)
    have f1 := filt_one hu (List.mem_of_getElem? hw) hk
    have r2 : cmR1 key W1 (ss.take (i + 1)) = cmR1 key W1 (ss.take i) ++ (if wO w = 0 then [] else [setO w 0]) := by
      rw [take_snoc hs]
      unfold cmR1
      rw [List.flatMap_append, List.flatMap_singleton, f1, List.flatMap_singleton]
    refine wp_Mo_comes_137 m (nI e) (nI i) ⟨h.tg, ?_⟩
    rw [show gI G 671 m = nI H.length from (h.int 31 (by decide) (by decide)).trans ht.1, hH.1, nI_leI (by omega) (by omega), nI_1 i]
    refine ⟨fun z => absurd z (by omega), fun _ => ⟨B 28, h.rf 28 rfl, B 30, h.rf 30 rfl, Or.inl (h.at' 30 rfl), i, h.ix 30 rfl (by unfold aN; simp; omega), h.at' 28 rfl, ?_⟩⟩
    rw [e30]
    refine ⟨a, h.ix 28 rfl (by unfold aN; simp; omega), ?_⟩
    rw [show gA G (B 28) a = wO w from (h.rd 28 rfl a).trans q6]
    refine ⟨fun z => ?_, fun z => ?_⟩
    · rw [if_pos z, List.append_nil] at r2
      exact ih (i + 1) G F T (by omega) h (by rw [r2]; exact ha) ht hv hst (by rw [r2]; omega)
    · rw [if_neg z] at r2
      refine c_sends hB h ha (by omega) ⟨q1, q2, q3, q4, q5⟩ (Or.inr rfl) ?_ (fun G3 F3 T3 h3 s3 a3 t3 f3 => wp_Mo_comes_173 m (nI e) (nI i) ?_)
      · show (L ++ cmR1 key W1 (ss.take i)).length < 3900
        rw [List.length_append]; omega
      rw [nI_1 i]
      refine ih (i + 1) G3 F3 T3 (by omega) h3 ?_ ⟨(f3 31 (by decide)).trans ht.1, fun j q hq => (congrFun (t3 30 (by decide)) j).trans (ht.2 j q hq)⟩ ((congrFun (t3 11 (by decide)) e).trans hv) (hst.tr s3) (by rw [r2, List.length_append]; simp; omega)
      rw [r2, ← List.append_assoc]
      exact a3
end COMES3
