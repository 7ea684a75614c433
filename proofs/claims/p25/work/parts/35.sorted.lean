/-! the rows stay in their order -/
theorem i32_trans {a b c : Int32} (h : a < b) (h' : b < c) : a < c := by
  rw [Int32.lt_iff_toInt_lt] at *
  omega
theorem i32_tri (a b : Int32) : a < b ∨ a = b ∨ b < a := by
  rw [Int32.lt_iff_toInt_lt, Int32.lt_iff_toInt_lt, ← Int32.toInt_inj]
  omega
theorem i32_irr {a : Int32} : ¬ a < a := by
  rw [Int32.lt_iff_toInt_lt]
  omega
theorem ahd_iff {a b : WT} : ahd a b ↔ wE a < wE b ∨ (wE a = wE b ∧ (wK a < wK b ∨ (wK a = wK b ∧ wS a < wS b))) := by
  unfold ahd
  by_cases h1 : wE a = wE b
  · rw [if_pos h1]
    by_cases h2 : wK a = wK b
    · rw [if_pos h2]
      refine ⟨fun z => Or.inr ⟨h1, Or.inr ⟨h2, z⟩⟩, fun z => ?_⟩
      rcases z with z | ⟨-, z | ⟨-, z⟩⟩
      · rw [h1] at z; exact absurd z i32_irr
      · rw [h2] at z; exact absurd z i32_irr
      · exact z
    · rw [if_neg h2]
      refine ⟨fun z => Or.inr ⟨h1, Or.inl z⟩, fun z => ?_⟩
      rcases z with z | ⟨-, z | ⟨z, -⟩⟩
      · rw [h1] at z; exact absurd z i32_irr
      · exact z
      · exact absurd z h2
  · rw [if_neg h1]
    exact ⟨Or.inl, fun z => z.resolve_right (fun c => h1 c.1)⟩
theorem ahd_trans {a b c : WT} (h : ahd a b) (h' : ahd b c) : ahd a c := by
  rw [ahd_iff] at *
  rcases h with h | ⟨e1, h⟩
  · rcases h' with h' | ⟨e2, -⟩
    · exact Or.inl (i32_trans h h')
    · exact Or.inl (e2 ▸ h)
  · rcases h' with h' | ⟨e2, h'⟩
    · exact Or.inl (e1 ▸ h')
    · refine Or.inr ⟨e1.trans e2, ?_⟩
      rcases h with h | ⟨e3, h⟩
      · rcases h' with h' | ⟨e4, -⟩
        · exact Or.inl (i32_trans h h')
        · exact Or.inl (e4 ▸ h)
      · rcases h' with h' | ⟨e4, h'⟩
        · exact Or.inl (e3 ▸ h')
        · exact Or.inr ⟨e3.trans e4, i32_trans h h'⟩
theorem ahd_total {a b : WT} (h : ¬ (wK a = wK b ∧ wS a = wS b)) (hn : ¬ ahd a b) : ahd b a := by
  rw [ahd_iff] at *
  rcases i32_tri (wE a) (wE b) with h1 | h1 | h1
  · exact absurd (Or.inl h1) hn
  · rcases i32_tri (wK a) (wK b) with h2 | h2 | h2
    · exact absurd (Or.inr ⟨h1, Or.inl h2⟩) hn
    · rcases i32_tri (wS a) (wS b) with h3 | h3 | h3
      · exact absurd (Or.inr ⟨h1, Or.inr ⟨h2, h3⟩⟩) hn
      · exact absurd ⟨h2, h3⟩ h
      · exact Or.inr ⟨h1.symm, Or.inr ⟨h2.symm, h3⟩⟩
    · exact Or.inr ⟨h1.symm, Or.inl h2⟩
  · exact Or.inl h1
/-- sorted -/
def SO (L : List WT) : Prop := L.Pairwise (fun a b => ahd a b)
theorem SO.ins {w : WT} : ∀ {L : List WT}, SO L → (∀ x ∈ L, ¬ (wK x = wK w ∧ wS x = wS w)) → SO (insS w L)
  | [], _, _ => List.pairwise_singleton _ _
  | x :: L, h, hd => by
    have h' := List.pairwise_cons.mp h
    unfold insS
    by_cases c : ahd x w
    · rw [if_pos c]
      refine List.pairwise_cons.mpr ⟨fun y hy => ?_, SO.ins h'.2 (fun y hy => hd y (List.mem_cons_of_mem _ hy))⟩
      rcases List.mem_cons.mp ((insS_perm w L).mem_iff.mp hy) with e | e
      · rw [e]; exact c
      · exact h'.1 y e
    · rw [if_neg c]
      have hw : ahd w x := ahd_total (hd x List.mem_cons_self) c
      refine List.pairwise_cons.mpr ⟨fun y hy => ?_, h⟩
      rcases List.mem_cons.mp hy with e | e
      · rw [e]; exact hw
      · exact ahd_trans hw (h'.1 y e)
theorem SO.map {f : WT → WT} {L : List WT} (h : SO L) (hf : ∀ w, wK (f w) = wK w ∧ wS (f w) = wS w ∧ wE (f w) = wE w) : SO (L.map f) := by
  refine List.pairwise_map.mpr (h.imp (fun {a b} z => ?_))
  rw [ahd_iff] at *
  rw [(hf a).1, (hf a).2.1, (hf a).2.2, (hf b).1, (hf b).2.1, (hf b).2.2]
  exact z
/-- emitDue, on rows in order: all that are due -/
def emF (mk : Int32) (w : WT) : WT := if wE w ≤ mk then (if wO w = 0 then setO w 1 else w) else w
def emG (mk : Int32) (w : WT) : List WT := if wE w ≤ mk then (if wO w = 0 then [setO w 1] else []) else []
theorem em_sorted {mk : Int32} : ∀ {L : List WT}, SO L → emW mk L = L.map (emF mk) ∧ emR mk L = L.flatMap (emG mk)
  | [], _ => ⟨rfl, rfl⟩
  | w :: L, h => by
    have h' := List.pairwise_cons.mp h
    obtain ⟨i1, i2⟩ := em_sorted h'.2 (mk := mk)
    unfold emW emR
    by_cases c : wE w ≤ mk
    · rw [if_pos c, if_pos c, i1, i2, List.map_cons, List.flatMap_cons]
      refine ⟨by congr 1; exact (if_pos c).symm, ?_⟩
      unfold emG
      rw [if_pos c]
      by_cases d : wO w = 0
      · rw [if_pos d, if_pos d]; rfl
      · rw [if_neg d, if_neg d]; rfl
    · rw [if_neg c, if_neg c]
      have late : ∀ x ∈ w :: L, ¬ wE x ≤ mk := fun x hx => by
        rcases List.mem_cons.mp hx with e | e
        · rw [e]; exact c
        · have := ahd_iff.mp (h'.1 x e)
          rw [Int32.not_le] at *
          rcases this with z | ⟨z, -⟩
          · exact i32_trans c z
          · rw [← z]; exact c
      refine ⟨?_, ?_⟩
      · have : (w :: L).map (emF mk) = (w :: L).map id := List.map_congr_left (fun x hx => if_neg (late x hx))
        rw [this, List.map_id]
      · exact (List.flatMap_eq_nil_iff.mpr (fun x hx => if_neg (late x hx))).symm
