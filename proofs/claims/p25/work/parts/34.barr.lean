/-- the object Barrier and its rows -/
def BaR (G : GH) (o : Nat → Nat) (ba bt bk : Nat) : Prop :=
  gT G ba = 1 ∧ o ba = ba ∧ gR G 0 ba = some bt ∧ gR G 1 ba = some bk ∧ A3 G o ba bt ∧ (gT G bk = 21 ∧ gN G bk = 3 ∧ o bk = ba)
theorem BaR.stp {S : List Nat} {G G' : GH} {o o' : Nat → Nat} {ba bt bk : Nat} (h : BaR G o ba bt bk) (hw : Wf G) (s : Stq S G o G' o') (hR : ∀ f, gR G' f ba = gR G f ba) : BaR G' o' ba bt bk := by
  obtain ⟨a1, a2, a3, a4, a5, a6, a7, a8⟩ := h
  have hz := hw ba (by omega)
  have hz2 := hw bk (by omega)
  exact ⟨(s.tg hz).trans a1, (s.ow hz).trans a2, (hR _).trans a3, (hR _).trans a4, a5.stp hw s, (s.tg hz2).trans a6, (s.ln hz2).trans a7, (s.ow hz2).trans a8⟩
theorem c_isTakenOfAll {E : EV} {G : GH} {Post : Res → GH → Prop} {o : Nat → Nat} {ba bt bk : Nat} (h : BaR G o ba bt bk)
    (k : Post (.inl (some (.int (if gA G bk 0 = 0 ∨ gA G bk 1 = 0 ∨ gA G bk 2 = 0 then 0 else 1)))) G) : Cl E 1 m_Ba_isTakenOfAll [.ref ba] G Post := by
  obtain ⟨a1, a2, a3, a4, a5, a6, a7, a8⟩ := h
  have loop : ∀ (m i : Nat), m + i = 3 → (∀ j, j < i → ¬ gA G bk j = 0) → J E 1 m_Ba_isTakenOfAll 2 [some (.ref ba), some (.int (nI i))] [] G Post := by
    intro m
    induction m with
    | zero =>
      intro i hmi hj
      refine wp_Ba_isTakenOfAll_2 ba (nI i) ⟨fun _ => ?_, fun z => absurd (show (3 : Int32) ≤ nI i from nI_le (a := 3) (by omega) (by omega)) z⟩
      rw [if_neg (fun z => by
        rcases z with z | z | z
        · exact hj 0 (by omega) z
        · exact hj 1 (by omega) z
        · exact hj 2 (by omega) z)] at k
      exact k
    | succ m ih =>
      intro i hmi hj
      refine wp_Ba_isTakenOfAll_2 ba (nI i) ⟨fun z => absurd z (show ¬ (3 : Int32) ≤ nI i from nI_ge (b := 3) (by omega) (by omega)), fun _ => ⟨a1, bk, a4, a6, i, IX.nI (by omega) (by omega), fun c => ?_, fun c => ?_⟩⟩
      · rw [nI_1]
        exact ih (i + 1) (by omega) (fun j hj' => by
          by_cases e : j = i
          · rw [e]; exact c
          · exact hj j (by omega))
      · have hi : i = 0 ∨ i = 1 ∨ i = 2 := by omega
        rw [if_pos (by
          rcases hi with e | e | e
          · rw [e] at c; exact Or.inl c
          · rw [e] at c; exact Or.inr (Or.inl c)
          · rw [e] at c; exact Or.inr (Or.inr c))] at k
        exact k
  refine j_enter (L := [some (.ref ba), none]) me_Ba_isTakenOfAll (cat_c rfl cat_n) (Nat.le_of_ble_eq_true rfl) rfl (wp_Ba_isTakenOfAll_0 ba ?_)
  exact loop 3 0 rfl (fun j hj => absurd hj (Nat.not_lt_zero _))
theorem c_put {E : EV} {G : GH} {Post : Res → GH → Prop} {o : Nat → Nat} {ba bt bk r a : Nat} {v : Int32} (h : BaR G o ba bt bk) (hw : Wf G) (ha : A3 G o r a) (hr : r ≠ ba) (hv : v = 0 ∨ v = 1)
    (k : ∀ G', Stq [ba] G o G' o → (∀ f q, gR G' f q = gR G f q) → (∀ j, j < 3 → gA G' bt j = gA G a j ∧ gA G' bk j = 0) → gI G' 2 ba = v → gz G' = gz G → gs G' = gs G → Post (.inl none) G') : Cl E 1 m_Ba_put [.ref ba, .ref a, .int v] G Post := by
  obtain ⟨a1, a2, a3, a4, a5, a6, a7, a8⟩ := h
  have hab : a ≠ bt := fun z => hr (by rw [← ha.2.2, z, a5.2.2])
  have hak : a ≠ bk := fun z => by have := ha.1; rw [z] at this; omega
  have hbb : bt ≠ bk := fun z => by have := a5.1; rw [z] at this; omega
  have loop : ∀ (m i : Nat) (G1 : GH), m + i = 3 → OnA G G1 → Stq [ba] G o G1 o → (∀ j, gA G1 a j = gA G a j) → (∀ j, j < i → gA G1 bt j = gA G a j ∧ gA G1 bk j = 0) → J E 1 m_Ba_put 2 [some (.ref ba), some (.ref a), some (.int v), some (.int (nI i))] [] G1 Post := by
    intro m
    have mb : ba < gz G → o ba ∈ [ba] := fun _ => by rw [a2]; exact in1
    have m1 : bt < gz G → o bt ∈ [ba] := fun _ => by rw [a5.2.2]; exact in1
    have m2 : bk < gz G → o bk ∈ [ba] := fun _ => by rw [a8]; exact in1
    induction m with
    | zero =>
      intro i G1 hmi hO hS hA hJ
      obtain ⟨o1, o2, o3, o4, o5, o6⟩ := id hO
      refine wp_Ba_put_2 ba a v (nI i) ⟨fun _ => ⟨(o1 _).trans a1, hv, k _ (hS.wI mb) (fun f q => o4 f q) (fun j hj => hJ j (by omega)) gI_sI_eq o5 o6⟩, fun z => absurd (show (3 : Int32) ≤ nI i from nI_le (a := 3) (by omega) (by omega)) z⟩
    | succ m ih =>
      intro i G1 hmi hO hS hA hJ
      obtain ⟨o1, o2, o3, o4, o5, o6⟩ := id hO
      have i3 : i < 3 := by omega
      refine wp_Ba_put_2 ba a v (nI i) ⟨fun z => absurd z (show ¬ (3 : Int32) ≤ nI i from nI_ge (b := 3) (by omega) (by omega)), fun _ => ⟨by rw [o1, ha.1]; omega, fun z => absurd z ?_, fun _ => ⟨(o1 _).trans a1, bt, (o4 _ _).trans a3, Or.inl ((o1 _).trans ha.1), i, IX.nI (by rw [o2, ha.2.1]; exact i3) (by rw [o2, ha.2.1]; omega), (o1 _).trans a5.1, i, IX.nI (by rw [o2, a5.2.1]; exact i3) (by rw [o2, a5.2.1]; omega), bk, (o4 _ _).trans a4, (o1 _).trans a6, i, IX.nI (by rw [o2, a7]; exact i3) (by rw [o2, a7]; omega), ?_⟩⟩⟩
      · rw [o2, ha.2.1, nI_leI (by omega) (by omega)]; omega
      · rw [nI_1]
        refine ih (i + 1) _ (by omega) ⟨o1, o2, o3, o4, o5, o6⟩ ((hS.wA m1).wA m2) (fun j => ?_) (fun j hj => ?_)
        · rw [gA_sA, if_neg (fun z => hak z.1), gA_sA, if_neg (fun z => hab z.1)]; exact hA j
        · by_cases c : j = i
          · rw [c]
            refine ⟨?_, ?_⟩
            · rw [gA_sA, if_neg (fun z => hbb z.1), gA_sA, if_pos ⟨rfl, rfl⟩]; exact hA i
            · rw [gA_sA, if_pos ⟨rfl, rfl⟩]
          · rw [gA_sA, if_neg (fun z => c z.2), gA_sA, if_neg (fun z => c z.2), gA_sA, if_neg (fun z => c z.2), gA_sA, if_neg (fun z => c z.2)]
            exact hJ j (by omega)
  refine j_enter (L := [some (.ref ba), some (.ref a), some (.int v), none]) me_Ba_put (cat_c rfl (cat_c rfl (cat_c rfl cat_n))) (Nat.le_of_ble_eq_true rfl) rfl (wp_Ba_put_0 ba a v ?_)
  exact loop 3 0 G rfl ⟨fun _ => rfl, fun _ => rfl, fun _ _ => rfl, fun _ _ => rfl, rfl, rfl⟩ (Stq.rf hw) (fun _ => rfl) (fun j hj => absurd hj (Nat.not_lt_zero _))
