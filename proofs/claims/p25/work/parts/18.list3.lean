theorem nI_sub {a b : Nat} (h : b ≤ a) : nI a - nI b = nI (a - b) := by
  obtain ⟨k, rfl⟩ := Nat.exists_eq_add_of_le h
  rw [Nat.add_sub_cancel_left, ← nI_add, Int32.add_comm]
  exact Int32.add_sub_cancel _ _
theorem in1 {a : Nat} : a ∈ [a] := List.mem_singleton.mpr rfl
/-- the row behind add(i, b) -/
theorem row_ins {f g : Nat → Option Nat} {xs : List Nat} {n : Nat} {b : Nat} (hn : n ≤ xs.length) (hf : ∀ i, f i = xs[i]?) (hg : ∀ i, g i = if i = n then some b else va_cpy f f n (n + 1) (xs.length - n) i) (i : Nat) : g i = (xs.insertIdx n b)[i]? := by
  rw [hg, List.getElem?_insertIdx]
  by_cases h1 : i < n
  · rw [if_neg (by omega), if_pos h1]
    show (if n + 1 ≤ i ∧ i < n + 1 + (xs.length - n) then _ else f i) = _
    rw [if_neg (by omega), hf]
  · rw [if_neg h1]
    by_cases h2 : i = n
    · rw [if_pos h2, if_pos h2, if_pos (by omega)]
    · rw [if_neg h2, if_neg h2]
      show (if n + 1 ≤ i ∧ i < n + 1 + (xs.length - n) then f (n + (i - (n + 1))) else f i) = _
      by_cases h3 : i < n + 1 + (xs.length - n)
      · rw [if_pos ⟨by omega, h3⟩, hf]
        congr 1
        omega
      · rw [if_neg (fun z => h3 z.2), hf, List.getElem?_eq_none (by omega), List.getElem?_eq_none (by omega)]
theorem c_AL_addAt {E : EV} {G : GH} {Post : Res → GH → Prop} {o : Nat → Nat} {l b c n : Nat} {xs : List Nat} (h : LA E G o l xs c) (hw : Wf G) (hx : ∀ x ∈ xs, OB G x) (hb : OB G b) (hn : xs.length ≤ 2999) (hi : n ≤ xs.length)
    (k : ∀ G' o' c', LA E G' o' l (xs.insertIdx n b) c' → Stq [l] G o G' o' → Cs G c G' c' → Post (.inl none) G') : Cl E 5 m_AL_addAt [.ref l, .int (nI n), .ref b] G Post := by
  obtain ⟨e, h⟩ := h
  obtain ⟨h1, h2, h3, h4, h5, h6, h7, h8⟩ := id h
  have hlz := hw l (by omega)
  have hez := hw e (by rcases h8 with h8 | h8 <;> omega)
  have hlen : (xs.insertIdx n b).length = xs.length + 1 := List.length_insertIdx_of_le_length hi b
  refine j_enter (L := [some (.ref l), some (.int (nI n)), some (.ref b), none, none]) me_AL_addAt (cat_c rfl (cat_c rfl (cat_c rfl cat_n))) (Nat.le_of_ble_eq_true rfl) rfl (wp_AL_addAt_0 l (nI n) b ⟨h1, fun c1 => ?_, fun _ => ⟨fun _ => ⟨e, h2, by omega, ?_⟩, fun c1 => c1 (nI_pos' (by omega))⟩⟩)
  · rw [h3] at c1; exact nI_nlt hi (by omega) c1
  rw [h3]
  generalize hG1 : sI G 704 l (gI G 704 l + 1) = G1
  have s1 : Stq [l] G o G1 o := hG1 ▸ (Stq.rf hw).wI (fun _ => by rw [h7]; exact in1)
  have w1 : Wf G1 := s1.1
  have hG : LAe E G1 o l e xs c := by
    subst hG1
    exact ⟨h1, h2, by rw [gI_sI, if_neg (fun z => absurd z.1 (by omega))]; exact h3, h4, h5, h6, h7, h8⟩
  have hx1 : ∀ x ∈ xs, OB G1 x := by subst hG1; exact hx
  have hb1 : OB G1 b := by subst hG1; exact hb
  have hO : gO G1 e = gO G e := by subst hG1; rfl
  have hNe : gN G1 e = c := by subst hG1; exact h4
  have hz1 : gz G1 = gz G := by subst hG1; rfl
  rw [hNe, h4, nI_eq (by omega) (by omega), nI_1, nI_1, nI_sub hi, nI_clamp (by omega), nI_clamp (by omega), nI_clamp (by omega), ← hO]
  have fin : ∀ (G2 : GH) (o2 : Nat → Nat) (e2 c2 : Nat), LAe E G2 o2 l e2 xs c2 → xs.length < c2 → (∀ x ∈ xs, OB G2 x) → OB G2 b → Stq [l] G o G2 o2 → Cs G c G2 c2 →
      ((gT G2 e2 = 23 ∨ gT G2 e2 = 26) ∧ gT G2 e2 = 23 ∧ ¬ nI n < 0 ∧ ¬ nI (n + 1) < 0 ∧ ¬ nI (xs.length - n) < 0 ∧ n + (xs.length - n) ≤ c2 ∧ n + 1 + (xs.length - n) ≤ c2 ∧ (∀ i : Nat, i < xs.length - n → ∀ v : Nat, gO G2 e2 (n + i) = some v → OB G2 v)) ∧ gT G2 e2 = 23 ∧ IX (nI n) n c2 ∧ ∀ f, (∀ i, f i = va_cpy (gO G2 e2) (gO G2 e2) n (n + 1) (xs.length - n) i) →
      Post (.inl none) (sI (sO (sW G2 e2 f) e2 n (some b)) 706 l (nI (xs.length + 1))) := by
    intro G2 o2 e2 c2 hL hlt hxx hbb ss cc
    obtain ⟨a1, a2, a3, a4, a5, a6, a7, a8⟩ := hL
    have h9 : gT G2 e2 = 23 ∧ 2 ≤ c2 ∧ o2 e2 = l ∧ ∀ i, gO G2 e2 i = xs[i]? := by
      rcases a8 with a8 | a8
      · omega
      · exact a8
    refine ⟨⟨Or.inl h9.1, h9.1, nI_pos (by omega), nI_pos (by omega), nI_pos (by omega), by omega, by omega, fun i hi v hv => ?_⟩, h9.1, IX.nI (by omega) (by omega), fun f hf => k _ o2 c2 ⟨e2, ?_⟩ ?_ cc⟩
    · rw [h9.2.2.2] at hv
      exact hxx v (List.mem_of_getElem? hv)
    · refine ⟨a1, a2, ?_, a4, by omega, a6, a7, Or.inr ⟨h9.1, h9.2.1, h9.2.2.1, row_ins hi h9.2.2.2 (fun i => ?_)⟩⟩
      · rw [gI_sI, if_pos ⟨rfl, rfl⟩, hlen]
      · rw [gO_sI, gO_sO, gO_sW, if_pos rfl, hf]
        by_cases ci : i = n
        · rw [if_pos ⟨rfl, ci⟩, if_pos ci]
        · rw [if_neg (fun z => ci z.2), if_neg ci]
    · have q1 : e2 < gz G → o e2 ∈ [l] := fun z => by rw [← ss.ow z, h9.2.2.1]; exact in1
      exact ((ss.wW q1).wO q1).wI (fun _ => by rw [h7]; exact in1)
  refine ⟨fun hne => ?_, fun heq => ?_⟩
  · have hh := fin G1 o e c hG (by omega) hx1 hb1 s1 (by subst hG1; exact Cs.rf)
    have tt : gT G1 e = gT G e := by subst hG1; rfl
    have ob : ∀ v, OB G1 v → OB G v := by subst hG1; exact fun _ z => z
    rw [tt] at hh
    obtain ⟨⟨x1, x2, x3, x4, x5, x6, x7, x8⟩, x9, x10, x11⟩ := hh
    exact ⟨⟨x1, x2, x3, x4, x5, x6, x7, fun i z v zv => ob v (x8 i z v zv)⟩, x9, n, x10, (by subst hG1; exact hb), fun G10 h10 => h10 ▸ x11 _ (fun _ => rfl)⟩
  · obtain ⟨a1, a2, a3, a4, a5, a6, a7, a8⟩ := id hG
    have hob1 := hG.ob hx1
    refine c_AL_grow w1 a1 a2 (by rw [a3, heq]) a4 (by omega) hob1 (fun G2 g => ?_)
    have hla := g.la hG w1 heq (by omega)
    have hcc := capN_cost (c := c) (by rcases a8 with a8 | a8 <;> omega)
    have s2 : Stq [l] G o G2 (uo o (gz G1) l) := s1.tr (g.2.2.2.2.2.2.2.2 [l] o (Nat.le_refl _) w1 (by rw [h7]; exact in1))
    have tG : ∀ v, OB G1 v → OB G2 v := fun v hv => hv.eqT (s2.tg (by have := w1 v hv.ne; omega) |>.trans (by rw [← hG1]; rfl))
    have hh := fin G2 (uo o (gz G1) l) (gz G1) (capN c) hla (by omega) (fun x z => tG x (hx1 x z)) (tG b hb1) s2 (by have := (g.cs (by rcases a8 with a8 | a8 <;> omega)); subst hG1; exact this)
    obtain ⟨⟨x1, x2, x3, x4, x5, x6, x7, x8⟩, x9, x10, x11⟩ := hh
    have hN2 : gN G2 (gz G1) = capN c := hla.2.2.2.1
    refine wp_AL_addAt_36 l (nI n) b (nI xs.length) (gz G1) ?_
    rw [hN2, nI_1, nI_1, nI_sub hi, nI_clamp (by omega), nI_clamp (by omega), nI_clamp (by omega)]
    exact ⟨⟨x1, x2, x3, x4, x5, x6, x7, x8⟩, x9, n, x10, tG b hb1, hla.1, fun G7 h7 => h7 ▸ x11 _ (fun _ => rfl)⟩
/-- the row behind remove(i) -/
theorem row_del {f g : Nat → Option Nat} {xs : List Nat} {n : Nat} (hn : n < xs.length) (hf : ∀ i, f i = xs[i]?) (hg : ∀ i, g i = if i = xs.length - 1 then none else va_cpy f f (n + 1) n (xs.length - 1 - n) i) (i : Nat) : g i = (xs.eraseIdx n)[i]? := by
  rw [hg, List.getElem?_eraseIdx]
  by_cases h2 : i = xs.length - 1
  · rw [if_pos h2]
    by_cases h1 : i < n
    · omega
    · rw [if_neg h1, List.getElem?_eq_none (by omega)]
  · rw [if_neg h2]
    show (if n ≤ i ∧ i < n + (xs.length - 1 - n) then f (n + 1 + (i - n)) else f i) = _
    by_cases h1 : i < n
    · rw [if_neg (by omega), if_pos h1, hf]
    · rw [if_neg h1]
      by_cases h3 : i < n + (xs.length - 1 - n)
      · rw [if_pos ⟨by omega, h3⟩, hf]
        congr 1
        omega
      · rw [if_neg (fun z => h3 z.2), hf, List.getElem?_eq_none (by omega), List.getElem?_eq_none (by omega)]
theorem c_AL_remove {E : EV} {G : GH} {Post : Res → GH → Prop} {o : Nat → Nat} {l b c n : Nat} {xs : List Nat} (h : LA E G o l xs c) (hw : Wf G) (hx : ∀ x ∈ xs, OB G x) (hb : xs[n]? = some b)
    (k : ∀ G', LA E G' o l (xs.eraseIdx n) c → Stq [l] G o G' o → gz G' = gz G → gs G' = gs G → Post (.inl (some (.ref b))) G') : Cl E 3 m_AL_remove [.ref l, .int (nI n)] G Post := by
  obtain ⟨e, h⟩ := h
  obtain ⟨h1, h2, h3, h4, h5, h6, h7, h8⟩ := id h
  have hi : n < xs.length := (List.getElem?_eq_some_iff.mp hb).1
  have hlen : (xs.eraseIdx n).length = xs.length - 1 := List.length_eraseIdx_of_lt hi
  have h9 : gT G e = 23 ∧ 2 ≤ c ∧ o e = l ∧ ∀ i, gO G e i = xs[i]? := by
    rcases h8 with a8 | a8
    · omega
    · exact a8
  have q1 : e < gz G → o e ∈ [l] := fun z => by rw [h9.2.2.1]; exact in1
  have q2 : l < gz G → o l ∈ [l] := fun z => by rw [h7]; exact in1
  have hel : e ≠ l := fun z => by
    have := h9.1
    rw [z, h1] at this; omega
  have a1 : nI xs.length - 1 = nI (xs.length - 1) := nI_sub (b := 1) (by omega)
  refine j_enter (L := [some (.ref l), some (.int (nI n)), none, none]) me_AL_remove (cat_c rfl (cat_c rfl cat_n)) (Nat.le_of_ble_eq_true rfl) rfl (wp_AL_remove_0 l (nI n) ⟨h1, fun c1 => nI_pos (by omega) c1, fun _ => ⟨fun _ => ⟨e, h2, Or.inl h9.1, n, IX.nI (by omega) (by omega), b, (h9.2.2.2 n).trans hb, ?_⟩, fun c1 => c1 (by rw [h3]; exact nI_lt hi (by omega))⟩⟩)
  refine j_enter (L := [some (.ref l), some (.ref e), some (.int (nI n)), none]) me_AL_fastRemove (cat_c rfl (cat_c rfl (cat_c rfl cat_n))) (Nat.le_of_ble_eq_true rfl) rfl (wp_AL_fastRemove_0 l e (nI n) ⟨h1, ?_⟩)
  rw [h3, a1, nI_1, h4, nI_clamp (by omega), nI_clamp (by omega), nI_leI (by omega) (by omega)]
  refine ⟨fun hle => ⟨h9.1, xs.length - 1, IX.nI (by omega) (by omega), wp_AL_remove_24 b (k _ ⟨e, h1, h2, ?_, h4, by omega, h6, h7, Or.inr ⟨h9.1, h9.2.1, h9.2.2.1, row_del hi h9.2.2.2 (fun i => ?_)⟩⟩ ?_ rfl rfl)⟩, fun hlt => ?_⟩
  · rw [gI_sO, gI_sI, if_pos ⟨rfl, rfl⟩, hlen]
  · rw [gO_sO]
    by_cases ci : i = xs.length - 1
    · rw [if_pos ⟨rfl, ci⟩, if_pos ci]
    · rw [if_neg (fun z => ci z.2), if_neg ci]
      show gO G e i = if n ≤ i ∧ i < n + (xs.length - 1 - n) then _ else _
      rw [if_neg (by omega)]
  · exact (((Stq.rf hw).wI q2).wI q2).wO q1
  · rw [nI_sub (by omega), nI_clamp (by omega)]
    refine ⟨⟨Or.inl h9.1, h9.1, nI_pos (by omega), nI_pos (by omega), nI_pos (by omega), by omega, by omega, fun i hi v hv => ?_⟩, fun G6 h6' => ⟨?_, xs.length - 1, ?_, wp_AL_remove_24 b (k _ ⟨e, ?_, ?_, ?_, ?_, by omega, h6, h7, Or.inr ⟨?_, h9.2.1, h9.2.2.1, row_del hi h9.2.2.2 (fun i => ?_)⟩⟩ ?_ ?_ ?_)⟩⟩
    · rw [h9.2.2.2] at hv
      exact hx v (List.mem_of_getElem? hv)
    all_goals subst h6'
    · exact h9.1
    · exact IX.nI (by omega) (by omega)
    · exact h1
    · exact h2
    · rw [gI_sO, gI_sI, if_pos ⟨rfl, rfl⟩, hlen]
    · exact h4
    · exact h9.1
    · rw [gO_sO, gO_sI, gO_sW, if_pos rfl]
      by_cases ci : i = xs.length - 1
      · rw [if_pos ⟨rfl, ci⟩, if_pos ci]
      · rw [if_neg (fun z => ci z.2), if_neg ci]
    · exact ((((Stq.rf hw).wI q2).wW q1).wI q2).wO q1
    · rfl
    · rfl
