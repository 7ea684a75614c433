/-- isAheadOf -/
abbrev ahd (a b : WT) : Prop := if wE a = wE b then (if wK a = wK b then wS a < wS b else wK a < wK b) else wE a < wE b
theorem ahd_t {a b : WT} (x : wE a = wE b → (wK a = wK b → ¬ wS b ≤ wS a) ∧ (¬ wK a = wK b → ¬ wK b ≤ wK a)) (y : ¬ wE a = wE b → ¬ wE b ≤ wE a) : ahd a b := by
  unfold ahd
  by_cases h1 : wE a = wE b
  · rw [if_pos h1]
    by_cases h2 : wK a = wK b
    · rw [if_pos h2]; exact Int32.not_le.mp ((x h1).1 h2)
    · rw [if_neg h2]; exact Int32.not_le.mp ((x h1).2 h2)
  · rw [if_neg h1]; exact Int32.not_le.mp (y h1)
theorem not_ahd {a b : WT} (h : ¬ ahd a b) : (wE a = wE b → (wK a = wK b → wS b ≤ wS a) ∧ (¬ wK a = wK b → wK b ≤ wK a)) ∧ (¬ wE a = wE b → wE b ≤ wE a) := by
  unfold ahd at h
  refine ⟨fun h1 => ?_, fun h1 => ?_⟩
  · rw [if_pos h1] at h
    refine ⟨fun h2 => ?_, fun h2 => ?_⟩
    · rw [if_pos h2] at h; exact Int32.not_lt.mp h
    · rw [if_neg h2] at h; exact Int32.not_lt.mp h
  · rw [if_neg h1] at h; exact Int32.not_lt.mp h
theorem ahd_s {a b : WT} (h : ahd a b) : (wE a = wE b → (wK a = wK b → ¬ wS b ≤ wS a) ∧ (¬ wK a = wK b → ¬ wK b ≤ wK a)) ∧ (¬ wE a = wE b → ¬ wE b ≤ wE a) := by
  unfold ahd at h
  refine ⟨fun h1 => ?_, fun h1 => ?_⟩
  · rw [if_pos h1] at h
    refine ⟨fun h2 => ?_, fun h2 => ?_⟩
    · rw [if_pos h2] at h; exact Int32.not_le.mpr h
    · rw [if_neg h2] at h; exact Int32.not_le.mpr h
  · rw [if_neg h1] at h; exact Int32.not_le.mpr h
theorem c_insert {E : EV} {G : GH} {Post : Res → GH → Prop} {o : Nat → Nat} {ws lr lp p b : Nat} {rows spare : List Nat} (h : WsR E G o ws lr lp rows spare p) (hw : Wf G) (hb : b ∉ rows ++ spare) (hT : gT G b = 8) (ho : o b = ws) (hf : gI G 453 b = 0 ∨ gI G 453 b = 1) (hn : rows.length ≤ 2999)
    (k : ∀ G' o' n p', n ≤ rows.length → (∀ i x, i < n → rows[i]? = some x → ahd (rW G x) (rW G b)) → (∀ x, rows[n]? = some x → ¬ ahd (rW G x) (rW G b)) → WsR E G' o' ws lr lp (rows.insertIdx n b) spare p' → Stq [lr] G o G' o' → Cs G (p + 1) G' p' → Post (.inl none) G') : Cl E 6 m_Ws_insert [.ref ws, .ref b] G Post := by
  obtain ⟨a1, a2, a3, a4, a5, a6, cr, cp, a7, a8, a9⟩ := id h
  have hle := a7.le
  have fin : ∀ n, n ≤ rows.length → (∀ i x, i < n → rows[i]? = some x → ahd (rW G x) (rW G b)) → (∀ x, rows[n]? = some x → ¬ ahd (rW G x) (rW G b)) → Cl E 5 m_AL_addAt [.ref lr, .int (nI n), .ref b] G (aft E 6 m_Ws_insert 43 [none, none, none] [] Post) := by
    intro n hn1 hn2 hn3
    refine c_AL_addAt a7 hw (fun x hx => a6.ob x (List.mem_append_left _ hx)) (OB.of8 hT) hn hn1 (fun G' o' c' hla st cs => wp_Ws_insert_46 (k G' o' n (rows.length + 1 + spare.length + c' + cp) hn1 hn2 hn3 ⟨?_, ?_, ?_, ?_, a5, ?_, c', cp, hla, ?_, ?_⟩ st (cs.up (by omega))))
    all_goals have hlw : ws ∉ [lr] := by (intro z; rw [List.mem_singleton] at z; have := a7.tg; rw [← z] at this; omega)
    · exact st.tg' hw a1 (by omega)
    · exact (st.ow (hw _ (by omega))).trans a2
    · exact (st.sm (hw ws (by omega)) (by rw [a2]; exact hlw)).2.2.2.1 _ |>.trans a3
    · exact (st.sm (hw ws (by omega)) (by rw [a2]; exact hlw)).2.2.2.1 _ |>.trans a4
    · have hp : (b :: (rows ++ spare)).Perm (rows.insertIdx n b ++ spare) := ((List.perm_insertIdx b rows hn1).symm.append_right spare)
      have : Wn G o ws (b :: (rows ++ spare)) := ⟨List.nodup_cons.mpr ⟨hb, a6.1⟩, fun x hx => by
        rcases List.mem_cons.mp hx with hx | hx
        · rw [hx]; exact ⟨hT, ho, hf⟩
        · exact a6.2 x hx⟩
      exact (this.perm hp).stp hw st hlw
    · exact a8.stp hw st (by rw [List.mem_singleton]; exact fun z => a5 z.symm)
    · rw [List.length_insertIdx_of_le_length hn1]
  have loop : ∀ m n, m + n = rows.length → (∀ i x, i < n → rows[i]? = some x → ahd (rW G x) (rW G b)) → J E 6 m_Ws_insert 2 [some (.ref ws), some (.ref b), some (.int (nI n))] [] G Post := by
    intro m
    induction m with
    | zero =>
      intro n hmn hn2
      refine wp_Ws_insert_2 ws b (nI n) ⟨a1, lr, a3, a7.tg, ?_⟩
      rw [a7.sz, nI_leI (by omega) (by omega)]
      exact ⟨fun _ => fin n (by omega) hn2 (fun x hx => by rw [List.getElem?_eq_none (by omega)] at hx; cases hx), fun c => absurd (by omega) c⟩
    | succ m ih =>
      intro n hmn hn2
      refine wp_Ws_insert_2 ws b (nI n) ⟨a1, lr, a3, a7.tg, ?_⟩
      rw [a7.sz, nI_leI (by omega) (by omega), nI_1]
      obtain ⟨x, hx⟩ : ∃ x, rows[n]? = some x := ⟨_, List.getElem?_eq_getElem (by omega)⟩
      have hx8 := (a6.2 x (List.mem_append_left _ (List.mem_of_getElem? hx))).1
      have go : ahd (rW G x) (rW G b) → J E 6 m_Ws_insert 2 [some (.ref ws), some (.ref b), some (.int (nI (n + 1)))] [] G Post := fun hh => ih (n + 1) (by omega) (fun i y hi hy => by
        by_cases c : i = n
        · rw [c, hx] at hy; cases hy; exact hh
        · exact hn2 i y (by omega) hy)
      have stop : ¬ ahd (rW G x) (rW G b) → Cl E 5 m_AL_addAt [.ref lr, .int (nI n), .ref b] G (aft E 6 m_Ws_insert 43 [none, none, none] [] Post) := fun hh => fin n (by omega) hn2 (fun y hy => by rw [hx] at hy; cases hy; exact hh)
      refine ⟨fun c => absurd c (by omega), fun _ => ⟨x, a7.lg hx, hx8, hT, fun c1 => ⟨fun c2 => ⟨fun c3 => stop (fun z => (ahd_s z).1 c1 |>.1 c2 c3), fun c3 => go (ahd_t (fun _ => ⟨fun _ => c3, fun z => absurd c2 z⟩) (fun z => absurd c1 z))⟩, fun c2 => ⟨fun c3 => stop (fun z => (ahd_s z).1 c1 |>.2 c2 c3), fun c3 => go (ahd_t (fun _ => ⟨fun z => absurd z c2, fun _ => c3⟩) (fun z => absurd c1 z))⟩⟩, fun c1 => ⟨fun c3 => stop (fun z => (ahd_s z).2 c1 c3), fun c3 => go (ahd_t (fun z => absurd z c1) (fun _ => c3))⟩⟩⟩
  refine j_enter (L := [some (.ref ws), some (.ref b), none]) me_Ws_insert (cat_c rfl (cat_c rfl cat_n)) (Nat.le_of_ble_eq_true rfl) rfl (wp_Ws_insert_0 ws b ?_)
  exact loop rows.length 0 rfl (fun i x hi => absurd hi (Nat.not_lt_zero _))
theorem c_find {E : EV} {G : GH} {Post : Res → GH → Prop} {o : Nat → Nat} {ws lr lp p : Nat} {rows spare : List Nat} {key start : Int32} (h : WsR E G o ws lr lp rows spare p)
    (k1 : ∀ b, b ∈ rows → wK (rW G b) = key → wS (rW G b) = start → Post (.inl (some (.ref b))) G)
    (k2 : (∀ b, b ∈ rows → ¬ (wK (rW G b) = key ∧ wS (rW G b) = start)) → Post (.inl (some .null)) G) : Cl E 4 m_Ws_find [.ref ws, .int key, .int start] G Post := by
  obtain ⟨a1, a2, a3, a4, a5, a6, cr, cp, a7, a8, a9⟩ := id h
  have hle := a7.le
  have loop : ∀ m n, m + n = rows.length → (∀ i x, i < n → rows[i]? = some x → ¬ (wK (rW G x) = key ∧ wS (rW G x) = start)) → J E 4 m_Ws_find 2 [some (.ref ws), some (.int key), some (.int start), some (.int (nI n)), none] [] G Post := by
    intro m
    induction m with
    | zero =>
      intro n hmn hn2
      refine wp_Ws_find_2 ws key start (nI n) ⟨a1, lr, a3, a7.tg, ?_⟩
      rw [a7.sz, nI_leI (by omega) (by omega)]
      refine ⟨fun _ => k2 (fun b hb => ?_), fun c => absurd (by omega) c⟩
      obtain ⟨i, hi, he⟩ := List.getElem_of_mem hb
      exact hn2 i b (by omega) (by rw [List.getElem?_eq_getElem hi, he])
    | succ m ih =>
      intro n hmn hn2
      refine wp_Ws_find_2 ws key start (nI n) ⟨a1, lr, a3, a7.tg, ?_⟩
      rw [a7.sz, nI_leI (by omega) (by omega), nI_1]
      obtain ⟨x, hx⟩ : ∃ x, rows[n]? = some x := ⟨_, List.getElem?_eq_getElem (by omega)⟩
      have hxm := List.mem_of_getElem? hx
      have go : ¬ (wK (rW G x) = key ∧ wS (rW G x) = start) → J E 4 m_Ws_find 2 [some (.ref ws), some (.int key), some (.int start), some (.int (nI (n + 1))), none] [] G Post := fun hh => ih (n + 1) (by omega) (fun i y hi hy => by
        by_cases c : i = n
        · rw [c, hx] at hy; cases hy; exact hh
        · exact hn2 i y (by omega) hy)
      exact ⟨fun c => absurd c (by omega), fun _ => ⟨x, a7.lg hx, (a6.2 x (List.mem_append_left _ hxm)).1, fun c => go (fun z => c z.1), fun c1 => ⟨fun c2 => go (fun z => c2 z.2), fun c2 => k1 x hxm c1 c2⟩⟩⟩
  refine j_enter (L := [some (.ref ws), some (.int key), some (.int start), none, none]) me_Ws_find (cat_c rfl (cat_c rfl (cat_c rfl cat_n))) (Nat.le_of_ble_eq_true rfl) rfl (wp_Ws_find_0 ws key start ?_)
  exact loop rows.length 0 rfl (fun i x hi => absurd hi (Nat.not_lt_zero _))
