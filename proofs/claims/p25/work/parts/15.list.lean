/-! ArrayList at the ghost heap: the list object l, its row e, its elements xs -/
def ALs (E : EV) (G : GH) (l e : Nat) (xs : List Nat) : Prop := gT G l = 12 ∧ gR G 705 l = some e ∧ gI G 706 l = nI xs.length ∧ ((gT G e = 23 ∧ 2 ≤ gN G e) ∨ (e = eC E ∧ gT G e = 26 ∧ gN G e = 0)) ∧ xs.length ≤ gN G e ∧ gN G e ≤ 60000 ∧ ∀ i b, xs[i]? = some b → gO G e i = some b
/-- get(i) gives b -/
def LG (G : GH) (l : Nat) (i : Int32) (b : Nat) : Prop := gT G l = 12 ∧ ¬ i < 0 ∧ i < gI G 706 l ∧ ∃ e n, gR G 705 l = some e ∧ gT G e = 23 ∧ IX i n (gN G e) ∧ gO G e n = some b
theorem ALs.lg {E : EV} {G : GH} {l e n b : Nat} {xs : List Nat} (h : ALs E G l e xs) (hb : xs[n]? = some b) : LG G l (nI n) b := by
  obtain ⟨h1, h2, h3, h4, h5, h6, h7⟩ := h
  have hn : n < xs.length := (List.getElem?_eq_some_iff.mp hb).1
  refine ⟨h1, nI_pos (by omega), by rw [h3]; exact nI_lt hn (by omega), e, n, h2, ?_, IX.nI (by omega) (by omega), h7 n b hb⟩
  rcases h4 with h | h
  · exact h.1
  · omega
/-- the list is the same where its cells are -/
theorem ALs.same {E : EV} {G G' : GH} {l e : Nat} {xs : List Nat} (h : ALs E G l e xs) (hl : Sm G G' l) (he : Sm G G' e) : ALs E G' l e xs := by
  obtain ⟨h1, h2, h3, h4, h5, h6, h7⟩ := h
  refine ⟨by rw [hl.1]; exact h1, by rw [hl.2.2.2.1]; exact h2, by rw [hl.2.2.1]; exact h3, by rw [he.1, he.2.1]; exact h4, by rw [he.2.1]; exact h5, by rw [he.2.1]; exact h6, fun i b hb => by rw [he.2.2.2.2.2.1]; exact h7 i b hb⟩
theorem c_AL_get {E : EV} {G : GH} {Post : Res → GH → Prop} {l b : Nat} {i : Int32} (h : LG G l i b) (k : Post (.inl (some (.ref b))) G) : Cl E 3 m_AL_get [.ref l, .int i] G Post := by
  obtain ⟨h1, h2, h3, e, n, h4, h5, h6, h7⟩ := h
  exact j_enter (L := [some (.ref l), some (.int i)]) me_AL_get (cat_c rfl (cat_c rfl cat_n)) (Nat.le_of_ble_eq_true rfl) rfl (wp_AL_get_0 l i ⟨h1, fun c => h2 c, fun _ => ⟨fun _ => ⟨e, h4, Or.inl h5, n, h6, b, h7, k⟩, fun c => c h3⟩⟩)
theorem c_AL_init {E : EV} {G : GH} {Post : Res → GH → Prop} {l : Nat} (h : gT G l = 12) (k : Post (.inl none) (sR (sI G 704 l 0) 705 l (some (eC E)))) : Cl E 3 m_AL_init [.ref l] G Post :=
  j_enter (L := [some (.ref l)]) me_AL_init (cat_c rfl cat_n) (Nat.le_of_ble_eq_true rfl) rfl (wp_AL_init_0 l ⟨h, k⟩)
/-- how large the next row is -/
def capN (c : Nat) : Nat := if c = 0 then 10 else c + c / 2
/-- what grow() makes: a new row, with what was in the old one -/
def grown (G : GH) (l e c : Nat) : GH := sR (sW (al G 23 (capN c)) (gz G) (fun i => if i < c then gO G e i else none)) 705 l (some (gz G))
