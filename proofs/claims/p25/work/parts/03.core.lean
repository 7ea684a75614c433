/-! THE GHOST HEAP: a tuple of total maps. gT: the tag of an address (class number + 1; 20 int row, 21 boolean row, 22 long row, 23 row of objects, 24 row of sources, 25 the script, 26 ArrayList's own empty row; 0 nothing). gI, gR: int and reference fields, by field number (64 * class number + place) and address. gN: lengths; gA, gO, gL: contents of rows. gz: the heap's size; gs: the slots used -/
abbrev GH : Type := (Nat → Nat) × (Nat → Nat → Int32) × (Nat → Nat → Option Nat) × (Nat → Nat) × (Nat → Nat → Int32) × (Nat → Nat → Option Nat) × (Nat → Nat → Int64) × Nat × Nat
def gT (G : GH) : Nat → Nat := G.1
def gI (G : GH) : Nat → Nat → Int32 := G.2.1
def gR (G : GH) : Nat → Nat → Option Nat := G.2.2.1
def gN (G : GH) : Nat → Nat := G.2.2.2.1
def gA (G : GH) : Nat → Nat → Int32 := G.2.2.2.2.1
def gO (G : GH) : Nat → Nat → Option Nat := G.2.2.2.2.2.1
def gL (G : GH) : Nat → Nat → Int64 := G.2.2.2.2.2.2.1
def gz (G : GH) : Nat := G.2.2.2.2.2.2.2.1
def gs (G : GH) : Nat := G.2.2.2.2.2.2.2.2
def up2 {α : Type} (F : Nat → Nat → α) (i j : Nat) (v : α) : Nat → Nat → α := fun a b => if a = i ∧ b = j then v else F a b
def up1 {α : Type} (F : Nat → α) (i : Nat) (v : α) : Nat → α := fun a => if a = i then v else F a
def sI (G : GH) (f a : Nat) (v : Int32) : GH := (gT G, up2 (gI G) f a v, gR G, gN G, gA G, gO G, gL G, gz G, gs G)
def sR (G : GH) (f a : Nat) (v : Option Nat) : GH := (gT G, gI G, up2 (gR G) f a v, gN G, gA G, gO G, gL G, gz G, gs G)
def sA (G : GH) (a i : Nat) (v : Int32) : GH := (gT G, gI G, gR G, gN G, up2 (gA G) a i v, gO G, gL G, gz G, gs G)
def sO (G : GH) (a i : Nat) (v : Option Nat) : GH := (gT G, gI G, gR G, gN G, gA G, up2 (gO G) a i v, gL G, gz G, gs G)
def sL (G : GH) (a i : Nat) (v : Int64) : GH := (gT G, gI G, gR G, gN G, gA G, gO G, up2 (gL G) a i v, gz G, gs G)
/-- a whole row of references -/
def sW (G : GH) (a : Nat) (row : Nat → Option Nat) : GH := (gT G, gI G, gR G, gN G, gA G, up1 (gO G) a row, gL G, gz G, gs G)
/-- a new cell with tag t, of n slots -/
def al (G : GH) (t n : Nat) : GH := (up1 (gT G) (gz G) t, fun f a => if a = gz G then 0 else gI G f a, fun f a => if a = gz G then none else gR G f a, up1 (gN G) (gz G) n, fun a i => if a = gz G then 0 else gA G a i, fun a i => if a = gz G then none else gO G a i, fun a i => if a = gz G then 0 else gL G a i, gz G + 1, gs G + n)
/-- cells that nobody looks at -/
def bump (G : GH) (k n : Nat) : GH := (fun a => if a < gz G then gT G a else 0, gI G, gR G, gN G, gA G, gO G, gL G, gz G + k, gs G + n)
/-- the same at an address -/
def Sm (G G' : GH) (q : Nat) : Prop := gT G' q = gT G q ∧ gN G' q = gN G q ∧ (∀ f, gI G' f q = gI G f q) ∧ (∀ f, gR G' f q = gR G f q) ∧ (∀ i, gA G' q i = gA G q i) ∧ (∀ i, gO G' q i = gO G q i) ∧ (∀ i, gL G' q i = gL G q i)
theorem Sm.rf {G : GH} {q : Nat} : Sm G G q := ⟨rfl, rfl, fun _ => rfl, fun _ => rfl, fun _ => rfl, fun _ => rfl, fun _ => rfl⟩
theorem Sm.tr {G G1 G2 : GH} {q : Nat} (h : Sm G G1 q) (h' : Sm G1 G2 q) : Sm G G2 q := ⟨h'.1.trans h.1, h'.2.1.trans h.2.1, fun f => (h'.2.2.1 f).trans (h.2.2.1 f), fun f => (h'.2.2.2.1 f).trans (h.2.2.2.1 f), fun f => (h'.2.2.2.2.1 f).trans (h.2.2.2.2.1 f), fun f => (h'.2.2.2.2.2.1 f).trans (h.2.2.2.2.2.1 f), fun f => (h'.2.2.2.2.2.2 f).trans (h.2.2.2.2.2.2 f)⟩
theorem sI_sm {G : GH} {f a q : Nat} {v : Int32} (h : q ≠ a) : Sm G (sI G f a v) q := ⟨rfl, rfl, fun g => if_neg (fun z => h z.2), fun _ => rfl, fun _ => rfl, fun _ => rfl, fun _ => rfl⟩
theorem sR_sm {G : GH} {f a q : Nat} {v : Option Nat} (h : q ≠ a) : Sm G (sR G f a v) q := ⟨rfl, rfl, fun _ => rfl, fun g => if_neg (fun z => h z.2), fun _ => rfl, fun _ => rfl, fun _ => rfl⟩
theorem sA_sm {G : GH} {i a q : Nat} {v : Int32} (h : q ≠ a) : Sm G (sA G a i v) q := ⟨rfl, rfl, fun _ => rfl, fun _ => rfl, fun g => if_neg (fun z => h z.1), fun _ => rfl, fun _ => rfl⟩
theorem sO_sm {G : GH} {i a q : Nat} {v : Option Nat} (h : q ≠ a) : Sm G (sO G a i v) q := ⟨rfl, rfl, fun _ => rfl, fun _ => rfl, fun _ => rfl, fun g => if_neg (fun z => h z.1), fun _ => rfl⟩
theorem sL_sm {G : GH} {i a q : Nat} {v : Int64} (h : q ≠ a) : Sm G (sL G a i v) q := ⟨rfl, rfl, fun _ => rfl, fun _ => rfl, fun _ => rfl, fun _ => rfl, fun g => if_neg (fun z => h z.1)⟩
theorem sW_sm {G : GH} {a q : Nat} {v : Nat → Option Nat} (h : q ≠ a) : Sm G (sW G a v) q := ⟨rfl, rfl, fun _ => rfl, fun _ => rfl, fun _ => rfl, fun g => congrFun (if_neg h) g, fun _ => rfl⟩
theorem al_sm {G : GH} {t n q : Nat} (h : q ≠ gz G) : Sm G (al G t n) q := ⟨if_neg h, if_neg h, fun _ => if_neg h, fun _ => if_neg h, fun _ => if_neg h, fun _ => if_neg h, fun _ => if_neg h⟩
theorem bump_sm {G : GH} {k n q : Nat} (h : q < gz G) : Sm G (bump G k n) q := ⟨if_pos h, rfl, fun _ => rfl, fun _ => rfl, fun _ => rfl, fun _ => rfl, fun _ => rfl⟩
/-! what the machine's numbers are: the launch, the classes' numbers and slots, the array classes by tags, where the ghost heap begins, ArrayList's own empty row, the class object of Object[] -/
abbrev EV : Type := Launch × va_G × (Nat → ClassId) × Nat × Nat × Nat
abbrev eL (E : EV) : Launch := E.1
abbrev eD (E : EV) : va_G := E.2.1
abbrev eA (E : EV) : Nat → ClassId := E.2.2.1
abbrev eB (E : EV) : Nat := E.2.2.2.1
abbrev eC (E : EV) : Nat := E.2.2.2.2.1
abbrev eM (E : EV) : Nat := E.2.2.2.2.2
def fv (G : GH) (ci k a : Nat) : Value := if isR ci k then va_rf (gR G (64 * ci + k) a) else .int (gI G (64 * ci + k) a)
def flds (G : GH) (ci a : Nat) : List Value := (List.range (nF ci)).map (fun k => fv G ci k a)
def cell (E : EV) (G : GH) (a : Nat) : Option va_E :=
  if gT G a = 0 then none else if gT G a < 20 then some (.inr (gT G a - 1, flds G (gT G a - 1) a))
  else if gT G a = 20 then some (.inl (eA E 20, gN G a, .inl (gA G a)))
  else if gT G a = 21 then some (.inl (eA E 21, gN G a, .inl (gA G a)))
  else if gT G a = 22 then some (.inl (eA E 22, gN G a, .inr (.inl (gL G a))))
  else if gT G a = 23 then some (.inl (eA E 23, gN G a, .inr (.inr (.inr (.inr (gO G a))))))
  else if gT G a = 24 then some (.inl (eA E 24, gN G a, .inr (.inr (.inr (.inr (gO G a))))))
  else none
theorem flds_at {G : GH} {ci k a : Nat} (h : k < nF ci) : (flds G ci a)[k]? = some (fv G ci k a) := by simp [flds, h]
theorem flds_V {G : GH} {ci k a : Nat} (h : k < nF ci) : vp_V (flds G ci a) k = fv G ci k a := by
  unfold vp_V
  rw [List.getD_eq_getElem?_getD, flds_at h]
  rfl
theorem flds_same {G G' : GH} {ci a : Nat} (h : Sm G G' a) : flds G' ci a = flds G ci a := by
  unfold flds fv
  simp only [h.2.2.1, h.2.2.2.1]
theorem cell_same {E : EV} {G G' : GH} {q : Nat} (h : Sm G G' q) : cell E G' q = cell E G q := by
  unfold cell
  have e1 : gA G' q = gA G q := funext h.2.2.2.2.1
  have e2 : gO G' q = gO G q := funext h.2.2.2.2.2.1
  have e3 : gL G' q = gL G q := funext h.2.2.2.2.2.2
  rw [h.1, h.2.1, e1, e2, e3, flds_same h]
theorem cell_obj {E : EV} {G : GH} {a ci : Nat} (h : gT G a = ci + 1) (hc : ci < 19) : cell E G a = some (.inr (ci, flds G ci a)) := by
  unfold cell
  rw [h, if_neg (by omega), if_pos (by omega), Nat.add_sub_cancel]
theorem cell_20 {E : EV} {G : GH} {a : Nat} (h : gT G a = 20) : cell E G a = some (.inl (eA E 20, gN G a, .inl (gA G a))) := by
  unfold cell
  rw [if_neg (by omega), if_neg (by omega), if_pos h]
theorem cell_21 {E : EV} {G : GH} {a : Nat} (h : gT G a = 21) : cell E G a = some (.inl (eA E 21, gN G a, .inl (gA G a))) := by
  unfold cell
  rw [if_neg (by omega), if_neg (by omega), if_neg (by omega), if_pos h]
theorem cell_22 {E : EV} {G : GH} {a : Nat} (h : gT G a = 22) : cell E G a = some (.inl (eA E 22, gN G a, .inr (.inl (gL G a)))) := by
  unfold cell
  rw [if_neg (by omega), if_neg (by omega), if_neg (by omega), if_neg (by omega), if_pos h]
theorem cell_23 {E : EV} {G : GH} {a : Nat} (h : gT G a = 23) : cell E G a = some (.inl (eA E 23, gN G a, .inr (.inr (.inr (.inr (gO G a)))))) := by
  unfold cell
  rw [if_neg (by omega), if_neg (by omega), if_neg (by omega), if_neg (by omega), if_neg (by omega), if_pos h]
theorem cell_24 {E : EV} {G : GH} {a : Nat} (h : gT G a = 24) : cell E G a = some (.inl (eA E 24, gN G a, .inr (.inr (.inr (.inr (gO G a)))))) := by
  unfold cell
  rw [if_neg (by omega), if_neg (by omega), if_neg (by omega), if_neg (by omega), if_neg (by omega), if_neg (by omega), if_pos h]
/-- two old rows (the script, ArrayList's own empty row): of these cells the tables say class and contents, not who holds their lock -/
def wcell (E : EV) (G : GH) (a : Nat) : Option (ClassId × vp_A) :=
  if gT G a = 25 then some (eA E 25, gN G a, .inl (gA G a)) else if gT G a = 26 then some (eA E 23, gN G a, .inr (.inr (.inr (.inr (gO G a))))) else none
def WC (c c0 : Cell) : Prop := c.cls = c0.cls ∧ c.slots = c0.slots ∧ c.vm ≠ .unknown ∧ ∀ k, c.vm ≠ .statics k
theorem WC.self {cA : ClassId} {n : Nat} {z : Nat → Value} : WC (arrV cA n z) (arrV cA n z) := ⟨rfl, rfl, fun h => (by cases h), fun _ h => (by cases h)⟩
theorem WC.arr {U : State} {c : Cell} {cA : ClassId} {n : Nat} {z : Nat → Value} {ty : FieldType} (h : WC c (arrV cA n z)) (hA : ArrOfT U cA ty) : U.isArrayOf c ty := by
  obtain ⟨-, k, hk, r⟩ := hA n z
  exact ⟨h.2.2.2, k, by rw [h.1]; exact hk, r⟩
theorem wcell_tag {E : EV} {G : GH} {a : Nat} {e : ClassId × vp_A} (h : wcell E G a = some e) : gT G a = 25 ∨ gT G a = 26 := by
  unfold wcell at h
  by_cases h1 : gT G a = 25
  · exact Or.inl h1
  · by_cases h2 : gT G a = 26
    · exact Or.inr h2
    · rw [if_neg h1, if_neg h2] at h; cases h
theorem wcell_25 {E : EV} {G : GH} {a : Nat} (h : gT G a = 25) : wcell E G a = some (eA E 25, gN G a, .inl (gA G a)) := if_pos h
theorem wcell_26 {E : EV} {G : GH} {a : Nat} (h : gT G a = 26) : wcell E G a = some (eA E 23, gN G a, .inr (.inr (.inr (.inr (gO G a))))) := by
  unfold wcell
  rw [if_neg (by omega), if_pos h]
theorem wcell_same {E : EV} {G G' : GH} {q : Nat} (h : Sm G G' q) : wcell E G' q = wcell E G q := by
  unfold wcell
  have e1 : gA G' q = gA G q := funext h.2.2.2.2.1
  have e2 : gO G' q = gO G q := funext h.2.2.2.2.2.1
  rw [h.1, h.2.1, e1, e2]
def WP (E : EV) (G : GH) (H : Heap) : Prop := ∀ a e, wcell E G a = some e → a < eB E ∧ ∃ c : Cell, H[a]? = some c ∧ WC c (vp_cell e.1 e.2)
theorem WP.one {E : EV} {G G' : GH} {H H' : Heap} {q : Nat} {e : ClassId × vp_A} (h : WP E G H) (hs : Sm G G' q) (ho : q < H.size → H'[q]? = H[q]?) (he : wcell E G' q = some e) : q < eB E ∧ ∃ c : Cell, H'[q]? = some c ∧ WC c (vp_cell e.1 e.2) := by
  rw [wcell_same hs] at he
  obtain ⟨h1, c, h2, h3⟩ := h q e he
  exact ⟨h1, c, by rw [ho (Array.getElem?_eq_some_iff.mp h2).1]; exact h2, h3⟩
/-- the real heap is as the ghost heap says -/
def GP (E : EV) (G : GH) (H : Heap) : Prop := H.size = gz G ∧ eB E ≤ gz G ∧ (∀ a, gT G a ≠ 0 → gT G a < 25 → eB E ≤ a) ∧ ((∀ a, gT G a ≠ 0 → a < gz G) ∧ WP E G H) ∧ ∀ a e, cell E G a = some e → va_at (eD E) kcl (a, e) H
theorem GP.upd {E : EV} {G G' : GH} {H H' : Heap} {a : Nat} (h : GP E G H) (hz : H'.size = H.size) (hg : gz G' = gz G) (oq : ∀ q, q ≠ a → H'[q]? = H[q]?) (hT : ∀ q, gT G' q = gT G q) (hc : ∀ q, q ≠ a → Sm G G' q) (ha : ∀ e, cell E G' a = some e → va_at (eD E) kcl (a, e) H') (ht : gT G a < 25) : GP E G' H' := by
  refine ⟨hz.trans (h.1.trans hg.symm), by rw [hg]; exact h.2.1, fun q h1 h2 => h.2.2.1 q (by rw [← hT]; exact h1) (by rw [← hT]; exact h2), ⟨fun q h1 => by rw [hg]; exact h.2.2.2.1.1 q (by rw [← hT]; exact h1), fun q e he => by
    have hq : q ≠ a := fun z => by
      have h1 := wcell_tag he
      rw [hT, z] at h1
      omega
    exact h.2.2.2.1.2.one (hc q hq) (fun _ => oq q hq) he⟩, fun q e he => ?_⟩
  by_cases hq : q = a
  · subst hq
    exact ha e he
  · rw [cell_same (hc q hq)] at he
    exact (h.2.2.2.2 q e he).kept (oq q hq)
theorem GP.push {E : EV} {G G' : GH} {H H' : Heap} (h : GP E G H) (hz : H'.size = H.size + 1) (hg : gz G' = gz G + 1) (oq : ∀ q, q < H.size → H'[q]? = H[q]?) (hc : ∀ q, q ≠ gz G → Sm G G' q) (ha : ∀ e, cell E G' (gz G) = some e → va_at (eD E) kcl (gz G, e) H') (ht : gT G' (gz G) < 25) : GP E G' H' := by
  refine ⟨by rw [hz, h.1, hg], by rw [hg]; exact Nat.le_succ_of_le h.2.1, fun q h1 h2 => ?_, ⟨fun q h1 => ?_, fun q e he => ?_⟩, fun q e he => ?_⟩
  · by_cases hq : q = gz G
    · rw [hq]; exact h.2.1
    · rw [(hc q hq).1] at h1 h2
      exact h.2.2.1 q h1 h2
  · by_cases hq : q = gz G
    · rw [hq, hg]; exact Nat.lt_succ_self _
    · rw [(hc q hq).1] at h1
      rw [hg]; exact Nat.lt_succ_of_lt (h.2.2.2.1.1 q h1)
  · have hq : q ≠ gz G := fun z => by
      have h1 := wcell_tag he
      rw [z] at h1
      omega
    exact h.2.2.2.1.2.one (hc q hq) (oq q) he
  · by_cases hq : q = gz G
    · subst hq
      exact ha e he
    · rw [cell_same (hc q hq)] at he
      have h1 := h.2.2.2.2 q e he
      exact h1.kept (oq q h1.lt)
theorem GP.bmp {E : EV} {G : GH} {H H' : Heap} {k n : Nat} (h : GP E G H) (hz : H'.size = H.size + k) (oq : ∀ q, q < H.size → H'[q]? = H[q]?) : GP E (bump G k n) H' := by
  have e0 : gz (bump G k n) = gz G + k := rfl
  have e1 : ∀ q, gT (bump G k n) q ≠ 0 → q < gz G ∧ gT (bump G k n) q = gT G q := by
    intro q hq
    by_cases hl : q < gz G
    · exact ⟨hl, if_pos hl⟩
    · exact absurd (show gT (bump G k n) q = 0 from if_neg hl) hq
  refine ⟨by rw [hz, h.1, e0], by rw [e0]; exact Nat.le_add_right_of_le h.2.1, fun q h1 h2 => ?_, ⟨fun q h1 => ?_, fun q e he => ?_⟩, fun q e he => ?_⟩
  · have h3 := (e1 q h1).2
    rw [h3] at h1 h2
    exact h.2.2.1 q h1 h2
  · rw [e0]; exact Nat.lt_add_right _ (e1 q h1).1
  · have hl : q < gz G := (e1 q (by have h1 := wcell_tag he; omega)).1
    exact h.2.2.2.1.2.one (bump_sm hl) (oq q) he
  · by_cases hl : q < gz G
    · rw [cell_same (bump_sm hl)] at he
      have h1 := h.2.2.2.2 q e he
      exact h1.kept (oq q h1.lt)
    · have : gT (bump G k n) q = 0 := if_neg hl
      unfold cell at he
      rw [if_pos this] at he
      cases he
theorem GP.one {E : EV} {G : GH} {H : Heap} {a : Nat} {e : va_E} (h : GP E G H) (he : cell E G a = some e) : va_P (eD E) kcl [(a, e)] H := by
  intro k q hk
  cases k with
  | zero => cases hk; exact h.2.2.2.2 a e he
  | succ k => simp at hk
theorem GP.two {E : EV} {G : GH} {H : Heap} {a b : Nat} {e e' : va_E} (h : GP E G H) (he : cell E G a = some e) (he' : cell E G b = some e') : va_P (eD E) kcl [(a, e), (b, e')] H := by
  intro k q hk
  match k, hk with
  | 0, hk => cases hk; exact h.2.2.2.2 a e he
  | 1, hk => cases hk; exact h.2.2.2.2 b e' he'
  | k + 2, hk => simp at hk
