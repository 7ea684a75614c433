section COMES2
variable {E : EV} {G : GH} {Post : Res → GH → Prop} {m : Nat} {B : Nat → Nat} {F : Nat → Int32} {T : Nat → Nat → Int32} {th : Int32} {y : XS} {Jd : List Nat} {JK : Nat}
theorem addN_snoc (k sz s : Int32) : ∀ (ss : List Int32) (W : List WT), addN k sz W (ss ++ [s]) = (if ∃ w ∈ addN k sz W ss, isW k s w then addN k sz W ss else addN k sz W ss ++ [(k, s, s + sz, 0, 0, 0)])
  | [], W => rfl
  | t :: ss, W => by
    show addN k sz _ (ss ++ [s]) = _
    rw [addN_snoc k sz s ss]
    rfl
theorem filt_one {W : List WT} {k s : Int32} {w : WT} (hu : UQ W) (hw : w ∈ W) (hs : isW k s w) : W.filter (fun x => decide (isW k s x)) = [w] := by
  obtain ⟨i, hi⟩ := getElem?_mem' hw
  obtain ⟨l1, l2, e1, -⟩ := set_split hi
  rw [e1] at hu
  unfold UQ at hu
  rw [List.pairwise_append, List.pairwise_cons] at hu
  obtain ⟨h1, ⟨h2, h3⟩, h4⟩ := hu
  have n1 : l1.filter (fun x => decide (isW k s x)) = [] := List.filter_eq_nil_iff.mpr (fun x hx => by
    rw [decide_eq_true_eq]
    exact fun z => h4 x hx w List.mem_cons_self ⟨z.1.trans hs.1.symm, z.2.trans hs.2.symm⟩)
  have n2 : l2.filter (fun x => decide (isW k s x)) = [] := List.filter_eq_nil_iff.mpr (fun x hx => by
    rw [decide_eq_true_eq]
    exact fun z => h2 x hx ⟨hs.1.trans z.1.symm, hs.2.trans z.2.symm⟩)
  rw [e1, List.filter_append, List.filter_cons, if_pos (decide_eq_true hs), n1, n2]; rfl
theorem set_splitL {α : Type} {w : α} : ∀ {W : List α} {i : Nat}, W[i]? = some w → ∃ l1 l2, W = l1 ++ w :: l2 ∧ l1.length = i ∧ ∀ v, W.set i v = l1 ++ v :: l2
  | [], i, h => by simp at h
  | x :: W, 0, h => by
    have e : x = w := by simpa using h
    exact ⟨[], W, by rw [e]; rfl, rfl, fun v => rfl⟩
  | x :: W, i + 1, h => by
    obtain ⟨l1, l2, e1, e3, e2⟩ := set_splitL (W := W) (i := i) (by simpa using h)
    exact ⟨x :: l1, l2, by rw [e1]; rfl, by rw [List.length_cons, e3], fun v => by rw [List.set_cons_succ, e2]; rfl⟩
/-- what the event's windows have written before, and behind it -/
def cmR1 (k : Int32) (W1 : List WT) (ss : List Int32) : List WT := ss.flatMap (fun s => (W1.filter (fun x => decide (isW k s x))).flatMap (fun w => if wO w = 0 then [] else [setO w 0]))
def cmR2 (k v : Int32) (W1 : List WT) (ss : List Int32) : List WT := ss.flatMap (fun s => (W1.filter (fun x => decide (isW k s x))).flatMap (fun w => if wO w = 0 then [] else [setO (addV w v) 1]))
def cmW (k v : Int32) (W1 : List WT) (ss : List Int32) : List WT := W1.map (fun w => if wK w = k ∧ wS w ∈ ss then addV w v else w)
theorem cmW_step {k v s : Int32} {W1 : List WT} {ss : List Int32} {i : Nat} {w : WT} (hu : UQ W1) (hi : W1[i]? = some w) (hs : isW k s w) (hn : s ∉ ss) : (cmW k v W1 ss)[i]? = some w ∧ cmW k v W1 (ss ++ [s]) = (cmW k v W1 ss).set i (addV w v) := by
  obtain ⟨l1, l2, e1, il, e2⟩ := set_splitL hi
  have hu' := hu
  rw [e1] at hu'
  unfold UQ at hu'
  rw [List.pairwise_append, List.pairwise_cons] at hu'
  obtain ⟨h1, ⟨h2, h3⟩, h4⟩ := hu'
  have same : ∀ x, ¬ (wK x = wK w ∧ wS x = wS w) → (if wK x = k ∧ wS x ∈ ss ++ [s] then addV x v else x) = if wK x = k ∧ wS x ∈ ss then addV x v else x := fun x hx => by
    by_cases c : wK x = k ∧ wS x ∈ ss
    · rw [if_pos c, if_pos ⟨c.1, List.mem_append_left _ c.2⟩]
    · rw [if_neg c, if_neg (fun z => by
        rcases List.mem_append.mp z.2 with z2 | z2
        · exact c ⟨z.1, z2⟩
        · rw [List.mem_singleton] at z2
          exact hx ⟨z.1.trans hs.1.symm, z2.trans hs.2.symm⟩)]
  have hw1 : (if wK w = k ∧ wS w ∈ ss then addV w v else w) = w := if_neg (fun z => hn (hs.2 ▸ z.2))
  have hw2 : (if wK w = k ∧ wS w ∈ ss ++ [s] then addV w v else w) = addV w v := if_pos ⟨hs.1, List.mem_append_right _ (List.mem_singleton.mpr hs.2)⟩
  have m1 : cmW k v W1 ss = l1.map (fun w => if wK w = k ∧ wS w ∈ ss then addV w v else w) ++ w :: l2.map (fun w => if wK w = k ∧ wS w ∈ ss then addV w v else w) := by
    unfold cmW
    rw [e1, List.map_append, List.map_cons, hw1]
  have m2 : cmW k v W1 (ss ++ [s]) = l1.map (fun w => if wK w = k ∧ wS w ∈ ss then addV w v else w) ++ addV w v :: l2.map (fun w => if wK w = k ∧ wS w ∈ ss then addV w v else w) := by
    unfold cmW
    rw [e1, List.map_append, List.map_cons, hw2]
    congr 1
    · exact List.map_congr_left (fun x hx => same x (fun z => h4 x hx w List.mem_cons_self z))
    · congr 1
      exact List.map_congr_left (fun x hx => same x (fun z => h2 x hx ⟨z.1.symm, z.2.symm⟩))
  refine ⟨?_, ?_⟩
  · rw [m1, List.getElem?_append_right (by rw [List.length_map]; omega), List.length_map, il, Nat.sub_self]; rfl
  · rw [m1, m2, List.set_append_right _ _ (by rw [List.length_map]; omega), List.length_map, il, Nat.sub_self]; rfl
/-- the row of hits -/
def HT (F : Nat → Int32) (T : Nat → Nat → Int32) (H : List Nat) : Prop := F 31 = nI H.length ∧ ∀ j i, H[j]? = some i → T 30 j = nI i
end COMES2
