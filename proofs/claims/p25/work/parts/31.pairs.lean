abbrev prP (reach : Int32) (a b : ET) : Prop := eS a + eS b = 1 ∧ eK a = eK b ∧ ¬ reach < (if eT b ≤ eT a then eT a - eT b else eT b - eT a) ∧ eX a ≤ eT a ∧ eX b ≤ eT b
theorem pr_tree {A B : Prop} {reach s1 t1 k1 x1 s2 t2 k2 x2 v1 v2 : Int32} (hy : prP reach (s1, t1, k1, v1, x1) (s2, t2, k2, v2, x2) → A) (hn : ¬ prP reach (s1, t1, k1, v1, x1) (s2, t2, k2, v2, x2) → B) :
    (¬ s1 + s2 = 1 → (t2 ≤ t1 → B) ∧ (¬ t2 ≤ t1 → B)) ∧ (s1 + s2 = 1 → (t2 ≤ t1 → (¬ k1 = k2 → B) ∧ (k1 = k2 → (reach < t1 - t2 → B) ∧ (¬ reach < t1 - t2 → (x1 ≤ t1 → (x2 ≤ t2 → A) ∧ (¬ x2 ≤ t2 → B)) ∧ (¬ x1 ≤ t1 → B)))) ∧ (¬ t2 ≤ t1 → (¬ k1 = k2 → B) ∧ (k1 = k2 → (reach < t2 - t1 → B) ∧ (¬ reach < t2 - t1 → (x1 ≤ t1 → (x2 ≤ t2 → A) ∧ (¬ x2 ≤ t2 → B)) ∧ (¬ x1 ≤ t1 → B))))) := by
  refine ⟨fun c => ⟨fun _ => hn (fun z => c z.1), fun _ => hn (fun z => c z.1)⟩, fun c => ⟨fun c1 => ⟨fun c2 => hn (fun z => c2 z.2.1), fun c2 => ⟨fun c3 => hn (fun z => z.2.2.1 ?_), fun c3 => ⟨fun c4 => ⟨fun c5 => hy ⟨c, c2, ?_, c4, c5⟩, fun c5 => hn (fun z => c5 z.2.2.2.2)⟩, fun c4 => hn (fun z => c4 z.2.2.2.1)⟩⟩⟩, fun c1 => ⟨fun c2 => hn (fun z => c2 z.2.1), fun c2 => ⟨fun c3 => hn (fun z => z.2.2.1 ?_), fun c3 => ⟨fun c4 => ⟨fun c5 => hy ⟨c, c2, ?_, c4, c5⟩, fun c5 => hn (fun z => c5 z.2.2.2.2)⟩, fun c4 => hn (fun z => c4 z.2.2.2.1)⟩⟩⟩⟩⟩
  · show reach < if t2 ≤ t1 then t1 - t2 else t2 - t1
    rw [if_pos c1]; exact c3
  · show ¬ reach < if t2 ≤ t1 then t1 - t2 else t2 - t1
    rw [if_pos c1]; exact c3
  · show reach < if t2 ≤ t1 then t1 - t2 else t2 - t1
    rw [if_neg c1]; exact c3
  · show ¬ reach < if t2 ≤ t1 then t1 - t2 else t2 - t1
    rw [if_neg c1]; exact c3
/-- how many of them pair with x -/
def cntP (reach : Int32) (x : ET) : Int32 → List ET → Int32
  | c, [] => c
  | c, e :: L => cntP reach x (if prP reach e x then c + 1 else c) L
def cntQ (reach : Int32) (x : ET) : Int32 → List ET → Int32
  | c, [] => c
  | c, e :: L => cntQ reach x (if prP reach x e then c + 1 else c) L
/-- all pairs: what comes is paired with what came before (b) -/
def cntA (reach : Int32) : Int32 → List ET → List ET → Int32
  | c, _, [] => c
  | c, b, e :: L => cntA reach (cntQ reach e c b) (b ++ [e]) L
theorem drop_cons {xs : List Nat} {i b : Nat} (h : xs[i]? = some b) : xs.drop i = b :: xs.drop (i + 1) := by
  have hl : i < xs.length := (List.getElem?_eq_some_iff.mp h).1
  rw [List.drop_eq_getElem_cons hl]
  rw [List.getElem?_eq_getElem hl] at h
  rw [Option.some.inj h]
theorem c_countPairsOf {E : EV} {G : GH} {Post : Res → GH → Prop} {o : Nat → Nat} {hi lh ga cl c ev : Nat} {cw reach : Int32} {evs : List Nat} (h : HiR E G o hi lh ga evs cl cw c) (hev : gT G ev = 2)
    (k : Post (.inl (some (.int (cntP reach (rE G ev) 0 (evs.map (rE G)))))) G) : Cl E 4 m_Hi_countPairsOf [.ref hi, .ref ev, .int reach] G Post := by
  have hlen := h.len
  obtain ⟨a1, a2, a3, a4, a5, a6, a7, a8, a9, b1, b2⟩ := h
  have loop : ∀ (m i : Nat) (f : Int32), m + i = evs.length → cntP reach (rE G ev) f ((evs.drop i).map (rE G)) = cntP reach (rE G ev) 0 (evs.map (rE G)) → J E 4 m_Hi_countPairsOf 5 [some (.ref hi), some (.ref ev), some (.int reach), some (.int f), some (.int (nI i))] [] G Post := by
    intro m
    induction m with
    | zero =>
      intro i f hmi hf
      refine wp_Hi_countPairsOf_5 hi ev reach f (nI i) ⟨a1, lh, a3, b1.tg, ?_⟩
      rw [b1.sz, nI_leI (by omega) (by omega)]
      refine ⟨fun _ => ?_, fun z => absurd (by omega) z⟩
      rw [List.drop_eq_nil_of_le (by omega)] at hf
      rw [← hf] at k
      exact k
    | succ m ih =>
      intro i f hmi hf
      obtain ⟨b, hb⟩ : ∃ b, evs[i]? = some b := ⟨_, List.getElem?_eq_getElem (by omega)⟩
      rw [drop_cons hb] at hf
      have hf' : cntP reach (rE G ev) (if prP reach (rE G b) (rE G ev) then f + 1 else f) ((evs.drop (i + 1)).map (rE G)) = cntP reach (rE G ev) 0 (evs.map (rE G)) := hf
      refine wp_Hi_countPairsOf_5 hi ev reach f (nI i) ⟨a1, lh, a3, b1.tg, ?_⟩
      rw [b1.sz, nI_leI (by omega) (by omega), nI_1]
      exact ⟨fun z => absurd z (by omega), fun _ => ⟨b, b1.lg hb, b2 b (List.mem_of_getElem? hb), hev, pr_tree (v1 := gI G 67 b) (v2 := gI G 67 ev) (fun hy => ih (i + 1) (f + 1) (by omega) (by rw [← hf']; exact congrArg (fun z => cntP reach (rE G ev) z _) (if_pos hy).symm)) (fun hn => ih (i + 1) f (by omega) (by rw [← hf']; exact congrArg (fun z => cntP reach (rE G ev) z _) (if_neg hn).symm))⟩⟩
  refine j_enter (L := [some (.ref hi), some (.ref ev), some (.int reach), none, none]) me_Hi_countPairsOf (cat_c rfl (cat_c rfl (cat_c rfl cat_n))) (Nat.le_of_ble_eq_true rfl) rfl (wp_Hi_countPairsOf_0 hi ev reach ?_)
  exact loop evs.length 0 0 rfl rfl
theorem c_countPairs {E : EV} {G : GH} {Post : Res → GH → Prop} {o : Nat → Nat} {hi lh ga cl c : Nat} {cw reach : Int32} {evs : List Nat} (h : HiR E G o hi lh ga evs cl cw c)
    (k : Post (.inl (some (.int (cntA reach 0 [] (evs.map (rE G)))))) G) : Cl E 4 m_Hi_countPairs [.ref hi, .int reach] G Post := by
  have hlen := h.len
  obtain ⟨a1, a2, a3, a4, a5, a6, a7, a8, a9, b1, b2⟩ := h
  have inner : ∀ (i : Nat) (a : Nat), evs[i]? = some a → ∀ (m j : Nat) (f g : Int32), m + j = i → cntQ reach (rE G a) f (((evs.take i).drop j).map (rE G)) = g → J E 4 m_Hi_countPairs 4 [some (.ref hi), some (.int reach), some (.int g), some (.int (nI (i + 1))), none] [] G Post → J E 4 m_Hi_countPairs 18 [some (.ref hi), some (.int reach), some (.int f), some (.int (nI i)), some (.int (nI j))] [] G Post := by
    intro i a ha m
    have hil : i < evs.length := (List.getElem?_eq_some_iff.mp ha).1
    induction m with
    | zero =>
      intro j f g hmj hf hk
      refine wp_Hi_countPairs_18 hi reach f (nI i) (nI j) ?_
      rw [nI_leI (by omega) (by omega), nI_1]
      refine ⟨fun _ => ?_, fun z => absurd (by omega) z⟩
      rw [List.drop_eq_nil_of_le (by rw [List.length_take]; omega)] at hf
      have hf' : f = g := hf
      rw [hf']; exact hk
    | succ m ih =>
      intro j f g hmj hf hk
      obtain ⟨b, hb⟩ : ∃ b, evs[j]? = some b := ⟨_, List.getElem?_eq_getElem (by omega)⟩
      rw [take_drop_cons hb (by omega)] at hf
      have hf' : cntQ reach (rE G a) (if prP reach (rE G a) (rE G b) then f + 1 else f) (((evs.take i).drop (j + 1)).map (rE G)) = g := hf
      refine wp_Hi_countPairs_18 hi reach f (nI i) (nI j) ?_
      rw [nI_leI (by omega) (by omega), nI_1 i, nI_1 j]
      exact ⟨fun z => absurd z (by omega), fun _ => ⟨a1, lh, a3, b1.tg, a, b1.lg ha, b2 a (List.mem_of_getElem? ha), b, b1.lg hb, b2 b (List.mem_of_getElem? hb), pr_tree (v1 := gI G 67 a) (v2 := gI G 67 b) (fun hy => ih (j + 1) (f + 1) g (by omega) (by rw [← hf']; exact congrArg (fun z => cntQ reach (rE G a) z _) (if_pos hy).symm) hk) (fun hn => ih (j + 1) f g (by omega) (by rw [← hf']; exact congrArg (fun z => cntQ reach (rE G a) z _) (if_neg hn).symm) hk)⟩⟩
  have loop : ∀ (m i : Nat) (f : Int32), m + i = evs.length → cntA reach f ((evs.take i).map (rE G)) ((evs.drop i).map (rE G)) = cntA reach 0 [] (evs.map (rE G)) → J E 4 m_Hi_countPairs 4 [some (.ref hi), some (.int reach), some (.int f), some (.int (nI i)), none] [] G Post := by
    intro m
    induction m with
    | zero =>
      intro i f hmi hf
      refine wp_Hi_countPairs_4 hi reach f (nI i) ⟨a1, lh, a3, b1.tg, ?_⟩
      rw [b1.sz, nI_leI (by omega) (by omega)]
      refine ⟨fun _ => ?_, fun z => absurd (by omega) z⟩
      rw [List.drop_eq_nil_of_le (by omega)] at hf
      have hf' : f = cntA reach 0 [] (evs.map (rE G)) := hf
      rw [hf']; exact k
    | succ m ih =>
      intro i f hmi hf
      obtain ⟨a, ha⟩ : ∃ a, evs[i]? = some a := ⟨_, List.getElem?_eq_getElem (by omega)⟩
      rw [drop_cons ha] at hf
      have hf' : cntA reach (cntQ reach (rE G a) f ((evs.take i).map (rE G))) ((evs.take i).map (rE G) ++ [rE G a]) ((evs.drop (i + 1)).map (rE G)) = cntA reach 0 [] (evs.map (rE G)) := hf
      refine wp_Hi_countPairs_4 hi reach f (nI i) ⟨a1, lh, a3, b1.tg, ?_⟩
      rw [b1.sz, nI_leI (by omega) (by omega)]
      refine ⟨fun z => absurd z (by omega), fun _ => inner i a ha i 0 f _ rfl rfl (ih (i + 1) _ (by omega) ?_)⟩
      rw [take_succ' ha, List.map_append]
      exact hf'
  refine j_enter (L := [some (.ref hi), some (.int reach), none, none, none]) me_Hi_countPairs (cat_c rfl (cat_c rfl cat_n)) (Nat.le_of_ble_eq_true rfl) rfl (wp_Hi_countPairs_0 hi reach ?_)
  exact loop evs.length 0 0 rfl rfl
