/-! the whole object, at fixed addresses A: 0 itself, 1 Job, 2 Source[], 3-5 sources, 6-8 their lists, 9 now, 10-12 its rows, 13 Windows, 14 15 its lists, 16-22 the same of snapshot, 23 History, 24 its list, 25 gathered, 26 Sink, 27 its list, 28 Barrier, 29 30 its rows -/
def InjA (A : Nat → Nat) : Prop := ∀ i j, i < 31 → j < 31 → A i = A j → i = j
theorem InjA.ne {A : Nat → Nat} (h : InjA A) {i j : Nat} (hi : i < 31) (hj : j < 31) (hij : i ≠ j) : A i ≠ A j := fun z => hij (h i j hi hj z)
theorem InjA.nm {A : Nat → Nat} (h : InjA A) {i : Nat} {js : List Nat} (hi : i < 31) (hj : ∀ j ∈ js, j < 31 ∧ j ≠ i) : A i ∉ js.map A := fun z => by
  obtain ⟨j, hj1, hj2⟩ := List.mem_map.mp z
  exact (hj j hj1).2 (h j i (hj j hj1).1 hi hj2)
/-- the sources: their events ev s, the room of their lists c s -/
def SoR (E : EV) (G : GH) (o : Nat → Nat) (A : Nat → Nat) (ev : Nat → List Nat) (c : Nat → Nat) : Prop :=
  gT G (A 2) = 24 ∧ gN G (A 2) = 3 ∧ o (A 2) = A 2 ∧ ∀ s, s < 3 → gO G (A 2) s = some (A (3 + s)) ∧ gT G (A (3 + s)) = 7 ∧ o (A (3 + s)) = A (3 + s) ∧ gR G 384 (A (3 + s)) = some (A (6 + s)) ∧ LA E G o (A (6 + s)) (ev s) (c s) ∧ (ev s).Nodup ∧ ∀ e ∈ ev s, gT G e = 2 ∧ o e = A (3 + s)
def StR (G : GH) (o : Nat → Nat) (A : Nat → Nat) : Prop :=
  gT G (A 0) = 10 ∧ o (A 0) = A 0 ∧ gT G (A 1) = 4 ∧ o (A 1) = A 1 ∧ gR G 576 (A 0) = some (A 1) ∧ gR G 577 (A 0) = some (A 2) ∧ gR G 578 (A 0) = some (A 9) ∧ gR G 579 (A 0) = some (A 16) ∧ gR G 580 (A 0) = some (A 23) ∧ gR G 581 (A 0) = some (A 26) ∧ gR G 582 (A 0) = some (A 28)
theorem StR.stp {S : List Nat} {G G' : GH} {o o' : Nat → Nat} {A : Nat → Nat} (h : StR G o A) (hw : Wf G) (s : Stq S G o G' o') (hR : ∀ f, gR G' f (A 0) = gR G f (A 0)) : StR G' o' A := by
  obtain ⟨a1, a2, a3, a4, b⟩ := h
  refine ⟨s.tg' hw a1 (by omega), (s.ow (hw _ (by omega))).trans a2, s.tg' hw a3 (by omega), (s.ow (hw _ (by omega))).trans a4, ?_⟩
  rw [hR, hR, hR, hR, hR, hR, hR]
  exact b
