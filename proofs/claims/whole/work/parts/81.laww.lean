section LAWW
variable {E : EV} {G : GH} {Post : Res → GH → Prop} {o A : Nat → Nat} {x : XS} {p : Nat}
/-- the answers' row -/
def OutR (G : GH) (o A : Nat → Nat) : Prop := gT G (A 32) = 22 ∧ gN G (A 32) = 1 ∧ o (A 32) = A 32 ∧ A 32 < gz G
theorem OutR.stp {G' : GH} {o' : Nat → Nat} {S : List Nat} (h : OutR G o A) (s : Stq S G o G' o') : OutR G' o' A := ⟨(s.tg h.2.2.2).trans h.1, (s.ln h.2.2.2).trans h.2.1, (s.ow h.2.2.2).trans h.2.2.1, Nat.lt_of_lt_of_le h.2.2.2 s.le⟩
/-- a step of the law's other objects -/
theorem StS.ot {G' : GH} {o' : Nat → Nat} {js : List Nat} (hA : InjA A) (h : StS E G o A x p) (s : Stq (js.map A) G o G' o') (hj : ∀ j ∈ js, j < 34 ∧ 31 ≤ j) : StS E G' o' A x p := by
  obtain ⟨ea, p1, p2, p3, p4, p5, h, hp⟩ := h
  have n : ∀ i, i < 31 → i ∉ js := fun i hi z => by have := hj i z; omega
  have f := h.fr hA s (fun j hj' => (hj j hj').1)
  exact ⟨ea, p1, p2, p3, p4, p5, ⟨s.wf, (f.1 (n 0 (by omega))).1, f.2.1 (n 1 (by omega)), (f.1 (n 0 (by omega))).2, f.2.2.1 (n 28 (by omega)), f.2.2.2.1 (fun j hj' => n j (by simp at hj'; omega)), f.2.2.2.2.1 (fun j hj' => n j (by simp at hj'; omega)), f.2.2.2.2.2.1 (fun j hj' => n j (by simp at hj'; omega)), f.2.2.2.2.2.2.1 (fun j hj' => n j (by simp at hj'; omega)), f.2.2.2.2.2.2.2 (fun j hj' => n j (by simp at hj'; omega))⟩, hp⟩
def FrL (A : Nat → Nat) (G : GH) (o : Nat → Nat) (G' : GH) (o' : Nat → Nat) : Prop := ∃ S, (∀ j ∈ [31, 33], A j ∉ S) ∧ Stq S G o G' o'
abbrev KL (E : EV) (A : Nat → Nat) (G : GH) (o : Nat → Nat) (p : Nat) (Post : Res → GH → Prop) (f : OU) : Prop :=
  ∀ G' o' p', StS E G' o' A f.2.2 p' → FrL A G o G' o' → Cs G p G' (p' + 1) → OutR G' o' A → (f.1 = 0 → gL G' (A 32) 0 = Int32.toInt64 f.2.1) → Post (.inl (some (.int (nI f.1)))) G'
theorem StS.tg0 (h : StS E G o A x p) : gT G (A 0) = 10 := by
  obtain ⟨ea, p1, p2, p3, p4, p5, h, -⟩ := h
  exact h.2.1.1
/-- behind a call of the object: its answer is written, its exception told by a code -/
theorem lawT {G' : GH} {o' : Nat → Nat} {p' d pc : Nat} {m : MI} {L : List (Option Value)} {f : OU} {nm : List String} (hA : InjA A) (hO : OutR G o A) (k : KL E A G o p Post f) (y1 : StS E G' o' A f.2.2 p') (y2 : FrC A G o G' o') (y3 : Cs G p G' (p' + 1)) (hf : f.1 ≤ nm.length)
    (hJ : ∀ a, f.1 = 0 → f.2.1 = a → (gT G' (A 32) = 22 ∧ ∃ n3, IX (0 : Int32) n3 (gN G' (A 32)) ∧ Post (.inl (some (.int 0))) (sL G' (A 32) n3 (Int32.toInt64 a))) → J E d m (pc + 3) L [.int a, .int 0, .ref (A 32)] G' Post)
    (hH : ∀ n, n < nm.length → HE m pc (nm.getD n "") (nI (n + 1))) : aftH E d m pc L [.int 0, .ref (A 32)] Post (ouT nm f) G' := by
  obtain ⟨c, a, x'⟩ := f
  obtain ⟨S, hS, s⟩ := y2
  have hO' := hO.stp s
  cases c with
  | zero =>
    refine hJ a rfl rfl ⟨hO'.1, 0, ?_, ?_⟩
    · rw [hO'.2.1]; exact IX.nI (n := 0) (by omega) (by omega)
    · have s2 : Stq ([32].map A) G' o' (sL G' (A 32) 0 (Int32.toInt64 a)) o' := (Stq.rf s.wf).wL (fun _ => by rw [hO'.2.2.1]; exact in1)
      refine k _ o' p' (y1.ot hA s2 (by decide)) ⟨S ++ [32].map A, fun j hj => ?_, (s.mono (by intro z hz; simp [hz])).tr (s2.mono (by intro z hz; simp at hz; simp [hz]))⟩ y3 (hO'.stp s2) (fun _ => ?_)
      · rw [List.mem_append]
        refine fun z => z.elim (hS j (by simp at hj; simp; omega)) (hA.nj (i := j) (js := [32]) (by simp at hj; omega) (by decide) (by simp at hj; simp; omega))
      · show gL (sL G' (A 32) 0 (Int32.toInt64 a)) (A 32) 0 = _
        rw [gL_sL, if_pos ⟨rfl, rfl⟩]
  | succ n =>
    have hn : n < nm.length := hf
    exact ⟨nI (n + 1), hH n hn, k G' o' p' y1 ⟨S, fun j hj => hS j (by simp at hj; simp; omega), s⟩ y3 hO' (fun z => absurd z (by simp))⟩
end LAWW
section LAWF
variable {x : XS}
theorem fSlack_le {q v : Int32} : (fSlack x q v).1 ≤ 3 := by
  unfold fSlack
  repeat' split
  all_goals simp

theorem fAppend_le {q t kk v : Int32} : (fAppend x q t kk v).1 ≤ 3 := by
  unfold fAppend
  repeat' split
  all_goals simp

theorem fRead_le {q : Int32} : (fRead x q).1 ≤ 2 := by
  unfold fRead
  repeat' split
  all_goals simp

theorem fBarrier_le : (fBarrier x).1 ≤ 1 := by
  unfold fBarrier
  repeat' split
  all_goals simp

theorem fConfirm_le : (fConfirm x).1 ≤ 1 := by
  unfold fConfirm
  repeat' split
  all_goals simp

theorem fWorkers_le {q : Int32} : (fWorkers x q).1 ≤ 2 := by
  unfold fWorkers
  repeat' split
  all_goals simp

theorem fSourceWatermark_le {q : Int32} : (fSourceWatermark x q).1 ≤ 1 := by
  unfold fSourceWatermark
  repeat' split
  all_goals simp

theorem fOffset_le {q : Int32} : (fOffset x q).1 ≤ 1 := by
  unfold fOffset
  repeat' split
  all_goals simp

theorem fInChannel_le {q : Int32} : (fInChannel x q).1 ≤ 1 := by
  unfold fInChannel
  repeat' split
  all_goals simp

theorem fOpen_le {q : Int32} : (fOpen x q).1 ≤ 1 := by
  unfold fOpen
  repeat' split
  all_goals simp

theorem fSumAt_le {q t : Int32} : (fSumAt x q t).1 ≤ 2 := by
  unfold fSumAt
  repeat' split
  all_goals simp

theorem fResult_le {q s w : Int32} : (fResult x q s w).1 ≤ 2 := by
  unfold fResult
  repeat' split
  all_goals simp

theorem fResultAnew_le {q s w : Int32} : (fResultAnew x q s w).1 ≤ 2 := by
  unfold fResultAnew
  repeat' split
  all_goals simp

end LAWF
