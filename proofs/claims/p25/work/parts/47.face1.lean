/-! the face: code (0, or the place of the exception), answer, the object behind it -/
abbrev OU : Type := Nat × Int32 × XS
def ouT (nm : List String) (f : OU) : Res := match f.1 with
  | 0 => .inl (some (.int f.2.1))
  | n + 1 => .inr (nm.getD n "")
/-- a step of the object's own: reference, answers' row and script are as they were -/
def FrC (A : Nat → Nat) (G : GH) (o : Nat → Nat) (G' : GH) (o' : Nat → Nat) : Prop := ∃ S, (∀ j ∈ [31, 32, 33], A j ∉ S) ∧ Stq S G o G' o'
theorem FrC.ofA {A : Nat → Nat} {G G' : GH} {o o' : Nat → Nat} {js : List Nat} (hA : InjA A) (s : Stq (js.map A) G o G' o') (hj : ∀ j ∈ js, j < 31) : FrC A G o G' o' :=
  ⟨_, fun j hj' => hA.nj (by simp at hj'; omega) (fun i hi => by have := hj i hi; omega) (fun z => by have := hj j z; simp at hj'; omega), s⟩
abbrev KF (E : EV) (A : Nat → Nat) (G : GH) (o : Nat → Nat) (p : Nat) (Post : Res → GH → Prop) (nm : List String) (f : OU) : Prop :=
  ∀ G' o' p', StS E G' o' A f.2.2 p' → FrC A G o G' o' → Cs G p G' (p' + 1) → Post (ouT nm f) G'
abbrev xIO : String := "java/lang/IndexOutOfBoundsException"
abbrev xIA : String := "java/lang/IllegalArgumentException"
abbrev xIS : String := "java/lang/IllegalStateException"
section FACE
variable {E : EV} {G : GH} {Post : Res → GH → Prop} {o A : Nat → Nat} {x : XS} {p : Nat} {nm : List String}
theorem StS.wf (h : StS E G o A x p) : Wf G := by
  obtain ⟨ea, p1, p2, p3, p4, p5, h, -⟩ := h
  exact h.1
theorem Cs.one {G G' : GH} {p p' : Nat} (h : Cs G p G' p') : Cs G p G' (p' + 1) := ⟨by have := h.1; omega, by have := h.2; omega⟩
/-- a question -/
theorem KF.ask {a : Int32} (hA : InjA A) (h : StS E G o A x p) (k : KF E A G o p Post nm (0, a, x)) : Post (.inl (some (.int a))) G :=
  k G o p h (FrC.ofA (js := []) hA (Stq.rf h.wf) (by decide)) Cs.rf.one
theorem StS.bmp (hA : InjA A) (h : StS E G o A x p) {i n : Nat} : StS E (bump G i n) o A x p := by
  obtain ⟨ea, p1, p2, p3, p4, p5, h, hp⟩ := h
  have s : Stq ([].map A) G o (bump G i n) o := (Stq.rf h.1).bump
  have f := h.fr hA s (by decide)
  exact ⟨ea, p1, p2, p3, p4, p5, ⟨s.wf, (f.1 (by decide)).1, f.2.1 (by decide), (f.1 (by decide)).2, f.2.2.1 (by decide), f.2.2.2.1 (by decide), f.2.2.2.2.1 (by decide), f.2.2.2.2.2.1 (by decide), f.2.2.2.2.2.2.1 (by decide), f.2.2.2.2.2.2.2 (by decide)⟩, hp⟩
/-- a refusal -/
theorem KF.exc {n : Nat} {a : Int32} {X : String} (hA : InjA A) (h : StS E G o A x p) (k : KF E A G o p Post nm (n + 1, a, x)) (hX : nm.getD n "" = X) : Post (.inr X) (bump G 1 6) := by
  have := k (bump G 1 6) o p (h.bmp hA) (FrC.ofA (js := []) hA ((Stq.rf h.wf).bump) (by decide)) ⟨by show gz G + 1 + p ≤ _; omega, by show gs G + 6 + 6 * p ≤ _; omega⟩
  rw [← hX]
  exact this
def sIx (q : Int32) : Nat := if q < 0 then 3 else if q < 3 then q.toNatClampNeg else 3
theorem src3 {q : Int32} {X Y : Prop} (hx : ¬ sIx q < 3 → X) (hy : ∀ s, s < 3 → q = nI s → sIx q = s → Y) : (q < 0 → X) ∧ (¬ q < 0 → (q < (3 : Int32) → Y) ∧ (¬ q < (3 : Int32) → X)) := by
  refine ⟨fun h => hx ?_, fun h => ⟨fun h2 => ?_, fun h2 => hx ?_⟩⟩
  · unfold sIx; rw [if_pos h]; omega
  · have e : q = 0 ∨ q = 1 ∨ q = 2 := by
      have h3 := Int32.lt_iff_toInt_lt.mp h2
      have h4 : ¬ q.toInt < (0 : Int32).toInt := fun z => h (Int32.lt_iff_toInt_lt.mpr z)
      have e0 : (0 : Int32).toInt = 0 := by decide +kernel
      have e1 : (1 : Int32).toInt = 1 := by decide +kernel
      have e2 : (2 : Int32).toInt = 2 := by decide +kernel
      have e3 : (3 : Int32).toInt = 3 := by decide +kernel
      rw [e3] at h3
      rw [e0] at h4
      have : q.toInt = 0 ∨ q.toInt = 1 ∨ q.toInt = 2 := by omega
      rcases this with z | z | z
      · exact Or.inl (Int32.toInt_inj.mp (z.trans e0.symm))
      · exact Or.inr (Or.inl (Int32.toInt_inj.mp (z.trans e1.symm)))
      · exact Or.inr (Or.inr (Int32.toInt_inj.mp (z.trans e2.symm)))
    rcases e with e | e | e <;> subst e
    · exact hy 0 (by omega) rfl (by decide +kernel)
    · exact hy 1 (by omega) rfl (by decide +kernel)
    · exact hy 2 (by omega) rfl (by decide +kernel)
  · unfold sIx; rw [if_neg h, if_neg h2]; omega
theorem ix3 {s N : Nat} (hs : s < 3) (hN : N = 3) : IX (nI s) s N := IX.nI (by omega) (by omega)
def fWatermark (x : XS) : OU := (0, gMk (cN x), x)
theorem c_watermark (hA : InjA A) (h : StS E G o A x p) (k : KF E A G o p Post nm (fWatermark x)) : Cl E 1 m_St_watermark [.ref (A 0)] G Post := by
  have hk := k.ask hA h
  obtain ⟨ea, p1, p2, p3, p4, p5, ⟨hw, hR, hJ, hT, hB, hSo, hPg, hPs, hHi, hSi⟩, hp⟩ := h
  refine j_enter (L := [some (.ref (A 0))]) me_St_watermark (cat_c rfl cat_n) (Nat.le_of_ble_eq_true rfl) rfl (wp_St_watermark_0 (A 0) ⟨hR.1, A 9, hR.2.2.2.2.2.2.1, hPg.1.1, ?_⟩)
  rw [hPg.2.2.1]
  exact hk
def fDropped (x : XS) : OU := (0, gDr (cN x), x)
theorem c_dropped (hA : InjA A) (h : StS E G o A x p) (k : KF E A G o p Post nm (fDropped x)) : Cl E 1 m_St_dropped [.ref (A 0)] G Post := by
  have hk := k.ask hA h
  obtain ⟨ea, p1, p2, p3, p4, p5, ⟨hw, hR, hJ, hT, hB, hSo, hPg, hPs, hHi, hSi⟩, hp⟩ := h
  refine j_enter (L := [some (.ref (A 0))]) me_St_dropped (cat_c rfl cat_n) (Nat.le_of_ble_eq_true rfl) rfl (wp_St_dropped_0 (A 0) ⟨hR.1, A 9, hR.2.2.2.2.2.2.1, hPg.1.1, ?_⟩)
  rw [hPg.2.2.2.2.1]
  exact hk
def fPairs (x : XS) : OU := (0, gPa (cN x), x)
theorem c_pairs (hA : InjA A) (h : StS E G o A x p) (k : KF E A G o p Post nm (fPairs x)) : Cl E 1 m_St_pairs [.ref (A 0)] G Post := by
  have hk := k.ask hA h
  obtain ⟨ea, p1, p2, p3, p4, p5, ⟨hw, hR, hJ, hT, hB, hSo, hPg, hPs, hHi, hSi⟩, hp⟩ := h
  refine j_enter (L := [some (.ref (A 0))]) me_St_pairs (cat_c rfl cat_n) (Nat.le_of_ble_eq_true rfl) rfl (wp_St_pairs_0 (A 0) ⟨hR.1, A 9, hR.2.2.2.2.2.2.1, hPg.1.1, ?_⟩)
  rw [hPg.2.2.2.2.2.1]
  exact hk
def fPairsAnew (x : XS) : OU := (0, cntA (cJ x 4) 0 [] ((hL (cH x)).map (hE (cS x))), x)
theorem c_pairsAnew (hA : InjA A) (h : StS E G o A x p) (k : KF E A G o p Post nm (fPairsAnew x)) : Cl E 5 m_St_pairsAnew [.ref (A 0)] G Post := by
  have hk := k.ask hA h
  obtain ⟨ea, p1, p2, p3, p4, p5, ⟨hw, hR, hJ, hT, hB, hSo, hPg, hPs, hHi, hSi⟩, hp⟩ := h
  refine j_enter (L := [some (.ref (A 0))]) me_St_pairsAnew (cat_c rfl cat_n) (Nat.le_of_ble_eq_true rfl) rfl (wp_St_pairsAnew_0 (A 0) ⟨hR.1, A 23, hR.2.2.2.2.2.2.2.2.1, A 1, hR.2.2.2.2.1, hR.2.2.1, hHi.1.1, ?_⟩)
  rw [show gI G 196 (A 1) = cJ x 4 from hJ 4 (by omega)]
  refine c_countPairs hHi.1 (wp_St_pairsAnew_14 _ ?_)
  rw [hist_map hSo hHi]
  exact hk
def fUncommitted (x : XS) : OU := (0, nI (kL (cK x)).length - nI (kC (cK x)), x)
theorem c_uncommitted (hA : InjA A) (h : StS E G o A x p) (k : KF E A G o p Post nm (fUncommitted x)) : Cl E 1 m_St_uncommitted [.ref (A 0)] G Post := by
  have hk := k.ask hA h
  obtain ⟨ea, p1, p2, p3, p4, p5, ⟨hw, hR, hJ, hT, hB, hSo, hPg, hPs, hHi, hSi⟩, hp⟩ := h
  obtain ⟨rows, d1, d2, d3⟩ := hSi
  refine j_enter (L := [some (.ref (A 0))]) me_St_uncommitted (cat_c rfl cat_n) (Nat.le_of_ble_eq_true rfl) rfl (wp_St_uncommitted_0 (A 0) ⟨hR.1, A 26, hR.2.2.2.2.2.2.2.2.2.1, d1.1, ?_⟩)
  rw [d1.2.2.2.2.2.1, d1.2.2.2.1]
  exact hk
def fSourceWatermark (x : XS) (q : Int32) : OU := if sIx q < 3 then (0, mkfP (cN x) (cS x) (sIx q), x) else (1, 0, x)
theorem c_sourceWatermark {q : Int32} (hA : InjA A) (h : StS E G o A x p) (k : KF E A G o p Post [xIO] (fSourceWatermark x q)) : Cl E 2 m_St_sourceWatermark [.ref (A 0), .int q] G Post := by
  have h0 := h
  obtain ⟨ea, p1, p2, p3, p4, p5, ⟨hw, hR, hJ, hT, hB, hSo, hPg, hPs, hHi, hSi⟩, hp⟩ := h
  refine j_enter (L := [some (.ref (A 0)), some (.int q)]) me_St_sourceWatermark (cat_c rfl (cat_c rfl cat_n)) (Nat.le_of_ble_eq_true rfl) rfl (wp_St_sourceWatermark_0 (A 0) q (src3 (fun hq => ?_) (fun s hs hq hx => ?_)))
  · rw [show fSourceWatermark x q = (0 + 1, 0, x) from if_neg hq] at k
    exact k.exc hA h0 rfl
  · subst hq
    rw [show fSourceWatermark x (nI s) = (0, mkfP (cN x) (cS x) (sIx (nI s)), x) from if_pos (by omega), hx] at k
    have a12 := hPg.1.2.2.2.2.2.2.2.2.1
    have so := hSo.2.2.2.1 s hs
    refine ⟨hR.1, A 9, hR.2.2.2.2.2.2.1, hPg.1.1, A 12, hPg.1.2.2.2.2.1, Or.inl a12.1, s, ix3 hs a12.2.1, A 2, hR.2.2.2.2.2.1, Or.inr hSo.1, s, ix3 hs hSo.2.1, A (3 + s), so.1, so.2.1, ?_⟩
    have e1 : gA G (A 12) s = gGr (cN x) s := (hPg.2.1 s hs).2.2
    rw [e1, so.2.2.2.2.1]
    exact k.ask hA h0
def fOffset (x : XS) (q : Int32) : OU := if sIx q < 3 then (0, nI (gOf (cN x) (sIx q)), x) else (1, 0, x)
theorem c_offset {q : Int32} (hA : InjA A) (h : StS E G o A x p) (k : KF E A G o p Post [xIO] (fOffset x q)) : Cl E 2 m_St_offset [.ref (A 0), .int q] G Post := by
  have h0 := h
  obtain ⟨ea, p1, p2, p3, p4, p5, ⟨hw, hR, hJ, hT, hB, hSo, hPg, hPs, hHi, hSi⟩, hp⟩ := h
  refine j_enter (L := [some (.ref (A 0)), some (.int q)]) me_St_offset (cat_c rfl (cat_c rfl cat_n)) (Nat.le_of_ble_eq_true rfl) rfl (wp_St_offset_0 (A 0) q (src3 (fun hq => ?_) (fun s hs hq hx => ?_)))
  · rw [show fOffset x q = (0 + 1, 0, x) from if_neg hq] at k
    exact k.exc hA h0 rfl
  · subst hq
    rw [show fOffset x (nI s) = (0, nI (gOf (cN x) (sIx (nI s))), x) from if_pos (by omega), hx] at k
    have a10 := hPg.1.2.2.2.2.2.2.1
    refine ⟨hR.1, A 9, hR.2.2.2.2.2.2.1, hPg.1.1, A 10, hPg.1.2.2.1, Or.inl a10.1, s, ix3 hs a10.2.1, ?_⟩
    have e1 : gA G (A 10) s = nI (gOf (cN x) s) := (hPg.2.1 s hs).1
    rw [e1]
    exact k.ask hA h0
def fInChannel (x : XS) (q : Int32) : OU := if sIx q < 3 then (0, nI (gOf (cN x) (sIx q)) - nI (gTk (cN x) (sIx q)), x) else (1, 0, x)
theorem c_inChannel {q : Int32} (hA : InjA A) (h : StS E G o A x p) (k : KF E A G o p Post [xIO] (fInChannel x q)) : Cl E 2 m_St_inChannel [.ref (A 0), .int q] G Post := by
  have h0 := h
  obtain ⟨ea, p1, p2, p3, p4, p5, ⟨hw, hR, hJ, hT, hB, hSo, hPg, hPs, hHi, hSi⟩, hp⟩ := h
  refine j_enter (L := [some (.ref (A 0)), some (.int q)]) me_St_inChannel (cat_c rfl (cat_c rfl cat_n)) (Nat.le_of_ble_eq_true rfl) rfl (wp_St_inChannel_0 (A 0) q (src3 (fun hq => ?_) (fun s hs hq hx => ?_)))
  · rw [show fInChannel x q = (0 + 1, 0, x) from if_neg hq] at k
    exact k.exc hA h0 rfl
  · subst hq
    rw [show fInChannel x (nI s) = (0, nI (gOf (cN x) (sIx (nI s))) - nI (gTk (cN x) (sIx (nI s))), x) from if_pos (by omega), hx] at k
    have a10 := hPg.1.2.2.2.2.2.2.1
    have a11 := hPg.1.2.2.2.2.2.2.2.1
    refine ⟨hR.1, A 9, hR.2.2.2.2.2.2.1, hPg.1.1, A 10, hPg.1.2.2.1, Or.inl a10.1, s, ix3 hs a10.2.1, A 11, hPg.1.2.2.2.1, Or.inl a11.1, s, ix3 hs a11.2.1, ?_⟩
    have e1 : gA G (A 10) s = nI (gOf (cN x) s) := (hPg.2.1 s hs).1
    have e2 : gA G (A 11) s = nI (gTk (cN x) s) := (hPg.2.1 s hs).2.1
    rw [e1, e2]
    exact k.ask hA h0
end FACE
