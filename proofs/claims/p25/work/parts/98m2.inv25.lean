/-! p25, the pure part: what holds of the class's state beside Inv, and what every call keeps -/
section P25B
theorem sIx_n {s : Nat} (hs : s < 3) : sIx (nI s) = s := by
  have c : s = 0 ∨ s = 1 ∨ s = 2 := by omega
  rcases c with c | c | c <;> subst c <;> decide +kernel
theorem rr_self {x : XS} (h : Inv x) : RR x x (jdO (cS x) (hL (cH x))) (jdO (cS x) ((hL (cH x)).take (gHl (cP x)))).length :=
  ⟨h, rfl, ⟨rfl, rfl, rfl⟩, ⟨rfl, rfl, rfl, rfl, rfl, List.Perm.refl _⟩, ⟨rfl, rfl, rfl, rfl, rfl, List.Perm.refl _⟩, ⟨rfl, rfl, REq.rf, REq.rf, REq.rf⟩, ⟨rfl, fun _ => ⟨rfl, rfl⟩, h.1.2.2.2.2.2.2.2.2.2.2.2.2.2.1.1⟩, rfl, rfl, rfl⟩
theorem side_x {x : XS} (h : Inv x) : SideX x := (sim_all.1 x x _ _ (rr_self h)).1
/-- the law's least watermark -/
def lsS (x : XS) (s : Nat) (l : Int32) : Int32 := if sId (cS x) s = 0 then (if mkfP (cN x) (cS x) s < l then mkfP (cN x) (cS x) s else l) else l
def lst (x : XS) : Int32 := lsS x 2 (lsS x 1 (lsS x 0 2000))
def GrOK (P : PG) : Prop := ∀ s, s < 3 → -1 ≤ (gGr P s).toInt ∧ (gGr P s).toInt ≤ 999
def Iv2 (x : XS) : Prop := (∀ s, s < 3 → ∀ v ∈ sEv (cS x) s, -1000 ≤ v.2.2.toInt ∧ v.2.2.toInt ≤ 1000) ∧ (∀ s, s < 3 → sSl (cS x) s = 0) ∧ GrOK (cN x) ∧ GrOK (cP x) ∧ (¬ bU (cB x) = 0 → cJ x 5 = 1)
def LsOK (x : XS) : Prop := lst x = 2000 ∨ ¬ gMk (cN x) < lst x
def Iv (x : XS) : Prop := Inv x ∧ Iv2 x ∧ LsOK x
theorem its_b {x : XS} (h : Iv2 x) {s : Nat} (hs : s < 3) : -1 ≤ (mkfP (cN x) (cS x) s).toInt ∧ (mkfP (cN x) (cS x) s).toInt ≤ 999 := by
  unfold mkfP
  rw [h.2.1 s hs, Int32.sub_zero]
  split
  · exact h.2.2.1 s hs
  · decide +kernel
def stL (idl mkf : Nat → Int32) (i : Nat) (p : Int32 × Int32) : Int32 × Int32 := if idl i = 0 then (1, if p.1 = 0 then mkf i else if mkf i < p.2 then mkf i else p.2) else p
theorem lwA_s {idl mkf : Nat → Int32} {m i : Nat} {p : Int32 × Int32} : lwA idl mkf (m + 1) i p.1 p.2 = lwA idl mkf m (i + 1) (stL idl mkf i p).1 (stL idl mkf i p).2 := by
  show (if idl i = 0 then lwA idl mkf m (i + 1) 1 (if p.1 = 0 then mkf i else if mkf i < p.2 then mkf i else p.2) else lwA idl mkf m (i + 1) p.1 p.2) = _
  unfold stL
  by_cases c : idl i = 0
  · rw [if_pos c, if_pos c]
  · rw [if_neg c, if_neg c]
theorem lwA_3 {idl mkf : Nat → Int32} : lwA idl mkf 3 0 0 (-1) = stL idl mkf 2 (stL idl mkf 1 (stL idl mkf 0 (0, -1))) := by
  show lwA idl mkf (2 + 1) 0 (0, (-1 : Int32)).1 (0, (-1 : Int32)).2 = _
  rw [lwA_s, lwA_s, lwA_s]
  rfl
def LsR (p : Int32 × Int32) (l : Int32) : Prop := (p.1 = 0 ∧ l = 2000) ∨ (p.1 = 1 ∧ p.2 = l ∧ l.toInt ≤ 999)
theorem i32_10 : ¬ (1 : Int32) = 0 := by decide +kernel
theorem ls_step {x : XS} (h : Iv2 x) {s : Nat} (hs : s < 3) {p : Int32 × Int32} {l : Int32} (hr : LsR p l) : LsR (stL (sId (cS x)) (mkfP (cN x) (cS x)) s p) (lsS x s l) := by
  have b := its_b h hs
  unfold stL lsS
  by_cases c : sId (cS x) s = 0
  · rw [if_pos c, if_pos c]
    rcases hr with ⟨h1, h2⟩ | ⟨h1, h2, h3⟩
    · have e : mkfP (cN x) (cS x) s < l := by
        rw [h2, Int32.lt_iff_toInt_lt, show (2000 : Int32).toInt = 2000 by decide +kernel]; omega
      rw [if_pos h1, if_pos e]
      exact Or.inr ⟨rfl, rfl, b.2⟩
    · rw [if_neg (by rw [h1]; exact i32_10), h2]
      refine Or.inr ⟨rfl, rfl, ?_⟩
      split
      · exact b.2
      · exact h3
  · rw [if_neg c, if_neg c]; exact hr
theorem look_ls {x : XS} (h : Iv2 x) : (lst x = 2000 ∨ ¬ lkM x < lst x) ∧ (lkM x = gMk (cN x) ∨ lkM x = lst x) ∧ ¬ lkM x < gMk (cN x) := by
  have r : LsR (lwA (sId (cS x)) (mkfP (cN x) (cS x)) 3 0 0 (-1)) (lst x) := by
    rw [lwA_3]
    exact ls_step h (by omega) (ls_step h (by omega) (ls_step h (by omega) (Or.inl ⟨rfl, rfl⟩)))
  have le := lkM_le x
  refine ⟨?_, ?_, fun z => ?_⟩
  · unfold lkM lwM
    rcases r with ⟨r1, r2⟩ | ⟨r1, r2, r3⟩
    · exact Or.inl r2
    · rw [if_neg (by rw [r1]; exact i32_10), r2]
      by_cases c : gMk (cN x) < lst x
      · rw [if_pos c]; exact Or.inr i32_irr
      · rw [if_neg c]; exact Or.inr c
  · unfold lkM lwM
    rcases r with ⟨r1, r2⟩ | ⟨r1, r2, r3⟩
    · rw [if_pos r1]; exact Or.inl rfl
    · rw [if_neg (by rw [r1]; exact i32_10), r2]
      by_cases c : gMk (cN x) < lst x
      · rw [if_pos c]; exact Or.inr rfl
      · rw [if_neg c]; exact Or.inl rfl
  · have := i32_lt z
    have := i32_le le
    omega
/-- the look keeps it -/
theorem look_iv {x : XS} (h0 : Inv0 x) (h : Iv2 x) : Iv (lookS x) := ⟨look_inv h0, h, (look_ls h).1⟩
/-- what the law holds the sources against -/
def SrcOK (x : XS) (mk : Int32) : Prop := ¬ gMk (cN x) < mk ∧ (gMk (cN x) = mk ∨ gMk (cN x) = lst x)
theorem look_src {x : XS} (h : Iv2 x) : SrcOK (lookS x) (gMk (cN x)) := ⟨(look_ls h).2.2, (look_ls h).2.1⟩
theorem src_rf {x : XS} : SrcOK x (gMk (cN x)) := ⟨i32_irr, Or.inl rfl⟩
/-- appending -/
def apX (x : XS) (s : Nat) (v : V3) : XS := (cJ x, addE (cS x) s v, cN x, cP x, cH x, cK x, cB x, cT x)
theorem iv_app {x : XS} {s : Nat} {t k v : Int32} (h : Iv x) (hs : s < 3) (ha : ¬ apBad t k v) : ((sEv (cS x) s).length < 40 → fAppend x (nI s) t k v = (0, nI (sEv (cS x) s).length, apX x s (t, k, v)) ∧ Iv (apX x s (t, k, v))) ∧ (¬ (sEv (cS x) s).length < 40 → fAppend x (nI s) t k v = (3, 0, x)) := by
  have e : ((sEv (cS x) s).length < 40 → fAppend x (nI s) t k v = (0, nI (sEv (cS x) s).length, apX x s (t, k, v))) ∧ (¬ (sEv (cS x) s).length < 40 → fAppend x (nI s) t k v = (3, 0, x)) := by
    unfold fAppend apX
    rw [sIx_n hs, if_pos hs, if_neg ha]
    exact ⟨fun c => if_pos c, fun c => if_neg c⟩
  refine ⟨fun c => ⟨e.1 c, ?_⟩, e.2⟩
  have i := (sim_all.2.2.2.1 x x _ _ (rr_self h.1) (nI s) t k v).2.1
  rw [e.1 c] at i
  obtain ⟨h1, ⟨a1, a2, a3, a4, a5⟩, h3⟩ := h
  refine ⟨i, ⟨fun j hj u hu => ?_, a2, a3, a4, a5⟩, h3⟩
  have hu : u ∈ (if j = s then sEv (cS x) s ++ [(t, k, v)] else sEv (cS x) j) := hu
  by_cases d : j = s
  · rw [if_pos d] at hu
    rcases List.mem_append.mp hu with hu | hu
    · exact a1 s hs u hu
    · rw [List.mem_singleton.mp hu]
      have b1 := i32_nlt (fun z => ha (Or.inr (Or.inr (Or.inr (Or.inr (Or.inl z))))))
      have b2 : v ≤ 1000 := Classical.byContradiction (fun z => ha (Or.inr (Or.inr (Or.inr (Or.inr (Or.inr z))))))
      have b2 := i32_le b2
      rw [show (-1000 : Int32).toInt = -1000 by decide +kernel] at b1
      rw [show (1000 : Int32).toInt = 1000 by decide +kernel] at b2
      exact ⟨b1, b2⟩
  · rw [if_neg d] at hu; exact a1 j hj u hu
/-- reading -/
def rdX (x : XS) (s : Nat) : XS := (cJ x, cS x, setOf (cN x) s (gOf (cN x) s + 1), cP x, cH x, cK x, cB x, (1, tS (cT x), tU (cT x), tW (cT x)))
theorem iv_read {x : XS} {s : Nat} (h : Iv x) (hs : s < 3) : (gOf (cN x) s < (sEv (cS x) s).length ∧ gOf (cN x) s - gTk (cN x) s < 4 → fRead x (nI s) = (0, nI (gOf (cN x) s + 1 - gTk (cN x) s), rdX x s) ∧ Iv (rdX x s)) ∧ (¬ (gOf (cN x) s < (sEv (cS x) s).length ∧ gOf (cN x) s - gTk (cN x) s < 4) → fRead x (nI s) = (2, 0, x)) := by
  have e : (gOf (cN x) s < (sEv (cS x) s).length ∧ gOf (cN x) s - gTk (cN x) s < 4 → fRead x (nI s) = (0, nI (gOf (cN x) s + 1 - gTk (cN x) s), rdX x s)) ∧ (¬ (gOf (cN x) s < (sEv (cS x) s).length ∧ gOf (cN x) s - gTk (cN x) s < 4) → fRead x (nI s) = (2, 0, x)) := by
    unfold fRead rdX
    rw [sIx_n hs, if_pos hs]
    refine ⟨fun c => by rw [if_pos c.1, if_pos c.2], fun c => ?_⟩
    by_cases c1 : gOf (cN x) s < (sEv (cS x) s).length
    · rw [if_pos c1, if_neg (fun z => c ⟨c1, z⟩)]
    · rw [if_neg c1]
  refine ⟨fun c => ⟨e.1 c, ?_⟩, e.2⟩
  have i := (sim_all.2.2.2.2.1 x x _ _ (rr_self h.1) (nI s)).2.1
  rw [e.1 c] at i
  exact ⟨i, h.2.1, h.2.2⟩
/-- confirming -/
theorem iv_confirm {x : XS} (h : Iv x) : Iv (fConfirm x).2.2 := by
  have i := (sim_all.2.2.2.2.2.1 x x _ _ (rr_self h.1)).2.1
  refine ⟨i, ?_⟩
  unfold fConfirm
  split
  · exact h.2
  · exact h.2
/-- idle, or not -/
def idlX (x : XS) (s : Nat) (v : Int32) : XS := (cJ x, setId (cS x) s v, cN x, cP x, cH x, cK x, cB x, cT x)
theorem iv_idle {x : XS} {s : Nat} {v : Int32} (h : Iv x) (hs : s < 3) (hv : v = 0 ∨ v = 1) : fIdle x (nI s) v = (0, sId (cS x) s, lookS (idlX x s v)) ∧ Iv (lookS (idlX x s v)) ∧ SrcOK (lookS (idlX x s v)) (gMk (cN x)) := by
  have e : fIdle x (nI s) v = (0, sId (cS x) s, lookS (idlX x s v)) := by
    unfold fIdle idlX
    rw [sIx_n hs, if_pos hs]
  have i := ((sim_all.2.2.2.2.2.2.2.2.2.2.2.2.2.2.1 x x _ _ (rr_self h.1) (nI s) v hv).2 s hs (sIx_n hs) _ (List.Perm.refl _)).2.1
  rw [e] at i
  have h2 : Iv2 (idlX x s v) := h.2.1
  exact ⟨e, ⟨i, h2, (look_ls h2).1⟩, look_src h2⟩
/-- failing -/
theorem iv_fall {x : XS} (h : Iv x) : Iv (fallS x) := by
  have i := (sim_all.2.2.2.2.2.2.2.2.2.2.2.2.2.2.2.1 x x _ _ (rr_self h.1) _ (List.Perm.refl _)).2.1
  obtain ⟨h1, ⟨a1, a2, a3, a4, a5⟩, h3⟩ := h
  have h2 : Iv2 (fall0 x) := ⟨a1, a2, a4, a4, fun z => absurd rfl z⟩
  exact ⟨i, h2, (look_ls h2).1⟩
theorem iv_setW {x : XS} {q : Int32} (h : Iv x) (h1 : ¬ q < 1) (h2 : q ≤ 3) : Iv (setW x q) := ⟨⟨setW_inv h.1.1 h1 h2, h.1.2⟩, h.2⟩
/-- a failure behind a failure changes nothing -/
theorem fall_two {x : XS} (h : kP (cK x) ≤ (kL (cK x)).length) : fallS (fallS x) = fallS x := by
  have t1 : ∀ {α : Type} (L : List α) (n : Nat), (L.take n).take n = L.take n := fun L n => by rw [List.take_take]; simp
  have e : fall0 (lookS (fall0 x)) = fall0 x := by
    have k : ((kL (cK x)).take (kP (cK x)) ++ emR (lkM (fall0 x)) (gWi (cP x))).take (kP (cK x)) = (kL (cK x)).take (kP (cK x)) := by
      rw [List.take_append_of_le_length (by rw [List.length_take]; omega), t1]
    show (cJ x, cS x, cP x, cP x, (((hL (cH x)).take (gHl (cP x))).take (gHl (cP x)), gHl (cP x), gMk (cP x)), (((kL (cK x)).take (kP (cK x)) ++ emR (lkM (fall0 x)) (gWi (cP x))).take (kP (cK x)), kP (cK x), kP (cK x)), (bA (cB x), bT (cB x), (0 : Int32)), (tB (cT x), tS (cT x), (0 : Int32), tW (cT x))) = fall0 x
    rw [k, t1]
    rfl
  unfold fallS
  rw [e]
/-- a barrier -/
theorem iv_bar {x : XS} (h : Iv x) : Iv (fBarrier x).2.2 ∧ gMk (cN (fBarrier x).2.2) = gMk (cN x) ∧ cK (fBarrier x).2.2 = (kL (cK x), kC (cK x), kP (cK (fBarrier x).2.2)) ∧ lst (fBarrier x).2.2 = lst x := by
  obtain ⟨hI, ⟨a1, a2, a3, a4, a5⟩, h3⟩ := h
  have c5 := hI.1.1.2.2.2.2.2
  have hb := brX_inv hI
  unfold fBarrier
  by_cases c : bU (cB x) = 0
  · rw [if_pos c]
    by_cases c2 : cJ x 5 = 0
    · rw [if_pos c2]
      exact ⟨⟨snap_inv hb (fun s hs => ⟨(hI.1.2.2.1.1 s hs).1, Nat.le_refl _⟩) (by show ¬ (1 : Int32) = 0; exact i32_10), ⟨a1, a2, a3, a3, fun z => absurd c2 z⟩, h3⟩, rfl, rfl, rfl⟩
    · rw [if_neg c2]
      exact ⟨⟨hb, ⟨a1, a2, a3, a4, fun _ => c5.resolve_left c2⟩, h3⟩, rfl, rfl, rfl⟩
  · rw [if_neg c]
    exact ⟨⟨hI, ⟨a1, a2, a3, a4, a5⟩, h3⟩, rfl, rfl, rfl⟩
end P25B
