section GAPA
def DJ (W : List WT) : Prop := W.Pairwise (fun a b => wK a = wK b → wE a ≤ wS b ∨ wE b ≤ wS a)
def mnI (a b : Int32) : Int32 := if b < a then b else a
def mxI (a b : Int32) : Int32 := if a < b then b else a
theorem mnI_int (a b : Int32) : (mnI a b).toInt = min a.toInt b.toInt := by
  unfold mnI
  by_cases c : b < a
  · have := i32_lt c
    rw [if_pos c]; omega
  · have := i32_nlt c
    rw [if_neg c]; omega
theorem mxI_int (a b : Int32) : (mxI a b).toInt = max a.toInt b.toInt := by
  unfold mxI
  by_cases c : a < b
  · have := i32_lt c
    rw [if_pos c]; omega
  · have := i32_nlt c
    rw [if_neg c]; omega
theorem absorb_eq (w x : WT) : absorb w x = (wK w, mnI (wS w) (wS x), mxI (wE w) (wE x), wC w + wC x, wM w + wM x, wO w) := rfl
theorem absorb_comm (w x y : WT) : absorb (absorb w x) y = absorb (absorb w y) x := by
  rw [absorb_eq, absorb_eq (absorb w y), absorb_eq w x, absorb_eq w y]
  show (wK w, mnI (mnI (wS w) (wS x)) (wS y), mxI (mxI (wE w) (wE x)) (wE y), wC w + wC x + wC y, wM w + wM x + wM y, wO w) = (wK w, mnI (mnI (wS w) (wS y)) (wS x), mxI (mxI (wE w) (wE y)) (wE x), wC w + wC y + wC x, wM w + wM y + wM x, wO w)
  have e1 : mnI (mnI (wS w) (wS x)) (wS y) = mnI (mnI (wS w) (wS y)) (wS x) := by
    apply Int32.toInt_inj.mp
    rw [mnI_int, mnI_int, mnI_int, mnI_int]; omega
  have e2 : mxI (mxI (wE w) (wE x)) (wE y) = mxI (mxI (wE w) (wE y)) (wE x) := by
    apply Int32.toInt_inj.mp
    rw [mxI_int, mxI_int, mxI_int, mxI_int]; omega
  have e3 : wC w + wC x + wC y = wC w + wC y + wC x := by ac_rfl
  have e4 : wM w + wM x + wM y = wM w + wM y + wM x := by ac_rfl
  rw [e1, e2, e3, e4]
theorem mkA_perm {M N : List WT} (p : M.Perm N) : ∀ w, mkA w M = mkA w N := by
  induction p with
  | nil => exact fun _ => rfl
  | cons x _ ih => exact fun w => ih _
  | swap x y l =>
    intro w
    show l.foldl absorb (absorb (absorb w y) x) = l.foldl absorb (absorb (absorb w x) y)
    rw [absorb_comm]
  | trans _ _ i1 i2 => exact fun w => (i1 w).trans (i2 w)
theorem wsF_all : ∀ (M : List WT) (f : Int32), (f = 0 ∨ f = 1) → (wsF f M = 0 ↔ f = 0 ∧ ∀ x ∈ M, wO x = 0)
  | [], f, _ => ⟨fun h => ⟨h, fun x hx => absurd hx (by simp)⟩, fun h => h.1⟩
  | x :: M, f, hf => by
    have ih := wsF_all M (if wO x = 0 then f else 1) (by split; exact hf; exact Or.inr rfl)
    show wsF (if wO x = 0 then f else 1) M = 0 ↔ _
    rw [ih]
    by_cases c : wO x = 0
    · rw [if_pos c]
      exact ⟨fun h => ⟨h.1, fun y hy => (List.mem_cons.mp hy).elim (fun e => e ▸ c) (h.2 y)⟩, fun h => ⟨h.1, fun y hy => h.2 y (by simp [hy])⟩⟩
    · rw [if_neg c]
      exact ⟨fun h => absurd h.1 (by decide +kernel), fun h => absurd (h.2 x (by simp)) c⟩
theorem wsF_perm {M N : List WT} (p : M.Perm N) : wsF 0 M = 0 ↔ wsF 0 N = 0 := by
  rw [wsF_all M 0 (Or.inl rfl), wsF_all N 0 (Or.inl rfl)]
  exact ⟨fun h => ⟨rfl, fun x hx => h.2 x (p.mem_iff.mpr hx)⟩, fun h => ⟨rfl, fun x hx => h.2 x (p.mem_iff.mp hx)⟩⟩
/-- a window that is apart from one that was absorbed -/
theorem meets_abs {w x y : WT} (hw : (wS w).toInt < (wE w).toInt) (hx : (wS x).toInt < (wE x).toInt) (hy : (wS y).toInt < (wE y).toInt) (hm : meets w x) (hd : wK x = wK y → wE x ≤ wS y ∨ wE y ≤ wS x) : meets (absorb w x) y ↔ meets w y := by
  obtain ⟨m1, m2, m3⟩ := hm
  have m2 := i32_lt m2
  have m3 := i32_lt m3
  have es : (wS (absorb w x)).toInt = min (wS w).toInt (wS x).toInt := mnI_int _ _
  have ee : (wE (absorb w x)).toInt = max (wE w).toInt (wE x).toInt := mxI_int _ _
  have ek : wK (absorb w x) = wK w := rfl
  unfold meets
  rw [ek, Int32.lt_iff_toInt_lt, Int32.lt_iff_toInt_lt, Int32.lt_iff_toInt_lt, Int32.lt_iff_toInt_lt, es, ee]
  by_cases c : wK w = wK y
  · rcases hd (m1.symm.trans c) with d | d
    · have d := i32_le d
      constructor
      · rintro ⟨a1, a2, a3⟩; exact ⟨a1, by omega, by omega⟩
      · rintro ⟨a1, a2, a3⟩; exact ⟨a1, by omega, by omega⟩
    · have d := i32_le d
      constructor
      · rintro ⟨a1, a2, a3⟩; exact ⟨a1, by omega, by omega⟩
      · rintro ⟨a1, a2, a3⟩; exact ⟨a1, by omega, by omega⟩
  · exact ⟨fun h => absurd h.1 c, fun h => absurd h.1 c⟩
abbrev mtF (w : WT) (L : List WT) : List WT := L.filter (fun x => decide (meets w x))
abbrev apF (w : WT) (L : List WT) : List WT := L.filter (fun x => decide (¬ meets w x))
theorem abs_all : ∀ (L : List WT) (w : WT) (f : Int32), DJ L → (∀ x ∈ L, (wS x).toInt < (wE x).toInt) → (wS w).toInt < (wE w).toInt → absL w L = apF w L ∧ absW w L = mkA w (mtF w L) ∧ absR w L = bkF (mtF w L) ∧ absF f w L = wsF f (mtF w L)
  | [], _, _, _, _, _ => ⟨rfl, rfl, rfl, rfl⟩
  | x :: L, w, f, hd, hn, hw => by
    obtain ⟨d1, d2⟩ := List.pairwise_cons.mp hd
    have hx := hn x (by simp)
    have hL : ∀ y ∈ L, (wS y).toInt < (wE y).toInt := fun y hy => hn y (by simp [hy])
    unfold absL absW absR absF
    by_cases c : meets w x
    · have es : (wS (absorb w x)).toInt = min (wS w).toInt (wS x).toInt := mnI_int _ _
      have ee : (wE (absorb w x)).toInt = max (wE w).toInt (wE x).toInt := mxI_int _ _
      obtain ⟨i1, i2, i3, i4⟩ := abs_all L (absorb w x) (if wO x = 0 then f else 1) d2 hL (by omega)
      have ef : ∀ y ∈ L, (meets (absorb w x) y ↔ meets w y) := fun y hy => meets_abs hw hx (hL y hy) c (d1 y hy)
      have e1 : apF (absorb w x) L = apF w L := List.filter_congr (fun y hy => by rw [decide_eq_decide]; exact not_congr (ef y hy))
      have e2 : mtF (absorb w x) L = mtF w L := List.filter_congr (fun y hy => by rw [decide_eq_decide]; exact ef y hy)
      rw [if_pos c, if_pos c, if_pos c, if_pos c, i1, i2, i3, i4, e1, e2]
      have e3 : mtF w (x :: L) = x :: mtF w L := List.filter_cons_of_pos (by simpa using c)
      have e4 : apF w (x :: L) = apF w L := List.filter_cons_of_neg (by simpa using c)
      rw [e3, e4]
      exact ⟨rfl, rfl, rfl, rfl⟩
    · obtain ⟨i1, i2, i3, i4⟩ := abs_all L w f d2 hL hw
      rw [if_neg c, if_neg c, if_neg c, if_neg c, i1, i2, i3, i4]
      have e3 : mtF w (x :: L) = mtF w L := List.filter_cons_of_neg (by simpa using c)
      have e4 : apF w (x :: L) = x :: apF w L := List.filter_cons_of_pos (by rw [decide_eq_true_eq]; exact c)
      rw [e3, e4]
      exact ⟨rfl, rfl, rfl, rfl⟩
theorem tou_meets {k lo hi c m o : Int32} {x : WT} : tou k lo hi x ↔ meets (k, lo, hi, c, m, o) x := by
  show (wK x = k ∧ ¬ hi ≤ wS x ∧ ¬ wE x ≤ lo) ↔ (k = wK x ∧ lo < wE x ∧ wS x < hi)
  rw [Int32.not_le, Int32.not_le]
  exact ⟨fun h => ⟨h.1.symm, h.2.2, h.2.1⟩, fun h => ⟨h.1.symm, h.2.2, h.2.1⟩⟩
theorem bkF_perm {M N : List WT} (p : M.Perm N) : (bkF M).Perm (bkF N) := p.flatMap_right _
theorem bkF_mem {M : List WT} {r : WT} : r ∈ bkF M ↔ ∃ x ∈ M, ¬ wO x = 0 ∧ r = setO x 0 := by
  unfold bkF
  rw [List.mem_flatMap]
  constructor
  · rintro ⟨x, hx, hr⟩
    by_cases c : wO x = 0
    · rw [if_pos c] at hr; exact absurd hr (by simp)
    · rw [if_neg c] at hr; exact ⟨x, hx, c, List.mem_singleton.mp hr⟩
  · rintro ⟨x, hx, c, e⟩
    exact ⟨x, hx, by rw [if_neg c, e]; simp⟩
theorem bkF_uq : ∀ {M : List WT}, UQ M → UQ (bkF M)
  | [], _ => List.Pairwise.nil
  | x :: M, h => by
    obtain ⟨h1, h2⟩ := List.pairwise_cons.mp h
    have ih := bkF_uq h2
    show UQ ((if wO x = 0 then [] else [setO x 0]) ++ bkF M)
    split
    · exact ih
    · refine List.pairwise_cons.mpr ⟨fun r hr => ?_, ih⟩
      obtain ⟨y, hy, -, e⟩ := bkF_mem.mp hr
      rw [e]
      exact h1 y hy
/-- the start of a merged one -/
theorem mkA_S : ∀ (M : List WT) (w : WT), wS (mkA w M) = wS w ∨ ∃ x ∈ M, wS (mkA w M) = wS x
  | [], _ => Or.inl rfl
  | x :: M, w => by
    rcases mkA_S M (absorb w x) with h | ⟨y, hy, h⟩
    · have h : wS (mkA w (x :: M)) = mnI (wS w) (wS x) := h
      unfold mnI at h
      split at h
      · exact Or.inr ⟨x, by simp, h⟩
      · exact Or.inl h
    · exact Or.inr ⟨y, by simp [hy], h⟩
theorem mkA_K : ∀ (M : List WT) (w : WT), wK (mkA w M) = wK w ∧ wO (mkA w M) = wO w
  | [], _ => ⟨rfl, rfl⟩
  | x :: M, w => mkA_K M (absorb w x)
theorem gap_ok {jb : Nat → Int32} {v : V3} {V : List WT} (hz : (v.1).toInt < (v.1 + jb 1).toInt) (hu : UQ V) (hn : ∀ x ∈ V, (wS x).toInt < (wE x).toInt) : GapOK jb v V := by
  intro M p w hw hc
  obtain ⟨w1, w2⟩ := List.mem_filter.mp hw
  have w2 : ¬ tou v.2.1 v.1 (v.1 + jb 1) w := of_decide_eq_true w2
  rcases mkA_S M (v.2.1, v.1, v.1 + jb 1, 1, v.2.2, 0) with e | ⟨x, hx, e⟩
  · rw [e] at hc
    have hs : wS w = v.1 := hc.2
    have hn := hn w w1
    rw [hs] at hn
    refine w2 ⟨hc.1, fun z => ?_, fun z => ?_⟩
    · have := i32_le z; rw [hs] at this; omega
    · have := i32_le z; omega
  · rw [e] at hc
    obtain ⟨x1, x2⟩ := List.mem_filter.mp (p.mem_iff.mp hx)
    have x2 : tou v.2.1 v.1 (v.1 + jb 1) x := of_decide_eq_true x2
    have ew := hu.eq w1 x1 (hc.1.trans x2.1.symm) hc.2
    rw [ew] at w2
    exact w2 x2
/-- the reference merges as the class does -/
theorem gap_rel {jb : Nat → Int32} {v : V3} {mk : Int32} {W V W' Rr : List WT} {n : Int32} (hk : jb 0 = 2) (hz : (v.1).toInt < (v.1 + jb 1).toInt) (hu : UQ W) (hd : DJ W) (hn : ∀ x ∈ W, (wS x).toInt < (wE x).toInt) (p : W.Perm V) (ha : AdR jb v mk V W' Rr n) : (admP jb v mk W).1.Perm W' ∧ REq (admP jb v mk W).2.1 Rr ∧ ((admP jb v mk W).2.2 = 0 ↔ n = 0) := by
  unfold admP
  rw [if_pos hk, Int32.zero_add, Int32.zero_add]
  rcases ha with ⟨-, c, e1, e2, e3⟩ | ⟨-, c, e3, M, pm, e1, e2⟩ | ⟨z, -⟩
  · rw [if_pos c, e1, e2, e3]
    exact ⟨p, REq.rf, Iff.rfl⟩
  · rw [if_neg c, e1, e2, e3]
    obtain ⟨a1, a2, a3, a4⟩ := abs_all W (v.2.1, v.1, v.1 + jb 1, 1, v.2.2, 0) 0 hd hn hz
    have tm : ∀ x : WT, tou v.2.1 v.1 (v.1 + jb 1) x ↔ meets (v.2.1, v.1, v.1 + jb 1, 1, v.2.2, 0) x := fun x => tou_meets
    have f1 : V.filter (fun w => decide (tou v.2.1 v.1 (v.1 + jb 1) w)) = mtF (v.2.1, v.1, v.1 + jb 1, 1, v.2.2, 0) V := List.filter_congr (fun y _ => by rw [decide_eq_decide]; exact tm y)
    have f2 : V.filter (fun w => decide (¬ tou v.2.1 v.1 (v.1 + jb 1) w)) = apF (v.2.1, v.1, v.1 + jb 1, 1, v.2.2, 0) V := List.filter_congr (fun y _ => by rw [decide_eq_decide]; exact not_congr (tm y))
    rw [f1] at pm
    rw [f2]
    have pM : (mtF (v.2.1, v.1, v.1 + jb 1, 1, v.2.2, 0) W).Perm M := (p.filter _).trans pm.symm
    have eA := mkA_perm pM (v.2.1, v.1, v.1 + jb 1, 1, v.2.2, 0)
    have eW := wsF_perm pM
    have eG : gapW (v.2.1, v.1, v.1 + jb 1, 1, v.2.2, 0) mk W = mkM (v.2.1, v.1, v.1 + jb 1, 1, v.2.2, 0) mk M := by
      show (if absF 0 _ W = 0 then absW _ W else if wE (absW _ W) ≤ mk then setO (absW _ W) 1 else absW _ W) = _
      unfold mkM
      rw [a2, a4, eA]
      by_cases d : wsF 0 M = 0
      · rw [if_pos (eW.mpr d), if_neg (fun z => z.1 d)]
      · rw [if_neg (fun z => d (eW.mp z))]
        by_cases d2 : wE (mkA (v.2.1, v.1, v.1 + jb 1, 1, v.2.2, 0) M) ≤ mk
        · rw [if_pos d2, if_pos ⟨d, d2⟩]
        · rw [if_neg d2, if_neg (fun z => d2 z.2)]
    refine ⟨?_, ?_, ⟨fun z => absurd z (by show ¬ (1 : Int32) = 0; decide +kernel), fun z => absurd z (by show ¬ (1 : Int32) = 0; decide +kernel)⟩⟩
    · show (insS _ (absL _ W)).Perm _
      rw [eG, a1]
      refine (insS_pm _ _).trans ?_
      refine ((p.filter _).cons _).trans ?_
      exact List.perm_append_comm (l₁ := [mkM (v.2.1, v.1, v.1 + jb 1, 1, v.2.2, 0) mk M])
    · show REq (absR _ W ++ (if absF 0 _ W = 0 then [] else if wE (absW _ W) ≤ mk then [setO (absW _ W) 1] else [])) _
      rw [a2, a3, a4, eA]
      refine REq.app (REq.perm (bkF_perm pM) (bkF_uq (hu.filter _))) ?_
      unfold mkE
      by_cases d : wsF 0 M = 0
      · rw [if_pos (eW.mpr d), if_neg (fun z => z.1 d)]; exact REq.rf
      · rw [if_neg (fun z => d (eW.mp z))]
        by_cases d2 : wE (mkA (v.2.1, v.1, v.1 + jb 1, 1, v.2.2, 0) M) ≤ mk
        · rw [if_pos d2, if_pos ⟨d, d2⟩]; exact REq.rf
        · rw [if_neg d2, if_neg (fun z => d2 z.2)]; exact REq.rf
  · exact absurd hk z
end GAPA
