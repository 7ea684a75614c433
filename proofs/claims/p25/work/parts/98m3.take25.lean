/-! p25, the pure part: taking -/
section P25C
def tkX (x : XS) (s : Nat) (v : V3) : XS := lookS (tkEv x s (gTk (cN x) s) v)
def tb3X (x : XS) (s : Nat) : XS := setB x (bA (cB x), up1 (bT (cB x)) s 1, bU (cB x))
def tb4X (x : XS) (s : Nat) : XS := snapS (setB x (bA (cB x), up1 (bT (cB x)) s 1, 0))
theorem take_sp {x : XS} {s : Nat} (h : Iv x) (hs : s < 3) : fTake x (nI s) = (2, 0, x) ∨
    (∃ v, (sEv (cS x) s)[gTk (cN x) s]? = some v ∧ gTk (cN x) s < gOf (cN x) s ∧ fTake x (nI s) = (0, tkAns x v, tkX x s v) ∧ Inv (tkX x s v)) ∨
    (¬ bU (cB x) = 0 ∧ fTake x (nI s) = (0, 3, tb3X x s) ∧ Inv (tb3X x s)) ∨ (¬ bU (cB x) = 0 ∧ fTake x (nI s) = (0, 4, tb4X x s) ∧ Inv (tb4X x s)) := by
  obtain ⟨hI, -, -⟩ := h
  have ev : (¬ bU (cB x) = 0 → bT (cB x) s = 0 ∧ ¬ bA (cB x) s = gTk (cN x) s) → fTake x (nI s) = fEv x s → fTake x (nI s) = (2, 0, x) ∨ ∃ v, (sEv (cS x) s)[gTk (cN x) s]? = some v ∧ gTk (cN x) s < gOf (cN x) s ∧ fTake x (nI s) = (0, tkAns x v, tkX x s v) ∧ Inv (tkX x s v) := fun hb e => by
    rw [e]
    unfold fEv
    by_cases c : gTk (cN x) s < gOf (cN x) s
    · have l := (hI.1.2.2.1.1 s hs).2.1
      have hv : (sEv (cS x) s)[gTk (cN x) s]? = some ((sEv (cS x) s).getD (gTk (cN x) s) (0, 0, 0)) := by
        rw [List.getD_eq_getElem?_getD, List.getElem?_eq_getElem (by omega)]; rfl
      rw [if_pos c]
      exact Or.inr ⟨_, hv, c, rfl, look_inv (tk_inv takeLem hI hs rfl c hv hb)⟩
    · rw [if_neg c]; exact Or.inl rfl
  by_cases c : bU (cB x) = 0
  · have e : fTake x (nI s) = fEv x s := by
      unfold fTake
      rw [sIx_n hs, if_pos hs, if_pos c]
    rcases ev (fun z => absurd c z) e with r | r
    · exact Or.inl r
    · exact Or.inr (Or.inl r)
  · by_cases c2 : bT (cB x) s = 0
    · by_cases c3 : bA (cB x) s = gTk (cN x) s
      · have e : fTake x (nI s) = fTb x s := by
          unfold fTake
          rw [sIx_n hs, if_pos hs, if_neg c, if_pos c2, if_pos c3]
        have tb : ¬ tB (cT x) = 0 := fun z => c (hI.1.2.2.2.2.2.2.2.2.2.2.2.2.2.2.1 z).2.2.2.2.1
        rw [e]
        unfold fTb
        by_cases d : up1 (bT (cB x)) s 1 0 = 0 ∨ up1 (bT (cB x)) s 1 1 = 0 ∨ up1 (bT (cB x)) s 1 2 = 0
        · rw [if_pos d]
          exact Or.inr (Or.inr (Or.inl ⟨c, rfl, bar_inv hI hs c c3⟩))
        · rw [if_neg d]
          have iv := bar_inv (u := 0) hI hs c c3
          exact Or.inr (Or.inr (Or.inr ⟨c, rfl, snap_inv iv (fun j hj => by
            obtain ⟨b1, b2, -⟩ := hI.1.2.2.2.2.2.2.2.2.2.2.2.2.2.1.2 c j hj
            exact ⟨b1, b2⟩) tb⟩))
      · have e : fTake x (nI s) = fEv x s := by
          unfold fTake
          rw [sIx_n hs, if_pos hs, if_neg c, if_pos c2, if_neg c3]
        rcases ev (fun _ => ⟨c2, c3⟩) e with r | r
        · exact Or.inl r
        · exact Or.inr (Or.inl r)
    · left
      unfold fTake
      rw [sIx_n hs, if_pos hs, if_neg c, if_neg c2]
theorem tk_iv2 {x : XS} {s : Nat} {v : V3} (h : Iv x) (hs : s < 3) (hv : (sEv (cS x) s)[gTk (cN x) s]? = some v) : Iv2 (tkEv x s (gTk (cN x) s) v) := by
  obtain ⟨hI, ⟨a1, a2, a3, a4, a5⟩, -⟩ := h
  have ok := (hI.1.2.1 s hs).2.1 v (List.mem_of_getElem? hv)
  refine ⟨a1, a2, fun j hj => ?_, a4, a5⟩
  show -1 ≤ (if j = s then (if gGr (cN x) s < v.1 then v.1 else gGr (cN x) s) else gGr (cN x) j).toInt ∧ (if j = s then (if gGr (cN x) s < v.1 then v.1 else gGr (cN x) s) else gGr (cN x) j).toInt ≤ 999
  by_cases d : j = s
  · rw [if_pos d]
    by_cases c : gGr (cN x) s < v.1
    · rw [if_pos c]
      have := ok.1
      exact ⟨by omega, ok.2.1⟩
    · rw [if_neg c]; exact a3 s hs
  · rw [if_neg d]; exact a3 j hj
/-- an event that comes to no window is late -/
theorem adm_late {jb : Nat → Int32} {v : V3} {mk : Int32} {W : List WT} (hj : JOK jb) (hv : VOK v) (h : (admP jb v mk W).2.2 = 0) : ¬ mk ≤ v.1 := by
  intro z
  have z := i32_le z
  obtain ⟨-, hz, ⟨h1, h2, h3⟩, hg, -⟩ := id hj
  have v1 := hv.1
  have v2 := hv.2.1
  have add3 : ∀ a : Int32, 0 ≤ a.toInt → a.toInt ≤ 999 → (a + jb 1 + jb 3).toInt = a.toInt + (jb 1).toInt + (jb 3).toInt := fun a a0 a1 => by
    have e : (a + jb 1).toInt = a.toInt + (jb 1).toInt := i32_add (by omega) (by omega)
    rw [i32_add (by rw [e]; omega) (by rw [e]; omega), e]
  unfold admP at h
  by_cases c : jb 0 = 2
  · rw [if_pos c] at h
    by_cases c2 : v.1 + jb 1 + jb 3 ≤ mk
    · have c2 := i32_le c2
      rw [add3 v.1 v1 v2] at c2
      omega
    · rw [if_neg c2] at h
      exact absurd h (by show ¬ (1 : Int32) = 0; exact i32_10)
  · rw [if_neg c] at h
    have hs : 1 ≤ (jb 2).toInt ∧ (jb 2).toInt ≤ 200 := ⟨h1, by omega⟩
    obtain ⟨l1, -⟩ := la_int hs ⟨v1, v2⟩
    have q1 : v.1.toInt / (jb 2).toInt * (jb 2).toInt ≤ v.1.toInt := Int.ediv_mul_le _ (by omega)
    have q3 : 0 ≤ v.1.toInt / (jb 2).toInt * (jb 2).toInt := Int.mul_nonneg (Int.ediv_nonneg v1 (by omega)) (by omega)
    have q4 : v.1.toInt < v.1.toInt / (jb 2).toInt * (jb 2).toInt + (jb 2).toInt := by
      have := Int.lt_ediv_add_one_mul_self v.1.toInt (b := (jb 2).toInt) (by omega)
      rw [Int.add_mul] at this
      omega
    have l2 : (laS (jb 2) (laS (jb 2) v.1)).toInt = (laS (jb 2) v.1).toInt := by
      rw [(la_int hs (t := laS (jb 2) v.1) ⟨by omega, by omega⟩).1, l1, Int.mul_ediv_cancel _ (by omega)]
    have m := ((stA_facts mk hj hv).2 (laS (jb 2) v.1)).mpr ⟨Int32.toInt_inj.mp l2, by omega, by omega, by omega, fun q => by
      have q := i32_le q
      rw [add3 _ (by omega) (by omega)] at q
      omega⟩
    have h : fl1 0 (stA jb v mk) = 0 := h
    cases hst : stA jb v mk with
    | nil => rw [hst] at m; exact absurd m (by simp)
    | cons a l => rw [hst] at h; exact absurd h (by show ¬ (1 : Int32) = 0; exact i32_10)
theorem cntP_late {r : Int32} {e : ET} (h : ¬ eX e ≤ eT e) : ∀ (L : List ET) (c : Int32), cntP r e c L = c
  | [], _ => rfl
  | z :: L, c => by
    show cntP r e (if prP r z e then c + 1 else c) L = c
    rw [if_neg (fun q => h q.2.2.2.2)]
    exact cntP_late h L c
/-- what the taking of an event answers -/
theorem tk_facts {x : XS} {s : Nat} {v : V3} (h : Iv x) (hs : s < 3) (hv : (sEv (cS x) s)[gTk (cN x) s]? = some v) (hl : gTk (cN x) s < gOf (cN x) s) (hI : Inv (tkX x s v)) :
    Iv (tkX x s v) ∧ SrcOK (tkX x s v) (gMk (cN x)) ∧ (tkAns x v = 0 ∨ tkAns x v = 1 ∨ tkAns x v = 2) ∧
    nI (gOf (cN (tkX x s v)) s) - nI (gTk (cN (tkX x s v)) s) = nI (gOf (cN x) s) - nI (gTk (cN x) s) - 1 ∧
    gDr (cN (tkX x s v)) = gDr (cN x) + (if tkAns x v = 2 then 1 else 0) ∧ (¬ tkAns x v = 0 → gPa (cN (tkX x s v)) = gPa (cN x)) ∧
    ¬ (nI (kL (cK (tkX x s v))).length - nI (kC (cK (tkX x s v)))) < (nI (kL (cK x)).length - nI (kC (cK x))) := by
  have h2 := tk_iv2 h hs hv
  have ok := (h.1.1.2.1 s hs).2.1 v (List.mem_of_getElem? hv)
  have d20 : ¬ (2 : Int32) = 0 := by decide +kernel
  have d02 : ¬ (0 : Int32) = 2 := by decide +kernel
  have d12 : ¬ (1 : Int32) = 2 := by decide +kernel
  have cs : (tkAns x v = 0 ∧ ¬ (admP (cJ x) v (gMk (cN x)) (gWi (cN x))).2.2 = 0) ∨ (tkAns x v = 1 ∧ ¬ (admP (cJ x) v (gMk (cN x)) (gWi (cN x))).2.2 = 0 ∧ ¬ gMk (cN x) ≤ v.1) ∨ (tkAns x v = 2 ∧ (admP (cJ x) v (gMk (cN x)) (gWi (cN x))).2.2 = 0 ∧ ¬ gMk (cN x) ≤ v.1) := by
    unfold tkAns
    by_cases c : (admP (cJ x) v (gMk (cN x)) (gWi (cN x))).2.2 = 0
    · rw [if_pos c]; exact Or.inr (Or.inr ⟨rfl, c, adm_late h.1.1.1 ok c⟩)
    · rw [if_neg c]
      by_cases c2 : gMk (cN x) ≤ v.1
      · rw [if_pos c2]; exact Or.inl ⟨rfl, c⟩
      · rw [if_neg c2]; exact Or.inr (Or.inl ⟨rfl, c, c2⟩)
  have eDr : gDr (cN (tkX x s v)) = if (admP (cJ x) v (gMk (cN x)) (gWi (cN x))).2.2 = 0 then gDr (cN x) + 1 else gDr (cN x) := rfl
  have eN : nI (gOf (cN (tkX x s v)) s) - nI (gTk (cN (tkX x s v)) s) = nI (gOf (cN x) s) - nI (gTk (cN x) s) - 1 := by
    have e1 : gTk (cN (tkX x s v)) s = gTk (cN x) s + 1 := if_pos rfl
    have e2 : gOf (cN (tkX x s v)) s = gOf (cN x) s := rfl
    rw [e1, e2, nI_sub (by omega), nI_sub (by omega)]
    have : gOf (cN x) s - gTk (cN x) s = (gOf (cN x) s - (gTk (cN x) s + 1)) + 1 := by omega
    rw [this, nI_pred]
  have ePa : gPa (cN (tkX x s v)) = gPa (cN x) + cntP (cJ x 4) (nI s, v.1, v.2.1, v.2.2, gMk (cN x)) 0 ((hL (cH x)).map (hE (setEm (cS x) s (gTk (cN x) s) (gMk (cN x))))) := rfl
  have late : ¬ gMk (cN x) ≤ v.1 → gPa (cN (tkX x s v)) = gPa (cN x) := fun c => by
    rw [ePa, cntP_late (show ¬ eX ((nI s, v.1, v.2.1, v.2.2, gMk (cN x)) : ET) ≤ eT ((nI s, v.1, v.2.1, v.2.2, gMk (cN x)) : ET) from c), Int32.add_zero]
  refine ⟨⟨hI, h2, (look_ls h2).1⟩, look_src h2, ?_, eN, ?_, ?_, ?_⟩
  · rcases cs with c | c | c
    · exact Or.inl c.1
    · exact Or.inr (Or.inl c.1)
    · exact Or.inr (Or.inr c.1)
  · rw [eDr]
    rcases cs with c | c | c
    · rw [if_neg c.2, c.1, if_neg d02, Int32.add_zero]
    · rw [if_neg c.2.1, c.1, if_neg d12, Int32.add_zero]
    · rw [if_pos c.2.1, c.1, if_pos rfl]
  · rcases cs with c | c | c
    · exact fun z => absurd c.1 z
    · exact fun _ => late c.2.2
    · exact fun _ => late c.2.2
  · have p1 := (phiN h.1.1).1
    have p2 := (phiN hI.1).1
    have p3 := h.1.1.2.2.2.2.2.2.2.2.2.2.2.2.1
    have e1 : kL (cK (tkX x s v)) = (kL (cK x) ++ (admP (cJ x) v (gMk (cN x)) (gWi (cN x))).2.1) ++ emR (lkM (tkEv x s (gTk (cN x) s) v)) (gWi (cN (tkEv x s (gTk (cN x) s) v))) := rfl
    have e2 : kC (cK (tkX x s v)) = kC (cK x) := rfl
    have e3 : (kL (cK x)).length ≤ (kL (cK (tkX x s v))).length := by
      rw [e1, List.length_append, List.length_append]; omega
    rw [e2, nI_sub (by omega), nI_sub (by omega)]
    exact nI_nlt (by omega) (by omega)
theorem tb_iv {x : XS} {s : Nat} (h : Iv x) : (Inv (tb3X x s) → Iv (tb3X x s)) ∧ (Inv (tb4X x s) → Iv (tb4X x s)) := by
  obtain ⟨hI, ⟨a1, a2, a3, a4, a5⟩, h3⟩ := h
  exact ⟨fun i => ⟨i, ⟨a1, a2, a3, a4, a5⟩, h3⟩, fun i => ⟨i, ⟨a1, a2, a3, a3, fun z => absurd rfl z⟩, h3⟩⟩
/-- results -/
theorem hval_of {x : XS} (h : Iv x) {n : Nat} (hn : n ≤ (hL (cH x)).length) : HVal (hst x n) ∧ HNum (hst x n) ∧ (hst x n).length ≤ 120 := by
  have hok := h.1.1.oke
  have all := hst_all h.1.1
  have num := POK.num h.1.1.2.1 h.1.1.2.2.1
  have sub : ∀ e ∈ hst x n, ∃ z ∈ hL (cH x), e = hE (cS x) z := fun e he => by
    obtain ⟨z, hz, rfl⟩ := List.mem_map.mp he
    exact ⟨z, List.mem_of_mem_take hz, rfl⟩
  have tk : (hL (cH x)).take (gHl (cN x)) = hL (cH x) := by rw [h.1.1.2.2.2.2.1, List.take_length]
  refine ⟨fun e he => ?_, fun e he => ?_, by rw [hst_len hn]; have := hl_len h.1.1; omega⟩
  · obtain ⟨z, hz, rfl⟩ := sub e he
    obtain ⟨b1, b2⟩ := h.1.1.2.2.1.2.2.2.1 z (by rw [tk]; exact hz)
    have b3 := h.1.1.2.2.1.1 z.1 b1
    have hl : z.2 < (sEv (cS x) z.1).length := by omega
    have e : (sEv (cS x) z.1).getD z.2 (0, 0, 0) = (sEv (cS x) z.1)[z.2] := by
      rw [List.getD_eq_getElem?_getD, List.getElem?_eq_getElem hl]; rfl
    show -1000 ≤ ((sEv (cS x) z.1).getD z.2 (0, 0, 0)).2.2.toInt ∧ ((sEv (cS x) z.1).getD z.2 (0, 0, 0)).2.2.toInt ≤ 1000
    rw [e]
    exact h.2.1.1 z.1 b1 _ (List.getElem_mem hl)
  · obtain ⟨z, hz, rfl⟩ := sub e he
    exact num _ (List.mem_map.mpr ⟨z, by rw [tk]; exact hz, rfl⟩)
/-- the answers of result, of a key and a beginning -/
def rsV (x : XS) (q s w : Int32) : Int32 := anw (cJ x) (comH x) (hC (cH x)) (hW (cH x)) q s w
theorem res_two {x : XS} (h : Iv x) {q s : Int32} (q0 : 0 ≤ q.toInt) (q1 : q.toInt ≤ 5) (s0 : 0 ≤ s.toInt) (s1 : s.toInt ≤ 999) : ∀ w : Int32, (w = 0 ∨ w = 1 ∨ w = 2) → fResult x q s w = (0, rsV x q s w, x) ∧ fResultAnew x q s w = (0, rsV x q s w, x) := by
  have e0 : (0 : Int32).toInt = 0 := by decide +kernel
  have e6 : (6 : Int32).toInt = 6 := by decide +kernel
  have e999 : (999 : Int32).toInt = 999 := by decide +kernel
  have c1 : ¬ q < 0 := fun z => by have := i32_lt z; omega
  have c2 : ¬ (6 : Int32) ≤ q := fun z => by have := i32_le z; omega
  have c3 : ¬ s < 0 := fun z => by have := i32_lt z; omega
  have c4 : ¬ (999 : Int32) < s := fun z => by have := i32_lt z; omega
  intro w hw
  have c5 : ¬ w < 0 ∧ w ≤ 2 := by rcases hw with e | e | e <;> rw [e] <;> decide +kernel
  have ca := h.1.1.2.2.2.2.2.2.2.2.2.1 q s w s0 s1
  unfold fResult fResultAnew
  rw [if_neg c1, if_neg c2, if_neg c3, if_neg c4, if_neg c5.1, if_pos c5.2, if_neg c1, if_neg c2, if_neg c3, if_neg c4, if_neg c5.1, if_pos c5.2, ← ca]
  exact ⟨rfl, rfl⟩
theorem res_facts {x : XS} (h : Iv x) {q s : Int32} (s0 : 0 ≤ s.toInt) (s1 : s.toInt ≤ 999) : (∀ w, rsV x q s w = -1000000) ∨ ∃ n : Nat, 1 ≤ n ∧ n ≤ 120 ∧ rsV x q s 0 = nI n ∧ (-1000 * (n : Int) ≤ (rsV x q s 1).toInt ∧ (rsV x q s 1).toInt ≤ 1000 * (n : Int)) ∧ (¬ cJ x 0 = 2 → rsV x q s 2 = s + cJ x 1) ∧ (cJ x 0 = 2 → s.toInt + (cJ x 1).toInt ≤ (rsV x q s 2).toInt ∧ (rsV x q s 2).toInt ≤ s.toInt + (cJ x 1).toInt * (n : Int)) := by
  have c := h.1.1.2.2.2.2.2.2.2.2.2.2.2.2.1.2.2
  have d := h.1.1.2.2.2.1.2.2.1
  obtain ⟨v1, v2, v3⟩ := hval_of h (n := hC (cH x)) (by omega)
  exact anw_facts h.1.1.1 v2 v1 v3 s0 s1
theorem pairs_two {x : XS} (h : Iv x) : gPa (cN x) = cntA (cJ x 4) 0 [] ((hL (cH x)).map (hE (cS x))) := by
  rw [h.1.1.2.2.2.2.2.2.2.2.2.2.1, hst_all h.1.1]
end P25C
