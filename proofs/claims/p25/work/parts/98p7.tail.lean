/-! p25: sources, results told twice, and the end of a turn -/
section TAIL25
variable {E : EV} {G : GH} {Post : Res → GH → Prop} {o A : Nat → Nat} {x : XS} {p N : Nat}
theorem Cs.nx {G0 G1 : GH} {p' n : Nat} (h : Cs G0 0 G (p + n)) (c : Cs G p G1 (p' + 1)) : Cs G0 0 G1 (p' + (n + 1)) := ⟨by have := h.1; have := c.1; omega, by have := h.2; have := c.2; omega⟩
abbrev mF (x : XS) : Nat → Int32 := fun s => nI (sEv (cS x) s).length
abbrev dF (x : XS) : Nat → Int32 := fun s => sId (cS x) s
theorem as_step {s : Nat} {l mk : Int32} (hs : s < 3) (hI : Iv x) (h : LQ E N G o A x p (mF x) (dF x)) (K : J E 3 m_La_areSources 11 [some (.ref (A 0)), some (.ref (A 31)), some (.ref (A 32)), some (.int mk), some (.int (lsS x s l)), some (.int 1), some (.int (nI (s + 1))), none] [] G Post) : J E 3 m_La_areSources 11 [some (.ref (A 0)), some (.ref (A 31)), some (.ref (A 32)), some (.int mk), some (.int l), some (.int 1), some (.int (nI s)), none] [] G Post := by
  obtain ⟨h1, ⟨a1, a2, a3, a4⟩, ⟨b1, b2, b3, b4⟩, -, -⟩ := h
  obtain ⟨q1, q2, q3⟩ := hI.1.1.2.2.1.1 s hs
  have q4 := (hI.1.1.2.1 s hs).1
  have ib := its_b hI.2.1 hs
  have ch : nI (gOf (cN x) s) - nI (gTk (cN x) s) = nI (gOf (cN x) s - gTk (cN x) s) := nI_sub q1
  have e4 : (4 : Int32) = nI 4 := rfl
  have m1 : (-1 : Int32).toInt = -1 := by decide +kernel
  have m2 : (1000 : Int32).toInt = 1000 := by decide +kernel
  have fin : ∀ l', l' = lsS x s l → J E 3 m_La_areSources 119 [some (.ref (A 0)), some (.ref (A 31)), some (.ref (A 32)), some (.int mk), none, some (.int 1), some (.int (nI s)), none] [.int l'] G Post := fun l' e => by
    refine wp_La_areSources_119 _ _ _ _ _ _ _ ?_
    rw [nI_1, e]
    exact K
  refine wp_La_areSources_11 _ _ _ _ _ _ _ ⟨fun z => absurd z (nI_ge (b := 3) hs (by omega)), fun _ => ⟨fun z => absurd z i32_10, fun _ => ⟨h1.tg0, _, a_sourceWatermark hs h1, _, a_inChannel hs h1, fun z => ?_, fun _ => ⟨_, a_inChannel hs h1, fun z => ?_, fun _ => ⟨_, a_inChannel hs h1, _, a_offset hs h1, fun z => ?_, fun _ => ⟨_, a_offset hs h1, Or.inl a1, s, ix3 hs a2, fun z => ?_, fun _ => ⟨fun z => ?_, fun _ => ⟨fun z => ?_, fun _ => ?_⟩⟩⟩⟩⟩⟩⟩⟩
  · rw [ch] at z; exact absurd z (nI_pos (by omega))
  · rw [ch, e4] at z; exact absurd z (nI_nlt (by omega) (by omega))
  · rw [ch] at z; exact absurd z (nI_nlt (by omega) (by omega))
  · rw [a4 s hs] at z; exact absurd z (nI_nlt (by omega) (by omega))
  · have := i32_lt z; omega
  · have := i32_le z; omega
  · refine wp_La_areSources_96 _ _ _ _ _ _ _ _ ⟨Or.inl b1, s, ix3 hs b2, ?_⟩
    rw [b4 s hs]
    refine ⟨fun c => ?_, fun c => ⟨fun c2 => ?_, fun c2 => ?_⟩⟩
    · exact wp_La_areSources_117 _ _ _ _ _ _ _ (fin _ (if_neg c).symm)
    · refine wp_La_areSources_117 _ _ _ _ _ _ _ (fin _ ?_)
      unfold lsS
      rw [if_pos c, if_neg (Int32.not_lt.mpr c2)]
    · refine fin _ ?_
      unfold lsS
      rw [if_pos c, if_pos (Int32.not_le.mp c2)]
theorem a_sources {mk : Int32} (hI : Iv x) (h : LQ E N G o A x p (mF x) (dF x)) (hS : SrcOK x mk) : AK E 3 m_La_areSources [.ref (A 0), .ref (A 31), .ref (A 32), .int mk] G 1 := fun Post hk => by
  refine j_enter (L := [some (.ref (A 0)), some (.ref (A 31)), some (.ref (A 32)), some (.int mk), none, none, none, none]) me_La_areSources (cat_c rfl (cat_c rfl (cat_c rfl (cat_c rfl cat_n)))) (Nat.le_of_ble_eq_true rfl) rfl (wp_La_areSources_0 _ _ _ _ ?_)
  refine as_step (s := 0) (by omega) hI h (as_step (s := 1) (by omega) hI h (as_step (s := 2) (by omega) hI h ?_))
  have fin : J E 3 m_La_areSources 172 [none, none, none, none, none, none, none, none] [] G Post := wp_La_areSources_172 (wp_La_areSources_177 _ ⟨Or.inr rfl, hk⟩)
  refine wp_La_areSources_11 _ _ _ _ _ _ _ ⟨fun _ => ?_, fun z => absurd (by decide +kernel) z⟩
  have nx : J E 3 m_La_areSources 159 [none, none, none, some (.int mk), some (.int (lst x)), none, some (.int (gMk (cN x))), none] [] G Post := wp_La_areSources_159 _ _ _ ⟨fun _ => fin, fun c => ⟨fun c2 => absurd (hS.2.resolve_left c) c2, fun _ => fin⟩⟩
  refine wp_La_areSources_127 _ _ _ _ ⟨h.1.tg0, _, a_watermark h.1, fun z => absurd z i32_10, fun _ => ⟨fun z => absurd z hS.1, fun _ => ⟨fun _ => nx, fun c => ⟨fun z => absurd z (hI.2.2.resolve_left c), fun _ => nx⟩⟩⟩⟩
/-- what is told in two ways -/
theorem l_twice {m d : Nat → Int32} {q s kd sz : Int32} {G0 : GH} {n : Nat} (hA : InjA A) (hI : Iv x) (h : LQ E N G o A x p m d) (hC : Cs G0 0 G (p + n)) (q0 : 0 ≤ q.toInt) (q1 : q.toInt ≤ 5) (s0 : 0 ≤ s.toInt) (s1 : s.toInt ≤ 999) (hk : kd = cJ x 0) (hz : sz = cJ x 1) (K : ∀ G' o' p', LQ E N G' o' A x p' m d → Cs G0 0 G' (p' + (n + 6)) → Post (.inl (some (.int 1))) G') : Cl E 8 m_La_isTwice [.ref (A 0), .int q, .int s, .int sz, .int kd] G Post := by
  have X := side_x hI.1
  have two := res_two hI q0 q1 s0 s1
  have hc1 := X.2.2.2.2.2.2.2.2.1
  have hc2 := X.2.2.2.2.2.2.2.2.2
  refine j_enter (L := [some (.ref (A 0)), some (.int q), some (.int s), some (.int sz), some (.int kd), none, none, none, none]) me_La_isTwice (cat_c rfl (cat_c rfl (cat_c rfl (cat_c rfl (cat_c rfl cat_n))))) (Nat.le_of_ble_eq_true rfl) rfl (wp_La_isTwice_0 _ _ _ _ _ ⟨h.1.tg0, c_result hA h.1 hc1 ?_⟩)
  rw [(two 0 (Or.inl rfl)).1]
  intro G1 o1 p1 y1 y2 y3
  have h1 := h.cls y1 y2
  have C1 := hC.nx y3
  refine wp_La_isTwice_7 _ _ _ _ _ _ ⟨h1.1.tg0, c_result hA h1.1 hc1 ?_⟩
  rw [(two 1 (Or.inr (Or.inl rfl))).1]
  intro G2 o2 p2 y1 y2 y3
  have h2 := h1.cls y1 y2
  have C2 := C1.nx y3
  refine wp_La_isTwice_16 _ _ _ _ _ _ _ ⟨h2.1.tg0, c_result hA h2.1 hc1 ?_⟩
  rw [(two 2 (Or.inr (Or.inr rfl))).1]
  intro G3 o3 p3 y1 y2 y3
  have h3 := h2.cls y1 y2
  have C3 := C2.nx y3
  refine wp_La_isTwice_25 _ _ _ _ _ _ _ _ ⟨h3.1.tg0, c_resultAnew hA h3.1 hc2 ?_⟩
  rw [(two 0 (Or.inl rfl)).2]
  intro G4 o4 p4 y1 y2 y3
  have h4 := h3.cls y1 y2
  have C4 := C3.nx y3
  refine wp_La_isTwice_34 _ _ _ _ _ _ _ _ _ ⟨fun z => absurd rfl z, fun _ => ⟨h4.1.tg0, c_resultAnew hA h4.1 hc2 ?_⟩⟩
  rw [(two 1 (Or.inr (Or.inl rfl))).2]
  intro G5 o5 p5 y1 y2 y3
  have h5 := h4.cls y1 y2
  have C5 := C4.nx y3
  refine wp_La_isTwice_46 _ _ _ _ _ _ _ _ _ ⟨fun z => absurd rfl z, fun _ => ⟨h5.1.tg0, c_resultAnew hA h5.1 hc2 ?_⟩⟩
  rw [(two 2 (Or.inr (Or.inr rfl))).2]
  intro G6 o6 p6 y1 y2 y3
  have h6 := h5.cls y1 y2
  have C6 := C5.nx y3
  have fin := K G6 o6 p6 h6 C6
  have rf : (rsV x q s 0 = -1000000 ∧ rsV x q s 1 = -1000000 ∧ rsV x q s 2 = -1000000) ∨ ∃ n : Nat, 1 ≤ n ∧ n ≤ 120 ∧ rsV x q s 0 = nI n ∧ (-1000 * (n : Int) ≤ (rsV x q s 1).toInt ∧ (rsV x q s 1).toInt ≤ 1000 * (n : Int)) ∧ (¬ cJ x 0 = 2 → rsV x q s 2 = s + cJ x 1) ∧ (cJ x 0 = 2 → s.toInt + (cJ x 1).toInt ≤ (rsV x q s 2).toInt ∧ (rsV x q s 2).toInt ≤ s.toInt + (cJ x 1).toInt * (n : Int)) := by
    rcases res_facts hI (q := q) s0 s1 with r | r
    · exact Or.inl ⟨r 0, r 1, r 2⟩
    · exact Or.inr r
  clear two
  generalize rsV x q s 0 = V0 at *
  generalize rsV x q s 1 = V1 at *
  generalize rsV x q s 2 = V2 at *
  refine wp_La_isTwice_58 _ _ _ _ _ _ _ _ ⟨fun z => absurd rfl z, fun _ => ⟨h6.1.tg0, _, a_pairs h6.1, _, a_pairsAnew h6.1, fun z => absurd (pairs_two hI) z, fun _ => ?_⟩⟩
  have end1 : J E 8 m_La_isTwice 192 [none, none, none, none, none, none, none, none, none] [] G6 Post := wp_La_isTwice_192 (wp_La_isTwice_197 _ ⟨Or.inr rfl, fin⟩)
  show J E 8 m_La_isTwice 79 [none, none, some (.int s), some (.int sz), some (.int kd), some (.int V0), some (.int V1), some (.int V2), none] [.int 1] G6 Post
  rcases rf with ⟨e0, e1, e2⟩ | ⟨j, j1, j2, e0, ⟨r1, r2⟩, r3, r4⟩
  · exact wp_La_isTwice_79 _ _ _ _ _ _ _ ⟨fun z => absurd z i32_10, fun _ => ⟨fun z => absurd e0 z, fun _ => ⟨fun z => absurd (e1.trans e0.symm) z, fun _ => ⟨fun z => absurd (e2.trans e0.symm) z, fun _ => wp_La_isTwice_137 _ _ _ _ _ (wp_La_isTwice_142 _ _ _ _ _ _ ⟨fun z => absurd z i32_10, fun _ => ⟨fun _ => end1, fun z => absurd e0 z⟩⟩)⟩⟩⟩⟩
  · have t0 : V0.toInt = (j : Int) := by rw [e0]; exact nI_toInt (by omega)
    have cM : (-1000000 : Int32).toInt = -1000000 := by decide +kernel
    have c0 : (0 : Int32).toInt = 0 := by decide +kernel
    have c2 : (2 : Int32).toInt = 2 := by decide +kernel
    have k1 : (1000 : Int32).toInt = 1000 := by decide +kernel
    have k2 : (-1000 : Int32).toInt = -1000 := by decide +kernel
    have nm : ¬ V0 = -1000000 := i32_ne (by rw [t0, cM]; omega)
    have p1 : ((1000 : Int32) * V0).toInt = 1000 * (j : Int) := by rw [i32_mul (by rw [k1, t0]; omega) (by rw [k1, t0]; omega), k1, t0]
    have p2 : ((-1000 : Int32) * V0).toInt = -1000 * (j : Int) := by rw [i32_mul (by rw [k2, t0]; omega) (by rw [k2, t0]; omega), k2, t0]
    have jp := hI.1.1.1.2.1
    have pz : (s + sz).toInt = s.toInt + (cJ x 1).toInt := by rw [hz]; exact i32_add (by omega) (by omega)
    have m0 : 0 ≤ (cJ x 1).toInt * (j : Int) := Int.mul_nonneg (by omega) (by omega)
    have m1 : (cJ x 1).toInt * (j : Int) ≤ 200 * 120 := Int.mul_le_mul (by omega) (by omega) (by omega) (by omega)
    have pm : (sz * V0).toInt = (cJ x 1).toInt * (j : Int) := by rw [hz, i32_mul (by rw [t0]; omega) (by rw [t0]; omega), t0]
    have pq : (s + sz * V0).toInt = s.toInt + (cJ x 1).toInt * (j : Int) := by rw [i32_add (by rw [pm]; omega) (by rw [pm]; omega), pm]
    refine wp_La_isTwice_79 _ _ _ _ _ _ _ ⟨fun z => absurd z i32_10, fun _ => ⟨fun _ => ⟨fun z => ?_, fun _ => ⟨fun z => ?_, fun _ => ⟨fun z => ?_, fun _ => wp_La_isTwice_137 _ _ _ _ _ (wp_La_isTwice_142 _ _ _ _ _ _ ⟨fun z => absurd z i32_10, fun _ => ⟨fun z => absurd z nm, fun _ => ⟨fun c => ⟨fun z => ?_, fun _ => ⟨fun z => ?_, fun _ => end1⟩⟩, fun c => ⟨fun z => ?_, fun _ => end1⟩⟩⟩⟩)⟩⟩⟩, fun z => absurd z nm⟩⟩
    · have := i32_le z; omega
    · have := i32_lt z; omega
    · have := i32_lt z; omega
    · have k : cJ x 0 = 2 := by
        rw [hk] at c
        rcases hI.1.1.1.1 with e | e | e
        · rw [e] at c; exact absurd c (by decide +kernel)
        · rw [e] at c; exact absurd c (by decide +kernel)
        · exact e
      have := r4 k
      have := i32_lt z
      omega
    · have k : cJ x 0 = 2 := by
        rw [hk] at c
        rcases hI.1.1.1.1 with e | e | e
        · rw [e] at c; exact absurd c (by decide +kernel)
        · rw [e] at c; exact absurd c (by decide +kernel)
        · exact e
      have := r4 k
      have := i32_lt z
      omega
    · have k : ¬ cJ x 0 = 2 := fun e => by
        rw [hk, e] at c
        exact absurd (by decide +kernel) c
      rw [hz] at z
      exact absurd (r3 k) z
/-- open windows are so many -/
theorem cntO_n {jb : Nat → Int32} {mk wk q : Int32} : ∀ (L : List WT) (k : Nat), ∃ j, j ≤ k + L.length ∧ cntO jb mk wk q (nI k) L = nI j
  | [], k => ⟨k, Nat.le_refl _, rfl⟩
  | w :: L, k => by
    unfold cntO
    by_cases c : wK w * wk / 6 = q ∧ opn jb mk w
    · obtain ⟨j, j1, j2⟩ := cntO_n (jb := jb) (mk := mk) (wk := wk) (q := q) L (k + 1)
      rw [if_pos c, nI_1]
      exact ⟨j, by rw [List.length_cons]; omega, j2⟩
    · obtain ⟨j, j1, j2⟩ := cntO_n (jb := jb) (mk := mk) (wk := wk) (q := q) L k
      rw [if_neg c]
      exact ⟨j, by rw [List.length_cons]; omega, j2⟩
/-- what the law holds of its own numbers -/
def PI (x : XS) (t : Nat) (kd sz sl al com sn wk : Int32) : Prop := Iv x ∧ kd = cJ x 0 ∧ sz = cJ x 1 ∧ (1 ≤ sl.toInt ∧ sl.toInt ≤ 50) ∧ al = cJ x 5 ∧ com = nI (kC (cK x)) ∧ sn = tS (cT x) ∧ wk = tW (cT x) ∧ ∃ k : Nat, k ≤ t ∧ tS (cT x) = nI k
/-- a turn behind -/
abbrev KT (E : EV) (N : Nat) (A : Nat → Nat) (G0 : GH) (Post : Res → GH → Prop) (kd sz sl al T : Int32) (t : Nat) : Prop := ∀ G o x p com sn wk, LQ E N G o A x p (mF x) (dF x) → PI x t kd sz sl al com sn wk → Cs G0 0 G (p + 60 * t) → J E 15 m_La_law 198 [some (.ref (A 33)), some (.ref (A 0)), some (.ref (A 31)), some (.ref (A 32)), none, some (.int kd), some (.int sz), some (.int sl), some (.int al), some (.int 1), some (.int com), some (.int sn), some (.int wk), some (.int T), some (.int (nI t)), none, none, none, none, none, none, none, none, none, none, none, none] [] G Post
theorem tail25 {G0 : GH} {t c : Nat} {y mk com sn wk T kd sz sl al : Int32} (hA : InjA A) (hW : LQ E N G o A x p (mF x) (dF x)) (hP : PI x (t + 1) kd sz sl al com sn wk) (hS : SrcOK x mk) (hy : 0 ≤ y.toInt) (hc : c ≤ 40) (hC : Cs G0 0 G (p + (60 * t + c))) (K : KT E N A G0 Post kd sz sl al T (t + 1)) : J E 15 m_La_law 1209 [some (.ref (A 33)), some (.ref (A 0)), some (.ref (A 31)), some (.ref (A 32)), none, some (.int kd), some (.int sz), some (.int sl), some (.int al), some (.int 1), some (.int com), some (.int sn), some (.int wk), some (.int T), some (.int (nI t)), none, some (.int y), none, none, some (.int mk), none, none, none, none, none, none, none] [] G Post := by
  obtain ⟨hI, hk, hz, hsl, hal, hcom, hsn, hwk, hts⟩ := id hP
  have e0 : (0 : Int32).toInt = 0 := by decide +kernel
  have e1 : (1 : Int32).toInt = 1 := by decide +kernel
  have w3 : 1 ≤ wk.toInt ∧ wk.toInt ≤ 3 := by
    rw [hwk]
    rcases hI.1.1.2.2.2.2.2.2.2.2.2.2.2.2.2.2.2 with e | e | e <;> rw [e] <;> decide +kernel
  have f1 : fOpen x wk = (1, 0, x) := by
    unfold fOpen
    rw [if_neg (fun z => by have := i32_lt z; omega), if_neg (by rw [hwk]; exact i32_irr)]
  have wm : (wk - 1).toInt = wk.toInt - 1 := i32_sub (by rw [e1]; omega) (by rw [e1]; omega)
  obtain ⟨j, j1, j2⟩ := cntO_n (jb := cJ x) (mk := gMk (cN x)) (wk := tW (cT x)) (q := wk - 1) (gWi (cN x)) 0
  have f2 : fOpen x (wk - 1) = (0, nI j, x) := by
    unfold fOpen
    rw [if_neg (fun z => by have := i32_lt z; omega), if_pos (by rw [Int32.lt_iff_toInt_lt, ← hwk]; omega)]
    exact congrArg (fun z => ((0 : Nat), z, x)) j2
  have wl := (phiN hI.1.1).2
  have fin : ∀ G' o' p', LQ E N G' o' A x p' (mF x) (dF x) → Cs G0 0 G' (p' + (60 * t + c + 8)) → J E 15 m_La_law 1309 [some (.ref (A 33)), some (.ref (A 0)), some (.ref (A 31)), some (.ref (A 32)), none, some (.int kd), some (.int sz), some (.int sl), some (.int al), none, some (.int com), some (.int sn), some (.int wk), some (.int T), some (.int (nI t)), none, none, none, none, none, none, none, none, none, none, none, none] [] G' Post := fun G' o' p' g1 g2 => by
    refine wp_La_law_1309 _ _ _ _ _ _ _ _ _ _ _ _ _ (wp_La_law_1314 _ _ _ _ _ _ _ _ _ _ _ _ _ _ ?_)
    rw [nI_1]
    exact K G' o' x p' com sn wk g1 hP (g2.up (by omega))
  refine wp_La_law_1209 _ _ _ _ _ _ _ _ _ _ _ _ _ _ _ _ ⟨fun z => absurd z i32_10, fun _ => ⟨1, a_sources hI hW hS, fun z => absurd z i32_10, fun _ => on_open hA hW.1 ?_⟩⟩
  rw [f1]
  intro G1 o1 p1 y1 y2 y3
  have h1 : LQ E N G1 o1 A x p1 (mF x) (dF x) := hW.cls y1 y2
  have C1 := hC.nx y3
  show J E 15 m_La_law 1236 _ [.int (exV xIO)] G1 Post
  rw [exV_IO]
  refine wp_La_law_1236 _ _ _ _ _ _ _ _ _ _ _ _ _ _ _ ⟨fun z => absurd rfl z, fun _ => on_open hA h1.1 ?_⟩
  rw [f2]
  intro G2 o2 p2 y1 y2 y3
  have h2 : LQ E N G2 o2 A x p2 (mF x) (dF x) := h1.cls y1 y2
  have C2 := C1.nx y3
  refine wp_La_law_1254 _ _ _ _ _ _ _ _ _ _ _ _ _ _ _ ⟨fun z => absurd z (nI_pos (by omega)), fun _ => wp_La_law_1262 _ _ _ _ _ _ _ _ _ _ _ _ _ _ _ ⟨fun z => absurd z i32_10, fun _ => ⟨fun _ => fin G2 o2 p2 h2 (C2.up (by omega)), fun _ => ?_⟩⟩⟩
  have k1000 : (1000 : Int32).toInt = 1000 := by decide +kernel
  have k3 : (6 : Int32).toInt = 6 := by decide +kernel
  have dD : ((1000 : Int32) / sl).toInt = 1000 / sl.toInt := by rw [dv_int (by omega) (by omega), k1000]
  have d1 : 20 ≤ 1000 / sl.toInt := by
    have := Int.le_ediv_of_mul_le (a := 20) (b := 1000) (c := sl.toInt) (by omega) (by omega)
    exact this
  have d2 : 1000 / sl.toInt * sl.toInt ≤ 1000 := Int.ediv_mul_le _ (by omega)
  have y6 : 0 ≤ (y >>> ((6 : Int32) &&& 31)).toInt := (shr_nn hy).1
  have y3' : 0 ≤ (y >>> ((3 : Int32) &&& 31)).toInt := (shr_nn hy).1
  obtain ⟨-, r1, r2⟩ := rm_int (m := (1000 : Int32) / sl) y6 (by omega)
  obtain ⟨-, q1, q2⟩ := rm_int (m := (6 : Int32)) y3' (by omega)
  generalize (y >>> ((6 : Int32) &&& 31)) - (y >>> ((6 : Int32) &&& 31)) / ((1000 : Int32) / sl) * ((1000 : Int32) / sl) = r at *
  generalize (y >>> ((3 : Int32) &&& 31)) - (y >>> ((3 : Int32) &&& 31)) / (6 : Int32) * (6 : Int32) = q at *
  have s0 : 0 ≤ sl.toInt * r.toInt := Int.mul_nonneg (by omega) r1
  have s1 : sl.toInt * r.toInt ≤ 999 := by
    have := Int.mul_le_mul_of_nonneg_left (c := sl.toInt) (show r.toInt ≤ 1000 / sl.toInt - 1 by omega) (by omega)
    rw [Int.mul_sub, Int.mul_one, Int.mul_comm sl.toInt (1000 / sl.toInt)] at this
    omega
  have st : (sl * r).toInt = sl.toInt * r.toInt := i32_mul (by omega) (by omega)
  refine ⟨i32_ne (by omega), i32_ne (by omega), l_twice hA hI h2 C2 (by omega) (by omega) (by omega) (by omega) hk hz (fun G' o' p' g1 g2 => ?_)⟩
  exact wp_La_law_1306 _ _ _ _ _ _ _ _ _ _ _ _ _ _ ⟨fun z => absurd z i32_10, fun _ => fin G' o' p' g1 (g2.up (by omega))⟩
end TAIL25
