/-! p25: the law's deeds, the others -/
section ARMS26
variable {E : EV} {G : GH} {Post : Res → GH → Prop} {o A : Nat → Nat} {x : XS} {p N : Nat} {G0 : GH} {t : Nat} {y com sn wk T kd sz sl al : Int32}
/-- barrier -/
theorem arm_bar (hA : InjA A) (hW : LQ E N G o A x p (mF x) (dF x)) (hP : PI x t kd sz sl al com sn wk) (hy : 0 ≤ y.toInt) (ht : t ≤ 1000) (hC : Cs G0 0 G (p + 60 * t)) (K : KT E N A G0 Post kd sz sl al T (t + 1)) : Cl E 14 m_La_on [.ref (A 0), .int 3, .int 0, .int 0, .int 0, .int 0] G (aft E 15 m_La_law 715 [some (.ref (A 33)), some (.ref (A 0)), some (.ref (A 31)), some (.ref (A 32)), none, some (.int kd), some (.int sz), some (.int sl), some (.int al), none, some (.int com), some (.int sn), some (.int wk), some (.int T), some (.int (nI t)), none, some (.int y), none, none, some (.int (gMk (cN x))), some (.int (uncV x)), none, none, none, none, none, none] [] Post) := by
  have hP' := hP.up
  obtain ⟨hI, hk, hz, hsl, hal, hcom, hsn, hwk, hts⟩ := id hP'
  obtain ⟨k, hkk, htk⟩ := hP.2.2.2.2.2.2.2.2
  obtain ⟨iv, -, -, -⟩ := iv_bar hI
  have esn : sn = nI k := hsn.trans htk
  refine on_barrier hA hW.1 hI.1.1.1.2.2.2.2.2 ?_
  by_cases c : bU (cB x) = 0
  · by_cases c2 : cJ x 5 = 0
    · have f : fBarrier x = (0, tS (cT x) + 1, snapS (brX x)) := by
        unfold fBarrier
        rw [if_pos c, if_pos c2]
      rw [f] at iv ⊢
      intro G1 o1 p1 y1 y2 y3
      have h1 : LQ E N G1 o1 A (snapS (brX x)) p1 (mF (snapS (brX x))) (dF (snapS (brX x))) := hW.cls y1 y2
      show J E 15 m_La_law 718 _ [.int (tS (cT x) + 1)] G1 Post
      rw [← hsn]
      have pos : ¬ sn + 1 < 0 := by rw [esn, nI_1]; exact nI_pos (by omega)
      have n3 : ¬ sn + 1 = -13 := by rw [esn, nI_1]; exact n13 (by omega)
      refine wp_La_law_718 _ _ _ _ _ _ _ _ _ _ _ _ _ _ _ _ _ ⟨fun z => absurd (hal.trans c2) z, fun _ => ⟨fun z => absurd z pos, fun _ => wp_La_law_737 _ _ _ _ _ _ _ _ _ _ _ _ _ _ _ _ _ _ ⟨fun _ => ⟨fun z => absurd rfl z, fun _ => ⟨h1.1.tg0, _, a_watermark h1.1, fun z => absurd rfl z, fun _ => ⟨_, a_uncommitted h1.1, fun z => absurd rfl z, fun _ => wp_La_law_782 _ _ _ _ _ _ _ _ _ _ _ _ _ _ _ _ ?_⟩⟩⟩, fun z => absurd z n3⟩⟩⟩
      exact tail25 (c := 1) hA h1 ⟨iv, hk, hz, hsl, hal, hcom, by rw [hsn]; rfl, hwk, k + 1, by omega, by show tS (cT x) + 1 = _; rw [htk, nI_1]⟩ src_rf hy (by omega) ((hC.nx y3).up (by omega)) K
    · have f : fBarrier x = (0, tS (cT x), brX x) := by
        unfold fBarrier
        rw [if_pos c, if_neg c2]
      rw [f] at iv ⊢
      intro G1 o1 p1 y1 y2 y3
      have h1 : LQ E N G1 o1 A (brX x) p1 (mF (brX x)) (dF (brX x)) := hW.cls y1 y2
      show J E 15 m_La_law 718 _ [.int (tS (cT x))] G1 Post
      rw [← hsn]
      have n3 : ¬ sn = -13 := by rw [esn]; exact n13 (by omega)
      refine wp_La_law_718 _ _ _ _ _ _ _ _ _ _ _ _ _ _ _ _ _ ⟨fun _ => wp_La_law_736 _ _ _ _ _ _ _ _ _ _ _ _ _ _ _ _ _ (wp_La_law_737 _ _ _ _ _ _ _ _ _ _ _ _ _ _ _ _ _ _ ⟨fun _ => ⟨fun z => absurd (Int32.add_zero sn).symm z, fun _ => ⟨h1.1.tg0, _, a_watermark h1.1, fun z => absurd rfl z, fun _ => ⟨_, a_uncommitted h1.1, fun z => absurd rfl z, fun _ => wp_La_law_782 _ _ _ _ _ _ _ _ _ _ _ _ _ _ _ _ ?_⟩⟩⟩, fun z => absurd z n3⟩), fun z => absurd (hal.symm.trans z) c2⟩
      rw [Int32.add_zero]
      exact tail25 (c := 1) hA h1 ⟨iv, hk, hz, hsl, hal, hcom, hsn, hwk, hts⟩ src_rf hy (by omega) ((hC.nx y3).up (by omega)) K
  · have f : fBarrier x = (1, 0, x) := by
      unfold fBarrier
      rw [if_neg c]
    rw [f]
    intro G1 o1 p1 y1 y2 y3
    have h1 : LQ E N G1 o1 A x p1 (mF x) (dF x) := hW.cls y1 y2
    have a5 : al = 1 := hal.trans (hI.2.1.2.2.2.2 c)
    show J E 15 m_La_law 718 _ [.int (exV xIS)] G1 Post
    rw [exV_IS]
    refine wp_La_law_718 _ _ _ _ _ _ _ _ _ _ _ _ _ _ _ _ _ ⟨fun _ => wp_La_law_736 _ _ _ _ _ _ _ _ _ _ _ _ _ _ _ _ _ (wp_La_law_737 _ _ _ _ _ _ _ _ _ _ _ _ _ _ _ _ _ _ ⟨fun z => absurd rfl z, fun _ => wp_La_law_782 _ _ _ _ _ _ _ _ _ _ _ _ _ _ _ _ ?_⟩), fun z => absurd (a5.symm.trans z) i32_10⟩
    rw [Int32.add_zero]
    have tl := tail25 (c := 1) hA h1 hP' src_rf hy (by omega) ((hC.nx y3).up (by omega)) K
    rw [← a5] at tl
    exact tl
theorem confirm_off (h : tU (cT x) = 0) : fConfirm x = (1, 0, x) := by
  unfold fConfirm
  rw [if_pos h]
/-- confirm -/
theorem arm_conf (hA : InjA A) (hW : LQ E N G o A x p (mF x) (dF x)) (hP : PI x t kd sz sl al com sn wk) (hy : 0 ≤ y.toInt) (hC : Cs G0 0 G (p + 60 * t)) (K : KT E N A G0 Post kd sz sl al T (t + 1)) : Cl E 14 m_La_on [.ref (A 0), .int 4, .int 0, .int 0, .int 0, .int 0] G (aft E 15 m_La_law 800 [some (.ref (A 33)), some (.ref (A 0)), some (.ref (A 31)), some (.ref (A 32)), none, some (.int kd), some (.int sz), some (.int sl), some (.int al), none, some (.int com), some (.int sn), some (.int wk), some (.int T), some (.int (nI t)), none, some (.int y), none, none, some (.int (gMk (cN x))), some (.int (uncV x)), none, none, none, none, none, none] [] Post) := by
  have hP' := hP.up
  obtain ⟨hI, hk, hz, hsl, hal, hcom, hsn, hwk, hts⟩ := id hP'
  have iv := iv_confirm hI
  have p1 := (phiN hI.1.1).1
  obtain ⟨p2, p3, -⟩ := hI.1.1.2.2.2.2.2.2.2.2.2.2.2.2.1
  refine on_confirm hA hW.1 ?_
  by_cases c : tU (cT x) = 0
  · rw [confirm_off c]
    intro G1 o1 q1 y1 y2 y3
    have h1 : LQ E N G1 o1 A x q1 (mF x) (dF x) := hW.cls y1 y2
    show J E 15 m_La_law 803 _ [.int (exV xIS)] G1 Post
    rw [exV_IS]
    refine wp_La_law_803 _ _ _ _ _ _ _ _ _ _ _ _ _ _ _ _ _ ⟨fun z => absurd rfl z, fun _ => ⟨h1.1.tg0, _, a_uncommitted h1.1, fun z => absurd rfl z, fun _ => wp_La_law_870 _ _ _ _ _ _ _ _ _ _ _ _ _ _ _ _ _ ⟨fun _ => wp_La_law_884 _ _ _ _ _ _ _ _ _ _ _ _ _ _ _ _ ?_, fun z => absurd i13 z⟩⟩⟩
    exact tail25 (c := 1) hA h1 hP' src_rf hy (by omega) ((hC.nx y3).up (by omega)) K
  · have f : fConfirm x = (0, nI (kP (cK x)), comS x) := by
      unfold fConfirm
      rw [if_neg c]
    rw [f] at iv ⊢
    intro G1 o1 q1 y1 y2 y3
    have h1 : LQ E N G1 o1 A (comS x) q1 (mF (comS x)) (dF (comS x)) := hW.cls y1 y2
    have C1 := hC.nx y3
    have eu : uncV (comS x) = uncV x - (nI (kP (cK x)) - com) := by
      show nI (kL (cK x)).length - nI (kP (cK x)) = nI (kL (cK x)).length - nI (kC (cK x)) - (nI (kP (cK x)) - com)
      rw [hcom, nI_sub p3, nI_sub (by omega), nI_sub p2, nI_sub (by omega)]
      congr 1
      omega
    show J E 15 m_La_law 803 _ [.int (nI (kP (cK x)))] G1 Post
    refine wp_La_law_803 _ _ _ _ _ _ _ _ _ _ _ _ _ _ _ _ _ ⟨fun _ => ⟨fun z => ?_, fun _ => ⟨h1.1.tg0, _, a_uncommitted h1.1, fun z => absurd eu z, fun _ => on_confirm hA h1.1 ?_⟩⟩, fun z => absurd z (n13 (by omega))⟩
    · rw [hcom] at z; exact absurd z (nI_nlt p2 (by omega))
    rw [confirm_off (x := comS x) rfl]
    intro G2 o2 q2 y1 y2 y3
    have h2 : LQ E N G2 o2 A (comS x) q2 (mF (comS x)) (dF (comS x)) := h1.cls y1 y2
    show J E 15 m_La_law 860 _ [.int (exV xIS)] G2 Post
    rw [exV_IS]
    refine wp_La_law_860 _ _ _ _ _ _ _ _ _ _ _ _ _ _ _ _ _ ⟨fun z => absurd rfl z, fun _ => wp_La_law_870 _ _ _ _ _ _ _ _ _ _ _ _ _ _ _ _ _ ⟨fun z => absurd z (nI_pos (by omega)), fun _ => wp_La_law_884 _ _ _ _ _ _ _ _ _ _ _ _ _ _ _ _ ?_⟩⟩
    exact tail25 (c := 2) hA h2 ⟨iv, hk, hz, hsl, hal, rfl, hsn, hwk, hts⟩ src_rf hy (by omega) ((C1.nx y3).up (by omega)) K
/-- idle -/
theorem arm_idle {s : Nat} {v : Int32} (hA : InjA A) (hW : LQ E N G o A x p (mF x) (dF x)) (hP : PI x t kd sz sl al com sn wk) (hy : 0 ≤ y.toInt) (hC : Cs G0 0 G (p + 60 * t)) (K : KT E N A G0 Post kd sz sl al T (t + 1)) (hs : s < 3) (hv : v = 0 ∨ v = 1) : J E 15 m_La_law 911 [some (.ref (A 33)), some (.ref (A 0)), some (.ref (A 31)), some (.ref (A 32)), none, some (.int kd), some (.int sz), some (.int sl), some (.int al), none, some (.int com), some (.int sn), some (.int wk), some (.int T), some (.int (nI t)), none, some (.int y), none, some (.int (nI s)), some (.int (gMk (cN x))), none, none, none, none, none, none, none] [.int v] G Post := by
  have hP' := hP.up
  obtain ⟨hI, hk, hz, hsl, hal, hcom, hsn, hwk, hts⟩ := id hP'
  have X := side_x hI.1
  obtain ⟨f, iv, sr⟩ := iv_idle hI hs hv
  refine wp_La_law_911 _ _ _ _ _ _ _ _ _ _ _ _ _ _ _ _ _ ⟨hW.1.tg0, c_idle hA hW.1 hv X.2.2.2.2.2.2.1 X.2.2.2.2.2.2.2.1 ?_⟩
  rw [f]
  intro G1 o1 p1 y1 y2 y3
  have h1 : LQ E N G1 o1 A (lookS (idlX x s v)) p1 (mF x) (dF x) := hW.cls y1 y2
  have C1 := hC.nx y3
  have h2 := h1
  obtain ⟨-, -, ⟨b1, b2, b3, b4⟩, -, -⟩ := h2
  have ed : gA G1 (A 32) s = sId (cS x) s := b4 s hs
  have fin : ∀ v', v' = v → J E 15 m_La_law 957 [some (.ref (A 33)), some (.ref (A 0)), some (.ref (A 31)), some (.ref (A 32)), none, some (.int kd), some (.int sz), some (.int sl), some (.int al), some (.int 1), some (.int com), some (.int sn), some (.int wk), some (.int T), some (.int (nI t)), none, some (.int y), none, none, some (.int (gMk (cN x))), none, none, none, none, none, none, none] [.int v', .int (nI s), .ref (A 32)] G1 Post := fun v' e => by
    rw [e]
    refine wp_La_law_957 _ _ _ _ _ _ _ _ _ _ _ _ _ _ _ _ _ _ _ ⟨b1, s, ix3 hs b2, ?_⟩
    exact tail25 (c := 1) hA ((h1.idle hA (s := s) (v := v)).congr (fun i hi => rfl) (fun i hi => rfl)) ⟨iv, hk, hz, hsl, hal, hcom, hsn, hwk, hts⟩ sr hy (by omega) (C1.up (by omega)) K
  have e942 : J E 15 m_La_law 942 [some (.ref (A 33)), some (.ref (A 0)), some (.ref (A 31)), some (.ref (A 32)), none, some (.int kd), some (.int sz), some (.int sl), some (.int al), none, some (.int com), some (.int sn), some (.int wk), some (.int T), some (.int (nI t)), none, some (.int y), none, some (.int (nI s)), some (.int (gMk (cN x))), none, none, some (.int v), none, none, none, none] [.int 1] G1 Post :=
    wp_La_law_942 _ _ _ _ _ _ _ _ _ _ _ _ _ _ _ _ _ _ ⟨fun c => fin _ c.symm, fun c => fin _ (hv.resolve_left c).symm⟩
  show J E 15 m_La_law 921 _ [.int (sId (cS x) s)] G1 Post
  refine wp_La_law_921 _ _ _ _ _ _ _ _ _ _ _ _ _ _ _ _ _ _ ⟨Or.inl b1, s, ix3 hs b2, ?_⟩
  rw [ed]
  refine ⟨fun c => wp_La_law_934 _ _ _ _ _ _ _ _ _ _ _ _ _ _ _ _ _ _ _ ⟨fun z => absurd ?_ z, fun _ => e942⟩, fun c => wp_La_law_934 _ _ _ _ _ _ _ _ _ _ _ _ _ _ _ _ _ _ _ ⟨fun z => absurd c z, fun _ => e942⟩⟩
  exact ((hI.1.1.2.1 s hs).2.2.2).resolve_right c
/-- behind a failure -/
theorem fall_fin {c : Nat} (hA : InjA A) (hW : LQ E N G o A x p (mF x) (dF x)) (hP : PI x (t + 1) kd sz sl al (nI (kC (cK x))) sn wk) (hf : fallS x = x) (hU : tU (cT x) = 0) (hy : 0 ≤ y.toInt) (hc : c ≤ 30) (hC : Cs G0 0 G (p + (60 * t + c))) (K : KT E N A G0 Post kd sz sl al T (t + 1)) : J E 15 m_La_law 1123 [some (.ref (A 33)), some (.ref (A 0)), some (.ref (A 31)), some (.ref (A 32)), none, some (.int kd), some (.int sz), some (.int sl), some (.int al), none, none, some (.int sn), some (.int wk), some (.int T), some (.int (nI t)), none, some (.int y), none, none, none, none, none, none, none, none, none, none] [.int (nI (kC (cK x)))] G Post := by
  have X := side_x hP.1.1
  refine wp_La_law_1123 _ _ _ _ _ _ _ _ _ _ _ _ _ _ ⟨hW.1.tg0, _, a_dropped hW.1, _, a_pairs hW.1, _, a_uncommitted hW.1, on_confirm hA hW.1 ?_⟩
  rw [confirm_off hU]
  intro G1 o1 q1 y1 y2 y3
  have h1 : LQ E N G1 o1 A x q1 (mF x) (dF x) := hW.cls y1 y2
  have C1 := hC.nx y3
  show J E 15 m_La_law 1155 _ [.int (exV xIS)] G1 Post
  rw [exV_IS]
  refine wp_La_law_1155 _ _ _ _ _ _ _ _ _ _ _ _ _ _ _ _ _ _ ⟨fun z => absurd rfl z, fun _ => ⟨h1.1.tg0, c_fail (nm := []) hA h1.1 X.2.2.2.1 X.2.2.2.2.1 X.2.2.2.2.2.1 ?_⟩⟩
  have f : fFail x = (0, nI (kC (cK x)), x) := by
    unfold fFail
    rw [hf]
  rw [f]
  intro G2 o2 q2 y1 y2 y3
  have h2 : LQ E N G2 o2 A x q2 (mF x) (dF x) := h1.cls y1 y2
  have C2 := C1.nx y3
  refine wp_La_law_1164 _ _ _ _ _ _ _ _ _ _ _ _ _ _ _ _ _ _ ⟨fun z => absurd rfl z, fun _ => ⟨h2.1.tg0, _, a_dropped h2.1, fun z => absurd rfl z, fun _ => ⟨_, a_pairs h2.1, fun z => absurd rfl z, fun _ => ⟨_, a_uncommitted h2.1, fun z => absurd rfl z, fun _ => wp_La_law_1201 _ _ _ _ _ _ _ _ _ _ _ _ _ _ _ ⟨h2.1.tg0, _, a_watermark h2.1, ?_⟩⟩⟩⟩⟩
  exact tail25 (c := c + 2) hA h2 hP src_rf hy (by omega) (C2.up (by omega)) K
theorem movN_n {w q : Int32} : ∀ (m i k : Nat), ∃ j, j ≤ k + m ∧ movN w q m i (nI k) = nI j
  | 0, _, k => ⟨k, Nat.le_refl _, rfl⟩
  | m + 1, i, k => by
    unfold movN
    by_cases c : nI i * w / 6 = nI i * q / 6
    · obtain ⟨j, j1, j2⟩ := movN_n (w := w) (q := q) m (i + 1) k
      rw [if_pos c]
      exact ⟨j, by omega, j2⟩
    · obtain ⟨j, j1, j2⟩ := movN_n (w := w) (q := q) m (i + 1) (k + 1)
      rw [if_neg c, nI_1]
      exact ⟨j, by omega, j2⟩
/-- fail, workers -/
theorem arm_fail {v : Int32} (hA : InjA A) (hW : LQ E N G o A x p (mF x) (dF x)) (hP : PI x t kd sz sl al com sn wk) (hy : 0 ≤ y.toInt) (hC : Cs G0 0 G (p + 60 * t)) (K : KT E N A G0 Post kd sz sl al T (t + 1)) (hv : v = 0 ∨ v = 1) : J E 15 m_La_law 975 [some (.ref (A 33)), some (.ref (A 0)), some (.ref (A 31)), some (.ref (A 32)), none, some (.int kd), some (.int sz), some (.int sl), some (.int al), none, some (.int com), some (.int sn), some (.int wk), some (.int T), some (.int (nI t)), none, some (.int y), none, none, some (.int (gMk (cN x))), some (.int (uncV x)), none, none, none, none, none, none] [.int v] G Post := by
  have hP' := hP.up
  obtain ⟨hI, hk, hz, hsl, hal, hcom, hsn, hwk, hts⟩ := id hP'
  have X := side_x hI.1
  have p1 := (phiN hI.1.1).1
  obtain ⟨p2, p3, -⟩ := hI.1.1.2.2.2.2.2.2.2.2.2.2.2.2.1
  have y5 : 0 ≤ (y >>> ((5 : Int32) &&& 31)).toInt := (shr_nn hy).1
  have c3 : (3 : Int32).toInt = 3 := by decide +kernel
  have c1 : (1 : Int32).toInt = 1 := by decide +kernel
  obtain ⟨-, r1, r2⟩ := rm_int (m := (3 : Int32)) y5 (by omega)
  refine wp_La_law_975 _ _ _ _ _ _ _ _ _ _ _ _ _ _ _ _ _ ?_
  generalize (y >>> ((5 : Int32) &&& 31)) - (y >>> ((5 : Int32) &&& 31)) / (3 : Int32) * (3 : Int32) = r at *
  have n1 : ((1 : Int32) + r).toInt = 1 + r.toInt := by rw [i32_add (by rw [c1]; omega) (by rw [c1]; omega), c1]
  have nlt : ¬ (1 : Int32) + r < 1 := fun z => by have := i32_lt z; omega
  have nle : (1 : Int32) + r ≤ 3 := Int32.le_iff_toInt_le.mpr (by omega)
  refine ⟨fun c => ?_, fun c => ⟨hW.1.tg0, ?_⟩⟩
  · -- the number of workers is told
    refine on_workers hA hW.1 X.2.2.2.1 X.2.2.2.2.1 X.2.2.2.2.2.1 ?_
    by_cases d : tS (cT x) = 0
    · have f : fWorkers x (1 + r) = (2, 0, x) := by
        unfold fWorkers
        rw [if_neg nlt, if_pos nle, if_pos d]
      rw [f]
      intro G1 o1 q1 y1 y2 y3
      have h1 : LQ E N G1 o1 A x q1 (mF x) (dF x) := hW.cls y1 y2
      show J E 15 m_La_law 1009 _ [.int (exV xIS)] G1 Post
      rw [exV_IS]
      refine wp_La_law_1009 _ _ _ _ _ _ _ _ _ _ _ _ _ _ _ _ _ _ _ ⟨fun z => absurd c z, fun _ => ⟨fun _ => wp_La_law_1026 _ _ _ _ _ _ _ _ _ _ _ _ _ _ _ _ _ _ (wp_La_law_1028 _ _ _ _ _ _ _ _ _ _ _ _ _ _ _ _ _ _ ⟨fun z => absurd rfl z, fun _ => ⟨fun z => absurd (hsn.trans d) z, fun _ => ⟨fun z => absurd c z, fun _ => wp_La_law_1097 _ _ _ _ _ _ _ _ _ _ _ _ _ _ _ _ _ _ ⟨fun z => absurd z i32_10, fun _ => ⟨fun _ => ?_, fun z => absurd i13 z⟩⟩⟩⟩⟩), fun z => absurd i13 z⟩⟩
      exact tail25 (c := 1) hA h1 hP' src_rf hy (by omega) ((hC.nx y3).up (by omega)) K
    · have f : fWorkers x (1 + r) = (0, movN (tW (cT x)) (1 + r) 6 0 0, fallS (setW x (1 + r))) := by
        unfold fWorkers
        rw [if_neg nlt, if_pos nle, if_neg d]
      obtain ⟨j, j1, j2⟩ := movN_n (w := tW (cT x)) (q := 1 + r) 6 0 0
      have j2 : movN (tW (cT x)) (1 + r) 6 0 0 = nI j := j2
      rw [j2] at f
      rw [f]
      have ivW := iv_setW hI nlt nle
      have iv := iv_fall ivW
      have ff := fall_two (x := setW x (1 + r)) p3
      intro G1 o1 q1 y1 y2 y3
      have h1 : LQ E N G1 o1 A (fallS (setW x (1 + r))) q1 (mF (fallS (setW x (1 + r)))) (dF (fallS (setW x (1 + r)))) := hW.cls y1 y2
      have C1 := hC.nx y3
      have X1 := side_x iv.1
      have hP1 : PI (fallS (setW x (1 + r))) (t + 1) kd sz sl al (nI (kC (cK (fallS (setW x (1 + r)))))) sn (1 + r) := ⟨iv, hk, hz, hsl, hal, rfl, hsn, rfl, hts⟩
      have hU1 : tU (cT (fallS (setW x (1 + r)))) = 0 := rfl
      show J E 15 m_La_law 1009 _ [.int (nI j)] G1 Post
      refine wp_La_law_1009 _ _ _ _ _ _ _ _ _ _ _ _ _ _ _ _ _ _ _ ⟨fun z => absurd c z, fun _ => ⟨fun z => absurd z (nI_pos (by omega)), fun _ => wp_La_law_1028 _ _ _ _ _ _ _ _ _ _ _ _ _ _ _ _ _ _ ⟨fun _ => ⟨fun _ => ⟨fun z => absurd z (nI_ge (b := 7) (by omega) (by omega)), fun _ => wp_La_law_1097 _ _ _ _ _ _ _ _ _ _ _ _ _ _ _ _ _ _ ⟨fun z => absurd z i32_10, fun _ => ⟨fun z => absurd z (nI_pos (by omega)), fun _ => ⟨fun _ => ⟨h1.1.tg0, c_fail (nm := []) hA h1.1 X1.2.2.2.1 X1.2.2.2.2.1 X1.2.2.2.2.2.1 ?_⟩, fun z => absurd c z⟩⟩⟩⟩, fun z => absurd c z⟩, fun z => absurd z (n13 (by omega))⟩⟩⟩
      have f2 : fFail (fallS (setW x (1 + r))) = (0, nI (kC (cK (fallS (setW x (1 + r))))), fallS (setW x (1 + r))) := by
        unfold fFail
        rw [ff]
      rw [f2]
      intro G2 o2 q2 y1 y2 y3
      have h2 : LQ E N G2 o2 A (fallS (setW x (1 + r))) q2 (mF (fallS (setW x (1 + r)))) (dF (fallS (setW x (1 + r)))) := h1.cls y1 y2
      exact fall_fin (c := 2) hA h2 hP1 ff hU1 hy (by omega) ((C1.nx y3).up (by omega)) K
  · -- it fails
    refine c_fail (nm := []) hA hW.1 X.2.2.2.1 X.2.2.2.2.1 X.2.2.2.2.2.1 ?_
    have iv := iv_fall hI
    have ff := fall_two (x := x) p3
    have f : fFail x = (0, nI (kC (cK (fallS x))), fallS x) := rfl
    have ek : kC (cK (fallS x)) = kP (cK x) := rfl
    rw [f]
    intro G1 o1 q1 y1 y2 y3
    have h1 : LQ E N G1 o1 A (fallS x) q1 (mF (fallS x)) (dF (fallS x)) := hW.cls y1 y2
    have C1 := hC.nx y3
    have hP1 : PI (fallS x) (t + 1) kd sz sl al (nI (kC (cK (fallS x)))) sn wk := ⟨iv, hk, hz, hsl, hal, rfl, hsn, hwk, hts⟩
    have hU1 : tU (cT (fallS x)) = 0 := rfl
    have a1 : ¬ nI (kC (cK (fallS x))) < com := by rw [hcom, ek]; exact nI_nlt p2 (by omega)
    have a2 : ¬ com + uncV x < nI (kC (cK (fallS x))) := by
      have e : com + uncV x = nI (kL (cK x)).length := by
        show com + (nI (kL (cK x)).length - nI (kC (cK x))) = _
        rw [hcom, nI_sub (by omega), nI_add]
        congr 1
        omega
      rw [e, ek]
      exact nI_nlt p3 (by omega)
    have a3 : ¬ nI (kC (cK (fallS x))) < 0 := nI_pos (by omega)
    have a4 : ¬ nI (kC (cK (fallS x))) = -13 := n13 (by omega)
    have fin := fall_fin (c := 1) hA h1 hP1 ff hU1 hy (by omega) (C1.up (by omega)) K
    show J E 15 m_La_law 996 _ [.int (nI (kC (cK (fallS x))))] G1 Post
    exact wp_La_law_996 _ _ _ _ _ _ _ _ _ _ _ _ _ _ _ _ _ _ _ (wp_La_law_1009 _ _ _ _ _ _ _ _ _ _ _ _ _ _ _ _ _ _ _ ⟨fun _ => wp_La_law_1026 _ _ _ _ _ _ _ _ _ _ _ _ _ _ _ _ _ _ (wp_La_law_1028 _ _ _ _ _ _ _ _ _ _ _ _ _ _ _ _ _ _ ⟨fun _ => ⟨fun z => absurd z c, fun _ => ⟨fun z => absurd z a1, fun _ => ⟨fun z => absurd z a2, fun _ => wp_La_law_1097 _ _ _ _ _ _ _ _ _ _ _ _ _ _ _ _ _ _ ⟨fun z => absurd z i32_10, fun _ => ⟨fun z => absurd z a3, fun _ => ⟨fun z => absurd z c, fun _ => fin⟩⟩⟩⟩⟩⟩, fun z => absurd z a4⟩), fun z => absurd z c⟩)
end ARMS26
