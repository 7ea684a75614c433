/-! p25: the law's loop, and the law from its start's ghost heap -/
section LOOP25
variable {E : EV} {Post : Res → GH → Prop} {A : Nat → Nat} {N : Nat} {G0 : GH} {T kd sz sl al : Int32}
theorem i268 : (268435455 : Int32).toInt = 268435455 := by decide +kernel
/-- one turn, behind its number x -/
theorem arm_all {G : GH} {o : Nat → Nat} {x : XS} {p t s : Nat} {y dd com sn wk : Int32} (hA : InjA A) (hW : LQ E N G o A x p (mF x) (dF x)) (hP : PI x t kd sz sl al com sn wk) (hy : 0 ≤ y.toInt) (ht : t ≤ 1000) (hC : Cs G0 0 G (p + 60 * t)) (K : KT E N A G0 Post kd sz sl al T (t + 1)) (hs : s < 3) : J E 15 m_La_law 292 [some (.ref (A 33)), some (.ref (A 0)), some (.ref (A 31)), some (.ref (A 32)), none, some (.int kd), some (.int sz), some (.int sl), some (.int al), none, some (.int com), some (.int sn), some (.int wk), some (.int T), some (.int (nI t)), none, some (.int y), some (.int dd), some (.int (nI s)), some (.int (gMk (cN x))), some (.int (uncV x)), none, none, none, none, none, none] [] G Post := by
  have c5 : (5 : Int32).toInt = 5 := by decide +kernel
  have c50 : (50 : Int32).toInt = 50 := by decide +kernel
  have ck : (1000 : Int32).toInt = 1000 := by decide +kernel
  have tn : (nI t).toInt = (t : Int) := nI_toInt (by omega)
  have y5 : 0 ≤ (y >>> ((5 : Int32) &&& 31)).toInt := (shr_nn hy).1
  refine wp_La_law_292 _ _ _ _ _ _ _ _ _ _ _ _ _ _ _ _ _ _ ⟨fun _ => ⟨fun _ => ⟨fun _ => ⟨fun _ => ⟨fun _ => ⟨fun _ => ⟨fun _ => ?_, fun _ => ?_⟩, fun _ => ⟨fun _ => ?_, fun _ => ?_⟩⟩, fun _ => ?_⟩, fun _ => ?_⟩, fun _ => ⟨hW.1.tg0, _, a_inChannel hs hW.1, _, a_dropped hW.1, _, a_pairs hW.1, ?_⟩⟩, fun _ => ⟨hW.1.tg0, _, a_offset hs hW.1, _, a_inChannel hs hW.1, ?_⟩⟩, fun _ => ⟨fun _ => ?_, fun _ => ?_⟩⟩
  · exact arm_fail hA hW hP hy hC K (Or.inl rfl)
  · exact arm_fail hA hW hP hy hC K (Or.inr rfl)
  · exact arm_idle hA hW hP hy hC K hs (Or.inl rfl)
  · exact arm_idle hA hW hP hy hC K hs (Or.inr rfl)
  · exact arm_conf hA hW hP hy hC K
  · exact arm_bar hA hW hP hy ht hC K
  · exact arm_take hA hW hP hy ht hC K hs
  · exact arm_read hA hW hP hy hC K hs
  · obtain ⟨-, q1, q2⟩ := rm_int (m := (50 : Int32)) y5 (by omega)
    generalize (y >>> ((5 : Int32) &&& 31)) - (y >>> ((5 : Int32) &&& 31)) / (50 : Int32) * (50 : Int32) = q at *
    have m5 : ((5 : Int32) * nI t).toInt = 5 * (t : Int) := by rw [i32_mul (by rw [c5, tn]; omega) (by rw [c5, tn]; omega), c5, tn]
    have a5 : ((5 : Int32) * nI t + q).toInt = 5 * (t : Int) + q.toInt := by rw [i32_add (by rw [m5]; omega) (by rw [m5]; omega), m5]
    obtain ⟨-, r1, r2⟩ := rm_int (a := (5 : Int32) * nI t + q) (m := (1000 : Int32)) (by omega) (by omega)
    exact arm_app hA hW hP hy hC K hs r1 (by omega)
  · obtain ⟨-, r1, r2⟩ := rm_int (m := (1000 : Int32)) y5 (by omega)
    exact arm_app hA hW hP hy hC K hs r1 (by omega)
theorem law_loop25 {Tn : Nat} (hA : InjA A) (hN : N ≤ 260) (hT : T = nI Tn) (hTn : Tn ≤ 1000) (hPost : ∀ G o p x, StS E G o A x p → Cs G0 0 G (p + 60 * Tn) → Post (.inl (some (.int 1))) G) : ∀ (d t : Nat), t ≤ Tn → Tn < d + t → KT E N A G0 Post kd sz sl al T t := by
  intro d
  induction d with
  | zero => intro t h1 h2; omega
  | succ d ih =>
    intro t htT hd G o x p com sn wk hW hP hC
    obtain ⟨h1, -, -, ⟨w1, w2, w3⟩, -⟩ := id hW
    have c3 : (3 : Int32).toInt = 3 := by decide +kernel
    have c4 : 0 ≤ (268435455 : Int32).toInt := by decide +kernel
    refine wp_La_law_198 _ _ _ _ _ _ _ _ _ _ _ _ _ _ ⟨fun c => wp_La_law_1322 _ ⟨Or.inr rfl, hPost G o p x h1 (hC.up (by omega))⟩, fun c => ⟨fun z => absurd z i32_10, fun _ => ⟨by rcases w1 with z | z <;> rw [z] <;> decide, ?_⟩⟩⟩
    have lt : t < Tn := Nat.lt_of_not_le (fun z => c (by rw [hT]; exact nI_le z (by omega)))
    have K : KT E N A G0 Post kd sz sl al T (t + 1) := ih (t + 1) lt (by omega)
    have nx : ∀ xx : Int32, J E 15 m_La_law 246 [some (.ref (A 33)), some (.ref (A 0)), some (.ref (A 31)), some (.ref (A 32)), none, some (.int kd), some (.int sz), some (.int sl), some (.int al), none, some (.int com), some (.int sn), some (.int wk), some (.int T), some (.int (nI t)), none, none, none, none, none, none, none, none, none, none, none, none] [.int xx] G Post := fun xx => by
      have hy := (and_nn (a := xx >>> ((4 : Int32) &&& 31)) c4).1
      have e272 : ∀ dd : Int32, J E 15 m_La_law 272 [some (.ref (A 33)), some (.ref (A 0)), some (.ref (A 31)), some (.ref (A 32)), none, some (.int kd), some (.int sz), some (.int sl), some (.int al), none, some (.int com), some (.int sn), some (.int wk), some (.int T), some (.int (nI t)), none, some (.int ((xx >>> ((4 : Int32) &&& 31)) &&& (268435455 : Int32))), none, none, none, none, none, none, none, none, none, none] [.int dd] G Post := fun dd => by
        generalize (xx >>> ((4 : Int32) &&& 31)) &&& (268435455 : Int32) = y at *
        obtain ⟨-, r1, r2⟩ := rm_int (m := (3 : Int32)) hy (by omega)
        obtain ⟨s, hs, es⟩ := nI_ex (n := 3) r1 (by omega) (by omega)
        refine wp_La_law_272 _ _ _ _ _ _ _ _ _ _ _ _ _ _ _ ⟨hW.1.tg0, _, a_watermark hW.1, _, a_uncommitted hW.1, ?_⟩
        rw [es]
        exact arm_all hA hW hP hy (by omega) hC K hs
      exact wp_La_law_246 _ _ _ _ _ _ _ _ _ _ _ _ _ _ ⟨fun _ => e272 _, fun _ => e272 _⟩
    rw [w2]
    refine ⟨fun _ => nx _, fun c2 => ⟨w1, t + 1, ?_, nx _⟩⟩
    rw [nI_1] at c2 ⊢
    exact IX.nI (Nat.lt_of_not_le (fun z => c2 (nI_le z (by omega)))) (by omega)
/-- the job that the law sets -/
def jX (p1 p2 p3 p4 p5 p6 : Int32) : XS := (jbF p1 p2 p3 p4 p5 p6, cS X0, cN X0, cP X0, cH X0, cK X0, cB X0, cT X0)
theorem iv_jX {p1 p2 p3 p4 p5 p6 : Int32} (h : ¬ jbBad p1 p2 p3 p4 p5) (h6 : p6 = 0 ∨ p6 = 1) : fJob X0 p1 p2 p3 p4 p5 p6 = (0, jX p1 p2 p3 p4 p5 p6) ∧ Iv (jX p1 p2 p3 p4 p5 p6) := by
  have e : fJob X0 p1 p2 p3 p4 p5 p6 = (0, jX p1 p2 p3 p4 p5 p6) := by
    unfold fJob
    rw [if_neg h, if_pos (show tB (cT X0) = 0 from rfl)]
    rfl
  have i := (sim_all.2.1 X0 X0 [] 0 RR0 p1 p2 p3 p4 p5 p6 h6).2.1
  rw [e] at i
  refine ⟨e, i, ⟨fun s _ v hv => absurd hv (by simp [sEv, cS, jX, X0, sc0]), fun s _ => rfl, fun s _ => ?_, fun s _ => ?_, fun z => absurd rfl z⟩, Or.inr ?_⟩
  · show -1 ≤ (-1 : Int32).toInt ∧ (-1 : Int32).toInt ≤ 999
    decide +kernel
  · show -1 ≤ (-1 : Int32).toInt ∧ (-1 : Int32).toInt ≤ 999
    decide +kernel
  · show ¬ gMk (cN X0) < lst X0
    decide +kernel
/-- behind the object's making: the law's own numbers -/
theorem law_setup {G : GH} {o : Nat → Nat} {z : Int32} (hA : InjA A) (hN : N ≤ 260) (hW : LQ E N G o A X0 0 (fun _ => 0) (fun _ => 0)) (hz : 0 ≤ z.toInt)
    (hPost : ∀ G', gz G' ≤ gz G + 140000 → gs G' ≤ gs G + 900000 → Post (.inl (some (.int 1))) G') : J E 15 m_La_law 32 [some (.ref (A 33)), some (.ref (A 0)), some (.ref (A 31)), some (.ref (A 32)), none, none, none, none, none, none, none, none, none, none, none, none, none, none, none, none, none, none, none, none, none, none, none] [.int z] G Post := by
  have c1 : (1 : Int32).toInt = 1 := by decide +kernel
  have c2 : (2 : Int32).toInt = 2 := by decide +kernel
  have c3 : (3 : Int32).toInt = 3 := by decide +kernel
  have c0 : (0 : Int32).toInt = 0 := by decide +kernel
  have c8 : (8 : Int32).toInt = 8 := by decide +kernel
  have c20 : (20 : Int32).toInt = 20 := by decide +kernel
  have c30 : (30 : Int32).toInt = 30 := by decide +kernel
  have c50 : (50 : Int32).toInt = 50 := by decide +kernel
  have c200 : (200 : Int32).toInt = 200 := by decide +kernel
  obtain ⟨-, k1, k2⟩ := rm_int (a := z) (m := (3 : Int32)) hz (by omega)
  have z2 : 0 ≤ (z >>> ((2 : Int32) &&& 31)).toInt := (shr_nn hz).1
  have z8 : 0 ≤ (z >>> ((8 : Int32) &&& 31)).toInt := (shr_nn hz).1
  have z15 : 0 ≤ (z >>> ((15 : Int32) &&& 31)).toInt := (shr_nn hz).1
  have z20 : 0 ≤ (z >>> ((20 : Int32) &&& 31)).toInt := (shr_nn hz).1
  obtain ⟨-, s1, s2⟩ := rm_int (m := (50 : Int32)) z2 (by omega)
  obtain ⟨-, g1, g2⟩ := rm_int (m := (30 : Int32)) z15 (by omega)
  obtain ⟨-, e1, e2⟩ := rm_int (m := (20 : Int32)) z20 (by omega)
  refine wp_La_law_32 _ _ _ _ _ ?_
  generalize z - z / (3 : Int32) * (3 : Int32) = kd at *
  have ez : ((1 : Int32) + ((z >>> ((2 : Int32) &&& 31)) - (z >>> ((2 : Int32) &&& 31)) / (50 : Int32) * (50 : Int32))).toInt = 1 + ((z >>> ((2 : Int32) &&& 31)) - (z >>> ((2 : Int32) &&& 31)) / (50 : Int32) * (50 : Int32)).toInt := by rw [i32_add (by rw [c1]; omega) (by rw [c1]; omega), c1]
  have sz1 : 1 ≤ ((1 : Int32) + ((z >>> ((2 : Int32) &&& 31)) - (z >>> ((2 : Int32) &&& 31)) / (50 : Int32) * (50 : Int32))).toInt ∧ ((1 : Int32) + ((z >>> ((2 : Int32) &&& 31)) - (z >>> ((2 : Int32) &&& 31)) / (50 : Int32) * (50 : Int32))).toInt ≤ 50 := by omega
  clear ez
  generalize (1 : Int32) + ((z >>> ((2 : Int32) &&& 31)) - (z >>> ((2 : Int32) &&& 31)) / (50 : Int32) * (50 : Int32)) = sz at *
  obtain ⟨-, r1, r2⟩ := rm_int (m := sz) z8 (by omega)
  -- the job, then the turns
  have e103 : ∀ (sl al : Int32), 1 ≤ sl.toInt → sl.toInt ≤ sz.toInt → sz.toInt ≤ 8 * sl.toInt → (al = 0 ∨ al = 1) → J E 15 m_La_law 103 [some (.ref (A 33)), some (.ref (A 0)), some (.ref (A 31)), some (.ref (A 32)), some (.int z), some (.int kd), some (.int sz), some (.int sl), none, none, none, none, none, none, none, none, none, none, none, none, none, none, none, none, none, none, none] [.int al] G Post := fun sl al l1 l2 l3 hal => by
    refine wp_La_law_103 _ _ _ _ _ _ _ _ _ ⟨hW.1.tg0, c_job hA hW.1 hal ?_⟩
    generalize (z >>> ((15 : Int32) &&& 31)) - (z >>> ((15 : Int32) &&& 31)) / (30 : Int32) * (30 : Int32) = gr at *
    generalize (z >>> ((20 : Int32) &&& 31)) - (z >>> ((20 : Int32) &&& 31)) / (20 : Int32) * (20 : Int32) = re at *
    have e8 : ((8 : Int32) * sl).toInt = 8 * sl.toInt := by rw [i32_mul (by rw [c8]; omega) (by rw [c8]; omega), c8]
    have ok : ¬ jbBad kd sz sl gr re := fun q => by
      rcases q with q | q | q | q | q | q | q | q | ⟨-, q | q | q⟩ <;> (have := i32_lt q; omega)
    obtain ⟨f, iv⟩ := iv_jX (p6 := al) ok hal
    rw [f]
    intro G1 o1 p1 y1 y2 y3
    have h0 : LQ E N G1 o1 A (jX kd sz sl gr re al) p1 (fun _ => 0) (fun _ => 0) := hW.cls y1 y2
    have h1 : LQ E N G1 o1 A (jX kd sz sl gr re al) p1 (mF (jX kd sz sl gr re al)) (dF (jX kd sz sl gr re al)) := h0.congr (fun i _ => nI_0.symm) (fun i _ => rfl)
    have eu : uncV (jX kd sz sl gr re al) = 0 := by show nI 0 - nI 0 = (0 : Int32); decide +kernel
    obtain ⟨-, -, -, ⟨w1, w2, w3⟩, -⟩ := id h1
    have pb := y1.pb
    have b1 := y3.1
    have b2 := y3.2
    have tg : 20 ≤ gT G1 (A 33) ∧ gT G1 (A 33) ≤ 26 := by rcases w1 with q | q <;> rw [q] <;> decide
    have loop : ∀ (T : Int32) (Tn : Nat), T = nI Tn → Tn ≤ 200 → J E 15 m_La_law 193 [some (.ref (A 33)), some (.ref (A 0)), some (.ref (A 31)), some (.ref (A 32)), none, some (.int kd), some (.int sz), some (.int sl), some (.int al), some (.int 1), some (.int 0), some (.int 0), some (.int 1), none, none, none, none, none, none, none, none, none, none, none, none, none, none] [.int T] G1 Post := fun T Tn hT hTn => by
      refine wp_La_law_193 _ _ _ _ _ _ _ _ _ _ _ _ _ ?_
      exact law_loop25 (G0 := G1) hA hN hT (by omega) (fun G' o' p' x' q1 q2 => hPost G' (by have := q1.pb; have := q2.1; omega) (by have := q1.pb; have := q2.2; omega)) (Tn + 1) 0 (Nat.zero_le _) (by omega) G1 o1 _ p1 0 0 1 h1 ⟨iv, rfl, rfl, ⟨l1, by omega⟩, rfl, nI_0.symm, rfl, rfl, 0, Nat.le_refl _, nI_0.symm⟩ ⟨by omega, by omega⟩
    show J E 15 m_La_law 133 [some (.ref (A 33)), some (.ref (A 0)), some (.ref (A 31)), some (.ref (A 32)), none, some (.int kd), some (.int sz), some (.int sl), some (.int al), none, none, none, none, none, none, none, none, none, none, none, none, none, none, none, none, none, none] [] G1 Post
    refine wp_La_law_133 _ _ _ _ _ _ _ _ ⟨h1.1.tg0, _, a_watermark h1.1, fun q => absurd rfl q, fun _ => ⟨_, a_uncommitted h1.1, fun q => absurd eu q, fun _ => wp_La_law_153 _ _ _ _ _ _ _ _ _ ⟨tg, fun _ => ⟨tg, fun _ => ?_, fun c80 => ⟨tg, ?_⟩⟩, fun _ => ?_⟩⟩⟩
    · exact loop 200 200 (by decide +kernel) (by omega)
    · rw [w2] at c80 ⊢
      have n80 : N < 80 := Nat.lt_of_not_le (fun q => c80 (nI_le (a := 80) q (by omega)))
      have tn : (nI N).toInt = (N : Int) := nI_toInt (by omega)
      have e : (2 : Int32) * nI N = nI (2 * N) := Int32.toInt_inj.mp (by rw [i32_mul (by rw [c2, tn]; omega) (by rw [c2, tn]; omega), c2, tn, nI_toInt (by omega)]; omega)
      exact loop _ (2 * N) e (by omega)
    · exact loop 120 120 (by decide +kernel) (by omega)
  have e86 : ∀ sl : Int32, 1 ≤ sl.toInt → sl.toInt ≤ sz.toInt → sz.toInt ≤ 8 * sl.toInt → J E 15 m_La_law 86 [some (.ref (A 33)), some (.ref (A 0)), some (.ref (A 31)), some (.ref (A 32)), some (.int z), some (.int kd), some (.int sz), none, none, none, none, none, none, none, none, none, none, none, none, none, none, none, none, none, none, none, none] [.int sl] G Post := fun sl l1 l2 l3 =>
    wp_La_law_86 _ _ _ _ _ _ _ _ ⟨fun _ => e103 sl 0 l1 l2 l3 (Or.inl rfl), fun _ => e103 sl 1 l1 l2 l3 (Or.inr rfl)⟩
  refine wp_La_law_51 _ _ _ _ _ _ _ ⟨i32_ne (by omega), ?_⟩
  have es : (sz - ((z >>> ((8 : Int32) &&& 31)) - (z >>> ((8 : Int32) &&& 31)) / sz * sz)).toInt = sz.toInt - ((z >>> ((8 : Int32) &&& 31)) - (z >>> ((8 : Int32) &&& 31)) / sz * sz).toInt := i32_sub (by omega) (by omega)
  have sl1 : 1 ≤ (sz - ((z >>> ((8 : Int32) &&& 31)) - (z >>> ((8 : Int32) &&& 31)) / sz * sz)).toInt ∧ (sz - ((z >>> ((8 : Int32) &&& 31)) - (z >>> ((8 : Int32) &&& 31)) / sz * sz)).toInt ≤ sz.toInt := by omega
  clear es r1 r2
  generalize sz - ((z >>> ((8 : Int32) &&& 31)) - (z >>> ((8 : Int32) &&& 31)) / sz * sz) = sl0 at *
  refine wp_La_law_64 _ _ _ _ _ _ _ _ ⟨i32_ne (by omega), fun c => ?_, fun c => ?_⟩
  · refine e86 sl0 sl1.1 sl1.2 ?_
    have a1 : (sz + sl0).toInt = sz.toInt + sl0.toInt := i32_add (by omega) (by omega)
    have a2 : (sz + sl0 - 1).toInt = sz.toInt + sl0.toInt - 1 := by rw [i32_sub (by rw [a1, c1]; omega) (by rw [a1, c1]; omega), a1, c1]
    have c := i32_le c
    rw [dv_int (by omega) (by omega), a2, c8] at c
    have d := Int.lt_ediv_add_one_mul_self (sz.toInt + sl0.toInt - 1) (b := sl0.toInt) (by omega)
    have e := Int.mul_le_mul_of_nonneg_right (c := sl0.toInt) (show (sz.toInt + sl0.toInt - 1) / sl0.toInt + 1 ≤ 9 by omega) (by omega)
    omega
  · exact e86 sz sz1.1 (Int.le_refl _) (by omega)
def mA25 (z a0 j : Nat) : Nat := if j = 33 then a0 else if j = 4 then z + 5 else if j = 5 then z + 7 else if j = 6 then z + 4 else if j = 7 then z + 6 else z + j
theorem mA25_inj {z a0 : Nat} (h : a0 < z) : InjA (mA25 z a0) := by
  intro i j hi hj
  unfold mA25
  repeat' split
  all_goals omega
/-- the law answers 1 -/
theorem c_law25 {G : GH} {a0 : Nat} (hw : Wf G) (hE : EmR E G) (ht : gT G a0 = 20 ∨ gT G a0 = 25) (hn : gN G a0 = N) (hN : N ≤ 260) (hP : ∀ G', gz G' ≤ gz G + 600074 → gs G' ≤ gs G + 7301550 → Post (.inl (some (.int 1))) G') : J E 15 m_La_law 0 [some (.ref a0), none, none, none, none, none, none, none, none, none, none, none, none, none, none, none, none, none, none, none, none, none, none, none, none, none, none] [] G Post := by
  have ha : a0 < gz G := hw a0 (by rcases ht with z | z <;> rw [z] <;> decide)
  have hA := mA25_inj (z := gz G) ha
  refine wp_La_law_0 a0 (fun G1 hG1 => ?_)
  generalize hAd : mA25 (gz G) a0 = A at *
  have eA : ∀ j, A j = mA25 (gz G) a0 j := fun j => by rw [hAd]
  have e0 : A 0 = gz G := by rw [eA]; rfl
  have s1 : Stq (RA A) G id G1 (uo id (gz G) (gz G)) := by rw [hG1]; exact (Stq.rf hw).al (gz G)
  have t1 : gT G1 (A 0) = 10 := by rw [e0, hG1, gT_al, if_pos rfl]
  have z1 : gz G1 = gz G + 1 := by rw [hG1]; rfl
  have q1 : gs G1 = gs G + 11 := by rw [hG1]; rfl
  have ov : ∀ q, q < gz G1 → uo id (gz G) (gz G) q < gz G1 := fun q hq => by
    by_cases c : q = gz G
    · rw [c, uo_eq]; omega
    · rw [uo_ne c]; exact hq
  have fin0 : ∀ G' o', StS E G' o' A X0 0 → Stq (RA A) G1 (uo id (gz G) (gz G)) G' o' → gz G' = gz G1 + 30 → gs G' = gs G1 + 106 → J E 15 m_La_law 7 [some (.ref a0), none, none, none, none, none, none, none, none, none, none, none, none, none, none, none, none, none, none, none, none, none, none, none, none, none, none] [.ref (gz G)] G' Post := by
    intro G2 o2 y1 y2 y3 y4
    have s2 := s1.tr y2
    have z2 : gz G2 = gz G + 31 := by omega
    have e31 : A 31 = gz G + 31 := by rw [eA]; rfl
    have e32 : A 32 = gz G + 32 := by rw [eA]; rfl
    have e33 : A 33 = a0 := by rw [eA]; rfl
    refine wp_La_law_7 a0 (gz G) (fun G3 hG3 G5 hG5 => ?_)
    have s3 : Stq ([31].map A) G2 o2 G3 (uo o2 (gz G2) (gz G2)) := by rw [hG3]; exact (Stq.rf y1.wf).al (gz G2)
    have y5 : StS E G3 (uo o2 (gz G2) (gz G2)) A X0 0 := y1.ot hA s3 (by decide)
    have z3 : gz G3 = gz G + 32 := by rw [hG3]; show gz G2 + 1 = _; omega
    have q3 : gs G3 = gs G2 + 3 := by rw [hG3]; rfl
    have u3 : uo o2 (gz G2) (gz G2) (A 31) = A 31 := by rw [e31, ← z2, uo_eq]
    have m3 : gT G3 (A 31) = 20 ∧ gN G3 (A 31) = 3 ∧ ∀ i, gA G3 (A 31) i = 0 := by
      rw [e31, ← z2, hG3]
      exact ⟨by rw [gT_al, if_pos rfl], by rw [gN_al, if_pos rfl], fun i => by rw [gA_al, if_pos rfl]⟩
    have k3 : uo o2 (gz G2) (gz G2) a0 = a0 := by rw [uo_ne (by omega), s2.ow ha]; rfl
    have x3 : gT G3 a0 = gT G a0 ∧ gN G3 a0 = N := ⟨by rw [s3.tg (by omega), s2.tg ha], by rw [s3.ln (by omega), s2.ln ha]; exact hn⟩
    generalize hO3 : uo o2 (gz G2) (gz G2) = o3 at *
    have s5 : Stq ([32].map A) G3 o3 G5 (uo o3 (gz G3) (gz G3)) := by rw [hG5]; exact (Stq.rf y5.wf).al (gz G3)
    have y6 : StS E G5 (uo o3 (gz G3) (gz G3)) A X0 0 := y5.ot hA s5 (by decide)
    have z5 : gz G5 = gz G + 33 := by rw [hG5]; show gz G3 + 1 = _; omega
    have q5 : gs G5 = gs G3 + 3 := by rw [hG5]; rfl
    have m5 : gT G5 (A 32) = 20 ∧ gN G5 (A 32) = 3 ∧ ∀ i, gA G5 (A 32) i = 0 := by
      rw [e32, ← z3, hG5]
      exact ⟨by rw [gT_al, if_pos rfl], by rw [gN_al, if_pos rfl], fun i => by rw [gA_al, if_pos rfl]⟩
    have qa := s5.sm (q := A 31) (by omega) (by rw [u3]; exact hA.nj (by omega) (by decide) (by decide))
    have hLP : LQ E N G5 (uo o3 (gz G3) (gz G3)) A X0 0 (fun _ => 0) (fun _ => 0) := by
      refine ⟨y6, ⟨qa.1.trans m3.1, qa.2.1.trans m3.2.1, (s5.ow (by omega)).trans u3, fun i _ => (qa.2.2.2.2.1 i).trans (m3.2.2 i)⟩, ⟨m5.1, m5.2.1, by rw [e32, ← z3, uo_eq], fun i _ => m5.2.2 i⟩, ⟨?_, ?_, ?_⟩, fun j hj => ?_⟩
      · rw [e33, s5.tg (by omega), x3.1]; exact ht
      · rw [e33, s5.ln (by omega)]; exact x3.2
      · rw [e33, s5.ow (by omega)]; exact k3
      · rw [eA, z5]
        unfold mA25
        repeat' split
        all_goals omega
    have go : ∀ z : Int32, 0 ≤ z.toInt → J E 15 m_La_law 32 [some (.ref a0), some (.ref (gz G)), some (.ref (gz G2)), some (.ref (gz G3)), none, none, none, none, none, none, none, none, none, none, none, none, none, none, none, none, none, none, none, none, none, none, none] [.int z] G5 Post := fun z hz => by
      have l := law_setup hA hN hLP hz (Post := Post) (fun G' b1 b2 => hP G' (by omega) (by omega))
      rw [e33, e0, e31, e32, ← z2, ← z3] at l
      exact l
    have tg : gT G5 a0 = 20 ∨ gT G5 a0 = 25 := by rw [s5.tg (by omega), x3.1]; exact ht
    have gn : gN G5 a0 = N := by rw [s5.ln (by omega)]; exact x3.2
    refine ⟨by rcases tg with q | q <;> rw [q] <;> decide, fun _ => go _ (by decide +kernel), fun c => ⟨tg, ?_, go _ (and_nn (by decide +kernel)).1⟩⟩
    rw [gn] at c ⊢
    exact IX.nI (n := 0) (by
      by_cases d : N = 0
      · rw [d] at c; exact absurd (by decide +kernel) c
      · omega) (by omega)
  have g := c_St_init (E := E) (Post := aft E 15 m_La_law 4 [some (.ref a0), none, none, none, none, none, none, none, none, none, none, none, none, none, none, none, none, none, none, none, none, none, none, none, none, none, none] [.ref (gz G)] Post) hA s1.wf (hE.stp hw s1) ov t1 (by rw [e0]; exact uo_eq) (by rw [eA]; show gz G + 1 = _; omega) (by rw [eA]; show gz G + 2 = _; omega) (by rw [eA]; show gz G + 3 = _; omega) (by rw [eA]; show gz G + 4 = _; omega) (by rw [eA]; show gz G + 5 = _; omega) (by rw [eA]; show gz G + 6 = _; omega) (by rw [eA]; show gz G + 7 = _; omega) (by rw [eA]; show gz G + 8 = _; omega)
    (fun j h1 h2 => by rw [eA]; unfold mA25; rw [if_neg (by omega), if_neg (by omega), if_neg (by omega), if_neg (by omega), if_neg (by omega)]; omega)
    (fun G' o' y1 y2 y3 y4 _ => fin0 G' o' y1 y2 y3 y4)
  rw [e0] at g
  exact g
end LOOP25
