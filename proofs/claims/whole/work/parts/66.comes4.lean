section COMES4
variable {E : EV} {G : GH} {Post : Res → GH → Prop} {m : Nat} {B : Nat → Nat} {F : Nat → Int32} {T : Nat → Nat → Int32} {th : Int32} {y : XS} {Jd : List Nat} {JK : Nat}
theorem bk_fix {st sz t x : Int32} (h : bkS st sz t x = x) : ∀ n, bk st sz t n x = x
  | 0 => rfl
  | n + 1 => by
    show bk st sz t n (bkS st sz t x) = x
    rw [h]; exact bk_fix h n
theorem i32_sub_self {x st : Int32} (h : x - st = x) : st = 0 := by
  have h1 : x - st + st = x := Int32.sub_add_cancel x st
  rw [h] at h1
  have h2 := congrArg (fun z => z - x) h1
  simp only [Int32.sub_self] at h2
  rw [Int32.add_comm, Int32.add_sub_cancel] at h2
  exact h2
theorem comes_1 {key v sz st gr mk la fs : Int32} {ss : List Int32} {e : Nat} {G0 : GH} (hB : InjB m B) (hj : cJ y 1 = sz ∧ cJ y 2 = st ∧ cJ y 3 = gr ∧ gMk (cN y) = mk) (hu : UQ (gWi (cN y))) (hnd : ss.Nodup) (he : e < 120) (hs8 : ss.length ≤ 8) (hL : (kL (cK y)).length + 16 ≤ 3890) (hl : (gWi (cN y)).length + 8 ≤ 989)
    (hmono : ∀ i, i ≤ 8 → la < fs + nI i * st → sts fs la st sz gr mk (8 - i) i = []) (hend : la < fs + nI 8 * st)
    (k : ∀ G', MS G' m B th (setWn (setLk y ((kL (cK y) ++ cmR1 key (addN key sz (gWi (cN y)) ss) ss) ++ cmR2 key v (addN key sz (gWi (cN y)) ss) ss)) (cmW key v (addN key sz (gWi (cN y)) ss) ss)) Jd JK → MSt G0 m B G' → Post (.inl (some (.int (nI ss.length)))) G') :
    ∀ (d i : Nat) (G : GH) (F : Nat → Int32) (T : Nat → Nat → Int32) (ss0 : List Int32) (H : List Nat), d + i = 8 → ss0 ++ sts fs la st sz gr mk d i = ss → MoS G m B F T → AB F T th (setWn y (addN key sz (gWi (cN y)) ss0)) Jd JK → HT F T H → HM key (addN key sz (gWi (cN y)) ss0) ss0 H → T 10 e = key → T 11 e = v → MSt G0 m B G → J E 2 m_Mo_comes 66 [some (.ref m), some (.int (nI e)), some (.int la), none, some (.int (fs + nI i * st))] [] G Post := by
  have base : ∀ (d i : Nat) (G : GH) (F : Nat → Int32) (T : Nat → Nat → Int32) (ss0 : List Int32) (H : List Nat), d + i = 8 → ss0 ++ sts fs la st sz gr mk d i = ss → MoS G m B F T → AB F T th (setWn y (addN key sz (gWi (cN y)) ss0)) Jd JK → HT F T H → HM key (addN key sz (gWi (cN y)) ss0) ss0 H → T 11 e = v → MSt G0 m B G → la < fs + nI i * st → J E 2 m_Mo_comes 137 [some (.ref m), some (.int (nI e)), none, none, some (.int 0)] [] G Post := by
    intro d i G F T ss0 H hdi hss h ha ht hH hv hst hlt
    have hs := hmono i (by omega) hlt
    rw [show 8 - i = d by omega] at hs
    rw [hs, List.append_nil] at hss
    subst hss
    obtain ⟨N, eN, lN, -⟩ := addN_app key sz ss0 (gWi (cN y))
    have hl2 : (addN key sz (gWi (cN y)) ss0).length ≤ 990 := by rw [eN, List.length_append]; omega
    refine comes_2 (L := kL (cK y)) hB (UQ.addN ss0 hu) hnd hH he hs8 hL hl2 k ss0.length 0 G F T rfl h ?_ ht hv hst (Nat.le_refl 0)
    rw [show cmR1 key (addN key sz (gWi (cN y)) ss0) (ss0.take 0) = [] from rfl, List.append_nil]
    exact ha
  have nxt : ∀ i : Nat, fs + nI i * st + st = fs + nI (i + 1) * st := fun i => by
    rw [← nI_1 i, Int32.add_mul, Int32.one_mul, Int32.add_assoc]
  intro d
  induction d with
  | zero =>
    intro i G F T ss0 H hdi hss h ha ht hH hk hv hst
    have ei : i = 8 := by omega
    subst ei
    exact wp_Mo_comes_66 m (nI e) la (fs + nI 8 * st) ⟨fun c => base 0 8 G F T ss0 H rfl hss h ha ht hH hv hst c, fun c => absurd hend c⟩
  | succ d ih =>
    intro i G F T ss0 H hdi hss h ha ht hH hk hv hst
    have x2 : aJ F (cJ y) := ha.2.1
    have e1 : gI G 642 m = sz := ((h.int 2 (by decide) (by decide)).trans x2.2.1).trans hj.1
    have e2 : gI G 643 m = st := ((h.int 3 (by decide) (by decide)).trans x2.2.2.1).trans hj.2.1
    have e3 : gI G 644 m = gr := ((h.int 4 (by decide) (by decide)).trans x2.2.2.2.1).trans hj.2.2.1
    have x6 : F 18 = gMk (cN y) := ha.2.2.2.2.2.1
    have e4 : gI G 658 m = mk := ((h.int 18 (by decide) (by decide)).trans x6).trans hj.2.2.2
    refine wp_Mo_comes_66 m (nI e) la (fs + nI i * st) ⟨fun c => base (d + 1) i G F T ss0 H hdi hss h ha ht hH hv hst c, fun c => ⟨h.tg, ?_⟩⟩
    rw [e1, e2, e3, e4, nxt]
    have hs1 : sts fs la st sz gr mk (d + 1) i = (if fs + nI i * st + sz + gr ≤ mk then sts fs la st sz gr mk d (i + 1) else (fs + nI i * st) :: sts fs la st sz gr mk d (i + 1)) := by
      show (if la < fs + nI i * st then _ else _) = _
      rw [if_neg c]
    refine ⟨fun c2 => ?_, fun c2 => ?_⟩
    · rw [hs1, if_pos c2] at hss
      exact ih (i + 1) G F T ss0 H (by omega) hss h ha ht hH hk hv hst
    rw [hs1, if_neg c2] at hss
    have hlen0 : ss0.length + 1 ≤ ss.length := by rw [← hss, List.length_append, List.length_cons]; omega
    obtain ⟨N, eN, lN, -⟩ := addN_app key sz ss0 (gWi (cN y))
    have hl2 : (addN key sz (gWi (cN y)) ss0).length < 990 := by rw [eN, List.length_append]; omega
    have hss' : (ss0 ++ [fs + nI i * st]) ++ sts fs la st sz gr mk d (i + 1) = ss := by rw [List.append_assoc]; exact hss
    have hHl := hH.1
    -- behind window()
    have go : ∀ (G1 : GH) (F1 : Nat → Int32) (T1 : Nat → Nat → Int32) (a : Nat), MoS G1 m B F1 T1 → MSt G m B G1 → AB F1 T1 th (setWn y (addN key sz (gWi (cN y)) (ss0 ++ [fs + nI i * st]))) Jd JK → HT F1 T1 H → T1 10 e = key → T1 11 e = v → (∃ w, (addN key sz (gWi (cN y)) (ss0 ++ [fs + nI i * st]))[a]? = some w ∧ isW key (fs + nI i * st) w) → (∀ (j : Nat) w, (addN key sz (gWi (cN y)) ss0)[j]? = some w → (addN key sz (gWi (cN y)) (ss0 ++ [fs + nI i * st]))[j]? = some w) →
        J E 2 m_Mo_comes 111 [some (.ref m), some (.int (nI e)), some (.int la), none, some (.int (fs + nI i * st))] [.int (nI a), .int (nI H.length), .ref (B 30)] G1 Post := by
      intro G1 F1 T1 a h1 s1 a1 t1 k1 v1 ex old
      have e31 : gI G1 671 m = nI H.length := (h1.int 31 (by decide) (by decide)).trans t1.1
      refine wp_Mo_comes_111 m (nI e) la (fs + nI i * st) (B 30) (nI H.length) (nI a) ⟨h1.at' 30 rfl, H.length, h1.ix 30 rfl (by unfold aN; simp; omega), h1.tg, ?_⟩
      rw [e31, show gI G1 643 m = st from ((h1.int 3 (by decide) (by decide)).trans a1.2.1.2.2.1).trans hj.2.1, nxt, nI_1]
      have h2 := (h1.wA hB 30 H.length (nI a) rfl).wI 31 (nI (H.length + 1))
      obtain ⟨x1, x2, x3, x4, x5, x6, x7, x8, x9, x10, x11, x12, x13, x14, x15, x16, x17, x18⟩ := a1
      refine ih (i + 1) _ _ _ (ss0 ++ [fs + nI i * st]) (H ++ [a]) (by omega) hss' h2 ⟨x1, x2, x3, x4, x5, x6, x7, x8, x9, x10, x11, x12, x13, x14, x15, x16, x17, x18⟩ ⟨?_, fun j q hq => ?_⟩ ⟨by rw [List.length_append, List.length_append, hHl]; rfl, fun j q s hq hs => ?_⟩ k1 v1 (hst.tr (s1.tr ((MSt.rf.wA rfl).wI)))
      · rw [List.length_append]; rfl
      · rw [getElem?_snoc'] at hq
        by_cases cj : j = H.length
        · rw [if_pos cj] at hq
          cases hq
          rw [cj]; exact u2
        · rw [if_neg cj] at hq
          exact (u2n cj).trans (t1.2 j q hq)
      · rw [getElem?_snoc'] at hq hs
        by_cases cj : j = H.length
        · rw [if_pos cj] at hq
          rw [if_pos (by omega)] at hs
          cases hq
          cases hs
          exact ex
        · rw [if_neg cj] at hq
          rw [if_neg (by omega)] at hs
          obtain ⟨w, w1, w2⟩ := hH.2 j q s hq hs
          exact ⟨w, old q w w1, w2⟩
    have e671 : gI G 671 m = nI H.length := (h.int 31 (by decide) (by decide)).trans ht.1
    refine ⟨B 30, h.rf 30 rfl, B 10, h.rf 10 rfl, Or.inl (h.at' 10 rfl), e, h.ix 10 rfl (by unfold aN; simp; omega), ?_⟩
    rw [h.rd 10 rfl, hk, e671]
    refine c_window hB h ha hl2 (fun a w hw hs => ?_) (fun hno G1 F1 T1 h1 s1 a1 t1 f1 => ?_)
    · have hex : ∃ w ∈ addN key sz (gWi (cN y)) ss0, isW key (fs + nI i * st) w := ⟨w, List.mem_of_getElem? hw, hs⟩
      have es : addN key sz (gWi (cN y)) (ss0 ++ [fs + nI i * st]) = addN key sz (gWi (cN y)) ss0 := by rw [addN_snoc, if_pos hex]
      exact go G F T a h MSt.rf (by rw [es]; exact ha) ht hk hv ⟨w, by rw [es]; exact hw, hs⟩ (fun j w' hw' => by rw [es]; exact hw')
    · have hex : ¬ ∃ w ∈ addN key sz (gWi (cN y)) ss0, isW key (fs + nI i * st) w := fun ⟨w, hw, hs⟩ => hno w hw hs
      have es : addN key sz (gWi (cN y)) (ss0 ++ [fs + nI i * st]) = addN key sz (gWi (cN y)) ss0 ++ [(key, fs + nI i * st, fs + nI i * st + sz, 0, 0, 0)] := by rw [addN_snoc, if_neg hex]
      have a1' : AB F1 T1 th (setWn y (addN key sz (gWi (cN y)) ss0 ++ [(key, fs + nI i * st, fs + nI i * st + cJ y 1, 0, 0, 0)])) Jd JK := a1
      rw [hj.1] at a1'
      refine go G1 F1 T1 (addN key sz (gWi (cN y)) ss0).length h1 s1 (by rw [es]; exact a1') ⟨(f1 31 (by decide)).trans ht.1, fun j q hq => (congrFun (t1 30 (by omega)) j).trans (ht.2 j q hq)⟩ ((congrFun (t1 10 (by omega)) e).trans hk) ((congrFun (t1 11 (by omega)) e).trans hv) ⟨_, by rw [es]; exact List.getElem?_concat_length, rfl, rfl⟩ (fun j w' hw' => by rw [es, List.getElem?_append_left (List.getElem?_eq_some_iff.mp hw').1]; exact hw')
theorem c_comes {v : V3} {st sz gr mk : Int32} {ss : List Int32} {e : Nat} (hB : InjB m B) (h : MoS G m B F T) (ha : AB F T th y Jd JK) (hj : cJ y 1 = sz ∧ cJ y 2 = st ∧ cJ y 3 = gr ∧ gMk (cN y) = mk) (hv : T 9 e = v.1 ∧ T 10 e = v.2.1 ∧ T 11 e = v.2.2) (hu : UQ (gWi (cN y))) (hnd : ss.Nodup) (he : e < 120) (hs8 : ss.length ≤ 8) (hL : (kL (cK y)).length + 16 ≤ 3890) (hl : (gWi (cN y)).length + 8 ≤ 989)
    (hst0 : ¬ st = 0) (hla : laS st v.1 = v.1 / st * st) (hss : ss = sts (bk st sz v.1 7 (laS st v.1)) (laS st v.1) st sz gr mk 8 0) (hfix : bkS st sz v.1 (bk st sz v.1 7 (laS st v.1)) = bk st sz v.1 7 (laS st v.1))
    (hmono : ∀ i, i ≤ 8 → laS st v.1 < bk st sz v.1 7 (laS st v.1) + nI i * st → sts (bk st sz v.1 7 (laS st v.1)) (laS st v.1) st sz gr mk (8 - i) i = []) (hend : laS st v.1 < bk st sz v.1 7 (laS st v.1) + nI 8 * st)
    (k : ∀ G', MS G' m B th (setWn (setLk y ((kL (cK y) ++ cmR1 v.2.1 (addN v.2.1 sz (gWi (cN y)) ss) ss) ++ cmR2 v.2.1 v.2.2 (addN v.2.1 sz (gWi (cN y)) ss) ss)) (cmW v.2.1 v.2.2 (addN v.2.1 sz (gWi (cN y)) ss) ss)) Jd JK → MSt G m B G' → Post (.inl (some (.int (nI ss.length)))) G') : Cl E 2 m_Mo_comes [.ref m, .int (nI e)] G Post := by
  have x2 : aJ F (cJ y) := ha.2.1
  have e2 : gI G 643 m = st := ((h.int 3 (by decide) (by decide)).trans x2.2.2.1).trans hj.2.1
  refine j_enter (L := [some (.ref m), some (.int (nI e)), none, none, none]) me_Mo_comes (cat_c rfl (cat_c rfl cat_n)) (Nat.le_of_ble_eq_true rfl) rfl (wp_Mo_comes_0 m (nI e) ⟨h.tg, B 9, h.rf 9 rfl, Or.inl (h.at' 9 rfl), e, h.ix 9 rfl (by unfold aN; simp; omega), ?_⟩)
  have h1 := h.wI 31 0
  rw [e2, show gA (sI G 671 m 0) (B 9) e = v.1 from (h1.rd 9 rfl e).trans hv.1, ← hla]
  refine ⟨hst0, ?_⟩
  have ha1 : AB (up1 F 31 0) T th y Jd JK := ha
  have s1 : MSt G m B (sI G 671 m 0) := MSt.rf.wI
  have ht1 : HT (up1 F 31 0) T [] := ⟨rfl, fun j i hi => by simp at hi⟩
  have e1' : gI (sI G 671 m 0) 642 m = sz := ((h1.int 2 (by decide) (by decide)).trans x2.2.1).trans hj.1
  have e2' : gI (sI G 671 m 0) 643 m = st := ((h1.int 3 (by decide) (by decide)).trans x2.2.2.1).trans hj.2.1
  have e9 : gA (sI G 671 m 0) (B 9) e = v.1 := (h1.rd 9 rfl e).trans hv.1
  have main : J E 2 m_Mo_comes 66 [some (.ref m), some (.int (nI e)), some (.int (laS st v.1)), none, some (.int (bk st sz v.1 7 (laS st v.1) + nI 0 * st))] [] (sI G 671 m 0) Post :=
    comes_1 (key := v.2.1) (v := v.2.2) (ss := ss) (G0 := G) hB hj hu hnd he hs8 hL hl hmono hend k 8 0 _ _ T [] [] rfl (by rw [hss]; rfl) h1 ha1 ht1 ⟨rfl, fun j i s hi => by simp at hi⟩ hv.2.1 hv.2.2 s1
  rw [show bk st sz v.1 7 (laS st v.1) + nI 0 * st = bk st sz v.1 7 (laS st v.1) by rw [show nI 0 = 0 from rfl, Int32.zero_mul, Int32.add_zero]] at main
  generalize hfs : bk st sz v.1 7 (laS st v.1) = fs at *
  generalize laS st v.1 = la at *
  have loop : ∀ (n : Nat) (x : Int32), bk st sz v.1 n x = fs → J E 2 m_Mo_comes 24 [some (.ref m), some (.int (nI e)), some (.int la), some (.int x), none] [] (sI G 671 m 0) Post := by
    intro n
    induction n with
    | zero =>
      intro x hx
      have hx : x = fs := hx
      subst hx
      refine wp_Mo_comes_24 m (nI e) la x ⟨h1.tg, ?_⟩
      rw [e2']
      refine ⟨fun _ => main, fun c1 => ⟨B 9, h1.rf 9 rfl, Or.inl (h1.at' 9 rfl), e, h1.ix 9 rfl (by unfold aN; simp; omega), ?_⟩⟩
      rw [e1', e9]
      refine ⟨fun _ => main, fun c2 => ?_⟩
      unfold bkS at hfix
      rw [if_neg c1, if_neg c2] at hfix
      exact absurd (i32_sub_self hfix) hst0
    | succ n ih =>
      intro x hx
      have hx : bk st sz v.1 n (bkS st sz v.1 x) = fs := hx
      refine wp_Mo_comes_24 m (nI e) la x ⟨h1.tg, ?_⟩
      rw [e2']
      have stop : bkS st sz v.1 x = x → J E 2 m_Mo_comes 66 [some (.ref m), some (.int (nI e)), some (.int la), none, some (.int x)] [] (sI G 671 m 0) Post := fun hb => by
        rw [hb, bk_fix hb n] at hx
        rw [hx]; exact main
      refine ⟨fun c1 => stop (by unfold bkS; rw [if_pos c1]), fun c1 => ⟨B 9, h1.rf 9 rfl, Or.inl (h1.at' 9 rfl), e, h1.ix 9 rfl (by unfold aN; simp; omega), ?_⟩⟩
      rw [e1', e9]
      refine ⟨fun c2 => stop (by unfold bkS; rw [if_neg c1, if_pos c2]), fun c2 => ih _ ?_⟩
      rw [show bkS st sz v.1 x = x - st by unfold bkS; rw [if_neg c1, if_neg c2]] at hx
      exact hx
  exact loop 7 la hfs
end COMES4
