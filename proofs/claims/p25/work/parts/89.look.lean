section PURE2
theorem UQ.eq {L : List WT} (h : UQ L) : ∀ {a b : WT}, a ∈ L → b ∈ L → wK a = wK b → wS a = wS b → a = b := by
  induction L with
  | nil => intro a b ha; exact absurd ha (by simp)
  | cons x L ih =>
    intro a b ha hb h1 h2
    obtain ⟨p1, p2⟩ := List.pairwise_cons.mp h
    rcases List.mem_cons.mp ha with e | ha2
    · rcases List.mem_cons.mp hb with e2 | hb2
      · rw [e, e2]
      · exact absurd ⟨e ▸ h1, e ▸ h2⟩ (p1 b hb2)
    · rcases List.mem_cons.mp hb with e2 | hb2
      · exact absurd ⟨(e2 ▸ h1).symm, (e2 ▸ h2).symm⟩ (p1 a ha2)
      · exact ih p2 ha2 hb2 h1 h2
theorem lastR_all {k s : Int32} {z : WT} : ∀ (L : List WT) (acc : Option WT), (∀ r ∈ L, isW k s r → r = z) → ((∃ r ∈ L, isW k s r) ∨ acc = some z) → lastR k s acc L = some z
  | [], acc, _, h => by
    rcases h with ⟨r, hr, -⟩ | h
    · exact absurd hr (by simp)
    · exact h
  | w :: L, acc, h1, h => by
    show lastR k s (if isW k s w then some w else acc) L = some z
    refine lastR_all L _ (fun r hr => h1 r (by simp [hr])) ?_
    by_cases c : isW k s w
    · rw [if_pos c, h1 w (by simp) c]; exact Or.inr rfl
    · rw [if_neg c]
      rcases h with ⟨r, hr, hc⟩ | h
      · rcases List.mem_cons.mp hr with e | hr
        · subst e; exact absurd hc c
        · exact Or.inl ⟨r, hr, hc⟩
      · exact Or.inr h
theorem emG_mem {mk : Int32} {W : List WT} {r : WT} : r ∈ W.flatMap (emG mk) ↔ ∃ w ∈ W, due mk w ∧ r = setO w 1 := by
  rw [List.mem_flatMap]
  constructor
  · rintro ⟨w, hw, hr⟩
    unfold emG at hr
    by_cases c : wE w ≤ mk
    · rw [if_pos c] at hr
      by_cases c2 : wO w = 0
      · rw [if_pos c2] at hr
        exact ⟨w, hw, ⟨c2, c⟩, by simpa using hr⟩
      · rw [if_neg c2] at hr; exact absurd hr (by simp)
    · rw [if_neg c] at hr; exact absurd hr (by simp)
  · rintro ⟨w, hw, ⟨c2, c⟩, e⟩
    refine ⟨w, hw, ?_⟩
    unfold emG
    rw [if_pos c, if_pos c2, e]; simp
theorem emG_len {mk : Int32} : ∀ W : List WT, (W.flatMap (emG mk)).length + nOut (W.map (emF mk)) = nOut W
  | [] => rfl
  | w :: W => by
    have ih := emG_len (mk := mk) W
    rw [List.flatMap_cons, List.map_cons, List.length_append]
    unfold nOut at ih ⊢
    by_cases c : due mk w
    · have e : emG mk w = [setO w 1] := by
        unfold emG
        rw [if_pos c.2, if_pos c.1]
      rw [emF_due c, e, List.filter_cons_of_pos (l := W) (by simpa using c.1), List.filter_cons_of_neg (by show ¬ decide ((1 : Int32) = 0) = true; decide)]
      simp only [List.length_cons, List.length_nil]
      omega
    · rw [emF_not c]
      have e : emG mk w = [] := by
        unfold emG
        by_cases c1 : wE w ≤ mk
        · rw [if_pos c1, if_neg (fun z => c ⟨z, c1⟩)]
        · rw [if_neg c1]
      rw [e]
      by_cases c2 : wO w = 0
      · rw [List.filter_cons_of_pos (by simpa using c2), List.filter_cons_of_pos (by simpa using c2)]
        simp only [List.length_cons, List.length_nil]
        omega
      · rw [List.filter_cons_of_neg (by simpa using c2), List.filter_cons_of_neg (by simpa using c2)]
        simp only [List.length_nil]
        omega
theorem setO_O {w : WT} {v u : Int32} : setO (setO w v) u = setO w u := rfl
theorem emF_sO {mk : Int32} {w : WT} {u : Int32} : setO (emF mk w) u = setO w u := by
  by_cases c : due mk w
  · rw [emF_due c]; rfl
  · rw [emF_not c]
theorem emF_k {mk : Int32} (w : WT) : wK (emF mk w) = wK w ∧ wS (emF mk w) = wS w ∧ wE (emF mk w) = wE w ∧ wC (emF mk w) = wC w := by
  by_cases c : due mk w
  · rw [emF_due c]; exact ⟨rfl, rfl, rfl, rfl⟩
  · rw [emF_not c]; exact ⟨rfl, rfl, rfl, rfl⟩
theorem emF_in {mk : Int32} {w : WT} {W : List WT} : w ∈ W.map (emF mk) ↔ ∃ u ∈ W, emF mk u = w := List.mem_map
theorem Tl.look {L W : List WT} {mk : Int32} (h : Tl L W) (hu : UQ W) : Tl (L ++ W.flatMap (emG mk)) (W.map (emF mk)) := by
  refine ⟨fun w' hw' ho => ?_, fun k s hk r hr => ?_⟩
  · obtain ⟨w, hw, e⟩ := emF_in.mp hw'
    subst e
    obtain ⟨e1, e2, -, -⟩ := emF_k (mk := mk) w
    rw [e1, e2, lastR_app, emF_sO]
    by_cases c : due mk w
    · refine lastR_all _ _ (fun r hr hc => ?_) (Or.inl ⟨setO w 1, emG_mem.mpr ⟨w, hw, c, rfl⟩, rfl, rfl⟩)
      obtain ⟨u, hu1, -, e⟩ := emG_mem.mp hr
      rw [e] at hc ⊢
      rw [hu.eq hu1 hw hc.1 hc.2]
    · rw [emF_not c] at ho
      rw [h.1 w hw ho]
      refine lastR_nil (fun r hr hc => ?_)
      obtain ⟨u, hu1, hd, e⟩ := emG_mem.mp hr
      rw [e] at hc
      have eu := hu.eq hu1 hw hc.1 hc.2
      subst eu
      exact c hd
  · have hn : ∀ w ∈ W, isW k s w → ¬ due mk w ∧ wO w = 0 := fun w hw hc => by
      have e := hk (emF mk w) (emF_in.mpr ⟨w, hw, rfl⟩) ⟨(emF_k w).1.trans hc.1, (emF_k w).2.1.trans hc.2⟩
      by_cases c : due mk w
      · rw [emF_due c] at e
        exact absurd e (by show ¬ (1 : Int32) = 0; decide +kernel)
      · rw [emF_not c] at e; exact ⟨c, e⟩
    rw [lastR_app, lastR_nil (fun u hu1 hc => ?_)] at hr
    · exact h.2 k s (fun w hw hc => (hn w hw hc).2) r hr
    · obtain ⟨w, hw, hd, e⟩ := emG_mem.mp hu1
      rw [e] at hc
      exact (hn w hw hc).1 hd
theorem Dsc.emF {jb : Nat → Int32} {H : List ET} {W : List WT} {mk : Int32} (h : Dsc jb H W) : Dsc jb H (W.map (emF mk)) := by
  refine ⟨fun c => ?_, fun c => ?_⟩
  · obtain ⟨h1, h2⟩ := h.1 c
    refine ⟨fun w' hw' => ?_, fun k s a1 a2 a3 a4 => h2 k s a1 a2 a3 (fun w hw hc => a4 _ (emF_in.mpr ⟨w, hw, rfl⟩) ⟨(emF_k w).1.trans hc.1, (emF_k w).2.1.trans hc.2⟩)⟩
    obtain ⟨w, hw, e⟩ := emF_in.mp hw'
    subst e
    obtain ⟨e1, e2, e3, -⟩ := emF_k (mk := mk) w
    rw [e1, e2, e3, emF_sO]
    exact h1 w hw
  · obtain ⟨h1, h2, h3⟩ := h.2 c
    refine ⟨fun w' hw' => ?_, fun e he k hk => ?_, ?_⟩
    · obtain ⟨w, hw, e⟩ := emF_in.mp hw'
      subst e
      obtain ⟨e1, e2, e3, -⟩ := emF_k (mk := mk) w
      rw [e1, e2, e3, emF_sO]
      exact h1 w hw
    · obtain ⟨w, hw, b1, b2, b3⟩ := h2 e he k hk
      obtain ⟨e1, e2, e3, -⟩ := emF_k (mk := mk) w
      exact ⟨_, emF_in.mpr ⟨w, hw, rfl⟩, e1.trans b1, by rw [e2]; exact b2, by rw [e3]; exact b3⟩
    · rw [List.pairwise_map]
      refine h3.imp (fun {a b} z hab => ?_)
      obtain ⟨a1, a2, a3, -⟩ := emF_k (mk := mk) a
      obtain ⟨b1, b2, b3, -⟩ := emF_k (mk := mk) b
      rw [a2, a3, b2, b3]
      exact z (a1.symm.trans (hab.trans b1))
theorem WOK.look {jb : Nat → Int32} {H : List ET} {mk mk' : Int32} {L W : List WT} (h : WOK jb H mk L W) (hm : mk ≤ mk') : WOK jb H mk' (L ++ emR mk' W) (emW mk' W) ∧ OutD (emW mk' W) mk' := by
  obtain ⟨h1, h2, h3, h4, h5, h6, h7⟩ := h
  obtain ⟨e1, e2⟩ := em_sorted (mk := mk') h1
  have hs := h1.em (mk := mk')
  have hq := h2.em (mk := mk') h1
  rw [e1] at hs hq ⊢
  rw [e2]
  refine ⟨⟨hs, hq, fun w' hw' => ?_, h4.emF, h5.look h2, ?_, ?_⟩, fun w' hw' hE => ?_⟩
  · obtain ⟨w, hw, e⟩ := emF_in.mp hw'
    obtain ⟨⟨n1, n2, n3, n4, n5, n6⟩, n7, n, n8, n9, n10⟩ := h3 w hw
    obtain ⟨f1, f2, f3, f4⟩ := emF_k (mk := mk') w
    subst e
    refine ⟨⟨by rw [f1]; exact n1, by rw [f2]; exact n2, by rw [f2]; exact n3, by rw [f2, f3]; exact n4, by rw [f3]; exact n5, ?_⟩, fun ho => ?_, n, n8, n9, by rw [f4]; exact n10⟩
    · by_cases c : due mk' w
      · rw [emF_due c]; exact Or.inr rfl
      · rw [emF_not c]; exact n6
    · rw [f3]
      by_cases c : due mk' w
      · exact c.2
      · rw [emF_not c] at ho
        exact Int32.le_trans (n7 ho) hm
  · have := emG_len (mk := mk') W
    rw [List.length_append, List.length_map]
    omega
  · rw [List.length_map]; exact h7
  · obtain ⟨w, hw, e⟩ := emF_in.mp hw'
    subst e
    rw [(emF_k w).2.2.1] at hE
    by_cases c : due mk' w
    · rw [emF_due c]; show ¬ (1 : Int32) = 0; decide +kernel
    · rw [emF_not c]; exact fun z => c ⟨z, hE⟩
theorem lkM_le (x : XS) : gMk (cN x) ≤ lkM x := by
  unfold lkM lwM
  split
  · exact Int32.le_refl _
  · split
    · rename_i c; exact Int32.le_of_lt c
    · exact Int32.le_refl _
theorem lwA_m1 {idl mkf : Nat → Int32} : ∀ (m i : Nat) (a l : Int32), (∀ j, i ≤ j → j < i + m → mkf j = -1) → l = -1 → (lwA idl mkf m i a l).2 = -1
  | 0, _, _, _, _, h => h
  | m + 1, i, a, l, hm, h => by
    unfold lwA
    have e := hm i (Nat.le_refl _) (by omega)
    split
    · refine lwA_m1 m (i + 1) _ _ (fun j h1 h2 => hm j (by omega) (by omega)) ?_
      rw [e, h]
      split
      · rfl
      · split <;> rfl
    · exact lwA_m1 m (i + 1) _ _ (fun j h1 h2 => hm j (by omega) (by omega)) h
theorem sl_m1 {sl : Int32} (h : 0 ≤ sl.toInt ∧ sl.toInt ≤ 200) : ¬ (-1 : Int32) < -1 - sl := by
  intro z
  have z := Int32.lt_iff_toInt_lt.mp z
  have e : (-1 : Int32).toInt = -1 := by decide +kernel
  rw [Int32.toInt_sub, e, Int.bmod_eq_of_le (by omega) (by omega)] at z
  omega
theorem lkM_fresh {x : XS} (hs : SOK (cS x)) (hf : cN x = P0) : lkM x = -1 := by
  have m : gMk (cN x) = -1 := by rw [hf]; rfl
  have e : (lwA (sId (cS x)) (mkfP (cN x) (cS x)) 3 0 0 (-1)).2 = -1 := lwA_m1 3 0 0 (-1) (fun j _ hj => by
    unfold mkfP
    have g : gGr (cN x) j = -1 := by rw [hf]; rfl
    rw [g, if_neg (sl_m1 (hs j (by omega)).2.2.1)]) rfl
  unfold lkM lwM
  rw [e, m]
  split
  · rfl
  · split <;> rfl
theorem look_inv {x : XS} (h : Inv0 x) : Inv (lookS x) := by
  obtain ⟨i1, i2, i3, i4, i5, i6, i7, i8, i9, i10, i11, i12, i13, i14, i15, i16⟩ := h
  obtain ⟨w1, w2⟩ := i7.look (lkM_le x)
  have tk : ∀ {n : Nat} (M : List WT), n ≤ (kL (cK x)).length → (kL (cK x) ++ M).take n = (kL (cK x)).take n := fun M hn => List.take_append_of_le_length hn
  refine ⟨⟨i1, i2, i3, i4, i5, i6, w1, ?_, i9, ?_, i11, i12, ⟨i13.1, ?_, i13.2.2⟩, i14, fun z => ?_, i16⟩, w2⟩
  · show WOK (cJ x) _ _ ((kL (cK x) ++ emR (lkM x) (gWi (cN x))).take (kP (cK x))) _
    rw [tk _ i13.2.1]
    exact i8
  · intro q s w a1 a2
    show anw (cJ x) (comH x) (hC (cH x)) (hW (cH x)) q s w = resN w (lastR q s none ((kL (cK x) ++ emR (lkM x) (gWi (cN x))).take (kC (cK x))))
    rw [tk _ (Nat.le_trans i13.1 i13.2.1)]
    exact i10 q s w a1 a2
  · show kP (cK x) ≤ (kL (cK x) ++ emR (lkM x) (gWi (cN x))).length
    rw [List.length_append]
    have := i13.2.1
    omega
  · obtain ⟨f1, f2, f3, f4, f5, f6⟩ := i15 z
    have e := lkM_fresh i2 f1
    refine ⟨?_, f2, f3, ?_, f5, f6⟩
    · show (gOf (cN x), gTk (cN x), gGr (cN x), lkM x, gHl (cN x), gDr (cN x), gPa (cN x), emW (lkM x) (gWi (cN x))) = P0
      rw [e, f1]; rfl
    · show (kL (cK x) ++ emR (lkM x) (gWi (cN x)), kC (cK x), kP (cK x)) = _
      rw [f1, f4]; rfl
theorem lkM_eq {x y : XS} (h1 : gGr (cN x) = gGr (cN y)) (h2 : gMk (cN x) = gMk (cN y)) (h3 : sSl (cS x) = sSl (cS y)) (h4 : sId (cS x) = sId (cS y)) : lkM x = lkM y := by
  have e : mkfP (cN x) (cS x) = mkfP (cN y) (cS y) := by
    funext s
    unfold mkfP
    rw [h1, h3]
  unfold lkM
  rw [e, h2, h4]
theorem emG_perm {mk : Int32} : ∀ W : List WT, W.flatMap (emG mk) = (W.filter (fun w => decide (due mk w))).map (fun w => setO w 1)
  | [] => rfl
  | w :: W => by
    rw [List.flatMap_cons, emG_perm W]
    by_cases c : due mk w
    · rw [List.filter_cons_of_pos (by simpa using c)]
      have e : emG mk w = [setO w 1] := by
        unfold emG
        rw [if_pos c.2, if_pos c.1]
      rw [e]; rfl
    · rw [List.filter_cons_of_neg (by simpa using c)]
      have e : emG mk w = [] := by
        unfold emG
        by_cases c1 : wE w ≤ mk
        · rw [if_pos c1, if_neg (fun z => c ⟨z, c1⟩)]
        · rw [if_neg c1]
      rw [e]; rfl
theorem REq.len {L M : List WT} (h : REq L M) : L.length = M.length := h.1
theorem take_app {L M : List WT} {n : Nat} (h : n ≤ L.length) : (L ++ M).take n = L.take n := List.take_append_of_le_length h
theorem look_rel {x y : XS} {Jd : List Nat} {JK : Nat} {R : List WT} (hI : Inv0 x) (h : Rel x y Jd JK) (hR : R.Perm (grR y)) : Rel (lookS x) (grX y R) Jd JK := by
  obtain ⟨r1, ⟨r2, r3, r4⟩, ⟨n1, n2, n3, n4, n5, n6⟩, r6, ⟨k1, k2, k3, k4, k5⟩, r8, r9, r10, r11⟩ := h
  obtain ⟨i1, i2, i3, i4, i5, i6, i7, i8, i9, i10, i11, i12, i13, i14, i15, i16⟩ := hI
  have e := lkM_eq n3 n4 r3 r4
  obtain ⟨e1, e2⟩ := em_sorted (mk := lkM x) i7.1
  have hu : UQ (gWi (cN x)) := i7.2.1
  have rq : REq (emR (lkM x) (gWi (cN x))) R := by
    rw [e2, emG_perm]
    refine REq.perm (List.Perm.trans ?_ hR.symm) ?_
    · unfold grR
      rw [← e]
      exact (n6.filter _).map _
    · exact UQ.map (hu.filter _) (fun w => ⟨rfl, rfl⟩)
  have lx := k3.len
  refine ⟨r1, ⟨r2, r3, r4⟩, ⟨n1, n2, n3, e, n5, ?_⟩, r6, ⟨k1, k2, k3.app rq, ?_, ?_⟩, r8, r9, r10, r11⟩
  · show (emW (lkM x) (gWi (cN x))).Perm ((gWi (cN y)).map (emF (lkM y)))
    rw [e1, e]
    exact n6.map _
  · show REq ((kL (cK x) ++ emR (lkM x) (gWi (cN x))).take (kP (cK x))) ((kL (cK y) ++ R).take (kP (cK y)))
    rw [take_app i13.2.1, take_app (by rw [← k2, ← lx]; exact i13.2.1)]
    exact k4
  · show REq ((kL (cK x) ++ emR (lkM x) (gWi (cN x))).take (kC (cK x))) ((kL (cK y) ++ R).take (kC (cK y)))
    rw [take_app (Nat.le_trans i13.1 i13.2.1), take_app (by rw [← k1, ← lx]; exact Nat.le_trans i13.1 i13.2.1)]
    exact k5
end PURE2
