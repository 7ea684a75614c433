section GAPB
theorem lastR_mem {k s : Int32} {r : WT} : ∀ (L : List WT) (acc : Option WT), lastR k s acc L = some r → (acc = some r ∧ ∀ z ∈ L, ¬ isW k s z) ∨ r ∈ L
  | [], acc, h => Or.inl ⟨h, fun z hz => absurd hz (by simp)⟩
  | w :: L, acc, h => by
    have h : lastR k s (if isW k s w then some w else acc) L = some r := h
    rcases lastR_mem L _ h with ⟨h1, h2⟩ | h1
    · by_cases c : isW k s w
      · rw [if_pos c] at h1
        cases h1
        exact Or.inr (by simp)
      · rw [if_neg c] at h1
        exact Or.inl ⟨h1, fun z hz => (List.mem_cons.mp hz).elim (fun e => e ▸ c) (h2 z)⟩
    · exact Or.inr (by simp [h1])
theorem gz_cnt {jb : Nat → Int32} (hk : jb 0 = 2) (w : WT) : ∀ (n : Nat) (H : List ET), H.length = n → ∃ m, m ≤ H.length ∧ wC (gz1 jb H w) = nI m := by
  intro n
  induction n with
  | zero =>
    intro H hH
    have e : H = [] := List.length_eq_zero_iff.mp hH
    subst e
    exact ⟨0, Nat.le_refl _, rfl⟩
  | succ n ih =>
    intro H hH
    obtain ⟨g, e, hg⟩ : ∃ g e, H = g ++ [e] := by
      rcases List.eq_nil_or_concat H with c | ⟨g, e, c⟩
      · rw [c] at hH; simp at hH
      · exact ⟨g, e, by rw [c]; simp⟩
    subst hg
    have hl : g.length = n := by rw [List.length_append] at hH; simp at hH; exact hH
    obtain ⟨m, m1, m2⟩ := ih g hl
    rw [gz_snoc hk, List.length_append]
    by_cases c : adG jb (wK w) e ∧ inW (eT e).toInt w
    · rw [if_pos c]
      refine ⟨m + 1, by simp; omega, ?_⟩
      show wC (gz1 jb g w) + 1 = _
      rw [m2, nI_1]
    · rw [if_neg c]
      exact ⟨m, by omega, m2⟩
theorem DJ.sy : ∀ {W : List WT}, DJ W → ∀ {a b : WT}, a ∈ W → b ∈ W → wK a = wK b → a ≠ b → wE a ≤ wS b ∨ wE b ≤ wS a
  | [], _, _, _, ha, _, _, _ => absurd ha (by simp)
  | x :: W, h, a, b, ha, hb, hk, hne => by
    obtain ⟨h1, h2⟩ := List.pairwise_cons.mp h
    rcases List.mem_cons.mp ha with e | ha2
    · rcases List.mem_cons.mp hb with e2 | hb2
      · exact absurd (e.trans e2.symm) hne
      · rw [e] at hk ⊢; exact h1 b hb2 hk
    · rcases List.mem_cons.mp hb with e2 | hb2
      · rw [e2] at hk ⊢; exact (h1 a ha2 hk.symm).symm
      · exact DJ.sy h2 ha2 hb2 hk hne
theorem Dgp.perm {jb : Nat → Int32} {H : List ET} {W V : List WT} (h : Dgp jb H W) (p : W.Perm V) : Dgp jb H V := by
  obtain ⟨h1, h2, h3⟩ := h
  refine ⟨fun w hw => h1 w (p.mem_iff.mpr hw), fun e he k hk => ?_, ?_⟩
  · obtain ⟨w, hw, h⟩ := h2 e he k hk
    exact ⟨w, p.mem_iff.mp hw, h⟩
  · exact (p.pairwise_iff (fun {a b} hab hk => (hab hk.symm).symm)).mp h3
/-- an event that comes too late changes nothing -/
theorem gap_late {jb : Nat → Int32} {H : List ET} {mk : Int32} {L W : List WT} {v : V3} {src : Int32} (hk : jb 0 = 2) (c : v.1 + jb 1 + jb 3 ≤ mk) (h : WOK jb H mk L W) : WOK jb (H ++ [(src, v.1, v.2.1, v.2.2, mk)]) mk (L ++ []) W := by
  obtain ⟨h1, h2, h3, h4, h5, h6, h7⟩ := h
  obtain ⟨d1, d2, d3⟩ := h4.2 hk
  have no : ∀ k, ¬ adG jb k (src, v.1, v.2.1, v.2.2, mk) := fun k z => z.2 c
  rw [List.append_nil]
  refine ⟨h1, h2, fun w hw => ?_, ⟨fun z => absurd hk z, fun _ => ⟨fun w hw => ?_, fun e he k hke => ?_, d3⟩⟩, h5, ?_, ?_⟩
  · obtain ⟨a1, a2, n, n1, n2, n3⟩ := h3 w hw
    exact ⟨a1, a2, n, n1, by rw [List.length_append]; omega, n3⟩
  · obtain ⟨⟨e, e1, e2⟩, b, g⟩ := d1 w hw
    refine ⟨⟨e, by simp [e1], e2⟩, fun z z1 z2 => ?_, ?_⟩
    · obtain ⟨e, e1, e2⟩ := b z z1 z2
      exact ⟨e, by simp [e1], e2⟩
    · have := gz_snoc hk H (src, v.1, v.2.1, v.2.2, mk) w
      rw [if_neg (fun z => no _ z.1)] at this
      exact this.trans g
  · rcases List.mem_append.mp he with z | z
    · exact d2 e z k hke
    · rw [List.mem_singleton.mp z] at hke
      exact absurd hke (no k)
  · rw [List.length_append]; omega
  · rw [List.length_append]; omega
theorem mkM_f {w0 : WT} {mk : Int32} {M : List WT} : wK (mkM w0 mk M) = wK (mkA w0 M) ∧ wS (mkM w0 mk M) = wS (mkA w0 M) ∧ wE (mkM w0 mk M) = wE (mkA w0 M) ∧ wC (mkM w0 mk M) = wC (mkA w0 M) ∧ ∀ u, setO (mkM w0 mk M) u = setO (mkA w0 M) u := by
  unfold mkM
  split <;> exact ⟨rfl, rfl, rfl, rfl, fun _ => rfl⟩
theorem gap_dgp {jb : Nat → Int32} {H : List ET} {mk : Int32} {W : List WT} {v : V3} {src : Int32} (hk : jb 0 = 2) (hz : (v.1 + jb 1).toInt = v.1.toInt + (jb 1).toInt) (hp : 1 ≤ (jb 1).toInt) (hH : ∀ e ∈ H, (eT e + jb 1).toInt = (eT e).toInt + (jb 1).toInt) (c : ¬ v.1 + jb 1 + jb 3 ≤ mk) (hn : ∀ x ∈ W, (wS x).toInt < (wE x).toInt) (hd : Dgp jb H W) :
    Dgp jb (H ++ [(src, v.1, v.2.1, v.2.2, mk)]) (mkM (v.2.1, v.1, v.1 + jb 1, 1, v.2.2, 0) mk (mtF (v.2.1, v.1, v.1 + jb 1, 1, v.2.2, 0) W) :: apF (v.2.1, v.1, v.1 + jb 1, 1, v.2.2, 0) W) := by
  generalize hw0 : ((v.2.1, v.1, v.1 + jb 1, 1, v.2.2, 0) : WT) = w0
  have k0 : wK w0 = v.2.1 := by rw [← hw0]
  have s0 : wS w0 = v.1 := by rw [← hw0]
  have e0 : wE w0 = v.1 + jb 1 := by rw [← hw0]
  have c0 : wC w0 = 1 := by rw [← hw0]
  have m0 : wM w0 = v.2.2 := by rw [← hw0]
  have lt0 : (wS w0).toInt < (wE w0).toInt := by rw [s0, e0, hz]; omega
  obtain ⟨d1, d2, d3⟩ := hd
  have hM : ∀ x ∈ mtF w0 W, x ∈ W ∧ meets w0 x := fun x hx => ⟨(List.mem_filter.mp hx).1, of_decide_eq_true (List.mem_filter.mp hx).2⟩
  have hA : ∀ x ∈ apF w0 W, x ∈ W ∧ ¬ meets w0 x := fun x hx => ⟨(List.mem_filter.mp hx).1, of_decide_eq_true (List.mem_filter.mp hx).2⟩
  have dM : DJ (mtF w0 W) := d3.filter _
  have mM : ∀ x ∈ mtF w0 W, meets w0 x ∧ (wS x).toInt < (wE x).toInt := fun x hx => ⟨(hM x hx).2, hn x (hM x hx).1⟩
  have hin := hull_in (mtF w0 W) w0 dM mM lt0
  obtain ⟨⟨le1, le2⟩, le3⟩ := mkA_le (mtF w0 W) w0
  obtain ⟨kA, oA⟩ := mkA_K (mtF w0 W) w0
  obtain ⟨f1, f2, f3, f4, f5⟩ := mkM_f (w0 := w0) (mk := mk) (M := mtF w0 W)
  have kh : wK (mkM w0 mk (mtF w0 W)) = v.2.1 := f1.trans (kA.trans k0)
  have ad : adG jb v.2.1 (src, v.1, v.2.1, v.2.2, mk) := ⟨rfl, c⟩
  have gs : ∀ x ∈ W, gz1 jb H x = setO x 0 := fun x hx => (d1 x hx).2.2
  have cov : ∀ e ∈ H, adG jb (wK (mkA w0 (mtF w0 W))) e → (inW (eT e).toInt (mkA w0 (mtF w0 W)) ↔ ∃ x ∈ mtF w0 W, inW (eT e).toInt x) := fun e he hae => by
    rw [(hin _).1]
    refine ⟨fun h => h.elim (fun h => ?_) id, Or.inr⟩
    obtain ⟨w, hw, w1, w2, w3⟩ := d2 e he _ hae
    have w2 := i32_le w2
    have w3 := i32_le w3
    rw [hH e he] at w3
    obtain ⟨h1, h2⟩ := h
    refine ⟨w, List.mem_filter.mpr ⟨hw, decide_eq_true (meets_int.mpr ⟨kA.symm.trans w1.symm, by omega, by omega⟩)⟩, w2, by omega⟩
  have sm : ∀ L : List WT, (∀ x ∈ L, x ∈ W) → smC (L.map (gz1 jb H)) = smC L ∧ smM (L.map (gz1 jb H)) = smM L := fun L => by
    induction L with
    | nil => exact fun _ => ⟨rfl, rfl⟩
    | cons x L ih =>
      intro hL
      obtain ⟨i1, i2⟩ := ih (fun y hy => hL y (by simp [hy]))
      show wC (gz1 jb H x) + smC (L.map _) = wC x + smC L ∧ wM (gz1 jb H x) + smM (L.map _) = wM x + smM L
      rw [i1, i2, gs x (hL x (by simp))]
      exact ⟨rfl, rfl⟩
  obtain ⟨g1, g2⟩ := gz_sum hk (h := mkA w0 (mtF w0 W)) (M := mtF w0 W) (fun x hx => (hM x hx).2.1.symm.trans kA.symm) dM H.length H rfl cov
  obtain ⟨q1, q2⟩ := sm (mtF w0 W) (fun x hx => (hM x hx).1)
  obtain ⟨t1, t2⟩ := mkA_sum (mtF w0 W) w0
  have gh : gz1 jb (H ++ [(src, v.1, v.2.1, v.2.2, mk)]) (mkA w0 (mtF w0 W)) = setO (mkA w0 (mtF w0 W)) 0 := by
    rw [gz_snoc hk, if_pos ⟨by rw [kA, k0]; exact ad, by
      show (wS (mkA w0 (mtF w0 W))).toInt ≤ v.1.toInt ∧ v.1.toInt < (wE (mkA w0 (mtF w0 W))).toInt
      rw [s0] at le1 lt0
      omega⟩]
    obtain ⟨b1, b2, b3, b4⟩ := gat_fix (kd := jb 0) (sz := jb 1) (gr := jb 3) (key := wK (mkA w0 (mtF w0 W))) (en := wE (mkA w0 (mtF w0 W))) H (wK (mkA w0 (mtF w0 W)), wS (mkA w0 (mtF w0 W)), wE (mkA w0 (mtF w0 W)), 0, 0, 0)
    refine Prod.ext b1 (Prod.ext b2 (Prod.ext b3 (Prod.ext ?_ (Prod.ext ?_ b4))))
    · show wC (gz1 jb H _) + 1 = wC (mkA w0 (mtF w0 W))
      rw [g1, q1, t1, c0, Int32.add_comm]
    · show wM (gz1 jb H _) + v.2.2 = wM (mkA w0 (mtF w0 W))
      rw [g2, q2, t2, m0, Int32.add_comm]
  refine ⟨fun x hx => ?_, fun e he k hke => ?_, List.pairwise_cons.mpr ⟨fun x hx hkx => ?_, d3.filter _⟩⟩
  · rcases List.mem_cons.mp hx with ex | hx
    · rw [ex, f5, f2, f3, f1]
      refine ⟨?_, fun z z1 z2 => ?_, gh⟩
      · rcases mkA_S (mtF w0 W) w0 with e | ⟨y, hy, e⟩
        · exact ⟨(src, v.1, v.2.1, v.2.2, mk), by simp, by rw [kA, k0]; exact ad, by rw [e, s0]⟩
        · obtain ⟨⟨e', a1, a2, a3⟩, -⟩ := d1 y (hM y hy).1
          exact ⟨e', by simp [a1], by rw [kA, (hM y hy).2.1]; exact a2, by rw [e]; exact a3⟩
      · rcases (hin z.toInt).2 ⟨i32_lt z1, i32_lt z2⟩ with h | ⟨y, hy, h⟩
        · refine ⟨(src, v.1, v.2.1, v.2.2, mk), by simp, by rw [kA, k0]; exact ad, ?_, ?_, ?_⟩
          · rw [Int32.lt_iff_toInt_lt]; rw [← s0]; exact h.1
          · rw [Int32.lt_iff_toInt_lt]; rw [← e0]; exact h.2
          · rw [Int32.le_iff_toInt_le]; rw [← s0]; exact le1
        · obtain ⟨e', a1, a2, a3, a4, a5⟩ := (d1 y (hM y hy).1).2.1 z (Int32.lt_iff_toInt_lt.mpr h.1) (Int32.lt_iff_toInt_lt.mpr h.2)
          refine ⟨e', by simp [a1], by rw [kA, (hM y hy).2.1]; exact a2, a3, a4, ?_⟩
          have := i32_le a5
          have := (le3 y hy).1
          rw [Int32.le_iff_toInt_le]; omega
    · obtain ⟨xW, xm⟩ := hA x hx
      obtain ⟨⟨e', a1, a2⟩, b, g⟩ := d1 x xW
      refine ⟨⟨e', by simp [a1], a2⟩, fun z z1 z2 => ?_, ?_⟩
      · obtain ⟨e', a1, a2⟩ := b z z1 z2
        exact ⟨e', by simp [a1], a2⟩
      · have := gz_snoc hk H (src, v.1, v.2.1, v.2.2, mk) x
        rw [if_neg (fun q => xm ?_)] at this
        · exact this.trans g
        · obtain ⟨⟨q1, -⟩, q2, q3⟩ := q
          have q2 : (wS x).toInt ≤ v.1.toInt := q2
          have q3 : v.1.toInt < (wE x).toInt := q3
          rw [s0] at lt0
          exact meets_int.mpr ⟨k0.trans q1, by rw [s0]; exact q3, by omega⟩
  · rcases List.mem_append.mp he with he | he
    · obtain ⟨w, hw, w1, w2, w3⟩ := d2 e he k hke
      by_cases m : meets w0 w
      · have hm : w ∈ mtF w0 W := List.mem_filter.mpr ⟨hw, decide_eq_true m⟩
        refine ⟨_, List.mem_cons_self, kh.trans (k0.symm.trans (m.1.trans w1)), ?_, ?_⟩
        · rw [f2, Int32.le_iff_toInt_le]
          have := (le3 w hm).1
          have := i32_le w2
          omega
        · rw [f3, Int32.le_iff_toInt_le]
          have := (le3 w hm).2
          have := i32_le w3
          omega
      · exact ⟨w, List.mem_cons_of_mem _ (List.mem_filter.mpr ⟨hw, decide_eq_true m⟩), w1, w2, w3⟩
    · rw [List.mem_singleton.mp he] at hke ⊢
      refine ⟨_, List.mem_cons_self, kh.trans hke.1, ?_, ?_⟩
      · show wS (mkM w0 mk (mtF w0 W)) ≤ v.1
        rw [f2, Int32.le_iff_toInt_le, ← s0]; exact le1
      · show v.1 + jb 1 ≤ wE (mkM w0 mk (mtF w0 W))
        rw [f3, Int32.le_iff_toInt_le, ← e0]; exact le2
  · obtain ⟨xW, xm⟩ := hA x hx
    have hmt := hull_meets (mtF w0 W) w0 x dM mM lt0 (hn x xW) (fun y hy hyx => DJ.sy d3 (hM y hy).1 xW hyx (fun e => xm (e ▸ (hM y hy).2)))
    rw [f1, kA] at hkx
    rw [f2, f3]
    by_cases a : wE (mkA w0 (mtF w0 W)) ≤ wS x
    · exact Or.inl a
    · by_cases b : wE x ≤ wS (mkA w0 (mtF w0 W))
      · exact Or.inr b
      · exact absurd (hmt.mp ⟨kA.trans hkx, Int32.not_le.mp b, Int32.not_le.mp a⟩) xm
end GAPB
