section FACE5
variable {E : EV} {G : GH} {Post : Res → GH → Prop} {o A : Nat → Nat} {x : XS} {p : Nat} {nm : List String}
def addE (sc : SC) (s : Nat) (v : V3) : SC := (up1 (sEv sc) s (sEv sc s ++ [v]), sSl sc, sId sc, up2 (sEm sc) s (sEv sc s).length (-1))
abbrev apBad (t k v : Int32) : Prop := t < 0 ∨ 999 < t ∨ k < 0 ∨ 6 ≤ k ∨ v < -1000 ∨ ¬ v ≤ 1000
def fAppend (x : XS) (q t k v : Int32) : OU := if sIx q < 3 then (if apBad t k v then (2, 0, x) else if (sEv (cS x) (sIx q)).length < 40 then (0, nI (sEv (cS x) (sIx q)).length, (cJ x, addE (cS x) (sIx q) (t, k, v), cN x, cP x, cH x, cK x, cB x, cT x)) else (3, 0, x)) else (1, 0, x)
theorem getElem?_snoc' {α : Type} (xs : List α) (b : α) (i : Nat) : (xs ++ [b])[i]? = if i = xs.length then some b else xs[i]? := by
  by_cases h : i < xs.length
  · rw [List.getElem?_append_left h, if_neg (by omega)]
  · rw [List.getElem?_append_right (by omega)]
    by_cases h2 : i = xs.length
    · rw [if_pos h2, h2, Nat.sub_self]; rfl
    · rw [if_neg h2, List.getElem?_eq_none (by simp; omega), List.getElem?_eq_none (by omega)]
theorem sum3 {f : Nat → Nat} {s v : Nat} (hs : s < 3) : up1 f s v 0 + up1 f s v 1 + up1 f s v 2 + f s = f 0 + f 1 + f 2 + v := by
  have c : s = 0 ∨ s = 1 ∨ s = 2 := by omega
  rcases c with c | c | c <;> subst c <;> simp [up1] <;> omega
theorem c_append {q t kk v : Int32} (hA : InjA A) (h : StS E G o A x p) (hz : ∀ j, j < 34 → A j < gz G) (k : KF E A G o p Post [xIO, xIA, xIS] (fAppend x q t kk v)) : Cl E 7 m_St_append [.ref (A 0), .int q, .int t, .int kk, .int v] G Post := by
  have h0 := h
  obtain ⟨ea, p1, p2, p3, p4, p5, hO, hp⟩ := h
  obtain ⟨hw, hR, hJ, hT, hB, hSo, hPg, hPs, hHi, hSi⟩ := id hO
  unfold fAppend at k
  refine j_enter (L := [some (.ref (A 0)), some (.int q), some (.int t), some (.int kk), some (.int v), none]) me_St_append (cat_c rfl (cat_c rfl (cat_c rfl (cat_c rfl (cat_c rfl cat_n))))) (Nat.le_of_ble_eq_true rfl) rfl (wp_St_append_0 (A 0) q t kk v (src3 (fun hq => ?_) (fun s hs hq hx => ?_)))
  · rw [if_neg hq] at k
    exact k.exc hA h0 rfl
  subst hq; rw [if_pos (by omega), hx] at k
  have bad : apBad t kk v → Post (.inr xIA) (bump G 1 6) := fun z => by
    rw [if_pos z] at k
    exact k.exc hA h0 rfl
  refine ⟨fun z => bad (Or.inl z), fun d1 => ⟨fun z => bad (Or.inr (Or.inl z)), fun d2 => ⟨fun z => bad (Or.inr (Or.inr (Or.inl z))), fun d3 => ⟨fun z => bad (Or.inr (Or.inr (Or.inr (Or.inl z)))), fun d4 => ⟨fun z => bad (Or.inr (Or.inr (Or.inr (Or.inr (Or.inl z))))), fun d5 => ⟨fun d6 => ?_, fun z => bad (Or.inr (Or.inr (Or.inr (Or.inr (Or.inr z)))))⟩⟩⟩⟩⟩⟩
  have nb : ¬ apBad t kk v := fun z => by
    rcases z with z | z | z | z | z | z
    · exact d1 z
    · exact d2 z
    · exact d3 z
    · exact d4 z
    · exact d5 z
    · exact z d6
  rw [if_neg nb] at k
  have so := hSo.2.2.2.1 s hs
  obtain ⟨c, la0, lp⟩ := id hSo.2.2.2.2
  have la := la0 s hs
  refine ⟨hR.1, A 2, hR.2.2.2.2.2.1, Or.inr hSo.1, s, ix3 hs hSo.2.1, A (3 + s), so.1, so.2.1, A (6 + s), so.2.2.2.1, la.tg, ?_⟩
  rw [la.sz, so.2.2.2.2.2.2.1]
  have hle : (sEv (cS x) s).length ≤ 40 := by rw [← so.2.2.2.2.2.2.1]; exact so.2.2.2.2.2.2.2.1
  refine ⟨fun c1 G1 hG1 => ?_, fun c1 => ?_⟩
  · have c1' : (sEv (cS x) s).length < 40 := Nat.lt_of_not_le (fun z => nI_nlt (b := 40) z (by omega) c1)
    rw [if_pos c1'] at k
    have t1 : gT G1 (gz G) = 2 := by rw [hG1, gT_al, if_pos rfl]
    refine ⟨t1, fun G2 hG2 => ⟨?_, ?_⟩⟩
    · rw [hG1, gT_al, if_neg (Nat.ne_of_lt (hz (6 + s) (by omega)))]
      exact la.tg
    -- the new event
    have s2 : Stq ([].map A) G o G2 (uo o (gz G) (gz G)) := by
      subst hG1 hG2
      have sa : Stq ([].map A) G o (al G 2 5) (uo o (gz G) (gz G)) := (Stq.rf hw).al (gz G)
      exact ((((sa.wI (fun z => absurd z (Nat.lt_irrefl _))).wI (fun z => absurd z (Nat.lt_irrefl _))).wI (fun z => absurd z (Nat.lt_irrefl _))).wI (fun z => absurd z (Nat.lt_irrefl _))).wI (fun z => absurd z (Nat.lt_irrefl _))
    have f2 := hO.fr hA s2 (by decide)
    have hSo2 := f2.2.2.2.1 (by decide)
    have la2 := hSo2.2.2.2.2
    have la2s := (la0 s hs).stp hw s2 (by simp)
    have t2 : gT G2 (gz G) = 2 := by subst hG2; exact t1
    have r2 : rE G2 (gz G) = (nI s, t, kk, v, -1) := by
      subst hG2
      show (gI _ 64 _, gI _ 65 _, gI _ 66 _, gI _ 67 _, gI _ 68 _) = _
      rw [gI_ne (by decide), gI_ne (by decide), gI_ne (by decide), gI_eq, gI_ne (by decide), gI_ne (by decide), gI_eq, gI_ne (by decide), gI_eq, gI_eq, gI_ne (by decide), gI_ne (by decide), gI_ne (by decide), gI_ne (by decide), gI_eq]
    have z2 : gz G2 = gz G + 1 ∧ gs G2 = gs G + 5 := by subst hG1 hG2; exact ⟨rfl, rfl⟩
    have og : uo o (gz G) (gz G) (gz G) = gz G := uo_eq
    generalize uo o (gz G) (gz G) = o2 at *
    have hw2 := s2.wf
    refine c_AL_add la2s hw2 (fun z hz' => ?_) (OB.of2 t2) (by omega) (fun G3 o3 c3 y1 y2 y3 => ?_)
    · obtain ⟨i, hi, he'⟩ := List.getElem_of_mem hz'
      exact OB.of2 ((hSo2.2.2.2.1 s hs).2.2.2.2.2.2.2.2.2 i z (by rw [List.getElem?_eq_getElem hi, he'])).1
    have s3 : Stq ([6 + s].map A) G2 o2 G3 o3 := y2
    have h2 : StO E G2 o2 A ea x p1 p2 p3 p4 p5 := ⟨s2.wf, (f2.1 (by decide)).1, f2.2.1 (by decide), (f2.1 (by decide)).2, f2.2.2.1 (by decide), hSo2, f2.2.2.2.2.1 (by decide), f2.2.2.2.2.2.1 (by decide), f2.2.2.2.2.2.2.1 (by decide), f2.2.2.2.2.2.2.2 (by decide)⟩
    have f3 := h2.fr hA s3 (by intro j hj; simp at hj; omega)
    have n6 : ∀ j, j < 34 → j ≠ 6 + s → A j ∉ [6 + s].map A := fun j hj hne => hA.n1 hj (by omega) hne
    have hzb : ∀ j, j < 34 → gz G ≠ A j := fun j hj => fun z => by have := hz j hj; omega
    have nbm : gz G ∉ [6 + s].map A := by
      rw [show [6 + s].map A = [A (6 + s)] from rfl, List.mem_singleton]; exact hzb (6 + s) (by omega)
    have hnew : ∀ j, gT G2 j = 2 → o2 j = j → (∀ i, i < 34 → j ≠ A i) → Sm G2 G3 j ∧ o3 j = j := fun j hj ho hn => by
      have z := hw2 j (by omega)
      exact ⟨s3.sm z (by rw [ho, show [6 + s].map A = [A (6 + s)] from rfl, List.mem_singleton]; exact hn (6 + s) (by omega)), (s3.ow z).trans ho⟩
    obtain ⟨g1, g2, g3, g4, -⟩ := id hSo2
    have len : (ea s).length = (sEv (cS x) s).length := so.2.2.2.2.2.2.1
    have hSo3 : SoS E G3 o3 A (up1 ea s (ea s ++ [gz G])) (addE (cS x) s (t, kk, v)) (p1 + c3 + 1 - c s) := by
      have q := s3.sm (hw2 (A 2) (by rw [g1]; omega)) (by rw [g3]; exact n6 2 (by omega) (by omega))
      refine ⟨q.1.trans g1, q.2.1.trans g2, (s3.ow (hw2 (A 2) (by rw [g1]; omega))).trans g3, fun j hj => ?_, up1 c s c3, fun j hj => ?_, ?_⟩
      · obtain ⟨b1, b2, b3, b4, b5, b6, b7, b8, b9, b10⟩ := g4 j hj
        have z := hw2 (A (3 + j)) (by rw [b2]; omega)
        have r := s3.sm z (by rw [b3]; exact n6 (3 + j) (by omega) (by omega))
        have old : ∀ i e, (ea j)[i]? = some e → gT G3 e = 2 ∧ o3 e = e ∧ (∀ j, j < 34 → e ≠ A j) ∧ ∀ u, (sEv (cS x) j)[i]? = some u → rE G3 e = (nI j, u.1, u.2.1, u.2.2, sEm (cS x) j i) := fun i e hk => by
          obtain ⟨c1, c2, c3, c4⟩ := b10 i e hk
          obtain ⟨w1, w2⟩ := hnew e c1 c2 c3
          exact ⟨w1.1.trans c1, w2, c3, fun u hu => (rE_sm w1).trans (c4 u hu)⟩
        by_cases cj : j = s
        · subst cj
          have e1 : up1 ea j (ea j ++ [gz G]) j = ea j ++ [gz G] := if_pos rfl
          have e2 : sEv (addE (cS x) j (t, kk, v)) j = sEv (cS x) j ++ [(t, kk, v)] := if_pos rfl
          rw [e1, e2]
          have hfresh : gz G ∉ ea j := fun z => by
            obtain ⟨i, hi, he'⟩ := List.getElem_of_mem z
            have := (so.2.2.2.2.2.2.2.2.2 i (gz G) (by rw [List.getElem?_eq_getElem hi, he'])).1
            have := hw (gz G) (by omega)
            omega
          refine ⟨(q.2.2.2.2.2.1 j).trans b1, r.1.trans b2, (s3.ow z).trans b3, (r.2.2.2.1 _).trans b4, (r.2.2.1 _).trans b5, (r.2.2.1 _).trans b6, by simp [len], by simp; omega, ?_, fun i e hi => ?_⟩
          · rw [List.nodup_append]
            exact ⟨b9, by simp, fun a ha b hb => by
              rw [List.mem_singleton.mp hb]
              exact fun z => hfresh (z ▸ ha)⟩
          · rw [getElem?_snoc'] at hi
            by_cases ci : i = (ea j).length
            · rw [if_pos ci] at hi
              cases hi
              obtain ⟨w1, w2⟩ := hnew (gz G) t2 og hzb
              refine ⟨w1.1.trans t2, w2, hzb, fun u hu => ?_⟩
              rw [getElem?_snoc', if_pos (by rw [ci, len])] at hu
              cases hu
              rw [rE_sm w1, r2, ci, len]
              show _ = (nI j, t, kk, v, up2 (sEm (cS x)) j (sEv (cS x) j).length (-1) j (sEv (cS x) j).length)
              rw [show up2 (sEm (cS x)) j (sEv (cS x) j).length (-1) j (sEv (cS x) j).length = -1 from if_pos ⟨rfl, rfl⟩]
            · rw [if_neg ci] at hi
              obtain ⟨w1, w2, w3, w4⟩ := old i e hi
              have il := (List.getElem?_eq_some_iff.mp hi).1
              refine ⟨w1, w2, w3, fun u hu => ?_⟩
              rw [getElem?_snoc', if_neg (by omega)] at hu
              rw [w4 u hu]
              show _ = (nI j, u.1, u.2.1, u.2.2, up2 (sEm (cS x)) j (sEv (cS x) j).length (-1) j i)
              rw [show up2 (sEm (cS x)) j (sEv (cS x) j).length (-1) j i = sEm (cS x) j i from if_neg (fun z => by omega)]
        · have e1 : up1 ea s (ea s ++ [gz G]) j = ea j := if_neg cj
          have e2 : sEv (addE (cS x) s (t, kk, v)) j = sEv (cS x) j := if_neg cj
          rw [e1, e2]
          refine ⟨(q.2.2.2.2.2.1 j).trans b1, r.1.trans b2, (s3.ow z).trans b3, (r.2.2.2.1 _).trans b4, (r.2.2.1 _).trans b5, (r.2.2.1 _).trans b6, b7, b8, b9, fun i e hi => ?_⟩
          obtain ⟨w1, w2, w3, w4⟩ := old i e hi
          refine ⟨w1, w2, w3, fun u hu => ?_⟩
          rw [w4 u hu]
          show _ = (nI j, u.1, u.2.1, u.2.2, up2 (sEm (cS x)) s (sEv (cS x) s).length (-1) j i)
          rw [show up2 (sEm (cS x)) s (sEv (cS x) s).length (-1) j i = sEm (cS x) j i from if_neg (fun z => cj z.1)]
      · by_cases cj : j = s
        · subst cj
          rw [show up1 ea j (ea j ++ [gz G]) j = ea j ++ [gz G] from if_pos rfl, show up1 c j c3 j = c3 from if_pos rfl]
          exact y1
        · rw [show up1 ea s (ea s ++ [gz G]) j = ea j from if_neg cj, show up1 c s c3 j = c j from if_neg cj]
          exact ((la0 j hj).stp hw s2 (by simp)).stp hw2 s3 (n6 (6 + j) (by omega) (by omega))
      · have q1 := sum3 (f := c) (v := c3) hs
        have q2 : (up1 ea s (ea s ++ [gz G]) 0).length + (up1 ea s (ea s ++ [gz G]) 1).length + (up1 ea s (ea s ++ [gz G]) 2).length = (ea 0).length + (ea 1).length + (ea 2).length + 1 := by
          have cc : s = 0 ∨ s = 1 ∨ s = 2 := by omega
          rcases cc with cc | cc | cc <;> subst cc <;> simp [up1] <;> omega
        rw [q2]
        have q3 : c s ≤ c 0 + c 1 + c 2 := by
          have cc : s = 0 ∨ s = 1 ∨ s = 2 := by omega
          rcases cc with cc | cc | cc <;> subst cc <;> omega
        omega
    have hHi3 : HiS E G3 o3 A (up1 ea s (ea s ++ [gz G])) (cH x) p4 := by
      have hh : HiS E G3 o3 A ea (cH x) p4 := f3.2.2.2.2.2.2.1 (by intro j hj; simp at hj ⊢; omega)
      refine ⟨?_, fun y hy => ?_⟩
      · have e : (hL (cH x)).map (aOf (up1 ea s (ea s ++ [gz G]))) = (hL (cH x)).map (aOf ea) := List.map_congr_left (fun y hy => by
          have hl := (hHi.2 y hy).2
          unfold aOf
          by_cases cj : y.1 = s
          · rw [show up1 ea s (ea s ++ [gz G]) y.1 = ea s ++ [gz G] from if_pos cj, cj]
            rw [cj] at hl
            rw [List.getD_eq_getElem?_getD, List.getElem?_append_left hl, List.getD_eq_getElem?_getD]
          · rw [show up1 ea s (ea s ++ [gz G]) y.1 = ea y.1 from if_neg cj])
        rw [e]
        exact hh.1
      · obtain ⟨l1, l2⟩ := hHi.2 y hy
        refine ⟨l1, ?_⟩
        by_cases cj : y.1 = s
        · rw [show up1 ea s (ea s ++ [gz G]) y.1 = ea s ++ [gz G] from if_pos cj]
          rw [cj] at l2
          simp; omega
        · rw [show up1 ea s (ea s ++ [gz G]) y.1 = ea y.1 from if_neg cj]
          exact l2
    have nn : ∀ i, i < 34 → ¬ (6 ≤ i ∧ i ≤ 8) → i ∉ [6 + s] := fun i hi hn => by rw [List.mem_singleton]; omega
    refine wp_St_append_96 (A (6 + s)) 1 ⟨y1.tg, ?_⟩
    rw [y1.sz, List.length_append, len]
    show Post (.inl (some (.int (nI ((sEv (cS x) s).length + 1) - nI 1)))) G3
    rw [nI_sub (by omega), Nat.add_sub_cancel]
    have hcs : c s ≤ p1 := by
      have cc : s = 0 ∨ s = 1 ∨ s = 2 := by omega
      rcases cc with cc | cc | cc <;> subst cc <;> omega
    refine k G3 o3 (p1 + c3 + 1 - c s + p2 + p3 + p4 + p5) ⟨_, p1 + c3 + 1 - c s, p2, p3, p4, p5, ⟨s3.wf, (f3.1 (nn 0 (by omega) (by omega))).1, f3.2.1 (nn 1 (by omega) (by omega)), (f3.1 (nn 0 (by omega) (by omega))).2, f3.2.2.1 (nn 28 (by omega) (by omega)), hSo3, f3.2.2.2.2.1 (by intro j hj; simp at hj ⊢; omega), f3.2.2.2.2.2.1 (by intro j hj; simp at hj ⊢; omega), hHi3, f3.2.2.2.2.2.2.2 (by intro j hj; simp at hj ⊢; omega)⟩, rfl⟩ (FrC.ofA (js := [6 + s]) hA ((s2.mono (by intro z hz'; simp at hz')).tr s3) (by intro j hj; simp at hj; omega)) ?_
    have v1 := y3.1
    have v2 := y3.2
    exact ⟨by omega, by omega⟩
  · rw [if_neg (fun z => c1 (nI_lt (b := 40) z (by omega)))] at k
    exact k.exc hA h0 rfl
end FACE5
