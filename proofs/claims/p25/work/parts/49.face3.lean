section FACE3
variable {E : EV} {G : GH} {Post : Res → GH → Prop} {o A : Nat → Nat} {x : XS} {p : Nat} {nm : List String}
def jbF (p1 p2 p3 p4 p5 p6 : Int32) (k : Nat) : Int32 := match k with
  | 0 => p1 | 1 => p2 | 2 => if p1 = 1 then p3 else p2 | 3 => p4 | 4 => p5 | _ => p6
def ouV (nm : List String) (f : Nat × XS) : Res := match f.1 with
  | 0 => .inl none
  | n + 1 => .inr (nm.getD n "")
abbrev KV (E : EV) (A : Nat → Nat) (G : GH) (o : Nat → Nat) (p : Nat) (Post : Res → GH → Prop) (nm : List String) (f : Nat × XS) : Prop :=
  ∀ G' o' p', StS E G' o' A f.2 p' → FrC A G o G' o' → Cs G p G' (p' + 1) → Post (ouV nm f) G'
theorem KV.exc {n : Nat} {X : String} (hA : InjA A) (h : StS E G o A x p) (k : KV E A G o p Post nm (n + 1, x)) (hX : nm.getD n "" = X) : Post (.inr X) (bump G 1 6) := by
  have := k (bump G 1 6) o p (h.bmp hA) (FrC.ofA (js := []) hA ((Stq.rf h.wf).bump) (by decide)) ⟨by show gz G + 1 + p ≤ _; omega, by show gs G + 6 + 6 * p ≤ _; omega⟩
  rw [← hX]
  exact this
/-- the job's arguments are refused -/
def jbBad (p1 p2 p3 p4 p5 : Int32) : Prop := p1 < 0 ∨ 2 < p1 ∨ p2 < 1 ∨ 200 < p2 ∨ p4 < 0 ∨ 200 < p4 ∨ p5 < 0 ∨ 200 < p5 ∨ (p1 = 1 ∧ (p3 < 1 ∨ p2 < p3 ∨ 8 * p3 < p2))
noncomputable def fJob (x : XS) (p1 p2 p3 p4 p5 p6 : Int32) : Nat × XS := by
  classical exact if jbBad p1 p2 p3 p4 p5 then (1, x) else if tB (cT x) = 0 then (0, (jbF p1 p2 p3 p4 p5 p6, cS x, cN x, cP x, cH x, cK x, cB x, cT x)) else (2, x)
theorem c_job {p1 p2 p3 p4 p5 p6 : Int32} (hA : InjA A) (h : StS E G o A x p) (h6 : p6 = 0 ∨ p6 = 1) (k : KV E A G o p Post [xIA, xIS] (fJob x p1 p2 p3 p4 p5 p6)) : Cl E 2 m_St_job [.ref (A 0), .int p1, .int p2, .int p3, .int p4, .int p5, .int p6] G Post := by
  have h0 := h
  obtain ⟨ea, q1, q2, q3, q4, q5, hO, hp⟩ := h
  obtain ⟨hw, hR, hJ, hT, hB, hSo, hPg, hPs, hHi, hSi⟩ := id hO
  have bad : jbBad p1 p2 p3 p4 p5 → Post (.inr xIA) (bump G 1 6) := fun z => by
    have e : fJob x p1 p2 p3 p4 p5 p6 = (0 + 1, x) := if_pos z
    rw [e] at k
    exact k.exc hA h0 rfl
  have isx : ¬ jbBad p1 p2 p3 p4 p5 → ¬ gI G 583 (A 0) = 0 → Post (.inr xIS) (bump G 1 6) := fun z z2 => by
    rw [hT.1] at z2
    have e : fJob x p1 p2 p3 p4 p5 p6 = (1 + 1, x) := (if_neg z).trans (if_neg z2)
    rw [e] at k
    exact k.exc hA h0 rfl
  have ok : ¬ jbBad p1 p2 p3 p4 p5 → gI G 583 (A 0) = 0 → ∀ v : Int32, (if p1 = 1 then p3 else p2) = v → Post (.inl none) (sI (sI (sI (sI (sI (sI G 192 (A 1) p1) 193 (A 1) p2) 194 (A 1) v) 195 (A 1) p4) 196 (A 1) p5) 197 (A 1) p6) := fun z z2 v hv => by
    rw [hT.1] at z2
    have e : fJob x p1 p2 p3 p4 p5 p6 = (0, (jbF p1 p2 p3 p4 p5 p6, cS x, cN x, cP x, cH x, cK x, cB x, cT x)) := (if_neg z).trans (if_pos z2)
    rw [e] at k
    have o1 : o (A 1) ∈ [1].map A := by rw [hR.2.2.2.1]; exact in1
    have s : Stq ([1].map A) G o (sI (sI (sI (sI (sI (sI G 192 (A 1) p1) 193 (A 1) p2) 194 (A 1) v) 195 (A 1) p4) 196 (A 1) p5) 197 (A 1) p6) o := (((((((Stq.rf hw).wI (fun _ => o1)).wI (fun _ => o1)).wI (fun _ => o1)).wI (fun _ => o1)).wI (fun _ => o1)).wI (fun _ => o1))
    have f := hO.fr hA s (by decide)
    refine k _ o p ⟨ea, q1, q2, q3, q4, q5, ⟨s.wf, (f.1 (by decide)).1, fun j hj => ?_, (f.1 (by decide)).2, f.2.2.1 (by decide), f.2.2.2.1 (by decide), f.2.2.2.2.1 (by decide), f.2.2.2.2.2.1 (by decide), f.2.2.2.2.2.2.1 (by decide), f.2.2.2.2.2.2.2 (by decide)⟩, hp⟩ (FrC.ofA hA s (by decide)) Cs.rf.one
    have c : j = 0 ∨ j = 1 ∨ j = 2 ∨ j = 3 ∨ j = 4 ∨ j = 5 := by omega
    rcases c with c | c | c | c | c | c <;> subst c
    · rw [gI_ne (by decide), gI_ne (by decide), gI_ne (by decide), gI_ne (by decide), gI_ne (by decide), gI_eq]; rfl
    · rw [gI_ne (by decide), gI_ne (by decide), gI_ne (by decide), gI_ne (by decide), gI_eq]; rfl
    · rw [gI_ne (by decide), gI_ne (by decide), gI_ne (by decide), gI_eq]; exact hv.symm
    · rw [gI_ne (by decide), gI_ne (by decide), gI_eq]; rfl
    · rw [gI_ne (by decide), gI_eq]; rfl
    · rw [gI_eq]; rfl
  refine j_enter (L := [some (.ref (A 0)), some (.int p1), some (.int p2), some (.int p3), some (.int p4), some (.int p5), some (.int p6)]) me_St_job (cat_c rfl (cat_c rfl (cat_c rfl (cat_c rfl (cat_c rfl (cat_c rfl (cat_c rfl cat_n))))))) (Nat.le_of_ble_eq_true rfl) rfl (wp_St_job_0 (A 0) p1 p2 p3 p4 p5 p6 ⟨fun c => bad (Or.inl c), fun c1 => ⟨fun c => bad (Or.inr (Or.inl c)), fun c2 => ⟨fun c => bad (Or.inr (Or.inr (Or.inl c))), fun c3 => ⟨fun c => bad (Or.inr (Or.inr (Or.inr (Or.inl c)))), fun c4 => ⟨fun c => bad (Or.inr (Or.inr (Or.inr (Or.inr (Or.inl c))))), fun c5 => ⟨fun c => bad (Or.inr (Or.inr (Or.inr (Or.inr (Or.inr (Or.inl c)))))), fun c6 => ⟨fun c => bad (Or.inr (Or.inr (Or.inr (Or.inr (Or.inr (Or.inr (Or.inl c))))))), fun c7 => ⟨fun c => bad (Or.inr (Or.inr (Or.inr (Or.inr (Or.inr (Or.inr (Or.inr (Or.inl c)))))))), fun c8 => ⟨fun c9 => ?_, fun c9 => ⟨fun c => bad (Or.inr (Or.inr (Or.inr (Or.inr (Or.inr (Or.inr (Or.inr (Or.inr ⟨c9, Or.inl c⟩)))))))), fun d1 => ⟨fun c => bad (Or.inr (Or.inr (Or.inr (Or.inr (Or.inr (Or.inr (Or.inr (Or.inr ⟨c9, Or.inr (Or.inl c)⟩)))))))), fun d2 => ⟨fun c => bad (Or.inr (Or.inr (Or.inr (Or.inr (Or.inr (Or.inr (Or.inr (Or.inr ⟨c9, Or.inr (Or.inr c)⟩)))))))), fun d3 => ?_⟩⟩⟩⟩⟩⟩⟩⟩⟩⟩⟩⟩)
  · have nb : ¬ jbBad p1 p2 p3 p4 p5 := fun z => by
      rcases z with z | z | z | z | z | z | z | z | z
      · exact c1 z
      · exact c2 z
      · exact c3 z
      · exact c4 z
      · exact c5 z
      · exact c6 z
      · exact c7 z
      · exact c8 z
      · exact c9 z.1
    exact ⟨hR.1, fun z => ⟨A 1, hR.2.2.2.2.1, hR.2.2.1, fun _ => ⟨h6, ok nb z p2 (if_neg c9)⟩, fun z2 => absurd z2 c9⟩, fun z => isx nb z⟩
  · have nb : ¬ jbBad p1 p2 p3 p4 p5 := fun z => by
      rcases z with z | z | z | z | z | z | z | z | ⟨-, z | z | z⟩
      · exact c1 z
      · exact c2 z
      · exact c3 z
      · exact c4 z
      · exact c5 z
      · exact c6 z
      · exact c7 z
      · exact c8 z
      · exact d1 z
      · exact d2 z
      · exact d3 z
    exact ⟨hR.1, fun z => ⟨A 1, hR.2.2.2.2.1, hR.2.2.1, fun z2 => absurd c9 z2, fun _ => ⟨h6, ok nb z p3 (if_pos c9)⟩⟩, fun z => isx nb z⟩
def fConfirm (x : XS) : OU := if tU (cT x) = 0 then (1, 0, x) else (0, nI (kP (cK x)), comS x)
theorem c_confirm (hA : InjA A) (h : StS E G o A x p) (k : KF E A G o p Post [xIS] (fConfirm x)) : Cl E 2 m_St_confirm [.ref (A 0)] G Post := by
  have h0 := h
  obtain ⟨ea, p1, p2, p3, p4, p5, hO, hp⟩ := h
  obtain ⟨hw, hR, hJ, hT, hB, hSo, hPg, hPs, hHi, hSi⟩ := id hO
  obtain ⟨rows, d1, d2, d3⟩ := id hSi
  unfold fConfirm at k
  refine j_enter (L := [some (.ref (A 0))]) me_St_confirm (cat_c rfl cat_n) (Nat.le_of_ble_eq_true rfl) rfl (wp_St_confirm_0 (A 0) ⟨hR.1, ?_⟩)
  rw [hT.2.2.1]
  refine ⟨fun c => ⟨A 26, hR.2.2.2.2.2.2.2.2.2.1, d1.1, A 23, hR.2.2.2.2.2.2.2.2.1, A 16, hR.2.2.2.2.2.2.2.1, hPs.1.1, hHi.1.1, fun G1 hG1 => ?_⟩, fun c => ?_⟩
  · rw [if_neg c] at k
    obtain ⟨h1, s1, z1, z2⟩ := com_heap hA hO G1 hG1
    rw [show gI G 322 (A 26) = nI (kP (cK x)) from d1.2.2.2.2.1]
    exact k G1 o p ⟨ea, p1, p2, p3, p4, p5, h1, hp⟩ (FrC.ofA hA s1 (by decide)) ⟨by omega, by omega⟩
  · rw [if_pos c] at k
    exact k.exc hA h0 rfl
def fFail (x : XS) : OU := (0, nI (kC (cK (fallS x))), fallS x)
theorem c_fail (hA : InjA A) (h : StS E G o A x p) (hk : kP (cK x) ≤ (kL (cK x)).length) (hh : gHl (cP x) ≤ 2999) (hn : kP (cK x) + (gWi (cP x)).length ≤ 2900) (k : KF E A G o p Post nm (fFail x)) : Cl E 11 m_St_fail [.ref (A 0)] G Post := by
  have hR : StR G o A := by obtain ⟨ea, p1, p2, p3, p4, p5, hO, hp⟩ := h; exact hO.2.1
  refine j_enter (L := [some (.ref (A 0))]) me_St_fail (cat_c rfl cat_n) (Nat.le_of_ble_eq_true rfl) rfl (wp_St_fail_0 (A 0) ⟨hR.1, ?_⟩)
  refine c_fallS hA h hk hh hn (fun G' o' p' y1 y2 y3 => wp_St_fail_4 (A 0) ?_)
  have hk' := k G' o' p' y1 (FrC.ofA hA y2 (by decide)) y3.one
  obtain ⟨ea, p1, p2, p3, p4, p5, hO, hp⟩ := y1
  obtain ⟨rows, d1, d2, d3⟩ := hO.2.2.2.2.2.2.2.2.2
  refine ⟨hO.2.1.1, A 26, hO.2.1.2.2.2.2.2.2.2.2.2.1, d1.1, ?_⟩
  rw [show gI G' 321 (A 26) = nI (kC (cK (fallS x))) from d1.2.2.2.1]
  exact hk'
/-- how many keys move -/
def movN (w q : Int32) : Nat → Nat → Int32 → Int32
  | 0, _, c => c
  | m + 1, i, c => movN w q m (i + 1) (if (nI i * w) / 6 = (nI i * q) / 6 then c else c + 1)
def setW (x : XS) (w : Int32) : XS := (cJ x, cS x, cN x, cP x, cH x, cK x, cB x, (tB (cT x), tS (cT x), tU (cT x), w))
def fWorkers (x : XS) (q : Int32) : OU := if q < 1 then (1, 0, x) else if q ≤ 3 then (if tS (cT x) = 0 then (2, 0, x) else (0, movN (tW (cT x)) q 6 0 0, fallS (setW x q))) else (1, 0, x)
theorem c_workers {q : Int32} (hA : InjA A) (h : StS E G o A x p) (hk : kP (cK x) ≤ (kL (cK x)).length) (hh : gHl (cP x) ≤ 2999) (hn : kP (cK x) + (gWi (cP x)).length ≤ 2900) (k : KF E A G o p Post [xIA, xIS] (fWorkers x q)) : Cl E 11 m_St_workers [.ref (A 0), .int q] G Post := by
  have h0 := h
  obtain ⟨ea, p1, p2, p3, p4, p5, hO, hp⟩ := h
  obtain ⟨hw, hR, hJ, hT, hB, hSo, hPg, hPs, hHi, hSi⟩ := id hO
  unfold fWorkers at k
  refine j_enter (L := [some (.ref (A 0)), some (.int q), none, none]) me_St_workers (cat_c rfl (cat_c rfl cat_n)) (Nat.le_of_ble_eq_true rfl) rfl (wp_St_workers_0 (A 0) q ⟨fun c1 => ?_, fun c1 => ⟨fun c2 => ⟨hR.1, fun c3 => ?_, fun c3 => ?_⟩, fun c2 => ?_⟩⟩)
  · rw [if_pos c1] at k
    exact k.exc hA h0 rfl
  · rw [hT.2.1] at c3
    rw [if_neg c1, if_pos c2, if_neg c3] at k
    have fin : ∀ c : Int32, c = movN (tW (cT x)) q 6 0 0 → J E 11 m_St_workers 41 [some (.ref (A 0)), some (.int q), some (.int c), some (.int 6)] [] G Post := by
      intro c hc
      refine wp_St_workers_41 (A 0) q c 6 ⟨fun _ => ⟨hR.1, ?_⟩, fun z => absurd (by decide +kernel) z⟩
      have s : Stq ([0].map A) G o (sI G 586 (A 0) q) o := (Stq.rf hw).wI (fun _ => by rw [hR.2.1]; exact in1)
      have f := hO.fr hA s (by decide)
      have h1 : StO E (sI G 586 (A 0) q) o A ea (setW x q) p1 p2 p3 p4 p5 :=
        ⟨s.wf, hR.stp hw s (fun _ => rfl), f.2.1 (by decide), ⟨(gI_ne (by decide)).trans hT.1, (gI_ne (by decide)).trans hT.2.1, (gI_ne (by decide)).trans hT.2.2.1, gI_eq⟩, f.2.2.1 (by decide), f.2.2.2.1 (by decide), f.2.2.2.2.1 (by decide), f.2.2.2.2.2.1 (by decide), f.2.2.2.2.2.2.1 (by decide), f.2.2.2.2.2.2.2 (by decide)⟩
      refine c_fallS hA ⟨ea, p1, p2, p3, p4, p5, h1, hp⟩ hk hh hn (fun G' o' p' y1 y2 y3 => wp_St_workers_81 c ?_)
      rw [hc]
      exact k G' o' p' y1 (FrC.ofA hA ((s.mono (subA (by decide))).tr y2) (by decide)) y3.one
    have loop : ∀ (m i : Nat) (c : Int32), m + i = 6 → movN (tW (cT x)) q m i c = movN (tW (cT x)) q 6 0 0 → J E 11 m_St_workers 41 [some (.ref (A 0)), some (.int q), some (.int c), some (.int (nI i))] [] G Post := by
      intro m
      induction m with
      | zero =>
        intro i c hmi hc
        have e : i = 6 := by omega
        subst e
        exact fin c hc
      | succ m ih =>
        intro i c hmi hc
        refine wp_St_workers_41 (A 0) q c (nI i) ⟨fun z => absurd z (show ¬ (6 : Int32) ≤ nI i from nI_ge (b := 6) (by omega) (by omega)), fun _ => ⟨hR.1, ?_⟩⟩
        rw [hT.2.2.2, nI_1]
        refine ⟨fun z => ih (i + 1) c (by omega) ?_, fun z => ih (i + 1) (c + 1) (by omega) ?_⟩
        · rw [← hc]
          show _ = movN _ _ m (i + 1) (if _ then _ else _)
          rw [if_pos z]
        · rw [← hc]
          show _ = movN _ _ m (i + 1) (if _ then _ else _)
          rw [if_neg z]
    exact loop 6 0 0 rfl rfl
  · rw [hT.2.1] at c3
    rw [if_neg c1, if_pos c2, if_pos c3] at k
    exact k.exc hA h0 rfl
  · rw [if_neg c1, if_neg c2] at k
    exact k.exc hA h0 rfl
end FACE3
