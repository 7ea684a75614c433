/-! pure words of the sink and of the reference, cut out of their parts by wip/gen/p25.py -/
section
variable {E : EV} {G G1 G2 : GH} {m : Nat} {B : Nat → Nat} {F : Nat → Int32} {T : Nat → Nat → Int32}
theorem u2 {T : Nat → Nat → Int32} {k i : Nat} {v : Int32} : up2 T k i v k i = v := if_pos ⟨rfl, rfl⟩
end
def setLk (y : XS) (L : List WT) : XS := (cJ y, cS y, cN y, cP y, cH y, (L, kC (cK y), kP (cK y)), cB y, cT y)
def setWn (y : XS) (W : List WT) : XS := (cJ y, cS y, (gOf (cN y), gTk (cN y), gGr (cN y), gMk (cN y), gHl (cN y), gDr (cN y), gPa (cN y), W), cP y, cH y, cK y, cB y, cT y)
abbrev due (mk : Int32) (w : WT) : Prop := wO w = 0 ∧ wE w ≤ mk
theorem emF_due {mk : Int32} {w : WT} (h : due mk w) : emF mk w = setO w 1 := by
  unfold emF
  rw [if_pos h.2, if_pos h.1]
theorem emF_not {mk : Int32} {w : WT} (h : ¬ due mk w) : emF mk w = w := by
  unfold emF
  by_cases c : wE w ≤ mk
  · rw [if_pos c, if_neg (fun z => h ⟨z, c⟩)]
  · rw [if_neg c]
section
variable {E : EV} {G : GH} {Post : Res → GH → Prop} {m : Nat} {B : Nat → Nat} {F : Nat → Int32} {T : Nat → Nat → Int32} {th : Int32} {y : XS} {Jd : List Nat} {JK : Nat}
def setMk (y : XS) (mk : Int32) : XS := (cJ y, cS y, (gOf (cN y), gTk (cN y), gGr (cN y), mk, gHl (cN y), gDr (cN y), gPa (cN y), gWi (cN y)), cP y, cH y, cK y, cB y, cT y)
end
section
variable {E : EV} {G : GH} {Post : Res → GH → Prop} {m : Nat} {B : Nat → Nat} {F : Nat → Int32} {T : Nat → Nat → Int32} {th : Int32} {y : XS} {Jd : List Nat} {JK : Nat}
def grX (y : XS) (R : List WT) : XS := setWn (setLk (setMk y (lkM y)) (kL (cK y) ++ R)) ((gWi (cN y)).map (emF (lkM y)))
end
section
variable {E : EV} {G : GH} {Post : Res → GH → Prop} {m : Nat} {B : Nat → Nat} {F : Nat → Int32} {T : Nat → Nat → Int32} {th : Int32} {y : XS} {Jd : List Nat} {JK : Nat}
def grR (y : XS) : List WT := ((gWi (cN y)).filter (fun w => decide (due (lkM y) w))).map (fun w => setO w 1)
end
section
variable {E : EV} {G : GH} {Post : Res → GH → Prop} {m : Nat} {B : Nat → Nat} {F : Nat → Int32} {T : Nat → Nat → Int32} {th : Int32} {y : XS} {Jd : List Nat} {JK : Nat}
def addN (k sz : Int32) : List WT → List Int32 → List WT
  | W, [] => W
  | W, s :: ss => addN k sz (if ∃ w ∈ W, isW k s w then W else W ++ [(k, s, s + sz, 0, 0, 0)]) ss
end
section
variable {E : EV} {G : GH} {Post : Res → GH → Prop} {m : Nat} {B : Nat → Nat} {F : Nat → Int32} {T : Nat → Nat → Int32} {th : Int32} {y : XS} {Jd : List Nat} {JK : Nat}
theorem addN_app (k sz : Int32) : ∀ (ss : List Int32) (W : List WT), ∃ N, addN k sz W ss = W ++ N ∧ N.length ≤ ss.length ∧ ∀ w ∈ N, wK w = k ∧ wS w ∈ ss ∧ w = (k, wS w, wS w + sz, 0, 0, 0)
  | [], W => ⟨[], by simp [addN], by simp, fun w h => absurd h List.not_mem_nil⟩
  | s :: ss, W => by
    unfold addN
    by_cases c : ∃ w ∈ W, isW k s w
    · rw [if_pos c]
      obtain ⟨N, e, l, hN⟩ := addN_app k sz ss W
      exact ⟨N, e, by simp; omega, fun w hw => ⟨(hN w hw).1, List.mem_cons_of_mem _ (hN w hw).2.1, (hN w hw).2.2⟩⟩
    · rw [if_neg c]
      obtain ⟨N, e, l, hN⟩ := addN_app k sz ss (W ++ [(k, s, s + sz, 0, 0, 0)])
      refine ⟨(k, s, s + sz, 0, 0, 0) :: N, by rw [e, List.append_assoc]; rfl, by simp; omega, fun w hw => ?_⟩
      rcases List.mem_cons.mp hw with hw | hw
      · rw [hw]; exact ⟨rfl, List.mem_cons_self, rfl⟩
      · exact ⟨(hN w hw).1, List.mem_cons_of_mem _ (hN w hw).2.1, (hN w hw).2.2⟩
end
section
variable {E : EV} {G : GH} {Post : Res → GH → Prop} {m : Nat} {B : Nat → Nat} {F : Nat → Int32} {T : Nat → Nat → Int32} {th : Int32} {y : XS} {Jd : List Nat} {JK : Nat}
theorem UQ_addN {k sz : Int32} : ∀ (ss : List Int32) {W : List WT}, UQ W → UQ (addN k sz W ss)
  | [], _, h => h
  | s :: ss, W, h => by
    unfold addN
    by_cases c : ∃ w ∈ W, isW k s w
    · rw [if_pos c]; exact UQ_addN ss h
    · rw [if_neg c]
      refine UQ_addN ss ?_
      unfold UQ at h ⊢
      rw [List.pairwise_append]
      refine ⟨h, List.pairwise_singleton _ _, fun a ha b hb => ?_⟩
      rw [List.mem_singleton.mp hb]
      exact fun z => c ⟨a, ha, z⟩
end
section
variable {E : EV} {G : GH} {Post : Res → GH → Prop} {m : Nat} {B : Nat → Nat} {F : Nat → Int32} {T : Nat → Nat → Int32} {th : Int32} {y : XS} {Jd : List Nat} {JK : Nat}
theorem UQ.addN {k sz : Int32} (ss : List Int32) {W : List WT} (h : UQ W) : UQ (addN k sz W ss) := UQ_addN ss h
end
section
variable {E : EV} {G : GH} {Post : Res → GH → Prop} {m : Nat} {B : Nat → Nat} {F : Nat → Int32} {T : Nat → Nat → Int32} {th : Int32} {y : XS} {Jd : List Nat} {JK : Nat}
def cmR1 (k : Int32) (W1 : List WT) (ss : List Int32) : List WT := ss.flatMap (fun s => (W1.filter (fun x => decide (isW k s x))).flatMap (fun w => if wO w = 0 then [] else [setO w 0]))
end
section
variable {E : EV} {G : GH} {Post : Res → GH → Prop} {m : Nat} {B : Nat → Nat} {F : Nat → Int32} {T : Nat → Nat → Int32} {th : Int32} {y : XS} {Jd : List Nat} {JK : Nat}
def cmR2 (k v : Int32) (W1 : List WT) (ss : List Int32) : List WT := ss.flatMap (fun s => (W1.filter (fun x => decide (isW k s x))).flatMap (fun w => if wO w = 0 then [] else [setO (addV w v) 1]))
end
section
variable {E : EV} {G : GH} {Post : Res → GH → Prop} {m : Nat} {B : Nat → Nat} {F : Nat → Int32} {T : Nat → Nat → Int32} {th : Int32} {y : XS} {Jd : List Nat} {JK : Nat}
def cmW (k v : Int32) (W1 : List WT) (ss : List Int32) : List WT := W1.map (fun w => if wK w = k ∧ wS w ∈ ss then addV w v else w)
end
abbrev tou (its low high : Int32) (w : WT) : Prop := wK w = its ∧ ¬ high ≤ wS w ∧ ¬ wE w ≤ low
def wsF : Int32 → List WT → Int32
  | f, [] => f
  | f, x :: L => wsF (if wO x = 0 then f else 1) L
def bkF (M : List WT) : List WT := M.flatMap (fun x => if wO x = 0 then [] else [setO x 0])
section
variable {E : EV} {G : GH} {Post : Res → GH → Prop} {m : Nat} {B : Nat → Nat} {F : Nat → Int32} {T : Nat → Nat → Int32} {th : Int32} {y : XS} {Jd : List Nat} {JK : Nat}
def mkA (w0 : WT) (M : List WT) : WT := M.foldl absorb w0
end
section
variable {E : EV} {G : GH} {Post : Res → GH → Prop} {m : Nat} {B : Nat → Nat} {F : Nat → Int32} {T : Nat → Nat → Int32} {th : Int32} {y : XS} {Jd : List Nat} {JK : Nat}
def mkM (w0 : WT) (mk : Int32) (M : List WT) : WT := if ¬ wsF 0 M = 0 ∧ wE (mkA w0 M) ≤ mk then setO (mkA w0 M) 1 else mkA w0 M
end
section
variable {E : EV} {G : GH} {Post : Res → GH → Prop} {m : Nat} {B : Nat → Nat} {F : Nat → Int32} {T : Nat → Nat → Int32} {th : Int32} {y : XS} {Jd : List Nat} {JK : Nat}
def mkE (w0 : WT) (mk : Int32) (M : List WT) : List WT := if ¬ wsF 0 M = 0 ∧ wE (mkA w0 M) ≤ mk then [setO (mkA w0 M) 1] else []
end
section
variable {E : EV} {G : GH} {Post : Res → GH → Prop} {m : Nat} {B : Nat → Nat} {F : Nat → Int32} {T : Nat → Nat → Int32} {th : Int32} {y : XS} {Jd : List Nat} {JK : Nat}
def rSnap (y : XS) (of : Nat → Nat) : XS := (cJ y, cS y, cN y, (of, gTk (cN y), gGr (cN y), gMk (cN y), gHl (cP y), gDr (cN y), gPa (cP y), gWi (cN y)), cH y, (kL (cK y), kC (cK y), (kL (cK y)).length), cB y, (tB (cT y), tS (cT y) + 1, 1, tW (cT y)))
end
section
variable {E : EV} {G : GH} {Post : Res → GH → Prop} {m : Nat} {B : Nat → Nat} {F : Nat → Int32} {T : Nat → Nat → Int32} {th : Int32} {y : XS} {Jd : List Nat} {JK : Nat}
def rRest (y : XS) : XS := (cJ y, cS y, (gOf (cP y), gTk (cP y), gGr (cP y), gMk (cP y), gHl (cN y), gDr (cP y), gPa (cN y), gWi (cP y)), cP y, cH y, ((kL (cK y)).take (kP (cK y)), kP (cK y), kP (cK y)), (bA (cB y), bT (cB y), 0), (tB (cT y), tS (cT y), 0, tW (cT y)))
end
section
variable {E : EV} {G : GH} {Post : Res → GH → Prop} {m : Nat} {B : Nat → Nat} {F : Nat → Int32} {T : Nat → Nat → Int32} {th : Int32} {y : XS} {Jd : List Nat} {JK : Nat}
def AdR (jb : Nat → Int32) (v : V3) (mk : Int32) (W : List WT) (W' Rr : List WT) (n : Int32) : Prop :=
  (jb 0 = 2 ∧ v.1 + jb 1 + jb 3 ≤ mk ∧ W' = W ∧ Rr = [] ∧ n = 0) ∨
  (jb 0 = 2 ∧ ¬ v.1 + jb 1 + jb 3 ≤ mk ∧ n = 1 ∧ ∃ M, M.Perm (W.filter (fun w => decide (tou v.2.1 v.1 (v.1 + jb 1) w))) ∧ W' = W.filter (fun w => decide (¬ tou v.2.1 v.1 (v.1 + jb 1) w)) ++ [mkM (v.2.1, v.1, v.1 + jb 1, 1, v.2.2, 0) mk M] ∧ Rr = bkF M ++ mkE (v.2.1, v.1, v.1 + jb 1, 1, v.2.2, 0) mk M) ∨
  (¬ jb 0 = 2 ∧ ∃ ss, ss = sts (bk (jb 2) (jb 1) v.1 7 (laS (jb 2) v.1)) (laS (jb 2) v.1) (jb 2) (jb 1) (jb 3) mk 8 0 ∧ W' = cmW v.2.1 v.2.2 (addN v.2.1 (jb 1) W ss) ss ∧ Rr = cmR1 v.2.1 (addN v.2.1 (jb 1) W ss) ss ++ cmR2 v.2.1 v.2.2 (addN v.2.1 (jb 1) W ss) ss ∧ n = nI ss.length)
end
section
variable {E : EV} {G : GH} {Post : Res → GH → Prop} {m : Nat} {B : Nat → Nat} {F : Nat → Int32} {T : Nat → Nat → Int32} {th : Int32} {y : XS} {Jd : List Nat} {JK : Nat}
def StepOK (st sz gr mk t : Int32) : Prop :=
  ¬ st = 0 ∧ laS st t = t / st * st ∧ (sts (bk st sz t 7 (laS st t)) (laS st t) st sz gr mk 8 0).Nodup ∧ (sts (bk st sz t 7 (laS st t)) (laS st t) st sz gr mk 8 0).length ≤ 8 ∧ bkS st sz t (bk st sz t 7 (laS st t)) = bk st sz t 7 (laS st t) ∧ (∀ i, i ≤ 8 → laS st t < bk st sz t 7 (laS st t) + nI i * st → sts (bk st sz t 7 (laS st t)) (laS st t) st sz gr mk (8 - i) i = []) ∧ laS st t < bk st sz t 7 (laS st t) + nI 8 * st
end
section
variable {E : EV} {G : GH} {Post : Res → GH → Prop} {m : Nat} {B : Nat → Nat} {F : Nat → Int32} {T : Nat → Nat → Int32} {th : Int32} {y : XS} {Jd : List Nat} {JK : Nat}
def GapOK (jb : Nat → Int32) (v : V3) (W : List WT) : Prop := ∀ M : List WT, M.Perm (W.filter (fun w => decide (tou v.2.1 v.1 (v.1 + jb 1) w))) → ∀ w ∈ W.filter (fun w => decide (¬ tou v.2.1 v.1 (v.1 + jb 1) w)), ¬ isW v.2.1 (wS (mkA (v.2.1, v.1, v.1 + jb 1, 1, v.2.2, 0) M)) w
end
section
variable {E : EV} {G : GH} {Post : Res → GH → Prop} {m : Nat} {B : Nat → Nat} {F : Nat → Int32} {T : Nat → Nat → Int32} {th : Int32} {y : XS} {Jd : List Nat} {JK : Nat}
def rtk (y : XS) (s i : Nat) (v : V3) (W' Rr : List WT) (n : Int32) : XS := (cJ y, cS y, (gOf (cN y), up1 (gTk (cN y)) s (i + 1), up1 (gGr (cN y)) s (if gGr (cN y) s < v.1 then v.1 else gGr (cN y) s), gMk (cN y), gHl (cN y), if n = 0 then gDr (cN y) + 1 else gDr (cN y), gPa (cN y), W'), cP y, cH y, (kL (cK y) ++ Rr, kC (cK y), kP (cK y)), cB y, cT y)
end
section
variable {E : EV} {G : GH} {Post : Res → GH → Prop} {m : Nat} {B : Nat → Nat} {F : Nat → Int32} {T : Nat → Nat → Int32} {th : Int32} {y : XS} {Jd : List Nat} {JK : Nat}
def Jt (Jd : List Nat) (mk : Int32) (s i : Nat) (v : V3) : List Nat := if mk ≤ v.1 ∧ s < 2 then Jd ++ [40 * s + i] else Jd
end
section
variable {E : EV} {G : GH} {Post : Res → GH → Prop} {m : Nat} {B : Nat → Nat} {F : Nat → Int32} {T : Nat → Nat → Int32} {th : Int32} {y : XS} {Jd : List Nat} {JK : Nat}
def rAns (mk : Int32) (v : V3) (n : Int32) : Int32 := if n = 0 then 2 else if mk ≤ v.1 then 0 else 1
end
section
variable {E : EV} {G : GH} {Post : Res → GH → Prop} {m : Nat} {B : Nat → Nat} {th : Int32} {y : XS} {Jd : List Nat} {JK : Nat} {F : Nat → Int32} {T : Nat → Nat → Int32}
def cRes (q s w a : Int32) : Nat × Int32 := if q < 0 then (1, 0) else if 6 ≤ q then (1, 0) else if s < 0 then (2, 0) else if 999 < s then (2, 0) else if w < 0 then (2, 0) else if w ≤ 2 then (0, a) else (2, 0)
end
abbrev JV : Type := Nat × V3
def jv (sc : SC) (j : Nat) : JV := (j, (sEv sc (j / 40)).getD (j % 40) (0, 0, 0))
abbrev jp (reach : Int32) (a b : JV) : Prop := a.1 < 40 ∧ ¬ b.1 < 40 ∧ a.2.2.1 = b.2.2.1 ∧ ¬ reach < a.2.1 - b.2.1 ∧ ¬ reach < -(a.2.1 - b.2.1)
def jc1 (reach : Int32) (a : JV) : Int32 → List JV → Int32
  | c, [] => c
  | c, b :: L => jc1 reach a (if jp reach a b then c + 1 else c) L
def jc2 (reach : Int32) (L0 : List JV) : Int32 → List JV → Int32
  | c, [] => c
  | c, a :: L => jc2 reach L0 (jc1 reach a c L0) L
section
variable {E : EV} {G : GH} {Post : Res → GH → Prop} {m : Nat} {B : Nat → Nat} {th : Int32} {y : XS} {Jd : List Nat} {JK : Nat}
def idX (y : XS) (s : Nat) (v : Int32) : XS := (cJ y, setId (cS y) s v, cN y, cP y, cH y, cK y, cB y, cT y)
end
section
variable {E : EV} {G : GH} {Post : Res → GH → Prop} {m : Nat} {B : Nat → Nat} {th : Int32} {y : XS} {Jd : List Nat} {JK : Nat}
def brR (y : XS) : XS := (cJ y, cS y, cN y, cP y, cH y, cK y, (gOf (cN y), fun _ => 0, 1), (1, tS (cT y), tU (cT y), tW (cT y)))
end
section
variable {E : EV} {G : GH} {Post : Res → GH → Prop} {m : Nat} {B : Nat → Nat} {th : Int32} {y : XS} {Jd : List Nat} {JK : Nat}
def brN (y : XS) : XS := (cJ y, cS y, cN y, cP y, cH y, cK y, cB y, (1, tS (cT y), tU (cT y), tW (cT y)))
end
section
variable {E : EV} {G : GH} {Post : Res → GH → Prop} {m : Nat} {B : Nat → Nat} {th : Int32} {y : XS} {Jd : List Nat} {JK : Nat}
def RTk (y : XS) (Jd : List Nat) : Prop := UQ (gWi (cN y)) ∧ (kL (cK y)).length + (gWi (cN y)).length + 20 ≤ 3890 ∧ (gWi (cN y)).length + 8 ≤ 989 ∧ (∀ s, s < 3 → ¬ (-1 : Int32) < -1 - sSl (cS y) s) ∧ ∀ s, s < 3 → gTk (cN y) s < gOf (cN y) s → ∀ v, (sEv (cS y) s)[gTk (cN y) s]? = some v → (s < 2 → Jd.length < 80) ∧ (¬ cJ y 0 = 2 → StepOK (cJ y 2) (cJ y 1) (cJ y 3) (gMk (cN y)) v.1) ∧ (cJ y 0 = 2 → GapOK (cJ y) v (gWi (cN y))) ∧ ∀ W' Rr n, AdR (cJ y) v (gMk (cN y)) (gWi (cN y)) W' Rr n → (kL (cK y) ++ Rr).length + W'.length ≤ 3900
end
section
variable {E : EV} {G : GH} {Post : Res → GH → Prop} {m : Nat} {B : Nat → Nat} {th : Int32} {y : XS} {Jd : List Nat} {JK : Nat}
def isAll (f : Nat → Int32) : Prop := ¬ f 0 = 0 ∧ ¬ f 1 = 0 ∧ ¬ f 2 = 0
end
section
variable {E : EV} {G : GH} {Post : Res → GH → Prop} {m : Nat} {B : Nat → Nat} {th : Int32} {y : XS} {Jd : List Nat} {JK : Nat}
def rTb3 (y : XS) (s : Nat) : XS := setB y (bA (cB y), up1 (bT (cB y)) s 1, bU (cB y))
end
section
variable {E : EV} {G : GH} {Post : Res → GH → Prop} {m : Nat} {B : Nat → Nat} {th : Int32} {y : XS} {Jd : List Nat} {JK : Nat}
def rTb4 (y : XS) (s : Nat) : XS := rSnap (setB y (bA (cB y), up1 (bT (cB y)) s 1, 0)) (bA (cB y))
end
