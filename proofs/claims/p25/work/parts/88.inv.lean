/-! the pure part: what holds of the class's state, and how the reference's lies beside it -/
def JOK (jb : Nat → Int32) : Prop := (jb 0 = 0 ∨ jb 0 = 1 ∨ jb 0 = 2) ∧ (1 ≤ (jb 1).toInt ∧ (jb 1).toInt ≤ 200) ∧ (1 ≤ (jb 2).toInt ∧ (jb 2).toInt ≤ (jb 1).toInt ∧ (jb 1).toInt ≤ 8 * (jb 2).toInt) ∧ (0 ≤ (jb 3).toInt ∧ (jb 3).toInt ≤ 200) ∧ (0 ≤ (jb 4).toInt ∧ (jb 4).toInt ≤ 200) ∧ (jb 5 = 0 ∨ jb 5 = 1)
def VOK (v : V3) : Prop := 0 ≤ v.1.toInt ∧ v.1.toInt ≤ 999 ∧ 0 ≤ v.2.1.toInt ∧ v.2.1.toInt ≤ 5
def SOK (sc : SC) : Prop := ∀ s, s < 3 → (sEv sc s).length ≤ 40 ∧ (∀ v ∈ sEv sc s, VOK v) ∧ (0 ≤ (sSl sc s).toInt ∧ (sSl sc s).toInt ≤ 200) ∧ (sId sc s = 0 ∨ sId sc s = 1)
/-- the history, as it was read -/
def hst (x : XS) (n : Nat) : List ET := ((hL (cH x)).take n).map (hE (cS x))
def POK (sc : SC) (h : List (Nat × Nat)) (P : PG) : Prop := (∀ s, s < 3 → gTk P s ≤ gOf P s ∧ gOf P s ≤ (sEv sc s).length ∧ gOf P s ≤ gTk P s + 4) ∧ gHl P = gTk P 0 + gTk P 1 + gTk P 2 ∧ gHl P ≤ h.length ∧ (∀ e ∈ h.take (gHl P), e.1 < 3 ∧ e.2 < gTk P e.1) ∧ ∀ s, s < 3 → ((h.take (gHl P)).filter (fun e => decide (e.1 = s))).length = gTk P s
def WNum (w : WT) : Prop := (0 ≤ (wK w).toInt ∧ (wK w).toInt ≤ 5) ∧ 0 ≤ (wS w).toInt ∧ (wS w).toInt ≤ 999 ∧ (wS w).toInt < (wE w).toInt ∧ (wE w).toInt ≤ 1199 ∧ (wO w = 0 ∨ wO w = 1)
/-- what was told last of every window -/
def Tl (L W : List WT) : Prop := (∀ w ∈ W, ¬ wO w = 0 → lastR (wK w) (wS w) none L = some (setO w 1)) ∧ ∀ k s, (∀ w ∈ W, isW k s w → wO w = 0) → ∀ r, lastR k s none L = some r → wO r = 0
def Dst (jb : Nat → Int32) (H : List ET) (W : List WT) : Prop := (∀ w ∈ W, wE w = wS w + jb 1 ∧ laS (jb 2) (wS w) = wS w ∧ gat (jb 0) (jb 1) (jb 3) (wK w) (wE w) (wK w, wS w, wE w, 0, 0, 0) H = setO w 0) ∧ ∀ k s, 0 ≤ s.toInt → s.toInt ≤ 999 → laS (jb 2) s = s → (∀ w ∈ W, ¬ isW k s w) → gat (jb 0) (jb 1) (jb 3) k (s + jb 1) (k, s, s + jb 1, 0, 0, 0) H = (k, s, s + jb 1, 0, 0, 0)
/-- an event is admitted to a window of the third kind -/
abbrev adG (jb : Nat → Int32) (k : Int32) (e : ET) : Prop := eK e = k ∧ ¬ eT e + jb 1 + jb 3 ≤ eX e
def Dgp (jb : Nat → Int32) (H : List ET) (W : List WT) : Prop :=
  (∀ w ∈ W, (∃ e ∈ H, adG jb (wK w) e ∧ eT e = wS w) ∧ (∀ z : Int32, wS w < z → z < wE w → ∃ e ∈ H, adG jb (wK w) e ∧ eT e < z ∧ z < eT e + jb 1 ∧ wS w ≤ eT e) ∧ gat (jb 0) (jb 1) (jb 3) (wK w) (wE w) (wK w, wS w, wE w, 0, 0, 0) H = setO w 0) ∧
  (∀ e ∈ H, ∀ k, adG jb k e → ∃ w ∈ W, wK w = k ∧ wS w ≤ eT e ∧ eT e + jb 1 ≤ wE w) ∧
  W.Pairwise (fun a b => wK a = wK b → wE a ≤ wS b ∨ wE b ≤ wS a)
def Dsc (jb : Nat → Int32) (H : List ET) (W : List WT) : Prop := (¬ jb 0 = 2 → Dst jb H W) ∧ (jb 0 = 2 → Dgp jb H W)
def nOut (W : List WT) : Nat := (W.filter (fun w => decide (wO w = 0))).length
def WOK (jb : Nat → Int32) (H : List ET) (mk : Int32) (L W : List WT) : Prop := SO W ∧ UQ W ∧ (∀ w ∈ W, WNum w ∧ (¬ wO w = 0 → wE w ≤ mk) ∧ ∃ n, 1 ≤ n ∧ n ≤ H.length ∧ wC w = nI n) ∧ Dsc jb H W ∧ Tl L W ∧ L.length + nOut W + W.length ≤ 16 * H.length ∧ W.length ≤ 8 * H.length
def OutD (W : List WT) (mk : Int32) : Prop := ∀ w ∈ W, wE w ≤ mk → ¬ wO w = 0
def CA (x : XS) : Prop := ∀ q s w : Int32, 0 ≤ s.toInt → s.toInt ≤ 999 → anw (cJ x) (comH x) (hC (cH x)) (hW (cH x)) q s w = resN w (lastR q s none ((kL (cK x)).take (kC (cK x))))
def BOK (x : XS) : Prop := (∀ s, s < 3 → bA (cB x) s ≤ (sEv (cS x) s).length) ∧ (¬ bU (cB x) = 0 → ∀ s, s < 3 → gTk (cN x) s ≤ bA (cB x) s ∧ bA (cB x) s ≤ gOf (cN x) s ∧ (¬ bT (cB x) s = 0 → bA (cB x) s = gTk (cN x) s))
def Frs (x : XS) : Prop := tB (cT x) = 0 → cN x = P0 ∧ cP x = P0 ∧ cH x = ([], 0, -1) ∧ cK x = ([], 0, 0) ∧ bU (cB x) = 0 ∧ tS (cT x) = 0
def Inv0 (x : XS) : Prop := JOK (cJ x) ∧ SOK (cS x) ∧ POK (cS x) (hL (cH x)) (cN x) ∧ POK (cS x) (hL (cH x)) (cP x) ∧ gHl (cN x) = (hL (cH x)).length ∧ (∀ s, s < 3 → gTk (cP x) s ≤ gTk (cN x) s) ∧
  WOK (cJ x) (hst x (gHl (cN x))) (gMk (cN x)) (kL (cK x)) (gWi (cN x)) ∧ WOK (cJ x) (hst x (gHl (cP x))) (gMk (cP x)) ((kL (cK x)).take (kP (cK x))) (gWi (cP x)) ∧ OutD (gWi (cP x)) (gMk (cP x)) ∧
  CA x ∧ gPa (cN x) = cntA (cJ x 4) 0 [] (hst x (gHl (cN x))) ∧ gPa (cP x) = cntA (cJ x 4) 0 [] (hst x (gHl (cP x))) ∧
  (kC (cK x) ≤ kP (cK x) ∧ kP (cK x) ≤ (kL (cK x)).length ∧ hC (cH x) ≤ gHl (cP x)) ∧ BOK x ∧ Frs x ∧ (tW (cT x) = 1 ∨ tW (cT x) = 2 ∨ tW (cT x) = 3)
def Inv (x : XS) : Prop := Inv0 x ∧ OutD (gWi (cN x)) (gMk (cN x))
/-! the reference beside it -/
abbrev fK (k s : Int32) (L : List WT) : List WT := L.filter (fun w => decide (isW k s w))
def REq (L M : List WT) : Prop := L.length = M.length ∧ ∀ k s, fK k s L = fK k s M
def RelP (P Q : PG) : Prop := gOf P = gOf Q ∧ gTk P = gTk Q ∧ gGr P = gGr Q ∧ gMk P = gMk Q ∧ gDr P = gDr Q ∧ (gWi P).Perm (gWi Q)
def RelK (a b : SK) : Prop := kC a = kC b ∧ kP a = kP b ∧ REq (kL a) (kL b) ∧ REq ((kL a).take (kP a)) ((kL b).take (kP b)) ∧ REq ((kL a).take (kC a)) ((kL b).take (kC b))
def jdO (sc : SC) (h : List (Nat × Nat)) : List Nat := (h.filter (fun e => decide (e.1 < 2 ∧ sEm sc e.1 e.2 ≤ ((sEv sc e.1).getD e.2 (0, 0, 0)).1))).map (fun e => 40 * e.1 + e.2)
def Rel (x y : XS) (Jd : List Nat) (JK : Nat) : Prop := cJ x = cJ y ∧ (sEv (cS x) = sEv (cS y) ∧ sSl (cS x) = sSl (cS y) ∧ sId (cS x) = sId (cS y)) ∧ RelP (cN x) (cN y) ∧ RelP (cP x) (cP y) ∧ RelK (cK x) (cK y) ∧ (bU (cB x) = bU (cB y) ∧ (¬ bU (cB x) = 0 → bA (cB x) = bA (cB y) ∧ bT (cB x) = bT (cB y)) ∧ ∀ s, s < 3 → bA (cB y) s ≤ (sEv (cS x) s).length) ∧ cT x = cT y ∧ Jd = jdO (cS x) (hL (cH x)) ∧ JK = (jdO (cS x) ((hL (cH x)).take (gHl (cP x)))).length
def RR : RX := fun x y Jd JK => Inv x ∧ Rel x y Jd JK
section PURE1
theorem fK_perm {k s : Int32} {L M : List WT} (h : L.Perm M) (hu : UQ L) : fK k s L = fK k s M := by
  have p : (fK k s L).Perm (fK k s M) := h.filter _
  have u : (fK k s L).length ≤ 1 := by
    have hp : (fK k s L).Pairwise (fun a b => ¬ (wK a = wK b ∧ wS a = wS b)) := hu.filter _
    match hl : fK k s L with
    | [] => simp
    | [a] => simp
    | a :: b :: l =>
      exfalso
      rw [hl] at hp
      have ha : isW k s a := by
        have : a ∈ fK k s L := by rw [hl]; simp
        simpa using (List.mem_filter.mp this).2
      have hb : isW k s b := by
        have : b ∈ fK k s L := by rw [hl]; simp
        simpa using (List.mem_filter.mp this).2
      exact (List.pairwise_cons.mp hp).1 b (by simp) ⟨ha.1.trans hb.1.symm, ha.2.trans hb.2.symm⟩
  match hl : fK k s L, hm : fK k s M with
  | [], [] => rfl
  | [], b :: m => rw [hl, hm] at p; exact absurd p.length_eq (by simp)
  | a :: l, [] => rw [hl, hm] at p; exact absurd p.length_eq (by simp)
  | a :: l, b :: m =>
    rw [hl] at u
    have e : l = [] := by cases l with | nil => rfl | cons _ _ => simp at u
    subst e
    rw [hl, hm] at p
    exact (List.singleton_perm.mp p)
theorem REq.rf {L : List WT} : REq L L := ⟨rfl, fun _ _ => rfl⟩
theorem REq.perm {L M : List WT} (h : L.Perm M) (hu : UQ L) : REq L M := ⟨h.length_eq, fun _ _ => fK_perm h hu⟩
theorem REq.app {L M L' M' : List WT} (h : REq L M) (h' : REq L' M') : REq (L ++ L') (M ++ M') := ⟨by rw [List.length_append, List.length_append, h.1, h'.1], fun k s => by
  show (L ++ L').filter _ = (M ++ M').filter _
  rw [List.filter_append, List.filter_append]
  exact congr (congrArg _ (h.2 k s)) (h'.2 k s)⟩
theorem REq.tr {L M N : List WT} (h : REq L M) (h' : REq M N) : REq L N := ⟨h.1.trans h'.1, fun k s => (h.2 k s).trans (h'.2 k s)⟩
/-- the last told, by what was told of that window alone -/
theorem lastR_f {k s : Int32} : ∀ (L : List WT) (acc : Option WT), lastR k s acc L = lastR k s acc (fK k s L)
  | [], _ => rfl
  | w :: L, acc => by
    show lastR k s (if isW k s w then some w else acc) L = lastR k s acc ((w :: L).filter _)
    by_cases c : isW k s w
    · rw [if_pos c, List.filter_cons_of_pos (by simpa using c)]
      show _ = lastR k s (if isW k s w then some w else acc) (fK k s L)
      rw [if_pos c]
      exact lastR_f L _
    · rw [if_neg c, List.filter_cons_of_neg (by simpa using c)]
      exact lastR_f L _
theorem REq.last {k s : Int32} {L M : List WT} (h : REq L M) : lastR k s none L = lastR k s none M := by
  rw [lastR_f L, lastR_f M, h.2 k s]
theorem lastR_app {k s : Int32} : ∀ (L M : List WT) (acc : Option WT), lastR k s acc (L ++ M) = lastR k s (lastR k s acc L) M
  | [], _, _ => rfl
  | w :: L, M, acc => lastR_app L M _
theorem lastR_nil {k s : Int32} {acc : Option WT} : ∀ {L : List WT}, (∀ w ∈ L, ¬ isW k s w) → lastR k s acc L = acc
  | [], _ => rfl
  | w :: L, h => by
    show lastR k s (if isW k s w then some w else acc) L = acc
    rw [if_neg (h w (by simp))]
    exact lastR_nil (fun z hz => h z (by simp [hz]))
end PURE1
