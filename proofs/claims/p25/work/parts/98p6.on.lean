/-! p25: the law's wrapper `on`, over `asks` -/
section ON25
variable {E : EV} {G : GH} {Post : Res → GH → Prop} {o A : Nat → Nat} {x : XS} {p : Nat}
def exV (X : String) : Int32 := if X = xIO then -11 else if X = xIA then -12 else -13
theorem he_IO : HE2 m_La_on 8 xIO (-11) := by
  refine ⟨[], _, _, _, rfl, ?_, by decide +kernel, by decide, kh_La_IO, by decide, 6, -11, by decide, by decide, d_La_on_12, d_La_on_14, d_La_on_16⟩
  exact fun _ h => nomatch h
theorem he_IA : HE2 m_La_on 8 xIA (-12) := by
  refine ⟨[_], _, _, _, rfl, ?_, by decide +kernel, by decide, kh_La_IA, by decide, 6, -12, by decide, by decide, d_La_on_17, d_La_on_19, d_La_on_21⟩
  exact fun z hz => by
    simp only [List.mem_cons, List.not_mem_nil, or_false] at hz
    rw [hz]
    exact Or.inr ⟨by decide, _, kh_La_IO, by decide⟩
theorem he_IS : HE2 m_La_on 8 xIS (-13) := by
  refine ⟨[_, _], _, _, _, rfl, ?_, by decide +kernel, by decide, kh_La_IS, by decide, 6, -13, by decide, by decide, d_La_on_22, d_La_on_24, d_La_on_26⟩
  exact fun z hz => by
    simp only [List.mem_cons, List.not_mem_nil, or_false] at hz
    rcases hz with hz | hz
    · rw [hz]
      exact Or.inr ⟨by decide, _, kh_La_IO, by decide⟩
    · rw [hz]
      exact Or.inr ⟨by decide, _, kh_La_IA, by decide⟩
theorem exV_IO : exV xIO = -11 := if_pos rfl
theorem exV_IA : exV xIA = -12 := (if_neg (by decide)).trans (if_pos rfl)
theorem exV_IS : exV xIS = -13 := (if_neg (by decide)).trans (if_neg (by decide))
def onV (nm : List String) (f : OU) : Int32 := match f.1 with
  | 0 => f.2.1
  | n + 1 => exV (nm.getD n "")
abbrev KO (E : EV) (A : Nat → Nat) (G : GH) (o : Nat → Nat) (p : Nat) (Post : Res → GH → Prop) (nm : List String) (f : OU) : Prop :=
  ∀ G' o' p', StS E G' o' A f.2.2 p' → FrC A G o G' o' → Cs G p G' (p' + 1) → Post (.inl (some (.int (onV nm f)))) G'
abbrev LOn : List (Option Value) := [none, none, none, none, none, none, none]
abbrev LAs : List (Option Value) := [none, none, none, none, none, none]
abbrev P1 (E : EV) (Post : Res → GH → Prop) : Res → GH → Prop := aftH2 E 14 m_La_on 8 LOn [] Post
def NmOK (nm : List String) : Prop := ∀ n, n < nm.length → HE2 m_La_on 8 (nm.getD n "") (exV (nm.getD n ""))
theorem nm3 : NmOK [xIO, xIA, xIS] := fun n hn => match n, hn with
  | 0, _ => by show HE2 m_La_on 8 xIO (exV xIO); rw [exV_IO]; exact he_IO
  | 1, _ => by show HE2 m_La_on 8 xIA (exV xIA); rw [exV_IA]; exact he_IA
  | 2, _ => by show HE2 m_La_on 8 xIS (exV xIS); rw [exV_IS]; exact he_IS
  | n + 3, hn => absurd hn (by simp)
theorem nm2 : NmOK [xIO, xIS] := fun n hn => match n, hn with
  | 0, _ => by show HE2 m_La_on 8 xIO (exV xIO); rw [exV_IO]; exact he_IO
  | 1, _ => by show HE2 m_La_on 8 xIS (exV xIS); rw [exV_IS]; exact he_IS
  | n + 2, hn => absurd hn (by simp)
theorem nm2' : NmOK [xIA, xIS] := fun n hn => match n, hn with
  | 0, _ => by show HE2 m_La_on 8 xIA (exV xIA); rw [exV_IA]; exact he_IA
  | 1, _ => by show HE2 m_La_on 8 xIS (exV xIS); rw [exV_IS]; exact he_IS
  | n + 2, hn => absurd hn (by simp)
theorem nm1 : NmOK [xIS] := fun n hn => match n, hn with
  | 0, _ => by show HE2 m_La_on 8 xIS (exV xIS); rw [exV_IS]; exact he_IS
  | n + 1, hn => absurd hn (by simp)
theorem nm1' : NmOK [xIO] := fun n hn => match n, hn with
  | 0, _ => by show HE2 m_La_on 8 xIO (exV xIO); rw [exV_IO]; exact he_IO
  | n + 1, hn => absurd hn (by simp)
/-- behind a call of the class, in `asks` -/
theorem asks_T {G' : GH} {f : OU} {nm : List String} {pc : Nat} (hn : NmOK nm) (hf : f.1 ≤ nm.length) (hJ : ∀ a, P1 E Post (.inl (some (.int a))) G' → J E 13 m_La_asks (pc + 3) LAs [.int a] G' (P1 E Post)) (k : Post (.inl (some (.int (onV nm f)))) G') : aft E 13 m_La_asks pc LAs [] (P1 E Post) (ouT nm f) G' := by
  obtain ⟨c, a, x'⟩ := f
  cases c with
  | zero => exact hJ a (wp_La_on_11 a k)
  | succ n => exact ⟨exV (nm.getD n ""), hn n hf, k⟩
theorem on_enter {w a b c d : Int32} (H : Cl E 13 m_La_asks [.ref (A 0), .int w, .int a, .int b, .int c, .int d] G (P1 E Post)) : Cl E 14 m_La_on [.ref (A 0), .int w, .int a, .int b, .int c, .int d] G Post :=
  j_enter (L := [some (.ref (A 0)), some (.int w), some (.int a), some (.int b), some (.int c), some (.int d), none]) me_La_on (cat_c rfl (cat_c rfl (cat_c rfl (cat_c rfl (cat_c rfl (cat_c rfl cat_n)))))) (Nat.le_of_ble_eq_true rfl) rfl (wp_La_on_0 (A 0) w a b c d H)
theorem as_enter {w a b c d : Int32} {Q : Res → GH → Prop} (H : J E 13 m_La_asks 0 [some (.ref (A 0)), some (.int w), some (.int a), some (.int b), some (.int c), some (.int d)] [] G Q) : Cl E 13 m_La_asks [.ref (A 0), .int w, .int a, .int b, .int c, .int d] G Q :=
  j_enter (L := [some (.ref (A 0)), some (.int w), some (.int a), some (.int b), some (.int c), some (.int d)]) me_La_asks (cat_c rfl (cat_c rfl (cat_c rfl (cat_c rfl (cat_c rfl (cat_c rfl cat_n)))))) (Nat.le_of_ble_eq_true rfl) rfl H
theorem i21 : ¬ (2 : Int32) = 1 := by decide +kernel
theorem i20 : ¬ (2 : Int32) = 0 := by decide +kernel
theorem i32_ne {a b : Int32} (h : ¬ a.toInt = b.toInt) : ¬ a = b := fun z => h (by rw [z])
theorem fTb_le {s : Nat} : (fTb x s).1 ≤ 2 := by
  unfold fTb
  split <;> simp
theorem fEv_le {s : Nat} : (fEv x s).1 ≤ 2 := by
  unfold fEv
  split <;> simp
theorem fTake_le {q : Int32} : (fTake x q).1 ≤ 2 := by
  unfold fTake
  repeat' split
  all_goals first | exact fTb_le | exact fEv_le | simp
theorem fAppend_le {q t kk v : Int32} : (fAppend x q t kk v).1 ≤ 3 := by
  unfold fAppend
  repeat' split
  all_goals simp
theorem fRead_le {q : Int32} : (fRead x q).1 ≤ 2 := by
  unfold fRead
  repeat' split
  all_goals simp
theorem fBarrier_le : (fBarrier x).1 ≤ 1 := by
  unfold fBarrier
  repeat' split
  all_goals simp
theorem fConfirm_le : (fConfirm x).1 ≤ 1 := by
  unfold fConfirm
  repeat' split
  all_goals simp
theorem fWorkers_le {q : Int32} : (fWorkers x q).1 ≤ 2 := by
  unfold fWorkers
  repeat' split
  all_goals simp
theorem fOpen_le {q : Int32} : (fOpen x q).1 ≤ 1 := by
  unfold fOpen
  repeat' split
  all_goals simp
theorem on_append {q t kk v : Int32} (hA : InjA A) (h : StS E G o A x p) (hz : ∀ j, j < 34 → A j < gz G) (k : KO E A G o p Post [xIO, xIA, xIS] (fAppend x q t kk v)) : Cl E 14 m_La_on [.ref (A 0), .int 0, .int q, .int t, .int kk, .int v] G Post :=
  on_enter (as_enter (wp_La_asks_0 _ _ _ _ _ _ ⟨fun z => absurd rfl z, fun _ => ⟨h.tg0, c_append hA h hz (fun G' o' p' y1 y2 y3 => asks_T nm3 fAppend_le (fun a H => wp_La_asks_14 a (wp_La_asks_85 a H)) (k G' o' p' y1 y2 y3))⟩⟩))
theorem on_read {q b c d : Int32} (hA : InjA A) (h : StS E G o A x p) (hb : ∀ s, s < 3 → gTk (cN x) s ≤ gOf (cN x) s ∧ gOf (cN x) s ≤ 1000) (k : KO E A G o p Post [xIO, xIS] (fRead x q)) : Cl E 14 m_La_on [.ref (A 0), .int 1, .int q, .int b, .int c, .int d] G Post :=
  on_enter (as_enter (wp_La_asks_0 _ _ _ _ _ _ ⟨fun _ => ⟨fun z => absurd rfl z, fun _ => ⟨h.tg0, c_read hA h hb (fun G' o' p' y1 y2 y3 => asks_T nm2 fRead_le (fun a H => wp_La_asks_27 a (wp_La_asks_85 a H)) (k G' o' p' y1 y2 y3))⟩⟩, fun z => absurd z (by decide +kernel)⟩))
theorem on_take {q b c d : Int32} (hA : InjA A) (h : StS E G o A x p) (hK : TkOK x) (k : KO E A G o p Post [xIO, xIS] (fTake x q)) : Cl E 14 m_La_on [.ref (A 0), .int 2, .int q, .int b, .int c, .int d] G Post :=
  on_enter (as_enter (wp_La_asks_0 _ _ _ _ _ _ ⟨fun _ => ⟨fun _ => ⟨fun z => absurd rfl z, fun _ => ⟨h.tg0, c_take hA h hK (fun G' o' p' y1 y2 y3 => asks_T nm2 fTake_le (fun a H => wp_La_asks_40 a (wp_La_asks_85 a H)) (k G' o' p' y1 y2 y3))⟩⟩, fun z => absurd z (by decide +kernel)⟩, fun z => absurd z (by decide +kernel)⟩))
theorem on_barrier {a b c d : Int32} (hA : InjA A) (h : StS E G o A x p) (h5 : cJ x 5 = 0 ∨ cJ x 5 = 1) (k : KO E A G o p Post [xIS] (fBarrier x)) : Cl E 14 m_La_on [.ref (A 0), .int 3, .int a, .int b, .int c, .int d] G Post :=
  on_enter (as_enter (wp_La_asks_0 _ _ _ _ _ _ ⟨fun _ => ⟨fun _ => ⟨fun _ => ⟨fun z => absurd rfl z, fun _ => ⟨h.tg0, c_barrier hA h h5 (fun G' o' p' y1 y2 y3 => asks_T nm1 fBarrier_le (fun a H => wp_La_asks_52 a (wp_La_asks_85 a H)) (k G' o' p' y1 y2 y3))⟩⟩, fun z => absurd z (by decide +kernel)⟩, fun z => absurd z (by decide +kernel)⟩, fun z => absurd z (by decide +kernel)⟩))
theorem on_confirm {a b c d : Int32} (hA : InjA A) (h : StS E G o A x p) (k : KO E A G o p Post [xIS] (fConfirm x)) : Cl E 14 m_La_on [.ref (A 0), .int 4, .int a, .int b, .int c, .int d] G Post :=
  on_enter (as_enter (wp_La_asks_0 _ _ _ _ _ _ ⟨fun _ => ⟨fun _ => ⟨fun _ => ⟨fun _ => ⟨fun z => absurd rfl z, fun _ => ⟨h.tg0, c_confirm hA h (fun G' o' p' y1 y2 y3 => asks_T nm1 fConfirm_le (fun a H => wp_La_asks_64 a (wp_La_asks_85 a H)) (k G' o' p' y1 y2 y3))⟩⟩, fun z => absurd z (by decide +kernel)⟩, fun z => absurd z (by decide +kernel)⟩, fun z => absurd z (by decide +kernel)⟩, fun z => absurd z (by decide +kernel)⟩))
theorem on_workers {q b c d : Int32} (hA : InjA A) (h : StS E G o A x p) (hk : kP (cK x) ≤ (kL (cK x)).length) (hh : gHl (cP x) ≤ 2999) (hn : kP (cK x) + (gWi (cP x)).length ≤ 2900) (k : KO E A G o p Post [xIA, xIS] (fWorkers x q)) : Cl E 14 m_La_on [.ref (A 0), .int 5, .int q, .int b, .int c, .int d] G Post :=
  on_enter (as_enter (wp_La_asks_0 _ _ _ _ _ _ ⟨fun _ => ⟨fun _ => ⟨fun _ => ⟨fun _ => ⟨fun _ => ⟨fun z => absurd rfl z, fun _ => ⟨h.tg0, c_workers hA h hk hh hn (fun G' o' p' y1 y2 y3 => asks_T nm2' fWorkers_le (fun a H => wp_La_asks_77 a (wp_La_asks_85 a H)) (k G' o' p' y1 y2 y3))⟩⟩, fun z => absurd z (by decide +kernel)⟩, fun z => absurd z (by decide +kernel)⟩, fun z => absurd z (by decide +kernel)⟩, fun z => absurd z (by decide +kernel)⟩, fun z => absurd z (by decide +kernel)⟩))
theorem on_open {q b c d : Int32} (hA : InjA A) (h : StS E G o A x p) (k : KO E A G o p Post [xIO] (fOpen x q)) : Cl E 14 m_La_on [.ref (A 0), .int 6, .int q, .int b, .int c, .int d] G Post :=
  on_enter (as_enter (wp_La_asks_0 _ _ _ _ _ _ ⟨fun _ => ⟨fun _ => ⟨fun _ => ⟨fun _ => ⟨fun _ => ⟨fun _ => ⟨h.tg0, c_open hA h (fun G' o' p' y1 y2 y3 => asks_T nm1' fOpen_le (fun a H => wp_La_asks_85 a H) (k G' o' p' y1 y2 y3))⟩, fun z => absurd z (by decide +kernel)⟩, fun z => absurd z (by decide +kernel)⟩, fun z => absurd z (by decide +kernel)⟩, fun z => absurd z (by decide +kernel)⟩, fun z => absurd z (by decide +kernel)⟩, fun z => absurd z (by decide +kernel)⟩))
end ON25
