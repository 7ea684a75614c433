section LAWX
variable {E : EV} {G : GH} {Post : Res → GH → Prop} {o A : Nat → Nat} {x : XS} {p : Nat}
theorem fTb_le {s : Nat} : (fTb x s).1 ≤ 2 := by
  unfold fTb
  split <;> simp
theorem fEv_le {s : Nat} : (fEv x s).1 ≤ 2 := by
  unfold fEv
  split <;> simp
theorem fTake_le {q : Int32} : (fTake x q).1 ≤ 2 := by
  unfold fTake
  repeat' split
  all_goals first | exact fTb_le | exact fEv_le | simp
theorem l_slack {q v : Int32} (hA : InjA A) (h : StS E G o A x p) (hO : OutR G o A)  (k : KL E A G o p Post (fSlack x q v)) : Cl E 3 m_La_slack [.ref (A 0), .int q, .int v, .ref (A 32)] G Post :=
  j_enter (L := [some (.ref (A 0)), some (.int q), some (.int v), some (.ref (A 32)), none]) me_La_slack (cat_c rfl (cat_c rfl (cat_c rfl (cat_c rfl cat_n)))) (Nat.le_of_ble_eq_true rfl) rfl (wp_La_slack_0 (A 0) q v (A 32) ⟨h.tg0, c_slack hA h (fun G' o' p' y1 y2 y3 => lawT (nm := [xIO, xIA, xIS]) hA hO k y1 y2 y3 fSlack_le (fun a _ _ H => wp_La_slack_8 (A 32) 0 a H) (fun n hn => match n, hn with | 0, _ => he_La_slack_1 | 1, _ => he_La_slack_2 | 2, _ => he_La_slack_3 | n + 3, hn => absurd hn (by simp)))⟩)
theorem l_append {q t kk v : Int32} (hA : InjA A) (h : StS E G o A x p) (hO : OutR G o A) (hz : ∀ j, j < 34 → A j < gz G) (k : KL E A G o p Post (fAppend x q t kk v)) : Cl E 8 m_La_append [.ref (A 0), .int q, .int t, .int kk, .int v, .ref (A 32)] G Post :=
  j_enter (L := [some (.ref (A 0)), some (.int q), some (.int t), some (.int kk), some (.int v), some (.ref (A 32)), none]) me_La_append (cat_c rfl (cat_c rfl (cat_c rfl (cat_c rfl (cat_c rfl (cat_c rfl cat_n)))))) (Nat.le_of_ble_eq_true rfl) rfl (wp_La_append_0 (A 0) q t kk v (A 32) ⟨h.tg0, c_append hA h hz (fun G' o' p' y1 y2 y3 => lawT (nm := [xIO, xIA, xIS]) hA hO k y1 y2 y3 fAppend_le (fun a _ _ H => wp_La_append_12 (A 32) 0 a H) (fun n hn => match n, hn with | 0, _ => he_La_append_1 | 1, _ => he_La_append_2 | 2, _ => he_La_append_3 | n + 3, hn => absurd hn (by simp)))⟩)
theorem l_read {q : Int32} (hA : InjA A) (h : StS E G o A x p) (hO : OutR G o A) (hb : ∀ s, s < 3 → gTk (cN x) s ≤ gOf (cN x) s ∧ gOf (cN x) s ≤ 1000) (k : KL E A G o p Post (fRead x q)) : Cl E 3 m_La_read [.ref (A 0), .int q, .ref (A 32)] G Post :=
  j_enter (L := [some (.ref (A 0)), some (.int q), some (.ref (A 32)), none]) me_La_read (cat_c rfl (cat_c rfl (cat_c rfl cat_n))) (Nat.le_of_ble_eq_true rfl) rfl (wp_La_read_0 (A 0) q (A 32) ⟨h.tg0, c_read hA h hb (fun G' o' p' y1 y2 y3 => lawT (nm := [xIO, xIS]) hA hO k y1 y2 y3 fRead_le (fun a _ _ H => wp_La_read_7 (A 32) 0 a H) (fun n hn => match n, hn with | 0, _ => he_La_read_1 | 1, _ => he_La_read_2 | n + 2, hn => absurd hn (by simp)))⟩)
theorem l_take {q : Int32} (hA : InjA A) (h : StS E G o A x p) (hO : OutR G o A) (hK : TkOK x) (k : KL E A G o p Post (fTake x q)) : Cl E 13 m_La_take [.ref (A 0), .int q, .ref (A 32)] G Post :=
  j_enter (L := [some (.ref (A 0)), some (.int q), some (.ref (A 32)), none]) me_La_take (cat_c rfl (cat_c rfl (cat_c rfl cat_n))) (Nat.le_of_ble_eq_true rfl) rfl (wp_La_take_0 (A 0) q (A 32) ⟨h.tg0, c_take hA h hK (fun G' o' p' y1 y2 y3 => lawT (nm := [xIO, xIS]) hA hO k y1 y2 y3 fTake_le (fun a _ _ H => wp_La_take_7 (A 32) 0 a H) (fun n hn => match n, hn with | 0, _ => he_La_take_1 | 1, _ => he_La_take_2 | n + 2, hn => absurd hn (by simp)))⟩)
theorem l_barrier (hA : InjA A) (h : StS E G o A x p) (hO : OutR G o A) (h5 : cJ x 5 = 0 ∨ cJ x 5 = 1) (k : KL E A G o p Post (fBarrier x)) : Cl E 11 m_La_barrier [.ref (A 0), .ref (A 32)] G Post :=
  j_enter (L := [some (.ref (A 0)), some (.ref (A 32)), none]) me_La_barrier (cat_c rfl (cat_c rfl cat_n)) (Nat.le_of_ble_eq_true rfl) rfl (wp_La_barrier_0 (A 0) (A 32) ⟨h.tg0, c_barrier hA h h5 (fun G' o' p' y1 y2 y3 => lawT (nm := [xIS]) hA hO k y1 y2 y3 fBarrier_le (fun a _ _ H => wp_La_barrier_6 (A 32) 0 a H) (fun n hn => match n, hn with | 0, _ => he_La_barrier_1 | n + 1, hn => absurd hn (by simp)))⟩)
theorem l_confirm (hA : InjA A) (h : StS E G o A x p) (hO : OutR G o A)  (k : KL E A G o p Post (fConfirm x)) : Cl E 3 m_La_confirm [.ref (A 0), .ref (A 32)] G Post :=
  j_enter (L := [some (.ref (A 0)), some (.ref (A 32)), none]) me_La_confirm (cat_c rfl (cat_c rfl cat_n)) (Nat.le_of_ble_eq_true rfl) rfl (wp_La_confirm_0 (A 0) (A 32) ⟨h.tg0, c_confirm hA h (fun G' o' p' y1 y2 y3 => lawT (nm := [xIS]) hA hO k y1 y2 y3 fConfirm_le (fun a _ _ H => wp_La_confirm_6 (A 32) 0 a H) (fun n hn => match n, hn with | 0, _ => he_La_confirm_1 | n + 1, hn => absurd hn (by simp)))⟩)
theorem l_workers {q : Int32} (hA : InjA A) (h : StS E G o A x p) (hO : OutR G o A) (hk : kP (cK x) ≤ (kL (cK x)).length) (hh : gHl (cP x) ≤ 2999) (hn : kP (cK x) + (gWi (cP x)).length ≤ 2900) (k : KL E A G o p Post (fWorkers x q)) : Cl E 12 m_La_workers [.ref (A 0), .int q, .ref (A 32)] G Post :=
  j_enter (L := [some (.ref (A 0)), some (.int q), some (.ref (A 32)), none]) me_La_workers (cat_c rfl (cat_c rfl (cat_c rfl cat_n))) (Nat.le_of_ble_eq_true rfl) rfl (wp_La_workers_0 (A 0) q (A 32) ⟨h.tg0, c_workers hA h hk hh hn (fun G' o' p' y1 y2 y3 => lawT (nm := [xIA, xIS]) hA hO k y1 y2 y3 fWorkers_le (fun a _ _ H => wp_La_workers_7 (A 32) 0 a H) (fun n hn => match n, hn with | 0, _ => he_La_workers_1 | 1, _ => he_La_workers_2 | n + 2, hn => absurd hn (by simp)))⟩)
theorem l_sourceWatermark {q : Int32} (hA : InjA A) (h : StS E G o A x p) (hO : OutR G o A)  (k : KL E A G o p Post (fSourceWatermark x q)) : Cl E 3 m_La_sourceWatermark [.ref (A 0), .int q, .ref (A 32)] G Post :=
  j_enter (L := [some (.ref (A 0)), some (.int q), some (.ref (A 32)), none]) me_La_sourceWatermark (cat_c rfl (cat_c rfl (cat_c rfl cat_n))) (Nat.le_of_ble_eq_true rfl) rfl (wp_La_sourceWatermark_0 (A 0) q (A 32) ⟨h.tg0, c_sourceWatermark hA h (fun G' o' p' y1 y2 y3 => lawT (nm := [xIO]) hA hO k y1 y2 y3 fSourceWatermark_le (fun a _ _ H => wp_La_sourceWatermark_7 (A 32) 0 a H) (fun n hn => match n, hn with | 0, _ => he_La_sourceWatermark_1 | n + 1, hn => absurd hn (by simp)))⟩)
theorem l_offset {q : Int32} (hA : InjA A) (h : StS E G o A x p) (hO : OutR G o A)  (k : KL E A G o p Post (fOffset x q)) : Cl E 3 m_La_offset [.ref (A 0), .int q, .ref (A 32)] G Post :=
  j_enter (L := [some (.ref (A 0)), some (.int q), some (.ref (A 32)), none]) me_La_offset (cat_c rfl (cat_c rfl (cat_c rfl cat_n))) (Nat.le_of_ble_eq_true rfl) rfl (wp_La_offset_0 (A 0) q (A 32) ⟨h.tg0, c_offset hA h (fun G' o' p' y1 y2 y3 => lawT (nm := [xIO]) hA hO k y1 y2 y3 fOffset_le (fun a _ _ H => wp_La_offset_7 (A 32) 0 a H) (fun n hn => match n, hn with | 0, _ => he_La_offset_1 | n + 1, hn => absurd hn (by simp)))⟩)
theorem l_inChannel {q : Int32} (hA : InjA A) (h : StS E G o A x p) (hO : OutR G o A)  (k : KL E A G o p Post (fInChannel x q)) : Cl E 3 m_La_inChannel [.ref (A 0), .int q, .ref (A 32)] G Post :=
  j_enter (L := [some (.ref (A 0)), some (.int q), some (.ref (A 32)), none]) me_La_inChannel (cat_c rfl (cat_c rfl (cat_c rfl cat_n))) (Nat.le_of_ble_eq_true rfl) rfl (wp_La_inChannel_0 (A 0) q (A 32) ⟨h.tg0, c_inChannel hA h (fun G' o' p' y1 y2 y3 => lawT (nm := [xIO]) hA hO k y1 y2 y3 fInChannel_le (fun a _ _ H => wp_La_inChannel_7 (A 32) 0 a H) (fun n hn => match n, hn with | 0, _ => he_La_inChannel_1 | n + 1, hn => absurd hn (by simp)))⟩)
theorem l_open {q : Int32} (hA : InjA A) (h : StS E G o A x p) (hO : OutR G o A)  (k : KL E A G o p Post (fOpen x q)) : Cl E 5 m_La_open [.ref (A 0), .int q, .ref (A 32)] G Post :=
  j_enter (L := [some (.ref (A 0)), some (.int q), some (.ref (A 32)), none]) me_La_open (cat_c rfl (cat_c rfl (cat_c rfl cat_n))) (Nat.le_of_ble_eq_true rfl) rfl (wp_La_open_0 (A 0) q (A 32) ⟨h.tg0, c_open hA h (fun G' o' p' y1 y2 y3 => lawT (nm := [xIO]) hA hO k y1 y2 y3 fOpen_le (fun a _ _ H => wp_La_open_7 (A 32) 0 a H) (fun n hn => match n, hn with | 0, _ => he_La_open_1 | n + 1, hn => absurd hn (by simp)))⟩)
theorem l_sumAt {q t : Int32} (hA : InjA A) (h : StS E G o A x p) (hO : OutR G o A)  (k : KL E A G o p Post (fSumAt x q t)) : Cl E 5 m_La_sumAt [.ref (A 0), .int q, .int t, .ref (A 32)] G Post :=
  j_enter (L := [some (.ref (A 0)), some (.int q), some (.int t), some (.ref (A 32)), none]) me_La_sumAt (cat_c rfl (cat_c rfl (cat_c rfl (cat_c rfl cat_n)))) (Nat.le_of_ble_eq_true rfl) rfl (wp_La_sumAt_0 (A 0) q t (A 32) ⟨h.tg0, c_sumAt hA h (fun G' o' p' y1 y2 y3 => lawT (nm := [xIO, xIA]) hA hO k y1 y2 y3 fSumAt_le (fun a _ _ H => wp_La_sumAt_8 (A 32) 0 a H) (fun n hn => match n, hn with | 0, _ => he_La_sumAt_1 | 1, _ => he_La_sumAt_2 | n + 2, hn => absurd hn (by simp)))⟩)
theorem l_result {q s w : Int32} (hA : InjA A) (h : StS E G o A x p) (hO : OutR G o A) (hc : kC (cK x) ≤ (kL (cK x)).length) (k : KL E A G o p Post (fResult x q s w)) : Cl E 6 m_La_result [.ref (A 0), .int q, .int s, .int w, .ref (A 32)] G Post :=
  j_enter (L := [some (.ref (A 0)), some (.int q), some (.int s), some (.int w), some (.ref (A 32)), none]) me_La_result (cat_c rfl (cat_c rfl (cat_c rfl (cat_c rfl (cat_c rfl cat_n))))) (Nat.le_of_ble_eq_true rfl) rfl (wp_La_result_0 (A 0) q s w (A 32) ⟨h.tg0, c_result hA h hc (fun G' o' p' y1 y2 y3 => lawT (nm := [xIO, xIA]) hA hO k y1 y2 y3 fResult_le (fun a _ _ H => wp_La_result_10 (A 32) 0 a H) (fun n hn => match n, hn with | 0, _ => he_La_result_1 | 1, _ => he_La_result_2 | n + 2, hn => absurd hn (by simp)))⟩)
theorem l_resultAnew {q s w : Int32} (hA : InjA A) (h : StS E G o A x p) (hO : OutR G o A) (hc : hC (cH x) ≤ (hL (cH x)).length) (k : KL E A G o p Post (fResultAnew x q s w)) : Cl E 8 m_La_resultAnew [.ref (A 0), .int q, .int s, .int w, .ref (A 32)] G Post :=
  j_enter (L := [some (.ref (A 0)), some (.int q), some (.int s), some (.int w), some (.ref (A 32)), none]) me_La_resultAnew (cat_c rfl (cat_c rfl (cat_c rfl (cat_c rfl (cat_c rfl cat_n))))) (Nat.le_of_ble_eq_true rfl) rfl (wp_La_resultAnew_0 (A 0) q s w (A 32) ⟨h.tg0, c_resultAnew hA h hc (fun G' o' p' y1 y2 y3 => lawT (nm := [xIO, xIA]) hA hO k y1 y2 y3 fResultAnew_le (fun a _ _ H => wp_La_resultAnew_10 (A 32) 0 a H) (fun n hn => match n, hn with | 0, _ => he_La_resultAnew_1 | 1, _ => he_La_resultAnew_2 | n + 2, hn => absurd hn (by simp)))⟩)
theorem l_idle {q v : Int32} (hA : InjA A) (h : StS E G o A x p) (hO : OutR G o A) (hv : v = 0 ∨ v = 1) (hid : ∀ s, s < 3 → sId (cS x) s = 0 ∨ sId (cS x) s = 1) (hn : (kL (cK x)).length + (gWi (cN x)).length ≤ 2900) (k : KL E A G o p Post (fIdle x q v)) : Cl E 11 m_La_idle [.ref (A 0), .int q, .int v, .ref (A 32)] G Post := by
  have hle : (fIdle x q v).1 ≤ 1 := by
    unfold fIdle
    repeat' split
    all_goals simp
  have h01 : (fIdle x q v).1 = 0 → (fIdle x q v).2.1 = 0 ∨ (fIdle x q v).2.1 = 1 := by
    unfold fIdle
    by_cases c : sIx q < 3
    · rw [if_pos c]; exact fun _ => hid _ c
    · rw [if_neg c]; exact fun _ => Or.inl rfl
  exact j_enter (L := [some (.ref (A 0)), some (.int q), some (.int v), some (.ref (A 32)), none]) me_La_idle (cat_c rfl (cat_c rfl (cat_c rfl (cat_c rfl cat_n)))) (Nat.le_of_ble_eq_true rfl) rfl (wp_La_idle_0 (A 0) q v (A 32) ⟨h.tg0, c_idle hA h hv hid hn (fun G' o' p' y1 y2 y3 => lawT (nm := [xIO]) hA hO k y1 y2 y3 hle (fun a e1 e2 H => wp_La_idle_8 (A 32) 0 a (by
    rcases h01 e1 with e | e <;> rw [e2] at e <;> subst e
    · exact ⟨fun _ => H, fun z => absurd rfl z⟩
    · exact ⟨fun z => absurd z (by decide +kernel), fun _ => H⟩)) (fun n hn => match n, hn with | 0, _ => he_La_idle_1 | n + 1, hn => absurd hn (by simp)))⟩)
abbrev KW (E : EV) (A : Nat → Nat) (G : GH) (o : Nat → Nat) (p : Nat) (Post : Res → GH → Prop) (f : Nat × XS) : Prop :=
  ∀ G' o' p', StS E G' o' A f.2 p' → FrL A G o G' o' → Cs G p G' (p' + 1) → OutR G' o' A → Post (.inl (some (.int (nI f.1)))) G'
theorem l_job {p1 p2 p3 p4 p5 p6 : Int32} (hA : InjA A) (h : StS E G o A x p) (hO : OutR G o A) (h6 : p6 = 0 ∨ p6 = 1) (k : KW E A G o p Post (fJob x p1 p2 p3 p4 p5 p6)) : Cl E 3 m_La_job [.ref (A 0), .int p1, .int p2, .int p3, .int p4, .int p5, .int p6] G Post := by
  refine j_enter (L := [some (.ref (A 0)), some (.int p1), some (.int p2), some (.int p3), some (.int p4), some (.int p5), some (.int p6), none]) me_La_job (cat_c rfl (cat_c rfl (cat_c rfl (cat_c rfl (cat_c rfl (cat_c rfl (cat_c rfl cat_n))))))) (Nat.le_of_ble_eq_true rfl) rfl (wp_La_job_0 (A 0) p1 p2 p3 p4 p5 p6 ⟨h.tg0, c_job hA h h6 (fun G' o' p' y1 y2 y3 => ?_)⟩)
  have hle : (fJob x p1 p2 p3 p4 p5 p6).1 ≤ 2 := by
    unfold fJob
    repeat' split
    all_goals simp
  have kk := k G' o' p' y1
  generalize fJob x p1 p2 p3 p4 p5 p6 = f at *
  obtain ⟨c, x'⟩ := f
  obtain ⟨S, hS, s⟩ := y2
  have k2 := kk ⟨S, fun j hj => hS j (by simp at hj; simp; omega), s⟩ y3 (hO.stp s)
  match c, hle, k2 with
  | 0, _, k2 => exact wp_La_job_13 k2
  | 1, _, k2 => exact ⟨1, he_La_job_1, k2⟩
  | 2, _, k2 => exact ⟨2, he_La_job_2, k2⟩
end LAWX
