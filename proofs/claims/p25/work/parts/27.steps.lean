theorem insS_perm (w : WT) : ∀ L : List WT, (insS w L).Perm (w :: L)
  | [] => List.Perm.refl _
  | x :: L => by
    unfold insS
    by_cases c : ahd x w
    · rw [if_pos c]; exact ((insS_perm w L).cons x).trans (List.Perm.swap w x L)
    · rw [if_neg c]
theorem UQ.perm {L L' : List WT} (h : UQ L) (p : L.Perm L') : UQ L' := (p.pairwise_iff (fun z c => z ⟨c.1.symm, c.2.symm⟩)).mp h
theorem tch_ks (v mk : Int32) (w : WT) : wK (tch v mk w) = wK w ∧ wS (tch v mk w) = wS w ∧ wE (tch v mk w) = wE w := by
  unfold tch
  by_cases c : wO w = 0
  · rw [if_pos c]; exact ⟨rfl, rfl, rfl⟩
  · rw [if_neg c]; exact ⟨rfl, rfl, rfl⟩
theorem UQ.map {f : WT → WT} {L : List WT} (h : UQ L) (hf : ∀ w, wK (f w) = wK w ∧ wS (f w) = wS w) : UQ (L.map f) := by
  refine List.pairwise_map.mpr (h.imp (fun {a b} z c => z ?_))
  rw [(hf a).1, (hf a).2, (hf b).1, (hf b).2] at c
  exact c
theorem UQ.add {k s e v mk : Int32} {L : List WT} (h : UQ L) : UQ (addL k s e v mk L) := by
  unfold addL
  by_cases c : ∃ w ∈ L, isW k s w
  · rw [if_pos c]
    refine h.map (fun w => ?_)
    by_cases d : isW k s w
    · rw [if_pos d]; exact ⟨(tch_ks v mk w).1, (tch_ks v mk w).2.1⟩
    · rw [if_neg d]; exact ⟨rfl, rfl⟩
  · rw [if_neg c]
    refine UQ.perm (L := _ :: L) (List.pairwise_cons.mpr ⟨fun w hw z => c ⟨w, hw, z.1.symm, z.2.symm⟩, h⟩) (insS_perm _ _).symm
/-- one step back, if the event is in the window that begins there -/
def bkS (st sz t x : Int32) : Int32 := if x - st < 0 then x else if x - st + sz ≤ t then x else x - st
def bk (st sz t : Int32) : Nat → Int32 → Int32
  | 0, x => x
  | n + 1, x => bk st sz t n (bkS st sz t x)
/-- the beginnings of the windows to which the event comes -/
def sts (fs la st sz gr mk : Int32) : Nat → Nat → List Int32
  | 0, _ => []
  | m + 1, i => if la < fs + nI i * st then sts fs la st sz gr mk m (i + 1) else if fs + nI i * st + sz + gr ≤ mk then sts fs la st sz gr mk m (i + 1) else (fs + nI i * st) :: sts fs la st sz gr mk m (i + 1)
def addsL (k sz v mk : Int32) : List Int32 → List WT → List WT
  | [], L => L
  | s :: ss, L => addsL k sz v mk ss (addL k s (s + sz) v mk L)
def addsR (k sz v mk : Int32) : List Int32 → List WT → List WT
  | [], _ => []
  | s :: ss, L => addR k s v mk L ++ addsR k sz v mk ss (addL k s (s + sz) v mk L)
def fl1 (c : Int32) : List Int32 → Int32
  | [] => c
  | _ :: _ => 1
theorem c_steps_loop {E : EV} {Post : Res → GH → Prop} {ws lr lp ev jb si ls : Nat} {cm pr kk v mk sz gr st la fs : Int32} (hd : ws ≠ si ∧ ws ≠ ls ∧ lr ≠ si ∧ lr ≠ ls ∧ lp ≠ si ∧ lp ≠ ls) :
    ∀ (m i : Nat) (G : GH) (o : Nat → Nat) (p q n : Nat) (rows spare sr : List Nat) (c : Int32), m + i = 8 → WsR E G o ws lr lp rows spare p → SiR E G o si ls sr cm pr n q → Wf G → gT G ev = 2 → o ev ∉ [ws, lr, lp, si, ls] → gT G jb = 4 → o jb ∉ [ws, lr, lp, si, ls] → gI G 66 ev = kk → gI G 67 ev = v → gI G 68 ev = mk → gI G 193 jb = sz → gI G 194 jb = st → gI G 195 jb = gr → UQ (rows.map (rW G)) → n + 2 * m ≤ 2990 → sr.length ≤ 2990 → rows.length + m ≤ 2990 → (c = 0 ∨ c = 1) →
    (∀ G' o' rows' spare' p' q' n' sr', WsR E G' o' ws lr lp rows' spare' p' → SiR E G' o' si ls sr' cm pr n' q' → rows'.map (rW G') = addsL kk sz v mk (sts fs la st sz gr mk m i) (rows.map (rW G)) → recs G' sr' n' = recs G sr n ++ addsR kk sz v mk (sts fs la st sz gr mk m i) (rows.map (rW G)) → Stq [ws, lr, lp, si, ls] G o G' o' → Cs G (p + q) G' (p' + q') → n ≤ n' → (∀ m, m ≤ n → recs G' sr' m = recs G sr m) → sr'.length ≤ max sr.length n' → rows'.length + spare'.length ≤ max (rows.length + spare.length) (rows.length + m) → Post (.inl (some (.int (fl1 c (sts fs la st sz gr mk m i))))) G') →
    J E 10 m_Ws_admitBySteps 68 [some (.ref ws), some (.ref ev), some (.ref jb), some (.ref si), some (.int la), some (.int fs), some (.int c), some (.int (nI i)), none] [] G Post := by
  intro m
  induction m with
  | zero =>
    intro i G o p q n rows spare sr c hmi hW hS hw hev hoe hjb hoj hk hv hm hsz hst hgr hu hn hl hr hc k
    refine wp_Ws_admitBySteps_68 ws ev jb si la fs c (nI i) ⟨fun _ => ⟨hc, ?_⟩, fun z => absurd (show (8 : Int32) ≤ nI i from nI_le (a := 8) (by omega) (by omega)) z⟩
    exact k G o rows spare p q n sr hW hS rfl (by show _ = _ ++ []; rw [List.append_nil]) (Stq.rf hw) Cs.rf (Nat.le_refl _) (fun _ _ => rfl) (Nat.le_max_left _ _) (Nat.le_max_left _ _)
  | succ m ih =>
    intro i G o p q n rows spare sr c hmi hW hS hw hev hoe hjb hoj hk hv hm hsz hst hgr hu hn hl hr hc k
    refine wp_Ws_admitBySteps_68 ws ev jb si la fs c (nI i) ⟨fun z => absurd z (show ¬ (8 : Int32) ≤ nI i from nI_ge (b := 8) (by omega) (by omega)), fun _ => ⟨hjb, ?_⟩⟩
    rw [hst, hsz, hgr, hm, nI_1]
    have skip : sts fs la st sz gr mk (m + 1) i = sts fs la st sz gr mk m (i + 1) → J E 10 m_Ws_admitBySteps 68 [some (.ref ws), some (.ref ev), some (.ref jb), some (.ref si), some (.int la), some (.int fs), some (.int c), some (.int (nI (i + 1))), none] [] G Post := fun e => by
      rw [e] at k
      exact ih (i + 1) G o p q n rows spare sr c (by omega) hW hS hw hev hoe hjb hoj hk hv hm hsz hst hgr hu (by omega) hl (by omega) hc (fun G' o' rows' spare' p' q' n' sr' y1 y2 y3 y4 y5 y6 y7 y8 y9 y10 => k G' o' rows' spare' p' q' n' sr' y1 y2 y3 y4 y5 y6 y7 y8 y9 (by omega))
    refine ⟨fun c1 => skip (if_pos c1), fun c1 => ⟨hev, fun c2 => skip ((if_neg c1).trans (if_pos c2)), fun c2 => ⟨hW.1, ?_⟩⟩⟩
    have e : sts fs la st sz gr mk (m + 1) i = (fs + nI i * st) :: sts fs la st sz gr mk m (i + 1) := (if_neg c1).trans (if_neg c2)
    rw [e] at k
    refine c_addToWindow hW hS hw hd hev hoe hk hv hm hu (by omega) hl (by omega) (fun G1 o1 rows1 sp1 p1 q1 n1 sr1 z1 z2 z3 z4 z5 z6 z7 z8 z9 z10 => ?_)
    have eev : Sm G G1 ev := z5.sm (hw ev (by omega)) hoe
    have ejb : Sm G G1 jb := z5.sm (hw jb (by omega)) hoj
    refine wp_Ws_admitBySteps_127 ws ev jb si la fs (nI i) ?_
    rw [nI_1]
    refine ih (i + 1) G1 o1 p1 q1 n1 rows1 sp1 sr1 1 (by omega) z1 z2 z5.wf (by rw [eev.1]; exact hev) (by rw [z5.ow (hw ev (by omega))]; exact hoe) (by rw [ejb.1]; exact hjb) (by rw [z5.ow (hw jb (by omega))]; exact hoj) (by rw [eev.2.2.1]; exact hk) (by rw [eev.2.2.1]; exact hv) (by rw [eev.2.2.1]; exact hm) (by rw [ejb.2.2.1]; exact hsz) (by rw [ejb.2.2.1]; exact hst) (by rw [ejb.2.2.1]; exact hgr) (by rw [z3]; exact hu.add) (by omega) (by omega) (by omega) (Or.inr rfl) (fun G' o' rows' spare' p' q' n' sr' y1 y2 y3 y4 y5 y6 y7 y8 y9 y10 => ?_)
    have kk' := k G' o' rows' spare' p' q' n' sr' y1 y2 (by rw [y3, z3]; rfl) (by rw [y4, z4, z3, List.append_assoc]; rfl) (z5.tr y5) (z6.tr y6) (by omega) (fun m hm' => by rw [y8 m (by omega), z8 m hm']) (by omega) (by omega)
    have ef : fl1 1 (sts fs la st sz gr mk m (i + 1)) = fl1 c ((fs + nI i * st) :: sts fs la st sz gr mk m (i + 1)) := by
      show _ = (1 : Int32)
      cases sts fs la st sz gr mk m (i + 1) <;> rfl
    rw [ef]
    exact kk'
def laS (st t : Int32) : Int32 := if 1 ≤ st then t - (t - t / st * st) else t
theorem c_admitBySteps {E : EV} {G : GH} {Post : Res → GH → Prop} {o : Nat → Nat} {ws lr lp p ev jb si ls n q : Nat} {rows spare sr : List Nat} {cm pr kk t v mk sz gr st : Int32}
    (hW : WsR E G o ws lr lp rows spare p) (hS : SiR E G o si ls sr cm pr n q) (hw : Wf G) (hd : ws ≠ si ∧ ws ≠ ls ∧ lr ≠ si ∧ lr ≠ ls ∧ lp ≠ si ∧ lp ≠ ls) (hev : gT G ev = 2) (hoe : o ev ∉ [ws, lr, lp, si, ls]) (hjb : gT G jb = 4) (hoj : o jb ∉ [ws, lr, lp, si, ls]) (ht : gI G 65 ev = t) (hk : gI G 66 ev = kk) (hv : gI G 67 ev = v) (hm : gI G 68 ev = mk) (hsz : gI G 193 jb = sz) (hst : gI G 194 jb = st) (hgr : gI G 195 jb = gr) (hu : UQ (rows.map (rW G))) (hn : n ≤ 2970) (hl : sr.length ≤ 2990) (hr : rows.length ≤ 2980)
    (k : ∀ G' o' rows' spare' p' q' n' sr' ss, ss = sts (bk st sz t 7 (laS st t)) (laS st t) st sz gr mk 8 0 → WsR E G' o' ws lr lp rows' spare' p' → SiR E G' o' si ls sr' cm pr n' q' → rows'.map (rW G') = addsL kk sz v mk ss (rows.map (rW G)) → recs G' sr' n' = recs G sr n ++ addsR kk sz v mk ss (rows.map (rW G)) → Stq [ws, lr, lp, si, ls] G o G' o' → Cs G (p + q) G' (p' + q') → n ≤ n' → (∀ m, m ≤ n → recs G' sr' m = recs G sr m) → sr'.length ≤ max sr.length n' → rows'.length + spare'.length ≤ max (rows.length + spare.length) (rows.length + 8) → Post (.inl (some (.int (fl1 0 ss)))) G') : Cl E 10 m_Ws_admitBySteps [.ref ws, .ref ev, .ref jb, .ref si] G Post := by
  have loop1 : ∀ (m i : Nat) (x : Int32), m + i = 8 → J E 10 m_Ws_admitBySteps 68 [some (.ref ws), some (.ref ev), some (.ref jb), some (.ref si), some (.int (laS st t)), some (.int (bk st sz t m x)), some (.int 0), some (.int 0), none] [] G Post → J E 10 m_Ws_admitBySteps 17 [some (.ref ws), some (.ref ev), some (.ref jb), some (.ref si), some (.int (laS st t)), some (.int x), some (.int (nI i)), none, none] [] G Post := by
    intro m
    induction m with
    | zero =>
      intro i x hmi h
      exact wp_Ws_admitBySteps_17 ws ev jb si _ x (nI i) ⟨fun _ => h, fun z => absurd (show (8 : Int32) ≤ nI i from nI_le (a := 8) (by omega) (by omega)) z⟩
    | succ m ih =>
      intro i x hmi h
      refine wp_Ws_admitBySteps_17 ws ev jb si _ x (nI i) ⟨fun z => absurd z (show ¬ (8 : Int32) ≤ nI i from nI_ge (b := 8) (by omega) (by omega)), fun _ => ⟨hjb, ?_⟩⟩
      rw [hst, hsz, nI_1]
      have h' : ∀ y, bkS st sz t x = y → J E 10 m_Ws_admitBySteps 17 [some (.ref ws), some (.ref ev), some (.ref jb), some (.ref si), some (.int (laS st t)), some (.int y), some (.int (nI (i + 1))), none, none] [] G Post := fun y hy => ih (i + 1) y (by omega) (by rw [← hy]; exact h)
      refine ⟨fun c => h' x (if_pos c), fun c => ⟨hev, ?_⟩⟩
      rw [ht]
      exact ⟨fun c2 => h' x ((if_neg c).trans (if_pos c2)), fun c2 => h' _ ((if_neg c).trans (if_neg c2))⟩
  have start : J E 10 m_Ws_admitBySteps 17 [some (.ref ws), some (.ref ev), some (.ref jb), some (.ref si), some (.int (laS st t)), some (.int (laS st t)), some (.int 1), none, none] [] G Post := by
    refine loop1 7 1 _ rfl ?_
    exact c_steps_loop (kk := kk) (v := v) (mk := mk) (sz := sz) (gr := gr) (st := st) (cm := cm) (pr := pr) hd 8 0 G o p q n rows spare sr 0 rfl hW hS hw hev hoe hjb hoj hk hv hm hsz hst hgr hu (by omega) hl (by omega) (Or.inl rfl) (fun G' o' rows' spare' p' q' n' sr' y1 y2 y3 y4 y5 y6 y7 y8 y9 y10 => k G' o' rows' spare' p' q' n' sr' _ rfl y1 y2 y3 y4 y5 y6 y7 y8 y9 y10)
  refine j_enter (L := [some (.ref ws), some (.ref ev), some (.ref jb), some (.ref si), none, none, none, none, none]) me_Ws_admitBySteps (cat_c rfl (cat_c rfl (cat_c rfl (cat_c rfl cat_n)))) (Nat.le_of_ble_eq_true rfl) rfl (wp_Ws_admitBySteps_0 ws ev jb si ⟨hev, hjb, ?_⟩)
  rw [hst, ht]
  refine ⟨fun c => ⟨fun z => ?_, ?_⟩, fun c => ?_⟩
  · rw [z] at c; exact absurd c (by decide +kernel)
  · have e : laS st t = t - (t - t / st * st) := if_pos c
    rw [e] at start
    exact start
  · have e : laS st t = t := if_neg c
    rw [e] at start
    exact start
